/-! The reference: looks and trials. -/
theorem wk_ok (v : Int64) : ∀ n, (∀ j, j < n → (wkS v j).1 < 64) → okW (wkS v n).1 (wkS v n).2 ∧ n ≤ ordW (wkS v n).1 (wkS v n).2
  | 0, _ => ⟨okW_0, Nat.zero_le _⟩
  | n + 1, h => by
    obtain ⟨h1, h2⟩ := wk_ok v n (fun j hj => h j (by omega))
    have hp := h n (by omega)
    refine ⟨okW_st h1 hp, ?_⟩
    have h3 := ord_st (v := v) h1 hp
    show n + 1 ≤ ordW (stW v (wkS v n).1 (wkS v n).2).1 (stW v (wkS v n).1 (wkS v n).2).2
    omega
theorem ln_spec (v : Int64) : (∀ j, j < lnS v → (wkS v j).1 < 64) ∧ 64 ≤ (wkS v (lnS v)).1 ∧ 1 ≤ lnS v ∧ lnS v ≤ 85 := by
  have hx : ∃ i, 64 ≤ (wkS v i).1 := by
    refine Classical.byContradiction fun hn => ?_
    have hall : ∀ j, (wkS v j).1 < 64 := fun j => Nat.lt_of_not_le fun q => hn ⟨j, q⟩
    obtain ⟨h1, h2⟩ := wk_ok v 100 (fun j _ => hall j)
    have h3 := ord_lt h1 (hall 100)
    omega
  obtain ⟨i, h1, h2⟩ := pk_least _ hx
  have h2' : ∀ j, j < i → (wkS v j).1 < 64 := fun j hj => Nat.lt_of_not_le (h2 j hj)
  have hi0 : i ≠ 0 := fun q => by rw [q, show (wkS v 0).1 = 0 from rfl] at h1; omega
  have hi : i ≤ 85 := by
    obtain ⟨k, rfl⟩ : ∃ k, i = k + 1 := ⟨i - 1, by omega⟩
    obtain ⟨h3, h4⟩ := wk_ok v k (fun j hj => h2' j (by omega))
    have h5 := ord_lt h3 (h2' k (by omega))
    omega
  rw [lnS_of hi h2' h1]
  exact ⟨h2', h1, by omega, hi⟩
theorem llG_in {v : Int64} : ∀ f i, i + f < lnS v → llG v f i = sgW v (wkS v (i + f)).1 (wkS v (i + f)).2 := by
  intro f
  induction f with
  | zero =>
    intro i h
    show finS v i = _
    unfold finS
    rw [if_neg (Nat.not_le.mpr ((ln_spec v).1 i (by omega)))]
    rfl
  | succ f ih =>
    intro i h
    show (if 64 ≤ (wkS v i).1 then finS v i else llG v f (i + 1)) = _
    rw [if_neg (Nat.not_le.mpr ((ln_spec v).1 i (by omega))), ih (i + 1) (by omega), show i + 1 + f = i + (f + 1) by omega]
theorem llG_out {v : Int64} : ∀ f i, i ≤ lnS v → lnS v ≤ i + f → llG v f i = -9 := by
  intro f
  induction f with
  | zero =>
    intro i h1 h2
    show finS v i = _
    unfold finS
    rw [show i = lnS v by omega, if_pos (ln_spec v).2.1]
  | succ f ih =>
    intro i h1 h2
    show (if 64 ≤ (wkS v i).1 then finS v i else llG v f (i + 1)) = _
    by_cases q : i = lnS v
    · rw [q, if_pos (ln_spec v).2.1]; unfold finS; rw [if_pos (ln_spec v).2.1]
    · rw [if_neg (Nat.not_le.mpr ((ln_spec v).1 i (by omega)))]; exact ih (i + 1) (by omega) (by omega)
theorem ll_in {v : Int64} {j : Nat} (h : j < lnS v) : llS v (nI j) = sgW v (wkS v j).1 (wkS v j).2 := by
  have h2 := (ln_spec v).2.2.2
  unfold llS
  rw [if_neg (nI_pos (by omega)), if_pos (show nI j < 85 from (nI_ltI (b := 85) (by omega) (by decide)).mpr (by omega)), nI_clamp (by omega), llG_in j 0 (by omega), Nat.zero_add]
theorem inN_of {x : Int32} {n : Nat} (hn : n < 2 ^ 31) (h : inL x.toInt64 0 (lN n) = true) : ∃ j : Nat, j ≤ n ∧ x = nI j := by
  have h2 := of_decide_eq_true h
  have h3 : ¬ x < 0 := fun q => h2.1 ((fa_wide_lt x 0).mpr q)
  obtain ⟨j, hj, e⟩ := nI_of h3
  refine ⟨j, ?_, e⟩
  refine Nat.le_of_not_lt fun q => h2.2 ?_
  rw [e, nI_l hj]; exact (lN_lt hn hj).mpr q
theorem ll_out {v : Int64} {x : Int32} (h : inL x.toInt64 0 (lN (lnS v - 1)) = false) : llS v x = -9 := by
  obtain ⟨-, -, h1, h85⟩ := ln_spec v
  have h2 := of_decide_eq_false h
  unfold llS
  by_cases h0 : x < 0
  · rw [if_pos h0]
  · rw [if_neg h0]
    by_cases h5 : x < 85
    · rw [if_pos h5]
      obtain ⟨j, hj, e⟩ := nI_of h0
      rw [e, nI_clamp hj]
      refine llG_out j 0 (Nat.zero_le _) ?_
      refine Nat.le_of_not_lt fun q => h2 ⟨fun z => h0 ((fa_wide_lt x 0).mp z), ?_⟩
      rw [e, nI_l hj]
      exact fun z => by have := (lN_lt (by omega) hj).mp z; omega
    · rw [if_neg h5]
theorem bit_i {v : Int64} {k : Nat} (h : k < 64) : (jushr v k &&& 1).toInt32 = b2i (bt v k) := by rw [bit1 v h]; cases bt v k <;> rfl
theorem is012 {z : Int32} : inL z.toInt64 0 2 = (decide (z = 0) || decide (z = 1) || decide (z = 2)) := by
  rw [show inL z.toInt64 0 2 = _ from inU (a := 0) (b := 2), ← Bool.decide_or, ← Bool.decide_or]
  apply decide_eq_decide.mpr
  rw [fa_lt z 0, fa_lt 2 z, fa_eq z 0, fa_eq z 1, fa_eq z 2, show (0 : Int32).toInt = 0 from rfl, show (1 : Int32).toInt = 1 from rfl, show (2 : Int32).toInt = 2 from rfl]
  omega
theorem ne_no {f : Nat → Int64} {x y z : Int32} (h1 : isPic x = true) (h2 : isPic y = true) (h : is01 z = false) : qNe f x y z = -2 := by
  unfold is01 at h
  simp only [Bool.or_eq_false_iff, decide_eq_false_iff_not] at h
  unfold qNe
  rw [if_pos h1, if_pos h2, if_neg h.1, if_neg h.2]
theorem ne_yes {f : Nat → Int64} {x y z : Int32} (h1 : isPic x = true) (h2 : isPic y = true) (h : is01 z = true) : qNe f x y z = if z = 0 then nI (nwS (picS f x) (picS f y) 7).2 else nI (nwS (picS f x) (picS f y) 7).1 := by
  unfold is01 at h
  simp only [Bool.or_eq_true, decide_eq_true_eq] at h
  unfold qNe
  rw [if_pos h1, if_pos h2, nwS_2]
  by_cases q : z = 0
  · rw [if_pos q, if_pos q]
  · rw [if_neg q, if_neg q, if_pos (h.resolve_left q)]
def nrI (a b : Int64) (i few best : Nat) : Prop := (i = 0 ∧ few = 65 ∧ best = 0) ∨ (0 < i ∧ (best, few) = nwS a b (i - 1))
theorem nr_le {a b : Int64} {i few best : Nat} (h : nrI a b i few best) : few ≤ 65 ∧ best ≤ i := by
  rcases h with ⟨-, h1, h2⟩ | ⟨h0, h1⟩
  · omega
  · have h3 := nwS_le a b (i - 1)
    rw [← h1] at h3
    exact ⟨by have := h3.2; simp at this; omega, by have := h3.1; simp at this; omega⟩
theorem nr_step {a b : Int64} {i few best : Nat} (h : nrI a b i few best) : nrI a b (i + 1) (if few ≤ unS a b i then few else unS a b i) (if few ≤ unS a b i then best else i) := by
  right
  refine ⟨by omega, ?_⟩
  show _ = nwS a b i
  rcases h with ⟨rfl, rfl, rfl⟩ | ⟨h0, h1⟩
  · have := pcn_le (bwS a 0 ^^^ b)
    rw [if_neg (show ¬ 65 ≤ unS a b 0 by unfold unS; omega), if_neg (show ¬ 65 ≤ unS a b 0 by unfold unS; omega)]
    rfl
  · obtain ⟨k, rfl⟩ : ∃ k, i = k + 1 := ⟨i - 1, by omega⟩
    rw [show k + 1 - 1 = k by omega] at h1
    rw [nwS, ← h1]
    by_cases q : few ≤ unS a b (k + 1)
    · rw [if_pos q, if_pos q, if_neg (Nat.not_lt.mpr q)]
    · rw [if_neg q, if_neg q, if_pos (Nat.lt_of_not_le q)]
theorem mg_set {nw : Nat → Int64} {a : Nat} {v : Int64} (h : a < 3) : vp_updL nw (3 + a) v = mgT nw (setS (trF nw) (nI a) v) := by rw [setS_nI h]; exact mgT_upd
theorem doF_k {f : Nat → Int64} {k a b : Int32} (h : ¬ k = 1 ∧ ¬ k = 2 ∧ ¬ k = 3 ∧ ¬ k = 4 ∧ ¬ k = 5 ∧ ¬ k = 6 ∧ ¬ k = 7) : doF f k a b = f := by
  unfold doF
  rw [if_neg h.1, if_neg h.2.1, if_neg h.2.2.1, if_neg h.2.2.2.1, if_neg h.2.2.2.2.1, if_neg h.2.2.2.2.2.1, if_neg h.2.2.2.2.2.2]
theorem nr_end {a b : Int64} {i few best : Nat} (h : nrI a b i few best) (hi : i = 8) : (best, few) = nwS a b 7 := by
  rcases h with ⟨h0, -⟩ | ⟨-, h1⟩
  · omega
  · rw [hi] at h1; exact h1
set_option maxHeartbeats 4000000 in
set_option maxRecDepth 100000 in
theorem c_X7_look (l : Launch) (g : GG) (sz : Nat) (h0 : Nat) (x0 : Int32) (z0 : Int32) (d1 : Nat) (ln : Nat) (rd : Int64) (xd : Int32) (xq : Int32) (d2 : Nat) (an : Nat) (nx : Nat) (d3 : Nat) (d4 : Nat) (d5 : Nat) (d6 : Nat) (xm : Int32) (zn : Nat) (d7 : Nat) (d8 : Nat) (sd : Int64) (d9 : Nat) (d0 : Nat) (le : Nat → Int32) (da : Nat → Int32) (la : Nat → Int32) (nw : Nat → Int64)  : Met l yX7_look (Cond.code yX7_look cX7_look 3 (some .int) :: wsL_law) ({ frames := 6, cells := 0, slots := 0, locals := 140 }) (PM g [.ref h0, .int x0, .int z0] [(h0, .inr (6, [.ref d1, .int (nI ln), .long rd, .int xd, .int xq, .ref d2, .int (nI an), .int (nI nx), .ref d3, .ref d4, .ref d5, .ref d6, .int xm, .int (nI zn), .ref d7, .ref d8, .long sd, .ref d9, .ref d0])), (d4, .inl (gI g, 85, .inl le)), (d5, .inl (gI g, 64, .inl da)), (d6, .inl (gI g, 64, .inl la)), (d2, .inl (gJ g, 6, .inr (.inl nw)))] sz) (QAi g (fun (r : Int32) (u : Int32 × Int32 × Int32 × (Nat → Int32) × (Nat → Int32) × (Nat → Int32)) => r = qLk nw x0 z0) (fun (u : Int32 × Int32 × Int32 × (Nat → Int32) × (Nat → Int32) × (Nat → Int32)) => [(h0, .inr (6, [.ref d1, .int (nI ln), .long rd, .int u.1, .int u.2.1, .ref d2, .int (nI an), .int (nI nx), .ref d3, .ref d4, .ref d5, .ref d6, .int u.2.2.1, .int (nI zn), .ref d7, .ref d8, .long sd, .ref d9, .ref d0])), (d4, .inl (gI g, 85, .inl u.2.2.2.1)), (d5, .inl (gI g, 64, .inl u.2.2.2.2.1)), (d6, .inl (gI g, 64, .inl u.2.2.2.2.2)), (d2, .inl (gJ g, 6, .inr (.inl nw)))]) (va_A [(h0, .inr (6, [.ref d1, .int (nI ln), .long rd, .int xd, .int xq, .ref d2, .int (nI an), .int (nI nx), .ref d3, .ref d4, .ref d5, .ref d6, .int xm, .int (nI zn), .ref d7, .ref d8, .long sd, .ref d9, .ref d0])), (d4, .inl (gI g, 85, .inl le)), (d5, .inl (gI g, 64, .inl da)), (d6, .inl (gI g, 64, .inl la)), (d2, .inl (gJ g, 6, .inr (.inl nw)))] sz)) 0 0 (va_A [(h0, .inr (6, [.ref d1, .int (nI ln), .long rd, .int xd, .int xq, .ref d2, .int (nI an), .int (nI nx), .ref d3, .ref d4, .ref d5, .ref d6, .int xm, .int (nI zn), .ref d7, .ref d8, .long sd, .ref d9, .ref d0])), (d4, .inl (gI g, 85, .inl le)), (d5, .inl (gI g, 64, .inl da)), (d6, .inl (gI g, 64, .inl la)), (d2, .inl (gJ g, 6, .inr (.inl nw)))] sz) := by
  refine Met.M (Qc := fun A => QAi g (fun (r : Int32) (u : Int32 × Int32 × Int32 × (Nat → Int32) × (Nat → Int32) × (Nat → Int32)) => r = qLk nw x0 z0) (fun (u : Int32 × Int32 × Int32 × (Nat → Int32) × (Nat → Int32) × (Nat → Int32)) => [(h0, .inr (6, [.ref d1, .int (nI ln), .long rd, .int u.1, .int u.2.1, .ref d2, .int (nI an), .int (nI nx), .ref d3, .ref d4, .ref d5, .ref d6, .int u.2.2.1, .int (nI zn), .ref d7, .ref d8, .long sd, .ref d9, .ref d0])), (d4, .inl (gI g, 85, .inl u.2.2.2.1)), (d5, .inl (gI g, 64, .inl u.2.2.2.2.1)), (d6, .inl (gI g, 64, .inl u.2.2.2.2.2)), (d2, .inl (gJ g, 6, .inr (.inl nw)))]) A) (by decide) (Nat.le_of_ble_eq_true rfl) rfl ?_
  intro p e s m below meth c hx hb hr hml hw hown hlocks hin A hA hkn hP hD ls hl
  have hl : lv_has ls 3 [(0, .ref h0), (1, .int x0), (2, .int z0)] := hl
  have hS : va_S A s.heap s.heap [] := va_S.rf
  obtain ⟨H, hHe⟩ : ∃ H, H = s.heap := ⟨_, rfl⟩
  obtain ⟨locs, hLe⟩ : ∃ locs : List Loc, locs = [] := ⟨_, rfl⟩
  have hP : va_P g.1 vwCl [(h0, .inr (6, [.ref d1, .int (nI ln), .long rd, .int xd, .int xq, .ref d2, .int (nI an), .int (nI nx), .ref d3, .ref d4, .ref d5, .ref d6, .int xm, .int (nI zn), .ref d7, .ref d8, .long sd, .ref d9, .ref d0])), (d4, .inl (gI g, 85, .inl le)), (d5, .inl (gI g, 64, .inl da)), (d6, .inl (gI g, 64, .inl la)), (d2, .inl (gJ g, 6, .inr (.inl nw)))] H := by rw [hHe]; exact hP
  have hS : va_S A s.heap H locs := by rw [hHe, hLe]; exact hS
  have hgo : W p l e ({ frames := 6, cells := 0, slots := 0, locals := 140 } : Room) s m ([.ref h0, .int x0, .int z0] : List Value).toArray below meth c H locs 0 0 (MQ below (QAi g (fun (r : Int32) (u : Int32 × Int32 × Int32 × (Nat → Int32) × (Nat → Int32) × (Nat → Int32)) => r = qLk nw x0 z0) (fun (u : Int32 × Int32 × Int32 × (Nat → Int32) × (Nat → Int32) × (Nat → Int32)) => [(h0, .inr (6, [.ref d1, .int (nI ln), .long rd, .int u.1, .int u.2.1, .ref d2, .int (nI an), .int (nI nx), .ref d3, .ref d4, .ref d5, .ref d6, .int u.2.2.1, .int (nI zn), .ref d7, .ref d8, .long sd, .ref d9, .ref d0])), (d4, .inl (gI g, 85, .inl u.2.2.2.1)), (d5, .inl (gI g, 64, .inl u.2.2.2.2.1)), (d6, .inl (gI g, 64, .inl u.2.2.2.2.2)), (d2, .inl (gJ g, 6, .inr (.inl nw)))]) A) ([.ref h0, .int x0, .int z0] : List Value).toArray s 0 0 A) (F0 m 0 ls []) := ?_
  · rw [hHe, hLe] at hgo; exact hgo
  clear hHe hLe
  refine lv_iload_n hx hb dX7_look_0 rfl (lv_at hl 1 rfl) ?_
  refine cS_i (As := [.int x0]) (rest := []) hx hb hml hown hw hkn hS hl (c_X7_isPicture l g _ x0 ) sf_X7_isPicture mw_245 ⟨(Nat.le_of_ble_eq_true rfl), (Nat.le_of_ble_eq_true rfl)⟩ rfl rfl rfl rfl (Nat.le_of_ble_eq_true rfl) dX7_look_1 ⟨(Nat.le_of_ble_eq_true rfl), (Nat.le_of_ble_eq_true rfl)⟩ ?_
  refine lv_ifneB (b := isPic x0) (tgt := 9) hx hb dX7_look_4 (by decide) (fun c_1 => ?_) (fun c_1 => ?_)
  · skip
    refine lv_iload_n hx hb dX7_look_9 rfl (lv_at hl 2 rfl) ?_
    by_cases c_2 : z0 = 0
    · skip
      refine lv_tableIn (off := 34) (tgt := 44) hx hb dX7_look_10 (by rw [c_2]; decide) (by rw [c_2]; decide) (by rw [c_2]; rfl) (by decide) ?_
      refine lv_aload_n hx hb dX7_look_44 rfl (lv_at hl 0 rfl) ?_
      refine va_get (D := g.1) (ci := 6) (v := .ref d2) (C := RX7) (T := TX7) (N := 19) hx hb hw inlX7 hown hkn.1 hP 0 rfl rfl 5 (by decide) (hw _ mw_74) (fun _ h9 => h9) rfl dX7_look_45 ?_
      refine lv_iload_n hx hb dX7_look_48 rfl (lv_at hl 1 rfl) ?_
      refine va_lald hx hb hkn.1 hP 4 1 rfl rfl (isPic_vp6 c_1) dX7_look_49 ?_
      refine cS_i (As := [.long (nw (x0).toNatClampNeg)]) (rest := []) hx hb hml hown hw hkn hS hl (c_X7_ones l g _ (nw (x0).toNatClampNeg) ) sf_X7_ones mw_254 ⟨(Nat.le_of_ble_eq_true rfl), (Nat.le_of_ble_eq_true rfl)⟩ rfl rfl rfl rfl (Nat.le_of_ble_eq_true rfl) dX7_look_50 ⟨(Nat.le_of_ble_eq_true rfl), (Nat.le_of_ble_eq_true rfl)⟩ ?_
      exact eM_i (g := g) hx hb hr hlocks (xd, xq, xm, le, da, la) (by unfold qLk; rw [if_pos c_1, if_pos c_2, pic_i c_1]) (hP.sub [0, 1, 2, 3, 4] rfl) (hD.sub [0, 1, 2, 3, 4] (by decide) rfl) hS dX7_look_53
    · skip
      by_cases c_3 : z0 = 1
      · skip
        refine lv_tableIn (off := 44) (tgt := 54) hx hb dX7_look_10 (by rw [c_3]; decide) (by rw [c_3]; decide) (by rw [c_3]; rfl) (by decide) ?_
        refine lv_aload_n hx hb dX7_look_54 rfl (lv_at hl 0 rfl) ?_
        refine lv_aload_n hx hb dX7_look_55 rfl (lv_at hl 0 rfl) ?_
        refine va_get (D := g.1) (ci := 6) (v := .ref d2) (C := RX7) (T := TX7) (N := 19) hx hb hw inlX7 hown hkn.1 hP 0 rfl rfl 5 (by decide) (hw _ mw_74) (fun _ h9 => h9) rfl dX7_look_56 ?_
        refine lv_iload_n hx hb dX7_look_59 rfl (lv_at hl 1 rfl) ?_
        refine va_lald hx hb hkn.1 hP 4 1 rfl rfl (isPic_vp6 c_1) dX7_look_60 ?_
        refine cVM_v (As := [.long (nw (x0).toNatClampNeg)]) (rest := []) (q0 := 0) (wc := [(h0, .inr (6, [.ref d1, .int (nI ln), .long rd, .int xd, .int xq, .ref d2, .int (nI an), .int (nI nx), .ref d3, .ref d4, .ref d5, .ref d6, .int xm, .int (nI zn), .ref d7, .ref d8, .long sd, .ref d9, .ref d0])), (d4, .inl (gI g, 85, .inl le)), (d5, .inl (gI g, 64, .inl da)), (d6, .inl (gI g, 64, .inl la))]) (wr := [(d2, .inl (gJ g, 6, .inr (.inl nw)))]) hx hb hml hown hw hkn hS hl hA hP hD [0, 1, 2, 3] [4] rfl rfl (by decide) (by decide) (by decide) (c_X7_findWord l g _ h0 (nw (x0).toNatClampNeg) d1 ln rd xd xq d2 an nx d3 d4 d5 d6 xm zn d7 d8 sd d9 d0 le da la ) vf_X7_findWord mw_457 rfl rfl ⟨(Nat.le_of_ble_eq_true rfl), (Nat.le_of_ble_eq_true rfl)⟩ rfl rfl rfl rfl (Nat.le_of_ble_eq_true rfl) dX7_look_61 ⟨(Nat.le_of_ble_eq_true rfl), (Nat.le_of_ble_eq_true rfl)⟩ (fun u H locs hq hP hD hS => ?_)
        obtain ⟨y1_4, y2_4, le2_4, da2_4, la2_4⟩ := u
        dsimp only at hq hP hD
        have hq_4 := hq
        have hP : va_P g.1 vwCl [(h0, .inr (6, [.ref d1, .int (nI ln), .long rd, .int y1_4, .int y2_4, .ref d2, .int (nI an), .int (nI nx), .ref d3, .ref d4, .ref d5, .ref d6, .int (nI (lnS (nw (x0).toNatClampNeg))), .int (nI zn), .ref d7, .ref d8, .long sd, .ref d9, .ref d0])), (d4, .inl (gI g, 85, .inl le2_4)), (d5, .inl (gI g, 64, .inl da2_4)), (d6, .inl (gI g, 64, .inl la2_4)), (d2, .inl (gJ g, 6, .inr (.inl nw)))] H := hP.sub [1, 2, 3, 4, 0] rfl
        have hD : va_D A [(h0, .inr (6, [.ref d1, .int (nI ln), .long rd, .int y1_4, .int y2_4, .ref d2, .int (nI an), .int (nI nx), .ref d3, .ref d4, .ref d5, .ref d6, .int (nI (lnS (nw (x0).toNatClampNeg))), .int (nI zn), .ref d7, .ref d8, .long sd, .ref d9, .ref d0])), (d4, .inl (gI g, 85, .inl le2_4)), (d5, .inl (gI g, 64, .inl da2_4)), (d6, .inl (gI g, 64, .inl la2_4)), (d2, .inl (gJ g, 6, .inr (.inl nw)))] := hD.sub [1, 2, 3, 4, 0] (by decide) rfl
        refine lv_aload_n hx hb dX7_look_64 rfl (lv_at hl 0 rfl) ?_
        refine va_get (D := g.1) (ci := 6) (v := .int (nI (lnS (nw (x0).toNatClampNeg)))) (C := RX7) (T := TX7) (N := 19) hx hb hw inlX7 hown hkn.1 hP 0 rfl rfl 12 (by decide) (hw _ mw_456) (fun _ h9 => h9) rfl dX7_look_65 ?_
        exact eM_i (g := g) hx hb hr hlocks (y1_4, y2_4, (nI (lnS (nw (x0).toNatClampNeg))), le2_4, da2_4, la2_4) (by unfold qLk; rw [if_pos c_1, if_neg c_2, if_pos c_3, pic_i c_1]) (hP.sub [0, 1, 2, 3, 4] rfl) (hD.sub [0, 1, 2, 3, 4] (by decide) rfl) hS dX7_look_68
      · skip
        by_cases c_5 : z0 = 2
        · skip
          refine lv_tableIn (off := 59) (tgt := 69) hx hb dX7_look_10 (by rw [c_5]; decide) (by rw [c_5]; decide) (by rw [c_5]; rfl) (by decide) ?_
          refine lv_aload_n hx hb dX7_look_69 rfl (lv_at hl 0 rfl) ?_
          refine va_get (D := g.1) (ci := 6) (v := .ref d2) (C := RX7) (T := TX7) (N := 19) hx hb hw inlX7 hown hkn.1 hP 0 rfl rfl 5 (by decide) (hw _ mw_74) (fun _ h9 => h9) rfl dX7_look_70 ?_
          refine lv_iload_n hx hb dX7_look_73 rfl (lv_at hl 1 rfl) ?_
          refine va_lald hx hb hkn.1 hP 4 1 rfl rfl (isPic_vp6 c_1) dX7_look_74 ?_
          refine cS_i (As := [.long (nw (x0).toNatClampNeg)]) (rest := []) hx hb hml hown hw hkn hS hl (c_X7_partsOf l g _ (nw (x0).toNatClampNeg) ) sf_X7_partsOf mw_472 ⟨(Nat.le_of_ble_eq_true rfl), (Nat.le_of_ble_eq_true rfl)⟩ rfl rfl rfl rfl (Nat.le_of_ble_eq_true rfl) dX7_look_75 ⟨(Nat.le_of_ble_eq_true rfl), (Nat.le_of_ble_eq_true rfl)⟩ ?_
          exact eM_i (g := g) hx hb hr hlocks (xd, xq, xm, le, da, la) (by unfold qLk; rw [if_pos c_1, if_neg c_2, if_neg c_3, if_pos c_5, pic_i c_1]) (hP.sub [0, 1, 2, 3, 4] rfl) (hD.sub [0, 1, 2, 3, 4] (by decide) rfl) hS dX7_look_78
        · skip
          by_cases c_6 : z0 = 3
          · skip
            refine lv_tableIn (off := 69) (tgt := 79) hx hb dX7_look_10 (by rw [c_6]; decide) (by rw [c_6]; decide) (by rw [c_6]; rfl) (by decide) ?_
            refine lv_aload_n hx hb dX7_look_79 rfl (lv_at hl 0 rfl) ?_
            refine va_get (D := g.1) (ci := 6) (v := .ref d2) (C := RX7) (T := TX7) (N := 19) hx hb hw inlX7 hown hkn.1 hP 0 rfl rfl 5 (by decide) (hw _ mw_74) (fun _ h9 => h9) rfl dX7_look_80 ?_
            refine lv_iload_n hx hb dX7_look_83 rfl (lv_at hl 1 rfl) ?_
            refine va_lald hx hb hkn.1 hP 4 1 rfl rfl (isPic_vp6 c_1) dX7_look_84 ?_
            refine cS_i (As := [.long (nw (x0).toNatClampNeg)]) (rest := []) hx hb hml hown hw hkn hS hl (c_X7_rimOf l g _ (nw (x0).toNatClampNeg) ) sf_X7_rimOf mw_477 ⟨(Nat.le_of_ble_eq_true rfl), (Nat.le_of_ble_eq_true rfl)⟩ rfl rfl rfl rfl (Nat.le_of_ble_eq_true rfl) dX7_look_85 ⟨(Nat.le_of_ble_eq_true rfl), (Nat.le_of_ble_eq_true rfl)⟩ ?_
            exact eM_i (g := g) hx hb hr hlocks (xd, xq, xm, le, da, la) (by unfold qLk; rw [if_pos c_1, if_neg c_2, if_neg c_3, if_neg c_5, if_pos c_6, pic_i c_1, rm_eq]) (hP.sub [0, 1, 2, 3, 4] rfl) (hD.sub [0, 1, 2, 3, 4] (by decide) rfl) hS dX7_look_88
          · skip
            by_cases c_7 : z0 = 4
            · skip
              refine lv_tableIn (off := 79) (tgt := 89) hx hb dX7_look_10 (by rw [c_7]; decide) (by rw [c_7]; decide) (by rw [c_7]; rfl) (by decide) ?_
              refine lv_aload_n hx hb dX7_look_89 rfl (lv_at hl 0 rfl) ?_
              refine va_get (D := g.1) (ci := 6) (v := .ref d2) (C := RX7) (T := TX7) (N := 19) hx hb hw inlX7 hown hkn.1 hP 0 rfl rfl 5 (by decide) (hw _ mw_74) (fun _ h9 => h9) rfl dX7_look_90 ?_
              refine lv_iload_n hx hb dX7_look_93 rfl (lv_at hl 1 rfl) ?_
              refine va_lald hx hb hkn.1 hP 4 1 rfl rfl (isPic_vp6 c_1) dX7_look_94 ?_
              refine cS_i (As := [.long (nw (x0).toNatClampNeg)]) (rest := []) hx hb hml hown hw hkn hS hl (c_X7_blocksOf l g _ (nw (x0).toNatClampNeg) ) sf_X7_blocksOf mw_480 ⟨(Nat.le_of_ble_eq_true rfl), (Nat.le_of_ble_eq_true rfl)⟩ rfl rfl rfl rfl (Nat.le_of_ble_eq_true rfl) dX7_look_95 ⟨(Nat.le_of_ble_eq_true rfl), (Nat.le_of_ble_eq_true rfl)⟩ ?_
              exact eM_i (g := g) hx hb hr hlocks (xd, xq, xm, le, da, la) (by unfold qLk; rw [if_pos c_1, if_neg c_2, if_neg c_3, if_neg c_5, if_neg c_6, if_pos c_7, pic_i c_1, blM_eq]) (hP.sub [0, 1, 2, 3, 4] rfl) (hD.sub [0, 1, 2, 3, 4] (by decide) rfl) hS dX7_look_98
            · skip
              refine lv_tableOut (tgt := 99) hx hb dX7_look_10 (sw_out (lo := 0) (hi := 4) (fun k h1 h2 => by have hk : k = 0 ∨ k = 1 ∨ k = 2 ∨ k = 3 ∨ k = 4 := (by omega); rcases hk with rfl | rfl | rfl | rfl | rfl <;> assumption)) (by decide) ?_
              refine lv_bipush (v := (-2)) hx hb dX7_look_99 (by decide) ?_
              exact eM_i (g := g) hx hb hr hlocks (xd, xq, xm, le, da, la) (by unfold qLk; rw [if_pos c_1, if_neg c_2, if_neg c_3, if_neg c_5, if_neg c_6, if_neg c_7]) (hP.sub [0, 1, 2, 3, 4] rfl) (hD.sub [0, 1, 2, 3, 4] (by decide) rfl) hS dX7_look_101
  · skip
    refine lv_iconst (v := (-1)) hx hb dX7_look_7 (by decide) ?_
    exact eM_i (g := g) hx hb hr hlocks (xd, xq, xm, le, da, la) (by unfold qLk; rw [if_neg (nt_of c_1)]) (hP.sub [0, 1, 2, 3, 4] rfl) (hD.sub [0, 1, 2, 3, 4] (by decide) rfl) hS dX7_look_8
set_option maxHeartbeats 4000000 in
set_option maxRecDepth 100000 in
theorem c_X7_letter (l : Launch) (g : GG) (sz : Nat) (h0 : Nat) (x0 : Int32) (z0 : Int32) (d1 : Nat) (ln : Nat) (rd : Int64) (xd : Int32) (xq : Int32) (d2 : Nat) (an : Nat) (nx : Nat) (d3 : Nat) (d4 : Nat) (d5 : Nat) (d6 : Nat) (xm : Int32) (zn : Nat) (d7 : Nat) (d8 : Nat) (sd : Int64) (d9 : Nat) (d0 : Nat) (le : Nat → Int32) (da : Nat → Int32) (la : Nat → Int32) (nw : Nat → Int64)  : Met l yX7_letter (Cond.code yX7_letter cX7_letter 3 (some .int) :: wsL_law) ({ frames := 6, cells := 0, slots := 0, locals := 140 }) (PM g [.ref h0, .int x0, .int z0] [(h0, .inr (6, [.ref d1, .int (nI ln), .long rd, .int xd, .int xq, .ref d2, .int (nI an), .int (nI nx), .ref d3, .ref d4, .ref d5, .ref d6, .int xm, .int (nI zn), .ref d7, .ref d8, .long sd, .ref d9, .ref d0])), (d4, .inl (gI g, 85, .inl le)), (d5, .inl (gI g, 64, .inl da)), (d6, .inl (gI g, 64, .inl la)), (d2, .inl (gJ g, 6, .inr (.inl nw)))] sz) (QAi g (fun (r : Int32) (u : Int32 × Int32 × Int32 × (Nat → Int32) × (Nat → Int32) × (Nat → Int32)) => r = qLe nw x0 z0) (fun (u : Int32 × Int32 × Int32 × (Nat → Int32) × (Nat → Int32) × (Nat → Int32)) => [(h0, .inr (6, [.ref d1, .int (nI ln), .long rd, .int u.1, .int u.2.1, .ref d2, .int (nI an), .int (nI nx), .ref d3, .ref d4, .ref d5, .ref d6, .int u.2.2.1, .int (nI zn), .ref d7, .ref d8, .long sd, .ref d9, .ref d0])), (d4, .inl (gI g, 85, .inl u.2.2.2.1)), (d5, .inl (gI g, 64, .inl u.2.2.2.2.1)), (d6, .inl (gI g, 64, .inl u.2.2.2.2.2)), (d2, .inl (gJ g, 6, .inr (.inl nw)))]) (va_A [(h0, .inr (6, [.ref d1, .int (nI ln), .long rd, .int xd, .int xq, .ref d2, .int (nI an), .int (nI nx), .ref d3, .ref d4, .ref d5, .ref d6, .int xm, .int (nI zn), .ref d7, .ref d8, .long sd, .ref d9, .ref d0])), (d4, .inl (gI g, 85, .inl le)), (d5, .inl (gI g, 64, .inl da)), (d6, .inl (gI g, 64, .inl la)), (d2, .inl (gJ g, 6, .inr (.inl nw)))] sz)) 0 0 (va_A [(h0, .inr (6, [.ref d1, .int (nI ln), .long rd, .int xd, .int xq, .ref d2, .int (nI an), .int (nI nx), .ref d3, .ref d4, .ref d5, .ref d6, .int xm, .int (nI zn), .ref d7, .ref d8, .long sd, .ref d9, .ref d0])), (d4, .inl (gI g, 85, .inl le)), (d5, .inl (gI g, 64, .inl da)), (d6, .inl (gI g, 64, .inl la)), (d2, .inl (gJ g, 6, .inr (.inl nw)))] sz) := by
  refine Met.M (Qc := fun A => QAi g (fun (r : Int32) (u : Int32 × Int32 × Int32 × (Nat → Int32) × (Nat → Int32) × (Nat → Int32)) => r = qLe nw x0 z0) (fun (u : Int32 × Int32 × Int32 × (Nat → Int32) × (Nat → Int32) × (Nat → Int32)) => [(h0, .inr (6, [.ref d1, .int (nI ln), .long rd, .int u.1, .int u.2.1, .ref d2, .int (nI an), .int (nI nx), .ref d3, .ref d4, .ref d5, .ref d6, .int u.2.2.1, .int (nI zn), .ref d7, .ref d8, .long sd, .ref d9, .ref d0])), (d4, .inl (gI g, 85, .inl u.2.2.2.1)), (d5, .inl (gI g, 64, .inl u.2.2.2.2.1)), (d6, .inl (gI g, 64, .inl u.2.2.2.2.2)), (d2, .inl (gJ g, 6, .inr (.inl nw)))]) A) (by decide) (Nat.le_of_ble_eq_true rfl) rfl ?_
  intro p e s m below meth c hx hb hr hml hw hown hlocks hin A hA hkn hP hD ls hl
  have hl : lv_has ls 3 [(0, .ref h0), (1, .int x0), (2, .int z0)] := hl
  have hS : va_S A s.heap s.heap [] := va_S.rf
  obtain ⟨H, hHe⟩ : ∃ H, H = s.heap := ⟨_, rfl⟩
  obtain ⟨locs, hLe⟩ : ∃ locs : List Loc, locs = [] := ⟨_, rfl⟩
  have hP : va_P g.1 vwCl [(h0, .inr (6, [.ref d1, .int (nI ln), .long rd, .int xd, .int xq, .ref d2, .int (nI an), .int (nI nx), .ref d3, .ref d4, .ref d5, .ref d6, .int xm, .int (nI zn), .ref d7, .ref d8, .long sd, .ref d9, .ref d0])), (d4, .inl (gI g, 85, .inl le)), (d5, .inl (gI g, 64, .inl da)), (d6, .inl (gI g, 64, .inl la)), (d2, .inl (gJ g, 6, .inr (.inl nw)))] H := by rw [hHe]; exact hP
  have hS : va_S A s.heap H locs := by rw [hHe, hLe]; exact hS
  have hgo : W p l e ({ frames := 6, cells := 0, slots := 0, locals := 140 } : Room) s m ([.ref h0, .int x0, .int z0] : List Value).toArray below meth c H locs 0 0 (MQ below (QAi g (fun (r : Int32) (u : Int32 × Int32 × Int32 × (Nat → Int32) × (Nat → Int32) × (Nat → Int32)) => r = qLe nw x0 z0) (fun (u : Int32 × Int32 × Int32 × (Nat → Int32) × (Nat → Int32) × (Nat → Int32)) => [(h0, .inr (6, [.ref d1, .int (nI ln), .long rd, .int u.1, .int u.2.1, .ref d2, .int (nI an), .int (nI nx), .ref d3, .ref d4, .ref d5, .ref d6, .int u.2.2.1, .int (nI zn), .ref d7, .ref d8, .long sd, .ref d9, .ref d0])), (d4, .inl (gI g, 85, .inl u.2.2.2.1)), (d5, .inl (gI g, 64, .inl u.2.2.2.2.1)), (d6, .inl (gI g, 64, .inl u.2.2.2.2.2)), (d2, .inl (gJ g, 6, .inr (.inl nw)))]) A) ([.ref h0, .int x0, .int z0] : List Value).toArray s 0 0 A) (F0 m 0 ls []) := ?_
  · rw [hHe, hLe] at hgo; exact hgo
  clear hHe hLe
  refine lv_iload_n hx hb dX7_letter_0 rfl (lv_at hl 1 rfl) ?_
  refine cS_i (As := [.int x0]) (rest := []) hx hb hml hown hw hkn hS hl (c_X7_isPicture l g _ x0 ) sf_X7_isPicture mw_245 ⟨(Nat.le_of_ble_eq_true rfl), (Nat.le_of_ble_eq_true rfl)⟩ rfl rfl rfl rfl (Nat.le_of_ble_eq_true rfl) dX7_letter_1 ⟨(Nat.le_of_ble_eq_true rfl), (Nat.le_of_ble_eq_true rfl)⟩ ?_
  refine lv_ifneB (b := isPic x0) (tgt := 9) hx hb dX7_letter_4 (by decide) (fun c_1 => ?_) (fun c_1 => ?_)
  · skip
    refine lv_aload_n hx hb dX7_letter_9 rfl (lv_at hl 0 rfl) ?_
    refine lv_aload_n hx hb dX7_letter_10 rfl (lv_at hl 0 rfl) ?_
    refine va_get (D := g.1) (ci := 6) (v := .ref d2) (C := RX7) (T := TX7) (N := 19) hx hb hw inlX7 hown hkn.1 hP 0 rfl rfl 5 (by decide) (hw _ mw_74) (fun _ h9 => h9) rfl dX7_letter_11 ?_
    refine lv_iload_n hx hb dX7_letter_14 rfl (lv_at hl 1 rfl) ?_
    refine va_lald hx hb hkn.1 hP 4 1 rfl rfl (isPic_vp6 c_1) dX7_letter_15 ?_
    refine cVM_v (As := [.long (nw (x0).toNatClampNeg)]) (rest := []) (q0 := 0) (wc := [(h0, .inr (6, [.ref d1, .int (nI ln), .long rd, .int xd, .int xq, .ref d2, .int (nI an), .int (nI nx), .ref d3, .ref d4, .ref d5, .ref d6, .int xm, .int (nI zn), .ref d7, .ref d8, .long sd, .ref d9, .ref d0])), (d4, .inl (gI g, 85, .inl le)), (d5, .inl (gI g, 64, .inl da)), (d6, .inl (gI g, 64, .inl la))]) (wr := [(d2, .inl (gJ g, 6, .inr (.inl nw)))]) hx hb hml hown hw hkn hS hl hA hP hD [0, 1, 2, 3] [4] rfl rfl (by decide) (by decide) (by decide) (c_X7_findWord l g _ h0 (nw (x0).toNatClampNeg) d1 ln rd xd xq d2 an nx d3 d4 d5 d6 xm zn d7 d8 sd d9 d0 le da la ) vf_X7_findWord mw_457 rfl rfl ⟨(Nat.le_of_ble_eq_true rfl), (Nat.le_of_ble_eq_true rfl)⟩ rfl rfl rfl rfl (Nat.le_of_ble_eq_true rfl) dX7_letter_16 ⟨(Nat.le_of_ble_eq_true rfl), (Nat.le_of_ble_eq_true rfl)⟩ (fun u H locs hq hP hD hS => ?_)
    obtain ⟨y1_2, y2_2, le2_2, da2_2, la2_2⟩ := u
    dsimp only at hq hP hD
    have hq_2 := hq
    have hP : va_P g.1 vwCl [(h0, .inr (6, [.ref d1, .int (nI ln), .long rd, .int y1_2, .int y2_2, .ref d2, .int (nI an), .int (nI nx), .ref d3, .ref d4, .ref d5, .ref d6, .int (nI (lnS (nw (x0).toNatClampNeg))), .int (nI zn), .ref d7, .ref d8, .long sd, .ref d9, .ref d0])), (d4, .inl (gI g, 85, .inl le2_2)), (d5, .inl (gI g, 64, .inl da2_2)), (d6, .inl (gI g, 64, .inl la2_2)), (d2, .inl (gJ g, 6, .inr (.inl nw)))] H := hP.sub [1, 2, 3, 4, 0] rfl
    have hD : va_D A [(h0, .inr (6, [.ref d1, .int (nI ln), .long rd, .int y1_2, .int y2_2, .ref d2, .int (nI an), .int (nI nx), .ref d3, .ref d4, .ref d5, .ref d6, .int (nI (lnS (nw (x0).toNatClampNeg))), .int (nI zn), .ref d7, .ref d8, .long sd, .ref d9, .ref d0])), (d4, .inl (gI g, 85, .inl le2_2)), (d5, .inl (gI g, 64, .inl da2_2)), (d6, .inl (gI g, 64, .inl la2_2)), (d2, .inl (gJ g, 6, .inr (.inl nw)))] := hD.sub [1, 2, 3, 4, 0] (by decide) rfl
    have hsp := ln_spec (nw (x0).toNatClampNeg)
    refine lv_iload_n hx hb dX7_letter_19 rfl (lv_at hl 2 rfl) ?_
    refine lv_i2l hx hb dX7_letter_20 rfl ?_
    refine lv_lconst (v := 0) hx hb dX7_letter_21 rfl ?_
    refine lv_aload_n hx hb dX7_letter_22 rfl (lv_at hl 0 rfl) ?_
    refine va_get (D := g.1) (ci := 6) (v := .int (nI (lnS (nw (x0).toNatClampNeg)))) (C := RX7) (T := TX7) (N := 19) hx hb hw inlX7 hown hkn.1 hP 0 rfl rfl 12 (by decide) (hw _ mw_456) (fun _ h9 => h9) rfl dX7_letter_23 ?_
    refine lv_iconst (v := 1) hx hb dX7_letter_26 (by decide) ?_
    refine lv_isub hx hb dX7_letter_27 ?_
    refine lv_eqi (pk_sub (a := lnS (nw (x0).toNatClampNeg)) (b := 1) (by omega)) ?_
    refine lv_i2l (v := lN (lnS (nw (x0).toNatClampNeg) - 1)) hx hb dX7_letter_28 (nI_l (by omega)) ?_
    refine cS_i (As := [.long ((z0).toInt64), .long 0, .long (lN (lnS (nw (x0).toNatClampNeg) - 1))]) (rest := []) hx hb hml hown hw hkn hS hl (c_X7_in l g _ ((z0).toInt64) 0 (lN (lnS (nw (x0).toNatClampNeg) - 1)) ) sf_X7_in mw_101 ⟨(Nat.le_of_ble_eq_true rfl), (Nat.le_of_ble_eq_true rfl)⟩ rfl rfl rfl rfl (Nat.le_of_ble_eq_true rfl) dX7_letter_29 ⟨(Nat.le_of_ble_eq_true rfl), (Nat.le_of_ble_eq_true rfl)⟩ ?_
    refine lv_ifeqB (b := inL ((z0).toInt64) 0 (lN (lnS (nw (x0).toNatClampNeg) - 1))) (tgt := 44) hx hb dX7_letter_32 (by decide) (fun c_3 => ?_) (fun c_3 => ?_)
    · skip
      refine lv_bipush (v := (-9)) hx hb dX7_letter_44 (by decide) ?_
      exact eM_i (g := g) hx hb hr hlocks (y1_2, y2_2, (nI (lnS (nw (x0).toNatClampNeg))), le2_2, da2_2, la2_2) (by unfold qLe; rw [if_pos c_1, pic_i c_1]; exact (ll_out c_3).symm) (hP.sub [0, 1, 2, 3, 4] rfl) (hD.sub [0, 1, 2, 3, 4] (by decide) rfl) hS dX7_letter_46
    · skip
      obtain ⟨z9, hz9, ez9⟩ := inN_of (by omega) c_3
      refine lv_aload_n hx hb dX7_letter_35 rfl (lv_at hl 0 rfl) ?_
      refine va_get (D := g.1) (ci := 6) (v := .ref d4) (C := RX7) (T := TX7) (N := 19) hx hb hw inlX7 hown hkn.1 hP 0 rfl rfl 9 (by decide) (hw _ mw_76) (fun _ h9 => h9) rfl dX7_letter_36 ?_
      refine lv_iload_n hx hb dX7_letter_39 rfl (lv_at hl 2 rfl) ?_
      refine lv_eqi (show _ = (nI z9) from ez9) ?_
      refine va_iald hx hb hkn.1 hP 1 0 rfl rfl (vp_in_nI (n := z9) (by omega) (by decide)) dX7_letter_40 ?_
      refine lv_eqi (show _ = le2_2 z9 by rw [nI_clamp (n := z9) (by omega)]) ?_
      refine lv_goto (tgt := 46) hx hb dX7_letter_41 (by decide) ?_
      exact eM_i (g := g) hx hb hr hlocks (y1_2, y2_2, (nI (lnS (nw (x0).toNatClampNeg))), le2_2, da2_2, la2_2) (by unfold qLe; rw [if_pos c_1, pic_i c_1, ez9, ll_in (by omega)]; exact (hq_2.1 z9 (by omega)).2) (hP.sub [0, 1, 2, 3, 4] rfl) (hD.sub [0, 1, 2, 3, 4] (by decide) rfl) hS dX7_letter_46
  · skip
    refine lv_iconst (v := (-1)) hx hb dX7_letter_7 (by decide) ?_
    exact eM_i (g := g) hx hb hr hlocks (xd, xq, xm, le, da, la) (by unfold qLe; rw [if_neg (nt_of c_1)]) (hP.sub [0, 1, 2, 3, 4] rfl) (hD.sub [0, 1, 2, 3, 4] (by decide) rfl) hS dX7_letter_8
set_option maxHeartbeats 4000000 in
set_option maxRecDepth 100000 in
theorem c_X7_at (l : Launch) (g : GG) (sz : Nat) (h0 : Nat) (x0 : Int32) (k0 : Int32) (z0 : Int32) (d1 : Nat) (ln : Nat) (rd : Int64) (xd : Int32) (xq : Int32) (d2 : Nat) (an : Nat) (nx : Nat) (d3 : Nat) (d4 : Nat) (d5 : Nat) (d6 : Nat) (xm : Int32) (zn : Nat) (d7 : Nat) (d8 : Nat) (sd : Int64) (d9 : Nat) (d0 : Nat) (le : Nat → Int32) (da : Nat → Int32) (la : Nat → Int32) (nw : Nat → Int64)  : Met l yX7_at (Cond.code yX7_at cX7_at 4 (some .int) :: wsL_law) ({ frames := 6, cells := 0, slots := 0, locals := 140 }) (PM g [.ref h0, .int x0, .int k0, .int z0] [(h0, .inr (6, [.ref d1, .int (nI ln), .long rd, .int xd, .int xq, .ref d2, .int (nI an), .int (nI nx), .ref d3, .ref d4, .ref d5, .ref d6, .int xm, .int (nI zn), .ref d7, .ref d8, .long sd, .ref d9, .ref d0])), (d4, .inl (gI g, 85, .inl le)), (d5, .inl (gI g, 64, .inl da)), (d6, .inl (gI g, 64, .inl la)), (d2, .inl (gJ g, 6, .inr (.inl nw)))] sz) (QAi g (fun (r : Int32) (u : Int32 × Int32 × Int32 × (Nat → Int32) × (Nat → Int32) × (Nat → Int32)) => r = qAt nw x0 k0 z0) (fun (u : Int32 × Int32 × Int32 × (Nat → Int32) × (Nat → Int32) × (Nat → Int32)) => [(h0, .inr (6, [.ref d1, .int (nI ln), .long rd, .int u.1, .int u.2.1, .ref d2, .int (nI an), .int (nI nx), .ref d3, .ref d4, .ref d5, .ref d6, .int u.2.2.1, .int (nI zn), .ref d7, .ref d8, .long sd, .ref d9, .ref d0])), (d4, .inl (gI g, 85, .inl u.2.2.2.1)), (d5, .inl (gI g, 64, .inl u.2.2.2.2.1)), (d6, .inl (gI g, 64, .inl u.2.2.2.2.2)), (d2, .inl (gJ g, 6, .inr (.inl nw)))]) (va_A [(h0, .inr (6, [.ref d1, .int (nI ln), .long rd, .int xd, .int xq, .ref d2, .int (nI an), .int (nI nx), .ref d3, .ref d4, .ref d5, .ref d6, .int xm, .int (nI zn), .ref d7, .ref d8, .long sd, .ref d9, .ref d0])), (d4, .inl (gI g, 85, .inl le)), (d5, .inl (gI g, 64, .inl da)), (d6, .inl (gI g, 64, .inl la)), (d2, .inl (gJ g, 6, .inr (.inl nw)))] sz)) 0 0 (va_A [(h0, .inr (6, [.ref d1, .int (nI ln), .long rd, .int xd, .int xq, .ref d2, .int (nI an), .int (nI nx), .ref d3, .ref d4, .ref d5, .ref d6, .int xm, .int (nI zn), .ref d7, .ref d8, .long sd, .ref d9, .ref d0])), (d4, .inl (gI g, 85, .inl le)), (d5, .inl (gI g, 64, .inl da)), (d6, .inl (gI g, 64, .inl la)), (d2, .inl (gJ g, 6, .inr (.inl nw)))] sz) := by
  refine Met.M (Qc := fun A => QAi g (fun (r : Int32) (u : Int32 × Int32 × Int32 × (Nat → Int32) × (Nat → Int32) × (Nat → Int32)) => r = qAt nw x0 k0 z0) (fun (u : Int32 × Int32 × Int32 × (Nat → Int32) × (Nat → Int32) × (Nat → Int32)) => [(h0, .inr (6, [.ref d1, .int (nI ln), .long rd, .int u.1, .int u.2.1, .ref d2, .int (nI an), .int (nI nx), .ref d3, .ref d4, .ref d5, .ref d6, .int u.2.2.1, .int (nI zn), .ref d7, .ref d8, .long sd, .ref d9, .ref d0])), (d4, .inl (gI g, 85, .inl u.2.2.2.1)), (d5, .inl (gI g, 64, .inl u.2.2.2.2.1)), (d6, .inl (gI g, 64, .inl u.2.2.2.2.2)), (d2, .inl (gJ g, 6, .inr (.inl nw)))]) A) (by decide) (Nat.le_of_ble_eq_true rfl) rfl ?_
  intro p e s m below meth c hx hb hr hml hw hown hlocks hin A hA hkn hP hD ls hl
  have hl : lv_has ls 4 [(0, .ref h0), (1, .int x0), (2, .int k0), (3, .int z0)] := hl
  have hS : va_S A s.heap s.heap [] := va_S.rf
  obtain ⟨H, hHe⟩ : ∃ H, H = s.heap := ⟨_, rfl⟩
  obtain ⟨locs, hLe⟩ : ∃ locs : List Loc, locs = [] := ⟨_, rfl⟩
  have hP : va_P g.1 vwCl [(h0, .inr (6, [.ref d1, .int (nI ln), .long rd, .int xd, .int xq, .ref d2, .int (nI an), .int (nI nx), .ref d3, .ref d4, .ref d5, .ref d6, .int xm, .int (nI zn), .ref d7, .ref d8, .long sd, .ref d9, .ref d0])), (d4, .inl (gI g, 85, .inl le)), (d5, .inl (gI g, 64, .inl da)), (d6, .inl (gI g, 64, .inl la)), (d2, .inl (gJ g, 6, .inr (.inl nw)))] H := by rw [hHe]; exact hP
  have hS : va_S A s.heap H locs := by rw [hHe, hLe]; exact hS
  have hgo : W p l e ({ frames := 6, cells := 0, slots := 0, locals := 140 } : Room) s m ([.ref h0, .int x0, .int k0, .int z0] : List Value).toArray below meth c H locs 0 0 (MQ below (QAi g (fun (r : Int32) (u : Int32 × Int32 × Int32 × (Nat → Int32) × (Nat → Int32) × (Nat → Int32)) => r = qAt nw x0 k0 z0) (fun (u : Int32 × Int32 × Int32 × (Nat → Int32) × (Nat → Int32) × (Nat → Int32)) => [(h0, .inr (6, [.ref d1, .int (nI ln), .long rd, .int u.1, .int u.2.1, .ref d2, .int (nI an), .int (nI nx), .ref d3, .ref d4, .ref d5, .ref d6, .int u.2.2.1, .int (nI zn), .ref d7, .ref d8, .long sd, .ref d9, .ref d0])), (d4, .inl (gI g, 85, .inl u.2.2.2.1)), (d5, .inl (gI g, 64, .inl u.2.2.2.2.1)), (d6, .inl (gI g, 64, .inl u.2.2.2.2.2)), (d2, .inl (gJ g, 6, .inr (.inl nw)))]) A) ([.ref h0, .int x0, .int k0, .int z0] : List Value).toArray s 0 0 A) (F0 m 0 ls []) := ?_
  · rw [hHe, hLe] at hgo; exact hgo
  clear hHe hLe
  refine lv_iload_n hx hb dX7_at_0 rfl (lv_at hl 1 rfl) ?_
  refine cS_i (As := [.int x0]) (rest := []) hx hb hml hown hw hkn hS hl (c_X7_isPicture l g _ x0 ) sf_X7_isPicture mw_245 ⟨(Nat.le_of_ble_eq_true rfl), (Nat.le_of_ble_eq_true rfl)⟩ rfl rfl rfl rfl (Nat.le_of_ble_eq_true rfl) dX7_at_1 ⟨(Nat.le_of_ble_eq_true rfl), (Nat.le_of_ble_eq_true rfl)⟩ ?_
  refine lv_ifeqB (b := isPic x0) (tgt := 19) hx hb dX7_at_4 (by decide) (fun c_1 => ?_) (fun c_1 => ?_)
  · skip
    refine lv_iconst (v := (-1)) hx hb dX7_at_19 (by decide) ?_
    exact eM_i (g := g) hx hb hr hlocks (xd, xq, xm, le, da, la) (by unfold qAt; rw [if_neg (nt_of c_1)]) (hP.sub [0, 1, 2, 3, 4] rfl) (hD.sub [0, 1, 2, 3, 4] (by decide) rfl) hS dX7_at_20
  · skip
    refine lv_iload_n hx hb dX7_at_7 rfl (lv_at hl 2 rfl) ?_
    refine lv_i2l hx hb dX7_at_8 rfl ?_
    refine lv_lconst (v := 0) hx hb dX7_at_9 rfl ?_
    refine lv_ldc2 hx hb hown (hw _ mw_513) dX7_at_10 ?_
    refine cS_i (As := [.long ((k0).toInt64), .long 0, .long 63]) (rest := []) hx hb hml hown hw hkn hS hl (c_X7_in l g _ ((k0).toInt64) 0 63 ) sf_X7_in mw_101 ⟨(Nat.le_of_ble_eq_true rfl), (Nat.le_of_ble_eq_true rfl)⟩ rfl rfl rfl rfl (Nat.le_of_ble_eq_true rfl) dX7_at_13 ⟨(Nat.le_of_ble_eq_true rfl), (Nat.le_of_ble_eq_true rfl)⟩ ?_
    refine lv_eqi (show _ = b2i (isCel k0) from congrArg b2i (isCel_in k0)) ?_
    refine lv_ifneB (b := isCel k0) (tgt := 21) hx hb dX7_at_16 (by decide) (fun c_2 => ?_) (fun c_2 => ?_)
    · skip
      refine lv_iload_n hx hb dX7_at_21 rfl (lv_at hl 3 rfl) ?_
      refine lv_i2l hx hb dX7_at_22 rfl ?_
      refine lv_lconst (v := 0) hx hb dX7_at_23 rfl ?_
      refine lv_ldc2 hx hb hown (hw _ mw_180) dX7_at_24 ?_
      refine cS_i (As := [.long ((z0).toInt64), .long 0, .long 2]) (rest := []) hx hb hml hown hw hkn hS hl (c_X7_in l g _ ((z0).toInt64) 0 2 ) sf_X7_in mw_101 ⟨(Nat.le_of_ble_eq_true rfl), (Nat.le_of_ble_eq_true rfl)⟩ rfl rfl rfl rfl (Nat.le_of_ble_eq_true rfl) dX7_at_27 ⟨(Nat.le_of_ble_eq_true rfl), (Nat.le_of_ble_eq_true rfl)⟩ ?_
      refine lv_eqi (show _ = b2i (decide (z0 = 0) || decide (z0 = 1) || decide (z0 = 2)) from congrArg b2i (is012)) ?_
      refine lv_ifneB (b := (decide (z0 = 0) || decide (z0 = 1) || decide (z0 = 2))) (tgt := 36) hx hb dX7_at_30 (by decide) (fun c_3 => ?_) (fun c_3 => ?_)
      · skip
        obtain ⟨k9, hk9, ek9⟩ := isCel_of c_2
        have ek8 : k0.toNatClampNeg = k9 := by rw [ek9, nI_clamp (by omega)]
        refine lv_aload_n hx hb dX7_at_36 rfl (lv_at hl 0 rfl) ?_
        refine lv_aload_n hx hb dX7_at_37 rfl (lv_at hl 0 rfl) ?_
        refine va_get (D := g.1) (ci := 6) (v := .ref d2) (C := RX7) (T := TX7) (N := 19) hx hb hw inlX7 hown hkn.1 hP 0 rfl rfl 5 (by decide) (hw _ mw_74) (fun _ h9 => h9) rfl dX7_at_38 ?_
        refine lv_iload_n hx hb dX7_at_41 rfl (lv_at hl 1 rfl) ?_
        refine va_lald hx hb hkn.1 hP 4 1 rfl rfl (isPic_vp6 c_1) dX7_at_42 ?_
        refine cVM_v (As := [.long (nw (x0).toNatClampNeg)]) (rest := []) (q0 := 0) (wc := [(h0, .inr (6, [.ref d1, .int (nI ln), .long rd, .int xd, .int xq, .ref d2, .int (nI an), .int (nI nx), .ref d3, .ref d4, .ref d5, .ref d6, .int xm, .int (nI zn), .ref d7, .ref d8, .long sd, .ref d9, .ref d0])), (d4, .inl (gI g, 85, .inl le)), (d5, .inl (gI g, 64, .inl da)), (d6, .inl (gI g, 64, .inl la))]) (wr := [(d2, .inl (gJ g, 6, .inr (.inl nw)))]) hx hb hml hown hw hkn hS hl hA hP hD [0, 1, 2, 3] [4] rfl rfl (by decide) (by decide) (by decide) (c_X7_findWord l g _ h0 (nw (x0).toNatClampNeg) d1 ln rd xd xq d2 an nx d3 d4 d5 d6 xm zn d7 d8 sd d9 d0 le da la ) vf_X7_findWord mw_457 rfl rfl ⟨(Nat.le_of_ble_eq_true rfl), (Nat.le_of_ble_eq_true rfl)⟩ rfl rfl rfl rfl (Nat.le_of_ble_eq_true rfl) dX7_at_43 ⟨(Nat.le_of_ble_eq_true rfl), (Nat.le_of_ble_eq_true rfl)⟩ (fun u H locs hq hP hD hS => ?_)
        obtain ⟨y1_4, y2_4, le2_4, da2_4, la2_4⟩ := u
        dsimp only at hq hP hD
        have hq_4 := hq
        have hP : va_P g.1 vwCl [(h0, .inr (6, [.ref d1, .int (nI ln), .long rd, .int y1_4, .int y2_4, .ref d2, .int (nI an), .int (nI nx), .ref d3, .ref d4, .ref d5, .ref d6, .int (nI (lnS (nw (x0).toNatClampNeg))), .int (nI zn), .ref d7, .ref d8, .long sd, .ref d9, .ref d0])), (d4, .inl (gI g, 85, .inl le2_4)), (d5, .inl (gI g, 64, .inl da2_4)), (d6, .inl (gI g, 64, .inl la2_4)), (d2, .inl (gJ g, 6, .inr (.inl nw)))] H := hP.sub [1, 2, 3, 4, 0] rfl
        have hD : va_D A [(h0, .inr (6, [.ref d1, .int (nI ln), .long rd, .int y1_4, .int y2_4, .ref d2, .int (nI an), .int (nI nx), .ref d3, .ref d4, .ref d5, .ref d6, .int (nI (lnS (nw (x0).toNatClampNeg))), .int (nI zn), .ref d7, .ref d8, .long sd, .ref d9, .ref d0])), (d4, .inl (gI g, 85, .inl le2_4)), (d5, .inl (gI g, 64, .inl da2_4)), (d6, .inl (gI g, 64, .inl la2_4)), (d2, .inl (gJ g, 6, .inr (.inl nw)))] := hD.sub [1, 2, 3, 4, 0] (by decide) rfl
        refine lv_iload_n hx hb dX7_at_46 rfl (lv_at hl 3 rfl) ?_
        refine lv_if_ne (tgt := 64) hx hb dX7_at_47 (by decide) (fun c_5 => ?_) (fun c_5 => ?_)
        · skip
          refine lv_iload_n hx hb dX7_at_64 rfl (lv_at hl 3 rfl) ?_
          refine lv_iconst (v := 1) hx hb dX7_at_65 (by decide) ?_
          refine lv_icmp_ne (tgt := 78) hx hb dX7_at_66 (by decide) (fun c_6 => ?_) (fun c_6 => ?_)
          · skip
            refine lv_aload_n hx hb dX7_at_78 rfl (lv_at hl 0 rfl) ?_
            refine va_get (D := g.1) (ci := 6) (v := .ref d6) (C := RX7) (T := TX7) (N := 19) hx hb hw inlX7 hown hkn.1 hP 0 rfl rfl 11 (by decide) (hw _ mw_78) (fun _ h9 => h9) rfl dX7_at_79 ?_
            refine lv_iload_n hx hb dX7_at_82 rfl (lv_at hl 2 rfl) ?_
            refine lv_eqi (show _ = (nI k9) from ek9) ?_
            refine va_iald hx hb hkn.1 hP 3 0 rfl rfl (vp_in_nI (n := k9) (by omega) (by decide)) dX7_at_83 ?_
            refine lv_eqi (show _ = la2_4 k9 by rw [nI_clamp (n := k9) (by omega)]) ?_
            exact eM_i (g := g) hx hb hr hlocks (y1_4, y2_4, (nI (lnS (nw (x0).toNatClampNeg))), le2_4, da2_4, la2_4) (by unfold qAt; rw [if_pos c_1, if_pos c_2, pic_i c_1, ek8, if_neg c_5, if_neg c_6, if_pos (by have h9 := c_3; simp only [Bool.or_eq_true, decide_eq_true_eq] at h9; exact h9.resolve_left (fun h8 => h8.elim c_5 c_6))]; exact (hq_4.2.1 k9 hk9 (mo_lt hk9)).2) (hP.sub [0, 1, 2, 3, 4] rfl) (hD.sub [0, 1, 2, 3, 4] (by decide) rfl) hS dX7_at_84
          · skip
            refine lv_aload_n hx hb dX7_at_69 rfl (lv_at hl 0 rfl) ?_
            refine va_get (D := g.1) (ci := 6) (v := .ref d5) (C := RX7) (T := TX7) (N := 19) hx hb hw inlX7 hown hkn.1 hP 0 rfl rfl 10 (by decide) (hw _ mw_77) (fun _ h9 => h9) rfl dX7_at_70 ?_
            refine lv_iload_n hx hb dX7_at_73 rfl (lv_at hl 2 rfl) ?_
            refine lv_eqi (show _ = (nI k9) from ek9) ?_
            refine va_iald hx hb hkn.1 hP 2 0 rfl rfl (vp_in_nI (n := k9) (by omega) (by decide)) dX7_at_74 ?_
            refine lv_eqi (show _ = da2_4 k9 by rw [nI_clamp (n := k9) (by omega)]) ?_
            refine lv_goto (tgt := 84) hx hb dX7_at_75 (by decide) ?_
            exact eM_i (g := g) hx hb hr hlocks (y1_4, y2_4, (nI (lnS (nw (x0).toNatClampNeg))), le2_4, da2_4, la2_4) (by unfold qAt; rw [if_pos c_1, if_pos c_2, pic_i c_1, ek8, if_neg c_5, if_pos c_6]; exact (hq_4.2.1 k9 hk9 (mo_lt hk9)).1) (hP.sub [0, 1, 2, 3, 4] rfl) (hD.sub [0, 1, 2, 3, 4] (by decide) rfl) hS dX7_at_84
        · skip
          refine lv_aload_n hx hb dX7_at_50 rfl (lv_at hl 0 rfl) ?_
          refine va_get (D := g.1) (ci := 6) (v := .ref d2) (C := RX7) (T := TX7) (N := 19) hx hb hw inlX7 hown hkn.1 hP 0 rfl rfl 5 (by decide) (hw _ mw_74) (fun _ h9 => h9) rfl dX7_at_51 ?_
          refine lv_iload_n hx hb dX7_at_54 rfl (lv_at hl 1 rfl) ?_
          refine va_lald hx hb hkn.1 hP 4 1 rfl rfl (isPic_vp6 c_1) dX7_at_55 ?_
          refine lv_iload_n hx hb dX7_at_56 rfl (lv_at hl 2 rfl) ?_
          refine lv_eqi (show _ = (nI k9) from ek9) ?_
          refine lv_lushr (v := (jushr (nw (x0).toNatClampNeg) k9)) hx hb dX7_at_57 rfl ?_
          refine lv_lconst (v := 1) hx hb dX7_at_58 rfl ?_
          refine lv_land hx hb dX7_at_59 ?_
          refine lv_l2i hx hb dX7_at_60 rfl ?_
          refine lv_eqi (show _ = (b2i (bt (nw (x0).toNatClampNeg) k9)) from bit_i hk9) ?_
          refine lv_goto (tgt := 84) hx hb dX7_at_61 (by decide) ?_
          exact eM_i (g := g) hx hb hr hlocks (y1_4, y2_4, (nI (lnS (nw (x0).toNatClampNeg))), le2_4, da2_4, la2_4) (by unfold qAt; rw [if_pos c_1, if_pos c_2, pic_i c_1, ek8, if_pos c_5]) (hP.sub [0, 1, 2, 3, 4] rfl) (hD.sub [0, 1, 2, 3, 4] (by decide) rfl) hS dX7_at_84
      · skip
        refine lv_bipush (v := (-2)) hx hb dX7_at_33 (by decide) ?_
        have h9 := c_3
        simp only [Bool.or_eq_false_iff, decide_eq_false_iff_not] at h9
        exact eM_i (g := g) hx hb hr hlocks (xd, xq, xm, le, da, la) (by unfold qAt; rw [if_pos c_1, if_pos c_2, if_neg h9.1.1, if_neg h9.1.2, if_neg h9.2]) (hP.sub [0, 1, 2, 3, 4] rfl) (hD.sub [0, 1, 2, 3, 4] (by decide) rfl) hS dX7_at_35
    · skip
      refine lv_iconst (v := (-1)) hx hb dX7_at_19 (by decide) ?_
      exact eM_i (g := g) hx hb hr hlocks (xd, xq, xm, le, da, la) (by unfold qAt; rw [if_pos c_1, if_neg (nt_of c_2)]) (hP.sub [0, 1, 2, 3, 4] rfl) (hD.sub [0, 1, 2, 3, 4] (by decide) rfl) hS dX7_at_20
set_option maxHeartbeats 4000000 in
set_option maxRecDepth 100000 in
theorem c_X7_alike (l : Launch) (g : GG) (H : Heap) (h0 : Nat) (x0 : Int32) (y0 : Int32) (d1 : Nat) (ln : Nat) (rd : Int64) (xd : Int32) (xq : Int32) (d2 : Nat) (an : Nat) (nx : Nat) (d3 : Nat) (d4 : Nat) (d5 : Nat) (d6 : Nat) (xm : Int32) (zn : Nat) (d7 : Nat) (d8 : Nat) (sd : Int64) (d9 : Nat) (d0 : Nat) (nw : Nat → Int64)  (hP : va_P g.1 vwCl [(h0, .inr (6, [.ref d1, .int (nI ln), .long rd, .int xd, .int xq, .ref d2, .int (nI an), .int (nI nx), .ref d3, .ref d4, .ref d5, .ref d6, .int xm, .int (nI zn), .ref d7, .ref d8, .long sd, .ref d9, .ref d0])), (d2, .inl (gJ g, 6, .inr (.inl nw)))] H) : Met l yX7_alike (Cond.code yX7_alike cX7_alike 3 (some .int) :: wsL_law) ({ frames := 5, cells := 0, slots := 0, locals := 124 }) (PR g [.ref h0, .int x0, .int y0] H) (QRi (qAl nw x0 y0) H) 0 0 NoA := by
  refine Met.R (by decide) (Nat.le_of_ble_eq_true rfl) rfl ?_
  intro p e s m below meth c hx hb hr hml hw hown hlocks hkn hH ls hl
  subst hH
  have hl : lv_has ls 3 [(0, .ref h0), (1, .int x0), (2, .int y0)] := hl
  have hS : va_S NoA s.heap s.heap [] := va_S.rf
  refine lv_iload_n hx hb dX7_alike_0 rfl (lv_at hl 1 rfl) ?_
  refine cS_i (As := [.int x0]) (rest := []) hx hb hml hown hw hkn hS hl (c_X7_isPicture l g _ x0 ) sf_X7_isPicture mw_245 ⟨(Nat.le_of_ble_eq_true rfl), (Nat.le_of_ble_eq_true rfl)⟩ rfl rfl rfl rfl (Nat.le_of_ble_eq_true rfl) dX7_alike_1 ⟨(Nat.le_of_ble_eq_true rfl), (Nat.le_of_ble_eq_true rfl)⟩ ?_
  refine lv_ifeqB (b := isPic x0) (tgt := 32) hx hb dX7_alike_4 (by decide) (fun c_1 => ?_) (fun c_1 => ?_)
  · skip
    refine lv_iconst (v := (-1)) hx hb dX7_alike_32 (by decide) ?_
    exact eR_i hx hb hr hlocks (by unfold qAl; rw [if_neg (nt_of c_1)]) dX7_alike_33
  · skip
    refine lv_iload_n hx hb dX7_alike_7 rfl (lv_at hl 2 rfl) ?_
    refine cS_i (As := [.int y0]) (rest := []) hx hb hml hown hw hkn hS hl (c_X7_isPicture l g _ y0 ) sf_X7_isPicture mw_245 ⟨(Nat.le_of_ble_eq_true rfl), (Nat.le_of_ble_eq_true rfl)⟩ rfl rfl rfl rfl (Nat.le_of_ble_eq_true rfl) dX7_alike_8 ⟨(Nat.le_of_ble_eq_true rfl), (Nat.le_of_ble_eq_true rfl)⟩ ?_
    refine lv_ifeqB (b := isPic y0) (tgt := 32) hx hb dX7_alike_11 (by decide) (fun c_2 => ?_) (fun c_2 => ?_)
    · skip
      refine lv_iconst (v := (-1)) hx hb dX7_alike_32 (by decide) ?_
      exact eR_i hx hb hr hlocks (by unfold qAl; rw [if_pos c_1, if_neg (nt_of c_2)]) dX7_alike_33
    · skip
      refine lv_aload_n hx hb dX7_alike_14 rfl (lv_at hl 0 rfl) ?_
      refine va_get (D := g.1) (ci := 6) (v := .ref d2) (C := RX7) (T := TX7) (N := 19) hx hb hw inlX7 hown hkn.1 hP 0 rfl rfl 5 (by decide) (hw _ mw_74) (fun _ h9 => h9) rfl dX7_alike_15 ?_
      refine lv_iload_n hx hb dX7_alike_18 rfl (lv_at hl 1 rfl) ?_
      refine va_lald hx hb hkn.1 hP 1 1 rfl rfl (isPic_vp6 c_1) dX7_alike_19 ?_
      refine lv_aload_n hx hb dX7_alike_20 rfl (lv_at hl 0 rfl) ?_
      refine va_get (D := g.1) (ci := 6) (v := .ref d2) (C := RX7) (T := TX7) (N := 19) hx hb hw inlX7 hown hkn.1 hP 0 rfl rfl 5 (by decide) (hw _ mw_74) (fun _ h9 => h9) rfl dX7_alike_21 ?_
      refine lv_iload_n hx hb dX7_alike_24 rfl (lv_at hl 2 rfl) ?_
      refine va_lald hx hb hkn.1 hP 1 1 rfl rfl (isPic_vp6 c_2) dX7_alike_25 ?_
      refine cS_i (As := [.long (nw (x0).toNatClampNeg), .long (nw (y0).toNatClampNeg)]) (rest := []) hx hb hml hown hw hkn hS hl (c_X7_waysOf l g _ (nw (x0).toNatClampNeg) (nw (y0).toNatClampNeg) ) sf_X7_waysOf mw_533 ⟨(Nat.le_of_ble_eq_true rfl), (Nat.le_of_ble_eq_true rfl)⟩ rfl rfl rfl rfl (Nat.le_of_ble_eq_true rfl) dX7_alike_26 ⟨(Nat.le_of_ble_eq_true rfl), (Nat.le_of_ble_eq_true rfl)⟩ ?_
      refine lv_goto (tgt := 33) hx hb dX7_alike_29 (by decide) ?_
      exact eR_i hx hb hr hlocks (by unfold qAl; rw [if_pos c_1, if_pos c_2, pic_i c_1, pic_i c_2]) dX7_alike_33
set_option maxHeartbeats 4000000 in
set_option maxRecDepth 100000 in
theorem c_X7_near (l : Launch) (g : GG) (H : Heap) (h0 : Nat) (x0 : Int32) (y0 : Int32) (z0 : Int32) (d1 : Nat) (ln : Nat) (rd : Int64) (xd : Int32) (xq : Int32) (d2 : Nat) (an : Nat) (nx : Nat) (d3 : Nat) (d4 : Nat) (d5 : Nat) (d6 : Nat) (xm : Int32) (zn : Nat) (d7 : Nat) (d8 : Nat) (sd : Int64) (d9 : Nat) (d0 : Nat) (nw : Nat → Int64)  (hP : va_P g.1 vwCl [(h0, .inr (6, [.ref d1, .int (nI ln), .long rd, .int xd, .int xq, .ref d2, .int (nI an), .int (nI nx), .ref d3, .ref d4, .ref d5, .ref d6, .int xm, .int (nI zn), .ref d7, .ref d8, .long sd, .ref d9, .ref d0])), (d2, .inl (gJ g, 6, .inr (.inl nw)))] H) : Met l yX7_near (Cond.code yX7_near cX7_near 8 (some .int) :: wsL_law) ({ frames := 4, cells := 0, slots := 0, locals := 99 }) (PR g [.ref h0, .int x0, .int y0, .int z0] H) (QRi (qNe nw x0 y0 z0) H) 0 0 NoA := by
  refine Met.R (by decide) (Nat.le_of_ble_eq_true rfl) rfl ?_
  intro p e s m below meth c hx hb hr hml hw hown hlocks hkn hH ls hl
  subst hH
  have hl : lv_has ls 8 [(0, .ref h0), (1, .int x0), (2, .int y0), (3, .int z0)] := hl
  have hS : va_S NoA s.heap s.heap [] := va_S.rf
  refine lv_iload_n hx hb dX7_near_0 rfl (lv_at hl 1 rfl) ?_
  refine cS_i (As := [.int x0]) (rest := []) hx hb hml hown hw hkn hS hl (c_X7_isPicture l g _ x0 ) sf_X7_isPicture mw_245 ⟨(Nat.le_of_ble_eq_true rfl), (Nat.le_of_ble_eq_true rfl)⟩ rfl rfl rfl rfl (Nat.le_of_ble_eq_true rfl) dX7_near_1 ⟨(Nat.le_of_ble_eq_true rfl), (Nat.le_of_ble_eq_true rfl)⟩ ?_
  refine lv_ifeqB (b := isPic x0) (tgt := 14) hx hb dX7_near_4 (by decide) (fun c_1 => ?_) (fun c_1 => ?_)
  · skip
    refine lv_iconst (v := (-1)) hx hb dX7_near_14 (by decide) ?_
    exact eR_i hx hb hr hlocks (by unfold qNe; rw [if_neg (nt_of c_1)]) dX7_near_15
  · skip
    refine lv_iload_n hx hb dX7_near_7 rfl (lv_at hl 2 rfl) ?_
    refine cS_i (As := [.int y0]) (rest := []) hx hb hml hown hw hkn hS hl (c_X7_isPicture l g _ y0 ) sf_X7_isPicture mw_245 ⟨(Nat.le_of_ble_eq_true rfl), (Nat.le_of_ble_eq_true rfl)⟩ rfl rfl rfl rfl (Nat.le_of_ble_eq_true rfl) dX7_near_8 ⟨(Nat.le_of_ble_eq_true rfl), (Nat.le_of_ble_eq_true rfl)⟩ ?_
    refine lv_ifneB (b := isPic y0) (tgt := 16) hx hb dX7_near_11 (by decide) (fun c_2 => ?_) (fun c_2 => ?_)
    · skip
      refine lv_iload_n hx hb dX7_near_16 rfl (lv_at hl 3 rfl) ?_
      refine lv_i2l hx hb dX7_near_17 rfl ?_
      refine lv_lconst (v := 0) hx hb dX7_near_18 rfl ?_
      refine lv_lconst (v := 1) hx hb dX7_near_19 rfl ?_
      refine cS_i (As := [.long ((z0).toInt64), .long 0, .long 1]) (rest := []) hx hb hml hown hw hkn hS hl (c_X7_in l g _ ((z0).toInt64) 0 1 ) sf_X7_in mw_101 ⟨(Nat.le_of_ble_eq_true rfl), (Nat.le_of_ble_eq_true rfl)⟩ rfl rfl rfl rfl (Nat.le_of_ble_eq_true rfl) dX7_near_20 ⟨(Nat.le_of_ble_eq_true rfl), (Nat.le_of_ble_eq_true rfl)⟩ ?_
      refine lv_eqi (show _ = b2i (is01 z0) from congrArg b2i (is01_in z0)) ?_
      refine lv_ifneB (b := is01 z0) (tgt := 29) hx hb dX7_near_23 (by decide) (fun c_3 => ?_) (fun c_3 => ?_)
      · skip
        refine lv_bipush (v := 65) hx hb dX7_near_29 (by decide) ?_
        refine lv_istore (lv' := [(4, .int 65), (0, .ref h0), (1, .int x0), (2, .int y0), (3, .int z0)]) hx hb dX7_near_31 hl (by decide) rfl (fun ls hl => ?_)
        refine lv_iconst (v := 0) hx hb dX7_near_33 (by decide) ?_
        refine lv_istore (lv' := [(5, .int 0), (4, .int 65), (0, .ref h0), (1, .int x0), (2, .int y0), (3, .int z0)]) hx hb dX7_near_34 hl (by decide) rfl (fun ls hl => ?_)
        refine lv_iconst (v := 0) hx hb dX7_near_36 (by decide) ?_
        refine lv_istore (lv' := [(6, .int 0), (5, .int 0), (4, .int 65), (0, .ref h0), (1, .int x0), (2, .int y0), (3, .int z0)]) hx hb dX7_near_37 hl (by decide) rfl (fun ls hl => ?_)
        have lp_39 : ∀ (n_39 : Nat) (i : Nat) (few : Nat) (best : Nat), (i ≤ 8) → (nrI (picS nw x0) (picS nw y0) i few best) → 8 < i + n_39 → ∀ (ls : Array Slot), lv_has ls 8 [(6, .int (nI i)), (5, .int (nI best)), (4, .int (nI few)), (0, .ref h0), (1, .int x0), (2, .int y0), (3, .int z0)] → W p l e ({ frames := 4, cells := 0, slots := 0, locals := 99 } : Room) s m ([.ref h0, .int x0, .int y0, .int z0] : List Value).toArray below meth c s.heap [] 0 0 (MQ below (QRi (qNe nw x0 y0 z0) s.heap) ([.ref h0, .int x0, .int y0, .int z0] : List Value).toArray s 0 0 NoA) (F0 m 39 ls []) := by
          intro n_39
          induction n_39 with
          | zero => intro i few best h_i h_n hfu_39; exact absurd hfu_39 (by omega)
          | succ n_39 ih_39 =>
            intro i few best h_i h_n hfu_39 ls hl
            have hnl := nr_le h_n
            have hun : unS (picS nw x0) (picS nw y0) i ≤ 64 := pcn_le _
            refine lv_iload hx hb dX7_near_39 (lv_at hl 0 rfl) ?_
            refine lv_bipush (v := 8) hx hb dX7_near_41 (by decide) ?_
            refine ic_ge (a := i) (d := 8) (tgt := 107) hx hb dX7_near_43 (by decide) rfl rfl (by omega) (by omega) (fun c_4 => ?_) (fun c_4 => ?_)
            · skip
              refine lv_iload_n hx hb dX7_near_107 rfl (lv_at hl 6 rfl) ?_
              refine lv_if_ne (tgt := 116) hx hb dX7_near_108 (by decide) (fun c_5 => ?_) (fun c_5 => ?_)
              · skip
                refine lv_iload hx hb dX7_near_116 (lv_at hl 1 rfl) ?_
                exact eR_i hx hb hr hlocks (by rw [ne_yes c_1 c_2 c_3, ← nr_end h_n (by omega)]; exact (if_neg c_5).symm) dX7_near_118
              · skip
                refine lv_iload hx hb dX7_near_111 (lv_at hl 2 rfl) ?_
                refine lv_goto (tgt := 118) hx hb dX7_near_113 (by decide) ?_
                exact eR_i hx hb hr hlocks (by rw [ne_yes c_1 c_2 c_3, ← nr_end h_n (by omega)]; exact (if_pos c_5).symm) dX7_near_118
            · skip
              refine lv_aload_n hx hb dX7_near_46 rfl (lv_at hl 3 rfl) ?_
              refine va_get (D := g.1) (ci := 6) (v := .ref d2) (C := RX7) (T := TX7) (N := 19) hx hb hw inlX7 hown hkn.1 hP 0 rfl rfl 5 (by decide) (hw _ mw_74) (fun _ h9 => h9) rfl dX7_near_47 ?_
              refine lv_iload_n hx hb dX7_near_50 rfl (lv_at hl 4 rfl) ?_
              refine va_lald hx hb hkn.1 hP 1 1 rfl rfl (isPic_vp6 c_1) dX7_near_51 ?_
              refine lv_iload hx hb dX7_near_52 (lv_at hl 0 rfl) ?_
              refine cS_l (As := [.long (nw (x0).toNatClampNeg), .int (nI i)]) (rest := []) hx hb hml hown hw hkn hS hl (c_X7_byWay l g _ (nw (x0).toNatClampNeg) i (by omega)) sf_X7_byWay mw_536 ⟨(Nat.le_of_ble_eq_true rfl), (Nat.le_of_ble_eq_true rfl)⟩ rfl rfl rfl rfl (Nat.le_of_ble_eq_true rfl) dX7_near_54 ⟨(Nat.le_of_ble_eq_true rfl), (Nat.le_of_ble_eq_true rfl)⟩ ?_
              refine lv_aload_n hx hb dX7_near_57 rfl (lv_at hl 3 rfl) ?_
              refine va_get (D := g.1) (ci := 6) (v := .ref d2) (C := RX7) (T := TX7) (N := 19) hx hb hw inlX7 hown hkn.1 hP 0 rfl rfl 5 (by decide) (hw _ mw_74) (fun _ h9 => h9) rfl dX7_near_58 ?_
              refine lv_iload_n hx hb dX7_near_61 rfl (lv_at hl 5 rfl) ?_
              refine va_lald hx hb hkn.1 hP 1 1 rfl rfl (isPic_vp6 c_2) dX7_near_62 ?_
              refine lv_lxor hx hb dX7_near_63 ?_
              refine cS_i (As := [.long ((bwS (nw (x0).toNatClampNeg) i) ^^^ (nw (y0).toNatClampNeg))]) (rest := []) hx hb hml hown hw hkn hS hl (c_X7_ones l g _ ((bwS (nw (x0).toNatClampNeg) i) ^^^ (nw (y0).toNatClampNeg)) ) sf_X7_ones mw_254 ⟨(Nat.le_of_ble_eq_true rfl), (Nat.le_of_ble_eq_true rfl)⟩ rfl rfl rfl rfl (Nat.le_of_ble_eq_true rfl) dX7_near_64 ⟨(Nat.le_of_ble_eq_true rfl), (Nat.le_of_ble_eq_true rfl)⟩ ?_
              refine lv_eqi (show _ = (nI (unS (picS nw x0) (picS nw y0) i)) from by rw [← pic_i (f := nw) c_1, ← pic_i (f := nw) c_2]; rfl) ?_
              refine lv_istore (lv' := [(7, .int (nI (unS (picS nw x0) (picS nw y0) i))), (6, .int (nI i)), (5, .int (nI best)), (4, .int (nI few)), (0, .ref h0), (1, .int x0), (2, .int y0), (3, .int z0)]) hx hb dX7_near_67 hl (by decide) rfl (fun ls hl => ?_)
              refine lv_iload hx hb dX7_near_69 (lv_at hl 0 rfl) ?_
              refine lv_iload hx hb dX7_near_71 (lv_at hl 3 rfl) ?_
              have mg_83 : W p l e ({ frames := 4, cells := 0, slots := 0, locals := 99 } : Room) s m ([.ref h0, .int x0, .int y0, .int z0] : List Value).toArray below meth c s.heap [] 0 0 (MQ below (QRi (qNe nw x0 y0 z0) s.heap) ([.ref h0, .int x0, .int y0, .int z0] : List Value).toArray s 0 0 NoA) (F0 m 83 ls (.int (if few ≤ unS (picS nw x0) (picS nw y0) i then (nI best) else (nI i)) :: [])) := by
                refine lv_eqi (show _ = (nI (if few ≤ unS (picS nw x0) (picS nw y0) i then best else i)) from ifI rfl rfl) ?_
                refine lv_istore (lv' := [(5, .int (nI (if few ≤ unS (picS nw x0) (picS nw y0) i then best else i))), (7, .int (nI (unS (picS nw x0) (picS nw y0) i))), (6, .int (nI i)), (4, .int (nI few)), (0, .ref h0), (1, .int x0), (2, .int y0), (3, .int z0)]) hx hb dX7_near_83 hl (by decide) rfl (fun ls hl => ?_)
                refine lv_iload hx hb dX7_near_85 (lv_at hl 1 rfl) ?_
                refine lv_iload hx hb dX7_near_87 (lv_at hl 3 rfl) ?_
                have mg_99 : W p l e ({ frames := 4, cells := 0, slots := 0, locals := 99 } : Room) s m ([.ref h0, .int x0, .int y0, .int z0] : List Value).toArray below meth c s.heap [] 0 0 (MQ below (QRi (qNe nw x0 y0 z0) s.heap) ([.ref h0, .int x0, .int y0, .int z0] : List Value).toArray s 0 0 NoA) (F0 m 99 ls (.int (if few ≤ unS (picS nw x0) (picS nw y0) i then (nI few) else (nI (unS (picS nw x0) (picS nw y0) i))) :: [])) := by
                  refine lv_eqi (show _ = (nI (if few ≤ unS (picS nw x0) (picS nw y0) i then few else unS (picS nw x0) (picS nw y0) i)) from ifI rfl rfl) ?_
                  refine lv_istore (lv' := [(4, .int (nI (if few ≤ unS (picS nw x0) (picS nw y0) i then few else unS (picS nw x0) (picS nw y0) i))), (5, .int (nI (if few ≤ unS (picS nw x0) (picS nw y0) i then best else i))), (7, .int (nI (unS (picS nw x0) (picS nw y0) i))), (6, .int (nI i)), (0, .ref h0), (1, .int x0), (2, .int y0), (3, .int z0)]) hx hb dX7_near_99 hl (by decide) rfl (fun ls hl => ?_)
                  refine lv_iinc (v := (nI (i + 1))) (lv' := [(6, .int (nI (i + 1))), (4, .int (nI (if few ≤ unS (picS nw x0) (picS nw y0) i then few else unS (picS nw x0) (picS nw y0) i))), (5, .int (nI (if few ≤ unS (picS nw x0) (picS nw y0) i then best else i))), (7, .int (nI (unS (picS nw x0) (picS nw y0) i))), (0, .ref h0), (1, .int x0), (2, .int y0), (3, .int z0)]) hx hb dX7_near_101 hl (k := 3) rfl (nI_1 i) (by decide) rfl (fun ls hl => ?_)
                  refine lv_goto (tgt := 39) hx hb dX7_near_104 (by decide) ?_
                  exact ih_39 (i + 1) (if few ≤ unS (picS nw x0) (picS nw y0) i then few else unS (picS nw x0) (picS nw y0) i) (if few ≤ unS (picS nw x0) (picS nw y0) i then best else i) (by omega) (nr_step h_n) (by omega) ls (lv_sub hl [0, 2, 1, 4, 5, 6, 7] rfl)
                refine ic_ge (a := unS (picS nw x0) (picS nw y0) i) (d := few) (tgt := 97) hx hb dX7_near_89 (by decide) rfl rfl (by omega) (by omega) (fun c_6 => ?_) (fun c_6 => ?_)
                · skip
                  refine lv_iload hx hb dX7_near_97 (lv_at hl 3 rfl) ?_
                  exact lv_eqi (by rw [if_pos c_6]) mg_99
                · skip
                  refine lv_iload hx hb dX7_near_92 (lv_at hl 1 rfl) ?_
                  refine lv_goto (tgt := 99) hx hb dX7_near_94 (by decide) ?_
                  exact lv_eqi (by rw [if_neg (Nat.not_le.mpr c_6)]) mg_99
              refine ic_ge (a := unS (picS nw x0) (picS nw y0) i) (d := few) (tgt := 81) hx hb dX7_near_73 (by decide) rfl rfl (by omega) (by omega) (fun c_7 => ?_) (fun c_7 => ?_)
              · skip
                refine lv_iload hx hb dX7_near_81 (lv_at hl 2 rfl) ?_
                exact lv_eqi (by rw [if_pos c_7]) mg_83
              · skip
                refine lv_iload hx hb dX7_near_76 (lv_at hl 1 rfl) ?_
                refine lv_goto (tgt := 83) hx hb dX7_near_78 (by decide) ?_
                exact lv_eqi (by rw [if_neg (Nat.not_le.mpr c_7)]) mg_83
        exact lp_39 9 0 65 0 (by omega) (Or.inl ⟨rfl, rfl, rfl⟩) (by omega) ls (lv_sub hl [0, 1, 2, 3, 4, 5, 6] rfl)
      · skip
        refine lv_bipush (v := (-2)) hx hb dX7_near_26 (by decide) ?_
        exact eR_i hx hb hr hlocks ((ne_no c_1 c_2 c_3).symm) dX7_near_28
    · skip
      refine lv_iconst (v := (-1)) hx hb dX7_near_14 (by decide) ?_
      exact eR_i hx hb hr hlocks (by unfold qNe; rw [if_pos c_1, if_neg (nt_of c_2)]) dX7_near_15
set_option maxHeartbeats 4000000 in
set_option maxRecDepth 100000 in
theorem c_X7_layTrial (l : Launch) (g : GG) (sz : Nat) (h0 : Nat) (d1 : Nat) (ln : Nat) (rd : Int64) (xd : Int32) (xq : Int32) (d2 : Nat) (an : Nat) (nx : Nat) (d3 : Nat) (d4 : Nat) (d5 : Nat) (d6 : Nat) (xm : Int32) (zn : Nat) (d7 : Nat) (d8 : Nat) (sd : Int64) (d9 : Nat) (d0 : Nat) (nw : Nat → Int64)  : Met l yX7_layTrial (Cond.code yX7_layTrial cX7_layTrial 2 none :: wsL_law) ({ frames := 0, cells := 0, slots := 0, locals := 0 }) (PM g [.ref h0] [(h0, .inr (6, [.ref d1, .int (nI ln), .long rd, .int xd, .int xq, .ref d2, .int (nI an), .int (nI nx), .ref d3, .ref d4, .ref d5, .ref d6, .int xm, .int (nI zn), .ref d7, .ref d8, .long sd, .ref d9, .ref d0])), (d2, .inl (gJ g, 6, .inr (.inl nw)))] sz) (QAv g (fun (u : Unit) => True) (fun (u : Unit) => [(h0, .inr (6, [.ref d1, .int (nI ln), .long rd, .int xd, .int xq, .ref d2, .int (nI an), .int (nI nx), .ref d3, .ref d4, .ref d5, .ref d6, .int xm, .int (nI zn), .ref d7, .ref d8, .long sd, .ref d9, .ref d0])), (d2, .inl (gJ g, 6, .inr (.inl (ltF nw))))]) (va_A [(h0, .inr (6, [.ref d1, .int (nI ln), .long rd, .int xd, .int xq, .ref d2, .int (nI an), .int (nI nx), .ref d3, .ref d4, .ref d5, .ref d6, .int xm, .int (nI zn), .ref d7, .ref d8, .long sd, .ref d9, .ref d0])), (d2, .inl (gJ g, 6, .inr (.inl nw)))] sz)) 0 0 (va_A [(h0, .inr (6, [.ref d1, .int (nI ln), .long rd, .int xd, .int xq, .ref d2, .int (nI an), .int (nI nx), .ref d3, .ref d4, .ref d5, .ref d6, .int xm, .int (nI zn), .ref d7, .ref d8, .long sd, .ref d9, .ref d0])), (d2, .inl (gJ g, 6, .inr (.inl nw)))] sz) := by
  refine Met.M (Qc := fun A => QAv g (fun (u : Unit) => True) (fun (u : Unit) => [(h0, .inr (6, [.ref d1, .int (nI ln), .long rd, .int xd, .int xq, .ref d2, .int (nI an), .int (nI nx), .ref d3, .ref d4, .ref d5, .ref d6, .int xm, .int (nI zn), .ref d7, .ref d8, .long sd, .ref d9, .ref d0])), (d2, .inl (gJ g, 6, .inr (.inl (ltF nw))))]) A) (by decide) (Nat.le_of_ble_eq_true rfl) rfl ?_
  intro p e s m below meth c hx hb hr hml hw hown hlocks hin A hA hkn hP hD ls hl
  have hl : lv_has ls 2 [(0, .ref h0)] := hl
  have hS : va_S A s.heap s.heap [] := va_S.rf
  obtain ⟨H, hHe⟩ : ∃ H, H = s.heap := ⟨_, rfl⟩
  obtain ⟨locs, hLe⟩ : ∃ locs : List Loc, locs = [] := ⟨_, rfl⟩
  have hP : va_P g.1 vwCl [(h0, .inr (6, [.ref d1, .int (nI ln), .long rd, .int xd, .int xq, .ref d2, .int (nI an), .int (nI nx), .ref d3, .ref d4, .ref d5, .ref d6, .int xm, .int (nI zn), .ref d7, .ref d8, .long sd, .ref d9, .ref d0])), (d2, .inl (gJ g, 6, .inr (.inl nw)))] H := by rw [hHe]; exact hP
  have hS : va_S A s.heap H locs := by rw [hHe, hLe]; exact hS
  have hgo : W p l e ({ frames := 0, cells := 0, slots := 0, locals := 0 } : Room) s m ([.ref h0] : List Value).toArray below meth c H locs 0 0 (MQ below (QAv g (fun (u : Unit) => True) (fun (u : Unit) => [(h0, .inr (6, [.ref d1, .int (nI ln), .long rd, .int xd, .int xq, .ref d2, .int (nI an), .int (nI nx), .ref d3, .ref d4, .ref d5, .ref d6, .int xm, .int (nI zn), .ref d7, .ref d8, .long sd, .ref d9, .ref d0])), (d2, .inl (gJ g, 6, .inr (.inl (ltF nw))))]) A) ([.ref h0] : List Value).toArray s 0 0 A) (F0 m 0 ls []) := ?_
  · rw [hHe, hLe] at hgo; exact hgo
  clear hHe hLe
  refine lv_iconst (v := 0) hx hb dX7_layTrial_0 (by decide) ?_
  refine lv_istore_n (lv' := [(1, .int 0), (0, .ref h0)]) hx hb dX7_layTrial_1 rfl hl (by decide) rfl (fun ls hl => ?_)
  have lp_2 : ∀ (n_2 : Nat) (i : Nat) (f1 : Nat → Int64), (i ≤ 3) → (f1 = fun t => if 3 ≤ t ∧ t < 3 + i then nw (t - 3) else nw t) → 3 < i + n_2 → ∀ (H : Heap) (locs : List Loc), va_P g.1 vwCl [(h0, .inr (6, [.ref d1, .int (nI ln), .long rd, .int xd, .int xq, .ref d2, .int (nI an), .int (nI nx), .ref d3, .ref d4, .ref d5, .ref d6, .int xm, .int (nI zn), .ref d7, .ref d8, .long sd, .ref d9, .ref d0])), (d2, .inl (gJ g, 6, .inr (.inl f1)))] H → va_D A [(h0, .inr (6, [.ref d1, .int (nI ln), .long rd, .int xd, .int xq, .ref d2, .int (nI an), .int (nI nx), .ref d3, .ref d4, .ref d5, .ref d6, .int xm, .int (nI zn), .ref d7, .ref d8, .long sd, .ref d9, .ref d0])), (d2, .inl (gJ g, 6, .inr (.inl f1)))] → va_S A s.heap H locs → ∀ (ls : Array Slot), lv_has ls 2 [(1, .int (nI i)), (0, .ref h0)] → W p l e ({ frames := 0, cells := 0, slots := 0, locals := 0 } : Room) s m ([.ref h0] : List Value).toArray below meth c H locs 0 0 (MQ below (QAv g (fun (u : Unit) => True) (fun (u : Unit) => [(h0, .inr (6, [.ref d1, .int (nI ln), .long rd, .int xd, .int xq, .ref d2, .int (nI an), .int (nI nx), .ref d3, .ref d4, .ref d5, .ref d6, .int xm, .int (nI zn), .ref d7, .ref d8, .long sd, .ref d9, .ref d0])), (d2, .inl (gJ g, 6, .inr (.inl (ltF nw))))]) A) ([.ref h0] : List Value).toArray s 0 0 A) (F0 m 2 ls []) := by
    intro n_2
    induction n_2 with
    | zero => intro i f1 h_i h_f hfu_2; exact absurd hfu_2 (by omega)
    | succ n_2 ih_2 =>
      intro i f1 h_i h_f hfu_2 H locs hP hD hS ls hl
      refine lv_iload_n hx hb dX7_layTrial_2 rfl (lv_at hl 0 rfl) ?_
      refine lv_iconst (v := 3) hx hb dX7_layTrial_3 (by decide) ?_
      refine ic_ge (a := i) (d := 3) (tgt := 27) hx hb dX7_layTrial_4 (by decide) rfl rfl (by omega) (by omega) (fun c_1 => ?_) (fun c_1 => ?_)
      · skip
        obtain rfl : i = 3 := by omega
        subst h_f
        exact eM_v (g := g) hx hb hr hlocks () (trivial) (hP.sub [0, 1] rfl) (hD.sub [0, 1] (by decide) rfl) hS dX7_layTrial_27
      · skip
        refine lv_aload_n hx hb dX7_layTrial_7 rfl (lv_at hl 1 rfl) ?_
        refine va_get (D := g.1) (ci := 6) (v := .ref d2) (C := RX7) (T := TX7) (N := 19) hx hb hw inlX7 hown hkn.1 hP 0 rfl rfl 5 (by decide) (hw _ mw_74) (fun _ h9 => h9) rfl dX7_layTrial_8 ?_
        refine lv_iconst (v := 3) hx hb dX7_layTrial_11 (by decide) ?_
        refine lv_iload_n hx hb dX7_layTrial_12 rfl (lv_at hl 0 rfl) ?_
        refine lv_iadd hx hb dX7_layTrial_13 ?_
        refine lv_eqi (nI_add 3 i) ?_
        refine lv_aload_n hx hb dX7_layTrial_14 rfl (lv_at hl 1 rfl) ?_
        refine va_get (D := g.1) (ci := 6) (v := .ref d2) (C := RX7) (T := TX7) (N := 19) hx hb hw inlX7 hown hkn.1 hP 0 rfl rfl 5 (by decide) (hw _ mw_74) (fun _ h9 => h9) rfl dX7_layTrial_15 ?_
        refine lv_iload_n hx hb dX7_layTrial_18 rfl (lv_at hl 0 rfl) ?_
        refine va_lald hx hb hkn.1 hP 1 1 rfl rfl (vp_in_nI (n := i) (by omega) (by decide)) dX7_layTrial_19 ?_
        refine lv_eql (show _ = f1 i by rw [nI_clamp (n := i) (by omega)]) ?_
        refine va_last hx hb hkn.1 hP hD hS 1 1 rfl rfl (vp_in_nI (n := 3 + i) (by omega) (by decide)) dX7_layTrial_20 (fun H locs hP hD hS => ?_)
        rw [nI_clamp (n := 3 + i) (by omega)] at hP hD
        have hP : va_P g.1 vwCl [(h0, .inr (6, [.ref d1, .int (nI ln), .long rd, .int xd, .int xq, .ref d2, .int (nI an), .int (nI nx), .ref d3, .ref d4, .ref d5, .ref d6, .int xm, .int (nI zn), .ref d7, .ref d8, .long sd, .ref d9, .ref d0])), (d2, .inl (gJ g, 6, .inr (.inl (vp_updL f1 (3 + i) (f1 i)))))] H := hP
        have hD : va_D A [(h0, .inr (6, [.ref d1, .int (nI ln), .long rd, .int xd, .int xq, .ref d2, .int (nI an), .int (nI nx), .ref d3, .ref d4, .ref d5, .ref d6, .int xm, .int (nI zn), .ref d7, .ref d8, .long sd, .ref d9, .ref d0])), (d2, .inl (gJ g, 6, .inr (.inl (vp_updL f1 (3 + i) (f1 i)))))] := hD
        refine lv_iinc (v := (nI (i + 1))) (lv' := [(1, .int (nI (i + 1))), (0, .ref h0)]) hx hb dX7_layTrial_21 hl (k := 0) rfl (nI_1 i) (by decide) rfl (fun ls hl => ?_)
        refine lv_goto (tgt := 2) hx hb dX7_layTrial_24 (by decide) ?_
        exact ih_2 (i + 1) (vp_updL f1 (3 + i) (f1 i)) (by omega) (by rw [h_f]; exact lt_step (by omega)) (by omega) _ _ hP hD hS ls (lv_sub hl [0, 1] rfl)
  exact lp_2 4 0 nw (by omega) (by funext t; rw [if_neg (by omega)]) (by omega) _ _ hP hD hS ls (lv_sub hl [0, 1] rfl)
set_option maxHeartbeats 4000000 in
set_option maxRecDepth 100000 in
theorem c_X7_tryThing (l : Launch) (g : GG) (sz : Nat) (h0 : Nat) (k : Int32) (x0 : Int32) (y0 : Int32) (d1 : Nat) (ln : Nat) (rd : Int64) (xd : Int32) (xq : Int32) (d2 : Nat) (an : Nat) (nx : Nat) (d3 : Nat) (d4 : Nat) (d5 : Nat) (d6 : Nat) (xm : Int32) (zn : Nat) (d7 : Nat) (d8 : Nat) (sd : Int64) (d9 : Nat) (d0 : Nat) (nw : Nat → Int64)  : Met l yX7_tryThing (Cond.code yX7_tryThing cX7_tryThing 7 (some .boolean) :: wsL_law) ({ frames := 5, cells := 0, slots := 0, locals := 124 }) (PM g [.ref h0, .int k, .int x0, .int y0] [(h0, .inr (6, [.ref d1, .int (nI ln), .long rd, .int xd, .int xq, .ref d2, .int (nI an), .int (nI nx), .ref d3, .ref d4, .ref d5, .ref d6, .int xm, .int (nI zn), .ref d7, .ref d8, .long sd, .ref d9, .ref d0])), (d2, .inl (gJ g, 6, .inr (.inl nw)))] sz) (QAi g (fun (r : Int32) (u : Unit) => r = b2i (doB (trF nw) k x0 y0)) (fun (u : Unit) => [(h0, .inr (6, [.ref d1, .int (nI ln), .long rd, .int xd, .int xq, .ref d2, .int (nI an), .int (nI nx), .ref d3, .ref d4, .ref d5, .ref d6, .int xm, .int (nI zn), .ref d7, .ref d8, .long sd, .ref d9, .ref d0])), (d2, .inl (gJ g, 6, .inr (.inl (mgT nw (doF (trF nw) k x0 y0)))))]) (va_A [(h0, .inr (6, [.ref d1, .int (nI ln), .long rd, .int xd, .int xq, .ref d2, .int (nI an), .int (nI nx), .ref d3, .ref d4, .ref d5, .ref d6, .int xm, .int (nI zn), .ref d7, .ref d8, .long sd, .ref d9, .ref d0])), (d2, .inl (gJ g, 6, .inr (.inl nw)))] sz)) 0 0 (va_A [(h0, .inr (6, [.ref d1, .int (nI ln), .long rd, .int xd, .int xq, .ref d2, .int (nI an), .int (nI nx), .ref d3, .ref d4, .ref d5, .ref d6, .int xm, .int (nI zn), .ref d7, .ref d8, .long sd, .ref d9, .ref d0])), (d2, .inl (gJ g, 6, .inr (.inl nw)))] sz) := by
  refine Met.M (Qc := fun A => QAi g (fun (r : Int32) (u : Unit) => r = b2i (doB (trF nw) k x0 y0)) (fun (u : Unit) => [(h0, .inr (6, [.ref d1, .int (nI ln), .long rd, .int xd, .int xq, .ref d2, .int (nI an), .int (nI nx), .ref d3, .ref d4, .ref d5, .ref d6, .int xm, .int (nI zn), .ref d7, .ref d8, .long sd, .ref d9, .ref d0])), (d2, .inl (gJ g, 6, .inr (.inl (mgT nw (doF (trF nw) k x0 y0)))))]) A) (by decide) (Nat.le_of_ble_eq_true rfl) rfl ?_
  intro p e s m below meth c hx hb hr hml hw hown hlocks hin A hA hkn hP hD ls hl
  have hl : lv_has ls 7 [(0, .ref h0), (1, .int k), (2, .int x0), (3, .int y0)] := hl
  have hS : va_S A s.heap s.heap [] := va_S.rf
  obtain ⟨H, hHe⟩ : ∃ H, H = s.heap := ⟨_, rfl⟩
  obtain ⟨locs, hLe⟩ : ∃ locs : List Loc, locs = [] := ⟨_, rfl⟩
  have hP : va_P g.1 vwCl [(h0, .inr (6, [.ref d1, .int (nI ln), .long rd, .int xd, .int xq, .ref d2, .int (nI an), .int (nI nx), .ref d3, .ref d4, .ref d5, .ref d6, .int xm, .int (nI zn), .ref d7, .ref d8, .long sd, .ref d9, .ref d0])), (d2, .inl (gJ g, 6, .inr (.inl nw)))] H := by rw [hHe]; exact hP
  have hS : va_S A s.heap H locs := by rw [hHe, hLe]; exact hS
  have hgo : W p l e ({ frames := 5, cells := 0, slots := 0, locals := 124 } : Room) s m ([.ref h0, .int k, .int x0, .int y0] : List Value).toArray below meth c H locs 0 0 (MQ below (QAi g (fun (r : Int32) (u : Unit) => r = b2i (doB (trF nw) k x0 y0)) (fun (u : Unit) => [(h0, .inr (6, [.ref d1, .int (nI ln), .long rd, .int xd, .int xq, .ref d2, .int (nI an), .int (nI nx), .ref d3, .ref d4, .ref d5, .ref d6, .int xm, .int (nI zn), .ref d7, .ref d8, .long sd, .ref d9, .ref d0])), (d2, .inl (gJ g, 6, .inr (.inl (mgT nw (doF (trF nw) k x0 y0)))))]) A) ([.ref h0, .int k, .int x0, .int y0] : List Value).toArray s 0 0 A) (F0 m 0 ls []) := ?_
  · rw [hHe, hLe] at hgo; exact hgo
  clear hHe hLe
  refine lv_iload_n hx hb dX7_tryThing_0 rfl (lv_at hl 1 rfl) ?_
  by_cases c_1 : k = 1
  · skip
    refine lv_tableIn (off := 51) (tgt := 52) hx hb dX7_tryThing_1 (by rw [c_1]; decide) (by rw [c_1]; decide) (by rw [c_1]; rfl) (by decide) ?_
    refine lv_iload_n hx hb dX7_tryThing_52 rfl (lv_at hl 2 rfl) ?_
    refine cS_i (As := [.int x0]) (rest := []) hx hb hml hown hw hkn hS hl (c_X7_isPicture l g _ x0 ) sf_X7_isPicture mw_245 ⟨(Nat.le_of_ble_eq_true rfl), (Nat.le_of_ble_eq_true rfl)⟩ rfl rfl rfl rfl (Nat.le_of_ble_eq_true rfl) dX7_tryThing_53 ⟨(Nat.le_of_ble_eq_true rfl), (Nat.le_of_ble_eq_true rfl)⟩ ?_
    have mg_76 : W p l e ({ frames := 5, cells := 0, slots := 0, locals := 124 } : Room) s m ([.ref h0, .int k, .int x0, .int y0] : List Value).toArray below meth c H locs 0 0 (MQ below (QAi g (fun (r : Int32) (u : Unit) => r = b2i (doB (trF nw) k x0 y0)) (fun (u : Unit) => [(h0, .inr (6, [.ref d1, .int (nI ln), .long rd, .int xd, .int xq, .ref d2, .int (nI an), .int (nI nx), .ref d3, .ref d4, .ref d5, .ref d6, .int xm, .int (nI zn), .ref d7, .ref d8, .long sd, .ref d9, .ref d0])), (d2, .inl (gJ g, 6, .inr (.inl (mgT nw (doF (trF nw) k x0 y0)))))]) A) ([.ref h0, .int k, .int x0, .int y0] : List Value).toArray s 0 0 A) (F0 m 76 ls (.int (if isPic x0 = true then (if isPic y0 = true then (if x0 = y0 then 0 else 1) else 0) else 0) :: [])) := by
      refine lv_eqi (show _ = (b2i (cbB x0 y0)) from by unfold cbB; cases isPic x0 <;> cases isPic y0 <;> by_cases h9 : x0 = y0 <;> simp [h9, b2i]) ?_
      refine lv_istore (lv' := [(4, .int (b2i (cbB x0 y0))), (0, .ref h0), (1, .int k), (2, .int x0), (3, .int y0)]) hx hb dX7_tryThing_76 hl (by decide) rfl (fun ls hl => ?_)
      refine lv_iload hx hb dX7_tryThing_78 (lv_at hl 0 rfl) ?_
      refine lv_ifeqB (b := (cbB x0 y0)) (tgt := 93) hx hb dX7_tryThing_80 (by decide) (fun c_2 => ?_) (fun c_2 => ?_)
      · skip
        refine lv_iload hx hb dX7_tryThing_93 (lv_at hl 0 rfl) ?_
        have eb : doB (trF nw) k x0 y0 = cbB x0 y0 := by unfold doB; rw [if_pos c_1]
        have e1 : mgT nw (doF (trF nw) k x0 y0) = nw := by unfold doF cbF; rw [if_pos c_1, if_neg (nt_of c_2)]; exact mgT_self nw
        exact eM_z (g := g) (b := doB (trF nw) k x0 y0) hx hb hr hlocks () (by rw [eb]; try rfl) (by rw [eb]; try rfl) (show va_P g.1 vwCl [(h0, .inr (6, [.ref d1, .int (nI ln), .long rd, .int xd, .int xq, .ref d2, .int (nI an), .int (nI nx), .ref d3, .ref d4, .ref d5, .ref d6, .int xm, .int (nI zn), .ref d7, .ref d8, .long sd, .ref d9, .ref d0])), (d2, .inl (gJ g, 6, .inr (.inl (mgT nw (doF (trF nw) k x0 y0)))))] H by rw [e1]; exact hP.sub [0, 1] rfl) (show va_D A [(h0, .inr (6, [.ref d1, .int (nI ln), .long rd, .int xd, .int xq, .ref d2, .int (nI an), .int (nI nx), .ref d3, .ref d4, .ref d5, .ref d6, .int xm, .int (nI zn), .ref d7, .ref d8, .long sd, .ref d9, .ref d0])), (d2, .inl (gJ g, 6, .inr (.inl (mgT nw (doF (trF nw) k x0 y0)))))] by rw [e1]; exact hD.sub [0, 1] (by decide) rfl) hS dX7_tryThing_95
      · skip
        have hcb := c_2
        obtain ⟨⟨px, py⟩, -⟩ : (isPic x0 = true ∧ isPic y0 = true) ∧ ¬ x0 = y0 := by have h9 := hcb; unfold cbB at h9; simp only [Bool.and_eq_true, Bool.not_eq_true', decide_eq_false_iff_not] at h9; exact h9
        obtain ⟨x9, hx9, ex9⟩ := isPic_of px
        obtain ⟨y9, hy9, ey9⟩ := isPic_of py
        refine lv_aload_n hx hb dX7_tryThing_83 rfl (lv_at hl 1 rfl) ?_
        refine lv_iconst (v := 1) hx hb dX7_tryThing_84 (by decide) ?_
        refine lv_iload_n hx hb dX7_tryThing_85 rfl (lv_at hl 2 rfl) ?_
        refine lv_iconst (v := 1) hx hb dX7_tryThing_86 (by decide) ?_
        refine lv_isub hx hb dX7_tryThing_87 ?_
        refine lv_iload_n hx hb dX7_tryThing_88 rfl (lv_at hl 3 rfl) ?_
        refine lv_eqi (show _ = (nI x9) from ex9) ?_
        refine lv_iload_n hx hb dX7_tryThing_89 rfl (lv_at hl 4 rfl) ?_
        refine lv_eqi (show _ = (nI y9) from ey9) ?_
        refine cVM_v (As := [.int 1, .int (k - 1), .int (nI x9), .int (nI y9)]) (rest := []) (q0 := 0) (wc := [(h0, .inr (6, [.ref d1, .int (nI ln), .long rd, .int xd, .int xq, .ref d2, .int (nI an), .int (nI nx), .ref d3, .ref d4, .ref d5, .ref d6, .int xm, .int (nI zn), .ref d7, .ref d8, .long sd, .ref d9, .ref d0])), (d2, .inl (gJ g, 6, .inr (.inl nw)))]) (wr := []) hx hb hml hown hw hkn hS hl hA hP hD [0, 1] [] rfl rfl (by decide) (by decide) (by decide) (c_X7_mixOn l g _ h0 1 (k - 1) x9 y9 d1 ln rd xd xq d2 an nx d3 d4 d5 d6 xm zn d7 d8 sd d9 d0 nw (by omega) (by omega) (by omega)) vf_X7_mixOn mw_276 rfl rfl ⟨(Nat.le_of_ble_eq_true rfl), (Nat.le_of_ble_eq_true rfl)⟩ rfl rfl rfl rfl (Nat.le_of_ble_eq_true rfl) dX7_tryThing_90 ⟨(Nat.le_of_ble_eq_true rfl), (Nat.le_of_ble_eq_true rfl)⟩ (fun u H locs hq hP hD hS => ?_)
        have hP : va_P g.1 vwCl [(h0, .inr (6, [.ref d1, .int (nI ln), .long rd, .int xd, .int xq, .ref d2, .int (nI an), .int (nI nx), .ref d3, .ref d4, .ref d5, .ref d6, .int xm, .int (nI zn), .ref d7, .ref d8, .long sd, .ref d9, .ref d0])), (d2, .inl (gJ g, 6, .inr (.inl (vp_updL nw (3 * 1 + x9) (mxS (k - 1) (nw (3 * 1 + x9)) (nw (3 * 1 + y9)))))))] H := hP.sub [0, 1] rfl
        have hD : va_D A [(h0, .inr (6, [.ref d1, .int (nI ln), .long rd, .int xd, .int xq, .ref d2, .int (nI an), .int (nI nx), .ref d3, .ref d4, .ref d5, .ref d6, .int xm, .int (nI zn), .ref d7, .ref d8, .long sd, .ref d9, .ref d0])), (d2, .inl (gJ g, 6, .inr (.inl (vp_updL nw (3 * 1 + x9) (mxS (k - 1) (nw (3 * 1 + x9)) (nw (3 * 1 + y9)))))))] := hD.sub [0, 1] (by decide) rfl
        refine lv_iload hx hb dX7_tryThing_93 (lv_at hl 0 rfl) ?_
        have eb : doB (trF nw) k x0 y0 = cbB x0 y0 := by unfold doB; rw [if_pos c_1]
        have e1 : mgT nw (doF (trF nw) k x0 y0) = (vp_updL nw (3 * 1 + x9) (mxS (k - 1) (nw (3 * 1 + x9)) (nw (3 * 1 + y9)))) := by unfold doF cbF; rw [if_pos c_1, if_pos hcb, ex9, ey9, picS_nI hx9, picS_nI hy9, ← mg_set hx9, c_1]; rfl
        exact eM_z (g := g) (b := doB (trF nw) k x0 y0) hx hb hr hlocks () (by rw [eb]; try rfl) (by rw [eb]; try rfl) (show va_P g.1 vwCl [(h0, .inr (6, [.ref d1, .int (nI ln), .long rd, .int xd, .int xq, .ref d2, .int (nI an), .int (nI nx), .ref d3, .ref d4, .ref d5, .ref d6, .int xm, .int (nI zn), .ref d7, .ref d8, .long sd, .ref d9, .ref d0])), (d2, .inl (gJ g, 6, .inr (.inl (mgT nw (doF (trF nw) k x0 y0)))))] H by rw [e1]; exact hP.sub [0, 1] rfl) (show va_D A [(h0, .inr (6, [.ref d1, .int (nI ln), .long rd, .int xd, .int xq, .ref d2, .int (nI an), .int (nI nx), .ref d3, .ref d4, .ref d5, .ref d6, .int xm, .int (nI zn), .ref d7, .ref d8, .long sd, .ref d9, .ref d0])), (d2, .inl (gJ g, 6, .inr (.inl (mgT nw (doF (trF nw) k x0 y0)))))] by rw [e1]; exact hD.sub [0, 1] (by decide) rfl) hS dX7_tryThing_95
    refine lv_ifeqB (b := isPic x0) (tgt := 75) hx hb dX7_tryThing_56 (by decide) (fun c_4 => ?_) (fun c_4 => ?_)
    · skip
      refine lv_iconst (v := 0) hx hb dX7_tryThing_75 (by decide) ?_
      exact lv_eqi (by rw [if_neg (nt_of c_4)]) mg_76
    · skip
      refine lv_iload_n hx hb dX7_tryThing_59 rfl (lv_at hl 3 rfl) ?_
      refine cS_i (As := [.int y0]) (rest := []) hx hb hml hown hw hkn hS hl (c_X7_isPicture l g _ y0 ) sf_X7_isPicture mw_245 ⟨(Nat.le_of_ble_eq_true rfl), (Nat.le_of_ble_eq_true rfl)⟩ rfl rfl rfl rfl (Nat.le_of_ble_eq_true rfl) dX7_tryThing_60 ⟨(Nat.le_of_ble_eq_true rfl), (Nat.le_of_ble_eq_true rfl)⟩ ?_
      refine lv_ifeqB (b := isPic y0) (tgt := 75) hx hb dX7_tryThing_63 (by decide) (fun c_5 => ?_) (fun c_5 => ?_)
      · skip
        refine lv_iconst (v := 0) hx hb dX7_tryThing_75 (by decide) ?_
        exact lv_eqi (by rw [if_pos c_4, if_neg (nt_of c_5)]) mg_76
      · skip
        refine lv_iload_n hx hb dX7_tryThing_66 rfl (lv_at hl 2 rfl) ?_
        refine lv_iload_n hx hb dX7_tryThing_67 rfl (lv_at hl 3 rfl) ?_
        refine lv_icmp_eq (tgt := 75) hx hb dX7_tryThing_68 (by decide) (fun c_6 => ?_) (fun c_6 => ?_)
        · skip
          refine lv_iconst (v := 0) hx hb dX7_tryThing_75 (by decide) ?_
          exact lv_eqi (by rw [if_pos c_4, if_pos c_5, if_pos c_6]) mg_76
        · skip
          refine lv_iconst (v := 1) hx hb dX7_tryThing_71 (by decide) ?_
          refine lv_goto (tgt := 76) hx hb dX7_tryThing_72 (by decide) ?_
          exact lv_eqi (by rw [if_pos c_4, if_pos c_5, if_neg c_6]) mg_76
  · skip
    by_cases c_7 : k = 2
    · skip
      refine lv_tableIn (off := 51) (tgt := 52) hx hb dX7_tryThing_1 (by rw [c_7]; decide) (by rw [c_7]; decide) (by rw [c_7]; rfl) (by decide) ?_
      refine lv_iload_n hx hb dX7_tryThing_52 rfl (lv_at hl 2 rfl) ?_
      refine cS_i (As := [.int x0]) (rest := []) hx hb hml hown hw hkn hS hl (c_X7_isPicture l g _ x0 ) sf_X7_isPicture mw_245 ⟨(Nat.le_of_ble_eq_true rfl), (Nat.le_of_ble_eq_true rfl)⟩ rfl rfl rfl rfl (Nat.le_of_ble_eq_true rfl) dX7_tryThing_53 ⟨(Nat.le_of_ble_eq_true rfl), (Nat.le_of_ble_eq_true rfl)⟩ ?_
      have mg_76 : W p l e ({ frames := 5, cells := 0, slots := 0, locals := 124 } : Room) s m ([.ref h0, .int k, .int x0, .int y0] : List Value).toArray below meth c H locs 0 0 (MQ below (QAi g (fun (r : Int32) (u : Unit) => r = b2i (doB (trF nw) k x0 y0)) (fun (u : Unit) => [(h0, .inr (6, [.ref d1, .int (nI ln), .long rd, .int xd, .int xq, .ref d2, .int (nI an), .int (nI nx), .ref d3, .ref d4, .ref d5, .ref d6, .int xm, .int (nI zn), .ref d7, .ref d8, .long sd, .ref d9, .ref d0])), (d2, .inl (gJ g, 6, .inr (.inl (mgT nw (doF (trF nw) k x0 y0)))))]) A) ([.ref h0, .int k, .int x0, .int y0] : List Value).toArray s 0 0 A) (F0 m 76 ls (.int (if isPic x0 = true then (if isPic y0 = true then (if x0 = y0 then 0 else 1) else 0) else 0) :: [])) := by
        refine lv_eqi (show _ = (b2i (cbB x0 y0)) from by unfold cbB; cases isPic x0 <;> cases isPic y0 <;> by_cases h9 : x0 = y0 <;> simp [h9, b2i]) ?_
        refine lv_istore (lv' := [(4, .int (b2i (cbB x0 y0))), (0, .ref h0), (1, .int k), (2, .int x0), (3, .int y0)]) hx hb dX7_tryThing_76 hl (by decide) rfl (fun ls hl => ?_)
        refine lv_iload hx hb dX7_tryThing_78 (lv_at hl 0 rfl) ?_
        refine lv_ifeqB (b := (cbB x0 y0)) (tgt := 93) hx hb dX7_tryThing_80 (by decide) (fun c_8 => ?_) (fun c_8 => ?_)
        · skip
          refine lv_iload hx hb dX7_tryThing_93 (lv_at hl 0 rfl) ?_
          have eb : doB (trF nw) k x0 y0 = cbB x0 y0 := by unfold doB; rw [if_neg c_1, if_pos c_7]
          have e1 : mgT nw (doF (trF nw) k x0 y0) = nw := by unfold doF cbF; rw [if_neg c_1, if_pos c_7, if_neg (nt_of c_8)]; exact mgT_self nw
          exact eM_z (g := g) (b := doB (trF nw) k x0 y0) hx hb hr hlocks () (by rw [eb]; try rfl) (by rw [eb]; try rfl) (show va_P g.1 vwCl [(h0, .inr (6, [.ref d1, .int (nI ln), .long rd, .int xd, .int xq, .ref d2, .int (nI an), .int (nI nx), .ref d3, .ref d4, .ref d5, .ref d6, .int xm, .int (nI zn), .ref d7, .ref d8, .long sd, .ref d9, .ref d0])), (d2, .inl (gJ g, 6, .inr (.inl (mgT nw (doF (trF nw) k x0 y0)))))] H by rw [e1]; exact hP.sub [0, 1] rfl) (show va_D A [(h0, .inr (6, [.ref d1, .int (nI ln), .long rd, .int xd, .int xq, .ref d2, .int (nI an), .int (nI nx), .ref d3, .ref d4, .ref d5, .ref d6, .int xm, .int (nI zn), .ref d7, .ref d8, .long sd, .ref d9, .ref d0])), (d2, .inl (gJ g, 6, .inr (.inl (mgT nw (doF (trF nw) k x0 y0)))))] by rw [e1]; exact hD.sub [0, 1] (by decide) rfl) hS dX7_tryThing_95
        · skip
          have hcb := c_8
          obtain ⟨⟨px, py⟩, -⟩ : (isPic x0 = true ∧ isPic y0 = true) ∧ ¬ x0 = y0 := by have h9 := hcb; unfold cbB at h9; simp only [Bool.and_eq_true, Bool.not_eq_true', decide_eq_false_iff_not] at h9; exact h9
          obtain ⟨x9, hx9, ex9⟩ := isPic_of px
          obtain ⟨y9, hy9, ey9⟩ := isPic_of py
          refine lv_aload_n hx hb dX7_tryThing_83 rfl (lv_at hl 1 rfl) ?_
          refine lv_iconst (v := 1) hx hb dX7_tryThing_84 (by decide) ?_
          refine lv_iload_n hx hb dX7_tryThing_85 rfl (lv_at hl 2 rfl) ?_
          refine lv_iconst (v := 1) hx hb dX7_tryThing_86 (by decide) ?_
          refine lv_isub hx hb dX7_tryThing_87 ?_
          refine lv_iload_n hx hb dX7_tryThing_88 rfl (lv_at hl 3 rfl) ?_
          refine lv_eqi (show _ = (nI x9) from ex9) ?_
          refine lv_iload_n hx hb dX7_tryThing_89 rfl (lv_at hl 4 rfl) ?_
          refine lv_eqi (show _ = (nI y9) from ey9) ?_
          refine cVM_v (As := [.int 1, .int (k - 1), .int (nI x9), .int (nI y9)]) (rest := []) (q0 := 0) (wc := [(h0, .inr (6, [.ref d1, .int (nI ln), .long rd, .int xd, .int xq, .ref d2, .int (nI an), .int (nI nx), .ref d3, .ref d4, .ref d5, .ref d6, .int xm, .int (nI zn), .ref d7, .ref d8, .long sd, .ref d9, .ref d0])), (d2, .inl (gJ g, 6, .inr (.inl nw)))]) (wr := []) hx hb hml hown hw hkn hS hl hA hP hD [0, 1] [] rfl rfl (by decide) (by decide) (by decide) (c_X7_mixOn l g _ h0 1 (k - 1) x9 y9 d1 ln rd xd xq d2 an nx d3 d4 d5 d6 xm zn d7 d8 sd d9 d0 nw (by omega) (by omega) (by omega)) vf_X7_mixOn mw_276 rfl rfl ⟨(Nat.le_of_ble_eq_true rfl), (Nat.le_of_ble_eq_true rfl)⟩ rfl rfl rfl rfl (Nat.le_of_ble_eq_true rfl) dX7_tryThing_90 ⟨(Nat.le_of_ble_eq_true rfl), (Nat.le_of_ble_eq_true rfl)⟩ (fun u H locs hq hP hD hS => ?_)
          have hP : va_P g.1 vwCl [(h0, .inr (6, [.ref d1, .int (nI ln), .long rd, .int xd, .int xq, .ref d2, .int (nI an), .int (nI nx), .ref d3, .ref d4, .ref d5, .ref d6, .int xm, .int (nI zn), .ref d7, .ref d8, .long sd, .ref d9, .ref d0])), (d2, .inl (gJ g, 6, .inr (.inl (vp_updL nw (3 * 1 + x9) (mxS (k - 1) (nw (3 * 1 + x9)) (nw (3 * 1 + y9)))))))] H := hP.sub [0, 1] rfl
          have hD : va_D A [(h0, .inr (6, [.ref d1, .int (nI ln), .long rd, .int xd, .int xq, .ref d2, .int (nI an), .int (nI nx), .ref d3, .ref d4, .ref d5, .ref d6, .int xm, .int (nI zn), .ref d7, .ref d8, .long sd, .ref d9, .ref d0])), (d2, .inl (gJ g, 6, .inr (.inl (vp_updL nw (3 * 1 + x9) (mxS (k - 1) (nw (3 * 1 + x9)) (nw (3 * 1 + y9)))))))] := hD.sub [0, 1] (by decide) rfl
          refine lv_iload hx hb dX7_tryThing_93 (lv_at hl 0 rfl) ?_
          have eb : doB (trF nw) k x0 y0 = cbB x0 y0 := by unfold doB; rw [if_neg c_1, if_pos c_7]
          have e1 : mgT nw (doF (trF nw) k x0 y0) = (vp_updL nw (3 * 1 + x9) (mxS (k - 1) (nw (3 * 1 + x9)) (nw (3 * 1 + y9)))) := by unfold doF cbF; rw [if_neg c_1, if_pos c_7, if_pos hcb, ex9, ey9, picS_nI hx9, picS_nI hy9, ← mg_set hx9, c_7]; rfl
          exact eM_z (g := g) (b := doB (trF nw) k x0 y0) hx hb hr hlocks () (by rw [eb]; try rfl) (by rw [eb]; try rfl) (show va_P g.1 vwCl [(h0, .inr (6, [.ref d1, .int (nI ln), .long rd, .int xd, .int xq, .ref d2, .int (nI an), .int (nI nx), .ref d3, .ref d4, .ref d5, .ref d6, .int xm, .int (nI zn), .ref d7, .ref d8, .long sd, .ref d9, .ref d0])), (d2, .inl (gJ g, 6, .inr (.inl (mgT nw (doF (trF nw) k x0 y0)))))] H by rw [e1]; exact hP.sub [0, 1] rfl) (show va_D A [(h0, .inr (6, [.ref d1, .int (nI ln), .long rd, .int xd, .int xq, .ref d2, .int (nI an), .int (nI nx), .ref d3, .ref d4, .ref d5, .ref d6, .int xm, .int (nI zn), .ref d7, .ref d8, .long sd, .ref d9, .ref d0])), (d2, .inl (gJ g, 6, .inr (.inl (mgT nw (doF (trF nw) k x0 y0)))))] by rw [e1]; exact hD.sub [0, 1] (by decide) rfl) hS dX7_tryThing_95
      refine lv_ifeqB (b := isPic x0) (tgt := 75) hx hb dX7_tryThing_56 (by decide) (fun c_10 => ?_) (fun c_10 => ?_)
      · skip
        refine lv_iconst (v := 0) hx hb dX7_tryThing_75 (by decide) ?_
        exact lv_eqi (by rw [if_neg (nt_of c_10)]) mg_76
      · skip
        refine lv_iload_n hx hb dX7_tryThing_59 rfl (lv_at hl 3 rfl) ?_
        refine cS_i (As := [.int y0]) (rest := []) hx hb hml hown hw hkn hS hl (c_X7_isPicture l g _ y0 ) sf_X7_isPicture mw_245 ⟨(Nat.le_of_ble_eq_true rfl), (Nat.le_of_ble_eq_true rfl)⟩ rfl rfl rfl rfl (Nat.le_of_ble_eq_true rfl) dX7_tryThing_60 ⟨(Nat.le_of_ble_eq_true rfl), (Nat.le_of_ble_eq_true rfl)⟩ ?_
        refine lv_ifeqB (b := isPic y0) (tgt := 75) hx hb dX7_tryThing_63 (by decide) (fun c_11 => ?_) (fun c_11 => ?_)
        · skip
          refine lv_iconst (v := 0) hx hb dX7_tryThing_75 (by decide) ?_
          exact lv_eqi (by rw [if_pos c_10, if_neg (nt_of c_11)]) mg_76
        · skip
          refine lv_iload_n hx hb dX7_tryThing_66 rfl (lv_at hl 2 rfl) ?_
          refine lv_iload_n hx hb dX7_tryThing_67 rfl (lv_at hl 3 rfl) ?_
          refine lv_icmp_eq (tgt := 75) hx hb dX7_tryThing_68 (by decide) (fun c_12 => ?_) (fun c_12 => ?_)
          · skip
            refine lv_iconst (v := 0) hx hb dX7_tryThing_75 (by decide) ?_
            exact lv_eqi (by rw [if_pos c_10, if_pos c_11, if_pos c_12]) mg_76
          · skip
            refine lv_iconst (v := 1) hx hb dX7_tryThing_71 (by decide) ?_
            refine lv_goto (tgt := 76) hx hb dX7_tryThing_72 (by decide) ?_
            exact lv_eqi (by rw [if_pos c_10, if_pos c_11, if_neg c_12]) mg_76
    · skip
      by_cases c_13 : k = 3
      · skip
        refine lv_tableIn (off := 51) (tgt := 52) hx hb dX7_tryThing_1 (by rw [c_13]; decide) (by rw [c_13]; decide) (by rw [c_13]; rfl) (by decide) ?_
        refine lv_iload_n hx hb dX7_tryThing_52 rfl (lv_at hl 2 rfl) ?_
        refine cS_i (As := [.int x0]) (rest := []) hx hb hml hown hw hkn hS hl (c_X7_isPicture l g _ x0 ) sf_X7_isPicture mw_245 ⟨(Nat.le_of_ble_eq_true rfl), (Nat.le_of_ble_eq_true rfl)⟩ rfl rfl rfl rfl (Nat.le_of_ble_eq_true rfl) dX7_tryThing_53 ⟨(Nat.le_of_ble_eq_true rfl), (Nat.le_of_ble_eq_true rfl)⟩ ?_
        have mg_76 : W p l e ({ frames := 5, cells := 0, slots := 0, locals := 124 } : Room) s m ([.ref h0, .int k, .int x0, .int y0] : List Value).toArray below meth c H locs 0 0 (MQ below (QAi g (fun (r : Int32) (u : Unit) => r = b2i (doB (trF nw) k x0 y0)) (fun (u : Unit) => [(h0, .inr (6, [.ref d1, .int (nI ln), .long rd, .int xd, .int xq, .ref d2, .int (nI an), .int (nI nx), .ref d3, .ref d4, .ref d5, .ref d6, .int xm, .int (nI zn), .ref d7, .ref d8, .long sd, .ref d9, .ref d0])), (d2, .inl (gJ g, 6, .inr (.inl (mgT nw (doF (trF nw) k x0 y0)))))]) A) ([.ref h0, .int k, .int x0, .int y0] : List Value).toArray s 0 0 A) (F0 m 76 ls (.int (if isPic x0 = true then (if isPic y0 = true then (if x0 = y0 then 0 else 1) else 0) else 0) :: [])) := by
          refine lv_eqi (show _ = (b2i (cbB x0 y0)) from by unfold cbB; cases isPic x0 <;> cases isPic y0 <;> by_cases h9 : x0 = y0 <;> simp [h9, b2i]) ?_
          refine lv_istore (lv' := [(4, .int (b2i (cbB x0 y0))), (0, .ref h0), (1, .int k), (2, .int x0), (3, .int y0)]) hx hb dX7_tryThing_76 hl (by decide) rfl (fun ls hl => ?_)
          refine lv_iload hx hb dX7_tryThing_78 (lv_at hl 0 rfl) ?_
          refine lv_ifeqB (b := (cbB x0 y0)) (tgt := 93) hx hb dX7_tryThing_80 (by decide) (fun c_14 => ?_) (fun c_14 => ?_)
          · skip
            refine lv_iload hx hb dX7_tryThing_93 (lv_at hl 0 rfl) ?_
            have eb : doB (trF nw) k x0 y0 = cbB x0 y0 := by unfold doB; rw [if_neg c_1, if_neg c_7, if_pos c_13]
            have e1 : mgT nw (doF (trF nw) k x0 y0) = nw := by unfold doF cbF; rw [if_neg c_1, if_neg c_7, if_pos c_13, if_neg (nt_of c_14)]; exact mgT_self nw
            exact eM_z (g := g) (b := doB (trF nw) k x0 y0) hx hb hr hlocks () (by rw [eb]; try rfl) (by rw [eb]; try rfl) (show va_P g.1 vwCl [(h0, .inr (6, [.ref d1, .int (nI ln), .long rd, .int xd, .int xq, .ref d2, .int (nI an), .int (nI nx), .ref d3, .ref d4, .ref d5, .ref d6, .int xm, .int (nI zn), .ref d7, .ref d8, .long sd, .ref d9, .ref d0])), (d2, .inl (gJ g, 6, .inr (.inl (mgT nw (doF (trF nw) k x0 y0)))))] H by rw [e1]; exact hP.sub [0, 1] rfl) (show va_D A [(h0, .inr (6, [.ref d1, .int (nI ln), .long rd, .int xd, .int xq, .ref d2, .int (nI an), .int (nI nx), .ref d3, .ref d4, .ref d5, .ref d6, .int xm, .int (nI zn), .ref d7, .ref d8, .long sd, .ref d9, .ref d0])), (d2, .inl (gJ g, 6, .inr (.inl (mgT nw (doF (trF nw) k x0 y0)))))] by rw [e1]; exact hD.sub [0, 1] (by decide) rfl) hS dX7_tryThing_95
          · skip
            have hcb := c_14
            obtain ⟨⟨px, py⟩, -⟩ : (isPic x0 = true ∧ isPic y0 = true) ∧ ¬ x0 = y0 := by have h9 := hcb; unfold cbB at h9; simp only [Bool.and_eq_true, Bool.not_eq_true', decide_eq_false_iff_not] at h9; exact h9
            obtain ⟨x9, hx9, ex9⟩ := isPic_of px
            obtain ⟨y9, hy9, ey9⟩ := isPic_of py
            refine lv_aload_n hx hb dX7_tryThing_83 rfl (lv_at hl 1 rfl) ?_
            refine lv_iconst (v := 1) hx hb dX7_tryThing_84 (by decide) ?_
            refine lv_iload_n hx hb dX7_tryThing_85 rfl (lv_at hl 2 rfl) ?_
            refine lv_iconst (v := 1) hx hb dX7_tryThing_86 (by decide) ?_
            refine lv_isub hx hb dX7_tryThing_87 ?_
            refine lv_iload_n hx hb dX7_tryThing_88 rfl (lv_at hl 3 rfl) ?_
            refine lv_eqi (show _ = (nI x9) from ex9) ?_
            refine lv_iload_n hx hb dX7_tryThing_89 rfl (lv_at hl 4 rfl) ?_
            refine lv_eqi (show _ = (nI y9) from ey9) ?_
            refine cVM_v (As := [.int 1, .int (k - 1), .int (nI x9), .int (nI y9)]) (rest := []) (q0 := 0) (wc := [(h0, .inr (6, [.ref d1, .int (nI ln), .long rd, .int xd, .int xq, .ref d2, .int (nI an), .int (nI nx), .ref d3, .ref d4, .ref d5, .ref d6, .int xm, .int (nI zn), .ref d7, .ref d8, .long sd, .ref d9, .ref d0])), (d2, .inl (gJ g, 6, .inr (.inl nw)))]) (wr := []) hx hb hml hown hw hkn hS hl hA hP hD [0, 1] [] rfl rfl (by decide) (by decide) (by decide) (c_X7_mixOn l g _ h0 1 (k - 1) x9 y9 d1 ln rd xd xq d2 an nx d3 d4 d5 d6 xm zn d7 d8 sd d9 d0 nw (by omega) (by omega) (by omega)) vf_X7_mixOn mw_276 rfl rfl ⟨(Nat.le_of_ble_eq_true rfl), (Nat.le_of_ble_eq_true rfl)⟩ rfl rfl rfl rfl (Nat.le_of_ble_eq_true rfl) dX7_tryThing_90 ⟨(Nat.le_of_ble_eq_true rfl), (Nat.le_of_ble_eq_true rfl)⟩ (fun u H locs hq hP hD hS => ?_)
            have hP : va_P g.1 vwCl [(h0, .inr (6, [.ref d1, .int (nI ln), .long rd, .int xd, .int xq, .ref d2, .int (nI an), .int (nI nx), .ref d3, .ref d4, .ref d5, .ref d6, .int xm, .int (nI zn), .ref d7, .ref d8, .long sd, .ref d9, .ref d0])), (d2, .inl (gJ g, 6, .inr (.inl (vp_updL nw (3 * 1 + x9) (mxS (k - 1) (nw (3 * 1 + x9)) (nw (3 * 1 + y9)))))))] H := hP.sub [0, 1] rfl
            have hD : va_D A [(h0, .inr (6, [.ref d1, .int (nI ln), .long rd, .int xd, .int xq, .ref d2, .int (nI an), .int (nI nx), .ref d3, .ref d4, .ref d5, .ref d6, .int xm, .int (nI zn), .ref d7, .ref d8, .long sd, .ref d9, .ref d0])), (d2, .inl (gJ g, 6, .inr (.inl (vp_updL nw (3 * 1 + x9) (mxS (k - 1) (nw (3 * 1 + x9)) (nw (3 * 1 + y9)))))))] := hD.sub [0, 1] (by decide) rfl
            refine lv_iload hx hb dX7_tryThing_93 (lv_at hl 0 rfl) ?_
            have eb : doB (trF nw) k x0 y0 = cbB x0 y0 := by unfold doB; rw [if_neg c_1, if_neg c_7, if_pos c_13]
            have e1 : mgT nw (doF (trF nw) k x0 y0) = (vp_updL nw (3 * 1 + x9) (mxS (k - 1) (nw (3 * 1 + x9)) (nw (3 * 1 + y9)))) := by unfold doF cbF; rw [if_neg c_1, if_neg c_7, if_pos c_13, if_pos hcb, ex9, ey9, picS_nI hx9, picS_nI hy9, ← mg_set hx9, c_13]; rfl
            exact eM_z (g := g) (b := doB (trF nw) k x0 y0) hx hb hr hlocks () (by rw [eb]; try rfl) (by rw [eb]; try rfl) (show va_P g.1 vwCl [(h0, .inr (6, [.ref d1, .int (nI ln), .long rd, .int xd, .int xq, .ref d2, .int (nI an), .int (nI nx), .ref d3, .ref d4, .ref d5, .ref d6, .int xm, .int (nI zn), .ref d7, .ref d8, .long sd, .ref d9, .ref d0])), (d2, .inl (gJ g, 6, .inr (.inl (mgT nw (doF (trF nw) k x0 y0)))))] H by rw [e1]; exact hP.sub [0, 1] rfl) (show va_D A [(h0, .inr (6, [.ref d1, .int (nI ln), .long rd, .int xd, .int xq, .ref d2, .int (nI an), .int (nI nx), .ref d3, .ref d4, .ref d5, .ref d6, .int xm, .int (nI zn), .ref d7, .ref d8, .long sd, .ref d9, .ref d0])), (d2, .inl (gJ g, 6, .inr (.inl (mgT nw (doF (trF nw) k x0 y0)))))] by rw [e1]; exact hD.sub [0, 1] (by decide) rfl) hS dX7_tryThing_95
        refine lv_ifeqB (b := isPic x0) (tgt := 75) hx hb dX7_tryThing_56 (by decide) (fun c_16 => ?_) (fun c_16 => ?_)
        · skip
          refine lv_iconst (v := 0) hx hb dX7_tryThing_75 (by decide) ?_
          exact lv_eqi (by rw [if_neg (nt_of c_16)]) mg_76
        · skip
          refine lv_iload_n hx hb dX7_tryThing_59 rfl (lv_at hl 3 rfl) ?_
          refine cS_i (As := [.int y0]) (rest := []) hx hb hml hown hw hkn hS hl (c_X7_isPicture l g _ y0 ) sf_X7_isPicture mw_245 ⟨(Nat.le_of_ble_eq_true rfl), (Nat.le_of_ble_eq_true rfl)⟩ rfl rfl rfl rfl (Nat.le_of_ble_eq_true rfl) dX7_tryThing_60 ⟨(Nat.le_of_ble_eq_true rfl), (Nat.le_of_ble_eq_true rfl)⟩ ?_
          refine lv_ifeqB (b := isPic y0) (tgt := 75) hx hb dX7_tryThing_63 (by decide) (fun c_17 => ?_) (fun c_17 => ?_)
          · skip
            refine lv_iconst (v := 0) hx hb dX7_tryThing_75 (by decide) ?_
            exact lv_eqi (by rw [if_pos c_16, if_neg (nt_of c_17)]) mg_76
          · skip
            refine lv_iload_n hx hb dX7_tryThing_66 rfl (lv_at hl 2 rfl) ?_
            refine lv_iload_n hx hb dX7_tryThing_67 rfl (lv_at hl 3 rfl) ?_
            refine lv_icmp_eq (tgt := 75) hx hb dX7_tryThing_68 (by decide) (fun c_18 => ?_) (fun c_18 => ?_)
            · skip
              refine lv_iconst (v := 0) hx hb dX7_tryThing_75 (by decide) ?_
              exact lv_eqi (by rw [if_pos c_16, if_pos c_17, if_pos c_18]) mg_76
            · skip
              refine lv_iconst (v := 1) hx hb dX7_tryThing_71 (by decide) ?_
              refine lv_goto (tgt := 76) hx hb dX7_tryThing_72 (by decide) ?_
              exact lv_eqi (by rw [if_pos c_16, if_pos c_17, if_neg c_18]) mg_76
      · skip
        by_cases c_19 : k = 4
        · skip
          refine lv_tableIn (off := 95) (tgt := 96) hx hb dX7_tryThing_1 (by rw [c_19]; decide) (by rw [c_19]; decide) (by rw [c_19]; rfl) (by decide) ?_
          refine lv_iload_n hx hb dX7_tryThing_96 rfl (lv_at hl 2 rfl) ?_
          have mg_112 : W p l e ({ frames := 5, cells := 0, slots := 0, locals := 124 } : Room) s m ([.ref h0, .int k, .int x0, .int y0] : List Value).toArray below meth c H locs 0 0 (MQ below (QAi g (fun (r : Int32) (u : Unit) => r = b2i (doB (trF nw) k x0 y0)) (fun (u : Unit) => [(h0, .inr (6, [.ref d1, .int (nI ln), .long rd, .int xd, .int xq, .ref d2, .int (nI an), .int (nI nx), .ref d3, .ref d4, .ref d5, .ref d6, .int xm, .int (nI zn), .ref d7, .ref d8, .long sd, .ref d9, .ref d0])), (d2, .inl (gJ g, 6, .inr (.inl (mgT nw (doF (trF nw) k x0 y0)))))]) A) ([.ref h0, .int k, .int x0, .int y0] : List Value).toArray s 0 0 A) (F0 m 112 ls (.int (if x0 = 0 then (if isPic y0 = true then 1 else 0) else 0) :: [])) := by
            refine lv_eqi (show _ = (b2i (decide (x0 = 0) && isPic y0)) from by cases isPic y0 <;> by_cases h9 : x0 = 0 <;> simp [h9, b2i]) ?_
            refine lv_istore (lv' := [(5, .int (b2i (decide (x0 = 0) && isPic y0))), (0, .ref h0), (1, .int k), (2, .int x0), (3, .int y0)]) hx hb dX7_tryThing_112 hl (by decide) rfl (fun ls hl => ?_)
            refine lv_iload hx hb dX7_tryThing_114 (lv_at hl 0 rfl) ?_
            refine lv_ifeqB (b := (decide (x0 = 0) && isPic y0)) (tgt := 157) hx hb dX7_tryThing_116 (by decide) (fun c_20 => ?_) (fun c_20 => ?_)
            · skip
              refine lv_iload hx hb dX7_tryThing_157 (lv_at hl 0 rfl) ?_
              have eb : doB (trF nw) k x0 y0 = (decide (x0 = 0) && isPic y0) := by unfold doB; rw [if_neg c_1, if_neg c_7, if_neg c_13, if_pos c_19]
              have e1 : mgT nw (doF (trF nw) k x0 y0) = nw := by unfold doF mvF; rw [if_neg c_1, if_neg c_7, if_neg c_13, if_pos c_19]; by_cases h9 : x0 = 0; (rw [if_pos h9, if_neg (fun q => by rw [decide_eq_true h9, q] at c_20; exact absurd c_20 (by decide))]; exact mgT_self nw); (rw [if_neg h9]; exact mgT_self nw)
              exact eM_z (g := g) (b := doB (trF nw) k x0 y0) hx hb hr hlocks () (by rw [eb]; try rfl) (by rw [eb]; try rfl) (show va_P g.1 vwCl [(h0, .inr (6, [.ref d1, .int (nI ln), .long rd, .int xd, .int xq, .ref d2, .int (nI an), .int (nI nx), .ref d3, .ref d4, .ref d5, .ref d6, .int xm, .int (nI zn), .ref d7, .ref d8, .long sd, .ref d9, .ref d0])), (d2, .inl (gJ g, 6, .inr (.inl (mgT nw (doF (trF nw) k x0 y0)))))] H by rw [e1]; exact hP.sub [0, 1] rfl) (show va_D A [(h0, .inr (6, [.ref d1, .int (nI ln), .long rd, .int xd, .int xq, .ref d2, .int (nI an), .int (nI nx), .ref d3, .ref d4, .ref d5, .ref d6, .int xm, .int (nI zn), .ref d7, .ref d8, .long sd, .ref d9, .ref d0])), (d2, .inl (gJ g, 6, .inr (.inl (mgT nw (doF (trF nw) k x0 y0)))))] by rw [e1]; exact hD.sub [0, 1] (by decide) rfl) hS dX7_tryThing_159
            · skip
              obtain ⟨hx0, py⟩ := (Bool.and_eq_true _ _).mp c_20
              obtain ⟨y9, hy9, ey9⟩ := isPic_of py
              refine lv_aload_n hx hb dX7_tryThing_119 rfl (lv_at hl 1 rfl) ?_
              refine va_get (D := g.1) (ci := 6) (v := .ref d2) (C := RX7) (T := TX7) (N := 19) hx hb hw inlX7 hown hkn.1 hP 0 rfl rfl 5 (by decide) (hw _ mw_74) (fun _ h9 => h9) rfl dX7_tryThing_120 ?_
              refine lv_iconst (v := 3) hx hb dX7_tryThing_123 (by decide) ?_
              refine lv_iload_n hx hb dX7_tryThing_124 rfl (lv_at hl 4 rfl) ?_
              refine lv_eqi (show _ = (nI y9) from ey9) ?_
              refine lv_iadd hx hb dX7_tryThing_125 ?_
              refine lv_eqi (nI_add 3 y9) ?_
              refine lv_iload_n hx hb dX7_tryThing_126 rfl (lv_at hl 2 rfl) ?_
              refine lv_iconst (v := 4) hx hb dX7_tryThing_127 (by decide) ?_
              have mg_156 : W p l e ({ frames := 5, cells := 0, slots := 0, locals := 124 } : Room) s m ([.ref h0, .int k, .int x0, .int y0] : List Value).toArray below meth c H locs 0 0 (MQ below (QAi g (fun (r : Int32) (u : Unit) => r = b2i (doB (trF nw) k x0 y0)) (fun (u : Unit) => [(h0, .inr (6, [.ref d1, .int (nI ln), .long rd, .int xd, .int xq, .ref d2, .int (nI an), .int (nI nx), .ref d3, .ref d4, .ref d5, .ref d6, .int xm, .int (nI zn), .ref d7, .ref d8, .long sd, .ref d9, .ref d0])), (d2, .inl (gJ g, 6, .inr (.inl (mgT nw (doF (trF nw) k x0 y0)))))]) A) ([.ref h0, .int k, .int x0, .int y0] : List Value).toArray s 0 0 A) (F0 m 156 ls (.long (if k = 4 then (tuS (nw (3 + y9))) else (flS (nw (3 + y9)))) :: [.int (nI (3 + y9)), .ref d2])) := by
                refine va_last hx hb hkn.1 hP hD hS 1 1 rfl rfl (vp_in_nI (n := 3 + y9) (by omega) (by decide)) dX7_tryThing_156 (fun H locs hP hD hS => ?_)
                rw [nI_clamp (n := 3 + y9) (by omega)] at hP hD
                have hP : va_P g.1 vwCl [(h0, .inr (6, [.ref d1, .int (nI ln), .long rd, .int xd, .int xq, .ref d2, .int (nI an), .int (nI nx), .ref d3, .ref d4, .ref d5, .ref d6, .int xm, .int (nI zn), .ref d7, .ref d8, .long sd, .ref d9, .ref d0])), (d2, .inl (gJ g, 6, .inr (.inl (vp_updL nw (3 + y9) (if k = 4 then (tuS (nw (3 + y9))) else (flS (nw (3 + y9))))))))] H := hP
                have hD : va_D A [(h0, .inr (6, [.ref d1, .int (nI ln), .long rd, .int xd, .int xq, .ref d2, .int (nI an), .int (nI nx), .ref d3, .ref d4, .ref d5, .ref d6, .int xm, .int (nI zn), .ref d7, .ref d8, .long sd, .ref d9, .ref d0])), (d2, .inl (gJ g, 6, .inr (.inl (vp_updL nw (3 + y9) (if k = 4 then (tuS (nw (3 + y9))) else (flS (nw (3 + y9))))))))] := hD
                refine lv_iload hx hb dX7_tryThing_157 (lv_at hl 0 rfl) ?_
                have eb : doB (trF nw) k x0 y0 = (decide (x0 = 0) && isPic y0) := by unfold doB; rw [if_neg c_1, if_neg c_7, if_neg c_13, if_pos c_19]
                have e1 : mgT nw (doF (trF nw) k x0 y0) = (vp_updL nw (3 + y9) (if k = 4 then (tuS (nw (3 + y9))) else (flS (nw (3 + y9))))) := by unfold doF mvF; rw [if_neg c_1, if_neg c_7, if_neg c_13, if_pos c_19, if_pos (of_decide_eq_true hx0), if_pos py, ey9, picS_nI hy9, ← mg_set hy9, c_19]; rfl
                exact eM_z (g := g) (b := doB (trF nw) k x0 y0) hx hb hr hlocks () (by rw [eb]; try rfl) (by rw [eb]; try rfl) (show va_P g.1 vwCl [(h0, .inr (6, [.ref d1, .int (nI ln), .long rd, .int xd, .int xq, .ref d2, .int (nI an), .int (nI nx), .ref d3, .ref d4, .ref d5, .ref d6, .int xm, .int (nI zn), .ref d7, .ref d8, .long sd, .ref d9, .ref d0])), (d2, .inl (gJ g, 6, .inr (.inl (mgT nw (doF (trF nw) k x0 y0)))))] H by rw [e1]; exact hP.sub [0, 1] rfl) (show va_D A [(h0, .inr (6, [.ref d1, .int (nI ln), .long rd, .int xd, .int xq, .ref d2, .int (nI an), .int (nI nx), .ref d3, .ref d4, .ref d5, .ref d6, .int xm, .int (nI zn), .ref d7, .ref d8, .long sd, .ref d9, .ref d0])), (d2, .inl (gJ g, 6, .inr (.inl (mgT nw (doF (trF nw) k x0 y0)))))] by rw [e1]; exact hD.sub [0, 1] (by decide) rfl) hS dX7_tryThing_159
              refine lv_icmp_ne (tgt := 145) hx hb dX7_tryThing_128 (by decide) (fun c_21 => ?_) (fun c_21 => ?_)
              · skip
                refine lv_aload_n hx hb dX7_tryThing_145 rfl (lv_at hl 1 rfl) ?_
                refine va_get (D := g.1) (ci := 6) (v := .ref d2) (C := RX7) (T := TX7) (N := 19) hx hb hw inlX7 hown hkn.1 hP 0 rfl rfl 5 (by decide) (hw _ mw_74) (fun _ h9 => h9) rfl dX7_tryThing_146 ?_
                refine lv_iconst (v := 3) hx hb dX7_tryThing_149 (by decide) ?_
                refine lv_iload_n hx hb dX7_tryThing_150 rfl (lv_at hl 4 rfl) ?_
                refine lv_eqi (show _ = (nI y9) from ey9) ?_
                refine lv_iadd hx hb dX7_tryThing_151 ?_
                refine lv_eqi (nI_add 3 y9) ?_
                refine va_lald hx hb hkn.1 hP 1 1 rfl rfl (vp_in_nI (n := 3 + y9) (by omega) (by decide)) dX7_tryThing_152 ?_
                refine lv_eql (show _ = nw (3 + y9) by rw [nI_clamp (n := 3 + y9) (by omega)]) ?_
                refine cS_l (As := [.long (nw (3 + y9))]) (rest := [.int (nI (3 + y9)), .ref d2]) hx hb hml hown hw hkn hS hl (c_X7_flipped l g _ (nw (3 + y9)) ) sf_X7_flipped mw_336 ⟨(Nat.le_of_ble_eq_true rfl), (Nat.le_of_ble_eq_true rfl)⟩ rfl rfl rfl rfl (Nat.le_of_ble_eq_true rfl) dX7_tryThing_153 ⟨(Nat.le_of_ble_eq_true rfl), (Nat.le_of_ble_eq_true rfl)⟩ ?_
                exact lv_eql (by rw [if_neg c_21]) mg_156
              · skip
                refine lv_aload_n hx hb dX7_tryThing_131 rfl (lv_at hl 1 rfl) ?_
                refine va_get (D := g.1) (ci := 6) (v := .ref d2) (C := RX7) (T := TX7) (N := 19) hx hb hw inlX7 hown hkn.1 hP 0 rfl rfl 5 (by decide) (hw _ mw_74) (fun _ h9 => h9) rfl dX7_tryThing_132 ?_
                refine lv_iconst (v := 3) hx hb dX7_tryThing_135 (by decide) ?_
                refine lv_iload_n hx hb dX7_tryThing_136 rfl (lv_at hl 4 rfl) ?_
                refine lv_eqi (show _ = (nI y9) from ey9) ?_
                refine lv_iadd hx hb dX7_tryThing_137 ?_
                refine lv_eqi (nI_add 3 y9) ?_
                refine va_lald hx hb hkn.1 hP 1 1 rfl rfl (vp_in_nI (n := 3 + y9) (by omega) (by decide)) dX7_tryThing_138 ?_
                refine lv_eql (show _ = nw (3 + y9) by rw [nI_clamp (n := 3 + y9) (by omega)]) ?_
                refine cS_l (As := [.long (nw (3 + y9))]) (rest := [.int (nI (3 + y9)), .ref d2]) hx hb hml hown hw hkn hS hl (c_X7_turned l g _ (nw (3 + y9)) ) sf_X7_turned mw_318 ⟨(Nat.le_of_ble_eq_true rfl), (Nat.le_of_ble_eq_true rfl)⟩ rfl rfl rfl rfl (Nat.le_of_ble_eq_true rfl) dX7_tryThing_139 ⟨(Nat.le_of_ble_eq_true rfl), (Nat.le_of_ble_eq_true rfl)⟩ ?_
                refine lv_goto (tgt := 156) hx hb dX7_tryThing_142 (by decide) ?_
                exact lv_eql (by rw [if_pos c_21]) mg_156
          refine lv_if_ne (tgt := 111) hx hb dX7_tryThing_97 (by decide) (fun c_22 => ?_) (fun c_22 => ?_)
          · skip
            refine lv_iconst (v := 0) hx hb dX7_tryThing_111 (by decide) ?_
            exact lv_eqi (by rw [if_neg c_22]) mg_112
          · skip
            refine lv_iload_n hx hb dX7_tryThing_100 rfl (lv_at hl 3 rfl) ?_
            refine cS_i (As := [.int y0]) (rest := []) hx hb hml hown hw hkn hS hl (c_X7_isPicture l g _ y0 ) sf_X7_isPicture mw_245 ⟨(Nat.le_of_ble_eq_true rfl), (Nat.le_of_ble_eq_true rfl)⟩ rfl rfl rfl rfl (Nat.le_of_ble_eq_true rfl) dX7_tryThing_101 ⟨(Nat.le_of_ble_eq_true rfl), (Nat.le_of_ble_eq_true rfl)⟩ ?_
            refine lv_ifeqB (b := isPic y0) (tgt := 111) hx hb dX7_tryThing_104 (by decide) (fun c_23 => ?_) (fun c_23 => ?_)
            · skip
              refine lv_iconst (v := 0) hx hb dX7_tryThing_111 (by decide) ?_
              exact lv_eqi (by rw [if_pos c_22, if_neg (nt_of c_23)]) mg_112
            · skip
              refine lv_iconst (v := 1) hx hb dX7_tryThing_107 (by decide) ?_
              refine lv_goto (tgt := 112) hx hb dX7_tryThing_108 (by decide) ?_
              exact lv_eqi (by rw [if_pos c_22, if_pos c_23]) mg_112
        · skip
          by_cases c_24 : k = 5
          · skip
            refine lv_tableIn (off := 95) (tgt := 96) hx hb dX7_tryThing_1 (by rw [c_24]; decide) (by rw [c_24]; decide) (by rw [c_24]; rfl) (by decide) ?_
            refine lv_iload_n hx hb dX7_tryThing_96 rfl (lv_at hl 2 rfl) ?_
            have mg_112 : W p l e ({ frames := 5, cells := 0, slots := 0, locals := 124 } : Room) s m ([.ref h0, .int k, .int x0, .int y0] : List Value).toArray below meth c H locs 0 0 (MQ below (QAi g (fun (r : Int32) (u : Unit) => r = b2i (doB (trF nw) k x0 y0)) (fun (u : Unit) => [(h0, .inr (6, [.ref d1, .int (nI ln), .long rd, .int xd, .int xq, .ref d2, .int (nI an), .int (nI nx), .ref d3, .ref d4, .ref d5, .ref d6, .int xm, .int (nI zn), .ref d7, .ref d8, .long sd, .ref d9, .ref d0])), (d2, .inl (gJ g, 6, .inr (.inl (mgT nw (doF (trF nw) k x0 y0)))))]) A) ([.ref h0, .int k, .int x0, .int y0] : List Value).toArray s 0 0 A) (F0 m 112 ls (.int (if x0 = 0 then (if isPic y0 = true then 1 else 0) else 0) :: [])) := by
              refine lv_eqi (show _ = (b2i (decide (x0 = 0) && isPic y0)) from by cases isPic y0 <;> by_cases h9 : x0 = 0 <;> simp [h9, b2i]) ?_
              refine lv_istore (lv' := [(5, .int (b2i (decide (x0 = 0) && isPic y0))), (0, .ref h0), (1, .int k), (2, .int x0), (3, .int y0)]) hx hb dX7_tryThing_112 hl (by decide) rfl (fun ls hl => ?_)
              refine lv_iload hx hb dX7_tryThing_114 (lv_at hl 0 rfl) ?_
              refine lv_ifeqB (b := (decide (x0 = 0) && isPic y0)) (tgt := 157) hx hb dX7_tryThing_116 (by decide) (fun c_25 => ?_) (fun c_25 => ?_)
              · skip
                refine lv_iload hx hb dX7_tryThing_157 (lv_at hl 0 rfl) ?_
                have eb : doB (trF nw) k x0 y0 = (decide (x0 = 0) && isPic y0) := by unfold doB; rw [if_neg c_1, if_neg c_7, if_neg c_13, if_neg c_19, if_pos c_24]
                have e1 : mgT nw (doF (trF nw) k x0 y0) = nw := by unfold doF mvF; rw [if_neg c_1, if_neg c_7, if_neg c_13, if_neg c_19, if_pos c_24]; by_cases h9 : x0 = 0; (rw [if_pos h9, if_neg (fun q => by rw [decide_eq_true h9, q] at c_25; exact absurd c_25 (by decide))]; exact mgT_self nw); (rw [if_neg h9]; exact mgT_self nw)
                exact eM_z (g := g) (b := doB (trF nw) k x0 y0) hx hb hr hlocks () (by rw [eb]; try rfl) (by rw [eb]; try rfl) (show va_P g.1 vwCl [(h0, .inr (6, [.ref d1, .int (nI ln), .long rd, .int xd, .int xq, .ref d2, .int (nI an), .int (nI nx), .ref d3, .ref d4, .ref d5, .ref d6, .int xm, .int (nI zn), .ref d7, .ref d8, .long sd, .ref d9, .ref d0])), (d2, .inl (gJ g, 6, .inr (.inl (mgT nw (doF (trF nw) k x0 y0)))))] H by rw [e1]; exact hP.sub [0, 1] rfl) (show va_D A [(h0, .inr (6, [.ref d1, .int (nI ln), .long rd, .int xd, .int xq, .ref d2, .int (nI an), .int (nI nx), .ref d3, .ref d4, .ref d5, .ref d6, .int xm, .int (nI zn), .ref d7, .ref d8, .long sd, .ref d9, .ref d0])), (d2, .inl (gJ g, 6, .inr (.inl (mgT nw (doF (trF nw) k x0 y0)))))] by rw [e1]; exact hD.sub [0, 1] (by decide) rfl) hS dX7_tryThing_159
              · skip
                obtain ⟨hx0, py⟩ := (Bool.and_eq_true _ _).mp c_25
                obtain ⟨y9, hy9, ey9⟩ := isPic_of py
                refine lv_aload_n hx hb dX7_tryThing_119 rfl (lv_at hl 1 rfl) ?_
                refine va_get (D := g.1) (ci := 6) (v := .ref d2) (C := RX7) (T := TX7) (N := 19) hx hb hw inlX7 hown hkn.1 hP 0 rfl rfl 5 (by decide) (hw _ mw_74) (fun _ h9 => h9) rfl dX7_tryThing_120 ?_
                refine lv_iconst (v := 3) hx hb dX7_tryThing_123 (by decide) ?_
                refine lv_iload_n hx hb dX7_tryThing_124 rfl (lv_at hl 4 rfl) ?_
                refine lv_eqi (show _ = (nI y9) from ey9) ?_
                refine lv_iadd hx hb dX7_tryThing_125 ?_
                refine lv_eqi (nI_add 3 y9) ?_
                refine lv_iload_n hx hb dX7_tryThing_126 rfl (lv_at hl 2 rfl) ?_
                refine lv_iconst (v := 4) hx hb dX7_tryThing_127 (by decide) ?_
                have mg_156 : W p l e ({ frames := 5, cells := 0, slots := 0, locals := 124 } : Room) s m ([.ref h0, .int k, .int x0, .int y0] : List Value).toArray below meth c H locs 0 0 (MQ below (QAi g (fun (r : Int32) (u : Unit) => r = b2i (doB (trF nw) k x0 y0)) (fun (u : Unit) => [(h0, .inr (6, [.ref d1, .int (nI ln), .long rd, .int xd, .int xq, .ref d2, .int (nI an), .int (nI nx), .ref d3, .ref d4, .ref d5, .ref d6, .int xm, .int (nI zn), .ref d7, .ref d8, .long sd, .ref d9, .ref d0])), (d2, .inl (gJ g, 6, .inr (.inl (mgT nw (doF (trF nw) k x0 y0)))))]) A) ([.ref h0, .int k, .int x0, .int y0] : List Value).toArray s 0 0 A) (F0 m 156 ls (.long (if k = 4 then (tuS (nw (3 + y9))) else (flS (nw (3 + y9)))) :: [.int (nI (3 + y9)), .ref d2])) := by
                  refine va_last hx hb hkn.1 hP hD hS 1 1 rfl rfl (vp_in_nI (n := 3 + y9) (by omega) (by decide)) dX7_tryThing_156 (fun H locs hP hD hS => ?_)
                  rw [nI_clamp (n := 3 + y9) (by omega)] at hP hD
                  have hP : va_P g.1 vwCl [(h0, .inr (6, [.ref d1, .int (nI ln), .long rd, .int xd, .int xq, .ref d2, .int (nI an), .int (nI nx), .ref d3, .ref d4, .ref d5, .ref d6, .int xm, .int (nI zn), .ref d7, .ref d8, .long sd, .ref d9, .ref d0])), (d2, .inl (gJ g, 6, .inr (.inl (vp_updL nw (3 + y9) (if k = 4 then (tuS (nw (3 + y9))) else (flS (nw (3 + y9))))))))] H := hP
                  have hD : va_D A [(h0, .inr (6, [.ref d1, .int (nI ln), .long rd, .int xd, .int xq, .ref d2, .int (nI an), .int (nI nx), .ref d3, .ref d4, .ref d5, .ref d6, .int xm, .int (nI zn), .ref d7, .ref d8, .long sd, .ref d9, .ref d0])), (d2, .inl (gJ g, 6, .inr (.inl (vp_updL nw (3 + y9) (if k = 4 then (tuS (nw (3 + y9))) else (flS (nw (3 + y9))))))))] := hD
                  refine lv_iload hx hb dX7_tryThing_157 (lv_at hl 0 rfl) ?_
                  have eb : doB (trF nw) k x0 y0 = (decide (x0 = 0) && isPic y0) := by unfold doB; rw [if_neg c_1, if_neg c_7, if_neg c_13, if_neg c_19, if_pos c_24]
                  have e1 : mgT nw (doF (trF nw) k x0 y0) = (vp_updL nw (3 + y9) (if k = 4 then (tuS (nw (3 + y9))) else (flS (nw (3 + y9))))) := by unfold doF mvF; rw [if_neg c_1, if_neg c_7, if_neg c_13, if_neg c_19, if_pos c_24, if_pos (of_decide_eq_true hx0), if_pos py, ey9, picS_nI hy9, ← mg_set hy9, c_24]; rfl
                  exact eM_z (g := g) (b := doB (trF nw) k x0 y0) hx hb hr hlocks () (by rw [eb]; try rfl) (by rw [eb]; try rfl) (show va_P g.1 vwCl [(h0, .inr (6, [.ref d1, .int (nI ln), .long rd, .int xd, .int xq, .ref d2, .int (nI an), .int (nI nx), .ref d3, .ref d4, .ref d5, .ref d6, .int xm, .int (nI zn), .ref d7, .ref d8, .long sd, .ref d9, .ref d0])), (d2, .inl (gJ g, 6, .inr (.inl (mgT nw (doF (trF nw) k x0 y0)))))] H by rw [e1]; exact hP.sub [0, 1] rfl) (show va_D A [(h0, .inr (6, [.ref d1, .int (nI ln), .long rd, .int xd, .int xq, .ref d2, .int (nI an), .int (nI nx), .ref d3, .ref d4, .ref d5, .ref d6, .int xm, .int (nI zn), .ref d7, .ref d8, .long sd, .ref d9, .ref d0])), (d2, .inl (gJ g, 6, .inr (.inl (mgT nw (doF (trF nw) k x0 y0)))))] by rw [e1]; exact hD.sub [0, 1] (by decide) rfl) hS dX7_tryThing_159
                refine lv_icmp_ne (tgt := 145) hx hb dX7_tryThing_128 (by decide) (fun c_26 => ?_) (fun c_26 => ?_)
                · skip
                  refine lv_aload_n hx hb dX7_tryThing_145 rfl (lv_at hl 1 rfl) ?_
                  refine va_get (D := g.1) (ci := 6) (v := .ref d2) (C := RX7) (T := TX7) (N := 19) hx hb hw inlX7 hown hkn.1 hP 0 rfl rfl 5 (by decide) (hw _ mw_74) (fun _ h9 => h9) rfl dX7_tryThing_146 ?_
                  refine lv_iconst (v := 3) hx hb dX7_tryThing_149 (by decide) ?_
                  refine lv_iload_n hx hb dX7_tryThing_150 rfl (lv_at hl 4 rfl) ?_
                  refine lv_eqi (show _ = (nI y9) from ey9) ?_
                  refine lv_iadd hx hb dX7_tryThing_151 ?_
                  refine lv_eqi (nI_add 3 y9) ?_
                  refine va_lald hx hb hkn.1 hP 1 1 rfl rfl (vp_in_nI (n := 3 + y9) (by omega) (by decide)) dX7_tryThing_152 ?_
                  refine lv_eql (show _ = nw (3 + y9) by rw [nI_clamp (n := 3 + y9) (by omega)]) ?_
                  refine cS_l (As := [.long (nw (3 + y9))]) (rest := [.int (nI (3 + y9)), .ref d2]) hx hb hml hown hw hkn hS hl (c_X7_flipped l g _ (nw (3 + y9)) ) sf_X7_flipped mw_336 ⟨(Nat.le_of_ble_eq_true rfl), (Nat.le_of_ble_eq_true rfl)⟩ rfl rfl rfl rfl (Nat.le_of_ble_eq_true rfl) dX7_tryThing_153 ⟨(Nat.le_of_ble_eq_true rfl), (Nat.le_of_ble_eq_true rfl)⟩ ?_
                  exact lv_eql (by rw [if_neg c_26]) mg_156
                · skip
                  refine lv_aload_n hx hb dX7_tryThing_131 rfl (lv_at hl 1 rfl) ?_
                  refine va_get (D := g.1) (ci := 6) (v := .ref d2) (C := RX7) (T := TX7) (N := 19) hx hb hw inlX7 hown hkn.1 hP 0 rfl rfl 5 (by decide) (hw _ mw_74) (fun _ h9 => h9) rfl dX7_tryThing_132 ?_
                  refine lv_iconst (v := 3) hx hb dX7_tryThing_135 (by decide) ?_
                  refine lv_iload_n hx hb dX7_tryThing_136 rfl (lv_at hl 4 rfl) ?_
                  refine lv_eqi (show _ = (nI y9) from ey9) ?_
                  refine lv_iadd hx hb dX7_tryThing_137 ?_
                  refine lv_eqi (nI_add 3 y9) ?_
                  refine va_lald hx hb hkn.1 hP 1 1 rfl rfl (vp_in_nI (n := 3 + y9) (by omega) (by decide)) dX7_tryThing_138 ?_
                  refine lv_eql (show _ = nw (3 + y9) by rw [nI_clamp (n := 3 + y9) (by omega)]) ?_
                  refine cS_l (As := [.long (nw (3 + y9))]) (rest := [.int (nI (3 + y9)), .ref d2]) hx hb hml hown hw hkn hS hl (c_X7_turned l g _ (nw (3 + y9)) ) sf_X7_turned mw_318 ⟨(Nat.le_of_ble_eq_true rfl), (Nat.le_of_ble_eq_true rfl)⟩ rfl rfl rfl rfl (Nat.le_of_ble_eq_true rfl) dX7_tryThing_139 ⟨(Nat.le_of_ble_eq_true rfl), (Nat.le_of_ble_eq_true rfl)⟩ ?_
                  refine lv_goto (tgt := 156) hx hb dX7_tryThing_142 (by decide) ?_
                  exact lv_eql (by rw [if_pos c_26]) mg_156
            refine lv_if_ne (tgt := 111) hx hb dX7_tryThing_97 (by decide) (fun c_27 => ?_) (fun c_27 => ?_)
            · skip
              refine lv_iconst (v := 0) hx hb dX7_tryThing_111 (by decide) ?_
              exact lv_eqi (by rw [if_neg c_27]) mg_112
            · skip
              refine lv_iload_n hx hb dX7_tryThing_100 rfl (lv_at hl 3 rfl) ?_
              refine cS_i (As := [.int y0]) (rest := []) hx hb hml hown hw hkn hS hl (c_X7_isPicture l g _ y0 ) sf_X7_isPicture mw_245 ⟨(Nat.le_of_ble_eq_true rfl), (Nat.le_of_ble_eq_true rfl)⟩ rfl rfl rfl rfl (Nat.le_of_ble_eq_true rfl) dX7_tryThing_101 ⟨(Nat.le_of_ble_eq_true rfl), (Nat.le_of_ble_eq_true rfl)⟩ ?_
              refine lv_ifeqB (b := isPic y0) (tgt := 111) hx hb dX7_tryThing_104 (by decide) (fun c_28 => ?_) (fun c_28 => ?_)
              · skip
                refine lv_iconst (v := 0) hx hb dX7_tryThing_111 (by decide) ?_
                exact lv_eqi (by rw [if_pos c_27, if_neg (nt_of c_28)]) mg_112
              · skip
                refine lv_iconst (v := 1) hx hb dX7_tryThing_107 (by decide) ?_
                refine lv_goto (tgt := 112) hx hb dX7_tryThing_108 (by decide) ?_
                exact lv_eqi (by rw [if_pos c_27, if_pos c_28]) mg_112
          · skip
            by_cases c_29 : k = 6
            · skip
              refine lv_tableIn (off := 159) (tgt := 160) hx hb dX7_tryThing_1 (by rw [c_29]; decide) (by rw [c_29]; decide) (by rw [c_29]; rfl) (by decide) ?_
              refine lv_iload_n hx hb dX7_tryThing_160 rfl (lv_at hl 2 rfl) ?_
              refine cS_i (As := [.int x0]) (rest := []) hx hb hml hown hw hkn hS hl (c_X7_isPicture l g _ x0 ) sf_X7_isPicture mw_245 ⟨(Nat.le_of_ble_eq_true rfl), (Nat.le_of_ble_eq_true rfl)⟩ rfl rfl rfl rfl (Nat.le_of_ble_eq_true rfl) dX7_tryThing_161 ⟨(Nat.le_of_ble_eq_true rfl), (Nat.le_of_ble_eq_true rfl)⟩ ?_
              have mg_184 : W p l e ({ frames := 5, cells := 0, slots := 0, locals := 124 } : Room) s m ([.ref h0, .int k, .int x0, .int y0] : List Value).toArray below meth c H locs 0 0 (MQ below (QAi g (fun (r : Int32) (u : Unit) => r = b2i (doB (trF nw) k x0 y0)) (fun (u : Unit) => [(h0, .inr (6, [.ref d1, .int (nI ln), .long rd, .int xd, .int xq, .ref d2, .int (nI an), .int (nI nx), .ref d3, .ref d4, .ref d5, .ref d6, .int xm, .int (nI zn), .ref d7, .ref d8, .long sd, .ref d9, .ref d0])), (d2, .inl (gJ g, 6, .inr (.inl (mgT nw (doF (trF nw) k x0 y0)))))]) A) ([.ref h0, .int k, .int x0, .int y0] : List Value).toArray s 0 0 A) (F0 m 184 ls (.int (if isPic x0 = true then (if isQua y0 = true then 1 else 0) else 0) :: [])) := by
                refine lv_eqi (show _ = (b2i (scB x0 y0)) from by unfold scB; cases isPic x0 <;> cases isQua y0 <;> simp [b2i]) ?_
                refine lv_istore (lv' := [(6, .int (b2i (scB x0 y0))), (0, .ref h0), (1, .int k), (2, .int x0), (3, .int y0)]) hx hb dX7_tryThing_184 hl (by decide) rfl (fun ls hl => ?_)
                refine lv_iload hx hb dX7_tryThing_186 (lv_at hl 0 rfl) ?_
                refine lv_ifeqB (b := (scB x0 y0)) (tgt := 232) hx hb dX7_tryThing_188 (by decide) (fun c_30 => ?_) (fun c_30 => ?_)
                · skip
                  refine lv_iload hx hb dX7_tryThing_232 (lv_at hl 0 rfl) ?_
                  have eb : doB (trF nw) k x0 y0 = scB x0 y0 := by unfold doB; rw [if_neg c_1, if_neg c_7, if_neg c_13, if_neg c_19, if_neg c_24, if_pos c_29]
                  have e1 : mgT nw (doF (trF nw) k x0 y0) = nw := by unfold doF scF; rw [if_neg c_1, if_neg c_7, if_neg c_13, if_neg c_19, if_neg c_24, if_pos c_29, if_neg (nt_of c_30)]; exact mgT_self nw
                  exact eM_z (g := g) (b := doB (trF nw) k x0 y0) hx hb hr hlocks () (by rw [eb]; try rfl) (by rw [eb]; try rfl) (show va_P g.1 vwCl [(h0, .inr (6, [.ref d1, .int (nI ln), .long rd, .int xd, .int xq, .ref d2, .int (nI an), .int (nI nx), .ref d3, .ref d4, .ref d5, .ref d6, .int xm, .int (nI zn), .ref d7, .ref d8, .long sd, .ref d9, .ref d0])), (d2, .inl (gJ g, 6, .inr (.inl (mgT nw (doF (trF nw) k x0 y0)))))] H by rw [e1]; exact hP.sub [0, 1] rfl) (show va_D A [(h0, .inr (6, [.ref d1, .int (nI ln), .long rd, .int xd, .int xq, .ref d2, .int (nI an), .int (nI nx), .ref d3, .ref d4, .ref d5, .ref d6, .int xm, .int (nI zn), .ref d7, .ref d8, .long sd, .ref d9, .ref d0])), (d2, .inl (gJ g, 6, .inr (.inl (mgT nw (doF (trF nw) k x0 y0)))))] by rw [e1]; exact hD.sub [0, 1] (by decide) rfl) hS dX7_tryThing_234
                · skip
                  have hsb := c_30
                  obtain ⟨px, qy⟩ : isPic x0 = true ∧ isQua y0 = true := by have h9 := hsb; unfold scB at h9; exact (Bool.and_eq_true _ _).mp h9
                  obtain ⟨x9, hx9, ex9⟩ := isPic_of px
                  obtain ⟨y9, hy9, ey9⟩ := isQua_of qy
                  refine lv_aload_n hx hb dX7_tryThing_191 rfl (lv_at hl 1 rfl) ?_
                  refine va_get (D := g.1) (ci := 6) (v := .ref d2) (C := RX7) (T := TX7) (N := 19) hx hb hw inlX7 hown hkn.1 hP 0 rfl rfl 5 (by decide) (hw _ mw_74) (fun _ h9 => h9) rfl dX7_tryThing_192 ?_
                  refine lv_iconst (v := 3) hx hb dX7_tryThing_195 (by decide) ?_
                  refine lv_iload_n hx hb dX7_tryThing_196 rfl (lv_at hl 3 rfl) ?_
                  refine lv_eqi (show _ = (nI x9) from ex9) ?_
                  refine lv_iadd hx hb dX7_tryThing_197 ?_
                  refine lv_eqi (nI_add 3 x9) ?_
                  refine lv_iload_n hx hb dX7_tryThing_198 rfl (lv_at hl 2 rfl) ?_
                  refine lv_bipush (v := 6) hx hb dX7_tryThing_199 (by decide) ?_
                  have mg_231 : W p l e ({ frames := 5, cells := 0, slots := 0, locals := 124 } : Room) s m ([.ref h0, .int k, .int x0, .int y0] : List Value).toArray below meth c H locs 0 0 (MQ below (QAi g (fun (r : Int32) (u : Unit) => r = b2i (doB (trF nw) k x0 y0)) (fun (u : Unit) => [(h0, .inr (6, [.ref d1, .int (nI ln), .long rd, .int xd, .int xq, .ref d2, .int (nI an), .int (nI nx), .ref d3, .ref d4, .ref d5, .ref d6, .int xm, .int (nI zn), .ref d7, .ref d8, .long sd, .ref d9, .ref d0])), (d2, .inl (gJ g, 6, .inr (.inl (mgT nw (doF (trF nw) k x0 y0)))))]) A) ([.ref h0, .int k, .int x0, .int y0] : List Value).toArray s 0 0 A) (F0 m 231 ls (.long (if k = 6 then (haS (nw (3 + x9)) y9) else (grnS (nw (3 + x9)) y9)) :: [.int (nI (3 + x9)), .ref d2])) := by
                    refine va_last hx hb hkn.1 hP hD hS 1 1 rfl rfl (vp_in_nI (n := 3 + x9) (by omega) (by decide)) dX7_tryThing_231 (fun H locs hP hD hS => ?_)
                    rw [nI_clamp (n := 3 + x9) (by omega)] at hP hD
                    have hP : va_P g.1 vwCl [(h0, .inr (6, [.ref d1, .int (nI ln), .long rd, .int xd, .int xq, .ref d2, .int (nI an), .int (nI nx), .ref d3, .ref d4, .ref d5, .ref d6, .int xm, .int (nI zn), .ref d7, .ref d8, .long sd, .ref d9, .ref d0])), (d2, .inl (gJ g, 6, .inr (.inl (vp_updL nw (3 + x9) (if k = 6 then (haS (nw (3 + x9)) y9) else (grnS (nw (3 + x9)) y9))))))] H := hP
                    have hD : va_D A [(h0, .inr (6, [.ref d1, .int (nI ln), .long rd, .int xd, .int xq, .ref d2, .int (nI an), .int (nI nx), .ref d3, .ref d4, .ref d5, .ref d6, .int xm, .int (nI zn), .ref d7, .ref d8, .long sd, .ref d9, .ref d0])), (d2, .inl (gJ g, 6, .inr (.inl (vp_updL nw (3 + x9) (if k = 6 then (haS (nw (3 + x9)) y9) else (grnS (nw (3 + x9)) y9))))))] := hD
                    refine lv_iload hx hb dX7_tryThing_232 (lv_at hl 0 rfl) ?_
                    have eb : doB (trF nw) k x0 y0 = scB x0 y0 := by unfold doB; rw [if_neg c_1, if_neg c_7, if_neg c_13, if_neg c_19, if_neg c_24, if_pos c_29]
                    have e1 : mgT nw (doF (trF nw) k x0 y0) = (vp_updL nw (3 + x9) (if k = 6 then (haS (nw (3 + x9)) y9) else (grnS (nw (3 + x9)) y9))) := by unfold doF scF; rw [if_neg c_1, if_neg c_7, if_neg c_13, if_neg c_19, if_neg c_24, if_pos c_29, if_pos hsb, ex9, ey9, picS_nI hx9, nI_clamp (by omega), ← mg_set hx9, c_29]; rfl
                    exact eM_z (g := g) (b := doB (trF nw) k x0 y0) hx hb hr hlocks () (by rw [eb]; try rfl) (by rw [eb]; try rfl) (show va_P g.1 vwCl [(h0, .inr (6, [.ref d1, .int (nI ln), .long rd, .int xd, .int xq, .ref d2, .int (nI an), .int (nI nx), .ref d3, .ref d4, .ref d5, .ref d6, .int xm, .int (nI zn), .ref d7, .ref d8, .long sd, .ref d9, .ref d0])), (d2, .inl (gJ g, 6, .inr (.inl (mgT nw (doF (trF nw) k x0 y0)))))] H by rw [e1]; exact hP.sub [0, 1] rfl) (show va_D A [(h0, .inr (6, [.ref d1, .int (nI ln), .long rd, .int xd, .int xq, .ref d2, .int (nI an), .int (nI nx), .ref d3, .ref d4, .ref d5, .ref d6, .int xm, .int (nI zn), .ref d7, .ref d8, .long sd, .ref d9, .ref d0])), (d2, .inl (gJ g, 6, .inr (.inl (mgT nw (doF (trF nw) k x0 y0)))))] by rw [e1]; exact hD.sub [0, 1] (by decide) rfl) hS dX7_tryThing_234
                  refine lv_icmp_ne (tgt := 219) hx hb dX7_tryThing_201 (by decide) (fun c_31 => ?_) (fun c_31 => ?_)
                  · skip
                    refine lv_aload_n hx hb dX7_tryThing_219 rfl (lv_at hl 1 rfl) ?_
                    refine va_get (D := g.1) (ci := 6) (v := .ref d2) (C := RX7) (T := TX7) (N := 19) hx hb hw inlX7 hown hkn.1 hP 0 rfl rfl 5 (by decide) (hw _ mw_74) (fun _ h9 => h9) rfl dX7_tryThing_220 ?_
                    refine lv_iconst (v := 3) hx hb dX7_tryThing_223 (by decide) ?_
                    refine lv_iload_n hx hb dX7_tryThing_224 rfl (lv_at hl 3 rfl) ?_
                    refine lv_eqi (show _ = (nI x9) from ex9) ?_
                    refine lv_iadd hx hb dX7_tryThing_225 ?_
                    refine lv_eqi (nI_add 3 x9) ?_
                    refine va_lald hx hb hkn.1 hP 1 1 rfl rfl (vp_in_nI (n := 3 + x9) (by omega) (by decide)) dX7_tryThing_226 ?_
                    refine lv_eql (show _ = nw (3 + x9) by rw [nI_clamp (n := 3 + x9) (by omega)]) ?_
                    refine lv_iload_n hx hb dX7_tryThing_227 rfl (lv_at hl 4 rfl) ?_
                    refine lv_eqi (show _ = (nI y9) from ey9) ?_
                    refine cS_l (As := [.long (nw (3 + x9)), .int (nI y9)]) (rest := [.int (nI (3 + x9)), .ref d2]) hx hb hml hown hw hkn hS hl (c_X7_grown l g _ (nw (3 + x9)) y9 (by omega)) sf_X7_grown mw_376 ⟨(Nat.le_of_ble_eq_true rfl), (Nat.le_of_ble_eq_true rfl)⟩ rfl rfl rfl rfl (Nat.le_of_ble_eq_true rfl) dX7_tryThing_228 ⟨(Nat.le_of_ble_eq_true rfl), (Nat.le_of_ble_eq_true rfl)⟩ ?_
                    refine lv_eql (show _ = (grnS (nw (3 + x9)) y9) from grM_eq hy9) ?_
                    exact lv_eql (by rw [if_neg c_31]) mg_231
                  · skip
                    refine lv_aload_n hx hb dX7_tryThing_204 rfl (lv_at hl 1 rfl) ?_
                    refine va_get (D := g.1) (ci := 6) (v := .ref d2) (C := RX7) (T := TX7) (N := 19) hx hb hw inlX7 hown hkn.1 hP 0 rfl rfl 5 (by decide) (hw _ mw_74) (fun _ h9 => h9) rfl dX7_tryThing_205 ?_
                    refine lv_iconst (v := 3) hx hb dX7_tryThing_208 (by decide) ?_
                    refine lv_iload_n hx hb dX7_tryThing_209 rfl (lv_at hl 3 rfl) ?_
                    refine lv_eqi (show _ = (nI x9) from ex9) ?_
                    refine lv_iadd hx hb dX7_tryThing_210 ?_
                    refine lv_eqi (nI_add 3 x9) ?_
                    refine va_lald hx hb hkn.1 hP 1 1 rfl rfl (vp_in_nI (n := 3 + x9) (by omega) (by decide)) dX7_tryThing_211 ?_
                    refine lv_eql (show _ = nw (3 + x9) by rw [nI_clamp (n := 3 + x9) (by omega)]) ?_
                    refine lv_iload_n hx hb dX7_tryThing_212 rfl (lv_at hl 4 rfl) ?_
                    refine lv_eqi (show _ = (nI y9) from ey9) ?_
                    refine cS_l (As := [.long (nw (3 + x9)), .int (nI y9)]) (rest := [.int (nI (3 + x9)), .ref d2]) hx hb hml hown hw hkn hS hl (c_X7_halved l g _ (nw (3 + x9)) y9 (by omega)) sf_X7_halved mw_362 ⟨(Nat.le_of_ble_eq_true rfl), (Nat.le_of_ble_eq_true rfl)⟩ rfl rfl rfl rfl (Nat.le_of_ble_eq_true rfl) dX7_tryThing_213 ⟨(Nat.le_of_ble_eq_true rfl), (Nat.le_of_ble_eq_true rfl)⟩ ?_
                    refine lv_eql (show _ = (haS (nw (3 + x9)) y9) from haM_eq hy9) ?_
                    refine lv_goto (tgt := 231) hx hb dX7_tryThing_216 (by decide) ?_
                    exact lv_eql (by rw [if_pos c_31]) mg_231
              refine lv_ifeqB (b := isPic x0) (tgt := 183) hx hb dX7_tryThing_164 (by decide) (fun c_32 => ?_) (fun c_32 => ?_)
              · skip
                refine lv_iconst (v := 0) hx hb dX7_tryThing_183 (by decide) ?_
                exact lv_eqi (by rw [if_neg (nt_of c_32)]) mg_184
              · skip
                refine lv_iload_n hx hb dX7_tryThing_167 rfl (lv_at hl 3 rfl) ?_
                refine lv_i2l hx hb dX7_tryThing_168 rfl ?_
                refine lv_lconst (v := 0) hx hb dX7_tryThing_169 rfl ?_
                refine lv_ldc2 hx hb hown (hw _ mw_361) dX7_tryThing_170 ?_
                refine cS_i (As := [.long ((y0).toInt64), .long 0, .long 3]) (rest := []) hx hb hml hown hw hkn hS hl (c_X7_in l g _ ((y0).toInt64) 0 3 ) sf_X7_in mw_101 ⟨(Nat.le_of_ble_eq_true rfl), (Nat.le_of_ble_eq_true rfl)⟩ rfl rfl rfl rfl (Nat.le_of_ble_eq_true rfl) dX7_tryThing_173 ⟨(Nat.le_of_ble_eq_true rfl), (Nat.le_of_ble_eq_true rfl)⟩ ?_
                refine lv_eqi (show _ = b2i (isQua y0) from congrArg b2i (isQua_in y0)) ?_
                refine lv_ifeqB (b := isQua y0) (tgt := 183) hx hb dX7_tryThing_176 (by decide) (fun c_33 => ?_) (fun c_33 => ?_)
                · skip
                  refine lv_iconst (v := 0) hx hb dX7_tryThing_183 (by decide) ?_
                  exact lv_eqi (by rw [if_pos c_32, if_neg (nt_of c_33)]) mg_184
                · skip
                  refine lv_iconst (v := 1) hx hb dX7_tryThing_179 (by decide) ?_
                  refine lv_goto (tgt := 184) hx hb dX7_tryThing_180 (by decide) ?_
                  exact lv_eqi (by rw [if_pos c_32, if_pos c_33]) mg_184
            · skip
              by_cases c_34 : k = 7
              · skip
                refine lv_tableIn (off := 159) (tgt := 160) hx hb dX7_tryThing_1 (by rw [c_34]; decide) (by rw [c_34]; decide) (by rw [c_34]; rfl) (by decide) ?_
                refine lv_iload_n hx hb dX7_tryThing_160 rfl (lv_at hl 2 rfl) ?_
                refine cS_i (As := [.int x0]) (rest := []) hx hb hml hown hw hkn hS hl (c_X7_isPicture l g _ x0 ) sf_X7_isPicture mw_245 ⟨(Nat.le_of_ble_eq_true rfl), (Nat.le_of_ble_eq_true rfl)⟩ rfl rfl rfl rfl (Nat.le_of_ble_eq_true rfl) dX7_tryThing_161 ⟨(Nat.le_of_ble_eq_true rfl), (Nat.le_of_ble_eq_true rfl)⟩ ?_
                have mg_184 : W p l e ({ frames := 5, cells := 0, slots := 0, locals := 124 } : Room) s m ([.ref h0, .int k, .int x0, .int y0] : List Value).toArray below meth c H locs 0 0 (MQ below (QAi g (fun (r : Int32) (u : Unit) => r = b2i (doB (trF nw) k x0 y0)) (fun (u : Unit) => [(h0, .inr (6, [.ref d1, .int (nI ln), .long rd, .int xd, .int xq, .ref d2, .int (nI an), .int (nI nx), .ref d3, .ref d4, .ref d5, .ref d6, .int xm, .int (nI zn), .ref d7, .ref d8, .long sd, .ref d9, .ref d0])), (d2, .inl (gJ g, 6, .inr (.inl (mgT nw (doF (trF nw) k x0 y0)))))]) A) ([.ref h0, .int k, .int x0, .int y0] : List Value).toArray s 0 0 A) (F0 m 184 ls (.int (if isPic x0 = true then (if isQua y0 = true then 1 else 0) else 0) :: [])) := by
                  refine lv_eqi (show _ = (b2i (scB x0 y0)) from by unfold scB; cases isPic x0 <;> cases isQua y0 <;> simp [b2i]) ?_
                  refine lv_istore (lv' := [(6, .int (b2i (scB x0 y0))), (0, .ref h0), (1, .int k), (2, .int x0), (3, .int y0)]) hx hb dX7_tryThing_184 hl (by decide) rfl (fun ls hl => ?_)
                  refine lv_iload hx hb dX7_tryThing_186 (lv_at hl 0 rfl) ?_
                  refine lv_ifeqB (b := (scB x0 y0)) (tgt := 232) hx hb dX7_tryThing_188 (by decide) (fun c_35 => ?_) (fun c_35 => ?_)
                  · skip
                    refine lv_iload hx hb dX7_tryThing_232 (lv_at hl 0 rfl) ?_
                    have eb : doB (trF nw) k x0 y0 = scB x0 y0 := by unfold doB; rw [if_neg c_1, if_neg c_7, if_neg c_13, if_neg c_19, if_neg c_24, if_neg c_29, if_pos c_34]
                    have e1 : mgT nw (doF (trF nw) k x0 y0) = nw := by unfold doF scF; rw [if_neg c_1, if_neg c_7, if_neg c_13, if_neg c_19, if_neg c_24, if_neg c_29, if_pos c_34, if_neg (nt_of c_35)]; exact mgT_self nw
                    exact eM_z (g := g) (b := doB (trF nw) k x0 y0) hx hb hr hlocks () (by rw [eb]; try rfl) (by rw [eb]; try rfl) (show va_P g.1 vwCl [(h0, .inr (6, [.ref d1, .int (nI ln), .long rd, .int xd, .int xq, .ref d2, .int (nI an), .int (nI nx), .ref d3, .ref d4, .ref d5, .ref d6, .int xm, .int (nI zn), .ref d7, .ref d8, .long sd, .ref d9, .ref d0])), (d2, .inl (gJ g, 6, .inr (.inl (mgT nw (doF (trF nw) k x0 y0)))))] H by rw [e1]; exact hP.sub [0, 1] rfl) (show va_D A [(h0, .inr (6, [.ref d1, .int (nI ln), .long rd, .int xd, .int xq, .ref d2, .int (nI an), .int (nI nx), .ref d3, .ref d4, .ref d5, .ref d6, .int xm, .int (nI zn), .ref d7, .ref d8, .long sd, .ref d9, .ref d0])), (d2, .inl (gJ g, 6, .inr (.inl (mgT nw (doF (trF nw) k x0 y0)))))] by rw [e1]; exact hD.sub [0, 1] (by decide) rfl) hS dX7_tryThing_234
                  · skip
                    have hsb := c_35
                    obtain ⟨px, qy⟩ : isPic x0 = true ∧ isQua y0 = true := by have h9 := hsb; unfold scB at h9; exact (Bool.and_eq_true _ _).mp h9
                    obtain ⟨x9, hx9, ex9⟩ := isPic_of px
                    obtain ⟨y9, hy9, ey9⟩ := isQua_of qy
                    refine lv_aload_n hx hb dX7_tryThing_191 rfl (lv_at hl 1 rfl) ?_
                    refine va_get (D := g.1) (ci := 6) (v := .ref d2) (C := RX7) (T := TX7) (N := 19) hx hb hw inlX7 hown hkn.1 hP 0 rfl rfl 5 (by decide) (hw _ mw_74) (fun _ h9 => h9) rfl dX7_tryThing_192 ?_
                    refine lv_iconst (v := 3) hx hb dX7_tryThing_195 (by decide) ?_
                    refine lv_iload_n hx hb dX7_tryThing_196 rfl (lv_at hl 3 rfl) ?_
                    refine lv_eqi (show _ = (nI x9) from ex9) ?_
                    refine lv_iadd hx hb dX7_tryThing_197 ?_
                    refine lv_eqi (nI_add 3 x9) ?_
                    refine lv_iload_n hx hb dX7_tryThing_198 rfl (lv_at hl 2 rfl) ?_
                    refine lv_bipush (v := 6) hx hb dX7_tryThing_199 (by decide) ?_
                    have mg_231 : W p l e ({ frames := 5, cells := 0, slots := 0, locals := 124 } : Room) s m ([.ref h0, .int k, .int x0, .int y0] : List Value).toArray below meth c H locs 0 0 (MQ below (QAi g (fun (r : Int32) (u : Unit) => r = b2i (doB (trF nw) k x0 y0)) (fun (u : Unit) => [(h0, .inr (6, [.ref d1, .int (nI ln), .long rd, .int xd, .int xq, .ref d2, .int (nI an), .int (nI nx), .ref d3, .ref d4, .ref d5, .ref d6, .int xm, .int (nI zn), .ref d7, .ref d8, .long sd, .ref d9, .ref d0])), (d2, .inl (gJ g, 6, .inr (.inl (mgT nw (doF (trF nw) k x0 y0)))))]) A) ([.ref h0, .int k, .int x0, .int y0] : List Value).toArray s 0 0 A) (F0 m 231 ls (.long (if k = 6 then (haS (nw (3 + x9)) y9) else (grnS (nw (3 + x9)) y9)) :: [.int (nI (3 + x9)), .ref d2])) := by
                      refine va_last hx hb hkn.1 hP hD hS 1 1 rfl rfl (vp_in_nI (n := 3 + x9) (by omega) (by decide)) dX7_tryThing_231 (fun H locs hP hD hS => ?_)
                      rw [nI_clamp (n := 3 + x9) (by omega)] at hP hD
                      have hP : va_P g.1 vwCl [(h0, .inr (6, [.ref d1, .int (nI ln), .long rd, .int xd, .int xq, .ref d2, .int (nI an), .int (nI nx), .ref d3, .ref d4, .ref d5, .ref d6, .int xm, .int (nI zn), .ref d7, .ref d8, .long sd, .ref d9, .ref d0])), (d2, .inl (gJ g, 6, .inr (.inl (vp_updL nw (3 + x9) (if k = 6 then (haS (nw (3 + x9)) y9) else (grnS (nw (3 + x9)) y9))))))] H := hP
                      have hD : va_D A [(h0, .inr (6, [.ref d1, .int (nI ln), .long rd, .int xd, .int xq, .ref d2, .int (nI an), .int (nI nx), .ref d3, .ref d4, .ref d5, .ref d6, .int xm, .int (nI zn), .ref d7, .ref d8, .long sd, .ref d9, .ref d0])), (d2, .inl (gJ g, 6, .inr (.inl (vp_updL nw (3 + x9) (if k = 6 then (haS (nw (3 + x9)) y9) else (grnS (nw (3 + x9)) y9))))))] := hD
                      refine lv_iload hx hb dX7_tryThing_232 (lv_at hl 0 rfl) ?_
                      have eb : doB (trF nw) k x0 y0 = scB x0 y0 := by unfold doB; rw [if_neg c_1, if_neg c_7, if_neg c_13, if_neg c_19, if_neg c_24, if_neg c_29, if_pos c_34]
                      have e1 : mgT nw (doF (trF nw) k x0 y0) = (vp_updL nw (3 + x9) (if k = 6 then (haS (nw (3 + x9)) y9) else (grnS (nw (3 + x9)) y9))) := by unfold doF scF; rw [if_neg c_1, if_neg c_7, if_neg c_13, if_neg c_19, if_neg c_24, if_neg c_29, if_pos c_34, if_pos hsb, ex9, ey9, picS_nI hx9, nI_clamp (by omega), ← mg_set hx9, c_34]; rfl
                      exact eM_z (g := g) (b := doB (trF nw) k x0 y0) hx hb hr hlocks () (by rw [eb]; try rfl) (by rw [eb]; try rfl) (show va_P g.1 vwCl [(h0, .inr (6, [.ref d1, .int (nI ln), .long rd, .int xd, .int xq, .ref d2, .int (nI an), .int (nI nx), .ref d3, .ref d4, .ref d5, .ref d6, .int xm, .int (nI zn), .ref d7, .ref d8, .long sd, .ref d9, .ref d0])), (d2, .inl (gJ g, 6, .inr (.inl (mgT nw (doF (trF nw) k x0 y0)))))] H by rw [e1]; exact hP.sub [0, 1] rfl) (show va_D A [(h0, .inr (6, [.ref d1, .int (nI ln), .long rd, .int xd, .int xq, .ref d2, .int (nI an), .int (nI nx), .ref d3, .ref d4, .ref d5, .ref d6, .int xm, .int (nI zn), .ref d7, .ref d8, .long sd, .ref d9, .ref d0])), (d2, .inl (gJ g, 6, .inr (.inl (mgT nw (doF (trF nw) k x0 y0)))))] by rw [e1]; exact hD.sub [0, 1] (by decide) rfl) hS dX7_tryThing_234
                    refine lv_icmp_ne (tgt := 219) hx hb dX7_tryThing_201 (by decide) (fun c_36 => ?_) (fun c_36 => ?_)
                    · skip
                      refine lv_aload_n hx hb dX7_tryThing_219 rfl (lv_at hl 1 rfl) ?_
                      refine va_get (D := g.1) (ci := 6) (v := .ref d2) (C := RX7) (T := TX7) (N := 19) hx hb hw inlX7 hown hkn.1 hP 0 rfl rfl 5 (by decide) (hw _ mw_74) (fun _ h9 => h9) rfl dX7_tryThing_220 ?_
                      refine lv_iconst (v := 3) hx hb dX7_tryThing_223 (by decide) ?_
                      refine lv_iload_n hx hb dX7_tryThing_224 rfl (lv_at hl 3 rfl) ?_
                      refine lv_eqi (show _ = (nI x9) from ex9) ?_
                      refine lv_iadd hx hb dX7_tryThing_225 ?_
                      refine lv_eqi (nI_add 3 x9) ?_
                      refine va_lald hx hb hkn.1 hP 1 1 rfl rfl (vp_in_nI (n := 3 + x9) (by omega) (by decide)) dX7_tryThing_226 ?_
                      refine lv_eql (show _ = nw (3 + x9) by rw [nI_clamp (n := 3 + x9) (by omega)]) ?_
                      refine lv_iload_n hx hb dX7_tryThing_227 rfl (lv_at hl 4 rfl) ?_
                      refine lv_eqi (show _ = (nI y9) from ey9) ?_
                      refine cS_l (As := [.long (nw (3 + x9)), .int (nI y9)]) (rest := [.int (nI (3 + x9)), .ref d2]) hx hb hml hown hw hkn hS hl (c_X7_grown l g _ (nw (3 + x9)) y9 (by omega)) sf_X7_grown mw_376 ⟨(Nat.le_of_ble_eq_true rfl), (Nat.le_of_ble_eq_true rfl)⟩ rfl rfl rfl rfl (Nat.le_of_ble_eq_true rfl) dX7_tryThing_228 ⟨(Nat.le_of_ble_eq_true rfl), (Nat.le_of_ble_eq_true rfl)⟩ ?_
                      refine lv_eql (show _ = (grnS (nw (3 + x9)) y9) from grM_eq hy9) ?_
                      exact lv_eql (by rw [if_neg c_36]) mg_231
                    · skip
                      refine lv_aload_n hx hb dX7_tryThing_204 rfl (lv_at hl 1 rfl) ?_
                      refine va_get (D := g.1) (ci := 6) (v := .ref d2) (C := RX7) (T := TX7) (N := 19) hx hb hw inlX7 hown hkn.1 hP 0 rfl rfl 5 (by decide) (hw _ mw_74) (fun _ h9 => h9) rfl dX7_tryThing_205 ?_
                      refine lv_iconst (v := 3) hx hb dX7_tryThing_208 (by decide) ?_
                      refine lv_iload_n hx hb dX7_tryThing_209 rfl (lv_at hl 3 rfl) ?_
                      refine lv_eqi (show _ = (nI x9) from ex9) ?_
                      refine lv_iadd hx hb dX7_tryThing_210 ?_
                      refine lv_eqi (nI_add 3 x9) ?_
                      refine va_lald hx hb hkn.1 hP 1 1 rfl rfl (vp_in_nI (n := 3 + x9) (by omega) (by decide)) dX7_tryThing_211 ?_
                      refine lv_eql (show _ = nw (3 + x9) by rw [nI_clamp (n := 3 + x9) (by omega)]) ?_
                      refine lv_iload_n hx hb dX7_tryThing_212 rfl (lv_at hl 4 rfl) ?_
                      refine lv_eqi (show _ = (nI y9) from ey9) ?_
                      refine cS_l (As := [.long (nw (3 + x9)), .int (nI y9)]) (rest := [.int (nI (3 + x9)), .ref d2]) hx hb hml hown hw hkn hS hl (c_X7_halved l g _ (nw (3 + x9)) y9 (by omega)) sf_X7_halved mw_362 ⟨(Nat.le_of_ble_eq_true rfl), (Nat.le_of_ble_eq_true rfl)⟩ rfl rfl rfl rfl (Nat.le_of_ble_eq_true rfl) dX7_tryThing_213 ⟨(Nat.le_of_ble_eq_true rfl), (Nat.le_of_ble_eq_true rfl)⟩ ?_
                      refine lv_eql (show _ = (haS (nw (3 + x9)) y9) from haM_eq hy9) ?_
                      refine lv_goto (tgt := 231) hx hb dX7_tryThing_216 (by decide) ?_
                      exact lv_eql (by rw [if_pos c_36]) mg_231
                refine lv_ifeqB (b := isPic x0) (tgt := 183) hx hb dX7_tryThing_164 (by decide) (fun c_37 => ?_) (fun c_37 => ?_)
                · skip
                  refine lv_iconst (v := 0) hx hb dX7_tryThing_183 (by decide) ?_
                  exact lv_eqi (by rw [if_neg (nt_of c_37)]) mg_184
                · skip
                  refine lv_iload_n hx hb dX7_tryThing_167 rfl (lv_at hl 3 rfl) ?_
                  refine lv_i2l hx hb dX7_tryThing_168 rfl ?_
                  refine lv_lconst (v := 0) hx hb dX7_tryThing_169 rfl ?_
                  refine lv_ldc2 hx hb hown (hw _ mw_361) dX7_tryThing_170 ?_
                  refine cS_i (As := [.long ((y0).toInt64), .long 0, .long 3]) (rest := []) hx hb hml hown hw hkn hS hl (c_X7_in l g _ ((y0).toInt64) 0 3 ) sf_X7_in mw_101 ⟨(Nat.le_of_ble_eq_true rfl), (Nat.le_of_ble_eq_true rfl)⟩ rfl rfl rfl rfl (Nat.le_of_ble_eq_true rfl) dX7_tryThing_173 ⟨(Nat.le_of_ble_eq_true rfl), (Nat.le_of_ble_eq_true rfl)⟩ ?_
                  refine lv_eqi (show _ = b2i (isQua y0) from congrArg b2i (isQua_in y0)) ?_
                  refine lv_ifeqB (b := isQua y0) (tgt := 183) hx hb dX7_tryThing_176 (by decide) (fun c_38 => ?_) (fun c_38 => ?_)
                  · skip
                    refine lv_iconst (v := 0) hx hb dX7_tryThing_183 (by decide) ?_
                    exact lv_eqi (by rw [if_pos c_37, if_neg (nt_of c_38)]) mg_184
                  · skip
                    refine lv_iconst (v := 1) hx hb dX7_tryThing_179 (by decide) ?_
                    refine lv_goto (tgt := 184) hx hb dX7_tryThing_180 (by decide) ?_
                    exact lv_eqi (by rw [if_pos c_37, if_pos c_38]) mg_184
              · skip
                by_cases c_39 : k = 8
                · skip
                  refine lv_tableIn (off := 234) (tgt := 235) hx hb dX7_tryThing_1 (by rw [c_39]; decide) (by rw [c_39]; decide) (by rw [c_39]; rfl) (by decide) ?_
                  refine lv_iload_n hx hb dX7_tryThing_235 rfl (lv_at hl 2 rfl) ?_
                  refine cS_i (As := [.int x0]) (rest := []) hx hb hml hown hw hkn hS hl (c_X7_isPicture l g _ x0 ) sf_X7_isPicture mw_245 ⟨(Nat.le_of_ble_eq_true rfl), (Nat.le_of_ble_eq_true rfl)⟩ rfl rfl rfl rfl (Nat.le_of_ble_eq_true rfl) dX7_tryThing_236 ⟨(Nat.le_of_ble_eq_true rfl), (Nat.le_of_ble_eq_true rfl)⟩ ?_
                  refine lv_ifeqB (b := isPic x0) (tgt := 261) hx hb dX7_tryThing_239 (by decide) (fun c_40 => ?_) (fun c_40 => ?_)
                  · skip
                    refine lv_iconst (v := 0) hx hb dX7_tryThing_261 (by decide) ?_
                    have eb : doB (trF nw) k x0 y0 = false := by unfold doB; rw [if_neg c_1, if_neg c_7, if_neg c_13, if_neg c_19, if_neg c_24, if_neg c_29, if_neg c_34, if_pos c_39, c_40]; rfl
                    have e1 : mgT nw (doF (trF nw) k x0 y0) = nw := by rw [doF_k ⟨c_1, c_7, c_13, c_19, c_24, c_29, c_34⟩]; exact mgT_self nw
                    exact eM_z (g := g) (b := doB (trF nw) k x0 y0) hx hb hr hlocks () (by rw [eb]; try rfl) (by rw [eb]; try rfl) (show va_P g.1 vwCl [(h0, .inr (6, [.ref d1, .int (nI ln), .long rd, .int xd, .int xq, .ref d2, .int (nI an), .int (nI nx), .ref d3, .ref d4, .ref d5, .ref d6, .int xm, .int (nI zn), .ref d7, .ref d8, .long sd, .ref d9, .ref d0])), (d2, .inl (gJ g, 6, .inr (.inl (mgT nw (doF (trF nw) k x0 y0)))))] H by rw [e1]; exact hP.sub [0, 1] rfl) (show va_D A [(h0, .inr (6, [.ref d1, .int (nI ln), .long rd, .int xd, .int xq, .ref d2, .int (nI an), .int (nI nx), .ref d3, .ref d4, .ref d5, .ref d6, .int xm, .int (nI zn), .ref d7, .ref d8, .long sd, .ref d9, .ref d0])), (d2, .inl (gJ g, 6, .inr (.inl (mgT nw (doF (trF nw) k x0 y0)))))] by rw [e1]; exact hD.sub [0, 1] (by decide) rfl) hS dX7_tryThing_262
                  · skip
                    obtain ⟨x9, hx9, ex9⟩ := isPic_of c_40
                    refine lv_aload_n hx hb dX7_tryThing_242 rfl (lv_at hl 0 rfl) ?_
                    refine va_get (D := g.1) (ci := 6) (v := .ref d2) (C := RX7) (T := TX7) (N := 19) hx hb hw inlX7 hown hkn.1 hP 0 rfl rfl 5 (by decide) (hw _ mw_74) (fun _ h9 => h9) rfl dX7_tryThing_243 ?_
                    refine lv_iconst (v := 3) hx hb dX7_tryThing_246 (by decide) ?_
                    refine lv_iload_n hx hb dX7_tryThing_247 rfl (lv_at hl 2 rfl) ?_
                    refine lv_eqi (show _ = (nI x9) from ex9) ?_
                    refine lv_iadd hx hb dX7_tryThing_248 ?_
                    refine lv_eqi (nI_add 3 x9) ?_
                    refine va_lald hx hb hkn.1 hP 1 1 rfl rfl (vp_in_nI (n := 3 + x9) (by omega) (by decide)) dX7_tryThing_249 ?_
                    refine lv_eql (show _ = nw (3 + x9) by rw [nI_clamp (n := 3 + x9) (by omega)]) ?_
                    refine cS_i (As := [.long (nw (3 + x9))]) (rest := []) hx hb hml hown hw hkn hS hl (c_X7_partsOf l g _ (nw (3 + x9)) ) sf_X7_partsOf mw_472 ⟨(Nat.le_of_ble_eq_true rfl), (Nat.le_of_ble_eq_true rfl)⟩ rfl rfl rfl rfl (Nat.le_of_ble_eq_true rfl) dX7_tryThing_250 ⟨(Nat.le_of_ble_eq_true rfl), (Nat.le_of_ble_eq_true rfl)⟩ ?_
                    refine lv_iload_n hx hb dX7_tryThing_253 rfl (lv_at hl 3 rfl) ?_
                    refine lv_icmp_lt (tgt := 261) hx hb dX7_tryThing_254 (by decide) (fun c_41 => ?_) (fun c_41 => ?_)
                    · skip
                      refine lv_iconst (v := 0) hx hb dX7_tryThing_261 (by decide) ?_
                      have eb : doB (trF nw) k x0 y0 = false := by unfold doB; rw [if_neg c_1, if_neg c_7, if_neg c_13, if_neg c_19, if_neg c_24, if_neg c_29, if_neg c_34, if_pos c_39, c_40, Bool.true_and, ex9, picS_nI hx9]; show (!decide (nI (paS (nw (3 + x9))) < y0)) = _; simp [c_41]
                      have e1 : mgT nw (doF (trF nw) k x0 y0) = nw := by rw [doF_k ⟨c_1, c_7, c_13, c_19, c_24, c_29, c_34⟩]; exact mgT_self nw
                      exact eM_z (g := g) (b := doB (trF nw) k x0 y0) hx hb hr hlocks () (by rw [eb]; try rfl) (by rw [eb]; try rfl) (show va_P g.1 vwCl [(h0, .inr (6, [.ref d1, .int (nI ln), .long rd, .int xd, .int xq, .ref d2, .int (nI an), .int (nI nx), .ref d3, .ref d4, .ref d5, .ref d6, .int xm, .int (nI zn), .ref d7, .ref d8, .long sd, .ref d9, .ref d0])), (d2, .inl (gJ g, 6, .inr (.inl (mgT nw (doF (trF nw) k x0 y0)))))] H by rw [e1]; exact hP.sub [0, 1] rfl) (show va_D A [(h0, .inr (6, [.ref d1, .int (nI ln), .long rd, .int xd, .int xq, .ref d2, .int (nI an), .int (nI nx), .ref d3, .ref d4, .ref d5, .ref d6, .int xm, .int (nI zn), .ref d7, .ref d8, .long sd, .ref d9, .ref d0])), (d2, .inl (gJ g, 6, .inr (.inl (mgT nw (doF (trF nw) k x0 y0)))))] by rw [e1]; exact hD.sub [0, 1] (by decide) rfl) hS dX7_tryThing_262
                    · skip
                      refine lv_iconst (v := 1) hx hb dX7_tryThing_257 (by decide) ?_
                      refine lv_goto (tgt := 262) hx hb dX7_tryThing_258 (by decide) ?_
                      have eb : doB (trF nw) k x0 y0 = true := by unfold doB; rw [if_neg c_1, if_neg c_7, if_neg c_13, if_neg c_19, if_neg c_24, if_neg c_29, if_neg c_34, if_pos c_39, c_40, Bool.true_and, ex9, picS_nI hx9]; show (!decide (nI (paS (nw (3 + x9))) < y0)) = _; simp [c_41]
                      have e1 : mgT nw (doF (trF nw) k x0 y0) = nw := by rw [doF_k ⟨c_1, c_7, c_13, c_19, c_24, c_29, c_34⟩]; exact mgT_self nw
                      exact eM_z (g := g) (b := doB (trF nw) k x0 y0) hx hb hr hlocks () (by rw [eb]; try rfl) (by rw [eb]; try rfl) (show va_P g.1 vwCl [(h0, .inr (6, [.ref d1, .int (nI ln), .long rd, .int xd, .int xq, .ref d2, .int (nI an), .int (nI nx), .ref d3, .ref d4, .ref d5, .ref d6, .int xm, .int (nI zn), .ref d7, .ref d8, .long sd, .ref d9, .ref d0])), (d2, .inl (gJ g, 6, .inr (.inl (mgT nw (doF (trF nw) k x0 y0)))))] H by rw [e1]; exact hP.sub [0, 1] rfl) (show va_D A [(h0, .inr (6, [.ref d1, .int (nI ln), .long rd, .int xd, .int xq, .ref d2, .int (nI an), .int (nI nx), .ref d3, .ref d4, .ref d5, .ref d6, .int xm, .int (nI zn), .ref d7, .ref d8, .long sd, .ref d9, .ref d0])), (d2, .inl (gJ g, 6, .inr (.inl (mgT nw (doF (trF nw) k x0 y0)))))] by rw [e1]; exact hD.sub [0, 1] (by decide) rfl) hS dX7_tryThing_262
                · skip
                  by_cases c_42 : k = 9
                  · skip
                    refine lv_tableIn (off := 262) (tgt := 263) hx hb dX7_tryThing_1 (by rw [c_42]; decide) (by rw [c_42]; decide) (by rw [c_42]; rfl) (by decide) ?_
                    refine lv_iload_n hx hb dX7_tryThing_263 rfl (lv_at hl 2 rfl) ?_
                    refine cS_i (As := [.int x0]) (rest := []) hx hb hml hown hw hkn hS hl (c_X7_isPicture l g _ x0 ) sf_X7_isPicture mw_245 ⟨(Nat.le_of_ble_eq_true rfl), (Nat.le_of_ble_eq_true rfl)⟩ rfl rfl rfl rfl (Nat.le_of_ble_eq_true rfl) dX7_tryThing_264 ⟨(Nat.le_of_ble_eq_true rfl), (Nat.le_of_ble_eq_true rfl)⟩ ?_
                    refine lv_ifeqB (b := isPic x0) (tgt := 303) hx hb dX7_tryThing_267 (by decide) (fun c_43 => ?_) (fun c_43 => ?_)
                    · skip
                      refine lv_iconst (v := 0) hx hb dX7_tryThing_303 (by decide) ?_
                      have eb : doB (trF nw) k x0 y0 = false := by unfold doB; rw [if_neg c_1, if_neg c_7, if_neg c_13, if_neg c_19, if_neg c_24, if_neg c_29, if_neg c_34, if_neg c_39, if_pos c_42, c_43]; rfl
                      have e1 : mgT nw (doF (trF nw) k x0 y0) = nw := by rw [doF_k ⟨c_1, c_7, c_13, c_19, c_24, c_29, c_34⟩]; exact mgT_self nw
                      exact eM_z (g := g) (b := doB (trF nw) k x0 y0) hx hb hr hlocks () (by rw [eb]; try rfl) (by rw [eb]; try rfl) (show va_P g.1 vwCl [(h0, .inr (6, [.ref d1, .int (nI ln), .long rd, .int xd, .int xq, .ref d2, .int (nI an), .int (nI nx), .ref d3, .ref d4, .ref d5, .ref d6, .int xm, .int (nI zn), .ref d7, .ref d8, .long sd, .ref d9, .ref d0])), (d2, .inl (gJ g, 6, .inr (.inl (mgT nw (doF (trF nw) k x0 y0)))))] H by rw [e1]; exact hP.sub [0, 1] rfl) (show va_D A [(h0, .inr (6, [.ref d1, .int (nI ln), .long rd, .int xd, .int xq, .ref d2, .int (nI an), .int (nI nx), .ref d3, .ref d4, .ref d5, .ref d6, .int xm, .int (nI zn), .ref d7, .ref d8, .long sd, .ref d9, .ref d0])), (d2, .inl (gJ g, 6, .inr (.inl (mgT nw (doF (trF nw) k x0 y0)))))] by rw [e1]; exact hD.sub [0, 1] (by decide) rfl) hS dX7_tryThing_304
                    · skip
                      refine lv_iload_n hx hb dX7_tryThing_270 rfl (lv_at hl 3 rfl) ?_
                      refine cS_i (As := [.int y0]) (rest := []) hx hb hml hown hw hkn hS hl (c_X7_isPicture l g _ y0 ) sf_X7_isPicture mw_245 ⟨(Nat.le_of_ble_eq_true rfl), (Nat.le_of_ble_eq_true rfl)⟩ rfl rfl rfl rfl (Nat.le_of_ble_eq_true rfl) dX7_tryThing_271 ⟨(Nat.le_of_ble_eq_true rfl), (Nat.le_of_ble_eq_true rfl)⟩ ?_
                      refine lv_ifeqB (b := isPic y0) (tgt := 303) hx hb dX7_tryThing_274 (by decide) (fun c_44 => ?_) (fun c_44 => ?_)
                      · skip
                        refine lv_iconst (v := 0) hx hb dX7_tryThing_303 (by decide) ?_
                        have eb : doB (trF nw) k x0 y0 = false := by unfold doB; rw [if_neg c_1, if_neg c_7, if_neg c_13, if_neg c_19, if_neg c_24, if_neg c_29, if_neg c_34, if_neg c_39, if_pos c_42, c_43, c_44]; rfl
                        have e1 : mgT nw (doF (trF nw) k x0 y0) = nw := by rw [doF_k ⟨c_1, c_7, c_13, c_19, c_24, c_29, c_34⟩]; exact mgT_self nw
                        exact eM_z (g := g) (b := doB (trF nw) k x0 y0) hx hb hr hlocks () (by rw [eb]; try rfl) (by rw [eb]; try rfl) (show va_P g.1 vwCl [(h0, .inr (6, [.ref d1, .int (nI ln), .long rd, .int xd, .int xq, .ref d2, .int (nI an), .int (nI nx), .ref d3, .ref d4, .ref d5, .ref d6, .int xm, .int (nI zn), .ref d7, .ref d8, .long sd, .ref d9, .ref d0])), (d2, .inl (gJ g, 6, .inr (.inl (mgT nw (doF (trF nw) k x0 y0)))))] H by rw [e1]; exact hP.sub [0, 1] rfl) (show va_D A [(h0, .inr (6, [.ref d1, .int (nI ln), .long rd, .int xd, .int xq, .ref d2, .int (nI an), .int (nI nx), .ref d3, .ref d4, .ref d5, .ref d6, .int xm, .int (nI zn), .ref d7, .ref d8, .long sd, .ref d9, .ref d0])), (d2, .inl (gJ g, 6, .inr (.inl (mgT nw (doF (trF nw) k x0 y0)))))] by rw [e1]; exact hD.sub [0, 1] (by decide) rfl) hS dX7_tryThing_304
                      · skip
                        obtain ⟨x9, hx9, ex9⟩ := isPic_of c_43
                        obtain ⟨y9, hy9, ey9⟩ := isPic_of c_44
                        refine lv_aload_n hx hb dX7_tryThing_277 rfl (lv_at hl 0 rfl) ?_
                        refine va_get (D := g.1) (ci := 6) (v := .ref d2) (C := RX7) (T := TX7) (N := 19) hx hb hw inlX7 hown hkn.1 hP 0 rfl rfl 5 (by decide) (hw _ mw_74) (fun _ h9 => h9) rfl dX7_tryThing_278 ?_
                        refine lv_iconst (v := 3) hx hb dX7_tryThing_281 (by decide) ?_
                        refine lv_iload_n hx hb dX7_tryThing_282 rfl (lv_at hl 2 rfl) ?_
                        refine lv_eqi (show _ = (nI x9) from ex9) ?_
                        refine lv_iadd hx hb dX7_tryThing_283 ?_
                        refine lv_eqi (nI_add 3 x9) ?_
                        refine va_lald hx hb hkn.1 hP 1 1 rfl rfl (vp_in_nI (n := 3 + x9) (by omega) (by decide)) dX7_tryThing_284 ?_
                        refine lv_eql (show _ = nw (3 + x9) by rw [nI_clamp (n := 3 + x9) (by omega)]) ?_
                        refine lv_aload_n hx hb dX7_tryThing_285 rfl (lv_at hl 0 rfl) ?_
                        refine va_get (D := g.1) (ci := 6) (v := .ref d2) (C := RX7) (T := TX7) (N := 19) hx hb hw inlX7 hown hkn.1 hP 0 rfl rfl 5 (by decide) (hw _ mw_74) (fun _ h9 => h9) rfl dX7_tryThing_286 ?_
                        refine lv_iconst (v := 3) hx hb dX7_tryThing_289 (by decide) ?_
                        refine lv_iload_n hx hb dX7_tryThing_290 rfl (lv_at hl 3 rfl) ?_
                        refine lv_eqi (show _ = (nI y9) from ey9) ?_
                        refine lv_iadd hx hb dX7_tryThing_291 ?_
                        refine lv_eqi (nI_add 3 y9) ?_
                        refine va_lald hx hb hkn.1 hP 1 1 rfl rfl (vp_in_nI (n := 3 + y9) (by omega) (by decide)) dX7_tryThing_292 ?_
                        refine lv_eql (show _ = nw (3 + y9) by rw [nI_clamp (n := 3 + y9) (by omega)]) ?_
                        refine cS_i (As := [.long (nw (3 + x9)), .long (nw (3 + y9))]) (rest := []) hx hb hml hown hw hkn hS hl (c_X7_waysOf l g _ (nw (3 + x9)) (nw (3 + y9)) ) sf_X7_waysOf mw_533 ⟨(Nat.le_of_ble_eq_true rfl), (Nat.le_of_ble_eq_true rfl)⟩ rfl rfl rfl rfl (Nat.le_of_ble_eq_true rfl) dX7_tryThing_293 ⟨(Nat.le_of_ble_eq_true rfl), (Nat.le_of_ble_eq_true rfl)⟩ ?_
                        refine lv_if_le (tgt := 303) hx hb dX7_tryThing_296 (by decide) (fun c_45 => ?_) (fun c_45 => ?_)
                        · skip
                          refine lv_iconst (v := 0) hx hb dX7_tryThing_303 (by decide) ?_
                          have eb : doB (trF nw) k x0 y0 = false := by unfold doB; rw [if_neg c_1, if_neg c_7, if_neg c_13, if_neg c_19, if_neg c_24, if_neg c_29, if_neg c_34, if_neg c_39, if_pos c_42, c_43, c_44, Bool.true_and, Bool.true_and, ex9, ey9, picS_nI hx9, picS_nI hy9]; show (!decide (waS (nw (3 + x9)) (nw (3 + y9)) = 0)) = _; rw [decide_eq_true (waS_pos.mp c_45)]; rfl
                          have e1 : mgT nw (doF (trF nw) k x0 y0) = nw := by rw [doF_k ⟨c_1, c_7, c_13, c_19, c_24, c_29, c_34⟩]; exact mgT_self nw
                          exact eM_z (g := g) (b := doB (trF nw) k x0 y0) hx hb hr hlocks () (by rw [eb]; try rfl) (by rw [eb]; try rfl) (show va_P g.1 vwCl [(h0, .inr (6, [.ref d1, .int (nI ln), .long rd, .int xd, .int xq, .ref d2, .int (nI an), .int (nI nx), .ref d3, .ref d4, .ref d5, .ref d6, .int xm, .int (nI zn), .ref d7, .ref d8, .long sd, .ref d9, .ref d0])), (d2, .inl (gJ g, 6, .inr (.inl (mgT nw (doF (trF nw) k x0 y0)))))] H by rw [e1]; exact hP.sub [0, 1] rfl) (show va_D A [(h0, .inr (6, [.ref d1, .int (nI ln), .long rd, .int xd, .int xq, .ref d2, .int (nI an), .int (nI nx), .ref d3, .ref d4, .ref d5, .ref d6, .int xm, .int (nI zn), .ref d7, .ref d8, .long sd, .ref d9, .ref d0])), (d2, .inl (gJ g, 6, .inr (.inl (mgT nw (doF (trF nw) k x0 y0)))))] by rw [e1]; exact hD.sub [0, 1] (by decide) rfl) hS dX7_tryThing_304
                        · skip
                          refine lv_iconst (v := 1) hx hb dX7_tryThing_299 (by decide) ?_
                          refine lv_goto (tgt := 304) hx hb dX7_tryThing_300 (by decide) ?_
                          have eb : doB (trF nw) k x0 y0 = true := by unfold doB; rw [if_neg c_1, if_neg c_7, if_neg c_13, if_neg c_19, if_neg c_24, if_neg c_29, if_neg c_34, if_neg c_39, if_pos c_42, c_43, c_44, Bool.true_and, Bool.true_and, ex9, ey9, picS_nI hx9, picS_nI hy9]; show (!decide (waS (nw (3 + x9)) (nw (3 + y9)) = 0)) = _; rw [decide_eq_false (fun q => c_45 (waS_pos.mpr q))]; rfl
                          have e1 : mgT nw (doF (trF nw) k x0 y0) = nw := by rw [doF_k ⟨c_1, c_7, c_13, c_19, c_24, c_29, c_34⟩]; exact mgT_self nw
                          exact eM_z (g := g) (b := doB (trF nw) k x0 y0) hx hb hr hlocks () (by rw [eb]; try rfl) (by rw [eb]; try rfl) (show va_P g.1 vwCl [(h0, .inr (6, [.ref d1, .int (nI ln), .long rd, .int xd, .int xq, .ref d2, .int (nI an), .int (nI nx), .ref d3, .ref d4, .ref d5, .ref d6, .int xm, .int (nI zn), .ref d7, .ref d8, .long sd, .ref d9, .ref d0])), (d2, .inl (gJ g, 6, .inr (.inl (mgT nw (doF (trF nw) k x0 y0)))))] H by rw [e1]; exact hP.sub [0, 1] rfl) (show va_D A [(h0, .inr (6, [.ref d1, .int (nI ln), .long rd, .int xd, .int xq, .ref d2, .int (nI an), .int (nI nx), .ref d3, .ref d4, .ref d5, .ref d6, .int xm, .int (nI zn), .ref d7, .ref d8, .long sd, .ref d9, .ref d0])), (d2, .inl (gJ g, 6, .inr (.inl (mgT nw (doF (trF nw) k x0 y0)))))] by rw [e1]; exact hD.sub [0, 1] (by decide) rfl) hS dX7_tryThing_304
                  · skip
                    refine lv_tableOut (tgt := 305) hx hb dX7_tryThing_1 (sw_out (lo := 1) (hi := 9) (fun k h1 h2 => by have hk : k = 1 ∨ k = 2 ∨ k = 3 ∨ k = 4 ∨ k = 5 ∨ k = 6 ∨ k = 7 ∨ k = 8 ∨ k = 9 := (by omega); rcases hk with rfl | rfl | rfl | rfl | rfl | rfl | rfl | rfl | rfl <;> assumption)) (by decide) ?_
                    refine lv_iconst (v := 0) hx hb dX7_tryThing_305 (by decide) ?_
                    have eb : doB (trF nw) k x0 y0 = false := by unfold doB; rw [if_neg c_1, if_neg c_7, if_neg c_13, if_neg c_19, if_neg c_24, if_neg c_29, if_neg c_34, if_neg c_39, if_neg c_42]
                    have e1 : mgT nw (doF (trF nw) k x0 y0) = nw := by rw [doF_k ⟨c_1, c_7, c_13, c_19, c_24, c_29, c_34⟩]; exact mgT_self nw
                    exact eM_z (g := g) (b := doB (trF nw) k x0 y0) hx hb hr hlocks () (by rw [eb]; rfl) (by rw [eb]; rfl) (show va_P g.1 vwCl [(h0, .inr (6, [.ref d1, .int (nI ln), .long rd, .int xd, .int xq, .ref d2, .int (nI an), .int (nI nx), .ref d3, .ref d4, .ref d5, .ref d6, .int xm, .int (nI zn), .ref d7, .ref d8, .long sd, .ref d9, .ref d0])), (d2, .inl (gJ g, 6, .inr (.inl (mgT nw (doF (trF nw) k x0 y0)))))] H by rw [e1]; exact hP.sub [0, 1] rfl) (show va_D A [(h0, .inr (6, [.ref d1, .int (nI ln), .long rd, .int xd, .int xq, .ref d2, .int (nI an), .int (nI nx), .ref d3, .ref d4, .ref d5, .ref d6, .int xm, .int (nI zn), .ref d7, .ref d8, .long sd, .ref d9, .ref d0])), (d2, .inl (gJ g, 6, .inr (.inl (mgT nw (doF (trF nw) k x0 y0)))))] by rw [e1]; exact hD.sub [0, 1] (by decide) rfl) hS dX7_tryThing_306
