/-! The class's answers are the reference's, where their first three pictures are the same. -/
def ag3 (f g : Nat → Int64) : Prop := ∀ j, j < 3 → f j = g j
theorem pic_ag {f g : Nat → Int64} (h : ag3 f g) (x : Int32) : picS f x = picS g x := by
  unfold picS
  by_cases q : isPic x = true
  · rw [if_pos q, if_pos q]
    obtain ⟨j, hj, rfl⟩ := isPic_of q
    rw [nI_clamp (by omega)]; exact h j hj
  · rw [if_neg q, if_neg q]
theorem set_ag {f g : Nat → Int64} (h : ag3 f g) (x : Int32) (v : Int64) : ag3 (setS f x v) (setS g x v) := by
  unfold setS
  by_cases q : isPic x = true
  · rw [if_pos q, if_pos q]
    intro j hj
    unfold vp_updL
    by_cases r : j = x.toNatClampNeg
    · rw [if_pos r, if_pos r]
    · rw [if_neg r, if_neg r]; exact h j hj
  · rw [if_neg q, if_neg q]; exact h
theorem cb_ag {f g : Nat → Int64} (h : ag3 f g) (k a b : Int32) : ag3 (cbF f k a b) (cbF g k a b) := by
  unfold cbF
  rw [pic_ag h a, pic_ag h b]
  by_cases q : cbB a b = true
  · rw [if_pos q, if_pos q]; exact set_ag h _ _
  · rw [if_neg q, if_neg q]; exact h
theorem mv_ag {f g : Nat → Int64} (h : ag3 f g) (k x : Int32) : ag3 (mvF f k x) (mvF g k x) := by
  unfold mvF
  rw [pic_ag h x]
  by_cases q : isPic x = true
  · rw [if_pos q, if_pos q]; exact set_ag h _ _
  · rw [if_neg q, if_neg q]; exact h
theorem sc_ag {f g : Nat → Int64} (h : ag3 f g) (k x y : Int32) : ag3 (scF f k x y) (scF g k x y) := by
  unfold scF
  rw [pic_ag h x]
  by_cases q : scB x y = true
  · rw [if_pos q, if_pos q]; exact set_ag h _ _
  · rw [if_neg q, if_neg q]; exact h
theorem do_ag {f g : Nat → Int64} (h : ag3 f g) (k a b : Int32) : ag3 (doF f k a b) (doF g k a b) := by
  unfold doF
  repeat' (split; · first | exact cb_ag h _ _ _ | exact mv_ag h _ _ | exact sc_ag h _ _ _ | exact h | (split <;> first | exact mv_ag h _ _ | exact h))
  exact h
theorem dB_ag {f g : Nat → Int64} (h : ag3 f g) (k a b : Int32) : doB f k a b = doB g k a b := by
  unfold doB
  rw [pic_ag h a, pic_ag h b]
theorem area_ag {f g : Nat → Int64} (h : ag3 f g) : areaN f = areaN g := fb_sm_cong fun j hj => congrArg pcn (h j hj)
theorem py_ag {f g : Nat → Int64} (h : ag3 f g) (k : Nat) : ag3 (pyS f k) (pyS g k) := by
  unfold pyS
  repeat' (split; · exact do_ag h _ _ _)
  exact do_ag h _ _ _
theorem yr_ag {f g : Nat → Int64} (h : ag3 f g) (sd : Int64) : ∀ k, ag3 (yrS f sd k).1 (yrS g sd k).1 ∧ (yrS f sd k).2 = (yrS g sd k).2
  | 0 => ⟨h, rfl⟩
  | k + 1 => by
    obtain ⟨h1, h2⟩ := yr_ag h sd k
    have h3 := py_ag h1 (lotN (sdS (yrS g sd k).2.1))
    unfold yrS
    rw [h2]
    exact ⟨h3, by rw [area_ag h3]⟩
theorem trlt_ag (nw : Nat → Int64) : ag3 (trF (ltF nw)) nw := fun j hj => by
  unfold trF ltF
  rw [if_pos (by omega)]; congr 1; omega
theorem cp_ag {f ft nw : Nat → Int64} (h : ag3 f nw) : ag3 (cpS f ft) nw := fun j hj => by
  unfold cpS
  rw [if_pos hj]; exact h j hj
theorem cp_tr {f ft nw : Nat → Int64} (h : ag3 f nw) : ag3 (cpS f ft) (trF (ltF nw)) := fun j hj => (cp_ag h j hj).trans (trlt_ag nw j hj).symm
theorem ag_refl (f : Nat → Int64) : ag3 f f := fun _ _ => rfl
theorem e_cb {f nw : Nat → Int64} (h : ag3 f nw) (k a b : Int32) : qCb f k a b = qCb nw k a b := by unfold qCb; rw [pic_ag h a, pic_ag h b]
theorem e_mx (nw : Nat → Int64) (a b : Int32) : qCb nw 1 a b = mMx nw 0 a b ∧ qCb nw 2 a b = mMx nw 1 a b ∧ qCb nw 3 a b = mMx nw 2 a b := ⟨rfl, rfl, rfl⟩
theorem e_tu {f nw : Nat → Int64} (h : ag3 f nw) (x : Int32) : qTu f x = qTu nw x := by unfold qTu; rw [pic_ag h x]
theorem e_fl {f nw : Nat → Int64} (h : ag3 f nw) (x : Int32) : qFl f x = qFl nw x := by unfold qFl; rw [pic_ag h x]
theorem e_ha {f nw : Nat → Int64} (h : ag3 f nw) (x q : Int32) : qHa f x q = qHa nw x q := by unfold qHa; rw [pic_ag h x]
theorem e_gr {f nw : Nat → Int64} (h : ag3 f nw) (x q : Int32) : qGr f x q = qGr nw x q := by unfold qGr; rw [pic_ag h x]
theorem e_lk {f nw : Nat → Int64} (h : ag3 f nw) (x y : Int32) : qLk f x y = qLk nw x y := by unfold qLk; rw [pic_ag h x]
theorem e_le {f nw : Nat → Int64} (h : ag3 f nw) (x y : Int32) : qLe f x y = qLe nw x y := by unfold qLe; rw [pic_ag h x]
theorem e_at {f nw : Nat → Int64} (h : ag3 f nw) (x y z : Int32) : qAt f x y z = qAt nw x y z := by unfold qAt; rw [pic_ag h x]
theorem e_al {f nw : Nat → Int64} (h : ag3 f nw) (x y : Int32) : qAl f x y = qAl nw x y := by unfold qAl; rw [pic_ag h x, pic_ag h y]
theorem e_ne {f nw : Nat → Int64} (h : ag3 f nw) (x y z : Int32) : qNe f x y z = qNe nw x y z := by unfold qNe; rw [pic_ag h x, pic_ag h y]
theorem e_ct {f nw : Nat → Int64} (h : ag3 f nw) (sn an zn : Nat) (x : Int32) : qCt f sn an zn x = qCt nw sn an zn x := by
  unfold qCt; rw [area_ag h, h 0 (by decide), h 1 (by decide), h 2 (by decide)]
theorem rs_ag {f nw : Nat → Int64} (h : ag3 f nw) {a b : Nat} (ha : a < 3) (hb : b < 3) (hne : a ≠ b) : rsB f a b = rsB nw a b := by
  funext i j
  unfold rsB
  rw [h a ha, h b hb, h (3 - a - b) (by omega)]
theorem e_rs {f nw : Nat → Int64} (h : ag3 f nw) (x y z : Int32) : qRs f x y z = mRs nw x y z := by
  unfold qRs mRs
  by_cases hx : isPic x = true
  · rw [if_pos hx, if_pos hx]
    by_cases hy : isPic y = true
    · rw [if_pos hy, if_pos hy]
      by_cases he : x = y
      · rw [if_pos he, if_pos he]
      · rw [if_neg he, if_neg he]
        obtain ⟨a, ha, rfl⟩ := isPic_of hx
        obtain ⟨b, hb, rfl⟩ := isPic_of hy
        rw [nI_clamp (by omega), nI_clamp (by omega), rs_ag h ha hb (fun q => he (by rw [q]))]
        by_cases h0 : z = 0
        · subst h0; rfl
        · by_cases h1 : z = 1
          · subst h1; rfl
          · rw [if_neg h0, if_neg h1, if_neg]
            unfold is01; simp [h0, h1]
    · rw [if_neg hy, if_neg hy]
  · rw [if_neg hx, if_neg hx]
/-! share -/
theorem ab_sub {nw : Nat → Int64} {i x : Nat} (hi : i < 8) (hx : x < 3) : ∀ k, k < 64 → bt (abS nw i) k = true → bt (abS nw (orN i x)) k = true := by
  have hs : ∀ j, j < 3 → sb i j = 1 → sb (orN i x) j = 1 := by
    have : ∀ (a : Fin 8) (b : Fin 3) (j : Fin 3), sb a.val j.val = 1 → sb (orN a.val b.val) j.val = 1 := by decide +kernel
    intro j hj; exact this ⟨i, hi⟩ ⟨x, hx⟩ ⟨j, hj⟩
  intro b _
  rw [ab_bt, ab_bt]
  have h0 := hs 0 (by omega); have h1 := hs 1 (by omega); have h2 := hs 2 (by omega)
  simp only [Bool.or_eq_true, Bool.and_eq_true, decide_eq_true_eq]
  rintro ((⟨p, q⟩ | ⟨p, q⟩) | ⟨p, q⟩)
  · exact Or.inl (Or.inl ⟨h0 p, q⟩)
  · exact Or.inl (Or.inr ⟨h1 p, q⟩)
  · exact Or.inr ⟨h2 p, q⟩
theorem pcn_minus {a b : Int64} (h : ∀ k, k < 64 → bt b k = true → bt a k = true) : pcn a - pcn b = fb_sm (fun k => if (bt a k && !bt b k) = true then 1 else 0) 64 := by
  have h1 := pcn_split b a
  have h2 : a &&& b = b := by
    apply bt_ext; intro k hk
    rw [bt_and]
    have := h k hk
    cases hb : bt b k
    · simp
    · simp [this hb]
  rw [h2] at h1
  have h3 : pcn (a &&& (b ^^^ (-1))) = fb_sm (fun k => if (bt a k && !bt b k) = true then 1 else 0) 64 := by
    unfold pcn
    rw [ct_sm]
    exact fb_sm_cong fun k hk => by rw [bt_and, bt_not b hk]
  omega
theorem sm_mul (c : Nat) (f : Nat → Nat) : ∀ n, c * fb_sm f n = fb_sm (fun k => c * f k) n
  | 0 => rfl
  | n + 1 => by rw [fb_sm_succ, fb_sm_succ, Nat.mul_add, sm_mul c f n]
def cB (b0 b1 b2 : Bool) (i : Nat) : Bool := (decide (sb i 0 = 1) && b0) || (decide (sb i 1 = 1) && b1) || (decide (sb i 2 = 1) && b2)
def b3 (b0 b1 b2 : Bool) (x : Nat) : Bool := if x = 0 then b0 else if x = 1 then b1 else b2
theorem sx_fin : ∀ (b0 b1 b2 : Bool) (x : Fin 3), fb_sm (fun i => if sb i x.val = 0 then orde i * (if (cB b0 b1 b2 (orN i x.val) && !cB b0 b1 b2 i) = true then 1 else 0) else 0) 8 = if b3 b0 b1 b2 x.val = true then sxN (((0 + if b0 = true then 1 else 0) + if b1 = true then 1 else 0) + if b2 = true then 1 else 0) else 0 := by decide +kernel
theorem sh_eq (nw : Nat → Int64) {x : Nat} (hx : x < 3) : fb_sm (smF nw x) 8 = fb_sm (fun k => if bt (nw x) k = true then sxN (binN nw k) else 0) 64 := by
  have h1 : ∀ i, i < 8 → smF nw x i = fb_sm (fun k => if sb i x = 0 then orde i * (if (cB (bt (nw 0) k) (bt (nw 1) k) (bt (nw 2) k) (orN i x) && !cB (bt (nw 0) k) (bt (nw 1) k) (bt (nw 2) k) i) = true then 1 else 0) else 0) 64 := by
    intro i hi
    unfold smF
    by_cases q : sb i x = 0
    · rw [if_pos q, pcn_minus (ab_sub hi hx), sm_mul]
      exact fb_sm_cong fun k _ => by rw [if_pos q, ab_bt, ab_bt]; rfl
    · rw [if_neg q]
      rw [fb_sm_cong (g := fun _ => 0) (fun k _ => if_neg q), fb_sm_const]
  rw [fb_sm_cong h1, sm_swap]
  apply fb_sm_cong
  intro k _
  have h2 := sx_fin (bt (nw 0) k) (bt (nw 1) k) (bt (nw 2) k) ⟨x, hx⟩
  dsimp only at h2
  rw [h2]
  have h3 : b3 (bt (nw 0) k) (bt (nw 1) k) (bt (nw 2) k) x = bt (nw x) k := by
    rcases (show x = 0 ∨ x = 1 ∨ x = 2 by omega) with rfl | rfl | rfl <;> rfl
  rw [h3]
  rfl
theorem e_sh {f nw : Nat → Int64} (h : ag3 f nw) (x : Int32) (up : Bool) : qSh f x up = mSh nw x up := by
  unfold qSh mSh
  by_cases hx : isPic x = true
  · rw [if_pos hx, if_pos hx]
    obtain ⟨j, hj, rfl⟩ := isPic_of hx
    rw [nI_clamp (by omega), sh_eq nw hj]
    congr 2
    unfold shN
    apply fb_sm_cong
    intro k _
    unfold shF
    rw [picS_nI hj, h j hj]
    have : binN f k = binN nw k := fb_ct_cong fun i hi => by rw [h i hi]
    rw [this]
  · rw [if_neg hx, if_neg hx]
/-! fades -/
theorem mk_qc {i : Nat} (hi : i < 4) : mkM 1 i = qcS i := by
  have : ∀ j : Fin 4, mkM 1 j.val = qcS j.val := by decide +kernel
  exact this ⟨i, hi⟩
theorem qt_lt {c : Nat} (h : c < 64) : qtN c < 4 := by unfold qtN; omega
theorem qc_qt {i c : Nat} (hi : i < 4) (hc : c < 64) : bt (qcS i) c = decide (qtN c = i) := by
  have : ∀ (j : Fin 4) (k : Fin 64), bt (qcS j.val) k.val = decide (qtN k.val = j.val) := by decide +kernel
  exact this ⟨i, hi⟩ ⟨c, hc⟩
theorem lf_bt {k i c : Nat} {a : Int64} (hi : i < 4) (hc : c < 64) : bt (lfF k i a) c = (bt a c && !(decide (sb k i = 1) && decide (qtN c = i))) := by
  unfold lfF
  rw [bt_and, mk_qc hi]
  by_cases h : sb k i = 1
  · rw [if_pos (decide_eq_true h), bt_not _ hc, qc_qt hi hc]; simp [h]
  · rw [if_neg (by simp [h]), bt_m1 hc]; simp [h]
theorem lf4_bt {k c : Nat} {v : Int64} (hc : c < 64) : bt (it (lfF k) 4 v) c = (bt v c && !decide (sb k (qtN c) = 1)) := by
  show bt (lfF k 3 (lfF k 2 (lfF k 1 (lfF k 0 v)))) c = _
  rw [lf_bt (by decide) hc, lf_bt (by decide) hc, lf_bt (by decide) hc, lf_bt (by decide) hc]
  have h := qt_lt hc
  generalize qtN c = q at h ⊢
  rcases (show q = 0 ∨ q = 1 ∨ q = 2 ∨ q = 3 by omega) with rfl | rfl | rfl | rfl <;> simp
theorem sb_15 {k i : Nat} (hk : k < 16) (hi : i < 4) : sb (15 - k) i = 1 ↔ ¬ sb k i = 1 := by
  have : ∀ (a : Fin 16) (b : Fin 4), sb (15 - a.val) b.val = 1 ↔ ¬ sb a.val b.val = 1 := by decide +kernel
  exact this ⟨k, hk⟩ ⟨i, hi⟩
theorem ar_eq (v : Int64) (k : Nat) : arN v k = fb_sm (fun c => if (bt v c && decide (sb k (qtN c) = 1)) = true then 1 else 0) 64 := by
  have h1 : ∀ i, i < 4 → arF v k i = fb_sm (fun c => if sb k i = 1 then (if (bt v c && decide (qtN c = i)) = true then 1 else 0) else 0) 64 := by
    intro i hi
    unfold arF
    by_cases q : sb k i = 1
    · rw [if_pos q]
      unfold pcn
      rw [ct_sm]
      exact fb_sm_cong fun c hc => by rw [if_pos q, bt_and, qc_qt hi hc]
    · rw [if_neg q, fb_sm_cong (g := fun _ => 0) (fun k _ => if_neg q), fb_sm_const]
  unfold arN
  rw [fb_sm_cong h1, sm_swap]
  apply fb_sm_cong
  intro c hc
  have h := qt_lt hc
  simp only [fb_sm_succ, fb_sm]
  generalize qtN c = q at h ⊢
  rcases (show q = 0 ∨ q = 1 ∨ q = 2 ∨ q = 3 by omega) with rfl | rfl | rfl | rfl <;> cases bt v c <;> simp
theorem lf_ar {v : Int64} {k : Nat} (hk : k < 16) : pcn (it (lfF k) 4 v) = arN v (15 - k) := by
  rw [ar_eq]
  unfold pcn
  rw [ct_sm]
  apply fb_sm_cong
  intro c hc
  rw [lf4_bt hc]
  have h := sb_15 hk (qt_lt hc)
  by_cases q : sb k (qtN c) = 1
  · have h2 : ¬ sb (15 - k) (qtN c) = 1 := fun z => (h.mp z) q
    simp [q, h2]
  · have h2 := h.mpr q
    simp [q, h2]
theorem wt_ch {k x : Nat} (hk : k < 16) : it (wtF k x) 4 1 = chN (15 - k) x := by
  have h : ∀ i a, i < 4 → wtF k x i a = chF (15 - k) x i a := by
    intro i a hi
    unfold wtF chF
    have h := sb_15 hk hi
    by_cases q : sb k i = 1
    · rw [if_pos (decide_eq_true q), if_neg (fun z => (h.mp z) q)]
    · rw [if_neg (by simp [q]), if_pos (h.mpr q)]
  unfold chN
  show wtF k x 3 (wtF k x 2 (wtF k x 1 (wtF k x 0 1))) = chF _ x 3 (chF _ x 2 (chF _ x 1 (chF _ x 0 1)))
  rw [h 3 _ (by decide), h 2 _ (by decide), h 1 _ (by decide), h 0 _ (by decide)]
theorem sm_rev (g : Nat → Nat) : fb_sm (fun k => g (15 - k)) 16 = fb_sm g 16 := by
  simp only [fb_sm_succ, fb_sm, Nat.zero_add, Nat.sub_self, Nat.sub_zero, Nat.reduceSub, Nat.reduceAdd]
  omega
theorem fd_eq (v : Int64) (t x : Nat) : fdN v t x = fmN v t x := by
  unfold fdN fmN
  rw [← sm_rev]
  apply fb_sm_cong
  intro k hk
  unfold fdF fmF
  rw [lf_ar hk, wt_ch hk]
theorem e_fd {f nw : Nat → Int64} (h : ag3 f nw) (a t x : Int32) (up : Bool) : qFd f a t x up = mFd nw a t x up := by
  unfold qFd mFd
  rw [pic_ag h a, fd_eq, show inL t.toInt64 0 64 = _ from inU (a := 0) (b := 64), show inL x.toInt64 0 10 = _ from inU (a := 0) (b := 10)]
  by_cases h0 : isPic a = true
  · rw [if_pos h0, if_pos h0]
    by_cases h1 : t < 0
    · simp [h1]
    · by_cases h2 : 64 < t
      · simp [h1, h2]
      · by_cases h3 : x < 0
        · simp [h1, h2, h3]
        · by_cases h4 : x ≤ 10
          · simp [h1, h2, h3, h4, Int32.not_lt.mpr h4]
          · simp [h1, h2, h3, h4, Int32.not_le.mp h4]
  · rw [if_neg h0, if_neg h0]
/-! leaves -/
theorem ct_prod (p r : Nat → Bool) (n : Nat) (hn : 0 < n) : ∀ a, fb_ct (fun k => p (k / n) && r (k % n)) (a * n) = fb_ct p a * fb_ct r n
  | 0 => by rw [Nat.zero_mul]; show 0 = 0 * _; rw [Nat.zero_mul]
  | a + 1 => by
    rw [Nat.succ_mul, fb_ct_split, ct_prod p r n hn a, fb_ct_succ, Nat.add_mul]
    congr 1
    have h : ∀ k, k < n → (p ((a * n + k) / n) && r ((a * n + k) % n)) = (p a && r k) := by
      intro k hk
      rw [show (a * n + k) / n = a from by rw [Nat.mul_comm, Nat.mul_add_div hn, Nat.div_eq_of_lt hk, Nat.add_zero], show (a * n + k) % n = k from by rw [Nat.mul_comm, Nat.mul_add_mod, Nat.mod_eq_of_lt hk]]
    rw [fb_ct_cong h]
    cases hp : p a
    · have h0 : ∀ m, fb_ct (fun k => false && r k) m = 0 := fun m => fb_ct_zero.mpr fun _ _ => rfl
      rw [h0]; simp
    · rw [fb_ct_cong (q := r) (fun k _ => Bool.true_and _)]; simp
theorem lvG_1 (m : Nat → Bool) : ∀ n, (lvG m n).1 = fb_ct m n
  | 0 => rfl
  | n + 1 => by
    have ih := lvG_1 m n
    rw [fb_ct_succ]
    show (if m n = true then ((lvG m n).1 + 1, if (lvG m n).1 = 0 then nI (figN n) else (lvG m n).2) else lvG m n).1 = _
    by_cases h : m n = true
    · rw [if_pos h, if_pos h]; show (lvG m n).1 + 1 = _; rw [ih]
    · rw [if_neg h, if_neg h, ih]; rfl
theorem lvG_no {m : Nat → Bool} : ∀ n, (∀ k, k < n → m k = false) → lvG m n = (0, -9)
  | 0, _ => rfl
  | n + 1, h => by
    unfold lvG
    rw [if_neg (by rw [h n (by omega)]; decide)]
    exact lvG_no n fun k hk => h k (by omega)
theorem lvG_first {m : Nat → Bool} {k0 : Nat} (h0 : m k0 = true) (hl : ∀ k, k < k0 → m k = false) : ∀ n, (lvG m (k0 + 1 + n)).2 = nI (figN k0) ∧ 0 < (lvG m (k0 + 1 + n)).1
  | 0 => by
    show (lvG m (k0 + 1)).2 = _ ∧ 0 < (lvG m (k0 + 1)).1
    unfold lvG
    rw [if_pos h0, lvG_no k0 hl]
    exact ⟨rfl, Nat.succ_pos _⟩
  | n + 1 => by
    obtain ⟨h1, h2⟩ := lvG_first h0 hl n
    show (lvG m (k0 + 1 + n + 1)).2 = _ ∧ 0 < (lvG m (k0 + 1 + n + 1)).1
    unfold lvG
    by_cases h : m (k0 + 1 + n) = true
    · rw [if_pos h]
      exact ⟨by rw [← h1]; exact if_neg (by omega), by show 0 < _ + 1; omega⟩
    · rw [if_neg h]; exact ⟨h1, h2⟩
theorem pat_tell {j c : Nat} (hj : j < 4) (hc : c < 64) : bt (patS (leafc j)) c = tellB (leafc j) (c % 8) (c / 8) := by
  have : ∀ (a : Fin 4) (b : Fin 64), bt (patS (leafc a.val)) b.val = tellB (leafc a.val) (b.val % 8) (b.val / 8) := by decide +kernel
  exact this ⟨j, hj⟩ ⟨c, hc⟩
theorem my_so {cf : Nat → Nat} {bz : Nat → Bool} {n k : Nat} (hcf : ∀ j, j < n → cf j < 64) : myB cf bz n k = (soB cf bz n 0 (leafc (fgN k 0)) && soB cf bz n 1 (leafc (fgN k 1)) && soB cf bz n 2 (leafc (fgN k 2)) && soB cf bz n 3 (leafc (fgN k 3))) := by
  have key : ∀ j, j < n → (okM cf bz k j = true ↔ ∀ q, q < 4 → okS cf bz q (leafc (fgN k q)) j = true) := by
    intro j hj
    have hc := hcf j hj
    unfold okM okS
    constructor
    · intro h q hq
      rw [qc_qt hq hc]
      by_cases e : qtN (cf j) = q
      · rw [e] at h
        rw [pat_tell (fg_lt _ _) hc, h]; simp
      · simp [e]
    · intro h
      have h1 := h (qtN (cf j)) (qt_lt hc)
      rw [qc_qt (qt_lt hc) hc, pat_tell (fg_lt _ _) hc] at h1
      simpa using h1
  unfold myB allB soB
  rw [Bool.eq_iff_iff]
  simp only [Bool.and_eq_true, decide_eq_true_eq]
  constructor
  · intro h
    exact ⟨⟨⟨fun j hj => (key j hj).mp (h j hj) 0 (by decide), fun j hj => (key j hj).mp (h j hj) 1 (by decide)⟩, fun j hj => (key j hj).mp (h j hj) 2 (by decide)⟩, fun j hj => (key j hj).mp (h j hj) 3 (by decide)⟩
  · rintro ⟨⟨⟨h0, h1⟩, h2⟩, h3⟩ j hj
    refine (key j hj).mpr fun q hq => ?_
    rcases (show q = 0 ∨ q = 1 ∨ q = 2 ∨ q = 3 by omega) with rfl | rfl | rfl | rfl
    · exact h0 j hj
    · exact h1 j hj
    · exact h2 j hj
    · exact h3 j hj
theorem lv_ct (s : Nat → Nat → Bool) : fb_ct (fun k => s 0 (fgN k 0) && s 1 (fgN k 1) && s 2 (fgN k 2) && s 3 (fgN k 3)) 256 = fb_ct (s 0) 4 * (fb_ct (s 1) 4 * (fb_ct (s 2) 4 * fb_ct (s 3) 4)) := by
  have e1 := ct_prod (s 2) (s 3) 4 (by decide) 4
  have e2 := ct_prod (s 1) (fun k => s 2 (k / 4) && s 3 (k % 4)) 16 (by decide) 4
  have e3 := ct_prod (s 0) (fun k => s 1 (k / 16) && (s 2 (k % 16 / 4) && s 3 (k % 16 % 4))) 64 (by decide) 4
  rw [← e1, show 4 * 4 = 16 from rfl, ← e2, show 4 * 16 = 64 from rfl, ← e3]
  apply fb_ct_cong
  intro k hk
  have a0 : fgN k 0 = k / 64 := by show k / 64 % 4 = _; have : k < 256 := hk; omega
  have a1 : fgN k 1 = k % 64 / 16 := by show k / 16 % 4 = _; omega
  have a2 : fgN k 2 = k % 64 % 16 / 4 := by show k / 4 % 4 = _; omega
  have a3 : fgN k 3 = k % 64 % 16 % 4 := by show k / 1 % 4 = _; omega
  rw [a0, a1, a2, a3, Bool.and_assoc, Bool.and_assoc]
theorem fg_cases (cf : Nat → Nat) (bz : Nat → Bool) (n q : Nat) : (∃ j, j < 4 ∧ soB cf bz n q (leafc j) = true ∧ (∀ i, i < j → soB cf bz n q (leafc i) = false) ∧ fgI cf bz n q = nI (1 + j)) ∨ ((∀ j, j < 4 → soB cf bz n q (leafc j) = false) ∧ fgI cf bz n q = -9) := by
  unfold fgI
  by_cases h0 : soB cf bz n q (leafc 0) = true
  · exact Or.inl ⟨0, by decide, h0, fun i hi => absurd hi (Nat.not_lt_zero _), by rw [if_pos h0]; rfl⟩
  have h0' := Bool.eq_false_iff.mpr h0
  by_cases h1 : soB cf bz n q (leafc 1) = true
  · exact Or.inl ⟨1, by decide, h1, fun i hi => by rw [show i = 0 by omega]; exact h0', by rw [if_neg h0, if_pos h1]; rfl⟩
  have h1' := Bool.eq_false_iff.mpr h1
  by_cases h2 : soB cf bz n q (leafc 2) = true
  · exact Or.inl ⟨2, by decide, h2, fun i hi => by rcases (show i = 0 ∨ i = 1 by omega) with rfl | rfl; exact h0'; exact h1', by rw [if_neg h0, if_neg h1, if_pos h2]; rfl⟩
  have h2' := Bool.eq_false_iff.mpr h2
  by_cases h3 : soB cf bz n q (leafc 3) = true
  · exact Or.inl ⟨3, by decide, h3, fun i hi => by rcases (show i = 0 ∨ i = 1 ∨ i = 2 by omega) with rfl | rfl | rfl; exact h0'; exact h1'; exact h2', by rw [if_neg h0, if_neg h1, if_neg h2, if_pos h3]; rfl⟩
  have h3' := Bool.eq_false_iff.mpr h3
  exact Or.inr ⟨fun j hj => by rcases (show j = 0 ∨ j = 1 ∨ j = 2 ∨ j = 3 by omega) with rfl | rfl | rfl | rfl; exact h0'; exact h1'; exact h2'; exact h3', by rw [if_neg h0, if_neg h1, if_neg h2, if_neg h3]⟩
theorem nI_n9 {j : Nat} (h : j < 4) : ¬ nI (1 + j) = -9 := by
  have : ∀ i : Fin 4, ¬ nI (1 + i.val) = -9 := by decide +kernel
  exact this ⟨j, h⟩
theorem lv_none {cf : Nat → Nat} {bz : Nat → Bool} {n : Nat} (hcf : ∀ j, j < n → cf j < 64) (h : ∃ q, q < 4 ∧ ∀ j, j < 4 → soB cf bz n q (leafc j) = false) : (lvG (myB cf bz n) 256).2 = -9 := by
  obtain ⟨q, hq, h⟩ := h
  rw [lvG_no 256 fun k hk => ?_]
  rw [my_so hcf]
  rcases (show q = 0 ∨ q = 1 ∨ q = 2 ∨ q = 3 by omega) with rfl | rfl | rfl | rfl
  · rw [h _ (fg_lt k 0)]; simp
  · rw [h _ (fg_lt k 1)]; simp
  · rw [h _ (fg_lt k 2)]; simp
  · rw [h _ (fg_lt k 3)]; simp
theorem ft_fin {a b c d : Nat} (ha : a < 4) (hb : b < 4) (hc : c < 4) (hd : d < 4) : 10 * (10 * (10 * (10 * 0 + nI (1 + a)) + nI (1 + b)) + nI (1 + c)) + nI (1 + d) = nI (figN (64 * a + 16 * b + 4 * c + d)) := by
  have : ∀ (a b c d : Fin 4), 10 * (10 * (10 * (10 * 0 + nI (1 + a.val)) + nI (1 + b.val)) + nI (1 + c.val)) + nI (1 + d.val) = nI (figN (64 * a.val + 16 * b.val + 4 * c.val + d.val)) := by decide +kernel
  exact this ⟨a, ha⟩ ⟨b, hb⟩ ⟨c, hc⟩ ⟨d, hd⟩
theorem ft_step (cf : Nat → Nat) (bz : Nat → Bool) (n f q : Nat) (a : Int32) : ftG cf bz n (f + 1) q a = if fgI cf bz n q = -9 then -9 else ftG cf bz n f (q + 1) (10 * a + fgI cf bz n q) := rfl
theorem ft_eq {cf : Nat → Nat} {bz : Nat → Bool} {n : Nat} (hcf : ∀ j, j < n → cf j < 64) : ftS cf bz n = (lvG (myB cf bz n) 256).2 := by
  unfold ftS
  rw [ft_step]
  rcases fg_cases cf bz n 0 with ⟨a, ha, a1, a2, a3⟩ | ⟨z, z2⟩
  · rw [a3, if_neg (nI_n9 ha), ft_step]
    rcases fg_cases cf bz n (0 + 1) with ⟨b, hb, b1, b2, b3⟩ | ⟨z, z2⟩
    · rw [b3, if_neg (nI_n9 hb), ft_step]
      rcases fg_cases cf bz n (0 + 1 + 1) with ⟨c, hc, c1, c2, c3⟩ | ⟨z, z2⟩
      · rw [c3, if_neg (nI_n9 hc), ft_step]
        rcases fg_cases cf bz n (0 + 1 + 1 + 1) with ⟨d, hd, d1, d2, d3⟩ | ⟨z, z2⟩
        · rw [d3, if_neg (nI_n9 hd)]
          show 10 * (10 * (10 * (10 * 0 + nI (1 + a)) + nI (1 + b)) + nI (1 + c)) + nI (1 + d) = _
          rw [ft_fin ha hb hc hd]
          have hk : myB cf bz n (64 * a + 16 * b + 4 * c + d) = true := by
            rw [my_so hcf]
            have e0 : fgN (64 * a + 16 * b + 4 * c + d) 0 = a := by show (64 * a + 16 * b + 4 * c + d) / 64 % 4 = _; omega
            have e1 : fgN (64 * a + 16 * b + 4 * c + d) 1 = b := by show (64 * a + 16 * b + 4 * c + d) / 16 % 4 = _; omega
            have e2 : fgN (64 * a + 16 * b + 4 * c + d) 2 = c := by show (64 * a + 16 * b + 4 * c + d) / 4 % 4 = _; omega
            have e3 : fgN (64 * a + 16 * b + 4 * c + d) 3 = d := by show (64 * a + 16 * b + 4 * c + d) / 1 % 4 = _; omega
            rw [e0, e1, e2, e3, a1, b1, c1, d1]; rfl
          have hl : ∀ k, k < 64 * a + 16 * b + 4 * c + d → myB cf bz n k = false := by
            intro k hk2
            cases hm : myB cf bz n k
            · rfl
            · rw [my_so hcf] at hm
              simp only [Bool.and_eq_true] at hm
              obtain ⟨⟨⟨m0, m1⟩, m2⟩, m3⟩ := hm
              have g0 : a ≤ k / 64 % 4 := Nat.le_of_not_lt fun z => absurd ((a2 _ z).symm.trans m0) (by decide)
              have g1 : b ≤ k / 16 % 4 := Nat.le_of_not_lt fun z => absurd ((b2 _ z).symm.trans m1) (by decide)
              have g2 : c ≤ k / 4 % 4 := Nat.le_of_not_lt fun z => absurd ((c2 _ z).symm.trans m2) (by decide)
              have g3 : d ≤ k / 1 % 4 := Nat.le_of_not_lt fun z => absurd ((d2 _ z).symm.trans m3) (by decide)
              omega
          have h9 := (lvG_first hk hl (255 - (64 * a + 16 * b + 4 * c + d))).1
          rw [show 64 * a + 16 * b + 4 * c + d + 1 + (255 - (64 * a + 16 * b + 4 * c + d)) = 256 by omega] at h9
          exact h9.symm
        · rw [if_pos z2]; exact (lv_none hcf ⟨3, by decide, z⟩).symm
      · rw [if_pos z2]; exact (lv_none hcf ⟨2, by decide, z⟩).symm
    · rw [if_pos z2]; exact (lv_none hcf ⟨1, by decide, z⟩).symm
  · rw [if_pos z2]; exact (lv_none hcf ⟨0, by decide, z⟩).symm
theorem e_lv {cf : Nat → Nat} {bz : Nat → Bool} {n : Nat} (hcf : ∀ j, j < n → cf j < 64) (x : Int32) : qLv cf bz n x = mLv (myB cf bz n) x := by
  have h1 : fitN cf bz n = (lvG (myB cf bz n) 256).1 := by
    rw [lvG_1, show myB cf bz n = _ from funext fun k => my_so (k := k) hcf, lv_ct (fun q j => soB cf bz n q (leafc j))]
    show 1 * _ * _ * _ * _ = _
    simp only [Nat.one_mul, Nat.mul_assoc]
  unfold qLv mLv
  rw [h1, ft_eq hcf]
  by_cases h0 : x = 0
  · subst h0; rfl
  · by_cases h1 : x = 1
    · subst h1; rfl
    · rw [if_neg h0, if_neg h1, if_neg]
      unfold is01; simp [h0, h1]
/-! judge -/
theorem lN_int {n : Nat} (h : n < 2 ^ 63) : (lN n).toInt = (n : Int) := Int64.toInt_ofNat_of_lt h
theorem lN_of {v : Int64} (h : ¬ v < 0) : ∃ r : Nat, r < 2 ^ 63 ∧ v = lN r := by
  have h1 : 0 ≤ v.toInt := by
    rw [fa_lt64] at h
    rw [show (0 : Int64).toInt = 0 from rfl] at h
    omega
  have h2 := Int64.toInt_lt v
  refine ⟨v.toInt.toNat, by omega, ?_⟩
  rw [fa_eq64, lN_int (by omega)]
  omega
theorem lN_div {a b : Nat} (ha : a < 2 ^ 63) (hb : b < 2 ^ 63) : lN a / lN b = lN (a / b) := by
  rw [fa_eq64, Int64.toInt_div_of_ne_right _ _ (fun q => by rw [fa_eq64, lN_int hb] at q; rw [show (-1 : Int64).toInt = -1 from rfl] at q; omega), lN_int ha, lN_int hb, lN_int (Nat.lt_of_le_of_lt (Nat.div_le_self _ _) ha)]
  exact (Int.ofNat_tdiv a b).symm
theorem th_lN {k : Nat} (h : k ≤ 4) : thM k = lN (1000 ^ k) ∧ 1000 ^ k < 2 ^ 63 := by
  have : ∀ j : Fin 5, thM j.val = lN (1000 ^ j.val) ∧ 1000 ^ j.val < 2 ^ 63 := by decide +kernel
  exact this ⟨k, by omega⟩
theorem rs_lN {r : Nat} (h : r < 2 ^ 63) : ∀ k, rsD (lN r) k = lN (r / 1000 ^ k)
  | 0 => by rw [Nat.pow_zero, Nat.div_one]; rfl
  | k + 1 => by
    show rsD (lN r) k / 1000 = _
    rw [rs_lN h k, show (1000 : Int64) = lN 1000 from rfl, lN_div (Nat.lt_of_le_of_lt (Nat.div_le_self _ _) h) (by decide), Nat.div_div_eq_div_mul, Nat.pow_succ]
theorem rs_th {row : Int64} (h : ¬ row < 0) {k : Nat} (hk : k ≤ 4) : rsD row k = row / thM k := by
  obtain ⟨r, hr, rfl⟩ := lN_of h
  rw [rs_lN hr, (th_lN hk).1, lN_div hr (th_lN hk).2]
theorem jd_go {row : Int64} (h : ¬ row < 0) {n : Nat} (hn : n ≤ 4) : ∀ k i t t2, ag3 t t2 → jdG row n k i t = mdG row n k i t2
  | 0, _, _, _, _ => rfl
  | k + 1, i, t, t2, ht => by
    have e : dgV row n i = mdV row n i := by unfold dgV mdV; rw [rs_th h (by omega)]
    unfold jdG mdG
    rw [e, dB_ag ht]
    split
    · exact jd_go h hn k (i + 1) _ _ (do_ag ht _ _ _)
    · rfl
theorem e_jd {f nw ft : Nat → Int64} (h : ag3 f nw) (x : Int32) (row : Int64) : qJd f ft x row = mJd nw x row := by
  unfold qJd mJd
  rw [show inL x.toInt64 1 4 = _ from inU (a := 1) (b := 4)]
  by_cases h1 : x < 1
  · simp [h1]
  · by_cases h4 : 4 < x
    · simp [h1, h4]
    · rw [if_neg h1, if_neg h4, if_pos (decide_eq_true ⟨h1, h4⟩)]
      have hx0 : ¬ x < 0 := fun q => h1 (Int32.lt_of_lt_of_le q (by decide))
      obtain ⟨n, hn, rfl⟩ := nI_of hx0
      have hn4 : n ≤ 4 := Nat.le_of_not_lt fun q => h4 ((nI_ltI (a := 4) (b := n) (by decide) hn).mpr q)
      rw [nI_clamp hn]
      unfold inL
      by_cases hr : row < 0
      · rw [if_pos hr, if_neg (by simp [hr])]
      · rw [if_neg hr]
        obtain ⟨r, hr2, rfl⟩ := lN_of hr
        have e1 : thM n - 1 = lN (1000 ^ n - 1) := by
          have : ∀ j : Fin 5, thM j.val - 1 = lN (1000 ^ j.val - 1) := by decide +kernel
          exact this ⟨n, by omega⟩
        have hp := (th_lN hn4).2
        have hpos : 0 < 1000 ^ n := Nat.pow_pos (by decide)
        have e2 : lN (1000 ^ n - 1) < lN r ↔ ¬ r < 1000 ^ n := by
          rw [fa_lt64, lN_int (by omega), lN_int hr2]; omega
        have e3 : rsD (lN r) n = 0 ↔ r < 1000 ^ n := by
          rw [rs_lN hr2, show (0 : Int64) = lN 0 from rfl, fa_eq64, lN_int (Nat.lt_of_le_of_lt (Nat.div_le_self _ _) hr2), lN_int (by decide)]
          rw [show ((r / 1000 ^ n : Nat) : Int) = ((0 : Nat) : Int) ↔ r / 1000 ^ n = 0 from Int.ofNat_inj, Nat.div_eq_zero_iff]
          omega
        rw [e1]
        by_cases hq : r < 1000 ^ n
        · rw [if_pos (e3.mpr hq), if_pos (decide_eq_true ⟨hr, fun z => (e2.mp z) hq⟩)]
          exact jd_go hr hn4 n 0 _ _ (cp_tr h)
        · rw [if_neg (fun z => hq (e3.mp z)), if_neg]
          simp only [decide_eq_true_eq, not_and, Classical.not_not]
          exact fun _ => e2.mpr hq
