/-! The reference: its own methods. -/
theorem fa_or (a b : Nat) : nI a ||| nI b = nI (a ||| b) := by
  apply Int32.toBitVec_inj.1
  show BitVec.ofNat 32 a ||| BitVec.ofNat 32 b = BitVec.ofNat 32 (a ||| b)
  apply BitVec.eq_of_getLsbD_eq
  intro i hi
  simp [hi]
def rkF (nx : Nat) (nw rw : Nat → Int64) : Nat → Int64 := fun t => if 3 * nx ≤ t ∧ t < 3 * nx + 3 then nw (t - 3 * nx) else rw t
theorem rk_step {b i : Nat} {nw rw : Nat → Int64} : vp_updL (fun t => if b ≤ t ∧ t < b + i then nw (t - b) else rw t) (b + i) (nw i) = fun t => if b ≤ t ∧ t < b + (i + 1) then nw (t - b) else rw t := by
  funext t
  unfold vp_updL
  by_cases h : t = b + i
  · subst h; rw [if_pos rfl, if_pos ⟨by omega, by omega⟩]; congr 1; omega
  · rw [if_neg h]
    dsimp only
    by_cases q : b ≤ t ∧ t < b + i
    · rw [if_pos q, if_pos ⟨q.1, by omega⟩]
    · rw [if_neg q, if_neg (fun z => q ⟨z.1, by omega⟩)]
def mxS (how : Int32) (a b : Int64) : Int64 := if how = 0 then a ||| b else if how = 1 then a &&& b else a &&& (b ^^^ (-1))
def mMx (nw : Nat → Int64) (how a b : Int32) : Int32 := if isPic a = true then (if isPic b = true then (if a = b then -2 else nI (pcn (mxS how (picS nw a) (picS nw b)))) else -1) else -1
def unF (nx : Nat) (nw rw : Nat → Int64) : Nat → Int64 := fun t => if t < 3 then rw (3 * ((nx + 13) % 14) + t) else nw t
theorem un_step {b i : Nat} {nw rw : Nat → Int64} : vp_updL (fun t => if t < i then rw (b + t) else nw t) i (rw (b + i)) = fun t => if t < i + 1 then rw (b + t) else nw t := by
  funext t
  unfold vp_updL
  by_cases h : t = i
  · subst h; rw [if_pos rfl, if_pos (by omega)]
  · rw [if_neg h]
    dsimp only
    by_cases q : t < i
    · rw [if_pos q, if_pos (by omega)]
    · rw [if_neg q, if_neg (by omega)]
def ltF (nw : Nat → Int64) : Nat → Int64 := fun t => if 3 ≤ t ∧ t < 6 then nw (t - 3) else nw t
theorem lt_step {i : Nat} {nw : Nat → Int64} (hi : i < 3) : vp_updL (fun t => if 3 ≤ t ∧ t < 3 + i then nw (t - 3) else nw t) (3 + i) ((fun t => if 3 ≤ t ∧ t < 3 + i then nw (t - 3) else nw t) i) = fun t => if 3 ≤ t ∧ t < 3 + (i + 1) then nw (t - 3) else nw t := by
  rw [show (fun t => if 3 ≤ t ∧ t < 3 + i then nw (t - 3) else nw t) i = nw i from if_neg (by omega)]
  exact rk_step
def trF (nw : Nat → Int64) : Nat → Int64 := fun j => nw (3 + j)
def mgT (nw t : Nat → Int64) : Nat → Int64 := fun j => if j < 3 then nw j else t (j - 3)
theorem mgT_self (nw : Nat → Int64) : mgT nw (trF nw) = nw := by funext j; unfold mgT trF; split; rfl; congr 1; omega
theorem mgT_upd {nw : Nat → Int64} {a : Nat} {v : Int64} : vp_updL nw (3 + a) v = mgT nw (vp_updL (trF nw) a v) := by
  funext j
  unfold vp_updL mgT trF
  dsimp only
  by_cases h : j < 3
  · rw [if_neg (by omega), if_pos h]
  · rw [if_neg h]
    by_cases q : j = 3 + a
    · rw [if_pos q, if_pos (by omega)]
    · rw [if_neg q, if_neg (by omega)]; congr 1; omega
theorem mgT_tr (nw t : Nat → Int64) : trF (mgT nw t) = t := by funext j; unfold trF mgT; rw [if_neg (by omega)]; congr 1; omega
theorem mgT_mg (nw t t2 : Nat → Int64) : mgT (mgT nw t) t2 = mgT nw t2 := by funext j; unfold mgT; by_cases h : j < 3 <;> simp [h]
theorem waS_pos {a b : Int64} : waS a b ≤ 0 ↔ waS a b = 0 := by
  have h : ∀ n, n ≤ 8 → ∃ k : Nat, k < 256 ∧ it (waF a b) n 0 = nI k := by
    intro n
    induction n with
    | zero => intro _; exact ⟨0, by decide, rfl⟩
    | succ n ih =>
      intro hn
      obtain ⟨k, hk, e⟩ := ih (by omega)
      rw [it_s]
      unfold waF
      split
      · have h1 : ((1 : Int32) <<< (nI n &&& 31)) = nI (2 ^ n) := by
          have : ∀ j : Fin 8, ((1 : Int32) <<< (nI j.val &&& 31)) = nI (2 ^ j.val) := by decide +kernel
          exact this ⟨n, by omega⟩
        refine ⟨k ||| 2 ^ n, ?_, ?_⟩
        · exact Nat.or_lt_two_pow (n := 8) hk (Nat.pow_lt_pow_of_lt (by decide) (by omega))
        · rw [show it (fun w x => if unS a b w = 0 then x ||| (1 <<< (nI w &&& 31)) else x) n 0 = nI k from e, h1]
          exact fa_or k (2 ^ n)
      · exact ⟨k, hk, e⟩
  obtain ⟨k, hk, e⟩ := h 8 (by omega)
  unfold waS
  rw [e]
  constructor
  · intro q
    have := (nI_leI (a := k) (b := 0) (by omega) (by decide)).mp q
    rw [Nat.le_zero.mp this]; rfl
  · intro q; rw [q]; decide
theorem nwS_2 (a b : Int64) : ∀ n, (nwS a b n).2 = unS a b (nwS a b n).1
  | 0 => rfl
  | n + 1 => by
    unfold nwS
    split
    · rfl
    · exact nwS_2 a b n
def fgN (k q : Nat) : Nat := k / 4 ^ (3 - q) % 4
theorem fg_eq {k q : Nat} (hk : k < 256) (hq : q < 4) : ((nI k >>> (nI (6 - 2 * q) &&& 31)) &&& 3) = nI (fgN k q) := by
  have : ∀ (b : Fin 4) (a : Fin 256), ((nI a.val >>> (nI (6 - 2 * b.val) &&& 31)) &&& 3) = nI (fgN a.val b.val) := by decide +kernel
  exact this ⟨q, hq⟩ ⟨k, hk⟩
theorem fg_lt (k q : Nat) : fgN k q < 4 := Nat.mod_lt _ (by decide)
def qtN (c : Nat) : Nat := c % 8 / 4 + 2 * (c / 8 / 4)
def okM (cf : Nat → Nat) (bz : Nat → Bool) (k j : Nat) : Bool := tellB (leafc (fgN k (qtN (cf j)))) (cf j % 8) (cf j / 8) == bz j
def allB (f : Nat → Bool) (n : Nat) : Bool := decide (∀ j, j < n → f j = true)
theorem all_0 (f : Nat → Bool) : true = allB f 0 := (decide_eq_true (fun _ h => absurd h (Nat.not_lt_zero _))).symm
theorem all_s (f : Nat → Bool) (i : Nat) : allB f (i + 1) = (allB f i && f i) := by
  unfold allB
  rw [Bool.eq_iff_iff, Bool.and_eq_true, decide_eq_true_eq, decide_eq_true_eq]
  constructor
  · intro h; exact ⟨fun j hj => h j (by omega), h i (by omega)⟩
  · intro h j hj
    by_cases q : j = i
    · rw [q]; exact h.2
    · exact h.1 j (by omega)
def myB (cf : Nat → Nat) (bz : Nat → Bool) (n k : Nat) : Bool := allB (okM cf bz k) n
def lvG (m : Nat → Bool) : Nat → Nat × Int32
  | 0 => (0, -9)
  | k + 1 => if m k = true then ((lvG m k).1 + 1, if (lvG m k).1 = 0 then nI (figN k) else (lvG m k).2) else lvG m k
theorem lvG_le (m : Nat → Bool) : ∀ k, (lvG m k).1 ≤ k
  | 0 => Nat.le_refl 0
  | k + 1 => by have h := lvG_le m k; unfold lvG; split <;> simp <;> omega
def mLv (m : Nat → Bool) (x : Int32) : Int32 := if is01 x = true then (if x = 0 then nI (lvG m 256).1 else (lvG m 256).2) else -2
def abF (nw : Nat → Int64) (k i : Nat) (a : Int64) : Int64 := a ||| (if sb k i = 1 then nw i else 0)
def abS (nw : Nat → Int64) (k : Nat) : Int64 := it (abF nw k) 3 0
def orN (i x : Nat) : Nat := i ||| 2 ^ x
theorem or_eq {i x : Nat} (hi : i < 8) (hx : x < 3) : (nI i ||| ((1 : Int32) <<< (nI x &&& 31))) = nI (orN i x) := by
  have : ∀ (a : Fin 8) (b : Fin 3), (nI a.val ||| ((1 : Int32) <<< (nI b.val &&& 31))) = nI (orN a.val b.val) := by decide +kernel
  exact this ⟨i, hi⟩ ⟨x, hx⟩
theorem or_lt {i x : Nat} (hi : i < 8) (hx : x < 3) : orN i x < 8 := by
  have : ∀ (a : Fin 8) (b : Fin 3), orN a.val b.val < 8 := by decide +kernel
  exact this ⟨i, hi⟩ ⟨x, hx⟩
theorem pcn_mono {a b : Int64} (h : ∀ k, k < 64 → bt a k = true → bt b k = true) : pcn a ≤ pcn b := fb_ct_sub h
theorem ab_bt (nw : Nat → Int64) (k b : Nat) : bt (abS nw k) b = ((decide (sb k 0 = 1) && bt (nw 0) b) || (decide (sb k 1 = 1) && bt (nw 1) b) || (decide (sb k 2 = 1) && bt (nw 2) b)) := by
  have hz : ∀ (P : Prop) [Decidable P] (v : Int64), bt (if P then v else 0) b = (decide P && bt v b) := by
    intro P _ v
    by_cases h : P
    · simp [h]
    · simp [h, bt_0]
  show bt (abF nw k 2 (abF nw k 1 (abF nw k 0 0))) b = _
  unfold abF
  rw [bt_or, bt_or, bt_or, bt_0, hz, hz, hz, Bool.false_or]
theorem ab_mono {nw : Nat → Int64} {i x : Nat} (hi : i < 8) (hx : x < 3) : pcn (abS nw i) ≤ pcn (abS nw (orN i x)) := by
  have hs : ∀ j, j < 3 → sb i j = 1 → sb (orN i x) j = 1 := by
    have : ∀ (a : Fin 8) (b : Fin 3) (j : Fin 3), sb a.val j.val = 1 → sb (orN a.val b.val) j.val = 1 := by decide +kernel
    intro j hj; exact this ⟨i, hi⟩ ⟨x, hx⟩ ⟨j, hj⟩
  apply pcn_mono
  intro b _
  rw [ab_bt, ab_bt]
  have h0 := hs 0 (by omega); have h1 := hs 1 (by omega); have h2 := hs 2 (by omega)
  simp only [Bool.or_eq_true, Bool.and_eq_true, decide_eq_true_eq]
  rintro ((⟨p, q⟩ | ⟨p, q⟩) | ⟨p, q⟩)
  · exact Or.inl (Or.inl ⟨h0 p, q⟩)
  · exact Or.inl (Or.inr ⟨h1 p, q⟩)
  · exact Or.inr ⟨h2 p, q⟩
def orde (i : Nat) : Nat := if i = 0 then 2 else if pcn (lN i) = 2 then 2 else 1
def smF (nw : Nat → Int64) (x i : Nat) : Nat := if sb i x = 0 then orde i * (pcn (abS nw (orN i x)) - pcn (abS nw i)) else 0
theorem smF_le (nw : Nat → Int64) (x i : Nat) : smF nw x i ≤ 128 := by
  unfold smF
  split
  · have h1 := pcn_le (abS nw (orN i x))
    have h2 : orde i ≤ 2 := by unfold orde; (repeat' split) <;> omega
    have h3 : orde i * (pcn (abS nw (orN i x)) - pcn (abS nw i)) ≤ 2 * 64 := Nat.mul_le_mul h2 (by omega)
    exact h3
  · omega
theorem sm_le (nw : Nat → Int64) (x i : Nat) : fb_sm (smF nw x) i ≤ i * 128 := fb_sm_bound fun k _ => smF_le nw x k
def mSh (nw : Nat → Int64) (x : Int32) (up : Bool) : Int32 := if isPic x = true then nI (tdN (fb_sm (smF nw x.toNatClampNeg) 8) 6 up) else -1
theorem bw01 {v : Int64} {i : Nat} (h : i < 2) : (if i = 1 then tuS v else v) = bwS v i := by
  rcases (show i = 0 ∨ i = 1 by omega) with rfl | rfl <;> rfl
def mRs (nw : Nat → Int64) (x y z : Int32) : Int32 := if isPic x = true then (if isPic y = true then (if x = y then -2 else if is01 z = true then (if z = 0 then nI (rtG (rsB nw x.toNatClampNeg y.toNatClampNeg) 4).1 else (rtG (rsB nw x.toNatClampNeg y.toNatClampNeg) 4).2) else -2) else -1) else -1
def wtF (k x i a : Nat) : Nat := a * (if decide (sb k i = 1) = true then x else 10 - x)
def lfF (k i : Nat) (a : Int64) : Int64 := a &&& (if decide (sb k i = 1) = true then mkM 1 i ^^^ (-1) else (-1))
def fmF (v : Int64) (t x k : Nat) : Nat := if pcn (it (lfF k) 4 v) < t then 0 else it (wtF k x) 4 1
def fmN (v : Int64) (t x : Nat) : Nat := fb_sm (fmF v t x) 16
theorem fm_le {v : Int64} {t x : Nat} (hx : x ≤ 10) : ∀ i, i ≤ 16 → fb_sm (fmF v t x) i ≤ 10000 := fun i hi => by
  have h1 : fb_sm (fmF v t x) i ≤ fb_sm (fun k => it (wtF k x) 4 1) i := fb_sm_le fun k _ => by unfold fmF; split <;> omega
  have h2 := fb_sm_mono (fun k => it (wtF k x) 4 1) i (16 - i)
  rw [show i + (16 - i) = 16 by omega] at h2
  have h3 : ∀ j : Fin 11, fb_sm (fun k => it (wtF k j.val) 4 1) 16 ≤ 10000 := by decide +kernel
  exact Nat.le_trans h1 (Nat.le_trans h2 (h3 ⟨x, by omega⟩))
theorem wt_le {k x : Nat} (hx : x ≤ 10) : ∀ i, it (wtF k x) i 1 ≤ 10 ^ i
  | 0 => Nat.le_refl 1
  | i + 1 => by
    rw [it_s]; unfold wtF
    have h := wt_le (k := k) hx i
    unfold wtF at h
    exact Nat.mul_le_mul h (by split <;> omega)
def mFd (nw : Nat → Int64) (a t x : Int32) (up : Bool) : Int32 := if isPic a = true then (if inL t.toInt64 0 64 = true then (if inL x.toInt64 0 10 = true then nI (tdN (fmN (picS nw a) t.toNatClampNeg x.toNatClampNeg) 10000 up) else -2) else -2) else -1
def arM (nw : Nat → Int64) (lv : Nat) : Nat := pcn (nw (3 * lv)) + pcn (nw (3 * lv + 1)) + pcn (nw (3 * lv + 2))
def myS (t0 : Nat → Int64) (sd : Int64) (k : Nat) : (Nat → Int64) × Int64 × Nat := yrS t0 sd k
theorem areaN_3 (f : Nat → Int64) : areaN f = pcn (f 0) + pcn (f 1) + pcn (f 2) := by unfold areaN; simp [fb_sm_succ, areaF, fb_sm]
theorem arM_tr (nw : Nat → Int64) : arM nw 1 = areaN (trF nw) := by rw [areaN_3]; rfl
theorem arM_0 (nw : Nat → Int64) : arM nw 0 = areaN nw := by rw [areaN_3]; rfl
theorem th_ne {k : Nat} (h : k ≤ 4) : ¬ thM k = 0 := by
  have : ∀ j : Fin 5, ¬ thM j.val = 0 := by decide +kernel
  exact this ⟨k, by omega⟩
def mJB (x : Int32) (row : Int64) : Bool := inL x.toInt64 1 4 && inL row 0 (thM x.toNatClampNeg - 1)
def mdV (row : Int64) (n i : Nat) : Int32 := (row / thM (n - 1 - i) - row / thM (n - 1 - i) / 1000 * 1000).toInt32
def mdG (row : Int64) (n : Nat) : Nat → Nat → (Nat → Int64) → Int32
  | 0, _, _ => -9
  | k + 1, i, t => if doB t (mdV row n i / 100) (mdV row n i / 10 - mdV row n i / 10 / 10 * 10) (mdV row n i - mdV row n i / 10 * 10) = true then mdG row n k (i + 1) (doF t (mdV row n i / 100) (mdV row n i / 10 - mdV row n i / 10 / 10 * 10) (mdV row n i - mdV row n i / 10 * 10)) else nI i
def kpF (s : Nat) (nw kp : Nat → Int64) : Nat → Int64 := fun t => if 3 * s ≤ t ∧ t < 3 * s + 3 then nw (t - 3 * s) else kp t
def agF (s : Nat) (kp nw : Nat → Int64) : Nat → Int64 := fun t => if t < 3 then kp (3 * s + t) else nw t
theorem is01_of {x : Int32} (h : is01 x = true) : ∃ j : Nat, j < 2 ∧ x = nI j := by
  unfold is01 at h
  simp only [Bool.or_eq_true, decide_eq_true_eq] at h
  rcases h with h | h
  · exact ⟨0, by decide, h⟩
  · exact ⟨1, by decide, h⟩
theorem wr_no {x : Int32} {n : Nat} (h : qWrB x = false) : qWr x n = -2 := by
  have h9 := of_decide_eq_false h
  unfold qWr
  by_cases h8 : x < 0
  · rw [if_pos h8]
  · rw [if_neg h8, if_neg (fun q => h9 ⟨h8, q⟩)]
theorem wr_yes {x : Int32} {n : Nat} (h : qWrB x = true) : qWr x n = if decide (n < 64) = true then nI (taN n) else -4 := by
  have h9 := of_decide_eq_true h
  unfold qWr
  rw [if_neg h9.1, if_pos h9.2]
def ordW (p d : Nat) : Nat := p / 64 + p / 16 + p / 4 + p + d
theorem ord_st {v : Int64} {p d : Nat} (ho : okW p d) (hp : p < 64) : ordW p d < ordW (stW v p d).1 (stW v p d).2 := by
  unfold stW
  split
  · unfold ordW; omega
  · exact ok_fin (P := fun p d => ordW p d < ordW (p + szN d) (psN (p + szN d) d)) (by decide +kernel) ho hp
def moN (k : Nat) : Nat := k % 2 + 2 * (k / 8 % 2) + 4 * (k / 2 % 2) + 8 * (k / 16 % 2) + 16 * (k / 4 % 2) + 32 * (k / 32 % 2)
/-- what holds at the head of the reference's walk over the least word -/
def ancQ (v : Int64) (p d : Nat) : Prop := p < 64 → ∀ x, x < d → signS v (sqS (dmN p) x) = 113
def toldQ (v : Int64) (p : Nat) (da la : Nat → Int32) : Prop := ∀ k, k < 64 → moN k < p → da k = nI (depS v k) ∧ la k = signS v (sqS k (depS v k))
def lettQ (v : Int64) (i : Nat) (le : Nat → Int32) : Prop := ∀ j, j < i → (wkS v j).1 < 64 ∧ le j = sgW v (wkS v j).1 (wkS v j).2
theorem lnS_of {v : Int64} {i : Nat} (hi : i ≤ 85) (h : ∀ j, j < i → (wkS v j).1 < 64) (he : 64 ≤ (wkS v i).1) : lnS v = i := by
  have key : ∀ n j, j ≤ i → i ≤ j + n → lnG v n j = i := by
    intro n
    induction n with
    | zero => intro j h1 h2; show j = i; omega
    | succ n ih =>
      intro j h1 h2
      show (if 64 ≤ (wkS v j).1 then j else lnG v n (j + 1)) = i
      by_cases q : j = i
      · subst q; rw [if_pos he]
      · rw [if_neg (Nat.not_le.mpr (h j (by omega)))]; exact ih (j + 1) (by omega) (by omega)
  exact key 85 0 (Nat.zero_le _) (by omega)
theorem sq_same {p d k : Nat} (ho : okW p d) (hp : p < 64) (hk : k < 64) (hb : bt (sqS (dmN p) d) k = true) : ∀ x, x ≤ d → sqS k x = sqS (dmN p) x := by
  have : ∀ (d : Fin 4) (p : Fin 64), p.val % szN d.val = 0 → ∀ k : Fin 64, bt (sqS (dmN p.val) d.val) k.val = true → ∀ x : Fin 4, x.val ≤ d.val → sqS k.val x.val = sqS (dmN p.val) x.val := by decide +kernel
  intro x hx
  have h3 := ho.1
  exact this ⟨d, by omega⟩ ⟨p, hp⟩ ho.2.2 ⟨k, hk⟩ hb ⟨x, by omega⟩ hx
theorem sq_mo {p d k : Nat} (ho : okW p d) (hp : p < 64) (hk : k < 64) : bt (sqS (dmN p) d) k = (decide (p ≤ moN k) && decide (moN k < p + szN d)) := by
  have : ∀ (d : Fin 4) (p : Fin 64), p.val % szN d.val = 0 → ∀ k : Fin 64, bt (sqS (dmN p.val) d.val) k.val = (decide (p.val ≤ moN k.val) && decide (moN k.val < p.val + szN d.val)) := by decide +kernel
  exact this ⟨d, by have := ho.1; omega⟩ ⟨p, hp⟩ ho.2.2 ⟨k, hk⟩
theorem told_go {v : Int64} {p d : Nat} {da la : Nat → Int32} (ho : okW p d) (hp : p < 64) (ha : ancQ v p d) (hs : ¬ sgW v p d = 113) (ht : toldQ v p da la) : toldQ v (p + szN d) (fun k => if bt (sqS (dmN p) d) k = true then nI d else da k) (fun k => if bt (sqS (dmN p) d) k = true then sgW v p d else la k) := by
  intro k hk hm
  by_cases hb : bt (sqS (dmN p) d) k = true
  · have hsm := sq_same ho hp hk hb
    have hd : depS v k = d := depS_of ho.1 (fun j hj => by rw [hsm j (by omega)]; exact ha hp j hj) (Or.inr (by rw [hsm d (Nat.le_refl _)]; exact hs))
    simp only [hb, if_true]
    rw [hd, hsm d (Nat.le_refl _)]
    exact ⟨rfl, rfl⟩
  · have h1 := sq_mo ho hp hk
    have h2 : moN k < p := by
      rw [h1] at hb
      simp only [Bool.and_eq_true, decide_eq_true_eq] at hb
      omega
    simp only [hb]
    exact ht k hk h2
theorem anc_cut {v : Int64} {p d : Nat} (ha : ancQ v p d) (hs : sgW v p d = 113) : ancQ v p (d + 1) := by
  intro hp x hx
  by_cases q : x = d
  · rw [q]; exact hs
  · exact ha hp x (by omega)
theorem anc_go {v : Int64} {p d : Nat} (ho : okW p d) (hp : p < 64) (ha : ancQ v p d) : ancQ v (p + szN d) (psN (p + szN d) d) := by
  intro hp2 x hx
  have h := ok_fin (P := fun p d => p + szN d < 64 → ∀ x : Fin 4, x.val < psN (p + szN d) d → x.val < d ∧ sqS (dmN (p + szN d)) x.val = sqS (dmN p) x.val) (by decide +kernel) ho hp hp2
  have h3 := (okW_pass ho hp).1
  have h4 := h ⟨x, by omega⟩ hx
  rw [h4.2]
  exact ha hp x h4.1
theorem mo_lt {k : Nat} (h : k < 64) : moN k < 64 := by unfold moN; omega
