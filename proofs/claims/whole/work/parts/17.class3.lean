/-! The class: its own methods. -/
def ffA (f : Nat → Int32) (n : Nat) : Int32 × Int64 := ffG f n 0 0 0 0
def qWr (x : Int32) (n : Nat) : Int32 := if x < 0 then -2 else if x ≤ 255 then (if decide (n < 64) = true then nI (taN n) else -4) else -2
def qWrB (x : Int32) : Bool := decide (¬ x < 0 ∧ x ≤ 255)
def qPuB (f : Nat → Int32) (n : Nat) (x : Int32) : Bool := isPic x && decide ((ffA f n).1 = -9)
def qPu (f : Nat → Int32) (n : Nat) (x : Int32) : Int32 := if isPic x = true then (if (ffA f n).1 = -9 then nI (pcn (ffA f n).2) else -3) else -1
def qCb (f : Nat → Int64) (k a b : Int32) : Int32 := if isPic a = true then (if isPic b = true then (if a = b then -2 else nI (pcn (cmbS k (picS f a) (picS f b)))) else -1) else -1
def qTu (f : Nat → Int64) (x : Int32) : Int32 := if isPic x = true then (tuS (picS f x) &&& 255).toInt32 else -1
def qFl (f : Nat → Int64) (x : Int32) : Int32 := if isPic x = true then (flS (picS f x) &&& 255).toInt32 else -1
def qHa (f : Nat → Int64) (x q : Int32) : Int32 := if isPic x = true then (if isQua q = true then nI (pcn (haS (picS f x) q.toNatClampNeg)) else -1) else -1
def qGr (f : Nat → Int64) (x q : Int32) : Int32 := if isPic x = true then (if isQua q = true then nI (pcn (grnS (picS f x) q.toNatClampNeg)) else -1) else -1
def qUn (n : Nat) : Int32 := if n = 0 then -3 else nI (n - 1)
def qLk (f : Nat → Int64) (x y : Int32) : Int32 := if isPic x = true then (if y = 0 then nI (pcn (picS f x)) else if y = 1 then nI (lnS (picS f x)) else if y = 2 then nI (paS (picS f x)) else if y = 3 then nI (riN (picS f x)) else if y = 4 then nI (blS (picS f x)).2 else -2) else -1
def qLe (f : Nat → Int64) (x y : Int32) : Int32 := if isPic x = true then llS (picS f x) y else -1
def qAt (f : Nat → Int64) (x y z : Int32) : Int32 := if isPic x = true then (if isCel y = true then (if z = 0 then b2i (bt (picS f x) y.toNatClampNeg) else if z = 1 then nI (depS (picS f x) y.toNatClampNeg) else if z = 2 then signS (picS f x) (sqS y.toNatClampNeg (depS (picS f x) y.toNatClampNeg)) else -2) else -1) else -1
theorem depS_le (v : Int64) (k : Nat) : depS v k ≤ 3 := by unfold depS; (repeat' split) <;> omega
def qAl (f : Nat → Int64) (x y : Int32) : Int32 := if isPic x = true then (if isPic y = true then waS (picS f x) (picS f y) else -1) else -1
def qNe (f : Nat → Int64) (x y z : Int32) : Int32 := if isPic x = true then (if isPic y = true then (if z = 0 then nI (unS (picS f x) (picS f y) (nwS (picS f x) (picS f y) 7).1) else if z = 1 then nI (nwS (picS f x) (picS f y) 7).1 else -2) else -1) else -1
def qSe (x y : Int32) (n : Nat) : Int32 := if isCel x = true then (if y = 0 then (if decide (n < 6) = true then nI (saN n) else -4) else if y = 1 then (if decide (n < 6) = true then nI (saN n) else -4) else -2) else -1
def qSeB (x y : Int32) : Bool := isCel x && (decide (y = 0) || decide (y = 1))
def qLv (cf : Nat → Nat) (bz : Nat → Bool) (n : Nat) (x : Int32) : Int32 := if x = 0 then nI (fitN cf bz n) else if x = 1 then ftS cf bz n else -2
def shF (f : Nat → Int64) (x : Int32) (k : Nat) : Nat := if bt (picS f x) k = true then sxN (binN f k) else 0
def shN (f : Nat → Int64) (x : Int32) : Nat := fb_sm (shF f x) 64
theorem shN_le (f : Nat → Int64) (x : Int32) : ∀ i, fb_sm (shF f x) i ≤ i * 6 := fun i => fb_sm_bound fun k _ => by unfold shF sxN; (repeat' split) <;> omega
def qSh (f : Nat → Int64) (x : Int32) (up : Bool) : Int32 := if isPic x = true then nI (tdN (shN f x) 6 up) else -1
def rsB (f : Nat → Int64) (a b i j : Nat) : Bool := !decide (gnS (bwS (f a) i) (bwS (f b) j) (f (3 - a - b)) < gnS (bwS (f a) (1 - i)) (bwS (f b) j) (f (3 - a - b))) && !decide (gnS (bwS (f b) j) (bwS (f a) i) (f (3 - a - b)) < gnS (bwS (f b) (1 - j)) (bwS (f a) i) (f (3 - a - b)))
def rtG (r : Nat → Nat → Bool) : Nat → Nat × Int32
  | 0 => (0, -9)
  | k + 1 => if r (k / 2) (k % 2) = true then ((rtG r k).1 + 1, if (rtG r k).1 = 0 then nI (10 * (k / 2) + k % 2) else (rtG r k).2) else rtG r k
theorem rtG_le (r : Nat → Nat → Bool) : ∀ k, (rtG r k).1 ≤ k
  | 0 => Nat.le_refl 0
  | k + 1 => by have h := rtG_le r k; unfold rtG; split <;> simp <;> omega
def qRs (f : Nat → Int64) (x y z : Int32) : Int32 := if isPic x = true then (if isPic y = true then (if x = y then -2 else if z = 0 then nI (rtG (rsB f x.toNatClampNeg y.toNatClampNeg) 4).1 else if z = 1 then (rtG (rsB f x.toNatClampNeg y.toNatClampNeg) 4).2 else -2) else -1) else -1
def fdF (v : Int64) (t x k : Nat) : Nat := if arN v k < t then 0 else chN k x
theorem arN_le (v : Int64) (k : Nat) : arN v k ≤ 256 := by
  have h := fb_sm_bound (f := arF v k) (c := 64) (n := 4) (fun j _ => by unfold arF; split; exact pcn_le _; omega)
  exact h
def fdN (v : Int64) (t x : Nat) : Nat := fb_sm (fdF v t x) 16
theorem ch_le {k x : Nat} (hx : x ≤ 10) (hk : k < 16) : fb_sm (fun k => chN k x) 16 ≤ 10000 := by
  have : ∀ i : Fin 11, fb_sm (fun k => chN k i.val) 16 ≤ 10000 := by decide +kernel
  exact this ⟨x, by omega⟩
theorem fdN_le {v : Int64} {t x : Nat} (hx : x ≤ 10) : ∀ i, i ≤ 16 → fb_sm (fdF v t x) i ≤ 10000 := fun i hi => by
  have h1 : fb_sm (fdF v t x) i ≤ fb_sm (fun k => chN k x) i := fb_sm_le fun k _ => by unfold fdF; split <;> omega
  have h2 := fb_sm_mono (fun k => chN k x) i (16 - i)
  rw [show i + (16 - i) = 16 by omega] at h2
  exact Nat.le_trans h1 (Nat.le_trans h2 (ch_le (k := 0) hx (by decide)))
def qFd (f : Nat → Int64) (a t x : Int32) (up : Bool) : Int32 := if isPic a = true then (if t < 0 then -2 else if 64 < t then -2 else if x < 0 then -2 else if x ≤ 10 then nI (tdN (fdN (picS f a) t.toNatClampNeg x.toNatClampNeg) 10000 up) else -2) else -1
def lotN (x : Int64) : Nat := x.toBitVec.toNat / 2 ^ 33 % 36
theorem lot_lt (x : Int64) : lotN x < 36 := Nat.mod_lt _ (by decide)
theorem lot_eq (x : Int64) : ((jushr x 33) - (jushr x 33) / 36 * 36).toInt32 = nI (lotN x) := by
  have h0 : x.toBitVec.toNat < 2 ^ 64 := x.toBitVec.isLt
  have h1 : jushr x 33 = lN (x.toBitVec.toNat / 2 ^ 33) := by
    apply Int64.toBitVec_inj.mp
    apply BitVec.eq_of_toNat_eq
    show (x.toBitVec >>> (((nI 33).toInt64.toUInt64 &&& Int64.toUInt64 63).toBitVec % 64)).toNat = _
    rw [BitVec.ushiftRight_eq', su_k (by decide), BitVec.toNat_ushiftRight, Nat.shiftRight_eq_div_pow]
    show _ = (Int64.ofNat _).toBitVec.toNat
    rw [show (Int64.ofNat (x.toBitVec.toNat / 2 ^ 33)).toBitVec = BitVec.ofNat 64 (x.toBitVec.toNat / 2 ^ 33) from rfl, BitVec.toNat_ofNat, Nat.mod_eq_of_lt (by omega)]
  rw [h1, show (36 : Int64) = lN 36 from rfl, pk_lRem (by omega) (by decide) (by decide), lN_i]
  rfl
def sdS (x : Int64) : Int64 := x * 6364136223846793005 + 1442695040888963407
def pyS (t : Nat → Int64) (k : Nat) : Nat → Int64 := if k < 27 then doF t (nI (1 + k / 9)) (nI (k % 9 / 3)) (nI (k % 3)) else if k < 30 then doF t 4 0 (nI (k - 27)) else if k < 33 then doF t 6 (nI (k - 30)) 0 else doF t 7 (nI (k - 33)) 0
def yrS (t0 : Nat → Int64) (sd : Int64) : Nat → (Nat → Int64) × Int64 × Nat
  | 0 => (t0, sd, 0)
  | k + 1 => (pyS (yrS t0 sd k).1 (lotN (sdS (yrS t0 sd k).2.1)), sdS (yrS t0 sd k).2.1, (yrS t0 sd k).2.2 + areaN (pyS (yrS t0 sd k).1 (lotN (sdS (yrS t0 sd k).2.1))))
def qYrB (x : Int32) : Bool := decide (¬ x < 1 ∧ x ≤ 30)
def rsD (row : Int64) (k : Nat) : Int64 := it (fun _ r => r / 1000) k row
def dgV (row : Int64) (n j : Nat) : Int32 := (rsD row (n - 1 - j) - rsD row (n - 1 - j) / 1000 * 1000).toInt32
def dgF (row : Int64) (n j : Nat) (dg : Nat → Int32) : Nat → Int32 := fun t => if j ≤ t ∧ t < n then dgV row n t else dg t
theorem dgF_step {row : Int64} {n j : Nat} {dg : Nat → Int32} (h1 : 1 ≤ j) (h2 : j ≤ n) : upd (dgF row n j dg) (j - 1) ((rsD row (n - j) - rsD row (n - j) / 1000 * 1000).toInt32) = dgF row n (j - 1) dg := by
  funext t
  unfold upd dgF
  by_cases h : t = j - 1
  · subst h
    rw [if_pos rfl, if_pos ⟨Nat.le_refl _, by omega⟩]
    unfold dgV
    rw [show n - 1 - (j - 1) = n - j by omega]
  · rw [if_neg h]
    by_cases q : j ≤ t ∧ t < n
    · rw [if_pos q, if_pos ⟨by omega, q.2⟩]
    · rw [if_neg q, if_neg (fun z => q ⟨by omega, z.2⟩)]
theorem mn_eq {n : Nat} (h1 : 1 ≤ n) (h : n ≤ 4) : (if (4 : Int32) < nI n then 4 else nI n) - 1 = nI n + (-1) := by
  rcases (show n = 1 ∨ n = 2 ∨ n = 3 ∨ n = 4 by omega) with rfl | rfl | rfl | rfl <;> decide
theorem ngc {j : Nat} (h : j ≤ 4) : (nI j + (-1) < 0) ↔ j = 0 := by
  rcases (show j = 0 ∨ j = 1 ∨ j = 2 ∨ j = 3 ∨ j = 4 by omega) with rfl | rfl | rfl | rfl | rfl <;> decide
def jdG (row : Int64) (n : Nat) : Nat → Nat → (Nat → Int64) → Int32
  | 0, _, _ => -9
  | k + 1, i, t => if doB t (dgV row n i / 100) (dgV row n i / 10 - dgV row n i / 10 / 10 * 10) (dgV row n i - dgV row n i / 10 * 10) = true then jdG row n k (i + 1) (doF t (dgV row n i / 100) (dgV row n i / 10 - dgV row n i / 10 / 10 * 10) (dgV row n i - dgV row n i / 10 * 10)) else nI i
def qJd (f ft : Nat → Int64) (x : Int32) (row : Int64) : Int32 := if x < 1 then -2 else if 4 < x then -2 else if row < 0 then -2 else if rsD row x.toNatClampNeg = 0 then jdG row x.toNatClampNeg x.toNatClampNeg 0 (cpS f ft) else -2
def qCt (f : Nat → Int64) (sn an zn : Nat) (x : Int32) : Int32 := if x = 0 then nI sn else if x = 1 then nI (areaN f) else if x = 2 then nI (pcn (f 0 ||| f 1 ||| f 2)) else if x = 3 then nI (pcn (f 0 &&& f 1 &&& f 2)) else if x = 4 then nI an else if x = 5 then nI zn else -2
set_option maxHeartbeats 4000000 in
set_option maxRecDepth 100000 in
theorem c_X6_write (l : Launch) (g : GG) (sz : Nat) (h0 : Nat) (x0 : Int32) (a1 : Nat) (a2 : Nat) (a3 : Nat) (a4 : Nat) (a5 : Nat) (a6 : Nat) (a7 : Nat) (a8 : Nat) (sd : Int64) (t1 : Nat) (t2 : Nat) (sn : Nat) (dr : Int64) (fl : Nat → Int32) (hsn : sn ≤ 64) : Met l yX6_write (Cond.code yX6_write cX6_write 2 (some .int) :: wsL_law) ({ frames := 1, cells := 0, slots := 0, locals := 21 }) (PM g [.ref h0, .int x0] [(h0, .inr (5, [.ref a1, .ref a2, .ref a3, .ref a4, .ref a5, .ref a6, .ref a7, .ref a8, .long sd])), (a4, .inr (3, [.ref t1, .ref t2, .int (nI sn), .long dr])), (t1, .inl (gI g, 64, .inl fl))] sz) (QAi g (fun (r : Int32) (u : Unit) => r = qWr x0 sn) (fun (u : Unit) => [(h0, .inr (5, [.ref a1, .ref a2, .ref a3, .ref a4, .ref a5, .ref a6, .ref a7, .ref a8, .long sd])), (a4, .inr (3, [.ref t1, .ref t2, .int (nI (cond (qWrB x0) (taN sn) sn)), .long dr])), (t1, .inl (gI g, 64, .inl (cond (qWrB x0) (taF sn fl x0) fl)))]) (va_A [(h0, .inr (5, [.ref a1, .ref a2, .ref a3, .ref a4, .ref a5, .ref a6, .ref a7, .ref a8, .long sd])), (a4, .inr (3, [.ref t1, .ref t2, .int (nI sn), .long dr])), (t1, .inl (gI g, 64, .inl fl))] sz)) 0 0 (va_A [(h0, .inr (5, [.ref a1, .ref a2, .ref a3, .ref a4, .ref a5, .ref a6, .ref a7, .ref a8, .long sd])), (a4, .inr (3, [.ref t1, .ref t2, .int (nI sn), .long dr])), (t1, .inl (gI g, 64, .inl fl))] sz) := by
  refine Met.M (Qc := fun A => QAi g (fun (r : Int32) (u : Unit) => r = qWr x0 sn) (fun (u : Unit) => [(h0, .inr (5, [.ref a1, .ref a2, .ref a3, .ref a4, .ref a5, .ref a6, .ref a7, .ref a8, .long sd])), (a4, .inr (3, [.ref t1, .ref t2, .int (nI (cond (qWrB x0) (taN sn) sn)), .long dr])), (t1, .inl (gI g, 64, .inl (cond (qWrB x0) (taF sn fl x0) fl)))]) A) (by decide) (Nat.le_of_ble_eq_true rfl) rfl ?_
  intro p e s m below meth c hx hb hr hml hw hown hlocks hin A hA hkn hP hD ls hl
  have hl : lv_has ls 2 [(0, .ref h0), (1, .int x0)] := hl
  have hS : va_S A s.heap s.heap [] := va_S.rf
  obtain ⟨H, hHe⟩ : ∃ H, H = s.heap := ⟨_, rfl⟩
  obtain ⟨locs, hLe⟩ : ∃ locs : List Loc, locs = [] := ⟨_, rfl⟩
  have hP : va_P g.1 vwCl [(h0, .inr (5, [.ref a1, .ref a2, .ref a3, .ref a4, .ref a5, .ref a6, .ref a7, .ref a8, .long sd])), (a4, .inr (3, [.ref t1, .ref t2, .int (nI sn), .long dr])), (t1, .inl (gI g, 64, .inl fl))] H := by rw [hHe]; exact hP
  have hS : va_S A s.heap H locs := by rw [hHe, hLe]; exact hS
  have hgo : W p l e ({ frames := 1, cells := 0, slots := 0, locals := 21 } : Room) s m ([.ref h0, .int x0] : List Value).toArray below meth c H locs 0 0 (MQ below (QAi g (fun (r : Int32) (u : Unit) => r = qWr x0 sn) (fun (u : Unit) => [(h0, .inr (5, [.ref a1, .ref a2, .ref a3, .ref a4, .ref a5, .ref a6, .ref a7, .ref a8, .long sd])), (a4, .inr (3, [.ref t1, .ref t2, .int (nI (cond (qWrB x0) (taN sn) sn)), .long dr])), (t1, .inl (gI g, 64, .inl (cond (qWrB x0) (taF sn fl x0) fl)))]) A) ([.ref h0, .int x0] : List Value).toArray s 0 0 A) (F0 m 0 ls []) := ?_
  · rw [hHe, hLe] at hgo; exact hgo
  clear hHe hLe
  refine lv_iload_n hx hb dX6_write_0 rfl (lv_at hl 1 rfl) ?_
  refine lv_if_lt (tgt := 11) hx hb dX6_write_1 (by decide) (fun c_1 => ?_) (fun c_1 => ?_)
  · skip
    refine lv_bipush (v := (-2)) hx hb dX6_write_11 (by decide) ?_
    have eb : qWrB x0 = false := by unfold qWrB; simp [c_1]
    exact eM_i (g := g) hx hb hr hlocks () (by unfold qWr; rw [if_pos c_1]) (show va_P g.1 vwCl [(h0, .inr (5, [.ref a1, .ref a2, .ref a3, .ref a4, .ref a5, .ref a6, .ref a7, .ref a8, .long sd])), (a4, .inr (3, [.ref t1, .ref t2, .int (nI (cond (qWrB x0) (taN sn) sn)), .long dr])), (t1, .inl (gI g, 64, .inl (cond (qWrB x0) (taF sn fl x0) fl)))] H by rw [eb]; exact hP.sub [0, 1, 2] rfl) (show va_D A [(h0, .inr (5, [.ref a1, .ref a2, .ref a3, .ref a4, .ref a5, .ref a6, .ref a7, .ref a8, .long sd])), (a4, .inr (3, [.ref t1, .ref t2, .int (nI (cond (qWrB x0) (taN sn) sn)), .long dr])), (t1, .inl (gI g, 64, .inl (cond (qWrB x0) (taF sn fl x0) fl)))] by rw [eb]; exact hD.sub [0, 1, 2] (by decide) rfl) hS dX6_write_13
  · skip
    refine lv_iload_n hx hb dX6_write_4 rfl (lv_at hl 1 rfl) ?_
    refine lv_sipush (v := 255) hx hb dX6_write_5 (by decide) ?_
    refine lv_icmp_le (tgt := 14) hx hb dX6_write_8 (by decide) (fun c_2 => ?_) (fun c_2 => ?_)
    · skip
      refine lv_aload_n hx hb dX6_write_14 rfl (lv_at hl 0 rfl) ?_
      refine va_get (D := g.1) (ci := 5) (v := .ref a4) (C := RX6) (T := TX6) (N := 9) hx hb hw inlX6 hown hkn.1 hP 0 rfl rfl 3 (by decide) (hw _ mw_22) (fun _ h9 => h9) rfl dX6_write_15 ?_
      refine lv_iload_n hx hb dX6_write_18 rfl (lv_at hl 1 rfl) ?_
      refine cVM_i (As := [.int x0]) (rest := []) (q0 := 0) (wc := [(a4, .inr (3, [.ref t1, .ref t2, .int (nI sn), .long dr])), (t1, .inl (gI g, 64, .inl fl))]) (wr := [(h0, .inr (5, [.ref a1, .ref a2, .ref a3, .ref a4, .ref a5, .ref a6, .ref a7, .ref a8, .long sd]))]) hx hb hml hown hw hkn hS hl hA hP hD [1, 2] [0] rfl rfl (by decide) (by decide) (by decide) (c_X4_add l g _ a4 x0 t1 t2 sn dr fl (by omega)) vf_X4_add mw_87 rfl rfl ⟨(Nat.le_of_ble_eq_true rfl), (Nat.le_of_ble_eq_true rfl)⟩ rfl rfl rfl rfl (Nat.le_of_ble_eq_true rfl) dX6_write_19 ⟨(Nat.le_of_ble_eq_true rfl), (Nat.le_of_ble_eq_true rfl)⟩ (fun r u H locs hq hP hD hS => ?_)
      have hq : r = (b2i (decide (sn < 64))) := hq
      subst hq
      have hP : va_P g.1 vwCl [(h0, .inr (5, [.ref a1, .ref a2, .ref a3, .ref a4, .ref a5, .ref a6, .ref a7, .ref a8, .long sd])), (a4, .inr (3, [.ref t1, .ref t2, .int (nI (taN sn)), .long dr])), (t1, .inl (gI g, 64, .inl (taF sn fl x0)))] H := hP.sub [0, 1, 2] rfl
      have hD : va_D A [(h0, .inr (5, [.ref a1, .ref a2, .ref a3, .ref a4, .ref a5, .ref a6, .ref a7, .ref a8, .long sd])), (a4, .inr (3, [.ref t1, .ref t2, .int (nI (taN sn)), .long dr])), (t1, .inl (gI g, 64, .inl (taF sn fl x0)))] := hD.sub [0, 1, 2] (by decide) rfl
      refine lv_ifeqB (b := decide (sn < 64)) (tgt := 35) hx hb dX6_write_22 (by decide) (fun c_4 => ?_) (fun c_4 => ?_)
      · skip
        refine lv_bipush (v := (-4)) hx hb dX6_write_35 (by decide) ?_
        have eb : qWrB x0 = true := by unfold qWrB; simp [c_1, c_2, c_4]
        exact eM_i (g := g) hx hb hr hlocks () (by unfold qWr; rw [if_neg c_1, if_pos c_2, if_neg (nt_of c_4)]) (show va_P g.1 vwCl [(h0, .inr (5, [.ref a1, .ref a2, .ref a3, .ref a4, .ref a5, .ref a6, .ref a7, .ref a8, .long sd])), (a4, .inr (3, [.ref t1, .ref t2, .int (nI (cond (qWrB x0) (taN sn) sn)), .long dr])), (t1, .inl (gI g, 64, .inl (cond (qWrB x0) (taF sn fl x0) fl)))] H by rw [eb]; exact hP.sub [0, 1, 2] rfl) (show va_D A [(h0, .inr (5, [.ref a1, .ref a2, .ref a3, .ref a4, .ref a5, .ref a6, .ref a7, .ref a8, .long sd])), (a4, .inr (3, [.ref t1, .ref t2, .int (nI (cond (qWrB x0) (taN sn) sn)), .long dr])), (t1, .inl (gI g, 64, .inl (cond (qWrB x0) (taF sn fl x0) fl)))] by rw [eb]; exact hD.sub [0, 1, 2] (by decide) rfl) hS dX6_write_37
      · skip
        refine lv_aload_n hx hb dX6_write_25 rfl (lv_at hl 0 rfl) ?_
        refine va_get (D := g.1) (ci := 5) (v := .ref a4) (C := RX6) (T := TX6) (N := 9) hx hb hw inlX6 hown hkn.1 hP 0 rfl rfl 3 (by decide) (hw _ mw_22) (fun _ h9 => h9) rfl dX6_write_26 ?_
        refine cV_i (As := []) (rest := []) hx hb hml hown hw hkn hS hl (c_X4_size l g _ a4 t1 t2 (taN sn) dr  (hP.sub [1] rfl)) vf_X4_size mw_91 (va_recv hkn.1 hP (ci := 3) (q0 := 1) rfl rfl) ⟨(Nat.le_of_ble_eq_true rfl), (Nat.le_of_ble_eq_true rfl)⟩ rfl rfl rfl rfl (Nat.le_of_ble_eq_true rfl) dX6_write_29 ⟨(Nat.le_of_ble_eq_true rfl), (Nat.le_of_ble_eq_true rfl)⟩ ?_
        refine lv_goto (tgt := 37) hx hb dX6_write_32 (by decide) ?_
        have eb : qWrB x0 = true := by unfold qWrB; simp [c_1, c_2, c_4]
        exact eM_i (g := g) hx hb hr hlocks () (by unfold qWr; rw [if_neg c_1, if_pos c_2, if_pos c_4]) (show va_P g.1 vwCl [(h0, .inr (5, [.ref a1, .ref a2, .ref a3, .ref a4, .ref a5, .ref a6, .ref a7, .ref a8, .long sd])), (a4, .inr (3, [.ref t1, .ref t2, .int (nI (cond (qWrB x0) (taN sn) sn)), .long dr])), (t1, .inl (gI g, 64, .inl (cond (qWrB x0) (taF sn fl x0) fl)))] H by rw [eb]; exact hP.sub [0, 1, 2] rfl) (show va_D A [(h0, .inr (5, [.ref a1, .ref a2, .ref a3, .ref a4, .ref a5, .ref a6, .ref a7, .ref a8, .long sd])), (a4, .inr (3, [.ref t1, .ref t2, .int (nI (cond (qWrB x0) (taN sn) sn)), .long dr])), (t1, .inl (gI g, 64, .inl (cond (qWrB x0) (taF sn fl x0) fl)))] by rw [eb]; exact hD.sub [0, 1, 2] (by decide) rfl) hS dX6_write_37
    · skip
      refine lv_bipush (v := (-2)) hx hb dX6_write_11 (by decide) ?_
      have eb : qWrB x0 = false := by unfold qWrB; simp [c_1, c_2]
      exact eM_i (g := g) hx hb hr hlocks () (by unfold qWr; rw [if_neg c_1, if_neg c_2]) (show va_P g.1 vwCl [(h0, .inr (5, [.ref a1, .ref a2, .ref a3, .ref a4, .ref a5, .ref a6, .ref a7, .ref a8, .long sd])), (a4, .inr (3, [.ref t1, .ref t2, .int (nI (cond (qWrB x0) (taN sn) sn)), .long dr])), (t1, .inl (gI g, 64, .inl (cond (qWrB x0) (taF sn fl x0) fl)))] H by rw [eb]; exact hP.sub [0, 1, 2] rfl) (show va_D A [(h0, .inr (5, [.ref a1, .ref a2, .ref a3, .ref a4, .ref a5, .ref a6, .ref a7, .ref a8, .long sd])), (a4, .inr (3, [.ref t1, .ref t2, .int (nI (cond (qWrB x0) (taN sn) sn)), .long dr])), (t1, .inl (gI g, 64, .inl (cond (qWrB x0) (taF sn fl x0) fl)))] by rw [eb]; exact hD.sub [0, 1, 2] (by decide) rfl) hS dX6_write_13
set_option maxHeartbeats 4000000 in
set_option maxRecDepth 100000 in
theorem c_X6_wipe (l : Launch) (g : GG) (sz : Nat) (h0 : Nat) (a1 : Nat) (a2 : Nat) (a3 : Nat) (a4 : Nat) (a5 : Nat) (a6 : Nat) (a7 : Nat) (a8 : Nat) (sd : Int64) (t1 : Nat) (t2 : Nat) (sn : Nat) (dr : Int64)  : Met l yX6_wipe (Cond.code yX6_wipe cX6_wipe 2 (some .int) :: wsL_law) ({ frames := 1, cells := 0, slots := 0, locals := 20 }) (PM g [.ref h0] [(h0, .inr (5, [.ref a1, .ref a2, .ref a3, .ref a4, .ref a5, .ref a6, .ref a7, .ref a8, .long sd])), (a4, .inr (3, [.ref t1, .ref t2, .int (nI sn), .long dr]))] sz) (QAi g (fun (r : Int32) (u : Unit) => r = nI sn) (fun (u : Unit) => [(h0, .inr (5, [.ref a1, .ref a2, .ref a3, .ref a4, .ref a5, .ref a6, .ref a7, .ref a8, .long sd])), (a4, .inr (3, [.ref t1, .ref t2, .int 0, .long dr]))]) (va_A [(h0, .inr (5, [.ref a1, .ref a2, .ref a3, .ref a4, .ref a5, .ref a6, .ref a7, .ref a8, .long sd])), (a4, .inr (3, [.ref t1, .ref t2, .int (nI sn), .long dr]))] sz)) 0 0 (va_A [(h0, .inr (5, [.ref a1, .ref a2, .ref a3, .ref a4, .ref a5, .ref a6, .ref a7, .ref a8, .long sd])), (a4, .inr (3, [.ref t1, .ref t2, .int (nI sn), .long dr]))] sz) := by
  refine Met.M (Qc := fun A => QAi g (fun (r : Int32) (u : Unit) => r = nI sn) (fun (u : Unit) => [(h0, .inr (5, [.ref a1, .ref a2, .ref a3, .ref a4, .ref a5, .ref a6, .ref a7, .ref a8, .long sd])), (a4, .inr (3, [.ref t1, .ref t2, .int 0, .long dr]))]) A) (by decide) (Nat.le_of_ble_eq_true rfl) rfl ?_
  intro p e s m below meth c hx hb hr hml hw hown hlocks hin A hA hkn hP hD ls hl
  have hl : lv_has ls 2 [(0, .ref h0)] := hl
  have hS : va_S A s.heap s.heap [] := va_S.rf
  obtain ⟨H, hHe⟩ : ∃ H, H = s.heap := ⟨_, rfl⟩
  obtain ⟨locs, hLe⟩ : ∃ locs : List Loc, locs = [] := ⟨_, rfl⟩
  have hP : va_P g.1 vwCl [(h0, .inr (5, [.ref a1, .ref a2, .ref a3, .ref a4, .ref a5, .ref a6, .ref a7, .ref a8, .long sd])), (a4, .inr (3, [.ref t1, .ref t2, .int (nI sn), .long dr]))] H := by rw [hHe]; exact hP
  have hS : va_S A s.heap H locs := by rw [hHe, hLe]; exact hS
  have hgo : W p l e ({ frames := 1, cells := 0, slots := 0, locals := 20 } : Room) s m ([.ref h0] : List Value).toArray below meth c H locs 0 0 (MQ below (QAi g (fun (r : Int32) (u : Unit) => r = nI sn) (fun (u : Unit) => [(h0, .inr (5, [.ref a1, .ref a2, .ref a3, .ref a4, .ref a5, .ref a6, .ref a7, .ref a8, .long sd])), (a4, .inr (3, [.ref t1, .ref t2, .int 0, .long dr]))]) A) ([.ref h0] : List Value).toArray s 0 0 A) (F0 m 0 ls []) := ?_
  · rw [hHe, hLe] at hgo; exact hgo
  clear hHe hLe
  refine lv_aload_n hx hb dX6_wipe_0 rfl (lv_at hl 0 rfl) ?_
  refine va_get (D := g.1) (ci := 5) (v := .ref a4) (C := RX6) (T := TX6) (N := 9) hx hb hw inlX6 hown hkn.1 hP 0 rfl rfl 3 (by decide) (hw _ mw_22) (fun _ h9 => h9) rfl dX6_wipe_1 ?_
  refine cV_i (As := []) (rest := []) hx hb hml hown hw hkn hS hl (c_X4_size l g _ a4 t1 t2 sn dr  (hP.sub [1] rfl)) vf_X4_size mw_91 (va_recv hkn.1 hP (ci := 3) (q0 := 1) rfl rfl) ⟨(Nat.le_of_ble_eq_true rfl), (Nat.le_of_ble_eq_true rfl)⟩ rfl rfl rfl rfl (Nat.le_of_ble_eq_true rfl) dX6_wipe_4 ⟨(Nat.le_of_ble_eq_true rfl), (Nat.le_of_ble_eq_true rfl)⟩ ?_
  refine lv_istore_n (lv' := [(1, .int (nI sn)), (0, .ref h0)]) hx hb dX6_wipe_7 rfl hl (by decide) rfl (fun ls hl => ?_)
  refine lv_aload_n hx hb dX6_wipe_8 rfl (lv_at hl 1 rfl) ?_
  refine va_get (D := g.1) (ci := 5) (v := .ref a4) (C := RX6) (T := TX6) (N := 9) hx hb hw inlX6 hown hkn.1 hP 0 rfl rfl 3 (by decide) (hw _ mw_22) (fun _ h9 => h9) rfl dX6_wipe_9 ?_
  refine cVM_v (As := []) (rest := []) (q0 := 0) (wc := [(a4, .inr (3, [.ref t1, .ref t2, .int (nI sn), .long dr]))]) (wr := [(h0, .inr (5, [.ref a1, .ref a2, .ref a3, .ref a4, .ref a5, .ref a6, .ref a7, .ref a8, .long sd]))]) hx hb hml hown hw hkn hS hl hA hP hD [1] [0] rfl rfl (by decide) (by decide) (by decide) (c_X4_clear l g _ a4 t1 t2 sn dr ) vf_X4_clear mw_108 rfl rfl ⟨(Nat.le_of_ble_eq_true rfl), (Nat.le_of_ble_eq_true rfl)⟩ rfl rfl rfl rfl (Nat.le_of_ble_eq_true rfl) dX6_wipe_12 ⟨(Nat.le_of_ble_eq_true rfl), (Nat.le_of_ble_eq_true rfl)⟩ (fun u H locs hq hP hD hS => ?_)
  have hP : va_P g.1 vwCl [(h0, .inr (5, [.ref a1, .ref a2, .ref a3, .ref a4, .ref a5, .ref a6, .ref a7, .ref a8, .long sd])), (a4, .inr (3, [.ref t1, .ref t2, .int 0, .long dr]))] H := hP.sub [0, 1] rfl
  have hD : va_D A [(h0, .inr (5, [.ref a1, .ref a2, .ref a3, .ref a4, .ref a5, .ref a6, .ref a7, .ref a8, .long sd])), (a4, .inr (3, [.ref t1, .ref t2, .int 0, .long dr]))] := hD.sub [0, 1] (by decide) rfl
  refine lv_iload_n hx hb dX6_wipe_15 rfl (lv_at hl 0 rfl) ?_
  exact eM_i (g := g) hx hb hr hlocks () (rfl) (hP.sub [0, 1] rfl) (hD.sub [0, 1] (by decide) rfl) hS dX6_wipe_16
set_option maxHeartbeats 4000000 in
set_option maxRecDepth 100000 in
theorem c_X6_fault (l : Launch) (g : GG) (sz : Nat) (h0 : Nat) (a1 : Nat) (a2 : Nat) (a3 : Nat) (a4 : Nat) (a5 : Nat) (a6 : Nat) (a7 : Nat) (a8 : Nat) (sd : Int64) (t1 : Nat) (t2 : Nat) (sn : Nat) (dr : Int64) (fl : Nat → Int32) (x1 : Int32) (x2 : Int32) (hsn : sn ≤ 64) : Met l yX6_fault (Cond.code yX6_fault cX6_fault 1 (some .int) :: wsL_law) ({ frames := 4, cells := 0, slots := 0, locals := 85 }) (PM g [.ref h0] [(h0, .inr (5, [.ref a1, .ref a2, .ref a3, .ref a4, .ref a5, .ref a6, .ref a7, .ref a8, .long sd])), (a4, .inr (3, [.ref t1, .ref t2, .int (nI sn), .long dr])), (t1, .inl (gI g, 64, .inl fl)), (t2, .inr (4, [.int x1, .int x2]))] sz) (QAi g (fun (r : Int32) (u : Int64 × Int32 × Int32) => r = (ffA fl sn).1) (fun (u : Int64 × Int32 × Int32) => [(h0, .inr (5, [.ref a1, .ref a2, .ref a3, .ref a4, .ref a5, .ref a6, .ref a7, .ref a8, .long sd])), (a4, .inr (3, [.ref t1, .ref t2, .int (nI sn), .long u.1])), (t1, .inl (gI g, 64, .inl fl)), (t2, .inr (4, [.int u.2.1, .int u.2.2]))]) (va_A [(h0, .inr (5, [.ref a1, .ref a2, .ref a3, .ref a4, .ref a5, .ref a6, .ref a7, .ref a8, .long sd])), (a4, .inr (3, [.ref t1, .ref t2, .int (nI sn), .long dr])), (t1, .inl (gI g, 64, .inl fl)), (t2, .inr (4, [.int x1, .int x2]))] sz)) 0 0 (va_A [(h0, .inr (5, [.ref a1, .ref a2, .ref a3, .ref a4, .ref a5, .ref a6, .ref a7, .ref a8, .long sd])), (a4, .inr (3, [.ref t1, .ref t2, .int (nI sn), .long dr])), (t1, .inl (gI g, 64, .inl fl)), (t2, .inr (4, [.int x1, .int x2]))] sz) := by
  refine Met.M (Qc := fun A => QAi g (fun (r : Int32) (u : Int64 × Int32 × Int32) => r = (ffA fl sn).1) (fun (u : Int64 × Int32 × Int32) => [(h0, .inr (5, [.ref a1, .ref a2, .ref a3, .ref a4, .ref a5, .ref a6, .ref a7, .ref a8, .long sd])), (a4, .inr (3, [.ref t1, .ref t2, .int (nI sn), .long u.1])), (t1, .inl (gI g, 64, .inl fl)), (t2, .inr (4, [.int u.2.1, .int u.2.2]))]) A) (by decide) (Nat.le_of_ble_eq_true rfl) rfl ?_
  intro p e s m below meth c hx hb hr hml hw hown hlocks hin A hA hkn hP hD ls hl
  have hl : lv_has ls 1 [(0, .ref h0)] := hl
  have hS : va_S A s.heap s.heap [] := va_S.rf
  obtain ⟨H, hHe⟩ : ∃ H, H = s.heap := ⟨_, rfl⟩
  obtain ⟨locs, hLe⟩ : ∃ locs : List Loc, locs = [] := ⟨_, rfl⟩
  have hP : va_P g.1 vwCl [(h0, .inr (5, [.ref a1, .ref a2, .ref a3, .ref a4, .ref a5, .ref a6, .ref a7, .ref a8, .long sd])), (a4, .inr (3, [.ref t1, .ref t2, .int (nI sn), .long dr])), (t1, .inl (gI g, 64, .inl fl)), (t2, .inr (4, [.int x1, .int x2]))] H := by rw [hHe]; exact hP
  have hS : va_S A s.heap H locs := by rw [hHe, hLe]; exact hS
  have hgo : W p l e ({ frames := 4, cells := 0, slots := 0, locals := 85 } : Room) s m ([.ref h0] : List Value).toArray below meth c H locs 0 0 (MQ below (QAi g (fun (r : Int32) (u : Int64 × Int32 × Int32) => r = (ffA fl sn).1) (fun (u : Int64 × Int32 × Int32) => [(h0, .inr (5, [.ref a1, .ref a2, .ref a3, .ref a4, .ref a5, .ref a6, .ref a7, .ref a8, .long sd])), (a4, .inr (3, [.ref t1, .ref t2, .int (nI sn), .long u.1])), (t1, .inl (gI g, 64, .inl fl)), (t2, .inr (4, [.int u.2.1, .int u.2.2]))]) A) ([.ref h0] : List Value).toArray s 0 0 A) (F0 m 0 ls []) := ?_
  · rw [hHe, hLe] at hgo; exact hgo
  clear hHe hLe
  refine lv_aload_n hx hb dX6_fault_0 rfl (lv_at hl 0 rfl) ?_
  refine va_get (D := g.1) (ci := 5) (v := .ref a4) (C := RX6) (T := TX6) (N := 9) hx hb hw inlX6 hown hkn.1 hP 0 rfl rfl 3 (by decide) (hw _ mw_22) (fun _ h9 => h9) rfl dX6_fault_1 ?_
  refine cVM_i (As := []) (rest := []) (q0 := 0) (wc := [(a4, .inr (3, [.ref t1, .ref t2, .int (nI sn), .long dr])), (t1, .inl (gI g, 64, .inl fl)), (t2, .inr (4, [.int x1, .int x2]))]) (wr := [(h0, .inr (5, [.ref a1, .ref a2, .ref a3, .ref a4, .ref a5, .ref a6, .ref a7, .ref a8, .long sd]))]) hx hb hml hown hw hkn hS hl hA hP hD [1, 2, 3] [0] rfl rfl (by decide) (by decide) (by decide) (c_X4_firstFault l g _ a4 t1 t2 sn dr fl x1 x2 (by omega)) vf_X4_firstFault mw_120 rfl rfl ⟨(Nat.le_of_ble_eq_true rfl), (Nat.le_of_ble_eq_true rfl)⟩ rfl rfl rfl rfl (Nat.le_of_ble_eq_true rfl) dX6_fault_4 ⟨(Nat.le_of_ble_eq_true rfl), (Nat.le_of_ble_eq_true rfl)⟩ (fun r u H locs hq hP hD hS => ?_)
  obtain ⟨d9_1, y1_1, y2_1⟩ := u
  dsimp only at hq hP hD
  obtain ⟨hr_1, hq_1⟩ := hq
  subst hr_1
  have hP : va_P g.1 vwCl [(h0, .inr (5, [.ref a1, .ref a2, .ref a3, .ref a4, .ref a5, .ref a6, .ref a7, .ref a8, .long sd])), (a4, .inr (3, [.ref t1, .ref t2, .int (nI sn), .long d9_1])), (t1, .inl (gI g, 64, .inl fl)), (t2, .inr (4, [.int y1_1, .int y2_1]))] H := hP.sub [0, 1, 2, 3] rfl
  have hD : va_D A [(h0, .inr (5, [.ref a1, .ref a2, .ref a3, .ref a4, .ref a5, .ref a6, .ref a7, .ref a8, .long sd])), (a4, .inr (3, [.ref t1, .ref t2, .int (nI sn), .long d9_1])), (t1, .inl (gI g, 64, .inl fl)), (t2, .inr (4, [.int y1_1, .int y2_1]))] := hD.sub [0, 1, 2, 3] (by decide) rfl
  exact eM_i (g := g) hx hb hr hlocks (d9_1, y1_1, y2_1) (rfl) (hP.sub [0, 1, 2, 3] rfl) (hD.sub [0, 1, 2, 3] (by decide) rfl) hS dX6_fault_7
set_option maxHeartbeats 4000000 in
set_option maxRecDepth 100000 in
theorem c_X6_change (l : Launch) (g : GG) (sz : Nat) (h0 : Nat) (x0 : Int32) (v0 : Int64) (a1 : Nat) (a2 : Nat) (a3 : Nat) (a4 : Nat) (a5 : Nat) (a6 : Nat) (a7 : Nat) (a8 : Nat) (sd : Int64) (b1 : Nat) (f : Nat → Int64) (c1 : Nat) (c2 : Nat) (an : Nat) (fc : Nat → Int32) (fb : Nat → Int64) (han : an ≤ 14) : Met l yX6_change (Cond.code yX6_change cX6_change 4 (some .long) :: wsL_law) ({ frames := 2, cells := 0, slots := 0, locals := 44 }) (PM g [.ref h0, .int x0, .long v0] [(h0, .inr (5, [.ref a1, .ref a2, .ref a3, .ref a4, .ref a5, .ref a6, .ref a7, .ref a8, .long sd])), (a1, .inr (1, [.ref b1])), (b1, .inl (gJ g, 3, .inr (.inl f))), (a5, .inr (0, [.ref c1, .ref c2, .int (nI an)])), (c1, .inl (gI g, 14, .inl fc)), (c2, .inl (gJ g, 14, .inr (.inl fb)))] sz) (QAl g (fun (r : Int64) (u : Unit) => r = v0) (fun (u : Unit) => [(h0, .inr (5, [.ref a1, .ref a2, .ref a3, .ref a4, .ref a5, .ref a6, .ref a7, .ref a8, .long sd])), (a1, .inr (1, [.ref b1])), (b1, .inl (gJ g, 3, .inr (.inl (setS f x0 v0)))), (a5, .inr (0, [.ref c1, .ref c2, .int (nI (acN an))])), (c1, .inl (gI g, 14, .inl (acF an fc x0))), (c2, .inl (gJ g, 14, .inr (.inl (acL an fb (picS f x0)))))]) (va_A [(h0, .inr (5, [.ref a1, .ref a2, .ref a3, .ref a4, .ref a5, .ref a6, .ref a7, .ref a8, .long sd])), (a1, .inr (1, [.ref b1])), (b1, .inl (gJ g, 3, .inr (.inl f))), (a5, .inr (0, [.ref c1, .ref c2, .int (nI an)])), (c1, .inl (gI g, 14, .inl fc)), (c2, .inl (gJ g, 14, .inr (.inl fb)))] sz)) 0 0 (va_A [(h0, .inr (5, [.ref a1, .ref a2, .ref a3, .ref a4, .ref a5, .ref a6, .ref a7, .ref a8, .long sd])), (a1, .inr (1, [.ref b1])), (b1, .inl (gJ g, 3, .inr (.inl f))), (a5, .inr (0, [.ref c1, .ref c2, .int (nI an)])), (c1, .inl (gI g, 14, .inl fc)), (c2, .inl (gJ g, 14, .inr (.inl fb)))] sz) := by
  refine Met.M (Qc := fun A => QAl g (fun (r : Int64) (u : Unit) => r = v0) (fun (u : Unit) => [(h0, .inr (5, [.ref a1, .ref a2, .ref a3, .ref a4, .ref a5, .ref a6, .ref a7, .ref a8, .long sd])), (a1, .inr (1, [.ref b1])), (b1, .inl (gJ g, 3, .inr (.inl (setS f x0 v0)))), (a5, .inr (0, [.ref c1, .ref c2, .int (nI (acN an))])), (c1, .inl (gI g, 14, .inl (acF an fc x0))), (c2, .inl (gJ g, 14, .inr (.inl (acL an fb (picS f x0)))))]) A) (by decide) (Nat.le_of_ble_eq_true rfl) rfl ?_
  intro p e s m below meth c hx hb hr hml hw hown hlocks hin A hA hkn hP hD ls hl
  have hl : lv_has ls 4 [(0, .ref h0), (1, .int x0), (2, .long v0)] := hl
  have hS : va_S A s.heap s.heap [] := va_S.rf
  obtain ⟨H, hHe⟩ : ∃ H, H = s.heap := ⟨_, rfl⟩
  obtain ⟨locs, hLe⟩ : ∃ locs : List Loc, locs = [] := ⟨_, rfl⟩
  have hP : va_P g.1 vwCl [(h0, .inr (5, [.ref a1, .ref a2, .ref a3, .ref a4, .ref a5, .ref a6, .ref a7, .ref a8, .long sd])), (a1, .inr (1, [.ref b1])), (b1, .inl (gJ g, 3, .inr (.inl f))), (a5, .inr (0, [.ref c1, .ref c2, .int (nI an)])), (c1, .inl (gI g, 14, .inl fc)), (c2, .inl (gJ g, 14, .inr (.inl fb)))] H := by rw [hHe]; exact hP
  have hS : va_S A s.heap H locs := by rw [hHe, hLe]; exact hS
  have hgo : W p l e ({ frames := 2, cells := 0, slots := 0, locals := 44 } : Room) s m ([.ref h0, .int x0, .long v0] : List Value).toArray below meth c H locs 0 0 (MQ below (QAl g (fun (r : Int64) (u : Unit) => r = v0) (fun (u : Unit) => [(h0, .inr (5, [.ref a1, .ref a2, .ref a3, .ref a4, .ref a5, .ref a6, .ref a7, .ref a8, .long sd])), (a1, .inr (1, [.ref b1])), (b1, .inl (gJ g, 3, .inr (.inl (setS f x0 v0)))), (a5, .inr (0, [.ref c1, .ref c2, .int (nI (acN an))])), (c1, .inl (gI g, 14, .inl (acF an fc x0))), (c2, .inl (gJ g, 14, .inr (.inl (acL an fb (picS f x0)))))]) A) ([.ref h0, .int x0, .long v0] : List Value).toArray s 0 0 A) (F0 m 0 ls []) := ?_
  · rw [hHe, hLe] at hgo; exact hgo
  clear hHe hLe
  refine lv_aload_n hx hb dX6_change_0 rfl (lv_at hl 0 rfl) ?_
  refine va_get (D := g.1) (ci := 5) (v := .ref a5) (C := RX6) (T := TX6) (N := 9) hx hb hw inlX6 hown hkn.1 hP 0 rfl rfl 4 (by decide) (hw _ mw_26) (fun _ h9 => h9) rfl dX6_change_1 ?_
  refine lv_iload_n hx hb dX6_change_4 rfl (lv_at hl 1 rfl) ?_
  refine lv_aload_n hx hb dX6_change_5 rfl (lv_at hl 0 rfl) ?_
  refine va_get (D := g.1) (ci := 5) (v := .ref a1) (C := RX6) (T := TX6) (N := 9) hx hb hw inlX6 hown hkn.1 hP 0 rfl rfl 0 (by decide) (hw _ mw_16) (fun _ h9 => h9) rfl dX6_change_6 ?_
  refine lv_iload_n hx hb dX6_change_9 rfl (lv_at hl 1 rfl) ?_
  refine cV_l (As := [.int x0]) (rest := [.int x0, .ref a5]) hx hb hml hown hw hkn hS hl (c_X1_cells l g _ a1 x0 b1 f  (hP.sub [1, 2] rfl)) vf_X1_cells mw_218 (va_recv hkn.1 hP (ci := 1) (q0 := 1) rfl rfl) ⟨(Nat.le_of_ble_eq_true rfl), (Nat.le_of_ble_eq_true rfl)⟩ rfl rfl rfl rfl (Nat.le_of_ble_eq_true rfl) dX6_change_10 ⟨(Nat.le_of_ble_eq_true rfl), (Nat.le_of_ble_eq_true rfl)⟩ ?_
  refine cVM_v (As := [.int x0, .long (picS f x0)]) (rest := []) (q0 := 0) (wc := [(a5, .inr (0, [.ref c1, .ref c2, .int (nI an)])), (c1, .inl (gI g, 14, .inl fc)), (c2, .inl (gJ g, 14, .inr (.inl fb)))]) (wr := [(h0, .inr (5, [.ref a1, .ref a2, .ref a3, .ref a4, .ref a5, .ref a6, .ref a7, .ref a8, .long sd])), (a1, .inr (1, [.ref b1])), (b1, .inl (gJ g, 3, .inr (.inl f)))]) hx hb hml hown hw hkn hS hl hA hP hD [3, 4, 5] [0, 1, 2] rfl rfl (by decide) (by decide) (by decide) (c_X0_add l g _ a5 x0 (picS f x0) c1 c2 an fc fb (by omega)) vf_X0_add mw_222 rfl rfl ⟨(Nat.le_of_ble_eq_true rfl), (Nat.le_of_ble_eq_true rfl)⟩ rfl rfl rfl rfl (Nat.le_of_ble_eq_true rfl) dX6_change_13 ⟨(Nat.le_of_ble_eq_true rfl), (Nat.le_of_ble_eq_true rfl)⟩ (fun u H locs hq hP hD hS => ?_)
  have hP : va_P g.1 vwCl [(h0, .inr (5, [.ref a1, .ref a2, .ref a3, .ref a4, .ref a5, .ref a6, .ref a7, .ref a8, .long sd])), (a1, .inr (1, [.ref b1])), (b1, .inl (gJ g, 3, .inr (.inl f))), (a5, .inr (0, [.ref c1, .ref c2, .int (nI (acN an))])), (c1, .inl (gI g, 14, .inl (acF an fc x0))), (c2, .inl (gJ g, 14, .inr (.inl (acL an fb (picS f x0)))))] H := hP.sub [0, 1, 2, 3, 4, 5] rfl
  have hD : va_D A [(h0, .inr (5, [.ref a1, .ref a2, .ref a3, .ref a4, .ref a5, .ref a6, .ref a7, .ref a8, .long sd])), (a1, .inr (1, [.ref b1])), (b1, .inl (gJ g, 3, .inr (.inl f))), (a5, .inr (0, [.ref c1, .ref c2, .int (nI (acN an))])), (c1, .inl (gI g, 14, .inl (acF an fc x0))), (c2, .inl (gJ g, 14, .inr (.inl (acL an fb (picS f x0)))))] := hD.sub [0, 1, 2, 3, 4, 5] (by decide) rfl
  refine lv_aload_n hx hb dX6_change_16 rfl (lv_at hl 0 rfl) ?_
  refine va_get (D := g.1) (ci := 5) (v := .ref a1) (C := RX6) (T := TX6) (N := 9) hx hb hw inlX6 hown hkn.1 hP 0 rfl rfl 0 (by decide) (hw _ mw_16) (fun _ h9 => h9) rfl dX6_change_17 ?_
  refine lv_iload_n hx hb dX6_change_20 rfl (lv_at hl 1 rfl) ?_
  refine lv_lload_n hx hb dX6_change_21 rfl (lv_at hl 2 rfl) ?_
  refine cVM_v (As := [.int x0, .long v0]) (rest := []) (q0 := 0) (wc := [(a1, .inr (1, [.ref b1])), (b1, .inl (gJ g, 3, .inr (.inl f)))]) (wr := [(h0, .inr (5, [.ref a1, .ref a2, .ref a3, .ref a4, .ref a5, .ref a6, .ref a7, .ref a8, .long sd])), (a5, .inr (0, [.ref c1, .ref c2, .int (nI (acN an))])), (c1, .inl (gI g, 14, .inl (acF an fc x0))), (c2, .inl (gJ g, 14, .inr (.inl (acL an fb (picS f x0)))))]) hx hb hml hown hw hkn hS hl hA hP hD [1, 2] [0, 3, 4, 5] rfl rfl (by decide) (by decide) (by decide) (c_X1_set l g _ a1 x0 v0 b1 f ) vf_X1_set mw_230 rfl rfl ⟨(Nat.le_of_ble_eq_true rfl), (Nat.le_of_ble_eq_true rfl)⟩ rfl rfl rfl rfl (Nat.le_of_ble_eq_true rfl) dX6_change_22 ⟨(Nat.le_of_ble_eq_true rfl), (Nat.le_of_ble_eq_true rfl)⟩ (fun u H locs hq hP hD hS => ?_)
  have hP : va_P g.1 vwCl [(h0, .inr (5, [.ref a1, .ref a2, .ref a3, .ref a4, .ref a5, .ref a6, .ref a7, .ref a8, .long sd])), (a1, .inr (1, [.ref b1])), (b1, .inl (gJ g, 3, .inr (.inl (setS f x0 v0)))), (a5, .inr (0, [.ref c1, .ref c2, .int (nI (acN an))])), (c1, .inl (gI g, 14, .inl (acF an fc x0))), (c2, .inl (gJ g, 14, .inr (.inl (acL an fb (picS f x0)))))] H := hP.sub [0, 4, 5, 1, 2, 3] rfl
  have hD : va_D A [(h0, .inr (5, [.ref a1, .ref a2, .ref a3, .ref a4, .ref a5, .ref a6, .ref a7, .ref a8, .long sd])), (a1, .inr (1, [.ref b1])), (b1, .inl (gJ g, 3, .inr (.inl (setS f x0 v0)))), (a5, .inr (0, [.ref c1, .ref c2, .int (nI (acN an))])), (c1, .inl (gI g, 14, .inl (acF an fc x0))), (c2, .inl (gJ g, 14, .inr (.inl (acL an fb (picS f x0)))))] := hD.sub [0, 4, 5, 1, 2, 3] (by decide) rfl
  refine lv_lload_n hx hb dX6_change_25 rfl (lv_at hl 2 rfl) ?_
  exact eM_l (g := g) hx hb hr hlocks () (rfl) (hP.sub [0, 1, 2, 3, 4, 5] rfl) (hD.sub [0, 1, 2, 3, 4, 5] (by decide) rfl) hS dX6_change_26
set_option maxHeartbeats 4000000 in
set_option maxRecDepth 100000 in
theorem c_X6_put (l : Launch) (g : GG) (sz : Nat) (h0 : Nat) (x0 : Int32) (a1 : Nat) (a2 : Nat) (a3 : Nat) (a4 : Nat) (a5 : Nat) (a6 : Nat) (a7 : Nat) (a8 : Nat) (sd : Int64) (t1 : Nat) (t2 : Nat) (sn : Nat) (dr : Int64) (fl : Nat → Int32) (x1 : Int32) (x2 : Int32) (b1 : Nat) (f : Nat → Int64) (c1 : Nat) (c2 : Nat) (an : Nat) (fc : Nat → Int32) (fb : Nat → Int64) (hsn : sn ≤ 64) (han : an ≤ 14) : Met l yX6_put (Cond.code yX6_put cX6_put 2 (some .int) :: wsL_law) ({ frames := 4, cells := 0, slots := 0, locals := 85 }) (PM g [.ref h0, .int x0] [(h0, .inr (5, [.ref a1, .ref a2, .ref a3, .ref a4, .ref a5, .ref a6, .ref a7, .ref a8, .long sd])), (a4, .inr (3, [.ref t1, .ref t2, .int (nI sn), .long dr])), (t1, .inl (gI g, 64, .inl fl)), (t2, .inr (4, [.int x1, .int x2])), (a1, .inr (1, [.ref b1])), (b1, .inl (gJ g, 3, .inr (.inl f))), (a5, .inr (0, [.ref c1, .ref c2, .int (nI an)])), (c1, .inl (gI g, 14, .inl fc)), (c2, .inl (gJ g, 14, .inr (.inl fb)))] sz) (QAi g (fun (r : Int32) (u : Int64 × Int32 × Int32) => r = qPu fl sn x0) (fun (u : Int64 × Int32 × Int32) => [(h0, .inr (5, [.ref a1, .ref a2, .ref a3, .ref a4, .ref a5, .ref a6, .ref a7, .ref a8, .long sd])), (a4, .inr (3, [.ref t1, .ref t2, .int (nI sn), .long u.1])), (t1, .inl (gI g, 64, .inl fl)), (t2, .inr (4, [.int u.2.1, .int u.2.2])), (a1, .inr (1, [.ref b1])), (b1, .inl (gJ g, 3, .inr (.inl (cond (qPuB fl sn x0) (setS f x0 (ffA fl sn).2) f)))), (a5, .inr (0, [.ref c1, .ref c2, .int (nI (cond (qPuB fl sn x0) (acN an) an))])), (c1, .inl (gI g, 14, .inl (cond (qPuB fl sn x0) (acF an fc x0) fc))), (c2, .inl (gJ g, 14, .inr (.inl (cond (qPuB fl sn x0) (acL an fb (picS f x0)) fb))))]) (va_A [(h0, .inr (5, [.ref a1, .ref a2, .ref a3, .ref a4, .ref a5, .ref a6, .ref a7, .ref a8, .long sd])), (a4, .inr (3, [.ref t1, .ref t2, .int (nI sn), .long dr])), (t1, .inl (gI g, 64, .inl fl)), (t2, .inr (4, [.int x1, .int x2])), (a1, .inr (1, [.ref b1])), (b1, .inl (gJ g, 3, .inr (.inl f))), (a5, .inr (0, [.ref c1, .ref c2, .int (nI an)])), (c1, .inl (gI g, 14, .inl fc)), (c2, .inl (gJ g, 14, .inr (.inl fb)))] sz)) 0 0 (va_A [(h0, .inr (5, [.ref a1, .ref a2, .ref a3, .ref a4, .ref a5, .ref a6, .ref a7, .ref a8, .long sd])), (a4, .inr (3, [.ref t1, .ref t2, .int (nI sn), .long dr])), (t1, .inl (gI g, 64, .inl fl)), (t2, .inr (4, [.int x1, .int x2])), (a1, .inr (1, [.ref b1])), (b1, .inl (gJ g, 3, .inr (.inl f))), (a5, .inr (0, [.ref c1, .ref c2, .int (nI an)])), (c1, .inl (gI g, 14, .inl fc)), (c2, .inl (gJ g, 14, .inr (.inl fb)))] sz) := by
  refine Met.M (Qc := fun A => QAi g (fun (r : Int32) (u : Int64 × Int32 × Int32) => r = qPu fl sn x0) (fun (u : Int64 × Int32 × Int32) => [(h0, .inr (5, [.ref a1, .ref a2, .ref a3, .ref a4, .ref a5, .ref a6, .ref a7, .ref a8, .long sd])), (a4, .inr (3, [.ref t1, .ref t2, .int (nI sn), .long u.1])), (t1, .inl (gI g, 64, .inl fl)), (t2, .inr (4, [.int u.2.1, .int u.2.2])), (a1, .inr (1, [.ref b1])), (b1, .inl (gJ g, 3, .inr (.inl (cond (qPuB fl sn x0) (setS f x0 (ffA fl sn).2) f)))), (a5, .inr (0, [.ref c1, .ref c2, .int (nI (cond (qPuB fl sn x0) (acN an) an))])), (c1, .inl (gI g, 14, .inl (cond (qPuB fl sn x0) (acF an fc x0) fc))), (c2, .inl (gJ g, 14, .inr (.inl (cond (qPuB fl sn x0) (acL an fb (picS f x0)) fb))))]) A) (by decide) (Nat.le_of_ble_eq_true rfl) rfl ?_
  intro p e s m below meth c hx hb hr hml hw hown hlocks hin A hA hkn hP hD ls hl
  have hl : lv_has ls 2 [(0, .ref h0), (1, .int x0)] := hl
  have hS : va_S A s.heap s.heap [] := va_S.rf
  obtain ⟨H, hHe⟩ : ∃ H, H = s.heap := ⟨_, rfl⟩
  obtain ⟨locs, hLe⟩ : ∃ locs : List Loc, locs = [] := ⟨_, rfl⟩
  have hP : va_P g.1 vwCl [(h0, .inr (5, [.ref a1, .ref a2, .ref a3, .ref a4, .ref a5, .ref a6, .ref a7, .ref a8, .long sd])), (a4, .inr (3, [.ref t1, .ref t2, .int (nI sn), .long dr])), (t1, .inl (gI g, 64, .inl fl)), (t2, .inr (4, [.int x1, .int x2])), (a1, .inr (1, [.ref b1])), (b1, .inl (gJ g, 3, .inr (.inl f))), (a5, .inr (0, [.ref c1, .ref c2, .int (nI an)])), (c1, .inl (gI g, 14, .inl fc)), (c2, .inl (gJ g, 14, .inr (.inl fb)))] H := by rw [hHe]; exact hP
  have hS : va_S A s.heap H locs := by rw [hHe, hLe]; exact hS
  have hgo : W p l e ({ frames := 4, cells := 0, slots := 0, locals := 85 } : Room) s m ([.ref h0, .int x0] : List Value).toArray below meth c H locs 0 0 (MQ below (QAi g (fun (r : Int32) (u : Int64 × Int32 × Int32) => r = qPu fl sn x0) (fun (u : Int64 × Int32 × Int32) => [(h0, .inr (5, [.ref a1, .ref a2, .ref a3, .ref a4, .ref a5, .ref a6, .ref a7, .ref a8, .long sd])), (a4, .inr (3, [.ref t1, .ref t2, .int (nI sn), .long u.1])), (t1, .inl (gI g, 64, .inl fl)), (t2, .inr (4, [.int u.2.1, .int u.2.2])), (a1, .inr (1, [.ref b1])), (b1, .inl (gJ g, 3, .inr (.inl (cond (qPuB fl sn x0) (setS f x0 (ffA fl sn).2) f)))), (a5, .inr (0, [.ref c1, .ref c2, .int (nI (cond (qPuB fl sn x0) (acN an) an))])), (c1, .inl (gI g, 14, .inl (cond (qPuB fl sn x0) (acF an fc x0) fc))), (c2, .inl (gJ g, 14, .inr (.inl (cond (qPuB fl sn x0) (acL an fb (picS f x0)) fb))))]) A) ([.ref h0, .int x0] : List Value).toArray s 0 0 A) (F0 m 0 ls []) := ?_
  · rw [hHe, hLe] at hgo; exact hgo
  clear hHe hLe
  refine lv_iload_n hx hb dX6_put_0 rfl (lv_at hl 1 rfl) ?_
  refine cS_i (As := [.int x0]) (rest := []) hx hb hml hown hw hkn hS hl (c_X6_isPicture l g _ x0 ) sf_X6_isPicture mw_207 ⟨(Nat.le_of_ble_eq_true rfl), (Nat.le_of_ble_eq_true rfl)⟩ rfl rfl rfl rfl (Nat.le_of_ble_eq_true rfl) dX6_put_1 ⟨(Nat.le_of_ble_eq_true rfl), (Nat.le_of_ble_eq_true rfl)⟩ ?_
  refine lv_ifneB (b := isPic x0) (tgt := 9) hx hb dX6_put_4 (by decide) (fun c_1 => ?_) (fun c_1 => ?_)
  · skip
    refine lv_aload_n hx hb dX6_put_9 rfl (lv_at hl 0 rfl) ?_
    refine va_get (D := g.1) (ci := 5) (v := .ref a4) (C := RX6) (T := TX6) (N := 9) hx hb hw inlX6 hown hkn.1 hP 0 rfl rfl 3 (by decide) (hw _ mw_22) (fun _ h9 => h9) rfl dX6_put_10 ?_
    refine cVM_i (As := []) (rest := []) (q0 := 0) (wc := [(a4, .inr (3, [.ref t1, .ref t2, .int (nI sn), .long dr])), (t1, .inl (gI g, 64, .inl fl)), (t2, .inr (4, [.int x1, .int x2]))]) (wr := [(h0, .inr (5, [.ref a1, .ref a2, .ref a3, .ref a4, .ref a5, .ref a6, .ref a7, .ref a8, .long sd])), (a1, .inr (1, [.ref b1])), (b1, .inl (gJ g, 3, .inr (.inl f))), (a5, .inr (0, [.ref c1, .ref c2, .int (nI an)])), (c1, .inl (gI g, 14, .inl fc)), (c2, .inl (gJ g, 14, .inr (.inl fb)))]) hx hb hml hown hw hkn hS hl hA hP hD [1, 2, 3] [0, 4, 5, 6, 7, 8] rfl rfl (by decide) (by decide) (by decide) (c_X4_firstFault l g _ a4 t1 t2 sn dr fl x1 x2 (by omega)) vf_X4_firstFault mw_120 rfl rfl ⟨(Nat.le_of_ble_eq_true rfl), (Nat.le_of_ble_eq_true rfl)⟩ rfl rfl rfl rfl (Nat.le_of_ble_eq_true rfl) dX6_put_13 ⟨(Nat.le_of_ble_eq_true rfl), (Nat.le_of_ble_eq_true rfl)⟩ (fun r u H locs hq hP hD hS => ?_)
    obtain ⟨d9_2, y1_2, y2_2⟩ := u
    dsimp only at hq hP hD
    obtain ⟨hr_2, hq_2⟩ := hq
    subst hr_2
    have hP : va_P g.1 vwCl [(h0, .inr (5, [.ref a1, .ref a2, .ref a3, .ref a4, .ref a5, .ref a6, .ref a7, .ref a8, .long sd])), (a4, .inr (3, [.ref t1, .ref t2, .int (nI sn), .long d9_2])), (t1, .inl (gI g, 64, .inl fl)), (t2, .inr (4, [.int y1_2, .int y2_2])), (a1, .inr (1, [.ref b1])), (b1, .inl (gJ g, 3, .inr (.inl f))), (a5, .inr (0, [.ref c1, .ref c2, .int (nI an)])), (c1, .inl (gI g, 14, .inl fc)), (c2, .inl (gJ g, 14, .inr (.inl fb)))] H := hP.sub [0, 6, 7, 8, 1, 2, 3, 4, 5] rfl
    have hD : va_D A [(h0, .inr (5, [.ref a1, .ref a2, .ref a3, .ref a4, .ref a5, .ref a6, .ref a7, .ref a8, .long sd])), (a4, .inr (3, [.ref t1, .ref t2, .int (nI sn), .long d9_2])), (t1, .inl (gI g, 64, .inl fl)), (t2, .inr (4, [.int y1_2, .int y2_2])), (a1, .inr (1, [.ref b1])), (b1, .inl (gJ g, 3, .inr (.inl f))), (a5, .inr (0, [.ref c1, .ref c2, .int (nI an)])), (c1, .inl (gI g, 14, .inl fc)), (c2, .inl (gJ g, 14, .inr (.inl fb)))] := hD.sub [0, 6, 7, 8, 1, 2, 3, 4, 5] (by decide) rfl
    subst hq_2
    refine lv_bipush (v := (-9)) hx hb dX6_put_16 (by decide) ?_
    refine lv_icmp_eq (tgt := 24) hx hb dX6_put_18 (by decide) (fun c_3 => ?_) (fun c_3 => ?_)
    · skip
      refine lv_aload_n hx hb dX6_put_24 rfl (lv_at hl 0 rfl) ?_
      refine lv_iload_n hx hb dX6_put_25 rfl (lv_at hl 1 rfl) ?_
      refine lv_aload_n hx hb dX6_put_26 rfl (lv_at hl 0 rfl) ?_
      refine va_get (D := g.1) (ci := 5) (v := .ref a4) (C := RX6) (T := TX6) (N := 9) hx hb hw inlX6 hown hkn.1 hP 0 rfl rfl 3 (by decide) (hw _ mw_22) (fun _ h9 => h9) rfl dX6_put_27 ?_
      refine cV_l (As := []) (rest := [.int x0, .ref h0]) hx hb hml hown hw hkn hS hl (c_X4_drawn l g _ a4 t1 t2 sn ((ffG fl sn 0 0 0 0).2)  (hP.sub [1] rfl)) vf_X4_drawn mw_210 (va_recv hkn.1 hP (ci := 3) (q0 := 1) rfl rfl) ⟨(Nat.le_of_ble_eq_true rfl), (Nat.le_of_ble_eq_true rfl)⟩ rfl rfl rfl rfl (Nat.le_of_ble_eq_true rfl) dX6_put_30 ⟨(Nat.le_of_ble_eq_true rfl), (Nat.le_of_ble_eq_true rfl)⟩ ?_
      refine cVM_l (As := [.int x0, .long ((ffG fl sn 0 0 0 0).2)]) (rest := []) (q0 := 0) (wc := [(h0, .inr (5, [.ref a1, .ref a2, .ref a3, .ref a4, .ref a5, .ref a6, .ref a7, .ref a8, .long sd])), (a1, .inr (1, [.ref b1])), (b1, .inl (gJ g, 3, .inr (.inl f))), (a5, .inr (0, [.ref c1, .ref c2, .int (nI an)])), (c1, .inl (gI g, 14, .inl fc)), (c2, .inl (gJ g, 14, .inr (.inl fb)))]) (wr := [(a4, .inr (3, [.ref t1, .ref t2, .int (nI sn), .long ((ffG fl sn 0 0 0 0).2)])), (t1, .inl (gI g, 64, .inl fl)), (t2, .inr (4, [.int y1_2, .int y2_2]))]) hx hb hml hown hw hkn hS hl hA hP hD [0, 4, 5, 6, 7, 8] [1, 2, 3] rfl rfl (by decide) (by decide) (by decide) (c_X6_change l g _ h0 x0 ((ffG fl sn 0 0 0 0).2) a1 a2 a3 a4 a5 a6 a7 a8 sd b1 f c1 c2 an fc fb (by omega)) vf_X6_change mw_214 rfl rfl ⟨(Nat.le_of_ble_eq_true rfl), (Nat.le_of_ble_eq_true rfl)⟩ rfl rfl rfl rfl (Nat.le_of_ble_eq_true rfl) dX6_put_33 ⟨(Nat.le_of_ble_eq_true rfl), (Nat.le_of_ble_eq_true rfl)⟩ (fun r u H locs hq hP hD hS => ?_)
      have hq : r = ((ffG fl sn 0 0 0 0).2) := hq
      subst hq
      have hP : va_P g.1 vwCl [(h0, .inr (5, [.ref a1, .ref a2, .ref a3, .ref a4, .ref a5, .ref a6, .ref a7, .ref a8, .long sd])), (a4, .inr (3, [.ref t1, .ref t2, .int (nI sn), .long ((ffG fl sn 0 0 0 0).2)])), (t1, .inl (gI g, 64, .inl fl)), (t2, .inr (4, [.int y1_2, .int y2_2])), (a1, .inr (1, [.ref b1])), (b1, .inl (gJ g, 3, .inr (.inl (setS f x0 ((ffG fl sn 0 0 0 0).2))))), (a5, .inr (0, [.ref c1, .ref c2, .int (nI (acN an))])), (c1, .inl (gI g, 14, .inl (acF an fc x0))), (c2, .inl (gJ g, 14, .inr (.inl (acL an fb (picS f x0)))))] H := hP.sub [3, 0, 1, 2, 4, 5, 6, 7, 8] rfl
      have hD : va_D A [(h0, .inr (5, [.ref a1, .ref a2, .ref a3, .ref a4, .ref a5, .ref a6, .ref a7, .ref a8, .long sd])), (a4, .inr (3, [.ref t1, .ref t2, .int (nI sn), .long ((ffG fl sn 0 0 0 0).2)])), (t1, .inl (gI g, 64, .inl fl)), (t2, .inr (4, [.int y1_2, .int y2_2])), (a1, .inr (1, [.ref b1])), (b1, .inl (gJ g, 3, .inr (.inl (setS f x0 ((ffG fl sn 0 0 0 0).2))))), (a5, .inr (0, [.ref c1, .ref c2, .int (nI (acN an))])), (c1, .inl (gI g, 14, .inl (acF an fc x0))), (c2, .inl (gJ g, 14, .inr (.inl (acL an fb (picS f x0)))))] := hD.sub [3, 0, 1, 2, 4, 5, 6, 7, 8] (by decide) rfl
      refine cS_i (As := [.long ((ffG fl sn 0 0 0 0).2)]) (rest := []) hx hb hml hown hw hkn hS hl (c_J13_bitCount l g _ ((ffG fl sn 0 0 0 0).2) ) sf_J13_bitCount_95d88 mw_234 ⟨(Nat.le_of_ble_eq_true rfl), (Nat.le_of_ble_eq_true rfl)⟩ rfl rfl rfl rfl (Nat.le_of_ble_eq_true rfl) dX6_put_36 ⟨(Nat.le_of_ble_eq_true rfl), (Nat.le_of_ble_eq_true rfl)⟩ ?_
      have eb : qPuB fl sn x0 = true := by unfold qPuB; rw [c_1]; exact decide_eq_true c_3
      exact eM_i (g := g) hx hb hr hlocks ((ffG fl sn 0 0 0 0).2, y1_2, y2_2) (by unfold qPu ffA; rw [if_pos c_1, if_pos c_3]) (show va_P g.1 vwCl [(h0, .inr (5, [.ref a1, .ref a2, .ref a3, .ref a4, .ref a5, .ref a6, .ref a7, .ref a8, .long sd])), (a4, .inr (3, [.ref t1, .ref t2, .int (nI sn), .long (ffG fl sn 0 0 0 0).2])), (t1, .inl (gI g, 64, .inl fl)), (t2, .inr (4, [.int y1_2, .int y2_2])), (a1, .inr (1, [.ref b1])), (b1, .inl (gJ g, 3, .inr (.inl (cond (qPuB fl sn x0) (setS f x0 (ffA fl sn).2) f)))), (a5, .inr (0, [.ref c1, .ref c2, .int (nI (cond (qPuB fl sn x0) (acN an) an))])), (c1, .inl (gI g, 14, .inl (cond (qPuB fl sn x0) (acF an fc x0) fc))), (c2, .inl (gJ g, 14, .inr (.inl (cond (qPuB fl sn x0) (acL an fb (picS f x0)) fb))))] H by rw [eb]; exact hP.sub [0, 1, 2, 3, 4, 5, 6, 7, 8] rfl) (show va_D A [(h0, .inr (5, [.ref a1, .ref a2, .ref a3, .ref a4, .ref a5, .ref a6, .ref a7, .ref a8, .long sd])), (a4, .inr (3, [.ref t1, .ref t2, .int (nI sn), .long (ffG fl sn 0 0 0 0).2])), (t1, .inl (gI g, 64, .inl fl)), (t2, .inr (4, [.int y1_2, .int y2_2])), (a1, .inr (1, [.ref b1])), (b1, .inl (gJ g, 3, .inr (.inl (cond (qPuB fl sn x0) (setS f x0 (ffA fl sn).2) f)))), (a5, .inr (0, [.ref c1, .ref c2, .int (nI (cond (qPuB fl sn x0) (acN an) an))])), (c1, .inl (gI g, 14, .inl (cond (qPuB fl sn x0) (acF an fc x0) fc))), (c2, .inl (gJ g, 14, .inr (.inl (cond (qPuB fl sn x0) (acL an fb (picS f x0)) fb))))] by rw [eb]; exact hD.sub [0, 1, 2, 3, 4, 5, 6, 7, 8] (by decide) rfl) hS dX6_put_39
    · skip
      refine lv_bipush (v := (-3)) hx hb dX6_put_21 (by decide) ?_
      have eb : qPuB fl sn x0 = false := by unfold qPuB; rw [c_1]; exact decide_eq_false c_3
      exact eM_i (g := g) hx hb hr hlocks ((ffG fl sn 0 0 0 0).2, y1_2, y2_2) (by unfold qPu ffA; rw [if_pos c_1, if_neg c_3]) (show va_P g.1 vwCl [(h0, .inr (5, [.ref a1, .ref a2, .ref a3, .ref a4, .ref a5, .ref a6, .ref a7, .ref a8, .long sd])), (a4, .inr (3, [.ref t1, .ref t2, .int (nI sn), .long (ffG fl sn 0 0 0 0).2])), (t1, .inl (gI g, 64, .inl fl)), (t2, .inr (4, [.int y1_2, .int y2_2])), (a1, .inr (1, [.ref b1])), (b1, .inl (gJ g, 3, .inr (.inl (cond (qPuB fl sn x0) (setS f x0 (ffA fl sn).2) f)))), (a5, .inr (0, [.ref c1, .ref c2, .int (nI (cond (qPuB fl sn x0) (acN an) an))])), (c1, .inl (gI g, 14, .inl (cond (qPuB fl sn x0) (acF an fc x0) fc))), (c2, .inl (gJ g, 14, .inr (.inl (cond (qPuB fl sn x0) (acL an fb (picS f x0)) fb))))] H by rw [eb]; exact hP.sub [0, 1, 2, 3, 4, 5, 6, 7, 8] rfl) (show va_D A [(h0, .inr (5, [.ref a1, .ref a2, .ref a3, .ref a4, .ref a5, .ref a6, .ref a7, .ref a8, .long sd])), (a4, .inr (3, [.ref t1, .ref t2, .int (nI sn), .long (ffG fl sn 0 0 0 0).2])), (t1, .inl (gI g, 64, .inl fl)), (t2, .inr (4, [.int y1_2, .int y2_2])), (a1, .inr (1, [.ref b1])), (b1, .inl (gJ g, 3, .inr (.inl (cond (qPuB fl sn x0) (setS f x0 (ffA fl sn).2) f)))), (a5, .inr (0, [.ref c1, .ref c2, .int (nI (cond (qPuB fl sn x0) (acN an) an))])), (c1, .inl (gI g, 14, .inl (cond (qPuB fl sn x0) (acF an fc x0) fc))), (c2, .inl (gJ g, 14, .inr (.inl (cond (qPuB fl sn x0) (acL an fb (picS f x0)) fb))))] by rw [eb]; exact hD.sub [0, 1, 2, 3, 4, 5, 6, 7, 8] (by decide) rfl) hS dX6_put_23
  · skip
    refine lv_iconst (v := (-1)) hx hb dX6_put_7 (by decide) ?_
    have eb : qPuB fl sn x0 = false := by unfold qPuB; rw [c_1]; rfl
    exact eM_i (g := g) hx hb hr hlocks (dr, x1, x2) (by unfold qPu ffA; rw [if_neg (nt_of c_1)]) (show va_P g.1 vwCl [(h0, .inr (5, [.ref a1, .ref a2, .ref a3, .ref a4, .ref a5, .ref a6, .ref a7, .ref a8, .long sd])), (a4, .inr (3, [.ref t1, .ref t2, .int (nI sn), .long dr])), (t1, .inl (gI g, 64, .inl fl)), (t2, .inr (4, [.int x1, .int x2])), (a1, .inr (1, [.ref b1])), (b1, .inl (gJ g, 3, .inr (.inl (cond (qPuB fl sn x0) (setS f x0 (ffA fl sn).2) f)))), (a5, .inr (0, [.ref c1, .ref c2, .int (nI (cond (qPuB fl sn x0) (acN an) an))])), (c1, .inl (gI g, 14, .inl (cond (qPuB fl sn x0) (acF an fc x0) fc))), (c2, .inl (gJ g, 14, .inr (.inl (cond (qPuB fl sn x0) (acL an fb (picS f x0)) fb))))] H by rw [eb]; exact hP.sub [0, 1, 2, 3, 4, 5, 6, 7, 8] rfl) (show va_D A [(h0, .inr (5, [.ref a1, .ref a2, .ref a3, .ref a4, .ref a5, .ref a6, .ref a7, .ref a8, .long sd])), (a4, .inr (3, [.ref t1, .ref t2, .int (nI sn), .long dr])), (t1, .inl (gI g, 64, .inl fl)), (t2, .inr (4, [.int x1, .int x2])), (a1, .inr (1, [.ref b1])), (b1, .inl (gJ g, 3, .inr (.inl (cond (qPuB fl sn x0) (setS f x0 (ffA fl sn).2) f)))), (a5, .inr (0, [.ref c1, .ref c2, .int (nI (cond (qPuB fl sn x0) (acN an) an))])), (c1, .inl (gI g, 14, .inl (cond (qPuB fl sn x0) (acF an fc x0) fc))), (c2, .inl (gJ g, 14, .inr (.inl (cond (qPuB fl sn x0) (acL an fb (picS f x0)) fb))))] by rw [eb]; exact hD.sub [0, 1, 2, 3, 4, 5, 6, 7, 8] (by decide) rfl) hS dX6_put_8
set_option maxHeartbeats 4000000 in
set_option maxRecDepth 100000 in
theorem c_X6_combine (l : Launch) (g : GG) (sz : Nat) (h0 : Nat) (k : Int32) (a : Int32) (b : Int32) (a1 : Nat) (a2 : Nat) (a3 : Nat) (a4 : Nat) (a5 : Nat) (a6 : Nat) (a7 : Nat) (a8 : Nat) (sd : Int64) (b1 : Nat) (f : Nat → Int64) (c1 : Nat) (c2 : Nat) (an : Nat) (fc : Nat → Int32) (fb : Nat → Int64) (han : an ≤ 14) : Met l yX6_combine (Cond.code yX6_combine cX6_combine 4 (some .int) :: wsL_law) ({ frames := 3, cells := 0, slots := 0, locals := 67 }) (PM g [.ref h0, .int k, .int a, .int b] [(h0, .inr (5, [.ref a1, .ref a2, .ref a3, .ref a4, .ref a5, .ref a6, .ref a7, .ref a8, .long sd])), (a1, .inr (1, [.ref b1])), (b1, .inl (gJ g, 3, .inr (.inl f))), (a5, .inr (0, [.ref c1, .ref c2, .int (nI an)])), (c1, .inl (gI g, 14, .inl fc)), (c2, .inl (gJ g, 14, .inr (.inl fb)))] sz) (QAi g (fun (r : Int32) (u : Unit) => r = qCb f k a b) (fun (u : Unit) => [(h0, .inr (5, [.ref a1, .ref a2, .ref a3, .ref a4, .ref a5, .ref a6, .ref a7, .ref a8, .long sd])), (a1, .inr (1, [.ref b1])), (b1, .inl (gJ g, 3, .inr (.inl (cond (cbB a b) (setS f a (cmbS k (picS f a) (picS f b))) f)))), (a5, .inr (0, [.ref c1, .ref c2, .int (nI (cond (cbB a b) (acN an) an))])), (c1, .inl (gI g, 14, .inl (cond (cbB a b) (acF an fc a) fc))), (c2, .inl (gJ g, 14, .inr (.inl (cond (cbB a b) (acL an fb (picS f a)) fb))))]) (va_A [(h0, .inr (5, [.ref a1, .ref a2, .ref a3, .ref a4, .ref a5, .ref a6, .ref a7, .ref a8, .long sd])), (a1, .inr (1, [.ref b1])), (b1, .inl (gJ g, 3, .inr (.inl f))), (a5, .inr (0, [.ref c1, .ref c2, .int (nI an)])), (c1, .inl (gI g, 14, .inl fc)), (c2, .inl (gJ g, 14, .inr (.inl fb)))] sz)) 0 0 (va_A [(h0, .inr (5, [.ref a1, .ref a2, .ref a3, .ref a4, .ref a5, .ref a6, .ref a7, .ref a8, .long sd])), (a1, .inr (1, [.ref b1])), (b1, .inl (gJ g, 3, .inr (.inl f))), (a5, .inr (0, [.ref c1, .ref c2, .int (nI an)])), (c1, .inl (gI g, 14, .inl fc)), (c2, .inl (gJ g, 14, .inr (.inl fb)))] sz) := by
  refine Met.M (Qc := fun A => QAi g (fun (r : Int32) (u : Unit) => r = qCb f k a b) (fun (u : Unit) => [(h0, .inr (5, [.ref a1, .ref a2, .ref a3, .ref a4, .ref a5, .ref a6, .ref a7, .ref a8, .long sd])), (a1, .inr (1, [.ref b1])), (b1, .inl (gJ g, 3, .inr (.inl (cond (cbB a b) (setS f a (cmbS k (picS f a) (picS f b))) f)))), (a5, .inr (0, [.ref c1, .ref c2, .int (nI (cond (cbB a b) (acN an) an))])), (c1, .inl (gI g, 14, .inl (cond (cbB a b) (acF an fc a) fc))), (c2, .inl (gJ g, 14, .inr (.inl (cond (cbB a b) (acL an fb (picS f a)) fb))))]) A) (by decide) (Nat.le_of_ble_eq_true rfl) rfl ?_
  intro p e s m below meth c hx hb hr hml hw hown hlocks hin A hA hkn hP hD ls hl
  have hl : lv_has ls 4 [(0, .ref h0), (1, .int k), (2, .int a), (3, .int b)] := hl
  have hS : va_S A s.heap s.heap [] := va_S.rf
  obtain ⟨H, hHe⟩ : ∃ H, H = s.heap := ⟨_, rfl⟩
  obtain ⟨locs, hLe⟩ : ∃ locs : List Loc, locs = [] := ⟨_, rfl⟩
  have hP : va_P g.1 vwCl [(h0, .inr (5, [.ref a1, .ref a2, .ref a3, .ref a4, .ref a5, .ref a6, .ref a7, .ref a8, .long sd])), (a1, .inr (1, [.ref b1])), (b1, .inl (gJ g, 3, .inr (.inl f))), (a5, .inr (0, [.ref c1, .ref c2, .int (nI an)])), (c1, .inl (gI g, 14, .inl fc)), (c2, .inl (gJ g, 14, .inr (.inl fb)))] H := by rw [hHe]; exact hP
  have hS : va_S A s.heap H locs := by rw [hHe, hLe]; exact hS
  have hgo : W p l e ({ frames := 3, cells := 0, slots := 0, locals := 67 } : Room) s m ([.ref h0, .int k, .int a, .int b] : List Value).toArray below meth c H locs 0 0 (MQ below (QAi g (fun (r : Int32) (u : Unit) => r = qCb f k a b) (fun (u : Unit) => [(h0, .inr (5, [.ref a1, .ref a2, .ref a3, .ref a4, .ref a5, .ref a6, .ref a7, .ref a8, .long sd])), (a1, .inr (1, [.ref b1])), (b1, .inl (gJ g, 3, .inr (.inl (cond (cbB a b) (setS f a (cmbS k (picS f a) (picS f b))) f)))), (a5, .inr (0, [.ref c1, .ref c2, .int (nI (cond (cbB a b) (acN an) an))])), (c1, .inl (gI g, 14, .inl (cond (cbB a b) (acF an fc a) fc))), (c2, .inl (gJ g, 14, .inr (.inl (cond (cbB a b) (acL an fb (picS f a)) fb))))]) A) ([.ref h0, .int k, .int a, .int b] : List Value).toArray s 0 0 A) (F0 m 0 ls []) := ?_
  · rw [hHe, hLe] at hgo; exact hgo
  clear hHe hLe
  refine lv_iload_n hx hb dX6_combine_0 rfl (lv_at hl 2 rfl) ?_
  refine cS_i (As := [.int a]) (rest := []) hx hb hml hown hw hkn hS hl (c_X6_isPicture l g _ a ) sf_X6_isPicture mw_207 ⟨(Nat.le_of_ble_eq_true rfl), (Nat.le_of_ble_eq_true rfl)⟩ rfl rfl rfl rfl (Nat.le_of_ble_eq_true rfl) dX6_combine_1 ⟨(Nat.le_of_ble_eq_true rfl), (Nat.le_of_ble_eq_true rfl)⟩ ?_
  refine lv_ifeqB (b := isPic a) (tgt := 14) hx hb dX6_combine_4 (by decide) (fun c_1 => ?_) (fun c_1 => ?_)
  · skip
    refine lv_iconst (v := (-1)) hx hb dX6_combine_14 (by decide) ?_
    have eb : cbB a b = false := by simp [cbB, scB, c_1]
    exact eM_i (g := g) hx hb hr hlocks () (by unfold qCb; rw [if_neg (nt_of c_1)]) (show va_P g.1 vwCl [(h0, .inr (5, [.ref a1, .ref a2, .ref a3, .ref a4, .ref a5, .ref a6, .ref a7, .ref a8, .long sd])), (a1, .inr (1, [.ref b1])), (b1, .inl (gJ g, 3, .inr (.inl (cond (cbB a b) (setS f a (cmbS k (picS f a) (picS f b))) f)))), (a5, .inr (0, [.ref c1, .ref c2, .int (nI (cond (cbB a b) (acN an) an))])), (c1, .inl (gI g, 14, .inl (cond (cbB a b) (acF an fc a) fc))), (c2, .inl (gJ g, 14, .inr (.inl (cond (cbB a b) (acL an fb (picS f a)) fb))))] H by rw [eb]; exact hP.sub [0, 1, 2, 3, 4, 5] rfl) (show va_D A [(h0, .inr (5, [.ref a1, .ref a2, .ref a3, .ref a4, .ref a5, .ref a6, .ref a7, .ref a8, .long sd])), (a1, .inr (1, [.ref b1])), (b1, .inl (gJ g, 3, .inr (.inl (cond (cbB a b) (setS f a (cmbS k (picS f a) (picS f b))) f)))), (a5, .inr (0, [.ref c1, .ref c2, .int (nI (cond (cbB a b) (acN an) an))])), (c1, .inl (gI g, 14, .inl (cond (cbB a b) (acF an fc a) fc))), (c2, .inl (gJ g, 14, .inr (.inl (cond (cbB a b) (acL an fb (picS f a)) fb))))] by rw [eb]; exact hD.sub [0, 1, 2, 3, 4, 5] (by decide) rfl) hS dX6_combine_15
  · skip
    refine lv_iload_n hx hb dX6_combine_7 rfl (lv_at hl 3 rfl) ?_
    refine cS_i (As := [.int b]) (rest := []) hx hb hml hown hw hkn hS hl (c_X6_isPicture l g _ b ) sf_X6_isPicture mw_207 ⟨(Nat.le_of_ble_eq_true rfl), (Nat.le_of_ble_eq_true rfl)⟩ rfl rfl rfl rfl (Nat.le_of_ble_eq_true rfl) dX6_combine_8 ⟨(Nat.le_of_ble_eq_true rfl), (Nat.le_of_ble_eq_true rfl)⟩ ?_
    refine lv_ifneB (b := isPic b) (tgt := 16) hx hb dX6_combine_11 (by decide) (fun c_2 => ?_) (fun c_2 => ?_)
    · skip
      refine lv_iload_n hx hb dX6_combine_16 rfl (lv_at hl 2 rfl) ?_
      refine lv_iload_n hx hb dX6_combine_17 rfl (lv_at hl 3 rfl) ?_
      refine lv_icmp_ne (tgt := 24) hx hb dX6_combine_18 (by decide) (fun c_3 => ?_) (fun c_3 => ?_)
      · skip
        refine lv_aload_n hx hb dX6_combine_24 rfl (lv_at hl 0 rfl) ?_
        refine lv_iload_n hx hb dX6_combine_25 rfl (lv_at hl 2 rfl) ?_
        refine lv_iload_n hx hb dX6_combine_26 rfl (lv_at hl 1 rfl) ?_
        refine lv_aload_n hx hb dX6_combine_27 rfl (lv_at hl 0 rfl) ?_
        refine va_get (D := g.1) (ci := 5) (v := .ref a1) (C := RX6) (T := TX6) (N := 9) hx hb hw inlX6 hown hkn.1 hP 0 rfl rfl 0 (by decide) (hw _ mw_16) (fun _ h9 => h9) rfl dX6_combine_28 ?_
        refine lv_iload_n hx hb dX6_combine_31 rfl (lv_at hl 2 rfl) ?_
        refine cV_l (As := [.int a]) (rest := [.int k, .int a, .ref h0]) hx hb hml hown hw hkn hS hl (c_X1_cells l g _ a1 a b1 f  (hP.sub [1, 2] rfl)) vf_X1_cells mw_218 (va_recv hkn.1 hP (ci := 1) (q0 := 1) rfl rfl) ⟨(Nat.le_of_ble_eq_true rfl), (Nat.le_of_ble_eq_true rfl)⟩ rfl rfl rfl rfl (Nat.le_of_ble_eq_true rfl) dX6_combine_32 ⟨(Nat.le_of_ble_eq_true rfl), (Nat.le_of_ble_eq_true rfl)⟩ ?_
        refine lv_aload_n hx hb dX6_combine_35 rfl (lv_at hl 0 rfl) ?_
        refine va_get (D := g.1) (ci := 5) (v := .ref a1) (C := RX6) (T := TX6) (N := 9) hx hb hw inlX6 hown hkn.1 hP 0 rfl rfl 0 (by decide) (hw _ mw_16) (fun _ h9 => h9) rfl dX6_combine_36 ?_
        refine lv_iload_n hx hb dX6_combine_39 rfl (lv_at hl 3 rfl) ?_
        refine cV_l (As := [.int b]) (rest := [.long (picS f a), .int k, .int a, .ref h0]) hx hb hml hown hw hkn hS hl (c_X1_cells l g _ a1 b b1 f  (hP.sub [1, 2] rfl)) vf_X1_cells mw_218 (va_recv hkn.1 hP (ci := 1) (q0 := 1) rfl rfl) ⟨(Nat.le_of_ble_eq_true rfl), (Nat.le_of_ble_eq_true rfl)⟩ rfl rfl rfl rfl (Nat.le_of_ble_eq_true rfl) dX6_combine_40 ⟨(Nat.le_of_ble_eq_true rfl), (Nat.le_of_ble_eq_true rfl)⟩ ?_
        refine cS_l (As := [.int k, .long (picS f a), .long (picS f b)]) (rest := [.int a, .ref h0]) hx hb hml hown hw hkn hS hl (c_X2_combined l g _ k (picS f a) (picS f b) ) sf_X2_combined mw_265 ⟨(Nat.le_of_ble_eq_true rfl), (Nat.le_of_ble_eq_true rfl)⟩ rfl rfl rfl rfl (Nat.le_of_ble_eq_true rfl) dX6_combine_43 ⟨(Nat.le_of_ble_eq_true rfl), (Nat.le_of_ble_eq_true rfl)⟩ ?_
        refine cVM_l (As := [.int a, .long (cmbS k (picS f a) (picS f b))]) (rest := []) (q0 := 0) (wc := [(h0, .inr (5, [.ref a1, .ref a2, .ref a3, .ref a4, .ref a5, .ref a6, .ref a7, .ref a8, .long sd])), (a1, .inr (1, [.ref b1])), (b1, .inl (gJ g, 3, .inr (.inl f))), (a5, .inr (0, [.ref c1, .ref c2, .int (nI an)])), (c1, .inl (gI g, 14, .inl fc)), (c2, .inl (gJ g, 14, .inr (.inl fb)))]) (wr := []) hx hb hml hown hw hkn hS hl hA hP hD [0, 1, 2, 3, 4, 5] [] rfl rfl (by decide) (by decide) (by decide) (c_X6_change l g _ h0 a (cmbS k (picS f a) (picS f b)) a1 a2 a3 a4 a5 a6 a7 a8 sd b1 f c1 c2 an fc fb (by omega)) vf_X6_change mw_214 rfl rfl ⟨(Nat.le_of_ble_eq_true rfl), (Nat.le_of_ble_eq_true rfl)⟩ rfl rfl rfl rfl (Nat.le_of_ble_eq_true rfl) dX6_combine_46 ⟨(Nat.le_of_ble_eq_true rfl), (Nat.le_of_ble_eq_true rfl)⟩ (fun r u H locs hq hP hD hS => ?_)
        have hq : r = (cmbS k (picS f a) (picS f b)) := hq
        subst hq
        have hP : va_P g.1 vwCl [(h0, .inr (5, [.ref a1, .ref a2, .ref a3, .ref a4, .ref a5, .ref a6, .ref a7, .ref a8, .long sd])), (a1, .inr (1, [.ref b1])), (b1, .inl (gJ g, 3, .inr (.inl (setS f a (cmbS k (picS f a) (picS f b)))))), (a5, .inr (0, [.ref c1, .ref c2, .int (nI (acN an))])), (c1, .inl (gI g, 14, .inl (acF an fc a))), (c2, .inl (gJ g, 14, .inr (.inl (acL an fb (picS f a)))))] H := hP.sub [0, 1, 2, 3, 4, 5] rfl
        have hD : va_D A [(h0, .inr (5, [.ref a1, .ref a2, .ref a3, .ref a4, .ref a5, .ref a6, .ref a7, .ref a8, .long sd])), (a1, .inr (1, [.ref b1])), (b1, .inl (gJ g, 3, .inr (.inl (setS f a (cmbS k (picS f a) (picS f b)))))), (a5, .inr (0, [.ref c1, .ref c2, .int (nI (acN an))])), (c1, .inl (gI g, 14, .inl (acF an fc a))), (c2, .inl (gJ g, 14, .inr (.inl (acL an fb (picS f a)))))] := hD.sub [0, 1, 2, 3, 4, 5] (by decide) rfl
        refine cS_i (As := [.long (cmbS k (picS f a) (picS f b))]) (rest := []) hx hb hml hown hw hkn hS hl (c_J13_bitCount l g _ (cmbS k (picS f a) (picS f b)) ) sf_J13_bitCount_95d88 mw_234 ⟨(Nat.le_of_ble_eq_true rfl), (Nat.le_of_ble_eq_true rfl)⟩ rfl rfl rfl rfl (Nat.le_of_ble_eq_true rfl) dX6_combine_49 ⟨(Nat.le_of_ble_eq_true rfl), (Nat.le_of_ble_eq_true rfl)⟩ ?_
        have eb : cbB a b = true := by simp [cbB, scB, c_1, c_2, c_3]
        exact eM_i (g := g) hx hb hr hlocks () (by unfold qCb; rw [if_pos c_1, if_pos c_2, if_neg c_3]) (show va_P g.1 vwCl [(h0, .inr (5, [.ref a1, .ref a2, .ref a3, .ref a4, .ref a5, .ref a6, .ref a7, .ref a8, .long sd])), (a1, .inr (1, [.ref b1])), (b1, .inl (gJ g, 3, .inr (.inl (cond (cbB a b) (setS f a (cmbS k (picS f a) (picS f b))) f)))), (a5, .inr (0, [.ref c1, .ref c2, .int (nI (cond (cbB a b) (acN an) an))])), (c1, .inl (gI g, 14, .inl (cond (cbB a b) (acF an fc a) fc))), (c2, .inl (gJ g, 14, .inr (.inl (cond (cbB a b) (acL an fb (picS f a)) fb))))] H by rw [eb]; exact hP.sub [0, 1, 2, 3, 4, 5] rfl) (show va_D A [(h0, .inr (5, [.ref a1, .ref a2, .ref a3, .ref a4, .ref a5, .ref a6, .ref a7, .ref a8, .long sd])), (a1, .inr (1, [.ref b1])), (b1, .inl (gJ g, 3, .inr (.inl (cond (cbB a b) (setS f a (cmbS k (picS f a) (picS f b))) f)))), (a5, .inr (0, [.ref c1, .ref c2, .int (nI (cond (cbB a b) (acN an) an))])), (c1, .inl (gI g, 14, .inl (cond (cbB a b) (acF an fc a) fc))), (c2, .inl (gJ g, 14, .inr (.inl (cond (cbB a b) (acL an fb (picS f a)) fb))))] by rw [eb]; exact hD.sub [0, 1, 2, 3, 4, 5] (by decide) rfl) hS dX6_combine_52
      · skip
        refine lv_bipush (v := (-2)) hx hb dX6_combine_21 (by decide) ?_
        have eb : cbB a b = false := by simp [cbB, scB, c_1, c_2, c_3]
        exact eM_i (g := g) hx hb hr hlocks () (by unfold qCb; rw [if_pos c_1, if_pos c_2, if_pos c_3]) (show va_P g.1 vwCl [(h0, .inr (5, [.ref a1, .ref a2, .ref a3, .ref a4, .ref a5, .ref a6, .ref a7, .ref a8, .long sd])), (a1, .inr (1, [.ref b1])), (b1, .inl (gJ g, 3, .inr (.inl (cond (cbB a b) (setS f a (cmbS k (picS f a) (picS f b))) f)))), (a5, .inr (0, [.ref c1, .ref c2, .int (nI (cond (cbB a b) (acN an) an))])), (c1, .inl (gI g, 14, .inl (cond (cbB a b) (acF an fc a) fc))), (c2, .inl (gJ g, 14, .inr (.inl (cond (cbB a b) (acL an fb (picS f a)) fb))))] H by rw [eb]; exact hP.sub [0, 1, 2, 3, 4, 5] rfl) (show va_D A [(h0, .inr (5, [.ref a1, .ref a2, .ref a3, .ref a4, .ref a5, .ref a6, .ref a7, .ref a8, .long sd])), (a1, .inr (1, [.ref b1])), (b1, .inl (gJ g, 3, .inr (.inl (cond (cbB a b) (setS f a (cmbS k (picS f a) (picS f b))) f)))), (a5, .inr (0, [.ref c1, .ref c2, .int (nI (cond (cbB a b) (acN an) an))])), (c1, .inl (gI g, 14, .inl (cond (cbB a b) (acF an fc a) fc))), (c2, .inl (gJ g, 14, .inr (.inl (cond (cbB a b) (acL an fb (picS f a)) fb))))] by rw [eb]; exact hD.sub [0, 1, 2, 3, 4, 5] (by decide) rfl) hS dX6_combine_23
    · skip
      refine lv_iconst (v := (-1)) hx hb dX6_combine_14 (by decide) ?_
      have eb : cbB a b = false := by simp [cbB, scB, c_1, c_2]
      exact eM_i (g := g) hx hb hr hlocks () (by unfold qCb; rw [if_pos c_1, if_neg (nt_of c_2)]) (show va_P g.1 vwCl [(h0, .inr (5, [.ref a1, .ref a2, .ref a3, .ref a4, .ref a5, .ref a6, .ref a7, .ref a8, .long sd])), (a1, .inr (1, [.ref b1])), (b1, .inl (gJ g, 3, .inr (.inl (cond (cbB a b) (setS f a (cmbS k (picS f a) (picS f b))) f)))), (a5, .inr (0, [.ref c1, .ref c2, .int (nI (cond (cbB a b) (acN an) an))])), (c1, .inl (gI g, 14, .inl (cond (cbB a b) (acF an fc a) fc))), (c2, .inl (gJ g, 14, .inr (.inl (cond (cbB a b) (acL an fb (picS f a)) fb))))] H by rw [eb]; exact hP.sub [0, 1, 2, 3, 4, 5] rfl) (show va_D A [(h0, .inr (5, [.ref a1, .ref a2, .ref a3, .ref a4, .ref a5, .ref a6, .ref a7, .ref a8, .long sd])), (a1, .inr (1, [.ref b1])), (b1, .inl (gJ g, 3, .inr (.inl (cond (cbB a b) (setS f a (cmbS k (picS f a) (picS f b))) f)))), (a5, .inr (0, [.ref c1, .ref c2, .int (nI (cond (cbB a b) (acN an) an))])), (c1, .inl (gI g, 14, .inl (cond (cbB a b) (acF an fc a) fc))), (c2, .inl (gJ g, 14, .inr (.inl (cond (cbB a b) (acL an fb (picS f a)) fb))))] by rw [eb]; exact hD.sub [0, 1, 2, 3, 4, 5] (by decide) rfl) hS dX6_combine_15
set_option maxHeartbeats 4000000 in
set_option maxRecDepth 100000 in
theorem c_X6_join (l : Launch) (g : GG) (sz : Nat) (h0 : Nat) (a : Int32) (b : Int32) (a1 : Nat) (a2 : Nat) (a3 : Nat) (a4 : Nat) (a5 : Nat) (a6 : Nat) (a7 : Nat) (a8 : Nat) (sd : Int64) (b1 : Nat) (f : Nat → Int64) (c1 : Nat) (c2 : Nat) (an : Nat) (fc : Nat → Int32) (fb : Nat → Int64) (han : an ≤ 14) : Met l yX6_join (Cond.code yX6_join cX6_join 3 (some .int) :: wsL_law) ({ frames := 4, cells := 0, slots := 0, locals := 90 }) (PM g [.ref h0, .int a, .int b] [(h0, .inr (5, [.ref a1, .ref a2, .ref a3, .ref a4, .ref a5, .ref a6, .ref a7, .ref a8, .long sd])), (a1, .inr (1, [.ref b1])), (b1, .inl (gJ g, 3, .inr (.inl f))), (a5, .inr (0, [.ref c1, .ref c2, .int (nI an)])), (c1, .inl (gI g, 14, .inl fc)), (c2, .inl (gJ g, 14, .inr (.inl fb)))] sz) (QAi g (fun (r : Int32) (u : Unit) => r = qCb f 1 a b) (fun (u : Unit) => [(h0, .inr (5, [.ref a1, .ref a2, .ref a3, .ref a4, .ref a5, .ref a6, .ref a7, .ref a8, .long sd])), (a1, .inr (1, [.ref b1])), (b1, .inl (gJ g, 3, .inr (.inl (cond (cbB a b) (setS f a (cmbS 1 (picS f a) (picS f b))) f)))), (a5, .inr (0, [.ref c1, .ref c2, .int (nI (cond (cbB a b) (acN an) an))])), (c1, .inl (gI g, 14, .inl (cond (cbB a b) (acF an fc a) fc))), (c2, .inl (gJ g, 14, .inr (.inl (cond (cbB a b) (acL an fb (picS f a)) fb))))]) (va_A [(h0, .inr (5, [.ref a1, .ref a2, .ref a3, .ref a4, .ref a5, .ref a6, .ref a7, .ref a8, .long sd])), (a1, .inr (1, [.ref b1])), (b1, .inl (gJ g, 3, .inr (.inl f))), (a5, .inr (0, [.ref c1, .ref c2, .int (nI an)])), (c1, .inl (gI g, 14, .inl fc)), (c2, .inl (gJ g, 14, .inr (.inl fb)))] sz)) 0 0 (va_A [(h0, .inr (5, [.ref a1, .ref a2, .ref a3, .ref a4, .ref a5, .ref a6, .ref a7, .ref a8, .long sd])), (a1, .inr (1, [.ref b1])), (b1, .inl (gJ g, 3, .inr (.inl f))), (a5, .inr (0, [.ref c1, .ref c2, .int (nI an)])), (c1, .inl (gI g, 14, .inl fc)), (c2, .inl (gJ g, 14, .inr (.inl fb)))] sz) := by
  refine Met.M (Qc := fun A => QAi g (fun (r : Int32) (u : Unit) => r = qCb f 1 a b) (fun (u : Unit) => [(h0, .inr (5, [.ref a1, .ref a2, .ref a3, .ref a4, .ref a5, .ref a6, .ref a7, .ref a8, .long sd])), (a1, .inr (1, [.ref b1])), (b1, .inl (gJ g, 3, .inr (.inl (cond (cbB a b) (setS f a (cmbS 1 (picS f a) (picS f b))) f)))), (a5, .inr (0, [.ref c1, .ref c2, .int (nI (cond (cbB a b) (acN an) an))])), (c1, .inl (gI g, 14, .inl (cond (cbB a b) (acF an fc a) fc))), (c2, .inl (gJ g, 14, .inr (.inl (cond (cbB a b) (acL an fb (picS f a)) fb))))]) A) (by decide) (Nat.le_of_ble_eq_true rfl) rfl ?_
  intro p e s m below meth c hx hb hr hml hw hown hlocks hin A hA hkn hP hD ls hl
  have hl : lv_has ls 3 [(0, .ref h0), (1, .int a), (2, .int b)] := hl
  have hS : va_S A s.heap s.heap [] := va_S.rf
  obtain ⟨H, hHe⟩ : ∃ H, H = s.heap := ⟨_, rfl⟩
  obtain ⟨locs, hLe⟩ : ∃ locs : List Loc, locs = [] := ⟨_, rfl⟩
  have hP : va_P g.1 vwCl [(h0, .inr (5, [.ref a1, .ref a2, .ref a3, .ref a4, .ref a5, .ref a6, .ref a7, .ref a8, .long sd])), (a1, .inr (1, [.ref b1])), (b1, .inl (gJ g, 3, .inr (.inl f))), (a5, .inr (0, [.ref c1, .ref c2, .int (nI an)])), (c1, .inl (gI g, 14, .inl fc)), (c2, .inl (gJ g, 14, .inr (.inl fb)))] H := by rw [hHe]; exact hP
  have hS : va_S A s.heap H locs := by rw [hHe, hLe]; exact hS
  have hgo : W p l e ({ frames := 4, cells := 0, slots := 0, locals := 90 } : Room) s m ([.ref h0, .int a, .int b] : List Value).toArray below meth c H locs 0 0 (MQ below (QAi g (fun (r : Int32) (u : Unit) => r = qCb f 1 a b) (fun (u : Unit) => [(h0, .inr (5, [.ref a1, .ref a2, .ref a3, .ref a4, .ref a5, .ref a6, .ref a7, .ref a8, .long sd])), (a1, .inr (1, [.ref b1])), (b1, .inl (gJ g, 3, .inr (.inl (cond (cbB a b) (setS f a (cmbS 1 (picS f a) (picS f b))) f)))), (a5, .inr (0, [.ref c1, .ref c2, .int (nI (cond (cbB a b) (acN an) an))])), (c1, .inl (gI g, 14, .inl (cond (cbB a b) (acF an fc a) fc))), (c2, .inl (gJ g, 14, .inr (.inl (cond (cbB a b) (acL an fb (picS f a)) fb))))]) A) ([.ref h0, .int a, .int b] : List Value).toArray s 0 0 A) (F0 m 0 ls []) := ?_
  · rw [hHe, hLe] at hgo; exact hgo
  clear hHe hLe
  refine lv_aload_n hx hb dX6_join_0 rfl (lv_at hl 0 rfl) ?_
  refine lv_iconst (v := 1) hx hb dX6_join_1 (by decide) ?_
  refine lv_iload_n hx hb dX6_join_2 rfl (lv_at hl 1 rfl) ?_
  refine lv_iload_n hx hb dX6_join_3 rfl (lv_at hl 2 rfl) ?_
  refine cVM_i (As := [.int 1, .int a, .int b]) (rest := []) (q0 := 0) (wc := [(h0, .inr (5, [.ref a1, .ref a2, .ref a3, .ref a4, .ref a5, .ref a6, .ref a7, .ref a8, .long sd])), (a1, .inr (1, [.ref b1])), (b1, .inl (gJ g, 3, .inr (.inl f))), (a5, .inr (0, [.ref c1, .ref c2, .int (nI an)])), (c1, .inl (gI g, 14, .inl fc)), (c2, .inl (gJ g, 14, .inr (.inl fb)))]) (wr := []) hx hb hml hown hw hkn hS hl hA hP hD [0, 1, 2, 3, 4, 5] [] rfl rfl (by decide) (by decide) (by decide) (c_X6_combine l g _ h0 1 a b a1 a2 a3 a4 a5 a6 a7 a8 sd b1 f c1 c2 an fc fb (by omega)) vf_X6_combine mw_261 rfl rfl ⟨(Nat.le_of_ble_eq_true rfl), (Nat.le_of_ble_eq_true rfl)⟩ rfl rfl rfl rfl (Nat.le_of_ble_eq_true rfl) dX6_join_4 ⟨(Nat.le_of_ble_eq_true rfl), (Nat.le_of_ble_eq_true rfl)⟩ (fun r u H locs hq hP hD hS => ?_)
  have hq : r = (qCb f 1 a b) := hq
  subst hq
  have hP : va_P g.1 vwCl [(h0, .inr (5, [.ref a1, .ref a2, .ref a3, .ref a4, .ref a5, .ref a6, .ref a7, .ref a8, .long sd])), (a1, .inr (1, [.ref b1])), (b1, .inl (gJ g, 3, .inr (.inl (cond (cbB a b) (setS f a (cmbS 1 (picS f a) (picS f b))) f)))), (a5, .inr (0, [.ref c1, .ref c2, .int (nI (cond (cbB a b) (acN an) an))])), (c1, .inl (gI g, 14, .inl (cond (cbB a b) (acF an fc a) fc))), (c2, .inl (gJ g, 14, .inr (.inl (cond (cbB a b) (acL an fb (picS f a)) fb))))] H := hP.sub [0, 1, 2, 3, 4, 5] rfl
  have hD : va_D A [(h0, .inr (5, [.ref a1, .ref a2, .ref a3, .ref a4, .ref a5, .ref a6, .ref a7, .ref a8, .long sd])), (a1, .inr (1, [.ref b1])), (b1, .inl (gJ g, 3, .inr (.inl (cond (cbB a b) (setS f a (cmbS 1 (picS f a) (picS f b))) f)))), (a5, .inr (0, [.ref c1, .ref c2, .int (nI (cond (cbB a b) (acN an) an))])), (c1, .inl (gI g, 14, .inl (cond (cbB a b) (acF an fc a) fc))), (c2, .inl (gJ g, 14, .inr (.inl (cond (cbB a b) (acL an fb (picS f a)) fb))))] := hD.sub [0, 1, 2, 3, 4, 5] (by decide) rfl
  exact eM_i (g := g) hx hb hr hlocks () (rfl) (hP.sub [0, 1, 2, 3, 4, 5] rfl) (hD.sub [0, 1, 2, 3, 4, 5] (by decide) rfl) hS dX6_join_7
set_option maxHeartbeats 4000000 in
set_option maxRecDepth 100000 in
theorem c_X6_meet (l : Launch) (g : GG) (sz : Nat) (h0 : Nat) (a : Int32) (b : Int32) (a1 : Nat) (a2 : Nat) (a3 : Nat) (a4 : Nat) (a5 : Nat) (a6 : Nat) (a7 : Nat) (a8 : Nat) (sd : Int64) (b1 : Nat) (f : Nat → Int64) (c1 : Nat) (c2 : Nat) (an : Nat) (fc : Nat → Int32) (fb : Nat → Int64) (han : an ≤ 14) : Met l yX6_meet (Cond.code yX6_meet cX6_meet 3 (some .int) :: wsL_law) ({ frames := 4, cells := 0, slots := 0, locals := 90 }) (PM g [.ref h0, .int a, .int b] [(h0, .inr (5, [.ref a1, .ref a2, .ref a3, .ref a4, .ref a5, .ref a6, .ref a7, .ref a8, .long sd])), (a1, .inr (1, [.ref b1])), (b1, .inl (gJ g, 3, .inr (.inl f))), (a5, .inr (0, [.ref c1, .ref c2, .int (nI an)])), (c1, .inl (gI g, 14, .inl fc)), (c2, .inl (gJ g, 14, .inr (.inl fb)))] sz) (QAi g (fun (r : Int32) (u : Unit) => r = qCb f 2 a b) (fun (u : Unit) => [(h0, .inr (5, [.ref a1, .ref a2, .ref a3, .ref a4, .ref a5, .ref a6, .ref a7, .ref a8, .long sd])), (a1, .inr (1, [.ref b1])), (b1, .inl (gJ g, 3, .inr (.inl (cond (cbB a b) (setS f a (cmbS 2 (picS f a) (picS f b))) f)))), (a5, .inr (0, [.ref c1, .ref c2, .int (nI (cond (cbB a b) (acN an) an))])), (c1, .inl (gI g, 14, .inl (cond (cbB a b) (acF an fc a) fc))), (c2, .inl (gJ g, 14, .inr (.inl (cond (cbB a b) (acL an fb (picS f a)) fb))))]) (va_A [(h0, .inr (5, [.ref a1, .ref a2, .ref a3, .ref a4, .ref a5, .ref a6, .ref a7, .ref a8, .long sd])), (a1, .inr (1, [.ref b1])), (b1, .inl (gJ g, 3, .inr (.inl f))), (a5, .inr (0, [.ref c1, .ref c2, .int (nI an)])), (c1, .inl (gI g, 14, .inl fc)), (c2, .inl (gJ g, 14, .inr (.inl fb)))] sz)) 0 0 (va_A [(h0, .inr (5, [.ref a1, .ref a2, .ref a3, .ref a4, .ref a5, .ref a6, .ref a7, .ref a8, .long sd])), (a1, .inr (1, [.ref b1])), (b1, .inl (gJ g, 3, .inr (.inl f))), (a5, .inr (0, [.ref c1, .ref c2, .int (nI an)])), (c1, .inl (gI g, 14, .inl fc)), (c2, .inl (gJ g, 14, .inr (.inl fb)))] sz) := by
  refine Met.M (Qc := fun A => QAi g (fun (r : Int32) (u : Unit) => r = qCb f 2 a b) (fun (u : Unit) => [(h0, .inr (5, [.ref a1, .ref a2, .ref a3, .ref a4, .ref a5, .ref a6, .ref a7, .ref a8, .long sd])), (a1, .inr (1, [.ref b1])), (b1, .inl (gJ g, 3, .inr (.inl (cond (cbB a b) (setS f a (cmbS 2 (picS f a) (picS f b))) f)))), (a5, .inr (0, [.ref c1, .ref c2, .int (nI (cond (cbB a b) (acN an) an))])), (c1, .inl (gI g, 14, .inl (cond (cbB a b) (acF an fc a) fc))), (c2, .inl (gJ g, 14, .inr (.inl (cond (cbB a b) (acL an fb (picS f a)) fb))))]) A) (by decide) (Nat.le_of_ble_eq_true rfl) rfl ?_
  intro p e s m below meth c hx hb hr hml hw hown hlocks hin A hA hkn hP hD ls hl
  have hl : lv_has ls 3 [(0, .ref h0), (1, .int a), (2, .int b)] := hl
  have hS : va_S A s.heap s.heap [] := va_S.rf
  obtain ⟨H, hHe⟩ : ∃ H, H = s.heap := ⟨_, rfl⟩
  obtain ⟨locs, hLe⟩ : ∃ locs : List Loc, locs = [] := ⟨_, rfl⟩
  have hP : va_P g.1 vwCl [(h0, .inr (5, [.ref a1, .ref a2, .ref a3, .ref a4, .ref a5, .ref a6, .ref a7, .ref a8, .long sd])), (a1, .inr (1, [.ref b1])), (b1, .inl (gJ g, 3, .inr (.inl f))), (a5, .inr (0, [.ref c1, .ref c2, .int (nI an)])), (c1, .inl (gI g, 14, .inl fc)), (c2, .inl (gJ g, 14, .inr (.inl fb)))] H := by rw [hHe]; exact hP
  have hS : va_S A s.heap H locs := by rw [hHe, hLe]; exact hS
  have hgo : W p l e ({ frames := 4, cells := 0, slots := 0, locals := 90 } : Room) s m ([.ref h0, .int a, .int b] : List Value).toArray below meth c H locs 0 0 (MQ below (QAi g (fun (r : Int32) (u : Unit) => r = qCb f 2 a b) (fun (u : Unit) => [(h0, .inr (5, [.ref a1, .ref a2, .ref a3, .ref a4, .ref a5, .ref a6, .ref a7, .ref a8, .long sd])), (a1, .inr (1, [.ref b1])), (b1, .inl (gJ g, 3, .inr (.inl (cond (cbB a b) (setS f a (cmbS 2 (picS f a) (picS f b))) f)))), (a5, .inr (0, [.ref c1, .ref c2, .int (nI (cond (cbB a b) (acN an) an))])), (c1, .inl (gI g, 14, .inl (cond (cbB a b) (acF an fc a) fc))), (c2, .inl (gJ g, 14, .inr (.inl (cond (cbB a b) (acL an fb (picS f a)) fb))))]) A) ([.ref h0, .int a, .int b] : List Value).toArray s 0 0 A) (F0 m 0 ls []) := ?_
  · rw [hHe, hLe] at hgo; exact hgo
  clear hHe hLe
  refine lv_aload_n hx hb dX6_meet_0 rfl (lv_at hl 0 rfl) ?_
  refine lv_iconst (v := 2) hx hb dX6_meet_1 (by decide) ?_
  refine lv_iload_n hx hb dX6_meet_2 rfl (lv_at hl 1 rfl) ?_
  refine lv_iload_n hx hb dX6_meet_3 rfl (lv_at hl 2 rfl) ?_
  refine cVM_i (As := [.int 2, .int a, .int b]) (rest := []) (q0 := 0) (wc := [(h0, .inr (5, [.ref a1, .ref a2, .ref a3, .ref a4, .ref a5, .ref a6, .ref a7, .ref a8, .long sd])), (a1, .inr (1, [.ref b1])), (b1, .inl (gJ g, 3, .inr (.inl f))), (a5, .inr (0, [.ref c1, .ref c2, .int (nI an)])), (c1, .inl (gI g, 14, .inl fc)), (c2, .inl (gJ g, 14, .inr (.inl fb)))]) (wr := []) hx hb hml hown hw hkn hS hl hA hP hD [0, 1, 2, 3, 4, 5] [] rfl rfl (by decide) (by decide) (by decide) (c_X6_combine l g _ h0 2 a b a1 a2 a3 a4 a5 a6 a7 a8 sd b1 f c1 c2 an fc fb (by omega)) vf_X6_combine mw_261 rfl rfl ⟨(Nat.le_of_ble_eq_true rfl), (Nat.le_of_ble_eq_true rfl)⟩ rfl rfl rfl rfl (Nat.le_of_ble_eq_true rfl) dX6_meet_4 ⟨(Nat.le_of_ble_eq_true rfl), (Nat.le_of_ble_eq_true rfl)⟩ (fun r u H locs hq hP hD hS => ?_)
  have hq : r = (qCb f 2 a b) := hq
  subst hq
  have hP : va_P g.1 vwCl [(h0, .inr (5, [.ref a1, .ref a2, .ref a3, .ref a4, .ref a5, .ref a6, .ref a7, .ref a8, .long sd])), (a1, .inr (1, [.ref b1])), (b1, .inl (gJ g, 3, .inr (.inl (cond (cbB a b) (setS f a (cmbS 2 (picS f a) (picS f b))) f)))), (a5, .inr (0, [.ref c1, .ref c2, .int (nI (cond (cbB a b) (acN an) an))])), (c1, .inl (gI g, 14, .inl (cond (cbB a b) (acF an fc a) fc))), (c2, .inl (gJ g, 14, .inr (.inl (cond (cbB a b) (acL an fb (picS f a)) fb))))] H := hP.sub [0, 1, 2, 3, 4, 5] rfl
  have hD : va_D A [(h0, .inr (5, [.ref a1, .ref a2, .ref a3, .ref a4, .ref a5, .ref a6, .ref a7, .ref a8, .long sd])), (a1, .inr (1, [.ref b1])), (b1, .inl (gJ g, 3, .inr (.inl (cond (cbB a b) (setS f a (cmbS 2 (picS f a) (picS f b))) f)))), (a5, .inr (0, [.ref c1, .ref c2, .int (nI (cond (cbB a b) (acN an) an))])), (c1, .inl (gI g, 14, .inl (cond (cbB a b) (acF an fc a) fc))), (c2, .inl (gJ g, 14, .inr (.inl (cond (cbB a b) (acL an fb (picS f a)) fb))))] := hD.sub [0, 1, 2, 3, 4, 5] (by decide) rfl
  exact eM_i (g := g) hx hb hr hlocks () (rfl) (hP.sub [0, 1, 2, 3, 4, 5] rfl) (hD.sub [0, 1, 2, 3, 4, 5] (by decide) rfl) hS dX6_meet_7
set_option maxHeartbeats 4000000 in
set_option maxRecDepth 100000 in
theorem c_X6_less (l : Launch) (g : GG) (sz : Nat) (h0 : Nat) (a : Int32) (b : Int32) (a1 : Nat) (a2 : Nat) (a3 : Nat) (a4 : Nat) (a5 : Nat) (a6 : Nat) (a7 : Nat) (a8 : Nat) (sd : Int64) (b1 : Nat) (f : Nat → Int64) (c1 : Nat) (c2 : Nat) (an : Nat) (fc : Nat → Int32) (fb : Nat → Int64) (han : an ≤ 14) : Met l yX6_less (Cond.code yX6_less cX6_less 3 (some .int) :: wsL_law) ({ frames := 4, cells := 0, slots := 0, locals := 90 }) (PM g [.ref h0, .int a, .int b] [(h0, .inr (5, [.ref a1, .ref a2, .ref a3, .ref a4, .ref a5, .ref a6, .ref a7, .ref a8, .long sd])), (a1, .inr (1, [.ref b1])), (b1, .inl (gJ g, 3, .inr (.inl f))), (a5, .inr (0, [.ref c1, .ref c2, .int (nI an)])), (c1, .inl (gI g, 14, .inl fc)), (c2, .inl (gJ g, 14, .inr (.inl fb)))] sz) (QAi g (fun (r : Int32) (u : Unit) => r = qCb f 3 a b) (fun (u : Unit) => [(h0, .inr (5, [.ref a1, .ref a2, .ref a3, .ref a4, .ref a5, .ref a6, .ref a7, .ref a8, .long sd])), (a1, .inr (1, [.ref b1])), (b1, .inl (gJ g, 3, .inr (.inl (cond (cbB a b) (setS f a (cmbS 3 (picS f a) (picS f b))) f)))), (a5, .inr (0, [.ref c1, .ref c2, .int (nI (cond (cbB a b) (acN an) an))])), (c1, .inl (gI g, 14, .inl (cond (cbB a b) (acF an fc a) fc))), (c2, .inl (gJ g, 14, .inr (.inl (cond (cbB a b) (acL an fb (picS f a)) fb))))]) (va_A [(h0, .inr (5, [.ref a1, .ref a2, .ref a3, .ref a4, .ref a5, .ref a6, .ref a7, .ref a8, .long sd])), (a1, .inr (1, [.ref b1])), (b1, .inl (gJ g, 3, .inr (.inl f))), (a5, .inr (0, [.ref c1, .ref c2, .int (nI an)])), (c1, .inl (gI g, 14, .inl fc)), (c2, .inl (gJ g, 14, .inr (.inl fb)))] sz)) 0 0 (va_A [(h0, .inr (5, [.ref a1, .ref a2, .ref a3, .ref a4, .ref a5, .ref a6, .ref a7, .ref a8, .long sd])), (a1, .inr (1, [.ref b1])), (b1, .inl (gJ g, 3, .inr (.inl f))), (a5, .inr (0, [.ref c1, .ref c2, .int (nI an)])), (c1, .inl (gI g, 14, .inl fc)), (c2, .inl (gJ g, 14, .inr (.inl fb)))] sz) := by
  refine Met.M (Qc := fun A => QAi g (fun (r : Int32) (u : Unit) => r = qCb f 3 a b) (fun (u : Unit) => [(h0, .inr (5, [.ref a1, .ref a2, .ref a3, .ref a4, .ref a5, .ref a6, .ref a7, .ref a8, .long sd])), (a1, .inr (1, [.ref b1])), (b1, .inl (gJ g, 3, .inr (.inl (cond (cbB a b) (setS f a (cmbS 3 (picS f a) (picS f b))) f)))), (a5, .inr (0, [.ref c1, .ref c2, .int (nI (cond (cbB a b) (acN an) an))])), (c1, .inl (gI g, 14, .inl (cond (cbB a b) (acF an fc a) fc))), (c2, .inl (gJ g, 14, .inr (.inl (cond (cbB a b) (acL an fb (picS f a)) fb))))]) A) (by decide) (Nat.le_of_ble_eq_true rfl) rfl ?_
  intro p e s m below meth c hx hb hr hml hw hown hlocks hin A hA hkn hP hD ls hl
  have hl : lv_has ls 3 [(0, .ref h0), (1, .int a), (2, .int b)] := hl
  have hS : va_S A s.heap s.heap [] := va_S.rf
  obtain ⟨H, hHe⟩ : ∃ H, H = s.heap := ⟨_, rfl⟩
  obtain ⟨locs, hLe⟩ : ∃ locs : List Loc, locs = [] := ⟨_, rfl⟩
  have hP : va_P g.1 vwCl [(h0, .inr (5, [.ref a1, .ref a2, .ref a3, .ref a4, .ref a5, .ref a6, .ref a7, .ref a8, .long sd])), (a1, .inr (1, [.ref b1])), (b1, .inl (gJ g, 3, .inr (.inl f))), (a5, .inr (0, [.ref c1, .ref c2, .int (nI an)])), (c1, .inl (gI g, 14, .inl fc)), (c2, .inl (gJ g, 14, .inr (.inl fb)))] H := by rw [hHe]; exact hP
  have hS : va_S A s.heap H locs := by rw [hHe, hLe]; exact hS
  have hgo : W p l e ({ frames := 4, cells := 0, slots := 0, locals := 90 } : Room) s m ([.ref h0, .int a, .int b] : List Value).toArray below meth c H locs 0 0 (MQ below (QAi g (fun (r : Int32) (u : Unit) => r = qCb f 3 a b) (fun (u : Unit) => [(h0, .inr (5, [.ref a1, .ref a2, .ref a3, .ref a4, .ref a5, .ref a6, .ref a7, .ref a8, .long sd])), (a1, .inr (1, [.ref b1])), (b1, .inl (gJ g, 3, .inr (.inl (cond (cbB a b) (setS f a (cmbS 3 (picS f a) (picS f b))) f)))), (a5, .inr (0, [.ref c1, .ref c2, .int (nI (cond (cbB a b) (acN an) an))])), (c1, .inl (gI g, 14, .inl (cond (cbB a b) (acF an fc a) fc))), (c2, .inl (gJ g, 14, .inr (.inl (cond (cbB a b) (acL an fb (picS f a)) fb))))]) A) ([.ref h0, .int a, .int b] : List Value).toArray s 0 0 A) (F0 m 0 ls []) := ?_
  · rw [hHe, hLe] at hgo; exact hgo
  clear hHe hLe
  refine lv_aload_n hx hb dX6_less_0 rfl (lv_at hl 0 rfl) ?_
  refine lv_iconst (v := 3) hx hb dX6_less_1 (by decide) ?_
  refine lv_iload_n hx hb dX6_less_2 rfl (lv_at hl 1 rfl) ?_
  refine lv_iload_n hx hb dX6_less_3 rfl (lv_at hl 2 rfl) ?_
  refine cVM_i (As := [.int 3, .int a, .int b]) (rest := []) (q0 := 0) (wc := [(h0, .inr (5, [.ref a1, .ref a2, .ref a3, .ref a4, .ref a5, .ref a6, .ref a7, .ref a8, .long sd])), (a1, .inr (1, [.ref b1])), (b1, .inl (gJ g, 3, .inr (.inl f))), (a5, .inr (0, [.ref c1, .ref c2, .int (nI an)])), (c1, .inl (gI g, 14, .inl fc)), (c2, .inl (gJ g, 14, .inr (.inl fb)))]) (wr := []) hx hb hml hown hw hkn hS hl hA hP hD [0, 1, 2, 3, 4, 5] [] rfl rfl (by decide) (by decide) (by decide) (c_X6_combine l g _ h0 3 a b a1 a2 a3 a4 a5 a6 a7 a8 sd b1 f c1 c2 an fc fb (by omega)) vf_X6_combine mw_261 rfl rfl ⟨(Nat.le_of_ble_eq_true rfl), (Nat.le_of_ble_eq_true rfl)⟩ rfl rfl rfl rfl (Nat.le_of_ble_eq_true rfl) dX6_less_4 ⟨(Nat.le_of_ble_eq_true rfl), (Nat.le_of_ble_eq_true rfl)⟩ (fun r u H locs hq hP hD hS => ?_)
  have hq : r = (qCb f 3 a b) := hq
  subst hq
  have hP : va_P g.1 vwCl [(h0, .inr (5, [.ref a1, .ref a2, .ref a3, .ref a4, .ref a5, .ref a6, .ref a7, .ref a8, .long sd])), (a1, .inr (1, [.ref b1])), (b1, .inl (gJ g, 3, .inr (.inl (cond (cbB a b) (setS f a (cmbS 3 (picS f a) (picS f b))) f)))), (a5, .inr (0, [.ref c1, .ref c2, .int (nI (cond (cbB a b) (acN an) an))])), (c1, .inl (gI g, 14, .inl (cond (cbB a b) (acF an fc a) fc))), (c2, .inl (gJ g, 14, .inr (.inl (cond (cbB a b) (acL an fb (picS f a)) fb))))] H := hP.sub [0, 1, 2, 3, 4, 5] rfl
  have hD : va_D A [(h0, .inr (5, [.ref a1, .ref a2, .ref a3, .ref a4, .ref a5, .ref a6, .ref a7, .ref a8, .long sd])), (a1, .inr (1, [.ref b1])), (b1, .inl (gJ g, 3, .inr (.inl (cond (cbB a b) (setS f a (cmbS 3 (picS f a) (picS f b))) f)))), (a5, .inr (0, [.ref c1, .ref c2, .int (nI (cond (cbB a b) (acN an) an))])), (c1, .inl (gI g, 14, .inl (cond (cbB a b) (acF an fc a) fc))), (c2, .inl (gJ g, 14, .inr (.inl (cond (cbB a b) (acL an fb (picS f a)) fb))))] := hD.sub [0, 1, 2, 3, 4, 5] (by decide) rfl
  exact eM_i (g := g) hx hb hr hlocks () (rfl) (hP.sub [0, 1, 2, 3, 4, 5] rfl) (hD.sub [0, 1, 2, 3, 4, 5] (by decide) rfl) hS dX6_less_7
set_option maxHeartbeats 4000000 in
set_option maxRecDepth 100000 in
theorem c_X6_turn (l : Launch) (g : GG) (sz : Nat) (h0 : Nat) (x0 : Int32) (a1 : Nat) (a2 : Nat) (a3 : Nat) (a4 : Nat) (a5 : Nat) (a6 : Nat) (a7 : Nat) (a8 : Nat) (sd : Int64) (b1 : Nat) (f : Nat → Int64) (c1 : Nat) (c2 : Nat) (an : Nat) (fc : Nat → Int32) (fb : Nat → Int64) (han : an ≤ 14) : Met l yX6_turn (Cond.code yX6_turn cX6_turn 2 (some .int) :: wsL_law) ({ frames := 3, cells := 0, slots := 0, locals := 67 }) (PM g [.ref h0, .int x0] [(h0, .inr (5, [.ref a1, .ref a2, .ref a3, .ref a4, .ref a5, .ref a6, .ref a7, .ref a8, .long sd])), (a1, .inr (1, [.ref b1])), (b1, .inl (gJ g, 3, .inr (.inl f))), (a5, .inr (0, [.ref c1, .ref c2, .int (nI an)])), (c1, .inl (gI g, 14, .inl fc)), (c2, .inl (gJ g, 14, .inr (.inl fb)))] sz) (QAi g (fun (r : Int32) (u : Unit) => r = qTu f x0) (fun (u : Unit) => [(h0, .inr (5, [.ref a1, .ref a2, .ref a3, .ref a4, .ref a5, .ref a6, .ref a7, .ref a8, .long sd])), (a1, .inr (1, [.ref b1])), (b1, .inl (gJ g, 3, .inr (.inl (cond (isPic x0) (setS f x0 (tuS (picS f x0))) f)))), (a5, .inr (0, [.ref c1, .ref c2, .int (nI (cond (isPic x0) (acN an) an))])), (c1, .inl (gI g, 14, .inl (cond (isPic x0) (acF an fc x0) fc))), (c2, .inl (gJ g, 14, .inr (.inl (cond (isPic x0) (acL an fb (picS f x0)) fb))))]) (va_A [(h0, .inr (5, [.ref a1, .ref a2, .ref a3, .ref a4, .ref a5, .ref a6, .ref a7, .ref a8, .long sd])), (a1, .inr (1, [.ref b1])), (b1, .inl (gJ g, 3, .inr (.inl f))), (a5, .inr (0, [.ref c1, .ref c2, .int (nI an)])), (c1, .inl (gI g, 14, .inl fc)), (c2, .inl (gJ g, 14, .inr (.inl fb)))] sz)) 0 0 (va_A [(h0, .inr (5, [.ref a1, .ref a2, .ref a3, .ref a4, .ref a5, .ref a6, .ref a7, .ref a8, .long sd])), (a1, .inr (1, [.ref b1])), (b1, .inl (gJ g, 3, .inr (.inl f))), (a5, .inr (0, [.ref c1, .ref c2, .int (nI an)])), (c1, .inl (gI g, 14, .inl fc)), (c2, .inl (gJ g, 14, .inr (.inl fb)))] sz) := by
  refine Met.M (Qc := fun A => QAi g (fun (r : Int32) (u : Unit) => r = qTu f x0) (fun (u : Unit) => [(h0, .inr (5, [.ref a1, .ref a2, .ref a3, .ref a4, .ref a5, .ref a6, .ref a7, .ref a8, .long sd])), (a1, .inr (1, [.ref b1])), (b1, .inl (gJ g, 3, .inr (.inl (cond (isPic x0) (setS f x0 (tuS (picS f x0))) f)))), (a5, .inr (0, [.ref c1, .ref c2, .int (nI (cond (isPic x0) (acN an) an))])), (c1, .inl (gI g, 14, .inl (cond (isPic x0) (acF an fc x0) fc))), (c2, .inl (gJ g, 14, .inr (.inl (cond (isPic x0) (acL an fb (picS f x0)) fb))))]) A) (by decide) (Nat.le_of_ble_eq_true rfl) rfl ?_
  intro p e s m below meth c hx hb hr hml hw hown hlocks hin A hA hkn hP hD ls hl
  have hl : lv_has ls 2 [(0, .ref h0), (1, .int x0)] := hl
  have hS : va_S A s.heap s.heap [] := va_S.rf
  obtain ⟨H, hHe⟩ : ∃ H, H = s.heap := ⟨_, rfl⟩
  obtain ⟨locs, hLe⟩ : ∃ locs : List Loc, locs = [] := ⟨_, rfl⟩
  have hP : va_P g.1 vwCl [(h0, .inr (5, [.ref a1, .ref a2, .ref a3, .ref a4, .ref a5, .ref a6, .ref a7, .ref a8, .long sd])), (a1, .inr (1, [.ref b1])), (b1, .inl (gJ g, 3, .inr (.inl f))), (a5, .inr (0, [.ref c1, .ref c2, .int (nI an)])), (c1, .inl (gI g, 14, .inl fc)), (c2, .inl (gJ g, 14, .inr (.inl fb)))] H := by rw [hHe]; exact hP
  have hS : va_S A s.heap H locs := by rw [hHe, hLe]; exact hS
  have hgo : W p l e ({ frames := 3, cells := 0, slots := 0, locals := 67 } : Room) s m ([.ref h0, .int x0] : List Value).toArray below meth c H locs 0 0 (MQ below (QAi g (fun (r : Int32) (u : Unit) => r = qTu f x0) (fun (u : Unit) => [(h0, .inr (5, [.ref a1, .ref a2, .ref a3, .ref a4, .ref a5, .ref a6, .ref a7, .ref a8, .long sd])), (a1, .inr (1, [.ref b1])), (b1, .inl (gJ g, 3, .inr (.inl (cond (isPic x0) (setS f x0 (tuS (picS f x0))) f)))), (a5, .inr (0, [.ref c1, .ref c2, .int (nI (cond (isPic x0) (acN an) an))])), (c1, .inl (gI g, 14, .inl (cond (isPic x0) (acF an fc x0) fc))), (c2, .inl (gJ g, 14, .inr (.inl (cond (isPic x0) (acL an fb (picS f x0)) fb))))]) A) ([.ref h0, .int x0] : List Value).toArray s 0 0 A) (F0 m 0 ls []) := ?_
  · rw [hHe, hLe] at hgo; exact hgo
  clear hHe hLe
  refine lv_iload_n hx hb dX6_turn_0 rfl (lv_at hl 1 rfl) ?_
  refine cS_i (As := [.int x0]) (rest := []) hx hb hml hown hw hkn hS hl (c_X6_isPicture l g _ x0 ) sf_X6_isPicture mw_207 ⟨(Nat.le_of_ble_eq_true rfl), (Nat.le_of_ble_eq_true rfl)⟩ rfl rfl rfl rfl (Nat.le_of_ble_eq_true rfl) dX6_turn_1 ⟨(Nat.le_of_ble_eq_true rfl), (Nat.le_of_ble_eq_true rfl)⟩ ?_
  refine lv_ifneB (b := isPic x0) (tgt := 9) hx hb dX6_turn_4 (by decide) (fun c_1 => ?_) (fun c_1 => ?_)
  · skip
    refine lv_aload_n hx hb dX6_turn_9 rfl (lv_at hl 0 rfl) ?_
    refine lv_iload_n hx hb dX6_turn_10 rfl (lv_at hl 1 rfl) ?_
    refine lv_aload_n hx hb dX6_turn_11 rfl (lv_at hl 0 rfl) ?_
    refine va_get (D := g.1) (ci := 5) (v := .ref a1) (C := RX6) (T := TX6) (N := 9) hx hb hw inlX6 hown hkn.1 hP 0 rfl rfl 0 (by decide) (hw _ mw_16) (fun _ h9 => h9) rfl dX6_turn_12 ?_
    refine lv_iload_n hx hb dX6_turn_15 rfl (lv_at hl 1 rfl) ?_
    refine cV_l (As := [.int x0]) (rest := [.int x0, .ref h0]) hx hb hml hown hw hkn hS hl (c_X1_cells l g _ a1 x0 b1 f  (hP.sub [1, 2] rfl)) vf_X1_cells mw_218 (va_recv hkn.1 hP (ci := 1) (q0 := 1) rfl rfl) ⟨(Nat.le_of_ble_eq_true rfl), (Nat.le_of_ble_eq_true rfl)⟩ rfl rfl rfl rfl (Nat.le_of_ble_eq_true rfl) dX6_turn_16 ⟨(Nat.le_of_ble_eq_true rfl), (Nat.le_of_ble_eq_true rfl)⟩ ?_
    refine cS_l (As := [.long (picS f x0)]) (rest := [.int x0, .ref h0]) hx hb hml hown hw hkn hS hl (c_X2_turned l g _ (picS f x0) ) sf_X2_turned mw_301 ⟨(Nat.le_of_ble_eq_true rfl), (Nat.le_of_ble_eq_true rfl)⟩ rfl rfl rfl rfl (Nat.le_of_ble_eq_true rfl) dX6_turn_19 ⟨(Nat.le_of_ble_eq_true rfl), (Nat.le_of_ble_eq_true rfl)⟩ ?_
    refine cVM_l (As := [.int x0, .long (tuS (picS f x0))]) (rest := []) (q0 := 0) (wc := [(h0, .inr (5, [.ref a1, .ref a2, .ref a3, .ref a4, .ref a5, .ref a6, .ref a7, .ref a8, .long sd])), (a1, .inr (1, [.ref b1])), (b1, .inl (gJ g, 3, .inr (.inl f))), (a5, .inr (0, [.ref c1, .ref c2, .int (nI an)])), (c1, .inl (gI g, 14, .inl fc)), (c2, .inl (gJ g, 14, .inr (.inl fb)))]) (wr := []) hx hb hml hown hw hkn hS hl hA hP hD [0, 1, 2, 3, 4, 5] [] rfl rfl (by decide) (by decide) (by decide) (c_X6_change l g _ h0 x0 (tuS (picS f x0)) a1 a2 a3 a4 a5 a6 a7 a8 sd b1 f c1 c2 an fc fb (by omega)) vf_X6_change mw_214 rfl rfl ⟨(Nat.le_of_ble_eq_true rfl), (Nat.le_of_ble_eq_true rfl)⟩ rfl rfl rfl rfl (Nat.le_of_ble_eq_true rfl) dX6_turn_22 ⟨(Nat.le_of_ble_eq_true rfl), (Nat.le_of_ble_eq_true rfl)⟩ (fun r u H locs hq hP hD hS => ?_)
    have hq : r = (tuS (picS f x0)) := hq
    subst hq
    have hP : va_P g.1 vwCl [(h0, .inr (5, [.ref a1, .ref a2, .ref a3, .ref a4, .ref a5, .ref a6, .ref a7, .ref a8, .long sd])), (a1, .inr (1, [.ref b1])), (b1, .inl (gJ g, 3, .inr (.inl (setS f x0 (tuS (picS f x0)))))), (a5, .inr (0, [.ref c1, .ref c2, .int (nI (acN an))])), (c1, .inl (gI g, 14, .inl (acF an fc x0))), (c2, .inl (gJ g, 14, .inr (.inl (acL an fb (picS f x0)))))] H := hP.sub [0, 1, 2, 3, 4, 5] rfl
    have hD : va_D A [(h0, .inr (5, [.ref a1, .ref a2, .ref a3, .ref a4, .ref a5, .ref a6, .ref a7, .ref a8, .long sd])), (a1, .inr (1, [.ref b1])), (b1, .inl (gJ g, 3, .inr (.inl (setS f x0 (tuS (picS f x0)))))), (a5, .inr (0, [.ref c1, .ref c2, .int (nI (acN an))])), (c1, .inl (gI g, 14, .inl (acF an fc x0))), (c2, .inl (gJ g, 14, .inr (.inl (acL an fb (picS f x0)))))] := hD.sub [0, 1, 2, 3, 4, 5] (by decide) rfl
    refine cS_i (As := [.long (tuS (picS f x0))]) (rest := []) hx hb hml hown hw hkn hS hl (c_X2_lowestRow l g _ (tuS (picS f x0)) ) sf_X2_lowestRow mw_310 ⟨(Nat.le_of_ble_eq_true rfl), (Nat.le_of_ble_eq_true rfl)⟩ rfl rfl rfl rfl (Nat.le_of_ble_eq_true rfl) dX6_turn_25 ⟨(Nat.le_of_ble_eq_true rfl), (Nat.le_of_ble_eq_true rfl)⟩ ?_
    have eb : isPic x0 = true := by simp [cbB, scB, c_1]
    exact eM_i (g := g) hx hb hr hlocks () (by unfold qTu; rw [if_pos c_1]) (show va_P g.1 vwCl [(h0, .inr (5, [.ref a1, .ref a2, .ref a3, .ref a4, .ref a5, .ref a6, .ref a7, .ref a8, .long sd])), (a1, .inr (1, [.ref b1])), (b1, .inl (gJ g, 3, .inr (.inl (cond (isPic x0) (setS f x0 (tuS (picS f x0))) f)))), (a5, .inr (0, [.ref c1, .ref c2, .int (nI (cond (isPic x0) (acN an) an))])), (c1, .inl (gI g, 14, .inl (cond (isPic x0) (acF an fc x0) fc))), (c2, .inl (gJ g, 14, .inr (.inl (cond (isPic x0) (acL an fb (picS f x0)) fb))))] H by rw [eb]; exact hP.sub [0, 1, 2, 3, 4, 5] rfl) (show va_D A [(h0, .inr (5, [.ref a1, .ref a2, .ref a3, .ref a4, .ref a5, .ref a6, .ref a7, .ref a8, .long sd])), (a1, .inr (1, [.ref b1])), (b1, .inl (gJ g, 3, .inr (.inl (cond (isPic x0) (setS f x0 (tuS (picS f x0))) f)))), (a5, .inr (0, [.ref c1, .ref c2, .int (nI (cond (isPic x0) (acN an) an))])), (c1, .inl (gI g, 14, .inl (cond (isPic x0) (acF an fc x0) fc))), (c2, .inl (gJ g, 14, .inr (.inl (cond (isPic x0) (acL an fb (picS f x0)) fb))))] by rw [eb]; exact hD.sub [0, 1, 2, 3, 4, 5] (by decide) rfl) hS dX6_turn_28
  · skip
    refine lv_iconst (v := (-1)) hx hb dX6_turn_7 (by decide) ?_
    have eb : isPic x0 = false := by simp [cbB, scB, c_1]
    exact eM_i (g := g) hx hb hr hlocks () (by unfold qTu; rw [if_neg (nt_of c_1)]) (show va_P g.1 vwCl [(h0, .inr (5, [.ref a1, .ref a2, .ref a3, .ref a4, .ref a5, .ref a6, .ref a7, .ref a8, .long sd])), (a1, .inr (1, [.ref b1])), (b1, .inl (gJ g, 3, .inr (.inl (cond (isPic x0) (setS f x0 (tuS (picS f x0))) f)))), (a5, .inr (0, [.ref c1, .ref c2, .int (nI (cond (isPic x0) (acN an) an))])), (c1, .inl (gI g, 14, .inl (cond (isPic x0) (acF an fc x0) fc))), (c2, .inl (gJ g, 14, .inr (.inl (cond (isPic x0) (acL an fb (picS f x0)) fb))))] H by rw [eb]; exact hP.sub [0, 1, 2, 3, 4, 5] rfl) (show va_D A [(h0, .inr (5, [.ref a1, .ref a2, .ref a3, .ref a4, .ref a5, .ref a6, .ref a7, .ref a8, .long sd])), (a1, .inr (1, [.ref b1])), (b1, .inl (gJ g, 3, .inr (.inl (cond (isPic x0) (setS f x0 (tuS (picS f x0))) f)))), (a5, .inr (0, [.ref c1, .ref c2, .int (nI (cond (isPic x0) (acN an) an))])), (c1, .inl (gI g, 14, .inl (cond (isPic x0) (acF an fc x0) fc))), (c2, .inl (gJ g, 14, .inr (.inl (cond (isPic x0) (acL an fb (picS f x0)) fb))))] by rw [eb]; exact hD.sub [0, 1, 2, 3, 4, 5] (by decide) rfl) hS dX6_turn_8
set_option maxHeartbeats 4000000 in
set_option maxRecDepth 100000 in
theorem c_X6_flip (l : Launch) (g : GG) (sz : Nat) (h0 : Nat) (x0 : Int32) (a1 : Nat) (a2 : Nat) (a3 : Nat) (a4 : Nat) (a5 : Nat) (a6 : Nat) (a7 : Nat) (a8 : Nat) (sd : Int64) (b1 : Nat) (f : Nat → Int64) (c1 : Nat) (c2 : Nat) (an : Nat) (fc : Nat → Int32) (fb : Nat → Int64) (han : an ≤ 14) : Met l yX6_flip (Cond.code yX6_flip cX6_flip 2 (some .int) :: wsL_law) ({ frames := 3, cells := 0, slots := 0, locals := 67 }) (PM g [.ref h0, .int x0] [(h0, .inr (5, [.ref a1, .ref a2, .ref a3, .ref a4, .ref a5, .ref a6, .ref a7, .ref a8, .long sd])), (a1, .inr (1, [.ref b1])), (b1, .inl (gJ g, 3, .inr (.inl f))), (a5, .inr (0, [.ref c1, .ref c2, .int (nI an)])), (c1, .inl (gI g, 14, .inl fc)), (c2, .inl (gJ g, 14, .inr (.inl fb)))] sz) (QAi g (fun (r : Int32) (u : Unit) => r = qFl f x0) (fun (u : Unit) => [(h0, .inr (5, [.ref a1, .ref a2, .ref a3, .ref a4, .ref a5, .ref a6, .ref a7, .ref a8, .long sd])), (a1, .inr (1, [.ref b1])), (b1, .inl (gJ g, 3, .inr (.inl (cond (isPic x0) (setS f x0 (flS (picS f x0))) f)))), (a5, .inr (0, [.ref c1, .ref c2, .int (nI (cond (isPic x0) (acN an) an))])), (c1, .inl (gI g, 14, .inl (cond (isPic x0) (acF an fc x0) fc))), (c2, .inl (gJ g, 14, .inr (.inl (cond (isPic x0) (acL an fb (picS f x0)) fb))))]) (va_A [(h0, .inr (5, [.ref a1, .ref a2, .ref a3, .ref a4, .ref a5, .ref a6, .ref a7, .ref a8, .long sd])), (a1, .inr (1, [.ref b1])), (b1, .inl (gJ g, 3, .inr (.inl f))), (a5, .inr (0, [.ref c1, .ref c2, .int (nI an)])), (c1, .inl (gI g, 14, .inl fc)), (c2, .inl (gJ g, 14, .inr (.inl fb)))] sz)) 0 0 (va_A [(h0, .inr (5, [.ref a1, .ref a2, .ref a3, .ref a4, .ref a5, .ref a6, .ref a7, .ref a8, .long sd])), (a1, .inr (1, [.ref b1])), (b1, .inl (gJ g, 3, .inr (.inl f))), (a5, .inr (0, [.ref c1, .ref c2, .int (nI an)])), (c1, .inl (gI g, 14, .inl fc)), (c2, .inl (gJ g, 14, .inr (.inl fb)))] sz) := by
  refine Met.M (Qc := fun A => QAi g (fun (r : Int32) (u : Unit) => r = qFl f x0) (fun (u : Unit) => [(h0, .inr (5, [.ref a1, .ref a2, .ref a3, .ref a4, .ref a5, .ref a6, .ref a7, .ref a8, .long sd])), (a1, .inr (1, [.ref b1])), (b1, .inl (gJ g, 3, .inr (.inl (cond (isPic x0) (setS f x0 (flS (picS f x0))) f)))), (a5, .inr (0, [.ref c1, .ref c2, .int (nI (cond (isPic x0) (acN an) an))])), (c1, .inl (gI g, 14, .inl (cond (isPic x0) (acF an fc x0) fc))), (c2, .inl (gJ g, 14, .inr (.inl (cond (isPic x0) (acL an fb (picS f x0)) fb))))]) A) (by decide) (Nat.le_of_ble_eq_true rfl) rfl ?_
  intro p e s m below meth c hx hb hr hml hw hown hlocks hin A hA hkn hP hD ls hl
  have hl : lv_has ls 2 [(0, .ref h0), (1, .int x0)] := hl
  have hS : va_S A s.heap s.heap [] := va_S.rf
  obtain ⟨H, hHe⟩ : ∃ H, H = s.heap := ⟨_, rfl⟩
  obtain ⟨locs, hLe⟩ : ∃ locs : List Loc, locs = [] := ⟨_, rfl⟩
  have hP : va_P g.1 vwCl [(h0, .inr (5, [.ref a1, .ref a2, .ref a3, .ref a4, .ref a5, .ref a6, .ref a7, .ref a8, .long sd])), (a1, .inr (1, [.ref b1])), (b1, .inl (gJ g, 3, .inr (.inl f))), (a5, .inr (0, [.ref c1, .ref c2, .int (nI an)])), (c1, .inl (gI g, 14, .inl fc)), (c2, .inl (gJ g, 14, .inr (.inl fb)))] H := by rw [hHe]; exact hP
  have hS : va_S A s.heap H locs := by rw [hHe, hLe]; exact hS
  have hgo : W p l e ({ frames := 3, cells := 0, slots := 0, locals := 67 } : Room) s m ([.ref h0, .int x0] : List Value).toArray below meth c H locs 0 0 (MQ below (QAi g (fun (r : Int32) (u : Unit) => r = qFl f x0) (fun (u : Unit) => [(h0, .inr (5, [.ref a1, .ref a2, .ref a3, .ref a4, .ref a5, .ref a6, .ref a7, .ref a8, .long sd])), (a1, .inr (1, [.ref b1])), (b1, .inl (gJ g, 3, .inr (.inl (cond (isPic x0) (setS f x0 (flS (picS f x0))) f)))), (a5, .inr (0, [.ref c1, .ref c2, .int (nI (cond (isPic x0) (acN an) an))])), (c1, .inl (gI g, 14, .inl (cond (isPic x0) (acF an fc x0) fc))), (c2, .inl (gJ g, 14, .inr (.inl (cond (isPic x0) (acL an fb (picS f x0)) fb))))]) A) ([.ref h0, .int x0] : List Value).toArray s 0 0 A) (F0 m 0 ls []) := ?_
  · rw [hHe, hLe] at hgo; exact hgo
  clear hHe hLe
  refine lv_iload_n hx hb dX6_flip_0 rfl (lv_at hl 1 rfl) ?_
  refine cS_i (As := [.int x0]) (rest := []) hx hb hml hown hw hkn hS hl (c_X6_isPicture l g _ x0 ) sf_X6_isPicture mw_207 ⟨(Nat.le_of_ble_eq_true rfl), (Nat.le_of_ble_eq_true rfl)⟩ rfl rfl rfl rfl (Nat.le_of_ble_eq_true rfl) dX6_flip_1 ⟨(Nat.le_of_ble_eq_true rfl), (Nat.le_of_ble_eq_true rfl)⟩ ?_
  refine lv_ifneB (b := isPic x0) (tgt := 9) hx hb dX6_flip_4 (by decide) (fun c_1 => ?_) (fun c_1 => ?_)
  · skip
    refine lv_aload_n hx hb dX6_flip_9 rfl (lv_at hl 0 rfl) ?_
    refine lv_iload_n hx hb dX6_flip_10 rfl (lv_at hl 1 rfl) ?_
    refine lv_aload_n hx hb dX6_flip_11 rfl (lv_at hl 0 rfl) ?_
    refine va_get (D := g.1) (ci := 5) (v := .ref a1) (C := RX6) (T := TX6) (N := 9) hx hb hw inlX6 hown hkn.1 hP 0 rfl rfl 0 (by decide) (hw _ mw_16) (fun _ h9 => h9) rfl dX6_flip_12 ?_
    refine lv_iload_n hx hb dX6_flip_15 rfl (lv_at hl 1 rfl) ?_
    refine cV_l (As := [.int x0]) (rest := [.int x0, .ref h0]) hx hb hml hown hw hkn hS hl (c_X1_cells l g _ a1 x0 b1 f  (hP.sub [1, 2] rfl)) vf_X1_cells mw_218 (va_recv hkn.1 hP (ci := 1) (q0 := 1) rfl rfl) ⟨(Nat.le_of_ble_eq_true rfl), (Nat.le_of_ble_eq_true rfl)⟩ rfl rfl rfl rfl (Nat.le_of_ble_eq_true rfl) dX6_flip_16 ⟨(Nat.le_of_ble_eq_true rfl), (Nat.le_of_ble_eq_true rfl)⟩ ?_
    refine cS_l (As := [.long (picS f x0)]) (rest := [.int x0, .ref h0]) hx hb hml hown hw hkn hS hl (c_X2_flipped l g _ (picS f x0) ) sf_X2_flipped mw_329 ⟨(Nat.le_of_ble_eq_true rfl), (Nat.le_of_ble_eq_true rfl)⟩ rfl rfl rfl rfl (Nat.le_of_ble_eq_true rfl) dX6_flip_19 ⟨(Nat.le_of_ble_eq_true rfl), (Nat.le_of_ble_eq_true rfl)⟩ ?_
    refine cVM_l (As := [.int x0, .long (flS (picS f x0))]) (rest := []) (q0 := 0) (wc := [(h0, .inr (5, [.ref a1, .ref a2, .ref a3, .ref a4, .ref a5, .ref a6, .ref a7, .ref a8, .long sd])), (a1, .inr (1, [.ref b1])), (b1, .inl (gJ g, 3, .inr (.inl f))), (a5, .inr (0, [.ref c1, .ref c2, .int (nI an)])), (c1, .inl (gI g, 14, .inl fc)), (c2, .inl (gJ g, 14, .inr (.inl fb)))]) (wr := []) hx hb hml hown hw hkn hS hl hA hP hD [0, 1, 2, 3, 4, 5] [] rfl rfl (by decide) (by decide) (by decide) (c_X6_change l g _ h0 x0 (flS (picS f x0)) a1 a2 a3 a4 a5 a6 a7 a8 sd b1 f c1 c2 an fc fb (by omega)) vf_X6_change mw_214 rfl rfl ⟨(Nat.le_of_ble_eq_true rfl), (Nat.le_of_ble_eq_true rfl)⟩ rfl rfl rfl rfl (Nat.le_of_ble_eq_true rfl) dX6_flip_22 ⟨(Nat.le_of_ble_eq_true rfl), (Nat.le_of_ble_eq_true rfl)⟩ (fun r u H locs hq hP hD hS => ?_)
    have hq : r = (flS (picS f x0)) := hq
    subst hq
    have hP : va_P g.1 vwCl [(h0, .inr (5, [.ref a1, .ref a2, .ref a3, .ref a4, .ref a5, .ref a6, .ref a7, .ref a8, .long sd])), (a1, .inr (1, [.ref b1])), (b1, .inl (gJ g, 3, .inr (.inl (setS f x0 (flS (picS f x0)))))), (a5, .inr (0, [.ref c1, .ref c2, .int (nI (acN an))])), (c1, .inl (gI g, 14, .inl (acF an fc x0))), (c2, .inl (gJ g, 14, .inr (.inl (acL an fb (picS f x0)))))] H := hP.sub [0, 1, 2, 3, 4, 5] rfl
    have hD : va_D A [(h0, .inr (5, [.ref a1, .ref a2, .ref a3, .ref a4, .ref a5, .ref a6, .ref a7, .ref a8, .long sd])), (a1, .inr (1, [.ref b1])), (b1, .inl (gJ g, 3, .inr (.inl (setS f x0 (flS (picS f x0)))))), (a5, .inr (0, [.ref c1, .ref c2, .int (nI (acN an))])), (c1, .inl (gI g, 14, .inl (acF an fc x0))), (c2, .inl (gJ g, 14, .inr (.inl (acL an fb (picS f x0)))))] := hD.sub [0, 1, 2, 3, 4, 5] (by decide) rfl
    refine cS_i (As := [.long (flS (picS f x0))]) (rest := []) hx hb hml hown hw hkn hS hl (c_X2_lowestRow l g _ (flS (picS f x0)) ) sf_X2_lowestRow mw_310 ⟨(Nat.le_of_ble_eq_true rfl), (Nat.le_of_ble_eq_true rfl)⟩ rfl rfl rfl rfl (Nat.le_of_ble_eq_true rfl) dX6_flip_25 ⟨(Nat.le_of_ble_eq_true rfl), (Nat.le_of_ble_eq_true rfl)⟩ ?_
    have eb : isPic x0 = true := by simp [cbB, scB, c_1]
    exact eM_i (g := g) hx hb hr hlocks () (by unfold qFl; rw [if_pos c_1]) (show va_P g.1 vwCl [(h0, .inr (5, [.ref a1, .ref a2, .ref a3, .ref a4, .ref a5, .ref a6, .ref a7, .ref a8, .long sd])), (a1, .inr (1, [.ref b1])), (b1, .inl (gJ g, 3, .inr (.inl (cond (isPic x0) (setS f x0 (flS (picS f x0))) f)))), (a5, .inr (0, [.ref c1, .ref c2, .int (nI (cond (isPic x0) (acN an) an))])), (c1, .inl (gI g, 14, .inl (cond (isPic x0) (acF an fc x0) fc))), (c2, .inl (gJ g, 14, .inr (.inl (cond (isPic x0) (acL an fb (picS f x0)) fb))))] H by rw [eb]; exact hP.sub [0, 1, 2, 3, 4, 5] rfl) (show va_D A [(h0, .inr (5, [.ref a1, .ref a2, .ref a3, .ref a4, .ref a5, .ref a6, .ref a7, .ref a8, .long sd])), (a1, .inr (1, [.ref b1])), (b1, .inl (gJ g, 3, .inr (.inl (cond (isPic x0) (setS f x0 (flS (picS f x0))) f)))), (a5, .inr (0, [.ref c1, .ref c2, .int (nI (cond (isPic x0) (acN an) an))])), (c1, .inl (gI g, 14, .inl (cond (isPic x0) (acF an fc x0) fc))), (c2, .inl (gJ g, 14, .inr (.inl (cond (isPic x0) (acL an fb (picS f x0)) fb))))] by rw [eb]; exact hD.sub [0, 1, 2, 3, 4, 5] (by decide) rfl) hS dX6_flip_28
  · skip
    refine lv_iconst (v := (-1)) hx hb dX6_flip_7 (by decide) ?_
    have eb : isPic x0 = false := by simp [cbB, scB, c_1]
    exact eM_i (g := g) hx hb hr hlocks () (by unfold qFl; rw [if_neg (nt_of c_1)]) (show va_P g.1 vwCl [(h0, .inr (5, [.ref a1, .ref a2, .ref a3, .ref a4, .ref a5, .ref a6, .ref a7, .ref a8, .long sd])), (a1, .inr (1, [.ref b1])), (b1, .inl (gJ g, 3, .inr (.inl (cond (isPic x0) (setS f x0 (flS (picS f x0))) f)))), (a5, .inr (0, [.ref c1, .ref c2, .int (nI (cond (isPic x0) (acN an) an))])), (c1, .inl (gI g, 14, .inl (cond (isPic x0) (acF an fc x0) fc))), (c2, .inl (gJ g, 14, .inr (.inl (cond (isPic x0) (acL an fb (picS f x0)) fb))))] H by rw [eb]; exact hP.sub [0, 1, 2, 3, 4, 5] rfl) (show va_D A [(h0, .inr (5, [.ref a1, .ref a2, .ref a3, .ref a4, .ref a5, .ref a6, .ref a7, .ref a8, .long sd])), (a1, .inr (1, [.ref b1])), (b1, .inl (gJ g, 3, .inr (.inl (cond (isPic x0) (setS f x0 (flS (picS f x0))) f)))), (a5, .inr (0, [.ref c1, .ref c2, .int (nI (cond (isPic x0) (acN an) an))])), (c1, .inl (gI g, 14, .inl (cond (isPic x0) (acF an fc x0) fc))), (c2, .inl (gJ g, 14, .inr (.inl (cond (isPic x0) (acL an fb (picS f x0)) fb))))] by rw [eb]; exact hD.sub [0, 1, 2, 3, 4, 5] (by decide) rfl) hS dX6_flip_8
set_option maxHeartbeats 4000000 in
set_option maxRecDepth 100000 in
theorem c_X6_halve (l : Launch) (g : GG) (sz : Nat) (h0 : Nat) (x0 : Int32) (q0 : Int32) (a1 : Nat) (a2 : Nat) (a3 : Nat) (a4 : Nat) (a5 : Nat) (a6 : Nat) (a7 : Nat) (a8 : Nat) (sd : Int64) (b1 : Nat) (f : Nat → Int64) (c1 : Nat) (c2 : Nat) (an : Nat) (fc : Nat → Int32) (fb : Nat → Int64) (han : an ≤ 14) : Met l yX6_halve (Cond.code yX6_halve cX6_halve 3 (some .int) :: wsL_law) ({ frames := 3, cells := 0, slots := 0, locals := 67 }) (PM g [.ref h0, .int x0, .int q0] [(h0, .inr (5, [.ref a1, .ref a2, .ref a3, .ref a4, .ref a5, .ref a6, .ref a7, .ref a8, .long sd])), (a1, .inr (1, [.ref b1])), (b1, .inl (gJ g, 3, .inr (.inl f))), (a5, .inr (0, [.ref c1, .ref c2, .int (nI an)])), (c1, .inl (gI g, 14, .inl fc)), (c2, .inl (gJ g, 14, .inr (.inl fb)))] sz) (QAi g (fun (r : Int32) (u : Unit) => r = qHa f x0 q0) (fun (u : Unit) => [(h0, .inr (5, [.ref a1, .ref a2, .ref a3, .ref a4, .ref a5, .ref a6, .ref a7, .ref a8, .long sd])), (a1, .inr (1, [.ref b1])), (b1, .inl (gJ g, 3, .inr (.inl (cond (scB x0 q0) (setS f x0 (haS (picS f x0) q0.toNatClampNeg)) f)))), (a5, .inr (0, [.ref c1, .ref c2, .int (nI (cond (scB x0 q0) (acN an) an))])), (c1, .inl (gI g, 14, .inl (cond (scB x0 q0) (acF an fc x0) fc))), (c2, .inl (gJ g, 14, .inr (.inl (cond (scB x0 q0) (acL an fb (picS f x0)) fb))))]) (va_A [(h0, .inr (5, [.ref a1, .ref a2, .ref a3, .ref a4, .ref a5, .ref a6, .ref a7, .ref a8, .long sd])), (a1, .inr (1, [.ref b1])), (b1, .inl (gJ g, 3, .inr (.inl f))), (a5, .inr (0, [.ref c1, .ref c2, .int (nI an)])), (c1, .inl (gI g, 14, .inl fc)), (c2, .inl (gJ g, 14, .inr (.inl fb)))] sz)) 0 0 (va_A [(h0, .inr (5, [.ref a1, .ref a2, .ref a3, .ref a4, .ref a5, .ref a6, .ref a7, .ref a8, .long sd])), (a1, .inr (1, [.ref b1])), (b1, .inl (gJ g, 3, .inr (.inl f))), (a5, .inr (0, [.ref c1, .ref c2, .int (nI an)])), (c1, .inl (gI g, 14, .inl fc)), (c2, .inl (gJ g, 14, .inr (.inl fb)))] sz) := by
  refine Met.M (Qc := fun A => QAi g (fun (r : Int32) (u : Unit) => r = qHa f x0 q0) (fun (u : Unit) => [(h0, .inr (5, [.ref a1, .ref a2, .ref a3, .ref a4, .ref a5, .ref a6, .ref a7, .ref a8, .long sd])), (a1, .inr (1, [.ref b1])), (b1, .inl (gJ g, 3, .inr (.inl (cond (scB x0 q0) (setS f x0 (haS (picS f x0) q0.toNatClampNeg)) f)))), (a5, .inr (0, [.ref c1, .ref c2, .int (nI (cond (scB x0 q0) (acN an) an))])), (c1, .inl (gI g, 14, .inl (cond (scB x0 q0) (acF an fc x0) fc))), (c2, .inl (gJ g, 14, .inr (.inl (cond (scB x0 q0) (acL an fb (picS f x0)) fb))))]) A) (by decide) (Nat.le_of_ble_eq_true rfl) rfl ?_
  intro p e s m below meth c hx hb hr hml hw hown hlocks hin A hA hkn hP hD ls hl
  have hl : lv_has ls 3 [(0, .ref h0), (1, .int x0), (2, .int q0)] := hl
  have hS : va_S A s.heap s.heap [] := va_S.rf
  obtain ⟨H, hHe⟩ : ∃ H, H = s.heap := ⟨_, rfl⟩
  obtain ⟨locs, hLe⟩ : ∃ locs : List Loc, locs = [] := ⟨_, rfl⟩
  have hP : va_P g.1 vwCl [(h0, .inr (5, [.ref a1, .ref a2, .ref a3, .ref a4, .ref a5, .ref a6, .ref a7, .ref a8, .long sd])), (a1, .inr (1, [.ref b1])), (b1, .inl (gJ g, 3, .inr (.inl f))), (a5, .inr (0, [.ref c1, .ref c2, .int (nI an)])), (c1, .inl (gI g, 14, .inl fc)), (c2, .inl (gJ g, 14, .inr (.inl fb)))] H := by rw [hHe]; exact hP
  have hS : va_S A s.heap H locs := by rw [hHe, hLe]; exact hS
  have hgo : W p l e ({ frames := 3, cells := 0, slots := 0, locals := 67 } : Room) s m ([.ref h0, .int x0, .int q0] : List Value).toArray below meth c H locs 0 0 (MQ below (QAi g (fun (r : Int32) (u : Unit) => r = qHa f x0 q0) (fun (u : Unit) => [(h0, .inr (5, [.ref a1, .ref a2, .ref a3, .ref a4, .ref a5, .ref a6, .ref a7, .ref a8, .long sd])), (a1, .inr (1, [.ref b1])), (b1, .inl (gJ g, 3, .inr (.inl (cond (scB x0 q0) (setS f x0 (haS (picS f x0) q0.toNatClampNeg)) f)))), (a5, .inr (0, [.ref c1, .ref c2, .int (nI (cond (scB x0 q0) (acN an) an))])), (c1, .inl (gI g, 14, .inl (cond (scB x0 q0) (acF an fc x0) fc))), (c2, .inl (gJ g, 14, .inr (.inl (cond (scB x0 q0) (acL an fb (picS f x0)) fb))))]) A) ([.ref h0, .int x0, .int q0] : List Value).toArray s 0 0 A) (F0 m 0 ls []) := ?_
  · rw [hHe, hLe] at hgo; exact hgo
  clear hHe hLe
  refine lv_iload_n hx hb dX6_halve_0 rfl (lv_at hl 1 rfl) ?_
  refine cS_i (As := [.int x0]) (rest := []) hx hb hml hown hw hkn hS hl (c_X6_isPicture l g _ x0 ) sf_X6_isPicture mw_207 ⟨(Nat.le_of_ble_eq_true rfl), (Nat.le_of_ble_eq_true rfl)⟩ rfl rfl rfl rfl (Nat.le_of_ble_eq_true rfl) dX6_halve_1 ⟨(Nat.le_of_ble_eq_true rfl), (Nat.le_of_ble_eq_true rfl)⟩ ?_
  refine lv_ifeqB (b := isPic x0) (tgt := 14) hx hb dX6_halve_4 (by decide) (fun c_1 => ?_) (fun c_1 => ?_)
  · skip
    refine lv_iconst (v := (-1)) hx hb dX6_halve_14 (by decide) ?_
    have eb : scB x0 q0 = false := by simp [scB, c_1]
    exact eM_i (g := g) hx hb hr hlocks () (by unfold qHa; rw [if_neg (nt_of c_1)]) (show va_P g.1 vwCl [(h0, .inr (5, [.ref a1, .ref a2, .ref a3, .ref a4, .ref a5, .ref a6, .ref a7, .ref a8, .long sd])), (a1, .inr (1, [.ref b1])), (b1, .inl (gJ g, 3, .inr (.inl (cond (scB x0 q0) (setS f x0 (haS (picS f x0) q0.toNatClampNeg)) f)))), (a5, .inr (0, [.ref c1, .ref c2, .int (nI (cond (scB x0 q0) (acN an) an))])), (c1, .inl (gI g, 14, .inl (cond (scB x0 q0) (acF an fc x0) fc))), (c2, .inl (gJ g, 14, .inr (.inl (cond (scB x0 q0) (acL an fb (picS f x0)) fb))))] H by rw [eb]; exact hP.sub [0, 1, 2, 3, 4, 5] rfl) (show va_D A [(h0, .inr (5, [.ref a1, .ref a2, .ref a3, .ref a4, .ref a5, .ref a6, .ref a7, .ref a8, .long sd])), (a1, .inr (1, [.ref b1])), (b1, .inl (gJ g, 3, .inr (.inl (cond (scB x0 q0) (setS f x0 (haS (picS f x0) q0.toNatClampNeg)) f)))), (a5, .inr (0, [.ref c1, .ref c2, .int (nI (cond (scB x0 q0) (acN an) an))])), (c1, .inl (gI g, 14, .inl (cond (scB x0 q0) (acF an fc x0) fc))), (c2, .inl (gJ g, 14, .inr (.inl (cond (scB x0 q0) (acL an fb (picS f x0)) fb))))] by rw [eb]; exact hD.sub [0, 1, 2, 3, 4, 5] (by decide) rfl) hS dX6_halve_15
  · skip
    refine lv_iload_n hx hb dX6_halve_7 rfl (lv_at hl 2 rfl) ?_
    refine cS_i (As := [.int q0]) (rest := []) hx hb hml hown hw hkn hS hl (c_X6_isQuarter l g _ q0 ) sf_X6_isQuarter mw_343 ⟨(Nat.le_of_ble_eq_true rfl), (Nat.le_of_ble_eq_true rfl)⟩ rfl rfl rfl rfl (Nat.le_of_ble_eq_true rfl) dX6_halve_8 ⟨(Nat.le_of_ble_eq_true rfl), (Nat.le_of_ble_eq_true rfl)⟩ ?_
    refine lv_ifneB (b := isQua q0) (tgt := 16) hx hb dX6_halve_11 (by decide) (fun c_2 => ?_) (fun c_2 => ?_)
    · skip
      obtain ⟨q9, hq9, eq9⟩ := isQua_of c_2
      refine lv_aload_n hx hb dX6_halve_16 rfl (lv_at hl 0 rfl) ?_
      refine lv_iload_n hx hb dX6_halve_17 rfl (lv_at hl 1 rfl) ?_
      refine lv_aload_n hx hb dX6_halve_18 rfl (lv_at hl 0 rfl) ?_
      refine va_get (D := g.1) (ci := 5) (v := .ref a1) (C := RX6) (T := TX6) (N := 9) hx hb hw inlX6 hown hkn.1 hP 0 rfl rfl 0 (by decide) (hw _ mw_16) (fun _ h9 => h9) rfl dX6_halve_19 ?_
      refine lv_iload_n hx hb dX6_halve_22 rfl (lv_at hl 1 rfl) ?_
      refine cV_l (As := [.int x0]) (rest := [.int x0, .ref h0]) hx hb hml hown hw hkn hS hl (c_X1_cells l g _ a1 x0 b1 f  (hP.sub [1, 2] rfl)) vf_X1_cells mw_218 (va_recv hkn.1 hP (ci := 1) (q0 := 1) rfl rfl) ⟨(Nat.le_of_ble_eq_true rfl), (Nat.le_of_ble_eq_true rfl)⟩ rfl rfl rfl rfl (Nat.le_of_ble_eq_true rfl) dX6_halve_23 ⟨(Nat.le_of_ble_eq_true rfl), (Nat.le_of_ble_eq_true rfl)⟩ ?_
      refine lv_iload_n hx hb dX6_halve_26 rfl (lv_at hl 2 rfl) ?_
      refine lv_eqi (show _ = (nI q9) from eq9) ?_
      refine cS_l (As := [.long (picS f x0), .int (nI q9)]) (rest := [.int x0, .ref h0]) hx hb hml hown hw hkn hS hl (c_X2_halved l g _ (picS f x0) q9 (by omega)) sf_X2_halved mw_346 ⟨(Nat.le_of_ble_eq_true rfl), (Nat.le_of_ble_eq_true rfl)⟩ rfl rfl rfl rfl (Nat.le_of_ble_eq_true rfl) dX6_halve_27 ⟨(Nat.le_of_ble_eq_true rfl), (Nat.le_of_ble_eq_true rfl)⟩ ?_
      refine cVM_l (As := [.int x0, .long (haS (picS f x0) q9)]) (rest := []) (q0 := 0) (wc := [(h0, .inr (5, [.ref a1, .ref a2, .ref a3, .ref a4, .ref a5, .ref a6, .ref a7, .ref a8, .long sd])), (a1, .inr (1, [.ref b1])), (b1, .inl (gJ g, 3, .inr (.inl f))), (a5, .inr (0, [.ref c1, .ref c2, .int (nI an)])), (c1, .inl (gI g, 14, .inl fc)), (c2, .inl (gJ g, 14, .inr (.inl fb)))]) (wr := []) hx hb hml hown hw hkn hS hl hA hP hD [0, 1, 2, 3, 4, 5] [] rfl rfl (by decide) (by decide) (by decide) (c_X6_change l g _ h0 x0 (haS (picS f x0) q9) a1 a2 a3 a4 a5 a6 a7 a8 sd b1 f c1 c2 an fc fb (by omega)) vf_X6_change mw_214 rfl rfl ⟨(Nat.le_of_ble_eq_true rfl), (Nat.le_of_ble_eq_true rfl)⟩ rfl rfl rfl rfl (Nat.le_of_ble_eq_true rfl) dX6_halve_30 ⟨(Nat.le_of_ble_eq_true rfl), (Nat.le_of_ble_eq_true rfl)⟩ (fun r u H locs hq hP hD hS => ?_)
      have hq : r = (haS (picS f x0) q9) := hq
      subst hq
      have hP : va_P g.1 vwCl [(h0, .inr (5, [.ref a1, .ref a2, .ref a3, .ref a4, .ref a5, .ref a6, .ref a7, .ref a8, .long sd])), (a1, .inr (1, [.ref b1])), (b1, .inl (gJ g, 3, .inr (.inl (setS f x0 (haS (picS f x0) q9))))), (a5, .inr (0, [.ref c1, .ref c2, .int (nI (acN an))])), (c1, .inl (gI g, 14, .inl (acF an fc x0))), (c2, .inl (gJ g, 14, .inr (.inl (acL an fb (picS f x0)))))] H := hP.sub [0, 1, 2, 3, 4, 5] rfl
      have hD : va_D A [(h0, .inr (5, [.ref a1, .ref a2, .ref a3, .ref a4, .ref a5, .ref a6, .ref a7, .ref a8, .long sd])), (a1, .inr (1, [.ref b1])), (b1, .inl (gJ g, 3, .inr (.inl (setS f x0 (haS (picS f x0) q9))))), (a5, .inr (0, [.ref c1, .ref c2, .int (nI (acN an))])), (c1, .inl (gI g, 14, .inl (acF an fc x0))), (c2, .inl (gJ g, 14, .inr (.inl (acL an fb (picS f x0)))))] := hD.sub [0, 1, 2, 3, 4, 5] (by decide) rfl
      refine cS_i (As := [.long (haS (picS f x0) q9)]) (rest := []) hx hb hml hown hw hkn hS hl (c_J13_bitCount l g _ (haS (picS f x0) q9) ) sf_J13_bitCount_95d88 mw_234 ⟨(Nat.le_of_ble_eq_true rfl), (Nat.le_of_ble_eq_true rfl)⟩ rfl rfl rfl rfl (Nat.le_of_ble_eq_true rfl) dX6_halve_33 ⟨(Nat.le_of_ble_eq_true rfl), (Nat.le_of_ble_eq_true rfl)⟩ ?_
      have eb : scB x0 q0 = true := by simp [scB, c_1, c_2]
      have eq8 : q0.toNatClampNeg = q9 := by rw [eq9, nI_clamp (by omega)]
      exact eM_i (g := g) hx hb hr hlocks () (by unfold qHa; rw [if_pos c_1, if_pos c_2, eq8]) (show va_P g.1 vwCl [(h0, .inr (5, [.ref a1, .ref a2, .ref a3, .ref a4, .ref a5, .ref a6, .ref a7, .ref a8, .long sd])), (a1, .inr (1, [.ref b1])), (b1, .inl (gJ g, 3, .inr (.inl (cond (scB x0 q0) (setS f x0 (haS (picS f x0) q0.toNatClampNeg)) f)))), (a5, .inr (0, [.ref c1, .ref c2, .int (nI (cond (scB x0 q0) (acN an) an))])), (c1, .inl (gI g, 14, .inl (cond (scB x0 q0) (acF an fc x0) fc))), (c2, .inl (gJ g, 14, .inr (.inl (cond (scB x0 q0) (acL an fb (picS f x0)) fb))))] H by rw [eb, eq8]; exact hP.sub [0, 1, 2, 3, 4, 5] rfl) (show va_D A [(h0, .inr (5, [.ref a1, .ref a2, .ref a3, .ref a4, .ref a5, .ref a6, .ref a7, .ref a8, .long sd])), (a1, .inr (1, [.ref b1])), (b1, .inl (gJ g, 3, .inr (.inl (cond (scB x0 q0) (setS f x0 (haS (picS f x0) q0.toNatClampNeg)) f)))), (a5, .inr (0, [.ref c1, .ref c2, .int (nI (cond (scB x0 q0) (acN an) an))])), (c1, .inl (gI g, 14, .inl (cond (scB x0 q0) (acF an fc x0) fc))), (c2, .inl (gJ g, 14, .inr (.inl (cond (scB x0 q0) (acL an fb (picS f x0)) fb))))] by rw [eb, eq8]; exact hD.sub [0, 1, 2, 3, 4, 5] (by decide) rfl) hS dX6_halve_36
    · skip
      refine lv_iconst (v := (-1)) hx hb dX6_halve_14 (by decide) ?_
      have eb : scB x0 q0 = false := by simp [scB, c_1, c_2]
      exact eM_i (g := g) hx hb hr hlocks () (by unfold qHa; rw [if_pos c_1, if_neg (nt_of c_2)]) (show va_P g.1 vwCl [(h0, .inr (5, [.ref a1, .ref a2, .ref a3, .ref a4, .ref a5, .ref a6, .ref a7, .ref a8, .long sd])), (a1, .inr (1, [.ref b1])), (b1, .inl (gJ g, 3, .inr (.inl (cond (scB x0 q0) (setS f x0 (haS (picS f x0) q0.toNatClampNeg)) f)))), (a5, .inr (0, [.ref c1, .ref c2, .int (nI (cond (scB x0 q0) (acN an) an))])), (c1, .inl (gI g, 14, .inl (cond (scB x0 q0) (acF an fc x0) fc))), (c2, .inl (gJ g, 14, .inr (.inl (cond (scB x0 q0) (acL an fb (picS f x0)) fb))))] H by rw [eb]; exact hP.sub [0, 1, 2, 3, 4, 5] rfl) (show va_D A [(h0, .inr (5, [.ref a1, .ref a2, .ref a3, .ref a4, .ref a5, .ref a6, .ref a7, .ref a8, .long sd])), (a1, .inr (1, [.ref b1])), (b1, .inl (gJ g, 3, .inr (.inl (cond (scB x0 q0) (setS f x0 (haS (picS f x0) q0.toNatClampNeg)) f)))), (a5, .inr (0, [.ref c1, .ref c2, .int (nI (cond (scB x0 q0) (acN an) an))])), (c1, .inl (gI g, 14, .inl (cond (scB x0 q0) (acF an fc x0) fc))), (c2, .inl (gJ g, 14, .inr (.inl (cond (scB x0 q0) (acL an fb (picS f x0)) fb))))] by rw [eb]; exact hD.sub [0, 1, 2, 3, 4, 5] (by decide) rfl) hS dX6_halve_15
set_option maxHeartbeats 4000000 in
set_option maxRecDepth 100000 in
theorem c_X6_grow (l : Launch) (g : GG) (sz : Nat) (h0 : Nat) (x0 : Int32) (q0 : Int32) (a1 : Nat) (a2 : Nat) (a3 : Nat) (a4 : Nat) (a5 : Nat) (a6 : Nat) (a7 : Nat) (a8 : Nat) (sd : Int64) (b1 : Nat) (f : Nat → Int64) (c1 : Nat) (c2 : Nat) (an : Nat) (fc : Nat → Int32) (fb : Nat → Int64) (han : an ≤ 14) : Met l yX6_grow (Cond.code yX6_grow cX6_grow 3 (some .int) :: wsL_law) ({ frames := 3, cells := 0, slots := 0, locals := 67 }) (PM g [.ref h0, .int x0, .int q0] [(h0, .inr (5, [.ref a1, .ref a2, .ref a3, .ref a4, .ref a5, .ref a6, .ref a7, .ref a8, .long sd])), (a1, .inr (1, [.ref b1])), (b1, .inl (gJ g, 3, .inr (.inl f))), (a5, .inr (0, [.ref c1, .ref c2, .int (nI an)])), (c1, .inl (gI g, 14, .inl fc)), (c2, .inl (gJ g, 14, .inr (.inl fb)))] sz) (QAi g (fun (r : Int32) (u : Unit) => r = qGr f x0 q0) (fun (u : Unit) => [(h0, .inr (5, [.ref a1, .ref a2, .ref a3, .ref a4, .ref a5, .ref a6, .ref a7, .ref a8, .long sd])), (a1, .inr (1, [.ref b1])), (b1, .inl (gJ g, 3, .inr (.inl (cond (scB x0 q0) (setS f x0 (grnS (picS f x0) q0.toNatClampNeg)) f)))), (a5, .inr (0, [.ref c1, .ref c2, .int (nI (cond (scB x0 q0) (acN an) an))])), (c1, .inl (gI g, 14, .inl (cond (scB x0 q0) (acF an fc x0) fc))), (c2, .inl (gJ g, 14, .inr (.inl (cond (scB x0 q0) (acL an fb (picS f x0)) fb))))]) (va_A [(h0, .inr (5, [.ref a1, .ref a2, .ref a3, .ref a4, .ref a5, .ref a6, .ref a7, .ref a8, .long sd])), (a1, .inr (1, [.ref b1])), (b1, .inl (gJ g, 3, .inr (.inl f))), (a5, .inr (0, [.ref c1, .ref c2, .int (nI an)])), (c1, .inl (gI g, 14, .inl fc)), (c2, .inl (gJ g, 14, .inr (.inl fb)))] sz)) 0 0 (va_A [(h0, .inr (5, [.ref a1, .ref a2, .ref a3, .ref a4, .ref a5, .ref a6, .ref a7, .ref a8, .long sd])), (a1, .inr (1, [.ref b1])), (b1, .inl (gJ g, 3, .inr (.inl f))), (a5, .inr (0, [.ref c1, .ref c2, .int (nI an)])), (c1, .inl (gI g, 14, .inl fc)), (c2, .inl (gJ g, 14, .inr (.inl fb)))] sz) := by
  refine Met.M (Qc := fun A => QAi g (fun (r : Int32) (u : Unit) => r = qGr f x0 q0) (fun (u : Unit) => [(h0, .inr (5, [.ref a1, .ref a2, .ref a3, .ref a4, .ref a5, .ref a6, .ref a7, .ref a8, .long sd])), (a1, .inr (1, [.ref b1])), (b1, .inl (gJ g, 3, .inr (.inl (cond (scB x0 q0) (setS f x0 (grnS (picS f x0) q0.toNatClampNeg)) f)))), (a5, .inr (0, [.ref c1, .ref c2, .int (nI (cond (scB x0 q0) (acN an) an))])), (c1, .inl (gI g, 14, .inl (cond (scB x0 q0) (acF an fc x0) fc))), (c2, .inl (gJ g, 14, .inr (.inl (cond (scB x0 q0) (acL an fb (picS f x0)) fb))))]) A) (by decide) (Nat.le_of_ble_eq_true rfl) rfl ?_
  intro p e s m below meth c hx hb hr hml hw hown hlocks hin A hA hkn hP hD ls hl
  have hl : lv_has ls 3 [(0, .ref h0), (1, .int x0), (2, .int q0)] := hl
  have hS : va_S A s.heap s.heap [] := va_S.rf
  obtain ⟨H, hHe⟩ : ∃ H, H = s.heap := ⟨_, rfl⟩
  obtain ⟨locs, hLe⟩ : ∃ locs : List Loc, locs = [] := ⟨_, rfl⟩
  have hP : va_P g.1 vwCl [(h0, .inr (5, [.ref a1, .ref a2, .ref a3, .ref a4, .ref a5, .ref a6, .ref a7, .ref a8, .long sd])), (a1, .inr (1, [.ref b1])), (b1, .inl (gJ g, 3, .inr (.inl f))), (a5, .inr (0, [.ref c1, .ref c2, .int (nI an)])), (c1, .inl (gI g, 14, .inl fc)), (c2, .inl (gJ g, 14, .inr (.inl fb)))] H := by rw [hHe]; exact hP
  have hS : va_S A s.heap H locs := by rw [hHe, hLe]; exact hS
  have hgo : W p l e ({ frames := 3, cells := 0, slots := 0, locals := 67 } : Room) s m ([.ref h0, .int x0, .int q0] : List Value).toArray below meth c H locs 0 0 (MQ below (QAi g (fun (r : Int32) (u : Unit) => r = qGr f x0 q0) (fun (u : Unit) => [(h0, .inr (5, [.ref a1, .ref a2, .ref a3, .ref a4, .ref a5, .ref a6, .ref a7, .ref a8, .long sd])), (a1, .inr (1, [.ref b1])), (b1, .inl (gJ g, 3, .inr (.inl (cond (scB x0 q0) (setS f x0 (grnS (picS f x0) q0.toNatClampNeg)) f)))), (a5, .inr (0, [.ref c1, .ref c2, .int (nI (cond (scB x0 q0) (acN an) an))])), (c1, .inl (gI g, 14, .inl (cond (scB x0 q0) (acF an fc x0) fc))), (c2, .inl (gJ g, 14, .inr (.inl (cond (scB x0 q0) (acL an fb (picS f x0)) fb))))]) A) ([.ref h0, .int x0, .int q0] : List Value).toArray s 0 0 A) (F0 m 0 ls []) := ?_
  · rw [hHe, hLe] at hgo; exact hgo
  clear hHe hLe
  refine lv_iload_n hx hb dX6_grow_0 rfl (lv_at hl 1 rfl) ?_
  refine cS_i (As := [.int x0]) (rest := []) hx hb hml hown hw hkn hS hl (c_X6_isPicture l g _ x0 ) sf_X6_isPicture mw_207 ⟨(Nat.le_of_ble_eq_true rfl), (Nat.le_of_ble_eq_true rfl)⟩ rfl rfl rfl rfl (Nat.le_of_ble_eq_true rfl) dX6_grow_1 ⟨(Nat.le_of_ble_eq_true rfl), (Nat.le_of_ble_eq_true rfl)⟩ ?_
  refine lv_ifeqB (b := isPic x0) (tgt := 14) hx hb dX6_grow_4 (by decide) (fun c_1 => ?_) (fun c_1 => ?_)
  · skip
    refine lv_iconst (v := (-1)) hx hb dX6_grow_14 (by decide) ?_
    have eb : scB x0 q0 = false := by simp [scB, c_1]
    exact eM_i (g := g) hx hb hr hlocks () (by unfold qGr; rw [if_neg (nt_of c_1)]) (show va_P g.1 vwCl [(h0, .inr (5, [.ref a1, .ref a2, .ref a3, .ref a4, .ref a5, .ref a6, .ref a7, .ref a8, .long sd])), (a1, .inr (1, [.ref b1])), (b1, .inl (gJ g, 3, .inr (.inl (cond (scB x0 q0) (setS f x0 (grnS (picS f x0) q0.toNatClampNeg)) f)))), (a5, .inr (0, [.ref c1, .ref c2, .int (nI (cond (scB x0 q0) (acN an) an))])), (c1, .inl (gI g, 14, .inl (cond (scB x0 q0) (acF an fc x0) fc))), (c2, .inl (gJ g, 14, .inr (.inl (cond (scB x0 q0) (acL an fb (picS f x0)) fb))))] H by rw [eb]; exact hP.sub [0, 1, 2, 3, 4, 5] rfl) (show va_D A [(h0, .inr (5, [.ref a1, .ref a2, .ref a3, .ref a4, .ref a5, .ref a6, .ref a7, .ref a8, .long sd])), (a1, .inr (1, [.ref b1])), (b1, .inl (gJ g, 3, .inr (.inl (cond (scB x0 q0) (setS f x0 (grnS (picS f x0) q0.toNatClampNeg)) f)))), (a5, .inr (0, [.ref c1, .ref c2, .int (nI (cond (scB x0 q0) (acN an) an))])), (c1, .inl (gI g, 14, .inl (cond (scB x0 q0) (acF an fc x0) fc))), (c2, .inl (gJ g, 14, .inr (.inl (cond (scB x0 q0) (acL an fb (picS f x0)) fb))))] by rw [eb]; exact hD.sub [0, 1, 2, 3, 4, 5] (by decide) rfl) hS dX6_grow_15
  · skip
    refine lv_iload_n hx hb dX6_grow_7 rfl (lv_at hl 2 rfl) ?_
    refine cS_i (As := [.int q0]) (rest := []) hx hb hml hown hw hkn hS hl (c_X6_isQuarter l g _ q0 ) sf_X6_isQuarter mw_343 ⟨(Nat.le_of_ble_eq_true rfl), (Nat.le_of_ble_eq_true rfl)⟩ rfl rfl rfl rfl (Nat.le_of_ble_eq_true rfl) dX6_grow_8 ⟨(Nat.le_of_ble_eq_true rfl), (Nat.le_of_ble_eq_true rfl)⟩ ?_
    refine lv_ifneB (b := isQua q0) (tgt := 16) hx hb dX6_grow_11 (by decide) (fun c_2 => ?_) (fun c_2 => ?_)
    · skip
      obtain ⟨q9, hq9, eq9⟩ := isQua_of c_2
      refine lv_aload_n hx hb dX6_grow_16 rfl (lv_at hl 0 rfl) ?_
      refine lv_iload_n hx hb dX6_grow_17 rfl (lv_at hl 1 rfl) ?_
      refine lv_aload_n hx hb dX6_grow_18 rfl (lv_at hl 0 rfl) ?_
      refine va_get (D := g.1) (ci := 5) (v := .ref a1) (C := RX6) (T := TX6) (N := 9) hx hb hw inlX6 hown hkn.1 hP 0 rfl rfl 0 (by decide) (hw _ mw_16) (fun _ h9 => h9) rfl dX6_grow_19 ?_
      refine lv_iload_n hx hb dX6_grow_22 rfl (lv_at hl 1 rfl) ?_
      refine cV_l (As := [.int x0]) (rest := [.int x0, .ref h0]) hx hb hml hown hw hkn hS hl (c_X1_cells l g _ a1 x0 b1 f  (hP.sub [1, 2] rfl)) vf_X1_cells mw_218 (va_recv hkn.1 hP (ci := 1) (q0 := 1) rfl rfl) ⟨(Nat.le_of_ble_eq_true rfl), (Nat.le_of_ble_eq_true rfl)⟩ rfl rfl rfl rfl (Nat.le_of_ble_eq_true rfl) dX6_grow_23 ⟨(Nat.le_of_ble_eq_true rfl), (Nat.le_of_ble_eq_true rfl)⟩ ?_
      refine lv_iload_n hx hb dX6_grow_26 rfl (lv_at hl 2 rfl) ?_
      refine lv_eqi (show _ = (nI q9) from eq9) ?_
      refine cS_l (As := [.long (picS f x0), .int (nI q9)]) (rest := [.int x0, .ref h0]) hx hb hml hown hw hkn hS hl (c_X2_grown l g _ (picS f x0) q9 (by omega)) sf_X2_grown mw_369 ⟨(Nat.le_of_ble_eq_true rfl), (Nat.le_of_ble_eq_true rfl)⟩ rfl rfl rfl rfl (Nat.le_of_ble_eq_true rfl) dX6_grow_27 ⟨(Nat.le_of_ble_eq_true rfl), (Nat.le_of_ble_eq_true rfl)⟩ ?_
      refine cVM_l (As := [.int x0, .long (grnS (picS f x0) q9)]) (rest := []) (q0 := 0) (wc := [(h0, .inr (5, [.ref a1, .ref a2, .ref a3, .ref a4, .ref a5, .ref a6, .ref a7, .ref a8, .long sd])), (a1, .inr (1, [.ref b1])), (b1, .inl (gJ g, 3, .inr (.inl f))), (a5, .inr (0, [.ref c1, .ref c2, .int (nI an)])), (c1, .inl (gI g, 14, .inl fc)), (c2, .inl (gJ g, 14, .inr (.inl fb)))]) (wr := []) hx hb hml hown hw hkn hS hl hA hP hD [0, 1, 2, 3, 4, 5] [] rfl rfl (by decide) (by decide) (by decide) (c_X6_change l g _ h0 x0 (grnS (picS f x0) q9) a1 a2 a3 a4 a5 a6 a7 a8 sd b1 f c1 c2 an fc fb (by omega)) vf_X6_change mw_214 rfl rfl ⟨(Nat.le_of_ble_eq_true rfl), (Nat.le_of_ble_eq_true rfl)⟩ rfl rfl rfl rfl (Nat.le_of_ble_eq_true rfl) dX6_grow_30 ⟨(Nat.le_of_ble_eq_true rfl), (Nat.le_of_ble_eq_true rfl)⟩ (fun r u H locs hq hP hD hS => ?_)
      have hq : r = (grnS (picS f x0) q9) := hq
      subst hq
      have hP : va_P g.1 vwCl [(h0, .inr (5, [.ref a1, .ref a2, .ref a3, .ref a4, .ref a5, .ref a6, .ref a7, .ref a8, .long sd])), (a1, .inr (1, [.ref b1])), (b1, .inl (gJ g, 3, .inr (.inl (setS f x0 (grnS (picS f x0) q9))))), (a5, .inr (0, [.ref c1, .ref c2, .int (nI (acN an))])), (c1, .inl (gI g, 14, .inl (acF an fc x0))), (c2, .inl (gJ g, 14, .inr (.inl (acL an fb (picS f x0)))))] H := hP.sub [0, 1, 2, 3, 4, 5] rfl
      have hD : va_D A [(h0, .inr (5, [.ref a1, .ref a2, .ref a3, .ref a4, .ref a5, .ref a6, .ref a7, .ref a8, .long sd])), (a1, .inr (1, [.ref b1])), (b1, .inl (gJ g, 3, .inr (.inl (setS f x0 (grnS (picS f x0) q9))))), (a5, .inr (0, [.ref c1, .ref c2, .int (nI (acN an))])), (c1, .inl (gI g, 14, .inl (acF an fc x0))), (c2, .inl (gJ g, 14, .inr (.inl (acL an fb (picS f x0)))))] := hD.sub [0, 1, 2, 3, 4, 5] (by decide) rfl
      refine cS_i (As := [.long (grnS (picS f x0) q9)]) (rest := []) hx hb hml hown hw hkn hS hl (c_J13_bitCount l g _ (grnS (picS f x0) q9) ) sf_J13_bitCount_95d88 mw_234 ⟨(Nat.le_of_ble_eq_true rfl), (Nat.le_of_ble_eq_true rfl)⟩ rfl rfl rfl rfl (Nat.le_of_ble_eq_true rfl) dX6_grow_33 ⟨(Nat.le_of_ble_eq_true rfl), (Nat.le_of_ble_eq_true rfl)⟩ ?_
      have eb : scB x0 q0 = true := by simp [scB, c_1, c_2]
      have eq8 : q0.toNatClampNeg = q9 := by rw [eq9, nI_clamp (by omega)]
      exact eM_i (g := g) hx hb hr hlocks () (by unfold qGr; rw [if_pos c_1, if_pos c_2, eq8]) (show va_P g.1 vwCl [(h0, .inr (5, [.ref a1, .ref a2, .ref a3, .ref a4, .ref a5, .ref a6, .ref a7, .ref a8, .long sd])), (a1, .inr (1, [.ref b1])), (b1, .inl (gJ g, 3, .inr (.inl (cond (scB x0 q0) (setS f x0 (grnS (picS f x0) q0.toNatClampNeg)) f)))), (a5, .inr (0, [.ref c1, .ref c2, .int (nI (cond (scB x0 q0) (acN an) an))])), (c1, .inl (gI g, 14, .inl (cond (scB x0 q0) (acF an fc x0) fc))), (c2, .inl (gJ g, 14, .inr (.inl (cond (scB x0 q0) (acL an fb (picS f x0)) fb))))] H by rw [eb, eq8]; exact hP.sub [0, 1, 2, 3, 4, 5] rfl) (show va_D A [(h0, .inr (5, [.ref a1, .ref a2, .ref a3, .ref a4, .ref a5, .ref a6, .ref a7, .ref a8, .long sd])), (a1, .inr (1, [.ref b1])), (b1, .inl (gJ g, 3, .inr (.inl (cond (scB x0 q0) (setS f x0 (grnS (picS f x0) q0.toNatClampNeg)) f)))), (a5, .inr (0, [.ref c1, .ref c2, .int (nI (cond (scB x0 q0) (acN an) an))])), (c1, .inl (gI g, 14, .inl (cond (scB x0 q0) (acF an fc x0) fc))), (c2, .inl (gJ g, 14, .inr (.inl (cond (scB x0 q0) (acL an fb (picS f x0)) fb))))] by rw [eb, eq8]; exact hD.sub [0, 1, 2, 3, 4, 5] (by decide) rfl) hS dX6_grow_36
    · skip
      refine lv_iconst (v := (-1)) hx hb dX6_grow_14 (by decide) ?_
      have eb : scB x0 q0 = false := by simp [scB, c_1, c_2]
      exact eM_i (g := g) hx hb hr hlocks () (by unfold qGr; rw [if_pos c_1, if_neg (nt_of c_2)]) (show va_P g.1 vwCl [(h0, .inr (5, [.ref a1, .ref a2, .ref a3, .ref a4, .ref a5, .ref a6, .ref a7, .ref a8, .long sd])), (a1, .inr (1, [.ref b1])), (b1, .inl (gJ g, 3, .inr (.inl (cond (scB x0 q0) (setS f x0 (grnS (picS f x0) q0.toNatClampNeg)) f)))), (a5, .inr (0, [.ref c1, .ref c2, .int (nI (cond (scB x0 q0) (acN an) an))])), (c1, .inl (gI g, 14, .inl (cond (scB x0 q0) (acF an fc x0) fc))), (c2, .inl (gJ g, 14, .inr (.inl (cond (scB x0 q0) (acL an fb (picS f x0)) fb))))] H by rw [eb]; exact hP.sub [0, 1, 2, 3, 4, 5] rfl) (show va_D A [(h0, .inr (5, [.ref a1, .ref a2, .ref a3, .ref a4, .ref a5, .ref a6, .ref a7, .ref a8, .long sd])), (a1, .inr (1, [.ref b1])), (b1, .inl (gJ g, 3, .inr (.inl (cond (scB x0 q0) (setS f x0 (grnS (picS f x0) q0.toNatClampNeg)) f)))), (a5, .inr (0, [.ref c1, .ref c2, .int (nI (cond (scB x0 q0) (acN an) an))])), (c1, .inl (gI g, 14, .inl (cond (scB x0 q0) (acF an fc x0) fc))), (c2, .inl (gJ g, 14, .inr (.inl (cond (scB x0 q0) (acL an fb (picS f x0)) fb))))] by rw [eb]; exact hD.sub [0, 1, 2, 3, 4, 5] (by decide) rfl) hS dX6_grow_15
set_option maxHeartbeats 4000000 in
set_option maxRecDepth 100000 in
theorem c_X6_undo (l : Launch) (g : GG) (sz : Nat) (h0 : Nat) (a1 : Nat) (a2 : Nat) (a3 : Nat) (a4 : Nat) (a5 : Nat) (a6 : Nat) (a7 : Nat) (a8 : Nat) (sd : Int64) (b1 : Nat) (f : Nat → Int64) (c1 : Nat) (c2 : Nat) (an : Nat) (fc : Nat → Int32) (fb : Nat → Int64) (han : an ≤ 14) : Met l yX6_undo (Cond.code yX6_undo cX6_undo 1 (some .int) :: wsL_law) ({ frames := 2, cells := 0, slots := 0, locals := 43 }) (PM g [.ref h0] [(h0, .inr (5, [.ref a1, .ref a2, .ref a3, .ref a4, .ref a5, .ref a6, .ref a7, .ref a8, .long sd])), (a1, .inr (1, [.ref b1])), (b1, .inl (gJ g, 3, .inr (.inl f))), (a5, .inr (0, [.ref c1, .ref c2, .int (nI an)])), (c1, .inl (gI g, 14, .inl fc)), (c2, .inl (gJ g, 14, .inr (.inl fb)))] sz) (QAi g (fun (r : Int32) (u : Unit) => r = qUn an) (fun (u : Unit) => [(h0, .inr (5, [.ref a1, .ref a2, .ref a3, .ref a4, .ref a5, .ref a6, .ref a7, .ref a8, .long sd])), (a1, .inr (1, [.ref b1])), (b1, .inl (gJ g, 3, .inr (.inl (cond (decide (0 < an)) (setS f (fc (an - 1)) (fb (an - 1))) f)))), (a5, .inr (0, [.ref c1, .ref c2, .int (nI (an - 1))])), (c1, .inl (gI g, 14, .inl fc)), (c2, .inl (gJ g, 14, .inr (.inl fb)))]) (va_A [(h0, .inr (5, [.ref a1, .ref a2, .ref a3, .ref a4, .ref a5, .ref a6, .ref a7, .ref a8, .long sd])), (a1, .inr (1, [.ref b1])), (b1, .inl (gJ g, 3, .inr (.inl f))), (a5, .inr (0, [.ref c1, .ref c2, .int (nI an)])), (c1, .inl (gI g, 14, .inl fc)), (c2, .inl (gJ g, 14, .inr (.inl fb)))] sz)) 0 0 (va_A [(h0, .inr (5, [.ref a1, .ref a2, .ref a3, .ref a4, .ref a5, .ref a6, .ref a7, .ref a8, .long sd])), (a1, .inr (1, [.ref b1])), (b1, .inl (gJ g, 3, .inr (.inl f))), (a5, .inr (0, [.ref c1, .ref c2, .int (nI an)])), (c1, .inl (gI g, 14, .inl fc)), (c2, .inl (gJ g, 14, .inr (.inl fb)))] sz) := by
  refine Met.M (Qc := fun A => QAi g (fun (r : Int32) (u : Unit) => r = qUn an) (fun (u : Unit) => [(h0, .inr (5, [.ref a1, .ref a2, .ref a3, .ref a4, .ref a5, .ref a6, .ref a7, .ref a8, .long sd])), (a1, .inr (1, [.ref b1])), (b1, .inl (gJ g, 3, .inr (.inl (cond (decide (0 < an)) (setS f (fc (an - 1)) (fb (an - 1))) f)))), (a5, .inr (0, [.ref c1, .ref c2, .int (nI (an - 1))])), (c1, .inl (gI g, 14, .inl fc)), (c2, .inl (gJ g, 14, .inr (.inl fb)))]) A) (by decide) (Nat.le_of_ble_eq_true rfl) rfl ?_
  intro p e s m below meth c hx hb hr hml hw hown hlocks hin A hA hkn hP hD ls hl
  have hl : lv_has ls 1 [(0, .ref h0)] := hl
  have hS : va_S A s.heap s.heap [] := va_S.rf
  obtain ⟨H, hHe⟩ : ∃ H, H = s.heap := ⟨_, rfl⟩
  obtain ⟨locs, hLe⟩ : ∃ locs : List Loc, locs = [] := ⟨_, rfl⟩
  have hP : va_P g.1 vwCl [(h0, .inr (5, [.ref a1, .ref a2, .ref a3, .ref a4, .ref a5, .ref a6, .ref a7, .ref a8, .long sd])), (a1, .inr (1, [.ref b1])), (b1, .inl (gJ g, 3, .inr (.inl f))), (a5, .inr (0, [.ref c1, .ref c2, .int (nI an)])), (c1, .inl (gI g, 14, .inl fc)), (c2, .inl (gJ g, 14, .inr (.inl fb)))] H := by rw [hHe]; exact hP
  have hS : va_S A s.heap H locs := by rw [hHe, hLe]; exact hS
  have hgo : W p l e ({ frames := 2, cells := 0, slots := 0, locals := 43 } : Room) s m ([.ref h0] : List Value).toArray below meth c H locs 0 0 (MQ below (QAi g (fun (r : Int32) (u : Unit) => r = qUn an) (fun (u : Unit) => [(h0, .inr (5, [.ref a1, .ref a2, .ref a3, .ref a4, .ref a5, .ref a6, .ref a7, .ref a8, .long sd])), (a1, .inr (1, [.ref b1])), (b1, .inl (gJ g, 3, .inr (.inl (cond (decide (0 < an)) (setS f (fc (an - 1)) (fb (an - 1))) f)))), (a5, .inr (0, [.ref c1, .ref c2, .int (nI (an - 1))])), (c1, .inl (gI g, 14, .inl fc)), (c2, .inl (gJ g, 14, .inr (.inl fb)))]) A) ([.ref h0] : List Value).toArray s 0 0 A) (F0 m 0 ls []) := ?_
  · rw [hHe, hLe] at hgo; exact hgo
  clear hHe hLe
  refine lv_aload_n hx hb dX6_undo_0 rfl (lv_at hl 0 rfl) ?_
  refine va_get (D := g.1) (ci := 5) (v := .ref a5) (C := RX6) (T := TX6) (N := 9) hx hb hw inlX6 hown hkn.1 hP 0 rfl rfl 4 (by decide) (hw _ mw_26) (fun _ h9 => h9) rfl dX6_undo_1 ?_
  refine cV_i (As := []) (rest := []) hx hb hml hown hw hkn hS hl (c_X0_size l g _ a5 c1 c2 an fc fb  (hP.sub [3, 4, 5] rfl)) vf_X0_size mw_383 (va_recv hkn.1 hP (ci := 0) (q0 := 3) rfl rfl) ⟨(Nat.le_of_ble_eq_true rfl), (Nat.le_of_ble_eq_true rfl)⟩ rfl rfl rfl rfl (Nat.le_of_ble_eq_true rfl) dX6_undo_4 ⟨(Nat.le_of_ble_eq_true rfl), (Nat.le_of_ble_eq_true rfl)⟩ ?_
  refine iz_ne (a := an) (tgt := 13) hx hb dX6_undo_7 (by decide) rfl (by omega) (fun c_1 => ?_) (fun c_1 => ?_)
  · skip
    refine lv_aload_n hx hb dX6_undo_13 rfl (lv_at hl 0 rfl) ?_
    refine va_get (D := g.1) (ci := 5) (v := .ref a1) (C := RX6) (T := TX6) (N := 9) hx hb hw inlX6 hown hkn.1 hP 0 rfl rfl 0 (by decide) (hw _ mw_16) (fun _ h9 => h9) rfl dX6_undo_14 ?_
    refine lv_aload_n hx hb dX6_undo_17 rfl (lv_at hl 0 rfl) ?_
    refine va_get (D := g.1) (ci := 5) (v := .ref a5) (C := RX6) (T := TX6) (N := 9) hx hb hw inlX6 hown hkn.1 hP 0 rfl rfl 4 (by decide) (hw _ mw_26) (fun _ h9 => h9) rfl dX6_undo_18 ?_
    refine cV_i (As := []) (rest := [.ref a1]) hx hb hml hown hw hkn hS hl (c_X0_lastPicture l g _ a5 c1 c2 an fc fb (by omega) (by omega) (hP.sub [3, 4, 5] rfl)) vf_X0_lastPicture mw_387 (va_recv hkn.1 hP (ci := 0) (q0 := 3) rfl rfl) ⟨(Nat.le_of_ble_eq_true rfl), (Nat.le_of_ble_eq_true rfl)⟩ rfl rfl rfl rfl (Nat.le_of_ble_eq_true rfl) dX6_undo_21 ⟨(Nat.le_of_ble_eq_true rfl), (Nat.le_of_ble_eq_true rfl)⟩ ?_
    refine lv_aload_n hx hb dX6_undo_24 rfl (lv_at hl 0 rfl) ?_
    refine va_get (D := g.1) (ci := 5) (v := .ref a5) (C := RX6) (T := TX6) (N := 9) hx hb hw inlX6 hown hkn.1 hP 0 rfl rfl 4 (by decide) (hw _ mw_26) (fun _ h9 => h9) rfl dX6_undo_25 ?_
    refine cV_l (As := []) (rest := [.int (fc (an - 1)), .ref a1]) hx hb hml hown hw hkn hS hl (c_X0_lastBefore l g _ a5 c1 c2 an fc fb (by omega) (by omega) (hP.sub [3, 4, 5] rfl)) vf_X0_lastBefore mw_391 (va_recv hkn.1 hP (ci := 0) (q0 := 3) rfl rfl) ⟨(Nat.le_of_ble_eq_true rfl), (Nat.le_of_ble_eq_true rfl)⟩ rfl rfl rfl rfl (Nat.le_of_ble_eq_true rfl) dX6_undo_28 ⟨(Nat.le_of_ble_eq_true rfl), (Nat.le_of_ble_eq_true rfl)⟩ ?_
    refine cVM_v (As := [.int (fc (an - 1)), .long (fb (an - 1))]) (rest := []) (q0 := 0) (wc := [(a1, .inr (1, [.ref b1])), (b1, .inl (gJ g, 3, .inr (.inl f)))]) (wr := [(h0, .inr (5, [.ref a1, .ref a2, .ref a3, .ref a4, .ref a5, .ref a6, .ref a7, .ref a8, .long sd])), (a5, .inr (0, [.ref c1, .ref c2, .int (nI an)])), (c1, .inl (gI g, 14, .inl fc)), (c2, .inl (gJ g, 14, .inr (.inl fb)))]) hx hb hml hown hw hkn hS hl hA hP hD [1, 2] [0, 3, 4, 5] rfl rfl (by decide) (by decide) (by decide) (c_X1_set l g _ a1 (fc (an - 1)) (fb (an - 1)) b1 f ) vf_X1_set mw_230 rfl rfl ⟨(Nat.le_of_ble_eq_true rfl), (Nat.le_of_ble_eq_true rfl)⟩ rfl rfl rfl rfl (Nat.le_of_ble_eq_true rfl) dX6_undo_31 ⟨(Nat.le_of_ble_eq_true rfl), (Nat.le_of_ble_eq_true rfl)⟩ (fun u H locs hq hP hD hS => ?_)
    have hP : va_P g.1 vwCl [(h0, .inr (5, [.ref a1, .ref a2, .ref a3, .ref a4, .ref a5, .ref a6, .ref a7, .ref a8, .long sd])), (a1, .inr (1, [.ref b1])), (b1, .inl (gJ g, 3, .inr (.inl (setS f (fc (an - 1)) (fb (an - 1)))))), (a5, .inr (0, [.ref c1, .ref c2, .int (nI an)])), (c1, .inl (gI g, 14, .inl fc)), (c2, .inl (gJ g, 14, .inr (.inl fb)))] H := hP.sub [0, 4, 5, 1, 2, 3] rfl
    have hD : va_D A [(h0, .inr (5, [.ref a1, .ref a2, .ref a3, .ref a4, .ref a5, .ref a6, .ref a7, .ref a8, .long sd])), (a1, .inr (1, [.ref b1])), (b1, .inl (gJ g, 3, .inr (.inl (setS f (fc (an - 1)) (fb (an - 1)))))), (a5, .inr (0, [.ref c1, .ref c2, .int (nI an)])), (c1, .inl (gI g, 14, .inl fc)), (c2, .inl (gJ g, 14, .inr (.inl fb)))] := hD.sub [0, 4, 5, 1, 2, 3] (by decide) rfl
    refine lv_aload_n hx hb dX6_undo_34 rfl (lv_at hl 0 rfl) ?_
    refine va_get (D := g.1) (ci := 5) (v := .ref a5) (C := RX6) (T := TX6) (N := 9) hx hb hw inlX6 hown hkn.1 hP 0 rfl rfl 4 (by decide) (hw _ mw_26) (fun _ h9 => h9) rfl dX6_undo_35 ?_
    refine cVM_v (As := []) (rest := []) (q0 := 0) (wc := [(a5, .inr (0, [.ref c1, .ref c2, .int (nI an)]))]) (wr := [(h0, .inr (5, [.ref a1, .ref a2, .ref a3, .ref a4, .ref a5, .ref a6, .ref a7, .ref a8, .long sd])), (a1, .inr (1, [.ref b1])), (b1, .inl (gJ g, 3, .inr (.inl (setS f (fc (an - 1)) (fb (an - 1)))))), (c1, .inl (gI g, 14, .inl fc)), (c2, .inl (gJ g, 14, .inr (.inl fb)))]) hx hb hml hown hw hkn hS hl hA hP hD [3] [0, 1, 2, 4, 5] rfl rfl (by decide) (by decide) (by decide) (c_X0_dropLast l g _ a5 c1 c2 an (by omega) (by omega)) vf_X0_dropLast mw_395 rfl rfl ⟨(Nat.le_of_ble_eq_true rfl), (Nat.le_of_ble_eq_true rfl)⟩ rfl rfl rfl rfl (Nat.le_of_ble_eq_true rfl) dX6_undo_38 ⟨(Nat.le_of_ble_eq_true rfl), (Nat.le_of_ble_eq_true rfl)⟩ (fun u H locs hq hP hD hS => ?_)
    have hP : va_P g.1 vwCl [(h0, .inr (5, [.ref a1, .ref a2, .ref a3, .ref a4, .ref a5, .ref a6, .ref a7, .ref a8, .long sd])), (a1, .inr (1, [.ref b1])), (b1, .inl (gJ g, 3, .inr (.inl (setS f (fc (an - 1)) (fb (an - 1)))))), (a5, .inr (0, [.ref c1, .ref c2, .int (nI (an - 1))])), (c1, .inl (gI g, 14, .inl fc)), (c2, .inl (gJ g, 14, .inr (.inl fb)))] H := hP.sub [0, 1, 2, 5, 3, 4] rfl
    have hD : va_D A [(h0, .inr (5, [.ref a1, .ref a2, .ref a3, .ref a4, .ref a5, .ref a6, .ref a7, .ref a8, .long sd])), (a1, .inr (1, [.ref b1])), (b1, .inl (gJ g, 3, .inr (.inl (setS f (fc (an - 1)) (fb (an - 1)))))), (a5, .inr (0, [.ref c1, .ref c2, .int (nI (an - 1))])), (c1, .inl (gI g, 14, .inl fc)), (c2, .inl (gJ g, 14, .inr (.inl fb)))] := hD.sub [0, 1, 2, 5, 3, 4] (by decide) rfl
    refine lv_aload_n hx hb dX6_undo_41 rfl (lv_at hl 0 rfl) ?_
    refine va_get (D := g.1) (ci := 5) (v := .ref a5) (C := RX6) (T := TX6) (N := 9) hx hb hw inlX6 hown hkn.1 hP 0 rfl rfl 4 (by decide) (hw _ mw_26) (fun _ h9 => h9) rfl dX6_undo_42 ?_
    refine cV_i (As := []) (rest := []) hx hb hml hown hw hkn hS hl (c_X0_size l g _ a5 c1 c2 (an - 1) fc fb  (hP.sub [3, 4, 5] rfl)) vf_X0_size mw_383 (va_recv hkn.1 hP (ci := 0) (q0 := 3) rfl rfl) ⟨(Nat.le_of_ble_eq_true rfl), (Nat.le_of_ble_eq_true rfl)⟩ rfl rfl rfl rfl (Nat.le_of_ble_eq_true rfl) dX6_undo_45 ⟨(Nat.le_of_ble_eq_true rfl), (Nat.le_of_ble_eq_true rfl)⟩ ?_
    have eb : decide (0 < an) = true := by simp; omega
    exact eM_i (g := g) hx hb hr hlocks () (by unfold qUn; rw [if_neg (Nat.pos_iff_ne_zero.mp c_1)]) (show va_P g.1 vwCl [(h0, .inr (5, [.ref a1, .ref a2, .ref a3, .ref a4, .ref a5, .ref a6, .ref a7, .ref a8, .long sd])), (a1, .inr (1, [.ref b1])), (b1, .inl (gJ g, 3, .inr (.inl (cond (decide (0 < an)) (setS f (fc (an - 1)) (fb (an - 1))) f)))), (a5, .inr (0, [.ref c1, .ref c2, .int (nI (an - 1))])), (c1, .inl (gI g, 14, .inl fc)), (c2, .inl (gJ g, 14, .inr (.inl fb)))] H by rw [eb]; exact hP.sub [0, 1, 2, 3, 4, 5] rfl) (show va_D A [(h0, .inr (5, [.ref a1, .ref a2, .ref a3, .ref a4, .ref a5, .ref a6, .ref a7, .ref a8, .long sd])), (a1, .inr (1, [.ref b1])), (b1, .inl (gJ g, 3, .inr (.inl (cond (decide (0 < an)) (setS f (fc (an - 1)) (fb (an - 1))) f)))), (a5, .inr (0, [.ref c1, .ref c2, .int (nI (an - 1))])), (c1, .inl (gI g, 14, .inl fc)), (c2, .inl (gJ g, 14, .inr (.inl fb)))] by rw [eb]; exact hD.sub [0, 1, 2, 3, 4, 5] (by decide) rfl) hS dX6_undo_48
  · skip
    refine lv_bipush (v := (-3)) hx hb dX6_undo_10 (by decide) ?_
    have eb : decide (0 < an) = false := by simp; omega
    have e2 : an - 1 = an := by omega
    exact eM_i (g := g) hx hb hr hlocks () (by unfold qUn; rw [if_pos c_1]) (show va_P g.1 vwCl [(h0, .inr (5, [.ref a1, .ref a2, .ref a3, .ref a4, .ref a5, .ref a6, .ref a7, .ref a8, .long sd])), (a1, .inr (1, [.ref b1])), (b1, .inl (gJ g, 3, .inr (.inl (cond (decide (0 < an)) (setS f (fc (an - 1)) (fb (an - 1))) f)))), (a5, .inr (0, [.ref c1, .ref c2, .int (nI (an - 1))])), (c1, .inl (gI g, 14, .inl fc)), (c2, .inl (gJ g, 14, .inr (.inl fb)))] H by rw [eb, e2]; exact hP.sub [0, 1, 2, 3, 4, 5] rfl) (show va_D A [(h0, .inr (5, [.ref a1, .ref a2, .ref a3, .ref a4, .ref a5, .ref a6, .ref a7, .ref a8, .long sd])), (a1, .inr (1, [.ref b1])), (b1, .inl (gJ g, 3, .inr (.inl (cond (decide (0 < an)) (setS f (fc (an - 1)) (fb (an - 1))) f)))), (a5, .inr (0, [.ref c1, .ref c2, .int (nI (an - 1))])), (c1, .inl (gI g, 14, .inl fc)), (c2, .inl (gJ g, 14, .inr (.inl fb)))] by rw [eb, e2]; exact hD.sub [0, 1, 2, 3, 4, 5] (by decide) rfl) hS dX6_undo_12
set_option maxHeartbeats 4000000 in
set_option maxRecDepth 100000 in
theorem c_X6_black (l : Launch) (g : GG) (H : Heap) (h0 : Nat) (x0 : Int32) (a1 : Nat) (a2 : Nat) (a3 : Nat) (a4 : Nat) (a5 : Nat) (a6 : Nat) (a7 : Nat) (a8 : Nat) (sd : Int64) (b1 : Nat) (f : Nat → Int64)  (hP : va_P g.1 vwCl [(h0, .inr (5, [.ref a1, .ref a2, .ref a3, .ref a4, .ref a5, .ref a6, .ref a7, .ref a8, .long sd])), (a1, .inr (1, [.ref b1])), (b1, .inl (gJ g, 3, .inr (.inl f)))] H) : Met l yX6_black (Cond.code yX6_black cX6_black 2 (some .long) :: wsL_law) ({ frames := 2, cells := 0, slots := 0, locals := 41 }) (PR g [.ref h0, .int x0] H) (QRl (picS f x0) H) 0 0 NoA := by
  refine Met.R (by decide) (Nat.le_of_ble_eq_true rfl) rfl ?_
  intro p e s m below meth c hx hb hr hml hw hown hlocks hkn hH ls hl
  subst hH
  have hl : lv_has ls 2 [(0, .ref h0), (1, .int x0)] := hl
  have hS : va_S NoA s.heap s.heap [] := va_S.rf
  refine lv_aload_n hx hb dX6_black_0 rfl (lv_at hl 0 rfl) ?_
  refine va_get (D := g.1) (ci := 5) (v := .ref a1) (C := RX6) (T := TX6) (N := 9) hx hb hw inlX6 hown hkn.1 hP 0 rfl rfl 0 (by decide) (hw _ mw_16) (fun _ h9 => h9) rfl dX6_black_1 ?_
  refine lv_iload_n hx hb dX6_black_4 rfl (lv_at hl 1 rfl) ?_
  refine cV_l (As := [.int x0]) (rest := []) hx hb hml hown hw hkn hS hl (c_X1_cells l g _ a1 x0 b1 f  (hP.sub [1, 2] rfl)) vf_X1_cells mw_218 (va_recv hkn.1 hP (ci := 1) (q0 := 1) rfl rfl) ⟨(Nat.le_of_ble_eq_true rfl), (Nat.le_of_ble_eq_true rfl)⟩ rfl rfl rfl rfl (Nat.le_of_ble_eq_true rfl) dX6_black_5 ⟨(Nat.le_of_ble_eq_true rfl), (Nat.le_of_ble_eq_true rfl)⟩ ?_
  exact eR_l hx hb hr hlocks (rfl) dX6_black_8
set_option maxHeartbeats 4000000 in
set_option maxRecDepth 100000 in
theorem c_X6_look (l : Launch) (g : GG) (sz : Nat) (h0 : Nat) (x0 : Int32) (z0 : Int32) (a1 : Nat) (a2 : Nat) (a3 : Nat) (a4 : Nat) (a5 : Nat) (a6 : Nat) (a7 : Nat) (a8 : Nat) (sd : Int64) (b1 : Nat) (f : Nat → Int64) (w1 : Int32) (w2 : Int32)  : Met l yX6_look (Cond.code yX6_look cX6_look 5 (some .int) :: wsL_law) ({ frames := 4, cells := 0, slots := 0, locals := 88 }) (PM g [.ref h0, .int x0, .int z0] [(h0, .inr (5, [.ref a1, .ref a2, .ref a3, .ref a4, .ref a5, .ref a6, .ref a7, .ref a8, .long sd])), (a1, .inr (1, [.ref b1])), (b1, .inl (gJ g, 3, .inr (.inl f))), (a7, .inr (4, [.int w1, .int w2]))] sz) (QAi g (fun (r : Int32) (u : Int32 × Int32) => r = qLk f x0 z0) (fun (u : Int32 × Int32) => [(h0, .inr (5, [.ref a1, .ref a2, .ref a3, .ref a4, .ref a5, .ref a6, .ref a7, .ref a8, .long sd])), (a1, .inr (1, [.ref b1])), (b1, .inl (gJ g, 3, .inr (.inl f))), (a7, .inr (4, [.int u.1, .int u.2]))]) (va_A [(h0, .inr (5, [.ref a1, .ref a2, .ref a3, .ref a4, .ref a5, .ref a6, .ref a7, .ref a8, .long sd])), (a1, .inr (1, [.ref b1])), (b1, .inl (gJ g, 3, .inr (.inl f))), (a7, .inr (4, [.int w1, .int w2]))] sz)) 0 0 (va_A [(h0, .inr (5, [.ref a1, .ref a2, .ref a3, .ref a4, .ref a5, .ref a6, .ref a7, .ref a8, .long sd])), (a1, .inr (1, [.ref b1])), (b1, .inl (gJ g, 3, .inr (.inl f))), (a7, .inr (4, [.int w1, .int w2]))] sz) := by
  refine Met.M (Qc := fun A => QAi g (fun (r : Int32) (u : Int32 × Int32) => r = qLk f x0 z0) (fun (u : Int32 × Int32) => [(h0, .inr (5, [.ref a1, .ref a2, .ref a3, .ref a4, .ref a5, .ref a6, .ref a7, .ref a8, .long sd])), (a1, .inr (1, [.ref b1])), (b1, .inl (gJ g, 3, .inr (.inl f))), (a7, .inr (4, [.int u.1, .int u.2]))]) A) (by decide) (Nat.le_of_ble_eq_true rfl) rfl ?_
  intro p e s m below meth c hx hb hr hml hw hown hlocks hin A hA hkn hP hD ls hl
  have hl : lv_has ls 5 [(0, .ref h0), (1, .int x0), (2, .int z0)] := hl
  have hS : va_S A s.heap s.heap [] := va_S.rf
  obtain ⟨H, hHe⟩ : ∃ H, H = s.heap := ⟨_, rfl⟩
  obtain ⟨locs, hLe⟩ : ∃ locs : List Loc, locs = [] := ⟨_, rfl⟩
  have hP : va_P g.1 vwCl [(h0, .inr (5, [.ref a1, .ref a2, .ref a3, .ref a4, .ref a5, .ref a6, .ref a7, .ref a8, .long sd])), (a1, .inr (1, [.ref b1])), (b1, .inl (gJ g, 3, .inr (.inl f))), (a7, .inr (4, [.int w1, .int w2]))] H := by rw [hHe]; exact hP
  have hS : va_S A s.heap H locs := by rw [hHe, hLe]; exact hS
  have hgo : W p l e ({ frames := 4, cells := 0, slots := 0, locals := 88 } : Room) s m ([.ref h0, .int x0, .int z0] : List Value).toArray below meth c H locs 0 0 (MQ below (QAi g (fun (r : Int32) (u : Int32 × Int32) => r = qLk f x0 z0) (fun (u : Int32 × Int32) => [(h0, .inr (5, [.ref a1, .ref a2, .ref a3, .ref a4, .ref a5, .ref a6, .ref a7, .ref a8, .long sd])), (a1, .inr (1, [.ref b1])), (b1, .inl (gJ g, 3, .inr (.inl f))), (a7, .inr (4, [.int u.1, .int u.2]))]) A) ([.ref h0, .int x0, .int z0] : List Value).toArray s 0 0 A) (F0 m 0 ls []) := ?_
  · rw [hHe, hLe] at hgo; exact hgo
  clear hHe hLe
  refine lv_iload_n hx hb dX6_look_0 rfl (lv_at hl 1 rfl) ?_
  refine cS_i (As := [.int x0]) (rest := []) hx hb hml hown hw hkn hS hl (c_X6_isPicture l g _ x0 ) sf_X6_isPicture mw_207 ⟨(Nat.le_of_ble_eq_true rfl), (Nat.le_of_ble_eq_true rfl)⟩ rfl rfl rfl rfl (Nat.le_of_ble_eq_true rfl) dX6_look_1 ⟨(Nat.le_of_ble_eq_true rfl), (Nat.le_of_ble_eq_true rfl)⟩ ?_
  refine lv_ifneB (b := isPic x0) (tgt := 9) hx hb dX6_look_4 (by decide) (fun c_1 => ?_) (fun c_1 => ?_)
  · skip
    refine lv_aload_n hx hb dX6_look_9 rfl (lv_at hl 0 rfl) ?_
    refine va_get (D := g.1) (ci := 5) (v := .ref a1) (C := RX6) (T := TX6) (N := 9) hx hb hw inlX6 hown hkn.1 hP 0 rfl rfl 0 (by decide) (hw _ mw_16) (fun _ h9 => h9) rfl dX6_look_10 ?_
    refine lv_iload_n hx hb dX6_look_13 rfl (lv_at hl 1 rfl) ?_
    refine cV_l (As := [.int x0]) (rest := []) hx hb hml hown hw hkn hS hl (c_X1_cells l g _ a1 x0 b1 f  (hP.sub [1, 2] rfl)) vf_X1_cells mw_218 (va_recv hkn.1 hP (ci := 1) (q0 := 1) rfl rfl) ⟨(Nat.le_of_ble_eq_true rfl), (Nat.le_of_ble_eq_true rfl)⟩ rfl rfl rfl rfl (Nat.le_of_ble_eq_true rfl) dX6_look_14 ⟨(Nat.le_of_ble_eq_true rfl), (Nat.le_of_ble_eq_true rfl)⟩ ?_
    refine lv_lstore_n (lv' := [(3, .long (picS f x0)), (0, .ref h0), (1, .int x0), (2, .int z0)]) hx hb dX6_look_17 rfl hl (by decide) rfl (fun ls hl => ?_)
    refine lv_iload_n hx hb dX6_look_18 rfl (lv_at hl 3 rfl) ?_
    by_cases c_2 : z0 = 0
    · skip
      refine lv_tableIn (off := 33) (tgt := 52) hx hb dX6_look_19 (by rw [c_2]; decide) (by rw [c_2]; decide) (by rw [c_2]; rfl) (by decide) ?_
      refine lv_lload_n hx hb dX6_look_52 rfl (lv_at hl 0 rfl) ?_
      refine cS_i (As := [.long (picS f x0)]) (rest := []) hx hb hml hown hw hkn hS hl (c_J13_bitCount l g _ (picS f x0) ) sf_J13_bitCount_95d88 mw_234 ⟨(Nat.le_of_ble_eq_true rfl), (Nat.le_of_ble_eq_true rfl)⟩ rfl rfl rfl rfl (Nat.le_of_ble_eq_true rfl) dX6_look_53 ⟨(Nat.le_of_ble_eq_true rfl), (Nat.le_of_ble_eq_true rfl)⟩ ?_
      exact eM_i (g := g) hx hb hr hlocks (w1, w2) (by unfold qLk; rw [if_pos c_1, if_pos c_2]) (hP.sub [0, 1, 2, 3] rfl) (hD.sub [0, 1, 2, 3] (by decide) rfl) hS dX6_look_56
    · skip
      by_cases c_3 : z0 = 1
      · skip
        refine lv_tableIn (off := 38) (tgt := 57) hx hb dX6_look_19 (by rw [c_3]; decide) (by rw [c_3]; decide) (by rw [c_3]; rfl) (by decide) ?_
        refine lv_aload_n hx hb dX6_look_57 rfl (lv_at hl 1 rfl) ?_
        refine va_get (D := g.1) (ci := 5) (v := .ref a7) (C := RX6) (T := TX6) (N := 9) hx hb hw inlX6 hown hkn.1 hP 0 rfl rfl 6 (by decide) (hw _ mw_34) (fun _ h9 => h9) rfl dX6_look_58 ?_
        refine lv_lload_n hx hb dX6_look_61 rfl (lv_at hl 0 rfl) ?_
        refine cVM_i (As := [.long (picS f x0)]) (rest := []) (q0 := 0) (wc := [(a7, .inr (4, [.int w1, .int w2]))]) (wr := [(h0, .inr (5, [.ref a1, .ref a2, .ref a3, .ref a4, .ref a5, .ref a6, .ref a7, .ref a8, .long sd])), (a1, .inr (1, [.ref b1])), (b1, .inl (gJ g, 3, .inr (.inl f)))]) hx hb hml hown hw hkn hS hl hA hP hD [3] [0, 1, 2] rfl rfl (by decide) (by decide) (by decide) (c_X5_leastLength l g _ a7 (picS f x0) w1 w2 ) vf_X5_leastLength mw_415 rfl rfl ⟨(Nat.le_of_ble_eq_true rfl), (Nat.le_of_ble_eq_true rfl)⟩ rfl rfl rfl rfl (Nat.le_of_ble_eq_true rfl) dX6_look_62 ⟨(Nat.le_of_ble_eq_true rfl), (Nat.le_of_ble_eq_true rfl)⟩ (fun r u H locs hq hP hD hS => ?_)
        obtain ⟨p9_4, d9_4⟩ := u
        dsimp only at hq hP hD
        have hq : r = (nI (lnS (picS f x0))) := hq
        subst hq
        have hP : va_P g.1 vwCl [(h0, .inr (5, [.ref a1, .ref a2, .ref a3, .ref a4, .ref a5, .ref a6, .ref a7, .ref a8, .long sd])), (a1, .inr (1, [.ref b1])), (b1, .inl (gJ g, 3, .inr (.inl f))), (a7, .inr (4, [.int (nI p9_4), .int (nI d9_4)]))] H := hP.sub [0, 1, 2, 3] rfl
        have hD : va_D A [(h0, .inr (5, [.ref a1, .ref a2, .ref a3, .ref a4, .ref a5, .ref a6, .ref a7, .ref a8, .long sd])), (a1, .inr (1, [.ref b1])), (b1, .inl (gJ g, 3, .inr (.inl f))), (a7, .inr (4, [.int (nI p9_4), .int (nI d9_4)]))] := hD.sub [0, 1, 2, 3] (by decide) rfl
        exact eM_i (g := g) hx hb hr hlocks ((nI p9_4), (nI d9_4)) (by unfold qLk; rw [if_pos c_1, if_neg c_2, if_pos c_3]) (hP.sub [0, 1, 2, 3] rfl) (hD.sub [0, 1, 2, 3] (by decide) rfl) hS dX6_look_65
      · skip
        by_cases c_5 : z0 = 2
        · skip
          refine lv_tableIn (off := 47) (tgt := 66) hx hb dX6_look_19 (by rw [c_5]; decide) (by rw [c_5]; decide) (by rw [c_5]; rfl) (by decide) ?_
          refine lv_lload_n hx hb dX6_look_66 rfl (lv_at hl 0 rfl) ?_
          refine cS_i (As := [.long (picS f x0)]) (rest := []) hx hb hml hown hw hkn hS hl (c_X2_parts l g _ (picS f x0) ) sf_X2_parts mw_431 ⟨(Nat.le_of_ble_eq_true rfl), (Nat.le_of_ble_eq_true rfl)⟩ rfl rfl rfl rfl (Nat.le_of_ble_eq_true rfl) dX6_look_67 ⟨(Nat.le_of_ble_eq_true rfl), (Nat.le_of_ble_eq_true rfl)⟩ ?_
          exact eM_i (g := g) hx hb hr hlocks (w1, w2) (by unfold qLk; rw [if_pos c_1, if_neg c_2, if_neg c_3, if_pos c_5]) (hP.sub [0, 1, 2, 3] rfl) (hD.sub [0, 1, 2, 3] (by decide) rfl) hS dX6_look_70
        · skip
          by_cases c_6 : z0 = 3
          · skip
            refine lv_tableIn (off := 52) (tgt := 71) hx hb dX6_look_19 (by rw [c_6]; decide) (by rw [c_6]; decide) (by rw [c_6]; rfl) (by decide) ?_
            refine lv_lload_n hx hb dX6_look_71 rfl (lv_at hl 0 rfl) ?_
            refine cS_i (As := [.long (picS f x0)]) (rest := []) hx hb hml hown hw hkn hS hl (c_X2_rim l g _ (picS f x0) ) sf_X2_rim mw_445 ⟨(Nat.le_of_ble_eq_true rfl), (Nat.le_of_ble_eq_true rfl)⟩ rfl rfl rfl rfl (Nat.le_of_ble_eq_true rfl) dX6_look_72 ⟨(Nat.le_of_ble_eq_true rfl), (Nat.le_of_ble_eq_true rfl)⟩ ?_
            exact eM_i (g := g) hx hb hr hlocks (w1, w2) (by unfold qLk; rw [if_pos c_1, if_neg c_2, if_neg c_3, if_neg c_5, if_pos c_6]) (hP.sub [0, 1, 2, 3] rfl) (hD.sub [0, 1, 2, 3] (by decide) rfl) hS dX6_look_75
          · skip
            by_cases c_7 : z0 = 4
            · skip
              refine lv_tableIn (off := 57) (tgt := 76) hx hb dX6_look_19 (by rw [c_7]; decide) (by rw [c_7]; decide) (by rw [c_7]; rfl) (by decide) ?_
              refine lv_lload_n hx hb dX6_look_76 rfl (lv_at hl 0 rfl) ?_
              refine cS_i (As := [.long (picS f x0)]) (rest := []) hx hb hml hown hw hkn hS hl (c_X2_blocks l g _ (picS f x0) ) sf_X2_blocks mw_448 ⟨(Nat.le_of_ble_eq_true rfl), (Nat.le_of_ble_eq_true rfl)⟩ rfl rfl rfl rfl (Nat.le_of_ble_eq_true rfl) dX6_look_77 ⟨(Nat.le_of_ble_eq_true rfl), (Nat.le_of_ble_eq_true rfl)⟩ ?_
              exact eM_i (g := g) hx hb hr hlocks (w1, w2) (by unfold qLk; rw [if_pos c_1, if_neg c_2, if_neg c_3, if_neg c_5, if_neg c_6, if_pos c_7]) (hP.sub [0, 1, 2, 3] rfl) (hD.sub [0, 1, 2, 3] (by decide) rfl) hS dX6_look_80
            · skip
              refine lv_tableOut (tgt := 81) hx hb dX6_look_19 (sw_out (lo := 0) (hi := 4) (fun k h1 h2 => by have hk : k = 0 ∨ k = 1 ∨ k = 2 ∨ k = 3 ∨ k = 4 := (by omega); rcases hk with rfl | rfl | rfl | rfl | rfl <;> assumption)) (by decide) ?_
              refine lv_bipush (v := (-2)) hx hb dX6_look_81 (by decide) ?_
              exact eM_i (g := g) hx hb hr hlocks (w1, w2) (by unfold qLk; rw [if_pos c_1, if_neg c_2, if_neg c_3, if_neg c_5, if_neg c_6, if_neg c_7]) (hP.sub [0, 1, 2, 3] rfl) (hD.sub [0, 1, 2, 3] (by decide) rfl) hS dX6_look_83
  · skip
    refine lv_iconst (v := (-1)) hx hb dX6_look_7 (by decide) ?_
    exact eM_i (g := g) hx hb hr hlocks (w1, w2) (by unfold qLk; rw [if_neg (nt_of c_1)]) (hP.sub [0, 1, 2, 3] rfl) (hD.sub [0, 1, 2, 3] (by decide) rfl) hS dX6_look_8
set_option maxHeartbeats 4000000 in
set_option maxRecDepth 100000 in
theorem c_X6_letter (l : Launch) (g : GG) (sz : Nat) (h0 : Nat) (x0 : Int32) (z0 : Int32) (a1 : Nat) (a2 : Nat) (a3 : Nat) (a4 : Nat) (a5 : Nat) (a6 : Nat) (a7 : Nat) (a8 : Nat) (sd : Int64) (b1 : Nat) (f : Nat → Int64) (w1 : Int32) (w2 : Int32)  : Met l yX6_letter (Cond.code yX6_letter cX6_letter 3 (some .int) :: wsL_law) ({ frames := 4, cells := 0, slots := 0, locals := 89 }) (PM g [.ref h0, .int x0, .int z0] [(h0, .inr (5, [.ref a1, .ref a2, .ref a3, .ref a4, .ref a5, .ref a6, .ref a7, .ref a8, .long sd])), (a1, .inr (1, [.ref b1])), (b1, .inl (gJ g, 3, .inr (.inl f))), (a7, .inr (4, [.int w1, .int w2]))] sz) (QAi g (fun (r : Int32) (u : Int32 × Int32) => r = qLe f x0 z0) (fun (u : Int32 × Int32) => [(h0, .inr (5, [.ref a1, .ref a2, .ref a3, .ref a4, .ref a5, .ref a6, .ref a7, .ref a8, .long sd])), (a1, .inr (1, [.ref b1])), (b1, .inl (gJ g, 3, .inr (.inl f))), (a7, .inr (4, [.int u.1, .int u.2]))]) (va_A [(h0, .inr (5, [.ref a1, .ref a2, .ref a3, .ref a4, .ref a5, .ref a6, .ref a7, .ref a8, .long sd])), (a1, .inr (1, [.ref b1])), (b1, .inl (gJ g, 3, .inr (.inl f))), (a7, .inr (4, [.int w1, .int w2]))] sz)) 0 0 (va_A [(h0, .inr (5, [.ref a1, .ref a2, .ref a3, .ref a4, .ref a5, .ref a6, .ref a7, .ref a8, .long sd])), (a1, .inr (1, [.ref b1])), (b1, .inl (gJ g, 3, .inr (.inl f))), (a7, .inr (4, [.int w1, .int w2]))] sz) := by
  refine Met.M (Qc := fun A => QAi g (fun (r : Int32) (u : Int32 × Int32) => r = qLe f x0 z0) (fun (u : Int32 × Int32) => [(h0, .inr (5, [.ref a1, .ref a2, .ref a3, .ref a4, .ref a5, .ref a6, .ref a7, .ref a8, .long sd])), (a1, .inr (1, [.ref b1])), (b1, .inl (gJ g, 3, .inr (.inl f))), (a7, .inr (4, [.int u.1, .int u.2]))]) A) (by decide) (Nat.le_of_ble_eq_true rfl) rfl ?_
  intro p e s m below meth c hx hb hr hml hw hown hlocks hin A hA hkn hP hD ls hl
  have hl : lv_has ls 3 [(0, .ref h0), (1, .int x0), (2, .int z0)] := hl
  have hS : va_S A s.heap s.heap [] := va_S.rf
  obtain ⟨H, hHe⟩ : ∃ H, H = s.heap := ⟨_, rfl⟩
  obtain ⟨locs, hLe⟩ : ∃ locs : List Loc, locs = [] := ⟨_, rfl⟩
  have hP : va_P g.1 vwCl [(h0, .inr (5, [.ref a1, .ref a2, .ref a3, .ref a4, .ref a5, .ref a6, .ref a7, .ref a8, .long sd])), (a1, .inr (1, [.ref b1])), (b1, .inl (gJ g, 3, .inr (.inl f))), (a7, .inr (4, [.int w1, .int w2]))] H := by rw [hHe]; exact hP
  have hS : va_S A s.heap H locs := by rw [hHe, hLe]; exact hS
  have hgo : W p l e ({ frames := 4, cells := 0, slots := 0, locals := 89 } : Room) s m ([.ref h0, .int x0, .int z0] : List Value).toArray below meth c H locs 0 0 (MQ below (QAi g (fun (r : Int32) (u : Int32 × Int32) => r = qLe f x0 z0) (fun (u : Int32 × Int32) => [(h0, .inr (5, [.ref a1, .ref a2, .ref a3, .ref a4, .ref a5, .ref a6, .ref a7, .ref a8, .long sd])), (a1, .inr (1, [.ref b1])), (b1, .inl (gJ g, 3, .inr (.inl f))), (a7, .inr (4, [.int u.1, .int u.2]))]) A) ([.ref h0, .int x0, .int z0] : List Value).toArray s 0 0 A) (F0 m 0 ls []) := ?_
  · rw [hHe, hLe] at hgo; exact hgo
  clear hHe hLe
  refine lv_iload_n hx hb dX6_letter_0 rfl (lv_at hl 1 rfl) ?_
  refine cS_i (As := [.int x0]) (rest := []) hx hb hml hown hw hkn hS hl (c_X6_isPicture l g _ x0 ) sf_X6_isPicture mw_207 ⟨(Nat.le_of_ble_eq_true rfl), (Nat.le_of_ble_eq_true rfl)⟩ rfl rfl rfl rfl (Nat.le_of_ble_eq_true rfl) dX6_letter_1 ⟨(Nat.le_of_ble_eq_true rfl), (Nat.le_of_ble_eq_true rfl)⟩ ?_
  refine lv_ifneB (b := isPic x0) (tgt := 9) hx hb dX6_letter_4 (by decide) (fun c_1 => ?_) (fun c_1 => ?_)
  · skip
    refine lv_aload_n hx hb dX6_letter_9 rfl (lv_at hl 0 rfl) ?_
    refine va_get (D := g.1) (ci := 5) (v := .ref a7) (C := RX6) (T := TX6) (N := 9) hx hb hw inlX6 hown hkn.1 hP 0 rfl rfl 6 (by decide) (hw _ mw_34) (fun _ h9 => h9) rfl dX6_letter_10 ?_
    refine lv_aload_n hx hb dX6_letter_13 rfl (lv_at hl 0 rfl) ?_
    refine va_get (D := g.1) (ci := 5) (v := .ref a1) (C := RX6) (T := TX6) (N := 9) hx hb hw inlX6 hown hkn.1 hP 0 rfl rfl 0 (by decide) (hw _ mw_16) (fun _ h9 => h9) rfl dX6_letter_14 ?_
    refine lv_iload_n hx hb dX6_letter_17 rfl (lv_at hl 1 rfl) ?_
    refine cV_l (As := [.int x0]) (rest := [.ref a7]) hx hb hml hown hw hkn hS hl (c_X1_cells l g _ a1 x0 b1 f  (hP.sub [1, 2] rfl)) vf_X1_cells mw_218 (va_recv hkn.1 hP (ci := 1) (q0 := 1) rfl rfl) ⟨(Nat.le_of_ble_eq_true rfl), (Nat.le_of_ble_eq_true rfl)⟩ rfl rfl rfl rfl (Nat.le_of_ble_eq_true rfl) dX6_letter_18 ⟨(Nat.le_of_ble_eq_true rfl), (Nat.le_of_ble_eq_true rfl)⟩ ?_
    refine lv_iload_n hx hb dX6_letter_21 rfl (lv_at hl 2 rfl) ?_
    refine cVM_i (As := [.long (picS f x0), .int z0]) (rest := []) (q0 := 0) (wc := [(a7, .inr (4, [.int w1, .int w2]))]) (wr := [(h0, .inr (5, [.ref a1, .ref a2, .ref a3, .ref a4, .ref a5, .ref a6, .ref a7, .ref a8, .long sd])), (a1, .inr (1, [.ref b1])), (b1, .inl (gJ g, 3, .inr (.inl f)))]) hx hb hml hown hw hkn hS hl hA hP hD [3] [0, 1, 2] rfl rfl (by decide) (by decide) (by decide) (c_X5_leastLetter l g _ a7 (picS f x0) z0 w1 w2 ) vf_X5_leastLetter mw_487 rfl rfl ⟨(Nat.le_of_ble_eq_true rfl), (Nat.le_of_ble_eq_true rfl)⟩ rfl rfl rfl rfl (Nat.le_of_ble_eq_true rfl) dX6_letter_22 ⟨(Nat.le_of_ble_eq_true rfl), (Nat.le_of_ble_eq_true rfl)⟩ (fun r u H locs hq hP hD hS => ?_)
    obtain ⟨y1_2, y2_2⟩ := u
    dsimp only at hq hP hD
    have hq : r = (llS (picS f x0) z0) := hq
    subst hq
    have hP : va_P g.1 vwCl [(h0, .inr (5, [.ref a1, .ref a2, .ref a3, .ref a4, .ref a5, .ref a6, .ref a7, .ref a8, .long sd])), (a1, .inr (1, [.ref b1])), (b1, .inl (gJ g, 3, .inr (.inl f))), (a7, .inr (4, [.int y1_2, .int y2_2]))] H := hP.sub [0, 1, 2, 3] rfl
    have hD : va_D A [(h0, .inr (5, [.ref a1, .ref a2, .ref a3, .ref a4, .ref a5, .ref a6, .ref a7, .ref a8, .long sd])), (a1, .inr (1, [.ref b1])), (b1, .inl (gJ g, 3, .inr (.inl f))), (a7, .inr (4, [.int y1_2, .int y2_2]))] := hD.sub [0, 1, 2, 3] (by decide) rfl
    exact eM_i (g := g) hx hb hr hlocks (y1_2, y2_2) (by unfold qLe; rw [if_pos c_1]) (hP.sub [0, 1, 2, 3] rfl) (hD.sub [0, 1, 2, 3] (by decide) rfl) hS dX6_letter_25
  · skip
    refine lv_iconst (v := (-1)) hx hb dX6_letter_7 (by decide) ?_
    exact eM_i (g := g) hx hb hr hlocks (w1, w2) (by unfold qLe; rw [if_neg (nt_of c_1)]) (hP.sub [0, 1, 2, 3] rfl) (hD.sub [0, 1, 2, 3] (by decide) rfl) hS dX6_letter_8
set_option maxHeartbeats 4000000 in
set_option maxRecDepth 100000 in
theorem c_X6_at (l : Launch) (g : GG) (H : Heap) (h0 : Nat) (x0 : Int32) (k0 : Int32) (z0 : Int32) (a1 : Nat) (a2 : Nat) (a3 : Nat) (a4 : Nat) (a5 : Nat) (a6 : Nat) (a7 : Nat) (a8 : Nat) (sd : Int64) (b1 : Nat) (f : Nat → Int64)  (hP : va_P g.1 vwCl [(h0, .inr (5, [.ref a1, .ref a2, .ref a3, .ref a4, .ref a5, .ref a6, .ref a7, .ref a8, .long sd])), (a1, .inr (1, [.ref b1])), (b1, .inl (gJ g, 3, .inr (.inl f)))] H) : Met l yX6_at (Cond.code yX6_at cX6_at 6 (some .int) :: wsL_law) ({ frames := 2, cells := 0, slots := 0, locals := 48 }) (PR g [.ref h0, .int x0, .int k0, .int z0] H) (QRi (qAt f x0 k0 z0) H) 0 0 NoA := by
  refine Met.R (by decide) (Nat.le_of_ble_eq_true rfl) rfl ?_
  intro p e s m below meth c hx hb hr hml hw hown hlocks hkn hH ls hl
  subst hH
  have hl : lv_has ls 6 [(0, .ref h0), (1, .int x0), (2, .int k0), (3, .int z0)] := hl
  have hS : va_S NoA s.heap s.heap [] := va_S.rf
  refine lv_iload_n hx hb dX6_at_0 rfl (lv_at hl 1 rfl) ?_
  refine cS_i (As := [.int x0]) (rest := []) hx hb hml hown hw hkn hS hl (c_X6_isPicture l g _ x0 ) sf_X6_isPicture mw_207 ⟨(Nat.le_of_ble_eq_true rfl), (Nat.le_of_ble_eq_true rfl)⟩ rfl rfl rfl rfl (Nat.le_of_ble_eq_true rfl) dX6_at_1 ⟨(Nat.le_of_ble_eq_true rfl), (Nat.le_of_ble_eq_true rfl)⟩ ?_
  refine lv_ifeqB (b := isPic x0) (tgt := 14) hx hb dX6_at_4 (by decide) (fun c_1 => ?_) (fun c_1 => ?_)
  · skip
    refine lv_iconst (v := (-1)) hx hb dX6_at_14 (by decide) ?_
    exact eR_i hx hb hr hlocks (by unfold qAt; rw [if_neg (nt_of c_1)]) dX6_at_15
  · skip
    refine lv_iload_n hx hb dX6_at_7 rfl (lv_at hl 2 rfl) ?_
    refine cS_i (As := [.int k0]) (rest := []) hx hb hml hown hw hkn hS hl (c_X6_isCell l g _ k0 ) sf_X6_isCell mw_499 ⟨(Nat.le_of_ble_eq_true rfl), (Nat.le_of_ble_eq_true rfl)⟩ rfl rfl rfl rfl (Nat.le_of_ble_eq_true rfl) dX6_at_8 ⟨(Nat.le_of_ble_eq_true rfl), (Nat.le_of_ble_eq_true rfl)⟩ ?_
    refine lv_ifneB (b := isCel k0) (tgt := 16) hx hb dX6_at_11 (by decide) (fun c_2 => ?_) (fun c_2 => ?_)
    · skip
      obtain ⟨k9, hk9, ek9⟩ := isCel_of c_2
      have hdl := depS_le (picS f x0) k9
      refine lv_aload_n hx hb dX6_at_16 rfl (lv_at hl 0 rfl) ?_
      refine va_get (D := g.1) (ci := 5) (v := .ref a1) (C := RX6) (T := TX6) (N := 9) hx hb hw inlX6 hown hkn.1 hP 0 rfl rfl 0 (by decide) (hw _ mw_16) (fun _ h9 => h9) rfl dX6_at_17 ?_
      refine lv_iload_n hx hb dX6_at_20 rfl (lv_at hl 1 rfl) ?_
      refine cV_l (As := [.int x0]) (rest := []) hx hb hml hown hw hkn hS hl (c_X1_cells l g _ a1 x0 b1 f  (hP.sub [1, 2] rfl)) vf_X1_cells mw_218 (va_recv hkn.1 hP (ci := 1) (q0 := 1) rfl rfl) ⟨(Nat.le_of_ble_eq_true rfl), (Nat.le_of_ble_eq_true rfl)⟩ rfl rfl rfl rfl (Nat.le_of_ble_eq_true rfl) dX6_at_21 ⟨(Nat.le_of_ble_eq_true rfl), (Nat.le_of_ble_eq_true rfl)⟩ ?_
      refine lv_lstore (lv' := [(4, .long (picS f x0)), (0, .ref h0), (1, .int x0), (2, .int k0), (3, .int z0)]) hx hb dX6_at_24 hl (by decide) rfl (fun ls hl => ?_)
      refine lv_iload_n hx hb dX6_at_26 rfl (lv_at hl 4 rfl) ?_
      by_cases c_3 : z0 = 0
      · skip
        refine lv_tableIn (off := 25) (tgt := 52) hx hb dX6_at_27 (by rw [c_3]; decide) (by rw [c_3]; decide) (by rw [c_3]; rfl) (by decide) ?_
        refine lv_lload hx hb dX6_at_52 (lv_at hl 0 rfl) ?_
        refine lv_iload_n hx hb dX6_at_54 rfl (lv_at hl 3 rfl) ?_
        refine lv_eqi (show _ = (nI k9) from ek9) ?_
        refine cS_i (As := [.long (picS f x0), .int (nI k9)]) (rest := []) hx hb hml hown hw hkn hS hl (c_X2_isBlack l g _ (picS f x0) k9 (by omega)) sf_X2_isBlack mw_502 ⟨(Nat.le_of_ble_eq_true rfl), (Nat.le_of_ble_eq_true rfl)⟩ rfl rfl rfl rfl (Nat.le_of_ble_eq_true rfl) dX6_at_55 ⟨(Nat.le_of_ble_eq_true rfl), (Nat.le_of_ble_eq_true rfl)⟩ ?_
        refine lv_ifeqB (b := bt (picS f x0) k9) (tgt := 65) hx hb dX6_at_58 (by decide) (fun c_4 => ?_) (fun c_4 => ?_)
        · skip
          refine lv_iconst (v := 0) hx hb dX6_at_65 (by decide) ?_
          exact eR_i hx hb hr hlocks (by unfold qAt; rw [if_pos c_1, if_pos c_2, if_pos c_3, ek9, nI_clamp (by omega), c_4]; rfl) dX6_at_66
        · skip
          refine lv_iconst (v := 1) hx hb dX6_at_61 (by decide) ?_
          refine lv_goto (tgt := 66) hx hb dX6_at_62 (by decide) ?_
          exact eR_i hx hb hr hlocks (by unfold qAt; rw [if_pos c_1, if_pos c_2, if_pos c_3, ek9, nI_clamp (by omega), c_4]; rfl) dX6_at_66
      · skip
        by_cases c_5 : z0 = 1
        · skip
          refine lv_tableIn (off := 40) (tgt := 67) hx hb dX6_at_27 (by rw [c_5]; decide) (by rw [c_5]; decide) (by rw [c_5]; rfl) (by decide) ?_
          refine lv_lload hx hb dX6_at_67 (lv_at hl 0 rfl) ?_
          refine lv_iload_n hx hb dX6_at_69 rfl (lv_at hl 3 rfl) ?_
          refine lv_eqi (show _ = (nI k9) from ek9) ?_
          refine cS_i (As := [.long (picS f x0), .int (nI k9)]) (rest := []) hx hb hml hown hw hkn hS hl (c_X2_depthAt l g _ (picS f x0) k9 (by omega)) sf_X2_depthAt mw_503 ⟨(Nat.le_of_ble_eq_true rfl), (Nat.le_of_ble_eq_true rfl)⟩ rfl rfl rfl rfl (Nat.le_of_ble_eq_true rfl) dX6_at_70 ⟨(Nat.le_of_ble_eq_true rfl), (Nat.le_of_ble_eq_true rfl)⟩ ?_
          exact eR_i hx hb hr hlocks (by unfold qAt; rw [if_pos c_1, if_pos c_2, if_neg c_3, if_pos c_5, ek9, nI_clamp (by omega)]) dX6_at_73
        · skip
          by_cases c_6 : z0 = 2
          · skip
            refine lv_tableIn (off := 47) (tgt := 74) hx hb dX6_at_27 (by rw [c_6]; decide) (by rw [c_6]; decide) (by rw [c_6]; rfl) (by decide) ?_
            refine lv_lload hx hb dX6_at_74 (lv_at hl 0 rfl) ?_
            refine lv_iload_n hx hb dX6_at_76 rfl (lv_at hl 3 rfl) ?_
            refine lv_eqi (show _ = (nI k9) from ek9) ?_
            refine lv_lload hx hb dX6_at_77 (lv_at hl 0 rfl) ?_
            refine lv_iload_n hx hb dX6_at_79 rfl (lv_at hl 3 rfl) ?_
            refine lv_eqi (show _ = (nI k9) from ek9) ?_
            refine cS_i (As := [.long (picS f x0), .int (nI k9)]) (rest := [.int (nI k9), .long (picS f x0)]) hx hb hml hown hw hkn hS hl (c_X2_depthAt l g _ (picS f x0) k9 (by omega)) sf_X2_depthAt mw_503 ⟨(Nat.le_of_ble_eq_true rfl), (Nat.le_of_ble_eq_true rfl)⟩ rfl rfl rfl rfl (Nat.le_of_ble_eq_true rfl) dX6_at_80 ⟨(Nat.le_of_ble_eq_true rfl), (Nat.le_of_ble_eq_true rfl)⟩ ?_
            refine cS_l (As := [.int (nI k9), .int (nI (depS (picS f x0) k9))]) (rest := [.long (picS f x0)]) hx hb hml hown hw hkn hS hl (c_X2_squareOf l g _ k9 (depS (picS f x0) k9) (by omega) (by omega)) sf_X2_squareOf mw_507 ⟨(Nat.le_of_ble_eq_true rfl), (Nat.le_of_ble_eq_true rfl)⟩ rfl rfl rfl rfl (Nat.le_of_ble_eq_true rfl) dX6_at_83 ⟨(Nat.le_of_ble_eq_true rfl), (Nat.le_of_ble_eq_true rfl)⟩ ?_
            refine cS_i (As := [.long (picS f x0), .long (sqS k9 (depS (picS f x0) k9))]) (rest := []) hx hb hml hown hw hkn hS hl (c_X2_sign l g _ (picS f x0) (sqS k9 (depS (picS f x0) k9)) ) sf_X2_sign mw_508 ⟨(Nat.le_of_ble_eq_true rfl), (Nat.le_of_ble_eq_true rfl)⟩ rfl rfl rfl rfl (Nat.le_of_ble_eq_true rfl) dX6_at_86 ⟨(Nat.le_of_ble_eq_true rfl), (Nat.le_of_ble_eq_true rfl)⟩ ?_
            exact eR_i hx hb hr hlocks (by unfold qAt; rw [if_pos c_1, if_pos c_2, if_neg c_3, if_neg c_5, if_pos c_6, ek9, nI_clamp (by omega)]) dX6_at_89
          · skip
            refine lv_tableOut (tgt := 90) hx hb dX6_at_27 (sw_out (lo := 0) (hi := 2) (fun k h1 h2 => by have hk : k = 0 ∨ k = 1 ∨ k = 2 := (by omega); rcases hk with rfl | rfl | rfl <;> assumption)) (by decide) ?_
            refine lv_bipush (v := (-2)) hx hb dX6_at_90 (by decide) ?_
            exact eR_i hx hb hr hlocks (by unfold qAt; rw [if_pos c_1, if_pos c_2, if_neg c_3, if_neg c_5, if_neg c_6]) dX6_at_92
    · skip
      refine lv_iconst (v := (-1)) hx hb dX6_at_14 (by decide) ?_
      exact eR_i hx hb hr hlocks (by unfold qAt; rw [if_pos c_1, if_neg (nt_of c_2)]) dX6_at_15
set_option maxHeartbeats 4000000 in
set_option maxRecDepth 100000 in
theorem c_X6_alike (l : Launch) (g : GG) (H : Heap) (h0 : Nat) (x0 : Int32) (y0 : Int32) (a1 : Nat) (a2 : Nat) (a3 : Nat) (a4 : Nat) (a5 : Nat) (a6 : Nat) (a7 : Nat) (a8 : Nat) (sd : Int64) (b1 : Nat) (f : Nat → Int64)  (hP : va_P g.1 vwCl [(h0, .inr (5, [.ref a1, .ref a2, .ref a3, .ref a4, .ref a5, .ref a6, .ref a7, .ref a8, .long sd])), (a1, .inr (1, [.ref b1])), (b1, .inl (gJ g, 3, .inr (.inl f)))] H) : Met l yX6_alike (Cond.code yX6_alike cX6_alike 3 (some .int) :: wsL_law) ({ frames := 5, cells := 0, slots := 0, locals := 120 }) (PR g [.ref h0, .int x0, .int y0] H) (QRi (qAl f x0 y0) H) 0 0 NoA := by
  refine Met.R (by decide) (Nat.le_of_ble_eq_true rfl) rfl ?_
  intro p e s m below meth c hx hb hr hml hw hown hlocks hkn hH ls hl
  subst hH
  have hl : lv_has ls 3 [(0, .ref h0), (1, .int x0), (2, .int y0)] := hl
  have hS : va_S NoA s.heap s.heap [] := va_S.rf
  refine lv_iload_n hx hb dX6_alike_0 rfl (lv_at hl 1 rfl) ?_
  refine cS_i (As := [.int x0]) (rest := []) hx hb hml hown hw hkn hS hl (c_X6_isPicture l g _ x0 ) sf_X6_isPicture mw_207 ⟨(Nat.le_of_ble_eq_true rfl), (Nat.le_of_ble_eq_true rfl)⟩ rfl rfl rfl rfl (Nat.le_of_ble_eq_true rfl) dX6_alike_1 ⟨(Nat.le_of_ble_eq_true rfl), (Nat.le_of_ble_eq_true rfl)⟩ ?_
  refine lv_ifeqB (b := isPic x0) (tgt := 14) hx hb dX6_alike_4 (by decide) (fun c_1 => ?_) (fun c_1 => ?_)
  · skip
    refine lv_iconst (v := (-1)) hx hb dX6_alike_14 (by decide) ?_
    exact eR_i hx hb hr hlocks (by unfold qAl; rw [if_neg (nt_of c_1)]) dX6_alike_15
  · skip
    refine lv_iload_n hx hb dX6_alike_7 rfl (lv_at hl 2 rfl) ?_
    refine cS_i (As := [.int y0]) (rest := []) hx hb hml hown hw hkn hS hl (c_X6_isPicture l g _ y0 ) sf_X6_isPicture mw_207 ⟨(Nat.le_of_ble_eq_true rfl), (Nat.le_of_ble_eq_true rfl)⟩ rfl rfl rfl rfl (Nat.le_of_ble_eq_true rfl) dX6_alike_8 ⟨(Nat.le_of_ble_eq_true rfl), (Nat.le_of_ble_eq_true rfl)⟩ ?_
    refine lv_ifneB (b := isPic y0) (tgt := 16) hx hb dX6_alike_11 (by decide) (fun c_2 => ?_) (fun c_2 => ?_)
    · skip
      refine lv_aload_n hx hb dX6_alike_16 rfl (lv_at hl 0 rfl) ?_
      refine va_get (D := g.1) (ci := 5) (v := .ref a1) (C := RX6) (T := TX6) (N := 9) hx hb hw inlX6 hown hkn.1 hP 0 rfl rfl 0 (by decide) (hw _ mw_16) (fun _ h9 => h9) rfl dX6_alike_17 ?_
      refine lv_iload_n hx hb dX6_alike_20 rfl (lv_at hl 1 rfl) ?_
      refine cV_l (As := [.int x0]) (rest := []) hx hb hml hown hw hkn hS hl (c_X1_cells l g _ a1 x0 b1 f  (hP.sub [1, 2] rfl)) vf_X1_cells mw_218 (va_recv hkn.1 hP (ci := 1) (q0 := 1) rfl rfl) ⟨(Nat.le_of_ble_eq_true rfl), (Nat.le_of_ble_eq_true rfl)⟩ rfl rfl rfl rfl (Nat.le_of_ble_eq_true rfl) dX6_alike_21 ⟨(Nat.le_of_ble_eq_true rfl), (Nat.le_of_ble_eq_true rfl)⟩ ?_
      refine lv_aload_n hx hb dX6_alike_24 rfl (lv_at hl 0 rfl) ?_
      refine va_get (D := g.1) (ci := 5) (v := .ref a1) (C := RX6) (T := TX6) (N := 9) hx hb hw inlX6 hown hkn.1 hP 0 rfl rfl 0 (by decide) (hw _ mw_16) (fun _ h9 => h9) rfl dX6_alike_25 ?_
      refine lv_iload_n hx hb dX6_alike_28 rfl (lv_at hl 2 rfl) ?_
      refine cV_l (As := [.int y0]) (rest := [.long (picS f x0)]) hx hb hml hown hw hkn hS hl (c_X1_cells l g _ a1 y0 b1 f  (hP.sub [1, 2] rfl)) vf_X1_cells mw_218 (va_recv hkn.1 hP (ci := 1) (q0 := 1) rfl rfl) ⟨(Nat.le_of_ble_eq_true rfl), (Nat.le_of_ble_eq_true rfl)⟩ rfl rfl rfl rfl (Nat.le_of_ble_eq_true rfl) dX6_alike_29 ⟨(Nat.le_of_ble_eq_true rfl), (Nat.le_of_ble_eq_true rfl)⟩ ?_
      refine cS_i (As := [.long (picS f x0), .long (picS f y0)]) (rest := []) hx hb hml hown hw hkn hS hl (c_X2_waysAlike l g _ (picS f x0) (picS f y0) ) sf_X2_waysAlike mw_518 ⟨(Nat.le_of_ble_eq_true rfl), (Nat.le_of_ble_eq_true rfl)⟩ rfl rfl rfl rfl (Nat.le_of_ble_eq_true rfl) dX6_alike_32 ⟨(Nat.le_of_ble_eq_true rfl), (Nat.le_of_ble_eq_true rfl)⟩ ?_
      exact eR_i hx hb hr hlocks (by unfold qAl; rw [if_pos c_1, if_pos c_2]) dX6_alike_35
    · skip
      refine lv_iconst (v := (-1)) hx hb dX6_alike_14 (by decide) ?_
      exact eR_i hx hb hr hlocks (by unfold qAl; rw [if_pos c_1, if_neg (nt_of c_2)]) dX6_alike_15
set_option maxHeartbeats 4000000 in
set_option maxRecDepth 100000 in
theorem c_X6_near (l : Launch) (g : GG) (H : Heap) (h0 : Nat) (x0 : Int32) (y0 : Int32) (z0 : Int32) (a1 : Nat) (a2 : Nat) (a3 : Nat) (a4 : Nat) (a5 : Nat) (a6 : Nat) (a7 : Nat) (a8 : Nat) (sd : Int64) (b1 : Nat) (f : Nat → Int64)  (hP : va_P g.1 vwCl [(h0, .inr (5, [.ref a1, .ref a2, .ref a3, .ref a4, .ref a5, .ref a6, .ref a7, .ref a8, .long sd])), (a1, .inr (1, [.ref b1])), (b1, .inl (gJ g, 3, .inr (.inl f)))] H) : Met l yX6_near (Cond.code yX6_near cX6_near 5 (some .int) :: wsL_law) ({ frames := 5, cells := 0, slots := 0, locals := 122 }) (PR g [.ref h0, .int x0, .int y0, .int z0] H) (QRi (qNe f x0 y0 z0) H) 0 0 NoA := by
  refine Met.R (by decide) (Nat.le_of_ble_eq_true rfl) rfl ?_
  intro p e s m below meth c hx hb hr hml hw hown hlocks hkn hH ls hl
  subst hH
  have hl : lv_has ls 5 [(0, .ref h0), (1, .int x0), (2, .int y0), (3, .int z0)] := hl
  have hS : va_S NoA s.heap s.heap [] := va_S.rf
  refine lv_iload_n hx hb dX6_near_0 rfl (lv_at hl 1 rfl) ?_
  refine cS_i (As := [.int x0]) (rest := []) hx hb hml hown hw hkn hS hl (c_X6_isPicture l g _ x0 ) sf_X6_isPicture mw_207 ⟨(Nat.le_of_ble_eq_true rfl), (Nat.le_of_ble_eq_true rfl)⟩ rfl rfl rfl rfl (Nat.le_of_ble_eq_true rfl) dX6_near_1 ⟨(Nat.le_of_ble_eq_true rfl), (Nat.le_of_ble_eq_true rfl)⟩ ?_
  refine lv_ifeqB (b := isPic x0) (tgt := 14) hx hb dX6_near_4 (by decide) (fun c_1 => ?_) (fun c_1 => ?_)
  · skip
    refine lv_iconst (v := (-1)) hx hb dX6_near_14 (by decide) ?_
    exact eR_i hx hb hr hlocks (by unfold qNe; rw [if_neg (nt_of c_1)]) dX6_near_15
  · skip
    refine lv_iload_n hx hb dX6_near_7 rfl (lv_at hl 2 rfl) ?_
    refine cS_i (As := [.int y0]) (rest := []) hx hb hml hown hw hkn hS hl (c_X6_isPicture l g _ y0 ) sf_X6_isPicture mw_207 ⟨(Nat.le_of_ble_eq_true rfl), (Nat.le_of_ble_eq_true rfl)⟩ rfl rfl rfl rfl (Nat.le_of_ble_eq_true rfl) dX6_near_8 ⟨(Nat.le_of_ble_eq_true rfl), (Nat.le_of_ble_eq_true rfl)⟩ ?_
    refine lv_ifneB (b := isPic y0) (tgt := 16) hx hb dX6_near_11 (by decide) (fun c_2 => ?_) (fun c_2 => ?_)
    · skip
      refine lv_iload_n hx hb dX6_near_16 rfl (lv_at hl 3 rfl) ?_
      refine lv_if_eq (tgt := 28) hx hb dX6_near_17 (by decide) (fun c_3 => ?_) (fun c_3 => ?_)
      · skip
        refine lv_aload_n hx hb dX6_near_28 rfl (lv_at hl 0 rfl) ?_
        refine va_get (D := g.1) (ci := 5) (v := .ref a1) (C := RX6) (T := TX6) (N := 9) hx hb hw inlX6 hown hkn.1 hP 0 rfl rfl 0 (by decide) (hw _ mw_16) (fun _ h9 => h9) rfl dX6_near_29 ?_
        refine lv_iload_n hx hb dX6_near_32 rfl (lv_at hl 1 rfl) ?_
        refine cV_l (As := [.int x0]) (rest := []) hx hb hml hown hw hkn hS hl (c_X1_cells l g _ a1 x0 b1 f  (hP.sub [1, 2] rfl)) vf_X1_cells mw_218 (va_recv hkn.1 hP (ci := 1) (q0 := 1) rfl rfl) ⟨(Nat.le_of_ble_eq_true rfl), (Nat.le_of_ble_eq_true rfl)⟩ rfl rfl rfl rfl (Nat.le_of_ble_eq_true rfl) dX6_near_33 ⟨(Nat.le_of_ble_eq_true rfl), (Nat.le_of_ble_eq_true rfl)⟩ ?_
        refine lv_aload_n hx hb dX6_near_36 rfl (lv_at hl 0 rfl) ?_
        refine va_get (D := g.1) (ci := 5) (v := .ref a1) (C := RX6) (T := TX6) (N := 9) hx hb hw inlX6 hown hkn.1 hP 0 rfl rfl 0 (by decide) (hw _ mw_16) (fun _ h9 => h9) rfl dX6_near_37 ?_
        refine lv_iload_n hx hb dX6_near_40 rfl (lv_at hl 2 rfl) ?_
        refine cV_l (As := [.int y0]) (rest := [.long (picS f x0)]) hx hb hml hown hw hkn hS hl (c_X1_cells l g _ a1 y0 b1 f  (hP.sub [1, 2] rfl)) vf_X1_cells mw_218 (va_recv hkn.1 hP (ci := 1) (q0 := 1) rfl rfl) ⟨(Nat.le_of_ble_eq_true rfl), (Nat.le_of_ble_eq_true rfl)⟩ rfl rfl rfl rfl (Nat.le_of_ble_eq_true rfl) dX6_near_41 ⟨(Nat.le_of_ble_eq_true rfl), (Nat.le_of_ble_eq_true rfl)⟩ ?_
        refine cS_i (As := [.long (picS f x0), .long (picS f y0)]) (rest := []) hx hb hml hown hw hkn hS hl (c_X2_nearestWay l g _ (picS f x0) (picS f y0) ) sf_X2_nearestWay mw_543 ⟨(Nat.le_of_ble_eq_true rfl), (Nat.le_of_ble_eq_true rfl)⟩ rfl rfl rfl rfl (Nat.le_of_ble_eq_true rfl) dX6_near_44 ⟨(Nat.le_of_ble_eq_true rfl), (Nat.le_of_ble_eq_true rfl)⟩ ?_
        refine lv_istore (lv' := [(4, .int (nI ((nwS (picS f x0) (picS f y0) 7).1))), (0, .ref h0), (1, .int x0), (2, .int y0), (3, .int z0)]) hx hb dX6_near_47 hl (by decide) rfl (fun ls hl => ?_)
        refine lv_iload_n hx hb dX6_near_49 rfl (lv_at hl 4 rfl) ?_
        refine lv_iconst (v := 1) hx hb dX6_near_50 (by decide) ?_
        refine lv_icmp_ne (tgt := 59) hx hb dX6_near_51 (by decide) (fun c_4 => ?_) (fun c_4 => ?_)
        · skip
          have hn8 := (nwS_le (picS f x0) (picS f y0) 7).1
          refine lv_aload_n hx hb dX6_near_59 rfl (lv_at hl 1 rfl) ?_
          refine va_get (D := g.1) (ci := 5) (v := .ref a1) (C := RX6) (T := TX6) (N := 9) hx hb hw inlX6 hown hkn.1 hP 0 rfl rfl 0 (by decide) (hw _ mw_16) (fun _ h9 => h9) rfl dX6_near_60 ?_
          refine lv_iload_n hx hb dX6_near_63 rfl (lv_at hl 2 rfl) ?_
          refine cV_l (As := [.int x0]) (rest := []) hx hb hml hown hw hkn hS hl (c_X1_cells l g _ a1 x0 b1 f  (hP.sub [1, 2] rfl)) vf_X1_cells mw_218 (va_recv hkn.1 hP (ci := 1) (q0 := 1) rfl rfl) ⟨(Nat.le_of_ble_eq_true rfl), (Nat.le_of_ble_eq_true rfl)⟩ rfl rfl rfl rfl (Nat.le_of_ble_eq_true rfl) dX6_near_64 ⟨(Nat.le_of_ble_eq_true rfl), (Nat.le_of_ble_eq_true rfl)⟩ ?_
          refine lv_aload_n hx hb dX6_near_67 rfl (lv_at hl 1 rfl) ?_
          refine va_get (D := g.1) (ci := 5) (v := .ref a1) (C := RX6) (T := TX6) (N := 9) hx hb hw inlX6 hown hkn.1 hP 0 rfl rfl 0 (by decide) (hw _ mw_16) (fun _ h9 => h9) rfl dX6_near_68 ?_
          refine lv_iload_n hx hb dX6_near_71 rfl (lv_at hl 3 rfl) ?_
          refine cV_l (As := [.int y0]) (rest := [.long (picS f x0)]) hx hb hml hown hw hkn hS hl (c_X1_cells l g _ a1 y0 b1 f  (hP.sub [1, 2] rfl)) vf_X1_cells mw_218 (va_recv hkn.1 hP (ci := 1) (q0 := 1) rfl rfl) ⟨(Nat.le_of_ble_eq_true rfl), (Nat.le_of_ble_eq_true rfl)⟩ rfl rfl rfl rfl (Nat.le_of_ble_eq_true rfl) dX6_near_72 ⟨(Nat.le_of_ble_eq_true rfl), (Nat.le_of_ble_eq_true rfl)⟩ ?_
          refine lv_iload hx hb dX6_near_75 (lv_at hl 0 rfl) ?_
          refine cS_i (As := [.long (picS f x0), .long (picS f y0), .int (nI ((nwS (picS f x0) (picS f y0) 7).1))]) (rest := []) hx hb hml hown hw hkn hS hl (c_X2_unlike l g _ (picS f x0) (picS f y0) ((nwS (picS f x0) (picS f y0) 7).1) (by omega)) sf_X2_unlike mw_546 ⟨(Nat.le_of_ble_eq_true rfl), (Nat.le_of_ble_eq_true rfl)⟩ rfl rfl rfl rfl (Nat.le_of_ble_eq_true rfl) dX6_near_77 ⟨(Nat.le_of_ble_eq_true rfl), (Nat.le_of_ble_eq_true rfl)⟩ ?_
          exact eR_i hx hb hr hlocks (by first | (unfold qNe; simp [c_1, c_2, c_3, c_4]; done) | exact absurd (c_3.symm.trans c_4) (by decide) | exact absurd c_5 c_6) dX6_near_80
        · skip
          refine lv_iload hx hb dX6_near_54 (lv_at hl 0 rfl) ?_
          refine lv_goto (tgt := 80) hx hb dX6_near_56 (by decide) ?_
          exact eR_i hx hb hr hlocks (by first | (unfold qNe; simp [c_1, c_2, c_3, c_4]; done) | exact absurd (c_3.symm.trans c_4) (by decide) | exact absurd c_5 c_6) dX6_near_80
      · skip
        refine lv_iload_n hx hb dX6_near_20 rfl (lv_at hl 3 rfl) ?_
        refine lv_iconst (v := 1) hx hb dX6_near_21 (by decide) ?_
        refine lv_icmp_eq (tgt := 28) hx hb dX6_near_22 (by decide) (fun c_5 => ?_) (fun c_5 => ?_)
        · skip
          refine lv_aload_n hx hb dX6_near_28 rfl (lv_at hl 0 rfl) ?_
          refine va_get (D := g.1) (ci := 5) (v := .ref a1) (C := RX6) (T := TX6) (N := 9) hx hb hw inlX6 hown hkn.1 hP 0 rfl rfl 0 (by decide) (hw _ mw_16) (fun _ h9 => h9) rfl dX6_near_29 ?_
          refine lv_iload_n hx hb dX6_near_32 rfl (lv_at hl 1 rfl) ?_
          refine cV_l (As := [.int x0]) (rest := []) hx hb hml hown hw hkn hS hl (c_X1_cells l g _ a1 x0 b1 f  (hP.sub [1, 2] rfl)) vf_X1_cells mw_218 (va_recv hkn.1 hP (ci := 1) (q0 := 1) rfl rfl) ⟨(Nat.le_of_ble_eq_true rfl), (Nat.le_of_ble_eq_true rfl)⟩ rfl rfl rfl rfl (Nat.le_of_ble_eq_true rfl) dX6_near_33 ⟨(Nat.le_of_ble_eq_true rfl), (Nat.le_of_ble_eq_true rfl)⟩ ?_
          refine lv_aload_n hx hb dX6_near_36 rfl (lv_at hl 0 rfl) ?_
          refine va_get (D := g.1) (ci := 5) (v := .ref a1) (C := RX6) (T := TX6) (N := 9) hx hb hw inlX6 hown hkn.1 hP 0 rfl rfl 0 (by decide) (hw _ mw_16) (fun _ h9 => h9) rfl dX6_near_37 ?_
          refine lv_iload_n hx hb dX6_near_40 rfl (lv_at hl 2 rfl) ?_
          refine cV_l (As := [.int y0]) (rest := [.long (picS f x0)]) hx hb hml hown hw hkn hS hl (c_X1_cells l g _ a1 y0 b1 f  (hP.sub [1, 2] rfl)) vf_X1_cells mw_218 (va_recv hkn.1 hP (ci := 1) (q0 := 1) rfl rfl) ⟨(Nat.le_of_ble_eq_true rfl), (Nat.le_of_ble_eq_true rfl)⟩ rfl rfl rfl rfl (Nat.le_of_ble_eq_true rfl) dX6_near_41 ⟨(Nat.le_of_ble_eq_true rfl), (Nat.le_of_ble_eq_true rfl)⟩ ?_
          refine cS_i (As := [.long (picS f x0), .long (picS f y0)]) (rest := []) hx hb hml hown hw hkn hS hl (c_X2_nearestWay l g _ (picS f x0) (picS f y0) ) sf_X2_nearestWay mw_543 ⟨(Nat.le_of_ble_eq_true rfl), (Nat.le_of_ble_eq_true rfl)⟩ rfl rfl rfl rfl (Nat.le_of_ble_eq_true rfl) dX6_near_44 ⟨(Nat.le_of_ble_eq_true rfl), (Nat.le_of_ble_eq_true rfl)⟩ ?_
          refine lv_istore (lv' := [(4, .int (nI ((nwS (picS f x0) (picS f y0) 7).1))), (0, .ref h0), (1, .int x0), (2, .int y0), (3, .int z0)]) hx hb dX6_near_47 hl (by decide) rfl (fun ls hl => ?_)
          refine lv_iload_n hx hb dX6_near_49 rfl (lv_at hl 4 rfl) ?_
          refine lv_iconst (v := 1) hx hb dX6_near_50 (by decide) ?_
          refine lv_icmp_ne (tgt := 59) hx hb dX6_near_51 (by decide) (fun c_6 => ?_) (fun c_6 => ?_)
          · skip
            have hn8 := (nwS_le (picS f x0) (picS f y0) 7).1
            refine lv_aload_n hx hb dX6_near_59 rfl (lv_at hl 1 rfl) ?_
            refine va_get (D := g.1) (ci := 5) (v := .ref a1) (C := RX6) (T := TX6) (N := 9) hx hb hw inlX6 hown hkn.1 hP 0 rfl rfl 0 (by decide) (hw _ mw_16) (fun _ h9 => h9) rfl dX6_near_60 ?_
            refine lv_iload_n hx hb dX6_near_63 rfl (lv_at hl 2 rfl) ?_
            refine cV_l (As := [.int x0]) (rest := []) hx hb hml hown hw hkn hS hl (c_X1_cells l g _ a1 x0 b1 f  (hP.sub [1, 2] rfl)) vf_X1_cells mw_218 (va_recv hkn.1 hP (ci := 1) (q0 := 1) rfl rfl) ⟨(Nat.le_of_ble_eq_true rfl), (Nat.le_of_ble_eq_true rfl)⟩ rfl rfl rfl rfl (Nat.le_of_ble_eq_true rfl) dX6_near_64 ⟨(Nat.le_of_ble_eq_true rfl), (Nat.le_of_ble_eq_true rfl)⟩ ?_
            refine lv_aload_n hx hb dX6_near_67 rfl (lv_at hl 1 rfl) ?_
            refine va_get (D := g.1) (ci := 5) (v := .ref a1) (C := RX6) (T := TX6) (N := 9) hx hb hw inlX6 hown hkn.1 hP 0 rfl rfl 0 (by decide) (hw _ mw_16) (fun _ h9 => h9) rfl dX6_near_68 ?_
            refine lv_iload_n hx hb dX6_near_71 rfl (lv_at hl 3 rfl) ?_
            refine cV_l (As := [.int y0]) (rest := [.long (picS f x0)]) hx hb hml hown hw hkn hS hl (c_X1_cells l g _ a1 y0 b1 f  (hP.sub [1, 2] rfl)) vf_X1_cells mw_218 (va_recv hkn.1 hP (ci := 1) (q0 := 1) rfl rfl) ⟨(Nat.le_of_ble_eq_true rfl), (Nat.le_of_ble_eq_true rfl)⟩ rfl rfl rfl rfl (Nat.le_of_ble_eq_true rfl) dX6_near_72 ⟨(Nat.le_of_ble_eq_true rfl), (Nat.le_of_ble_eq_true rfl)⟩ ?_
            refine lv_iload hx hb dX6_near_75 (lv_at hl 0 rfl) ?_
            refine cS_i (As := [.long (picS f x0), .long (picS f y0), .int (nI ((nwS (picS f x0) (picS f y0) 7).1))]) (rest := []) hx hb hml hown hw hkn hS hl (c_X2_unlike l g _ (picS f x0) (picS f y0) ((nwS (picS f x0) (picS f y0) 7).1) (by omega)) sf_X2_unlike mw_546 ⟨(Nat.le_of_ble_eq_true rfl), (Nat.le_of_ble_eq_true rfl)⟩ rfl rfl rfl rfl (Nat.le_of_ble_eq_true rfl) dX6_near_77 ⟨(Nat.le_of_ble_eq_true rfl), (Nat.le_of_ble_eq_true rfl)⟩ ?_
            exact eR_i hx hb hr hlocks (by first | (unfold qNe; simp [c_1, c_2, c_3, c_5, c_6]; done) | exact absurd (c_3.symm.trans c_4) (by decide) | exact absurd c_5 c_6) dX6_near_80
          · skip
            refine lv_iload hx hb dX6_near_54 (lv_at hl 0 rfl) ?_
            refine lv_goto (tgt := 80) hx hb dX6_near_56 (by decide) ?_
            exact eR_i hx hb hr hlocks (by first | (unfold qNe; simp [c_1, c_2, c_3, c_5, c_6]; done) | exact absurd (c_3.symm.trans c_4) (by decide) | exact absurd c_5 c_6) dX6_near_80
        · skip
          refine lv_bipush (v := (-2)) hx hb dX6_near_25 (by decide) ?_
          exact eR_i hx hb hr hlocks (by unfold qNe; rw [if_pos c_1, if_pos c_2, if_neg c_3, if_neg c_5]) dX6_near_27
    · skip
      refine lv_iconst (v := (-1)) hx hb dX6_near_14 (by decide) ?_
      exact eR_i hx hb hr hlocks (by unfold qNe; rw [if_pos c_1, if_neg (nt_of c_2)]) dX6_near_15
set_option maxHeartbeats 4000000 in
set_option maxRecDepth 100000 in
theorem c_X6_see (l : Launch) (g : GG) (sz : Nat) (h0 : Nat) (x0 : Int32) (y0 : Int32) (a1 : Nat) (a2 : Nat) (a3 : Nat) (a4 : Nat) (a5 : Nat) (a6 : Nat) (a7 : Nat) (a8 : Nat) (sd : Int64) (s1 : Nat) (s2 : Nat) (zn : Nat) (zc : Nat → Int32) (zz : Nat → Int32) (hzn : zn ≤ 6) : Met l yX6_see (Cond.code yX6_see cX6_see 3 (some .int) :: wsL_law) ({ frames := 1, cells := 0, slots := 0, locals := 22 }) (PM g [.ref h0, .int x0, .int y0] [(h0, .inr (5, [.ref a1, .ref a2, .ref a3, .ref a4, .ref a5, .ref a6, .ref a7, .ref a8, .long sd])), (a6, .inr (2, [.ref s1, .ref s2, .int (nI zn)])), (s1, .inl (gI g, 6, .inl zc)), (s2, .inl (gZ g, 6, .inl zz))] sz) (QAi g (fun (r : Int32) (u : Unit) => r = qSe x0 y0 zn) (fun (u : Unit) => [(h0, .inr (5, [.ref a1, .ref a2, .ref a3, .ref a4, .ref a5, .ref a6, .ref a7, .ref a8, .long sd])), (a6, .inr (2, [.ref s1, .ref s2, .int (nI (cond (qSeB x0 y0) (saN zn) zn))])), (s1, .inl (gI g, 6, .inl (cond (qSeB x0 y0) (saF zn zc x0) zc))), (s2, .inl (gZ g, 6, .inl (cond (qSeB x0 y0) (saF zn zz (b2i (decide (y0 = 1)))) zz)))]) (va_A [(h0, .inr (5, [.ref a1, .ref a2, .ref a3, .ref a4, .ref a5, .ref a6, .ref a7, .ref a8, .long sd])), (a6, .inr (2, [.ref s1, .ref s2, .int (nI zn)])), (s1, .inl (gI g, 6, .inl zc)), (s2, .inl (gZ g, 6, .inl zz))] sz)) 0 0 (va_A [(h0, .inr (5, [.ref a1, .ref a2, .ref a3, .ref a4, .ref a5, .ref a6, .ref a7, .ref a8, .long sd])), (a6, .inr (2, [.ref s1, .ref s2, .int (nI zn)])), (s1, .inl (gI g, 6, .inl zc)), (s2, .inl (gZ g, 6, .inl zz))] sz) := by
  refine Met.M (Qc := fun A => QAi g (fun (r : Int32) (u : Unit) => r = qSe x0 y0 zn) (fun (u : Unit) => [(h0, .inr (5, [.ref a1, .ref a2, .ref a3, .ref a4, .ref a5, .ref a6, .ref a7, .ref a8, .long sd])), (a6, .inr (2, [.ref s1, .ref s2, .int (nI (cond (qSeB x0 y0) (saN zn) zn))])), (s1, .inl (gI g, 6, .inl (cond (qSeB x0 y0) (saF zn zc x0) zc))), (s2, .inl (gZ g, 6, .inl (cond (qSeB x0 y0) (saF zn zz (b2i (decide (y0 = 1)))) zz)))]) A) (by decide) (Nat.le_of_ble_eq_true rfl) rfl ?_
  intro p e s m below meth c hx hb hr hml hw hown hlocks hin A hA hkn hP hD ls hl
  have hl : lv_has ls 3 [(0, .ref h0), (1, .int x0), (2, .int y0)] := hl
  have hS : va_S A s.heap s.heap [] := va_S.rf
  obtain ⟨H, hHe⟩ : ∃ H, H = s.heap := ⟨_, rfl⟩
  obtain ⟨locs, hLe⟩ : ∃ locs : List Loc, locs = [] := ⟨_, rfl⟩
  have hP : va_P g.1 vwCl [(h0, .inr (5, [.ref a1, .ref a2, .ref a3, .ref a4, .ref a5, .ref a6, .ref a7, .ref a8, .long sd])), (a6, .inr (2, [.ref s1, .ref s2, .int (nI zn)])), (s1, .inl (gI g, 6, .inl zc)), (s2, .inl (gZ g, 6, .inl zz))] H := by rw [hHe]; exact hP
  have hS : va_S A s.heap H locs := by rw [hHe, hLe]; exact hS
  have hgo : W p l e ({ frames := 1, cells := 0, slots := 0, locals := 22 } : Room) s m ([.ref h0, .int x0, .int y0] : List Value).toArray below meth c H locs 0 0 (MQ below (QAi g (fun (r : Int32) (u : Unit) => r = qSe x0 y0 zn) (fun (u : Unit) => [(h0, .inr (5, [.ref a1, .ref a2, .ref a3, .ref a4, .ref a5, .ref a6, .ref a7, .ref a8, .long sd])), (a6, .inr (2, [.ref s1, .ref s2, .int (nI (cond (qSeB x0 y0) (saN zn) zn))])), (s1, .inl (gI g, 6, .inl (cond (qSeB x0 y0) (saF zn zc x0) zc))), (s2, .inl (gZ g, 6, .inl (cond (qSeB x0 y0) (saF zn zz (b2i (decide (y0 = 1)))) zz)))]) A) ([.ref h0, .int x0, .int y0] : List Value).toArray s 0 0 A) (F0 m 0 ls []) := ?_
  · rw [hHe, hLe] at hgo; exact hgo
  clear hHe hLe
  refine lv_iload_n hx hb dX6_see_0 rfl (lv_at hl 1 rfl) ?_
  refine cS_i (As := [.int x0]) (rest := []) hx hb hml hown hw hkn hS hl (c_X6_isCell l g _ x0 ) sf_X6_isCell mw_499 ⟨(Nat.le_of_ble_eq_true rfl), (Nat.le_of_ble_eq_true rfl)⟩ rfl rfl rfl rfl (Nat.le_of_ble_eq_true rfl) dX6_see_1 ⟨(Nat.le_of_ble_eq_true rfl), (Nat.le_of_ble_eq_true rfl)⟩ ?_
  refine lv_ifneB (b := isCel x0) (tgt := 9) hx hb dX6_see_4 (by decide) (fun c_1 => ?_) (fun c_1 => ?_)
  · skip
    refine lv_iload_n hx hb dX6_see_9 rfl (lv_at hl 2 rfl) ?_
    refine lv_if_eq (tgt := 21) hx hb dX6_see_10 (by decide) (fun c_2 => ?_) (fun c_2 => ?_)
    · skip
      refine lv_aload_n hx hb dX6_see_21 rfl (lv_at hl 0 rfl) ?_
      refine va_get (D := g.1) (ci := 5) (v := .ref a6) (C := RX6) (T := TX6) (N := 9) hx hb hw inlX6 hown hkn.1 hP 0 rfl rfl 5 (by decide) (hw _ mw_30) (fun _ h9 => h9) rfl dX6_see_22 ?_
      refine lv_iload_n hx hb dX6_see_25 rfl (lv_at hl 1 rfl) ?_
      refine lv_iload_n hx hb dX6_see_26 rfl (lv_at hl 2 rfl) ?_
      refine lv_iconst (v := 1) hx hb dX6_see_27 (by decide) ?_
      have mg_36 : W p l e ({ frames := 1, cells := 0, slots := 0, locals := 22 } : Room) s m ([.ref h0, .int x0, .int y0] : List Value).toArray below meth c H locs 0 0 (MQ below (QAi g (fun (r : Int32) (u : Unit) => r = qSe x0 y0 zn) (fun (u : Unit) => [(h0, .inr (5, [.ref a1, .ref a2, .ref a3, .ref a4, .ref a5, .ref a6, .ref a7, .ref a8, .long sd])), (a6, .inr (2, [.ref s1, .ref s2, .int (nI (cond (qSeB x0 y0) (saN zn) zn))])), (s1, .inl (gI g, 6, .inl (cond (qSeB x0 y0) (saF zn zc x0) zc))), (s2, .inl (gZ g, 6, .inl (cond (qSeB x0 y0) (saF zn zz (b2i (decide (y0 = 1)))) zz)))]) A) ([.ref h0, .int x0, .int y0] : List Value).toArray s 0 0 A) (F0 m 36 ls (.int (if y0 = 1 then 1 else 0) :: [.int x0, .ref a6])) := by
        refine lv_eqi (show _ = (b2i (decide (y0 = 1))) from ifB) ?_
        refine cVM_i (As := [.int x0, .int (b2i (decide (y0 = 1)))]) (rest := []) (q0 := 0) (wc := [(a6, .inr (2, [.ref s1, .ref s2, .int (nI zn)])), (s1, .inl (gI g, 6, .inl zc)), (s2, .inl (gZ g, 6, .inl zz))]) (wr := [(h0, .inr (5, [.ref a1, .ref a2, .ref a3, .ref a4, .ref a5, .ref a6, .ref a7, .ref a8, .long sd]))]) hx hb hml hown hw hkn hS hl hA hP hD [1, 2, 3] [0] rfl rfl (by decide) (by decide) (by decide) (c_X3_add l g _ a6 x0 (decide (y0 = 1)) s1 s2 zn zc zz (by omega)) vf_X3_add mw_614 rfl rfl ⟨(Nat.le_of_ble_eq_true rfl), (Nat.le_of_ble_eq_true rfl)⟩ rfl rfl rfl rfl (Nat.le_of_ble_eq_true rfl) dX6_see_36 ⟨(Nat.le_of_ble_eq_true rfl), (Nat.le_of_ble_eq_true rfl)⟩ (fun r u H locs hq hP hD hS => ?_)
        have hq : r = (b2i (decide (zn < 6))) := hq
        subst hq
        have hP : va_P g.1 vwCl [(h0, .inr (5, [.ref a1, .ref a2, .ref a3, .ref a4, .ref a5, .ref a6, .ref a7, .ref a8, .long sd])), (a6, .inr (2, [.ref s1, .ref s2, .int (nI (saN zn))])), (s1, .inl (gI g, 6, .inl (saF zn zc x0))), (s2, .inl (gZ g, 6, .inl (saF zn zz (b2i (decide (y0 = 1))))))] H := hP.sub [0, 1, 2, 3] rfl
        have hD : va_D A [(h0, .inr (5, [.ref a1, .ref a2, .ref a3, .ref a4, .ref a5, .ref a6, .ref a7, .ref a8, .long sd])), (a6, .inr (2, [.ref s1, .ref s2, .int (nI (saN zn))])), (s1, .inl (gI g, 6, .inl (saF zn zc x0))), (s2, .inl (gZ g, 6, .inl (saF zn zz (b2i (decide (y0 = 1))))))] := hD.sub [0, 1, 2, 3] (by decide) rfl
        refine lv_ifeqB (b := decide (zn < 6)) (tgt := 52) hx hb dX6_see_39 (by decide) (fun c_4 => ?_) (fun c_4 => ?_)
        · skip
          refine lv_bipush (v := (-4)) hx hb dX6_see_52 (by decide) ?_
          have eb : qSeB x0 y0 = true := by unfold qSeB; simp [c_1, c_2, c_4]
          exact eM_i (g := g) hx hb hr hlocks () (by unfold qSe; simp [c_1, c_2, c_4]) (show va_P g.1 vwCl [(h0, .inr (5, [.ref a1, .ref a2, .ref a3, .ref a4, .ref a5, .ref a6, .ref a7, .ref a8, .long sd])), (a6, .inr (2, [.ref s1, .ref s2, .int (nI (cond (qSeB x0 y0) (saN zn) zn))])), (s1, .inl (gI g, 6, .inl (cond (qSeB x0 y0) (saF zn zc x0) zc))), (s2, .inl (gZ g, 6, .inl (cond (qSeB x0 y0) (saF zn zz (b2i (decide (y0 = 1)))) zz)))] H by rw [eb]; exact hP.sub [0, 1, 2, 3] rfl) (show va_D A [(h0, .inr (5, [.ref a1, .ref a2, .ref a3, .ref a4, .ref a5, .ref a6, .ref a7, .ref a8, .long sd])), (a6, .inr (2, [.ref s1, .ref s2, .int (nI (cond (qSeB x0 y0) (saN zn) zn))])), (s1, .inl (gI g, 6, .inl (cond (qSeB x0 y0) (saF zn zc x0) zc))), (s2, .inl (gZ g, 6, .inl (cond (qSeB x0 y0) (saF zn zz (b2i (decide (y0 = 1)))) zz)))] by rw [eb]; exact hD.sub [0, 1, 2, 3] (by decide) rfl) hS dX6_see_54
        · skip
          refine lv_aload_n hx hb dX6_see_42 rfl (lv_at hl 0 rfl) ?_
          refine va_get (D := g.1) (ci := 5) (v := .ref a6) (C := RX6) (T := TX6) (N := 9) hx hb hw inlX6 hown hkn.1 hP 0 rfl rfl 5 (by decide) (hw _ mw_30) (fun _ h9 => h9) rfl dX6_see_43 ?_
          refine cV_i (As := []) (rest := []) hx hb hml hown hw hkn hS hl (c_X3_size l g _ a6 s1 s2 (saN zn)  (hP.sub [1] rfl)) vf_X3_size mw_618 (va_recv hkn.1 hP (ci := 2) (q0 := 1) rfl rfl) ⟨(Nat.le_of_ble_eq_true rfl), (Nat.le_of_ble_eq_true rfl)⟩ rfl rfl rfl rfl (Nat.le_of_ble_eq_true rfl) dX6_see_46 ⟨(Nat.le_of_ble_eq_true rfl), (Nat.le_of_ble_eq_true rfl)⟩ ?_
          refine lv_goto (tgt := 54) hx hb dX6_see_49 (by decide) ?_
          have eb : qSeB x0 y0 = true := by unfold qSeB; simp [c_1, c_2, c_4]
          exact eM_i (g := g) hx hb hr hlocks () (by unfold qSe; simp [c_1, c_2, c_4]) (show va_P g.1 vwCl [(h0, .inr (5, [.ref a1, .ref a2, .ref a3, .ref a4, .ref a5, .ref a6, .ref a7, .ref a8, .long sd])), (a6, .inr (2, [.ref s1, .ref s2, .int (nI (cond (qSeB x0 y0) (saN zn) zn))])), (s1, .inl (gI g, 6, .inl (cond (qSeB x0 y0) (saF zn zc x0) zc))), (s2, .inl (gZ g, 6, .inl (cond (qSeB x0 y0) (saF zn zz (b2i (decide (y0 = 1)))) zz)))] H by rw [eb]; exact hP.sub [0, 1, 2, 3] rfl) (show va_D A [(h0, .inr (5, [.ref a1, .ref a2, .ref a3, .ref a4, .ref a5, .ref a6, .ref a7, .ref a8, .long sd])), (a6, .inr (2, [.ref s1, .ref s2, .int (nI (cond (qSeB x0 y0) (saN zn) zn))])), (s1, .inl (gI g, 6, .inl (cond (qSeB x0 y0) (saF zn zc x0) zc))), (s2, .inl (gZ g, 6, .inl (cond (qSeB x0 y0) (saF zn zz (b2i (decide (y0 = 1)))) zz)))] by rw [eb]; exact hD.sub [0, 1, 2, 3] (by decide) rfl) hS dX6_see_54
      refine lv_icmp_ne (tgt := 35) hx hb dX6_see_28 (by decide) (fun c_5 => ?_) (fun c_5 => ?_)
      · skip
        refine lv_iconst (v := 0) hx hb dX6_see_35 (by decide) ?_
        exact lv_eqi (by rw [if_neg c_5]) mg_36
      · skip
        refine lv_iconst (v := 1) hx hb dX6_see_31 (by decide) ?_
        refine lv_goto (tgt := 36) hx hb dX6_see_32 (by decide) ?_
        exact lv_eqi (by rw [if_pos c_5]) mg_36
    · skip
      refine lv_iload_n hx hb dX6_see_13 rfl (lv_at hl 2 rfl) ?_
      refine lv_iconst (v := 1) hx hb dX6_see_14 (by decide) ?_
      refine lv_icmp_eq (tgt := 21) hx hb dX6_see_15 (by decide) (fun c_6 => ?_) (fun c_6 => ?_)
      · skip
        refine lv_aload_n hx hb dX6_see_21 rfl (lv_at hl 0 rfl) ?_
        refine va_get (D := g.1) (ci := 5) (v := .ref a6) (C := RX6) (T := TX6) (N := 9) hx hb hw inlX6 hown hkn.1 hP 0 rfl rfl 5 (by decide) (hw _ mw_30) (fun _ h9 => h9) rfl dX6_see_22 ?_
        refine lv_iload_n hx hb dX6_see_25 rfl (lv_at hl 1 rfl) ?_
        refine lv_iload_n hx hb dX6_see_26 rfl (lv_at hl 2 rfl) ?_
        refine lv_iconst (v := 1) hx hb dX6_see_27 (by decide) ?_
        have mg_36 : W p l e ({ frames := 1, cells := 0, slots := 0, locals := 22 } : Room) s m ([.ref h0, .int x0, .int y0] : List Value).toArray below meth c H locs 0 0 (MQ below (QAi g (fun (r : Int32) (u : Unit) => r = qSe x0 y0 zn) (fun (u : Unit) => [(h0, .inr (5, [.ref a1, .ref a2, .ref a3, .ref a4, .ref a5, .ref a6, .ref a7, .ref a8, .long sd])), (a6, .inr (2, [.ref s1, .ref s2, .int (nI (cond (qSeB x0 y0) (saN zn) zn))])), (s1, .inl (gI g, 6, .inl (cond (qSeB x0 y0) (saF zn zc x0) zc))), (s2, .inl (gZ g, 6, .inl (cond (qSeB x0 y0) (saF zn zz (b2i (decide (y0 = 1)))) zz)))]) A) ([.ref h0, .int x0, .int y0] : List Value).toArray s 0 0 A) (F0 m 36 ls (.int (if y0 = 1 then 1 else 0) :: [.int x0, .ref a6])) := by
          refine lv_eqi (show _ = (b2i (decide (y0 = 1))) from ifB) ?_
          refine cVM_i (As := [.int x0, .int (b2i (decide (y0 = 1)))]) (rest := []) (q0 := 0) (wc := [(a6, .inr (2, [.ref s1, .ref s2, .int (nI zn)])), (s1, .inl (gI g, 6, .inl zc)), (s2, .inl (gZ g, 6, .inl zz))]) (wr := [(h0, .inr (5, [.ref a1, .ref a2, .ref a3, .ref a4, .ref a5, .ref a6, .ref a7, .ref a8, .long sd]))]) hx hb hml hown hw hkn hS hl hA hP hD [1, 2, 3] [0] rfl rfl (by decide) (by decide) (by decide) (c_X3_add l g _ a6 x0 (decide (y0 = 1)) s1 s2 zn zc zz (by omega)) vf_X3_add mw_614 rfl rfl ⟨(Nat.le_of_ble_eq_true rfl), (Nat.le_of_ble_eq_true rfl)⟩ rfl rfl rfl rfl (Nat.le_of_ble_eq_true rfl) dX6_see_36 ⟨(Nat.le_of_ble_eq_true rfl), (Nat.le_of_ble_eq_true rfl)⟩ (fun r u H locs hq hP hD hS => ?_)
          have hq : r = (b2i (decide (zn < 6))) := hq
          subst hq
          have hP : va_P g.1 vwCl [(h0, .inr (5, [.ref a1, .ref a2, .ref a3, .ref a4, .ref a5, .ref a6, .ref a7, .ref a8, .long sd])), (a6, .inr (2, [.ref s1, .ref s2, .int (nI (saN zn))])), (s1, .inl (gI g, 6, .inl (saF zn zc x0))), (s2, .inl (gZ g, 6, .inl (saF zn zz (b2i (decide (y0 = 1))))))] H := hP.sub [0, 1, 2, 3] rfl
          have hD : va_D A [(h0, .inr (5, [.ref a1, .ref a2, .ref a3, .ref a4, .ref a5, .ref a6, .ref a7, .ref a8, .long sd])), (a6, .inr (2, [.ref s1, .ref s2, .int (nI (saN zn))])), (s1, .inl (gI g, 6, .inl (saF zn zc x0))), (s2, .inl (gZ g, 6, .inl (saF zn zz (b2i (decide (y0 = 1))))))] := hD.sub [0, 1, 2, 3] (by decide) rfl
          refine lv_ifeqB (b := decide (zn < 6)) (tgt := 52) hx hb dX6_see_39 (by decide) (fun c_8 => ?_) (fun c_8 => ?_)
          · skip
            refine lv_bipush (v := (-4)) hx hb dX6_see_52 (by decide) ?_
            have eb : qSeB x0 y0 = true := by unfold qSeB; simp [c_1, c_2, c_6, c_8]
            exact eM_i (g := g) hx hb hr hlocks () (by unfold qSe; simp [c_1, c_2, c_6, c_8]) (show va_P g.1 vwCl [(h0, .inr (5, [.ref a1, .ref a2, .ref a3, .ref a4, .ref a5, .ref a6, .ref a7, .ref a8, .long sd])), (a6, .inr (2, [.ref s1, .ref s2, .int (nI (cond (qSeB x0 y0) (saN zn) zn))])), (s1, .inl (gI g, 6, .inl (cond (qSeB x0 y0) (saF zn zc x0) zc))), (s2, .inl (gZ g, 6, .inl (cond (qSeB x0 y0) (saF zn zz (b2i (decide (y0 = 1)))) zz)))] H by rw [eb]; exact hP.sub [0, 1, 2, 3] rfl) (show va_D A [(h0, .inr (5, [.ref a1, .ref a2, .ref a3, .ref a4, .ref a5, .ref a6, .ref a7, .ref a8, .long sd])), (a6, .inr (2, [.ref s1, .ref s2, .int (nI (cond (qSeB x0 y0) (saN zn) zn))])), (s1, .inl (gI g, 6, .inl (cond (qSeB x0 y0) (saF zn zc x0) zc))), (s2, .inl (gZ g, 6, .inl (cond (qSeB x0 y0) (saF zn zz (b2i (decide (y0 = 1)))) zz)))] by rw [eb]; exact hD.sub [0, 1, 2, 3] (by decide) rfl) hS dX6_see_54
          · skip
            refine lv_aload_n hx hb dX6_see_42 rfl (lv_at hl 0 rfl) ?_
            refine va_get (D := g.1) (ci := 5) (v := .ref a6) (C := RX6) (T := TX6) (N := 9) hx hb hw inlX6 hown hkn.1 hP 0 rfl rfl 5 (by decide) (hw _ mw_30) (fun _ h9 => h9) rfl dX6_see_43 ?_
            refine cV_i (As := []) (rest := []) hx hb hml hown hw hkn hS hl (c_X3_size l g _ a6 s1 s2 (saN zn)  (hP.sub [1] rfl)) vf_X3_size mw_618 (va_recv hkn.1 hP (ci := 2) (q0 := 1) rfl rfl) ⟨(Nat.le_of_ble_eq_true rfl), (Nat.le_of_ble_eq_true rfl)⟩ rfl rfl rfl rfl (Nat.le_of_ble_eq_true rfl) dX6_see_46 ⟨(Nat.le_of_ble_eq_true rfl), (Nat.le_of_ble_eq_true rfl)⟩ ?_
            refine lv_goto (tgt := 54) hx hb dX6_see_49 (by decide) ?_
            have eb : qSeB x0 y0 = true := by unfold qSeB; simp [c_1, c_2, c_6, c_8]
            exact eM_i (g := g) hx hb hr hlocks () (by unfold qSe; simp [c_1, c_2, c_6, c_8]) (show va_P g.1 vwCl [(h0, .inr (5, [.ref a1, .ref a2, .ref a3, .ref a4, .ref a5, .ref a6, .ref a7, .ref a8, .long sd])), (a6, .inr (2, [.ref s1, .ref s2, .int (nI (cond (qSeB x0 y0) (saN zn) zn))])), (s1, .inl (gI g, 6, .inl (cond (qSeB x0 y0) (saF zn zc x0) zc))), (s2, .inl (gZ g, 6, .inl (cond (qSeB x0 y0) (saF zn zz (b2i (decide (y0 = 1)))) zz)))] H by rw [eb]; exact hP.sub [0, 1, 2, 3] rfl) (show va_D A [(h0, .inr (5, [.ref a1, .ref a2, .ref a3, .ref a4, .ref a5, .ref a6, .ref a7, .ref a8, .long sd])), (a6, .inr (2, [.ref s1, .ref s2, .int (nI (cond (qSeB x0 y0) (saN zn) zn))])), (s1, .inl (gI g, 6, .inl (cond (qSeB x0 y0) (saF zn zc x0) zc))), (s2, .inl (gZ g, 6, .inl (cond (qSeB x0 y0) (saF zn zz (b2i (decide (y0 = 1)))) zz)))] by rw [eb]; exact hD.sub [0, 1, 2, 3] (by decide) rfl) hS dX6_see_54
        refine lv_icmp_ne (tgt := 35) hx hb dX6_see_28 (by decide) (fun c_9 => ?_) (fun c_9 => ?_)
        · skip
          refine lv_iconst (v := 0) hx hb dX6_see_35 (by decide) ?_
          exact lv_eqi (by rw [if_neg c_9]) mg_36
        · skip
          refine lv_iconst (v := 1) hx hb dX6_see_31 (by decide) ?_
          refine lv_goto (tgt := 36) hx hb dX6_see_32 (by decide) ?_
          exact lv_eqi (by rw [if_pos c_9]) mg_36
      · skip
        refine lv_bipush (v := (-2)) hx hb dX6_see_18 (by decide) ?_
        have eb : qSeB x0 y0 = false := by unfold qSeB; simp [c_1, c_2, c_6]
        exact eM_i (g := g) hx hb hr hlocks () (by unfold qSe; simp [c_1, c_2, c_6]) (show va_P g.1 vwCl [(h0, .inr (5, [.ref a1, .ref a2, .ref a3, .ref a4, .ref a5, .ref a6, .ref a7, .ref a8, .long sd])), (a6, .inr (2, [.ref s1, .ref s2, .int (nI (cond (qSeB x0 y0) (saN zn) zn))])), (s1, .inl (gI g, 6, .inl (cond (qSeB x0 y0) (saF zn zc x0) zc))), (s2, .inl (gZ g, 6, .inl (cond (qSeB x0 y0) (saF zn zz (b2i (decide (y0 = 1)))) zz)))] H by rw [eb]; exact hP.sub [0, 1, 2, 3] rfl) (show va_D A [(h0, .inr (5, [.ref a1, .ref a2, .ref a3, .ref a4, .ref a5, .ref a6, .ref a7, .ref a8, .long sd])), (a6, .inr (2, [.ref s1, .ref s2, .int (nI (cond (qSeB x0 y0) (saN zn) zn))])), (s1, .inl (gI g, 6, .inl (cond (qSeB x0 y0) (saF zn zc x0) zc))), (s2, .inl (gZ g, 6, .inl (cond (qSeB x0 y0) (saF zn zz (b2i (decide (y0 = 1)))) zz)))] by rw [eb]; exact hD.sub [0, 1, 2, 3] (by decide) rfl) hS dX6_see_20
  · skip
    refine lv_iconst (v := (-1)) hx hb dX6_see_7 (by decide) ?_
    have eb : qSeB x0 y0 = false := by unfold qSeB; simp [c_1]
    exact eM_i (g := g) hx hb hr hlocks () (by unfold qSe; simp [c_1]) (show va_P g.1 vwCl [(h0, .inr (5, [.ref a1, .ref a2, .ref a3, .ref a4, .ref a5, .ref a6, .ref a7, .ref a8, .long sd])), (a6, .inr (2, [.ref s1, .ref s2, .int (nI (cond (qSeB x0 y0) (saN zn) zn))])), (s1, .inl (gI g, 6, .inl (cond (qSeB x0 y0) (saF zn zc x0) zc))), (s2, .inl (gZ g, 6, .inl (cond (qSeB x0 y0) (saF zn zz (b2i (decide (y0 = 1)))) zz)))] H by rw [eb]; exact hP.sub [0, 1, 2, 3] rfl) (show va_D A [(h0, .inr (5, [.ref a1, .ref a2, .ref a3, .ref a4, .ref a5, .ref a6, .ref a7, .ref a8, .long sd])), (a6, .inr (2, [.ref s1, .ref s2, .int (nI (cond (qSeB x0 y0) (saN zn) zn))])), (s1, .inl (gI g, 6, .inl (cond (qSeB x0 y0) (saF zn zc x0) zc))), (s2, .inl (gZ g, 6, .inl (cond (qSeB x0 y0) (saF zn zz (b2i (decide (y0 = 1)))) zz)))] by rw [eb]; exact hD.sub [0, 1, 2, 3] (by decide) rfl) hS dX6_see_8
set_option maxHeartbeats 4000000 in
set_option maxRecDepth 100000 in
theorem c_X6_unsee (l : Launch) (g : GG) (sz : Nat) (h0 : Nat) (a1 : Nat) (a2 : Nat) (a3 : Nat) (a4 : Nat) (a5 : Nat) (a6 : Nat) (a7 : Nat) (a8 : Nat) (sd : Int64) (s1 : Nat) (s2 : Nat) (zn : Nat)  : Met l yX6_unsee (Cond.code yX6_unsee cX6_unsee 2 (some .int) :: wsL_law) ({ frames := 1, cells := 0, slots := 0, locals := 20 }) (PM g [.ref h0] [(h0, .inr (5, [.ref a1, .ref a2, .ref a3, .ref a4, .ref a5, .ref a6, .ref a7, .ref a8, .long sd])), (a6, .inr (2, [.ref s1, .ref s2, .int (nI zn)]))] sz) (QAi g (fun (r : Int32) (u : Unit) => r = nI zn) (fun (u : Unit) => [(h0, .inr (5, [.ref a1, .ref a2, .ref a3, .ref a4, .ref a5, .ref a6, .ref a7, .ref a8, .long sd])), (a6, .inr (2, [.ref s1, .ref s2, .int 0]))]) (va_A [(h0, .inr (5, [.ref a1, .ref a2, .ref a3, .ref a4, .ref a5, .ref a6, .ref a7, .ref a8, .long sd])), (a6, .inr (2, [.ref s1, .ref s2, .int (nI zn)]))] sz)) 0 0 (va_A [(h0, .inr (5, [.ref a1, .ref a2, .ref a3, .ref a4, .ref a5, .ref a6, .ref a7, .ref a8, .long sd])), (a6, .inr (2, [.ref s1, .ref s2, .int (nI zn)]))] sz) := by
  refine Met.M (Qc := fun A => QAi g (fun (r : Int32) (u : Unit) => r = nI zn) (fun (u : Unit) => [(h0, .inr (5, [.ref a1, .ref a2, .ref a3, .ref a4, .ref a5, .ref a6, .ref a7, .ref a8, .long sd])), (a6, .inr (2, [.ref s1, .ref s2, .int 0]))]) A) (by decide) (Nat.le_of_ble_eq_true rfl) rfl ?_
  intro p e s m below meth c hx hb hr hml hw hown hlocks hin A hA hkn hP hD ls hl
  have hl : lv_has ls 2 [(0, .ref h0)] := hl
  have hS : va_S A s.heap s.heap [] := va_S.rf
  obtain ⟨H, hHe⟩ : ∃ H, H = s.heap := ⟨_, rfl⟩
  obtain ⟨locs, hLe⟩ : ∃ locs : List Loc, locs = [] := ⟨_, rfl⟩
  have hP : va_P g.1 vwCl [(h0, .inr (5, [.ref a1, .ref a2, .ref a3, .ref a4, .ref a5, .ref a6, .ref a7, .ref a8, .long sd])), (a6, .inr (2, [.ref s1, .ref s2, .int (nI zn)]))] H := by rw [hHe]; exact hP
  have hS : va_S A s.heap H locs := by rw [hHe, hLe]; exact hS
  have hgo : W p l e ({ frames := 1, cells := 0, slots := 0, locals := 20 } : Room) s m ([.ref h0] : List Value).toArray below meth c H locs 0 0 (MQ below (QAi g (fun (r : Int32) (u : Unit) => r = nI zn) (fun (u : Unit) => [(h0, .inr (5, [.ref a1, .ref a2, .ref a3, .ref a4, .ref a5, .ref a6, .ref a7, .ref a8, .long sd])), (a6, .inr (2, [.ref s1, .ref s2, .int 0]))]) A) ([.ref h0] : List Value).toArray s 0 0 A) (F0 m 0 ls []) := ?_
  · rw [hHe, hLe] at hgo; exact hgo
  clear hHe hLe
  refine lv_aload_n hx hb dX6_unsee_0 rfl (lv_at hl 0 rfl) ?_
  refine va_get (D := g.1) (ci := 5) (v := .ref a6) (C := RX6) (T := TX6) (N := 9) hx hb hw inlX6 hown hkn.1 hP 0 rfl rfl 5 (by decide) (hw _ mw_30) (fun _ h9 => h9) rfl dX6_unsee_1 ?_
  refine cV_i (As := []) (rest := []) hx hb hml hown hw hkn hS hl (c_X3_size l g _ a6 s1 s2 zn  (hP.sub [1] rfl)) vf_X3_size mw_618 (va_recv hkn.1 hP (ci := 2) (q0 := 1) rfl rfl) ⟨(Nat.le_of_ble_eq_true rfl), (Nat.le_of_ble_eq_true rfl)⟩ rfl rfl rfl rfl (Nat.le_of_ble_eq_true rfl) dX6_unsee_4 ⟨(Nat.le_of_ble_eq_true rfl), (Nat.le_of_ble_eq_true rfl)⟩ ?_
  refine lv_istore_n (lv' := [(1, .int (nI zn)), (0, .ref h0)]) hx hb dX6_unsee_7 rfl hl (by decide) rfl (fun ls hl => ?_)
  refine lv_aload_n hx hb dX6_unsee_8 rfl (lv_at hl 1 rfl) ?_
  refine va_get (D := g.1) (ci := 5) (v := .ref a6) (C := RX6) (T := TX6) (N := 9) hx hb hw inlX6 hown hkn.1 hP 0 rfl rfl 5 (by decide) (hw _ mw_30) (fun _ h9 => h9) rfl dX6_unsee_9 ?_
  refine cVM_v (As := []) (rest := []) (q0 := 0) (wc := [(a6, .inr (2, [.ref s1, .ref s2, .int (nI zn)]))]) (wr := [(h0, .inr (5, [.ref a1, .ref a2, .ref a3, .ref a4, .ref a5, .ref a6, .ref a7, .ref a8, .long sd]))]) hx hb hml hown hw hkn hS hl hA hP hD [1] [0] rfl rfl (by decide) (by decide) (by decide) (c_X3_clear l g _ a6 s1 s2 zn ) vf_X3_clear mw_631 rfl rfl ⟨(Nat.le_of_ble_eq_true rfl), (Nat.le_of_ble_eq_true rfl)⟩ rfl rfl rfl rfl (Nat.le_of_ble_eq_true rfl) dX6_unsee_12 ⟨(Nat.le_of_ble_eq_true rfl), (Nat.le_of_ble_eq_true rfl)⟩ (fun u H locs hq hP hD hS => ?_)
  have hP : va_P g.1 vwCl [(h0, .inr (5, [.ref a1, .ref a2, .ref a3, .ref a4, .ref a5, .ref a6, .ref a7, .ref a8, .long sd])), (a6, .inr (2, [.ref s1, .ref s2, .int 0]))] H := hP.sub [0, 1] rfl
  have hD : va_D A [(h0, .inr (5, [.ref a1, .ref a2, .ref a3, .ref a4, .ref a5, .ref a6, .ref a7, .ref a8, .long sd])), (a6, .inr (2, [.ref s1, .ref s2, .int 0]))] := hD.sub [0, 1] (by decide) rfl
  refine lv_iload_n hx hb dX6_unsee_15 rfl (lv_at hl 0 rfl) ?_
  exact eM_i (g := g) hx hb hr hlocks () (rfl) (hP.sub [0, 1] rfl) (hD.sub [0, 1] (by decide) rfl) hS dX6_unsee_16
set_option maxHeartbeats 4000000 in
set_option maxRecDepth 100000 in
theorem c_X6_leaves (l : Launch) (g : GG) (H : Heap) (h0 : Nat) (x0 : Int32) (a1 : Nat) (a2 : Nat) (a3 : Nat) (a4 : Nat) (a5 : Nat) (a6 : Nat) (a7 : Nat) (a8 : Nat) (sd : Int64) (s1 : Nat) (s2 : Nat) (zn : Nat) (zc : Nat → Int32) (zz : Nat → Int32) (cf : Nat → Nat) (bz : Nat → Bool) (hzn : zn ≤ 6) (hcf : ∀ j, j < zn → zc j = nI (cf j) ∧ cf j < 64) (hbz : ∀ j, j < zn → zz j = b2i (bz j)) (hP : va_P g.1 vwCl [(h0, .inr (5, [.ref a1, .ref a2, .ref a3, .ref a4, .ref a5, .ref a6, .ref a7, .ref a8, .long sd])), (a6, .inr (2, [.ref s1, .ref s2, .int (nI zn)])), (s1, .inl (gI g, 6, .inl zc)), (s2, .inl (gZ g, 6, .inl zz))] H) : Met l yX6_leaves (Cond.code yX6_leaves cX6_leaves 2 (some .int) :: wsL_law) ({ frames := 5, cells := 0, slots := 0, locals := 109 }) (PR g [.ref h0, .int x0] H) (QRi (qLv cf bz zn x0) H) 0 0 NoA := by
  refine Met.R (by decide) (Nat.le_of_ble_eq_true rfl) rfl ?_
  intro p e s m below meth c hx hb hr hml hw hown hlocks hkn hH ls hl
  subst hH
  have hl : lv_has ls 2 [(0, .ref h0), (1, .int x0)] := hl
  have hS : va_S NoA s.heap s.heap [] := va_S.rf
  refine lv_iload_n hx hb dX6_leaves_0 rfl (lv_at hl 1 rfl) ?_
  refine lv_if_ne (tgt := 12) hx hb dX6_leaves_1 (by decide) (fun c_1 => ?_) (fun c_1 => ?_)
  · skip
    refine lv_iload_n hx hb dX6_leaves_12 rfl (lv_at hl 1 rfl) ?_
    refine lv_iconst (v := 1) hx hb dX6_leaves_13 (by decide) ?_
    refine lv_icmp_ne (tgt := 27) hx hb dX6_leaves_14 (by decide) (fun c_2 => ?_) (fun c_2 => ?_)
    · skip
      refine lv_bipush (v := (-2)) hx hb dX6_leaves_27 (by decide) ?_
      exact eR_i hx hb hr hlocks (by unfold qLv; rw [if_neg c_1, if_neg c_2]) dX6_leaves_29
    · skip
      refine lv_aload_n hx hb dX6_leaves_17 rfl (lv_at hl 0 rfl) ?_
      refine va_get (D := g.1) (ci := 5) (v := .ref a6) (C := RX6) (T := TX6) (N := 9) hx hb hw inlX6 hown hkn.1 hP 0 rfl rfl 5 (by decide) (hw _ mw_30) (fun _ h9 => h9) rfl dX6_leaves_18 ?_
      refine cV_i (As := []) (rest := []) hx hb hml hown hw hkn hS hl (c_X3_firstFit l g _ a6 s1 s2 zn zc zz cf bz (by omega) (hcf) (hbz) (hP.sub [1, 2, 3] rfl)) vf_X3_firstFit mw_657 (va_recv hkn.1 hP (ci := 2) (q0 := 1) rfl rfl) ⟨(Nat.le_of_ble_eq_true rfl), (Nat.le_of_ble_eq_true rfl)⟩ rfl rfl rfl rfl (Nat.le_of_ble_eq_true rfl) dX6_leaves_21 ⟨(Nat.le_of_ble_eq_true rfl), (Nat.le_of_ble_eq_true rfl)⟩ ?_
      refine lv_goto (tgt := 29) hx hb dX6_leaves_24 (by decide) ?_
      exact eR_i hx hb hr hlocks (by unfold qLv; rw [if_neg c_1, if_pos c_2]) dX6_leaves_29
  · skip
    refine lv_aload_n hx hb dX6_leaves_4 rfl (lv_at hl 0 rfl) ?_
    refine va_get (D := g.1) (ci := 5) (v := .ref a6) (C := RX6) (T := TX6) (N := 9) hx hb hw inlX6 hown hkn.1 hP 0 rfl rfl 5 (by decide) (hw _ mw_30) (fun _ h9 => h9) rfl dX6_leaves_5 ?_
    refine cV_i (As := []) (rest := []) hx hb hml hown hw hkn hS hl (c_X3_fits l g _ a6 s1 s2 zn zc zz cf bz (by omega) (hcf) (hbz) (hP.sub [1, 2, 3] rfl)) vf_X3_fits mw_643 (va_recv hkn.1 hP (ci := 2) (q0 := 1) rfl rfl) ⟨(Nat.le_of_ble_eq_true rfl), (Nat.le_of_ble_eq_true rfl)⟩ rfl rfl rfl rfl (Nat.le_of_ble_eq_true rfl) dX6_leaves_8 ⟨(Nat.le_of_ble_eq_true rfl), (Nat.le_of_ble_eq_true rfl)⟩ ?_
    exact eR_i hx hb hr hlocks (by unfold qLv; rw [if_pos c_1]) dX6_leaves_11
set_option maxHeartbeats 4000000 in
set_option maxRecDepth 100000 in
theorem c_X6_share (l : Launch) (g : GG) (H : Heap) (h0 : Nat) (x0 : Int32) (up : Bool) (a1 : Nat) (a2 : Nat) (a3 : Nat) (a4 : Nat) (a5 : Nat) (a6 : Nat) (a7 : Nat) (a8 : Nat) (sd : Int64) (b1 : Nat) (f : Nat → Int64)  (hP : va_P g.1 vwCl [(h0, .inr (5, [.ref a1, .ref a2, .ref a3, .ref a4, .ref a5, .ref a6, .ref a7, .ref a8, .long sd])), (a1, .inr (1, [.ref b1])), (b1, .inl (gJ g, 3, .inr (.inl f)))] H) : Met l yX6_share (Cond.code yX6_share cX6_share 5 (some .int) :: wsL_law) ({ frames := 3, cells := 0, slots := 0, locals := 64 }) (PR g [.ref h0, .int x0, .int (b2i up)] H) (QRi (qSh f x0 up) H) 0 0 NoA := by
  refine Met.R (by decide) (Nat.le_of_ble_eq_true rfl) rfl ?_
  intro p e s m below meth c hx hb hr hml hw hown hlocks hkn hH ls hl
  subst hH
  have hl : lv_has ls 5 [(0, .ref h0), (1, .int x0), (2, .int (b2i up))] := hl
  have hS : va_S NoA s.heap s.heap [] := va_S.rf
  refine lv_iload_n hx hb dX6_share_0 rfl (lv_at hl 1 rfl) ?_
  refine cS_i (As := [.int x0]) (rest := []) hx hb hml hown hw hkn hS hl (c_X6_isPicture l g _ x0 ) sf_X6_isPicture mw_207 ⟨(Nat.le_of_ble_eq_true rfl), (Nat.le_of_ble_eq_true rfl)⟩ rfl rfl rfl rfl (Nat.le_of_ble_eq_true rfl) dX6_share_1 ⟨(Nat.le_of_ble_eq_true rfl), (Nat.le_of_ble_eq_true rfl)⟩ ?_
  refine lv_ifneB (b := isPic x0) (tgt := 9) hx hb dX6_share_4 (by decide) (fun c_1 => ?_) (fun c_1 => ?_)
  · skip
    refine lv_iconst (v := 0) hx hb dX6_share_9 (by decide) ?_
    refine lv_istore_n (lv' := [(3, .int 0), (0, .ref h0), (1, .int x0), (2, .int (b2i up))]) hx hb dX6_share_10 rfl hl (by decide) rfl (fun ls hl => ?_)
    refine lv_iconst (v := 0) hx hb dX6_share_11 (by decide) ?_
    refine lv_istore (lv' := [(4, .int 0), (3, .int 0), (0, .ref h0), (1, .int x0), (2, .int (b2i up))]) hx hb dX6_share_12 hl (by decide) rfl (fun ls hl => ?_)
    have lp_14 : ∀ (n_14 : Nat) (i : Nat) (a : Nat), (i ≤ 64) → (a = fb_sm (shF f x0) i) → 64 < i + n_14 → ∀ (ls : Array Slot), lv_has ls 5 [(4, .int (nI i)), (3, .int (nI a)), (0, .ref h0), (1, .int x0), (2, .int (b2i up))] → W p l e ({ frames := 3, cells := 0, slots := 0, locals := 64 } : Room) s m ([.ref h0, .int x0, .int (b2i up)] : List Value).toArray below meth c s.heap [] 0 0 (MQ below (QRi (qSh f x0 up) s.heap) ([.ref h0, .int x0, .int (b2i up)] : List Value).toArray s 0 0 NoA) (F0 m 14 ls []) := by
      intro n_14
      induction n_14 with
      | zero => intro i a h_i h_a hfu_14; exact absurd hfu_14 (by omega)
      | succ n_14 ih_14 =>
        intro i a h_i h_a hfu_14 ls hl
        have hab := shN_le f x0 i
        have hbi : binN f i ≤ 3 := fb_ct_le _ _
        refine lv_iload hx hb dX6_share_14 (lv_at hl 0 rfl) ?_
        refine lv_bipush (v := 64) hx hb dX6_share_16 (by decide) ?_
        refine ic_ge (a := i) (d := 64) (tgt := 58) hx hb dX6_share_18 (by decide) rfl rfl (by omega) (by omega) (fun c_2 => ?_) (fun c_2 => ?_)
        · skip
          refine lv_iload_n hx hb dX6_share_58 rfl (lv_at hl 1 rfl) ?_
          refine lv_bipush (v := 6) hx hb dX6_share_59 (by decide) ?_
          refine lv_iload_n hx hb dX6_share_61 rfl (lv_at hl 4 rfl) ?_
          refine cS_i (As := [.int (nI a), .int 6, .int (b2i up)]) (rest := []) hx hb hml hown hw hkn hS hl (c_X6_told l g _ a 6 up (by omega) (by omega) (by omega)) sf_X6_told mw_691 ⟨(Nat.le_of_ble_eq_true rfl), (Nat.le_of_ble_eq_true rfl)⟩ rfl rfl rfl rfl (Nat.le_of_ble_eq_true rfl) dX6_share_62 ⟨(Nat.le_of_ble_eq_true rfl), (Nat.le_of_ble_eq_true rfl)⟩ ?_
          exact eR_i hx hb hr hlocks (by unfold qSh shN; rw [if_pos c_1, ← show i = 64 by omega, h_a]) dX6_share_65
        · skip
          refine lv_aload_n hx hb dX6_share_21 rfl (lv_at hl 2 rfl) ?_
          refine va_get (D := g.1) (ci := 5) (v := .ref a1) (C := RX6) (T := TX6) (N := 9) hx hb hw inlX6 hown hkn.1 hP 0 rfl rfl 0 (by decide) (hw _ mw_16) (fun _ h9 => h9) rfl dX6_share_22 ?_
          refine lv_iload_n hx hb dX6_share_25 rfl (lv_at hl 3 rfl) ?_
          refine cV_l (As := [.int x0]) (rest := []) hx hb hml hown hw hkn hS hl (c_X1_cells l g _ a1 x0 b1 f  (hP.sub [1, 2] rfl)) vf_X1_cells mw_218 (va_recv hkn.1 hP (ci := 1) (q0 := 1) rfl rfl) ⟨(Nat.le_of_ble_eq_true rfl), (Nat.le_of_ble_eq_true rfl)⟩ rfl rfl rfl rfl (Nat.le_of_ble_eq_true rfl) dX6_share_26 ⟨(Nat.le_of_ble_eq_true rfl), (Nat.le_of_ble_eq_true rfl)⟩ ?_
          refine lv_iload hx hb dX6_share_29 (lv_at hl 0 rfl) ?_
          refine cS_i (As := [.long (picS f x0), .int (nI i)]) (rest := []) hx hb hml hown hw hkn hS hl (c_X2_isBlack l g _ (picS f x0) i (by omega)) sf_X2_isBlack mw_502 ⟨(Nat.le_of_ble_eq_true rfl), (Nat.le_of_ble_eq_true rfl)⟩ rfl rfl rfl rfl (Nat.le_of_ble_eq_true rfl) dX6_share_31 ⟨(Nat.le_of_ble_eq_true rfl), (Nat.le_of_ble_eq_true rfl)⟩ ?_
          refine lv_ifeqB (b := bt (picS f x0) i) (tgt := 52) hx hb dX6_share_34 (by decide) (fun c_3 => ?_) (fun c_3 => ?_)
          · skip
            refine lv_iinc (v := (nI (i + 1))) (lv' := [(4, .int (nI (i + 1))), (3, .int (nI a)), (0, .ref h0), (1, .int x0), (2, .int (b2i up))]) hx hb dX6_share_52 hl (k := 0) rfl (nI_1 i) (by decide) rfl (fun ls hl => ?_)
            refine lv_goto (tgt := 14) hx hb dX6_share_55 (by decide) ?_
            exact ih_14 (i + 1) a (by omega) (by rw [h_a, fb_sm_succ]; simp [shF, c_3]) (by omega) ls (lv_sub hl [0, 1, 2, 3, 4] rfl)
          · skip
            refine lv_iload_n hx hb dX6_share_37 rfl (lv_at hl 1 rfl) ?_
            refine lv_aload_n hx hb dX6_share_38 rfl (lv_at hl 2 rfl) ?_
            refine va_get (D := g.1) (ci := 5) (v := .ref a1) (C := RX6) (T := TX6) (N := 9) hx hb hw inlX6 hown hkn.1 hP 0 rfl rfl 0 (by decide) (hw _ mw_16) (fun _ h9 => h9) rfl dX6_share_39 ?_
            refine lv_iload hx hb dX6_share_42 (lv_at hl 0 rfl) ?_
            refine cV_i (As := [.int (nI i)]) (rest := [.int (nI a)]) hx hb hml hown hw hkn hS hl (c_X1_blackIn l g _ a1 i b1 f (by omega) (hP.sub [1, 2] rfl)) vf_X1_blackIn mw_683 (va_recv hkn.1 hP (ci := 1) (q0 := 1) rfl rfl) ⟨(Nat.le_of_ble_eq_true rfl), (Nat.le_of_ble_eq_true rfl)⟩ rfl rfl rfl rfl (Nat.le_of_ble_eq_true rfl) dX6_share_44 ⟨(Nat.le_of_ble_eq_true rfl), (Nat.le_of_ble_eq_true rfl)⟩ ?_
            refine cS_i (As := [.int (nI (binN f i))]) (rest := [.int (nI a)]) hx hb hml hown hw hkn hS hl (c_X6_sixthsOfCell l g _ (binN f i) (by omega)) sf_X6_sixthsOfCell mw_688 ⟨(Nat.le_of_ble_eq_true rfl), (Nat.le_of_ble_eq_true rfl)⟩ rfl rfl rfl rfl (Nat.le_of_ble_eq_true rfl) dX6_share_47 ⟨(Nat.le_of_ble_eq_true rfl), (Nat.le_of_ble_eq_true rfl)⟩ ?_
            refine lv_iadd hx hb dX6_share_50 ?_
            refine lv_eqi (nI_add a (sxN (binN f i))) ?_
            refine lv_istore_n (lv' := [(3, .int (nI (a + (sxN (binN f i))))), (4, .int (nI i)), (0, .ref h0), (1, .int x0), (2, .int (b2i up))]) hx hb dX6_share_51 rfl hl (by decide) rfl (fun ls hl => ?_)
            refine lv_iinc (v := (nI (i + 1))) (lv' := [(4, .int (nI (i + 1))), (3, .int (nI (a + (sxN (binN f i))))), (0, .ref h0), (1, .int x0), (2, .int (b2i up))]) hx hb dX6_share_52 hl (k := 1) rfl (nI_1 i) (by decide) rfl (fun ls hl => ?_)
            refine lv_goto (tgt := 14) hx hb dX6_share_55 (by decide) ?_
            exact ih_14 (i + 1) (a + (sxN (binN f i))) (by omega) (by rw [h_a, fb_sm_succ]; simp [shF, c_3]) (by omega) ls (lv_sub hl [0, 1, 2, 3, 4] rfl)
    exact lp_14 65 0 0 (by omega) (rfl) (by omega) ls (lv_sub hl [0, 1, 2, 3, 4] rfl)
  · skip
    refine lv_iconst (v := (-1)) hx hb dX6_share_7 (by decide) ?_
    exact eR_i hx hb hr hlocks (by unfold qSh; rw [if_neg (nt_of c_1)]) dX6_share_8
set_option maxHeartbeats 4000000 in
set_option maxRecDepth 100000 in
theorem c_X6_isRest (l : Launch) (g : GG) (H : Heap) (h0 : Nat) (a : Nat) (b : Nat) (i : Nat) (j : Nat) (a1 : Nat) (a2 : Nat) (a3 : Nat) (a4 : Nat) (a5 : Nat) (a6 : Nat) (a7 : Nat) (a8 : Nat) (sd : Int64) (b1 : Nat) (f : Nat → Int64) (ha3 : a < 3) (hb3 : b < 3) (hab : a ≠ b) (hi2 : i < 2) (hj2 : j < 2) (hP : va_P g.1 vwCl [(h0, .inr (5, [.ref a1, .ref a2, .ref a3, .ref a4, .ref a5, .ref a6, .ref a7, .ref a8, .long sd])), (a1, .inr (1, [.ref b1])), (b1, .inl (gJ g, 3, .inr (.inl f)))] H) : Met l yX6_isRest (Cond.code yX6_isRest cX6_isRest 15 (some .boolean) :: wsL_law) ({ frames := 3, cells := 0, slots := 0, locals := 71 }) (PR g [.ref h0, .int (nI a), .int (nI b), .int (nI i), .int (nI j)] H) (QRi (b2i (rsB f a b i j)) H) 0 0 NoA := by
  refine Met.R (by decide) (Nat.le_of_ble_eq_true rfl) rfl ?_
  intro p e s m below meth c hx hb hr hml hw hown hlocks hkn hH ls hl
  subst hH
  have hl : lv_has ls 15 [(0, .ref h0), (1, .int (nI a)), (2, .int (nI b)), (3, .int (nI i)), (4, .int (nI j))] := hl
  have hS : va_S NoA s.heap s.heap [] := va_S.rf
  refine lv_aload_n hx hb dX6_isRest_0 rfl (lv_at hl 0 rfl) ?_
  refine va_get (D := g.1) (ci := 5) (v := .ref a1) (C := RX6) (T := TX6) (N := 9) hx hb hw inlX6 hown hkn.1 hP 0 rfl rfl 0 (by decide) (hw _ mw_16) (fun _ h9 => h9) rfl dX6_isRest_1 ?_
  refine lv_iconst (v := 3) hx hb dX6_isRest_4 (by decide) ?_
  refine lv_iload_n hx hb dX6_isRest_5 rfl (lv_at hl 1 rfl) ?_
  refine lv_isub hx hb dX6_isRest_6 ?_
  refine lv_eqi (pk_sub (a := 3) (b := a) (by omega)) ?_
  refine lv_iload_n hx hb dX6_isRest_7 rfl (lv_at hl 2 rfl) ?_
  refine lv_isub hx hb dX6_isRest_8 ?_
  refine lv_eqi (pk_sub (a := 3 - a) (b := b) (by omega)) ?_
  refine cV_l (As := [.int (nI (3 - a - b))]) (rest := []) hx hb hml hown hw hkn hS hl (c_X1_cells l g _ a1 (nI (3 - a - b)) b1 f  (hP.sub [1, 2] rfl)) vf_X1_cells mw_218 (va_recv hkn.1 hP (ci := 1) (q0 := 1) rfl rfl) ⟨(Nat.le_of_ble_eq_true rfl), (Nat.le_of_ble_eq_true rfl)⟩ rfl rfl rfl rfl (Nat.le_of_ble_eq_true rfl) dX6_isRest_9 ⟨(Nat.le_of_ble_eq_true rfl), (Nat.le_of_ble_eq_true rfl)⟩ ?_
  refine lv_eql (show _ = (f (3 - a - b)) from picS_nI (j := 3 - a - b) (by omega)) ?_
  refine lv_lstore (lv' := [(5, .long (f (3 - a - b))), (0, .ref h0), (1, .int (nI a)), (2, .int (nI b)), (3, .int (nI i)), (4, .int (nI j))]) hx hb dX6_isRest_12 hl (by decide) rfl (fun ls hl => ?_)
  refine lv_aload_n hx hb dX6_isRest_14 rfl (lv_at hl 1 rfl) ?_
  refine va_get (D := g.1) (ci := 5) (v := .ref a1) (C := RX6) (T := TX6) (N := 9) hx hb hw inlX6 hown hkn.1 hP 0 rfl rfl 0 (by decide) (hw _ mw_16) (fun _ h9 => h9) rfl dX6_isRest_15 ?_
  refine lv_iload_n hx hb dX6_isRest_18 rfl (lv_at hl 2 rfl) ?_
  refine cV_l (As := [.int (nI a)]) (rest := []) hx hb hml hown hw hkn hS hl (c_X1_cells l g _ a1 (nI a) b1 f  (hP.sub [1, 2] rfl)) vf_X1_cells mw_218 (va_recv hkn.1 hP (ci := 1) (q0 := 1) rfl rfl) ⟨(Nat.le_of_ble_eq_true rfl), (Nat.le_of_ble_eq_true rfl)⟩ rfl rfl rfl rfl (Nat.le_of_ble_eq_true rfl) dX6_isRest_19 ⟨(Nat.le_of_ble_eq_true rfl), (Nat.le_of_ble_eq_true rfl)⟩ ?_
  refine lv_eql (show _ = (f a) from picS_nI (j := a) (by omega)) ?_
  refine lv_iload_n hx hb dX6_isRest_22 rfl (lv_at hl 4 rfl) ?_
  refine cS_l (As := [.long (f a), .int (nI i)]) (rest := []) hx hb hml hown hw hkn hS hl (c_X2_byWay l g _ (f a) i (by omega)) sf_X2_byWay mw_716 ⟨(Nat.le_of_ble_eq_true rfl), (Nat.le_of_ble_eq_true rfl)⟩ rfl rfl rfl rfl (Nat.le_of_ble_eq_true rfl) dX6_isRest_23 ⟨(Nat.le_of_ble_eq_true rfl), (Nat.le_of_ble_eq_true rfl)⟩ ?_
  refine lv_lstore (lv' := [(7, .long (bwS (f a) i)), (5, .long (f (3 - a - b))), (0, .ref h0), (1, .int (nI a)), (2, .int (nI b)), (3, .int (nI i)), (4, .int (nI j))]) hx hb dX6_isRest_26 hl (by decide) rfl (fun ls hl => ?_)
  refine lv_aload_n hx hb dX6_isRest_28 rfl (lv_at hl 2 rfl) ?_
  refine va_get (D := g.1) (ci := 5) (v := .ref a1) (C := RX6) (T := TX6) (N := 9) hx hb hw inlX6 hown hkn.1 hP 0 rfl rfl 0 (by decide) (hw _ mw_16) (fun _ h9 => h9) rfl dX6_isRest_29 ?_
  refine lv_iload_n hx hb dX6_isRest_32 rfl (lv_at hl 3 rfl) ?_
  refine cV_l (As := [.int (nI a)]) (rest := []) hx hb hml hown hw hkn hS hl (c_X1_cells l g _ a1 (nI a) b1 f  (hP.sub [1, 2] rfl)) vf_X1_cells mw_218 (va_recv hkn.1 hP (ci := 1) (q0 := 1) rfl rfl) ⟨(Nat.le_of_ble_eq_true rfl), (Nat.le_of_ble_eq_true rfl)⟩ rfl rfl rfl rfl (Nat.le_of_ble_eq_true rfl) dX6_isRest_33 ⟨(Nat.le_of_ble_eq_true rfl), (Nat.le_of_ble_eq_true rfl)⟩ ?_
  refine lv_eql (show _ = (f a) from picS_nI (j := a) (by omega)) ?_
  refine lv_iconst (v := 1) hx hb dX6_isRest_36 (by decide) ?_
  refine lv_iload_n hx hb dX6_isRest_37 rfl (lv_at hl 5 rfl) ?_
  refine lv_isub hx hb dX6_isRest_38 ?_
  refine lv_eqi (pk_sub (a := 1) (b := i) (by omega)) ?_
  refine cS_l (As := [.long (f a), .int (nI (1 - i))]) (rest := []) hx hb hml hown hw hkn hS hl (c_X2_byWay l g _ (f a) (1 - i) (by omega)) sf_X2_byWay mw_716 ⟨(Nat.le_of_ble_eq_true rfl), (Nat.le_of_ble_eq_true rfl)⟩ rfl rfl rfl rfl (Nat.le_of_ble_eq_true rfl) dX6_isRest_39 ⟨(Nat.le_of_ble_eq_true rfl), (Nat.le_of_ble_eq_true rfl)⟩ ?_
  refine lv_lstore (lv' := [(9, .long (bwS (f a) (1 - i))), (7, .long (bwS (f a) i)), (5, .long (f (3 - a - b))), (0, .ref h0), (1, .int (nI a)), (2, .int (nI b)), (3, .int (nI i)), (4, .int (nI j))]) hx hb dX6_isRest_42 hl (by decide) rfl (fun ls hl => ?_)
  refine lv_aload_n hx hb dX6_isRest_44 rfl (lv_at hl 3 rfl) ?_
  refine va_get (D := g.1) (ci := 5) (v := .ref a1) (C := RX6) (T := TX6) (N := 9) hx hb hw inlX6 hown hkn.1 hP 0 rfl rfl 0 (by decide) (hw _ mw_16) (fun _ h9 => h9) rfl dX6_isRest_45 ?_
  refine lv_iload_n hx hb dX6_isRest_48 rfl (lv_at hl 5 rfl) ?_
  refine cV_l (As := [.int (nI b)]) (rest := []) hx hb hml hown hw hkn hS hl (c_X1_cells l g _ a1 (nI b) b1 f  (hP.sub [1, 2] rfl)) vf_X1_cells mw_218 (va_recv hkn.1 hP (ci := 1) (q0 := 1) rfl rfl) ⟨(Nat.le_of_ble_eq_true rfl), (Nat.le_of_ble_eq_true rfl)⟩ rfl rfl rfl rfl (Nat.le_of_ble_eq_true rfl) dX6_isRest_49 ⟨(Nat.le_of_ble_eq_true rfl), (Nat.le_of_ble_eq_true rfl)⟩ ?_
  refine lv_eql (show _ = (f b) from picS_nI (j := b) (by omega)) ?_
  refine lv_iload hx hb dX6_isRest_52 (lv_at hl 7 rfl) ?_
  refine cS_l (As := [.long (f b), .int (nI j)]) (rest := []) hx hb hml hown hw hkn hS hl (c_X2_byWay l g _ (f b) j (by omega)) sf_X2_byWay mw_716 ⟨(Nat.le_of_ble_eq_true rfl), (Nat.le_of_ble_eq_true rfl)⟩ rfl rfl rfl rfl (Nat.le_of_ble_eq_true rfl) dX6_isRest_54 ⟨(Nat.le_of_ble_eq_true rfl), (Nat.le_of_ble_eq_true rfl)⟩ ?_
  refine lv_lstore (lv' := [(11, .long (bwS (f b) j)), (9, .long (bwS (f a) (1 - i))), (7, .long (bwS (f a) i)), (5, .long (f (3 - a - b))), (0, .ref h0), (1, .int (nI a)), (2, .int (nI b)), (3, .int (nI i)), (4, .int (nI j))]) hx hb dX6_isRest_57 hl (by decide) rfl (fun ls hl => ?_)
  refine lv_aload_n hx hb dX6_isRest_59 rfl (lv_at hl 4 rfl) ?_
  refine va_get (D := g.1) (ci := 5) (v := .ref a1) (C := RX6) (T := TX6) (N := 9) hx hb hw inlX6 hown hkn.1 hP 0 rfl rfl 0 (by decide) (hw _ mw_16) (fun _ h9 => h9) rfl dX6_isRest_60 ?_
  refine lv_iload_n hx hb dX6_isRest_63 rfl (lv_at hl 6 rfl) ?_
  refine cV_l (As := [.int (nI b)]) (rest := []) hx hb hml hown hw hkn hS hl (c_X1_cells l g _ a1 (nI b) b1 f  (hP.sub [1, 2] rfl)) vf_X1_cells mw_218 (va_recv hkn.1 hP (ci := 1) (q0 := 1) rfl rfl) ⟨(Nat.le_of_ble_eq_true rfl), (Nat.le_of_ble_eq_true rfl)⟩ rfl rfl rfl rfl (Nat.le_of_ble_eq_true rfl) dX6_isRest_64 ⟨(Nat.le_of_ble_eq_true rfl), (Nat.le_of_ble_eq_true rfl)⟩ ?_
  refine lv_eql (show _ = (f b) from picS_nI (j := b) (by omega)) ?_
  refine lv_iconst (v := 1) hx hb dX6_isRest_67 (by decide) ?_
  refine lv_iload hx hb dX6_isRest_68 (lv_at hl 8 rfl) ?_
  refine lv_isub hx hb dX6_isRest_70 ?_
  refine lv_eqi (pk_sub (a := 1) (b := j) (by omega)) ?_
  refine cS_l (As := [.long (f b), .int (nI (1 - j))]) (rest := []) hx hb hml hown hw hkn hS hl (c_X2_byWay l g _ (f b) (1 - j) (by omega)) sf_X2_byWay mw_716 ⟨(Nat.le_of_ble_eq_true rfl), (Nat.le_of_ble_eq_true rfl)⟩ rfl rfl rfl rfl (Nat.le_of_ble_eq_true rfl) dX6_isRest_71 ⟨(Nat.le_of_ble_eq_true rfl), (Nat.le_of_ble_eq_true rfl)⟩ ?_
  refine lv_lstore (lv' := [(13, .long (bwS (f b) (1 - j))), (11, .long (bwS (f b) j)), (9, .long (bwS (f a) (1 - i))), (7, .long (bwS (f a) i)), (5, .long (f (3 - a - b))), (0, .ref h0), (1, .int (nI a)), (2, .int (nI b)), (3, .int (nI i)), (4, .int (nI j))]) hx hb dX6_isRest_74 hl (by decide) rfl (fun ls hl => ?_)
  refine lv_lload hx hb dX6_isRest_76 (lv_at hl 3 rfl) ?_
  refine lv_lload hx hb dX6_isRest_78 (lv_at hl 1 rfl) ?_
  refine lv_lload hx hb dX6_isRest_80 (lv_at hl 4 rfl) ?_
  refine cS_i (As := [.long (bwS (f a) i), .long (bwS (f b) j), .long (f (3 - a - b))]) (rest := []) hx hb hml hown hw hkn hS hl (c_X6_gain l g _ (bwS (f a) i) (bwS (f b) j) (f (3 - a - b)) ) sf_X6_gain mw_717 ⟨(Nat.le_of_ble_eq_true rfl), (Nat.le_of_ble_eq_true rfl)⟩ rfl rfl rfl rfl (Nat.le_of_ble_eq_true rfl) dX6_isRest_82 ⟨(Nat.le_of_ble_eq_true rfl), (Nat.le_of_ble_eq_true rfl)⟩ ?_
  refine lv_lload hx hb dX6_isRest_85 (lv_at hl 2 rfl) ?_
  refine lv_lload hx hb dX6_isRest_87 (lv_at hl 1 rfl) ?_
  refine lv_lload hx hb dX6_isRest_89 (lv_at hl 4 rfl) ?_
  refine cS_i (As := [.long (bwS (f a) (1 - i)), .long (bwS (f b) j), .long (f (3 - a - b))]) (rest := [.int (gnS (bwS (f a) i) (bwS (f b) j) (f (3 - a - b)))]) hx hb hml hown hw hkn hS hl (c_X6_gain l g _ (bwS (f a) (1 - i)) (bwS (f b) j) (f (3 - a - b)) ) sf_X6_gain mw_717 ⟨(Nat.le_of_ble_eq_true rfl), (Nat.le_of_ble_eq_true rfl)⟩ rfl rfl rfl rfl (Nat.le_of_ble_eq_true rfl) dX6_isRest_91 ⟨(Nat.le_of_ble_eq_true rfl), (Nat.le_of_ble_eq_true rfl)⟩ ?_
  refine lv_icmp_lt (tgt := 122) hx hb dX6_isRest_94 (by decide) (fun c_1 => ?_) (fun c_1 => ?_)
  · skip
    refine lv_iconst (v := 0) hx hb dX6_isRest_122 (by decide) ?_
    exact eR_z hx hb hr hlocks (by unfold rsB; simp [b2i, c_1]) dX6_isRest_123
  · skip
    refine lv_lload hx hb dX6_isRest_97 (lv_at hl 1 rfl) ?_
    refine lv_lload hx hb dX6_isRest_99 (lv_at hl 3 rfl) ?_
    refine lv_lload hx hb dX6_isRest_101 (lv_at hl 4 rfl) ?_
    refine cS_i (As := [.long (bwS (f b) j), .long (bwS (f a) i), .long (f (3 - a - b))]) (rest := []) hx hb hml hown hw hkn hS hl (c_X6_gain l g _ (bwS (f b) j) (bwS (f a) i) (f (3 - a - b)) ) sf_X6_gain mw_717 ⟨(Nat.le_of_ble_eq_true rfl), (Nat.le_of_ble_eq_true rfl)⟩ rfl rfl rfl rfl (Nat.le_of_ble_eq_true rfl) dX6_isRest_103 ⟨(Nat.le_of_ble_eq_true rfl), (Nat.le_of_ble_eq_true rfl)⟩ ?_
    refine lv_lload hx hb dX6_isRest_106 (lv_at hl 0 rfl) ?_
    refine lv_lload hx hb dX6_isRest_108 (lv_at hl 3 rfl) ?_
    refine lv_lload hx hb dX6_isRest_110 (lv_at hl 4 rfl) ?_
    refine cS_i (As := [.long (bwS (f b) (1 - j)), .long (bwS (f a) i), .long (f (3 - a - b))]) (rest := [.int (gnS (bwS (f b) j) (bwS (f a) i) (f (3 - a - b)))]) hx hb hml hown hw hkn hS hl (c_X6_gain l g _ (bwS (f b) (1 - j)) (bwS (f a) i) (f (3 - a - b)) ) sf_X6_gain mw_717 ⟨(Nat.le_of_ble_eq_true rfl), (Nat.le_of_ble_eq_true rfl)⟩ rfl rfl rfl rfl (Nat.le_of_ble_eq_true rfl) dX6_isRest_112 ⟨(Nat.le_of_ble_eq_true rfl), (Nat.le_of_ble_eq_true rfl)⟩ ?_
    refine lv_icmp_lt (tgt := 122) hx hb dX6_isRest_115 (by decide) (fun c_2 => ?_) (fun c_2 => ?_)
    · skip
      refine lv_iconst (v := 0) hx hb dX6_isRest_122 (by decide) ?_
      exact eR_z hx hb hr hlocks (by unfold rsB; simp [b2i, c_1, c_2]) dX6_isRest_123
    · skip
      refine lv_iconst (v := 1) hx hb dX6_isRest_118 (by decide) ?_
      refine lv_goto (tgt := 123) hx hb dX6_isRest_119 (by decide) ?_
      exact eR_z hx hb hr hlocks (by unfold rsB; simp [b2i, c_1, c_2]) dX6_isRest_123
set_option maxHeartbeats 4000000 in
set_option maxRecDepth 100000 in
theorem c_X6_rests (l : Launch) (g : GG) (H : Heap) (h0 : Nat) (x0 : Int32) (y0 : Int32) (z0 : Int32) (a1 : Nat) (a2 : Nat) (a3 : Nat) (a4 : Nat) (a5 : Nat) (a6 : Nat) (a7 : Nat) (a8 : Nat) (sd : Int64) (b1 : Nat) (f : Nat → Int64)  (hP : va_P g.1 vwCl [(h0, .inr (5, [.ref a1, .ref a2, .ref a3, .ref a4, .ref a5, .ref a6, .ref a7, .ref a8, .long sd])), (a1, .inr (1, [.ref b1])), (b1, .inl (gJ g, 3, .inr (.inl f)))] H) : Met l yX6_rests (Cond.code yX6_rests cX6_rests 7 (some .int) :: wsL_law) ({ frames := 4, cells := 0, slots := 0, locals := 105 }) (PR g [.ref h0, .int x0, .int y0, .int z0] H) (QRi (qRs f x0 y0 z0) H) 0 0 NoA := by
  refine Met.R (by decide) (Nat.le_of_ble_eq_true rfl) rfl ?_
  intro p e s m below meth c hx hb hr hml hw hown hlocks hkn hH ls hl
  subst hH
  have hl : lv_has ls 7 [(0, .ref h0), (1, .int x0), (2, .int y0), (3, .int z0)] := hl
  have hS : va_S NoA s.heap s.heap [] := va_S.rf
  refine lv_iload_n hx hb dX6_rests_0 rfl (lv_at hl 1 rfl) ?_
  refine cS_i (As := [.int x0]) (rest := []) hx hb hml hown hw hkn hS hl (c_X6_isPicture l g _ x0 ) sf_X6_isPicture mw_207 ⟨(Nat.le_of_ble_eq_true rfl), (Nat.le_of_ble_eq_true rfl)⟩ rfl rfl rfl rfl (Nat.le_of_ble_eq_true rfl) dX6_rests_1 ⟨(Nat.le_of_ble_eq_true rfl), (Nat.le_of_ble_eq_true rfl)⟩ ?_
  refine lv_ifeqB (b := isPic x0) (tgt := 14) hx hb dX6_rests_4 (by decide) (fun c_1 => ?_) (fun c_1 => ?_)
  · skip
    refine lv_iconst (v := (-1)) hx hb dX6_rests_14 (by decide) ?_
    exact eR_i hx hb hr hlocks (by unfold qRs; first | rw [if_neg (nt_of c_1)] | simp [c_1]) dX6_rests_15
  · skip
    refine lv_iload_n hx hb dX6_rests_7 rfl (lv_at hl 2 rfl) ?_
    refine cS_i (As := [.int y0]) (rest := []) hx hb hml hown hw hkn hS hl (c_X6_isPicture l g _ y0 ) sf_X6_isPicture mw_207 ⟨(Nat.le_of_ble_eq_true rfl), (Nat.le_of_ble_eq_true rfl)⟩ rfl rfl rfl rfl (Nat.le_of_ble_eq_true rfl) dX6_rests_8 ⟨(Nat.le_of_ble_eq_true rfl), (Nat.le_of_ble_eq_true rfl)⟩ ?_
    refine lv_ifneB (b := isPic y0) (tgt := 16) hx hb dX6_rests_11 (by decide) (fun c_2 => ?_) (fun c_2 => ?_)
    · skip
      refine lv_iload_n hx hb dX6_rests_16 rfl (lv_at hl 1 rfl) ?_
      refine lv_iload_n hx hb dX6_rests_17 rfl (lv_at hl 2 rfl) ?_
      refine lv_icmp_eq (tgt := 30) hx hb dX6_rests_18 (by decide) (fun c_3 => ?_) (fun c_3 => ?_)
      · skip
        refine lv_bipush (v := (-2)) hx hb dX6_rests_30 (by decide) ?_
        exact eR_i hx hb hr hlocks (by unfold qRs; first | rw [if_pos c_1, if_pos c_2, if_pos c_3] | simp [c_1, c_2, c_3]) dX6_rests_32
      · skip
        refine lv_iload_n hx hb dX6_rests_21 rfl (lv_at hl 3 rfl) ?_
        refine lv_if_eq (tgt := 33) hx hb dX6_rests_22 (by decide) (fun c_4 => ?_) (fun c_4 => ?_)
        · skip
          obtain ⟨x9, hx9, ex9⟩ := isPic_of c_1
          obtain ⟨y9, hy9, ey9⟩ := isPic_of c_2
          have hne9 : x9 ≠ y9 := fun q => c_3 (by rw [ex9, ey9, q])
          refine lv_iconst (v := 0) hx hb dX6_rests_33 (by decide) ?_
          refine lv_istore (lv' := [(4, .int 0), (0, .ref h0), (1, .int x0), (2, .int y0), (3, .int z0)]) hx hb dX6_rests_34 hl (by decide) rfl (fun ls hl => ?_)
          refine lv_bipush (v := (-9)) hx hb dX6_rests_36 (by decide) ?_
          refine lv_istore (lv' := [(5, .int (-9)), (4, .int 0), (0, .ref h0), (1, .int x0), (2, .int y0), (3, .int z0)]) hx hb dX6_rests_38 hl (by decide) rfl (fun ls hl => ?_)
          refine lv_iconst (v := 0) hx hb dX6_rests_40 (by decide) ?_
          refine lv_istore (lv' := [(6, .int 0), (5, .int (-9)), (4, .int 0), (0, .ref h0), (1, .int x0), (2, .int y0), (3, .int z0)]) hx hb dX6_rests_41 hl (by decide) rfl (fun ls hl => ?_)
          have lp_43 : ∀ (n_43 : Nat) (i : Nat) (k : Nat) (y : Int32), (i ≤ 4) → ((k, y) = rtG (rsB f x9 y9) i) → 4 < i + n_43 → ∀ (ls : Array Slot), lv_has ls 7 [(6, .int (nI i)), (5, .int y), (4, .int (nI k)), (0, .ref h0), (1, .int x0), (2, .int y0), (3, .int z0)] → W p l e ({ frames := 4, cells := 0, slots := 0, locals := 105 } : Room) s m ([.ref h0, .int x0, .int y0, .int z0] : List Value).toArray below meth c s.heap [] 0 0 (MQ below (QRi (qRs f x0 y0 z0) s.heap) ([.ref h0, .int x0, .int y0, .int z0] : List Value).toArray s 0 0 NoA) (F0 m 43 ls []) := by
            intro n_43
            induction n_43 with
            | zero => intro i k y h_i h_k hfu_43; exact absurd hfu_43 (by omega)
            | succ n_43 ih_43 =>
              intro i k y h_i h_k hfu_43 ls hl
              have hk4 : k ≤ 4 := by have h9 := rtG_le (rsB f x9 y9) i; rw [← h_k] at h9; exact Nat.le_trans h9 h_i
              refine lv_iload hx hb dX6_rests_43 (lv_at hl 0 rfl) ?_
              refine lv_iconst (v := 4) hx hb dX6_rests_45 (by decide) ?_
              refine ic_ge (a := i) (d := 4) (tgt := 99) hx hb dX6_rests_46 (by decide) rfl rfl (by omega) (by omega) (fun c_5 => ?_) (fun c_5 => ?_)
              · skip
                refine lv_iload_n hx hb dX6_rests_99 rfl (lv_at hl 6 rfl) ?_
                refine lv_if_ne (tgt := 108) hx hb dX6_rests_100 (by decide) (fun c_6 => ?_) (fun c_6 => ?_)
                · skip
                  refine lv_iload hx hb dX6_rests_108 (lv_at hl 1 rfl) ?_
                  exact eR_i hx hb hr hlocks (by first | exact absurd c_4 c_6 | exact absurd (c_9.symm.trans c_6) (by decide) | (have h9 := h_k; rw [show i = 4 by omega] at h9; unfold qRs; rw [if_pos c_1, if_pos c_2, if_neg c_3, ex9, ey9, nI_clamp (by omega), nI_clamp (by omega), ← h9]; simp [c_1, c_2, c_3, c_4, c_5, c_6])) dX6_rests_110
                · skip
                  refine lv_iload hx hb dX6_rests_103 (lv_at hl 2 rfl) ?_
                  refine lv_goto (tgt := 110) hx hb dX6_rests_105 (by decide) ?_
                  exact eR_i hx hb hr hlocks (by first | exact absurd c_4 c_6 | exact absurd (c_9.symm.trans c_6) (by decide) | (have h9 := h_k; rw [show i = 4 by omega] at h9; unfold qRs; rw [if_pos c_1, if_pos c_2, if_neg c_3, ex9, ey9, nI_clamp (by omega), nI_clamp (by omega), ← h9]; simp [c_1, c_2, c_3, c_4, c_5, c_6])) dX6_rests_110
              · skip
                refine lv_aload_n hx hb dX6_rests_49 rfl (lv_at hl 3 rfl) ?_
                refine lv_iload_n hx hb dX6_rests_50 rfl (lv_at hl 4 rfl) ?_
                refine lv_eqi (show _ = (nI x9) from ex9) ?_
                refine lv_iload_n hx hb dX6_rests_51 rfl (lv_at hl 5 rfl) ?_
                refine lv_eqi (show _ = (nI y9) from ey9) ?_
                refine lv_iload hx hb dX6_rests_52 (lv_at hl 0 rfl) ?_
                refine lv_iconst (v := 2) hx hb dX6_rests_54 (by decide) ?_
                refine lv_idiv hx hb dX6_rests_55 (by decide) ?_
                refine lv_eqi (pk_div (a := i) (d := 2) (by omega) (by omega) (by omega)) ?_
                refine lv_iload hx hb dX6_rests_56 (lv_at hl 0 rfl) ?_
                refine lv_iconst (v := 2) hx hb dX6_rests_58 (by decide) ?_
                refine lv_irem hx hb dX6_rests_59 (by decide) ?_
                refine lv_eqi (pk_rem (a := i) (d := 2) (by omega) (by omega) (by omega)) ?_
                refine cV_i (As := [.int (nI x9), .int (nI y9), .int (nI (i / 2)), .int (nI (i % 2))]) (rest := []) hx hb hml hown hw hkn hS hl (c_X6_isRest l g _ h0 x9 y9 (i / 2) (i % 2) a1 a2 a3 a4 a5 a6 a7 a8 sd b1 f (by omega) (by omega) (hne9) (by omega) (by omega) (hP.sub [0, 1, 2] rfl)) vf_X6_isRest mw_712 (va_recv hkn.1 hP (ci := 5) (q0 := 0) rfl rfl) ⟨(Nat.le_of_ble_eq_true rfl), (Nat.le_of_ble_eq_true rfl)⟩ rfl rfl rfl rfl (Nat.le_of_ble_eq_true rfl) dX6_rests_60 ⟨(Nat.le_of_ble_eq_true rfl), (Nat.le_of_ble_eq_true rfl)⟩ ?_
                refine lv_ifeqB (b := rsB f x9 y9 (i / 2) (i % 2)) (tgt := 93) hx hb dX6_rests_63 (by decide) (fun c_7 => ?_) (fun c_7 => ?_)
                · skip
                  refine lv_iinc (v := (nI (i + 1))) (lv' := [(6, .int (nI (i + 1))), (5, .int y), (4, .int (nI k)), (0, .ref h0), (1, .int x0), (2, .int y0), (3, .int z0)]) hx hb dX6_rests_93 hl (k := 0) rfl (nI_1 i) (by decide) rfl (fun ls hl => ?_)
                  refine lv_goto (tgt := 43) hx hb dX6_rests_96 (by decide) ?_
                  exact ih_43 (i + 1) k y (by omega) (by rw [rtG, ← h_k]; simp [c_4, c_5, c_7]) (by omega) ls (lv_sub hl [0, 1, 2, 3, 4, 5, 6] rfl)
                · skip
                  refine lv_iload hx hb dX6_rests_66 (lv_at hl 2 rfl) ?_
                  have mg_88 : W p l e ({ frames := 4, cells := 0, slots := 0, locals := 105 } : Room) s m ([.ref h0, .int x0, .int y0, .int z0] : List Value).toArray below meth c s.heap [] 0 0 (MQ below (QRi (qRs f x0 y0 z0) s.heap) ([.ref h0, .int x0, .int y0, .int z0] : List Value).toArray s 0 0 NoA) (F0 m 88 ls (.int (if k = 0 then (nI (10 * (i / 2) + (i % 2))) else y) :: [])) := by
                    refine lv_istore (lv' := [(5, .int (if k = 0 then (nI (10 * (i / 2) + (i % 2))) else y)), (6, .int (nI i)), (4, .int (nI k)), (0, .ref h0), (1, .int x0), (2, .int y0), (3, .int z0)]) hx hb dX6_rests_88 hl (by decide) rfl (fun ls hl => ?_)
                    refine lv_iinc (v := (nI (k + 1))) (lv' := [(4, .int (nI (k + 1))), (5, .int (if k = 0 then (nI (10 * (i / 2) + (i % 2))) else y)), (6, .int (nI i)), (0, .ref h0), (1, .int x0), (2, .int y0), (3, .int z0)]) hx hb dX6_rests_90 hl (k := 2) rfl (nI_1 k) (by decide) rfl (fun ls hl => ?_)
                    refine lv_iinc (v := (nI (i + 1))) (lv' := [(6, .int (nI (i + 1))), (4, .int (nI (k + 1))), (5, .int (if k = 0 then (nI (10 * (i / 2) + (i % 2))) else y)), (0, .ref h0), (1, .int x0), (2, .int y0), (3, .int z0)]) hx hb dX6_rests_93 hl (k := 2) rfl (nI_1 i) (by decide) rfl (fun ls hl => ?_)
                    refine lv_goto (tgt := 43) hx hb dX6_rests_96 (by decide) ?_
                    exact ih_43 (i + 1) (k + 1) (if k = 0 then (nI (10 * (i / 2) + (i % 2))) else y) (by omega) (by rw [rtG, ← h_k]; simp [c_4, c_5, c_7]) (by omega) ls (lv_sub hl [0, 2, 1, 3, 4, 5, 6] rfl)
                  refine iz_ne (a := k) (tgt := 86) hx hb dX6_rests_68 (by decide) rfl (by omega) (fun c_8 => ?_) (fun c_8 => ?_)
                  · skip
                    refine lv_iload hx hb dX6_rests_86 (lv_at hl 1 rfl) ?_
                    exact lv_eqi (by rw [if_neg (Nat.pos_iff_ne_zero.mp c_8)]) mg_88
                  · skip
                    refine lv_bipush (v := 10) hx hb dX6_rests_71 (by decide) ?_
                    refine lv_iload hx hb dX6_rests_73 (lv_at hl 0 rfl) ?_
                    refine lv_iconst (v := 2) hx hb dX6_rests_75 (by decide) ?_
                    refine lv_idiv hx hb dX6_rests_76 (by decide) ?_
                    refine lv_eqi (pk_div (a := i) (d := 2) (by omega) (by omega) (by omega)) ?_
                    refine lv_imul hx hb dX6_rests_77 ?_
                    refine lv_eqi (pk_mul 10 (i / 2)) ?_
                    refine lv_iload hx hb dX6_rests_78 (lv_at hl 0 rfl) ?_
                    refine lv_iconst (v := 2) hx hb dX6_rests_80 (by decide) ?_
                    refine lv_irem hx hb dX6_rests_81 (by decide) ?_
                    refine lv_eqi (pk_rem (a := i) (d := 2) (by omega) (by omega) (by omega)) ?_
                    refine lv_iadd hx hb dX6_rests_82 ?_
                    refine lv_eqi (nI_add (10 * (i / 2)) (i % 2)) ?_
                    refine lv_goto (tgt := 88) hx hb dX6_rests_83 (by decide) ?_
                    exact lv_eqi (by rw [if_pos c_8]) mg_88
          exact lp_43 5 0 0 (-9) (by omega) (rfl) (by omega) ls (lv_sub hl [0, 1, 2, 3, 4, 5, 6] rfl)
        · skip
          refine lv_iload_n hx hb dX6_rests_25 rfl (lv_at hl 3 rfl) ?_
          refine lv_iconst (v := 1) hx hb dX6_rests_26 (by decide) ?_
          refine lv_icmp_eq (tgt := 33) hx hb dX6_rests_27 (by decide) (fun c_9 => ?_) (fun c_9 => ?_)
          · skip
            obtain ⟨x9, hx9, ex9⟩ := isPic_of c_1
            obtain ⟨y9, hy9, ey9⟩ := isPic_of c_2
            have hne9 : x9 ≠ y9 := fun q => c_3 (by rw [ex9, ey9, q])
            refine lv_iconst (v := 0) hx hb dX6_rests_33 (by decide) ?_
            refine lv_istore (lv' := [(4, .int 0), (0, .ref h0), (1, .int x0), (2, .int y0), (3, .int z0)]) hx hb dX6_rests_34 hl (by decide) rfl (fun ls hl => ?_)
            refine lv_bipush (v := (-9)) hx hb dX6_rests_36 (by decide) ?_
            refine lv_istore (lv' := [(5, .int (-9)), (4, .int 0), (0, .ref h0), (1, .int x0), (2, .int y0), (3, .int z0)]) hx hb dX6_rests_38 hl (by decide) rfl (fun ls hl => ?_)
            refine lv_iconst (v := 0) hx hb dX6_rests_40 (by decide) ?_
            refine lv_istore (lv' := [(6, .int 0), (5, .int (-9)), (4, .int 0), (0, .ref h0), (1, .int x0), (2, .int y0), (3, .int z0)]) hx hb dX6_rests_41 hl (by decide) rfl (fun ls hl => ?_)
            have lp_43 : ∀ (n_43 : Nat) (i : Nat) (k : Nat) (y : Int32), (i ≤ 4) → ((k, y) = rtG (rsB f x9 y9) i) → 4 < i + n_43 → ∀ (ls : Array Slot), lv_has ls 7 [(6, .int (nI i)), (5, .int y), (4, .int (nI k)), (0, .ref h0), (1, .int x0), (2, .int y0), (3, .int z0)] → W p l e ({ frames := 4, cells := 0, slots := 0, locals := 105 } : Room) s m ([.ref h0, .int x0, .int y0, .int z0] : List Value).toArray below meth c s.heap [] 0 0 (MQ below (QRi (qRs f x0 y0 z0) s.heap) ([.ref h0, .int x0, .int y0, .int z0] : List Value).toArray s 0 0 NoA) (F0 m 43 ls []) := by
              intro n_43
              induction n_43 with
              | zero => intro i k y h_i h_k hfu_43; exact absurd hfu_43 (by omega)
              | succ n_43 ih_43 =>
                intro i k y h_i h_k hfu_43 ls hl
                have hk4 : k ≤ 4 := by have h9 := rtG_le (rsB f x9 y9) i; rw [← h_k] at h9; exact Nat.le_trans h9 h_i
                refine lv_iload hx hb dX6_rests_43 (lv_at hl 0 rfl) ?_
                refine lv_iconst (v := 4) hx hb dX6_rests_45 (by decide) ?_
                refine ic_ge (a := i) (d := 4) (tgt := 99) hx hb dX6_rests_46 (by decide) rfl rfl (by omega) (by omega) (fun c_10 => ?_) (fun c_10 => ?_)
                · skip
                  refine lv_iload_n hx hb dX6_rests_99 rfl (lv_at hl 6 rfl) ?_
                  refine lv_if_ne (tgt := 108) hx hb dX6_rests_100 (by decide) (fun c_11 => ?_) (fun c_11 => ?_)
                  · skip
                    refine lv_iload hx hb dX6_rests_108 (lv_at hl 1 rfl) ?_
                    exact eR_i hx hb hr hlocks (by first | exact absurd c_4 c_11 | exact absurd (c_9.symm.trans c_11) (by decide) | (have h9 := h_k; rw [show i = 4 by omega] at h9; unfold qRs; rw [if_pos c_1, if_pos c_2, if_neg c_3, ex9, ey9, nI_clamp (by omega), nI_clamp (by omega), ← h9]; simp [c_1, c_2, c_3, c_4, c_9, c_10, c_11])) dX6_rests_110
                  · skip
                    refine lv_iload hx hb dX6_rests_103 (lv_at hl 2 rfl) ?_
                    refine lv_goto (tgt := 110) hx hb dX6_rests_105 (by decide) ?_
                    exact eR_i hx hb hr hlocks (by first | exact absurd c_4 c_11 | exact absurd (c_9.symm.trans c_11) (by decide) | (have h9 := h_k; rw [show i = 4 by omega] at h9; unfold qRs; rw [if_pos c_1, if_pos c_2, if_neg c_3, ex9, ey9, nI_clamp (by omega), nI_clamp (by omega), ← h9]; simp [c_1, c_2, c_3, c_4, c_9, c_10, c_11])) dX6_rests_110
                · skip
                  refine lv_aload_n hx hb dX6_rests_49 rfl (lv_at hl 3 rfl) ?_
                  refine lv_iload_n hx hb dX6_rests_50 rfl (lv_at hl 4 rfl) ?_
                  refine lv_eqi (show _ = (nI x9) from ex9) ?_
                  refine lv_iload_n hx hb dX6_rests_51 rfl (lv_at hl 5 rfl) ?_
                  refine lv_eqi (show _ = (nI y9) from ey9) ?_
                  refine lv_iload hx hb dX6_rests_52 (lv_at hl 0 rfl) ?_
                  refine lv_iconst (v := 2) hx hb dX6_rests_54 (by decide) ?_
                  refine lv_idiv hx hb dX6_rests_55 (by decide) ?_
                  refine lv_eqi (pk_div (a := i) (d := 2) (by omega) (by omega) (by omega)) ?_
                  refine lv_iload hx hb dX6_rests_56 (lv_at hl 0 rfl) ?_
                  refine lv_iconst (v := 2) hx hb dX6_rests_58 (by decide) ?_
                  refine lv_irem hx hb dX6_rests_59 (by decide) ?_
                  refine lv_eqi (pk_rem (a := i) (d := 2) (by omega) (by omega) (by omega)) ?_
                  refine cV_i (As := [.int (nI x9), .int (nI y9), .int (nI (i / 2)), .int (nI (i % 2))]) (rest := []) hx hb hml hown hw hkn hS hl (c_X6_isRest l g _ h0 x9 y9 (i / 2) (i % 2) a1 a2 a3 a4 a5 a6 a7 a8 sd b1 f (by omega) (by omega) (hne9) (by omega) (by omega) (hP.sub [0, 1, 2] rfl)) vf_X6_isRest mw_712 (va_recv hkn.1 hP (ci := 5) (q0 := 0) rfl rfl) ⟨(Nat.le_of_ble_eq_true rfl), (Nat.le_of_ble_eq_true rfl)⟩ rfl rfl rfl rfl (Nat.le_of_ble_eq_true rfl) dX6_rests_60 ⟨(Nat.le_of_ble_eq_true rfl), (Nat.le_of_ble_eq_true rfl)⟩ ?_
                  refine lv_ifeqB (b := rsB f x9 y9 (i / 2) (i % 2)) (tgt := 93) hx hb dX6_rests_63 (by decide) (fun c_12 => ?_) (fun c_12 => ?_)
                  · skip
                    refine lv_iinc (v := (nI (i + 1))) (lv' := [(6, .int (nI (i + 1))), (5, .int y), (4, .int (nI k)), (0, .ref h0), (1, .int x0), (2, .int y0), (3, .int z0)]) hx hb dX6_rests_93 hl (k := 0) rfl (nI_1 i) (by decide) rfl (fun ls hl => ?_)
                    refine lv_goto (tgt := 43) hx hb dX6_rests_96 (by decide) ?_
                    exact ih_43 (i + 1) k y (by omega) (by rw [rtG, ← h_k]; simp [c_4, c_9, c_10, c_12]) (by omega) ls (lv_sub hl [0, 1, 2, 3, 4, 5, 6] rfl)
                  · skip
                    refine lv_iload hx hb dX6_rests_66 (lv_at hl 2 rfl) ?_
                    have mg_88 : W p l e ({ frames := 4, cells := 0, slots := 0, locals := 105 } : Room) s m ([.ref h0, .int x0, .int y0, .int z0] : List Value).toArray below meth c s.heap [] 0 0 (MQ below (QRi (qRs f x0 y0 z0) s.heap) ([.ref h0, .int x0, .int y0, .int z0] : List Value).toArray s 0 0 NoA) (F0 m 88 ls (.int (if k = 0 then (nI (10 * (i / 2) + (i % 2))) else y) :: [])) := by
                      refine lv_istore (lv' := [(5, .int (if k = 0 then (nI (10 * (i / 2) + (i % 2))) else y)), (6, .int (nI i)), (4, .int (nI k)), (0, .ref h0), (1, .int x0), (2, .int y0), (3, .int z0)]) hx hb dX6_rests_88 hl (by decide) rfl (fun ls hl => ?_)
                      refine lv_iinc (v := (nI (k + 1))) (lv' := [(4, .int (nI (k + 1))), (5, .int (if k = 0 then (nI (10 * (i / 2) + (i % 2))) else y)), (6, .int (nI i)), (0, .ref h0), (1, .int x0), (2, .int y0), (3, .int z0)]) hx hb dX6_rests_90 hl (k := 2) rfl (nI_1 k) (by decide) rfl (fun ls hl => ?_)
                      refine lv_iinc (v := (nI (i + 1))) (lv' := [(6, .int (nI (i + 1))), (4, .int (nI (k + 1))), (5, .int (if k = 0 then (nI (10 * (i / 2) + (i % 2))) else y)), (0, .ref h0), (1, .int x0), (2, .int y0), (3, .int z0)]) hx hb dX6_rests_93 hl (k := 2) rfl (nI_1 i) (by decide) rfl (fun ls hl => ?_)
                      refine lv_goto (tgt := 43) hx hb dX6_rests_96 (by decide) ?_
                      exact ih_43 (i + 1) (k + 1) (if k = 0 then (nI (10 * (i / 2) + (i % 2))) else y) (by omega) (by rw [rtG, ← h_k]; simp [c_4, c_9, c_10, c_12]) (by omega) ls (lv_sub hl [0, 2, 1, 3, 4, 5, 6] rfl)
                    refine iz_ne (a := k) (tgt := 86) hx hb dX6_rests_68 (by decide) rfl (by omega) (fun c_13 => ?_) (fun c_13 => ?_)
                    · skip
                      refine lv_iload hx hb dX6_rests_86 (lv_at hl 1 rfl) ?_
                      exact lv_eqi (by rw [if_neg (Nat.pos_iff_ne_zero.mp c_13)]) mg_88
                    · skip
                      refine lv_bipush (v := 10) hx hb dX6_rests_71 (by decide) ?_
                      refine lv_iload hx hb dX6_rests_73 (lv_at hl 0 rfl) ?_
                      refine lv_iconst (v := 2) hx hb dX6_rests_75 (by decide) ?_
                      refine lv_idiv hx hb dX6_rests_76 (by decide) ?_
                      refine lv_eqi (pk_div (a := i) (d := 2) (by omega) (by omega) (by omega)) ?_
                      refine lv_imul hx hb dX6_rests_77 ?_
                      refine lv_eqi (pk_mul 10 (i / 2)) ?_
                      refine lv_iload hx hb dX6_rests_78 (lv_at hl 0 rfl) ?_
                      refine lv_iconst (v := 2) hx hb dX6_rests_80 (by decide) ?_
                      refine lv_irem hx hb dX6_rests_81 (by decide) ?_
                      refine lv_eqi (pk_rem (a := i) (d := 2) (by omega) (by omega) (by omega)) ?_
                      refine lv_iadd hx hb dX6_rests_82 ?_
                      refine lv_eqi (nI_add (10 * (i / 2)) (i % 2)) ?_
                      refine lv_goto (tgt := 88) hx hb dX6_rests_83 (by decide) ?_
                      exact lv_eqi (by rw [if_pos c_13]) mg_88
            exact lp_43 5 0 0 (-9) (by omega) (rfl) (by omega) ls (lv_sub hl [0, 1, 2, 3, 4, 5, 6] rfl)
          · skip
            refine lv_bipush (v := (-2)) hx hb dX6_rests_30 (by decide) ?_
            exact eR_i hx hb hr hlocks (by unfold qRs; first | rw [if_pos c_1, if_pos c_2, if_neg c_3, if_neg c_4, if_neg c_9] | simp [c_1, c_2, c_3, c_4, c_9]) dX6_rests_32
    · skip
      refine lv_iconst (v := (-1)) hx hb dX6_rests_14 (by decide) ?_
      exact eR_i hx hb hr hlocks (by unfold qRs; first | rw [if_pos c_1, if_neg (nt_of c_2)] | simp [c_1, c_2]) dX6_rests_15
set_option maxHeartbeats 4000000 in
set_option maxRecDepth 100000 in
theorem c_X6_fades (l : Launch) (g : GG) (H : Heap) (h0 : Nat) (x0 : Int32) (t0 : Int32) (z0 : Int32) (up : Bool) (a1 : Nat) (a2 : Nat) (a3 : Nat) (a4 : Nat) (a5 : Nat) (a6 : Nat) (a7 : Nat) (a8 : Nat) (sd : Int64) (b1 : Nat) (f : Nat → Int64)  (hP : va_P g.1 vwCl [(h0, .inr (5, [.ref a1, .ref a2, .ref a3, .ref a4, .ref a5, .ref a6, .ref a7, .ref a8, .long sd])), (a1, .inr (1, [.ref b1])), (b1, .inl (gJ g, 3, .inr (.inl f)))] H) : Met l yX6_fades (Cond.code yX6_fades cX6_fades 7 (some .int) :: wsL_law) ({ frames := 3, cells := 0, slots := 0, locals := 64 }) (PR g [.ref h0, .int x0, .int t0, .int z0, .int (b2i up)] H) (QRi (qFd f x0 t0 z0 up) H) 0 0 NoA := by
  refine Met.R (by decide) (Nat.le_of_ble_eq_true rfl) rfl ?_
  intro p e s m below meth c hx hb hr hml hw hown hlocks hkn hH ls hl
  subst hH
  have hl : lv_has ls 7 [(0, .ref h0), (1, .int x0), (2, .int t0), (3, .int z0), (4, .int (b2i up))] := hl
  have hS : va_S NoA s.heap s.heap [] := va_S.rf
  refine lv_iload_n hx hb dX6_fades_0 rfl (lv_at hl 1 rfl) ?_
  refine cS_i (As := [.int x0]) (rest := []) hx hb hml hown hw hkn hS hl (c_X6_isPicture l g _ x0 ) sf_X6_isPicture mw_207 ⟨(Nat.le_of_ble_eq_true rfl), (Nat.le_of_ble_eq_true rfl)⟩ rfl rfl rfl rfl (Nat.le_of_ble_eq_true rfl) dX6_fades_1 ⟨(Nat.le_of_ble_eq_true rfl), (Nat.le_of_ble_eq_true rfl)⟩ ?_
  refine lv_ifneB (b := isPic x0) (tgt := 9) hx hb dX6_fades_4 (by decide) (fun c_1 => ?_) (fun c_1 => ?_)
  · skip
    refine lv_iload_n hx hb dX6_fades_9 rfl (lv_at hl 2 rfl) ?_
    refine lv_if_lt (tgt := 29) hx hb dX6_fades_10 (by decide) (fun c_2 => ?_) (fun c_2 => ?_)
    · skip
      refine lv_bipush (v := (-2)) hx hb dX6_fades_29 (by decide) ?_
      exact eR_i hx hb hr hlocks (by unfold qFd; rw [if_pos c_1, if_pos c_2]) dX6_fades_31
    · skip
      refine lv_iload_n hx hb dX6_fades_13 rfl (lv_at hl 2 rfl) ?_
      refine lv_bipush (v := 64) hx hb dX6_fades_14 (by decide) ?_
      refine lv_icmp_gt (tgt := 29) hx hb dX6_fades_16 (by decide) (fun c_3 => ?_) (fun c_3 => ?_)
      · skip
        refine lv_bipush (v := (-2)) hx hb dX6_fades_29 (by decide) ?_
        exact eR_i hx hb hr hlocks (by unfold qFd; rw [if_pos c_1, if_neg c_2, if_pos c_3]) dX6_fades_31
      · skip
        refine lv_iload_n hx hb dX6_fades_19 rfl (lv_at hl 3 rfl) ?_
        refine lv_if_lt (tgt := 29) hx hb dX6_fades_20 (by decide) (fun c_4 => ?_) (fun c_4 => ?_)
        · skip
          refine lv_bipush (v := (-2)) hx hb dX6_fades_29 (by decide) ?_
          exact eR_i hx hb hr hlocks (by unfold qFd; rw [if_pos c_1, if_neg c_2, if_neg c_3, if_pos c_4]) dX6_fades_31
        · skip
          refine lv_iload_n hx hb dX6_fades_23 rfl (lv_at hl 3 rfl) ?_
          refine lv_bipush (v := 10) hx hb dX6_fades_24 (by decide) ?_
          refine lv_icmp_le (tgt := 32) hx hb dX6_fades_26 (by decide) (fun c_5 => ?_) (fun c_5 => ?_)
          · skip
            obtain ⟨t9, ht9, et9⟩ := nI_of2 (M := 64) (n := 64) (by decide) c_2 (Int32.not_lt.mp c_3)
            obtain ⟨z9, hz9, ez9⟩ := nI_of2 (M := 10) (n := 10) (by decide) c_4 c_5
            refine lv_iconst (v := 0) hx hb dX6_fades_32 (by decide) ?_
            refine lv_istore (lv' := [(5, .int 0), (0, .ref h0), (1, .int x0), (2, .int t0), (3, .int z0), (4, .int (b2i up))]) hx hb dX6_fades_33 hl (by decide) rfl (fun ls hl => ?_)
            refine lv_iconst (v := 0) hx hb dX6_fades_35 (by decide) ?_
            refine lv_istore (lv' := [(6, .int 0), (5, .int 0), (0, .ref h0), (1, .int x0), (2, .int t0), (3, .int z0), (4, .int (b2i up))]) hx hb dX6_fades_36 hl (by decide) rfl (fun ls hl => ?_)
            have lp_38 : ∀ (n_38 : Nat) (i : Nat) (a : Nat), (i ≤ 16) → (a = fb_sm (fdF (picS f x0) t9 z9) i) → 16 < i + n_38 → ∀ (ls : Array Slot), lv_has ls 7 [(6, .int (nI i)), (5, .int (nI a)), (0, .ref h0), (1, .int x0), (2, .int t0), (3, .int z0), (4, .int (b2i up))] → W p l e ({ frames := 3, cells := 0, slots := 0, locals := 64 } : Room) s m ([.ref h0, .int x0, .int t0, .int z0, .int (b2i up)] : List Value).toArray below meth c s.heap [] 0 0 (MQ below (QRi (qFd f x0 t0 z0 up) s.heap) ([.ref h0, .int x0, .int t0, .int z0, .int (b2i up)] : List Value).toArray s 0 0 NoA) (F0 m 38 ls []) := by
              intro n_38
              induction n_38 with
              | zero => intro i a h_i h_a hfu_38; exact absurd hfu_38 (by omega)
              | succ n_38 ih_38 =>
                intro i a h_i h_a hfu_38 ls hl
                have hab := fdN_le (v := picS f x0) (t := t9) hz9 i h_i
                refine lv_iload hx hb dX6_fades_38 (lv_at hl 0 rfl) ?_
                refine lv_bipush (v := 16) hx hb dX6_fades_40 (by decide) ?_
                refine ic_ge (a := i) (d := 16) (tgt := 79) hx hb dX6_fades_42 (by decide) rfl rfl (by omega) (by omega) (fun c_6 => ?_) (fun c_6 => ?_)
                · skip
                  refine lv_iload hx hb dX6_fades_79 (lv_at hl 1 rfl) ?_
                  refine lv_sipush (v := 10000) hx hb dX6_fades_81 (by decide) ?_
                  refine lv_iload hx hb dX6_fades_84 (lv_at hl 6 rfl) ?_
                  refine cS_i (As := [.int (nI a), .int 10000, .int (b2i up)]) (rest := []) hx hb hml hown hw hkn hS hl (c_X6_told l g _ a 10000 up (by omega) (by omega) (by omega)) sf_X6_told mw_691 ⟨(Nat.le_of_ble_eq_true rfl), (Nat.le_of_ble_eq_true rfl)⟩ rfl rfl rfl rfl (Nat.le_of_ble_eq_true rfl) dX6_fades_86 ⟨(Nat.le_of_ble_eq_true rfl), (Nat.le_of_ble_eq_true rfl)⟩ ?_
                  exact eR_i hx hb hr hlocks (by unfold qFd fdN; rw [if_pos c_1, if_neg c_2, if_neg c_3, if_neg c_4, if_pos c_5, et9, ez9, nI_clamp (by omega), nI_clamp (by omega), ← show i = 16 by omega, h_a]) dX6_fades_89
                · skip
                  refine lv_aload_n hx hb dX6_fades_45 rfl (lv_at hl 2 rfl) ?_
                  refine va_get (D := g.1) (ci := 5) (v := .ref a1) (C := RX6) (T := TX6) (N := 9) hx hb hw inlX6 hown hkn.1 hP 0 rfl rfl 0 (by decide) (hw _ mw_16) (fun _ h9 => h9) rfl dX6_fades_46 ?_
                  refine lv_iload_n hx hb dX6_fades_49 rfl (lv_at hl 3 rfl) ?_
                  refine cV_l (As := [.int x0]) (rest := []) hx hb hml hown hw hkn hS hl (c_X1_cells l g _ a1 x0 b1 f  (hP.sub [1, 2] rfl)) vf_X1_cells mw_218 (va_recv hkn.1 hP (ci := 1) (q0 := 1) rfl rfl) ⟨(Nat.le_of_ble_eq_true rfl), (Nat.le_of_ble_eq_true rfl)⟩ rfl rfl rfl rfl (Nat.le_of_ble_eq_true rfl) dX6_fades_50 ⟨(Nat.le_of_ble_eq_true rfl), (Nat.le_of_ble_eq_true rfl)⟩ ?_
                  refine lv_iload hx hb dX6_fades_53 (lv_at hl 0 rfl) ?_
                  refine cS_i (As := [.long (picS f x0), .int (nI i)]) (rest := []) hx hb hml hown hw hkn hS hl (c_X6_areaLeft l g _ (picS f x0) i (by omega)) sf_X6_areaLeft mw_736 ⟨(Nat.le_of_ble_eq_true rfl), (Nat.le_of_ble_eq_true rfl)⟩ rfl rfl rfl rfl (Nat.le_of_ble_eq_true rfl) dX6_fades_55 ⟨(Nat.le_of_ble_eq_true rfl), (Nat.le_of_ble_eq_true rfl)⟩ ?_
                  refine lv_iload_n hx hb dX6_fades_58 rfl (lv_at hl 4 rfl) ?_
                  refine lv_eqi (show _ = (nI t9) from et9) ?_
                  have har : arN (picS f x0) i ≤ 256 := arN_le _ _
                  refine ic_lt (a := arN (picS f x0) i) (d := t9) (tgt := 73) hx hb dX6_fades_59 (by decide) rfl rfl (by omega) (by omega) (fun c_7 => ?_) (fun c_7 => ?_)
                  · skip
                    refine lv_iinc (v := (nI (i + 1))) (lv' := [(6, .int (nI (i + 1))), (5, .int (nI a)), (0, .ref h0), (1, .int x0), (2, .int t0), (3, .int z0), (4, .int (b2i up))]) hx hb dX6_fades_73 hl (k := 0) rfl (nI_1 i) (by decide) rfl (fun ls hl => ?_)
                    refine lv_goto (tgt := 38) hx hb dX6_fades_76 (by decide) ?_
                    exact ih_38 (i + 1) a (by omega) (by rw [h_a, fb_sm_succ]; simp [fdF]; omega) (by omega) ls (lv_sub hl [0, 1, 2, 3, 4, 5, 6] rfl)
                  · skip
                    refine lv_iload hx hb dX6_fades_62 (lv_at hl 1 rfl) ?_
                    refine lv_iload hx hb dX6_fades_64 (lv_at hl 0 rfl) ?_
                    refine lv_iload_n hx hb dX6_fades_66 rfl (lv_at hl 5 rfl) ?_
                    refine lv_eqi (show _ = (nI z9) from ez9) ?_
                    refine cS_i (As := [.int (nI i), .int (nI z9)]) (rest := [.int (nI a)]) hx hb hml hown hw hkn hS hl (c_X6_chanceOf l g _ i z9 (by omega) (by omega)) sf_X6_chanceOf mw_740 ⟨(Nat.le_of_ble_eq_true rfl), (Nat.le_of_ble_eq_true rfl)⟩ rfl rfl rfl rfl (Nat.le_of_ble_eq_true rfl) dX6_fades_67 ⟨(Nat.le_of_ble_eq_true rfl), (Nat.le_of_ble_eq_true rfl)⟩ ?_
                    refine lv_iadd hx hb dX6_fades_70 ?_
                    refine lv_eqi (nI_add a (chN i z9)) ?_
                    refine lv_istore (lv' := [(5, .int (nI (a + (chN i z9)))), (6, .int (nI i)), (0, .ref h0), (1, .int x0), (2, .int t0), (3, .int z0), (4, .int (b2i up))]) hx hb dX6_fades_71 hl (by decide) rfl (fun ls hl => ?_)
                    refine lv_iinc (v := (nI (i + 1))) (lv' := [(6, .int (nI (i + 1))), (5, .int (nI (a + (chN i z9)))), (0, .ref h0), (1, .int x0), (2, .int t0), (3, .int z0), (4, .int (b2i up))]) hx hb dX6_fades_73 hl (k := 1) rfl (nI_1 i) (by decide) rfl (fun ls hl => ?_)
                    refine lv_goto (tgt := 38) hx hb dX6_fades_76 (by decide) ?_
                    exact ih_38 (i + 1) (a + (chN i z9)) (by omega) (by rw [h_a, fb_sm_succ]; simp [fdF]; omega) (by omega) ls (lv_sub hl [0, 1, 2, 3, 4, 5, 6] rfl)
            exact lp_38 17 0 0 (by omega) (rfl) (by omega) ls (lv_sub hl [0, 1, 2, 3, 4, 5, 6] rfl)
          · skip
            refine lv_bipush (v := (-2)) hx hb dX6_fades_29 (by decide) ?_
            exact eR_i hx hb hr hlocks (by unfold qFd; rw [if_pos c_1, if_neg c_2, if_neg c_3, if_neg c_4, if_neg c_5]) dX6_fades_31
  · skip
    refine lv_iconst (v := (-1)) hx hb dX6_fades_7 (by decide) ?_
    exact eR_i hx hb hr hlocks (by unfold qFd; rw [if_neg (nt_of c_1)]) dX6_fades_8
set_option maxHeartbeats 4000000 in
set_option maxRecDepth 100000 in
theorem c_X6_seed (l : Launch) (g : GG) (sz : Nat) (h0 : Nat) (v0 : Int64) (a1 : Nat) (a2 : Nat) (a3 : Nat) (a4 : Nat) (a5 : Nat) (a6 : Nat) (a7 : Nat) (a8 : Nat) (sd : Int64)  : Met l yX6_seed (Cond.code yX6_seed cX6_seed 5 (some .long) :: wsL_law) ({ frames := 0, cells := 0, slots := 0, locals := 0 }) (PM g [.ref h0, .long v0] [(h0, .inr (5, [.ref a1, .ref a2, .ref a3, .ref a4, .ref a5, .ref a6, .ref a7, .ref a8, .long sd]))] sz) (QAl g (fun (r : Int64) (u : Unit) => r = sd) (fun (u : Unit) => [(h0, .inr (5, [.ref a1, .ref a2, .ref a3, .ref a4, .ref a5, .ref a6, .ref a7, .ref a8, .long v0]))]) (va_A [(h0, .inr (5, [.ref a1, .ref a2, .ref a3, .ref a4, .ref a5, .ref a6, .ref a7, .ref a8, .long sd]))] sz)) 0 0 (va_A [(h0, .inr (5, [.ref a1, .ref a2, .ref a3, .ref a4, .ref a5, .ref a6, .ref a7, .ref a8, .long sd]))] sz) := by
  refine Met.M (Qc := fun A => QAl g (fun (r : Int64) (u : Unit) => r = sd) (fun (u : Unit) => [(h0, .inr (5, [.ref a1, .ref a2, .ref a3, .ref a4, .ref a5, .ref a6, .ref a7, .ref a8, .long v0]))]) A) (by decide) (Nat.le_of_ble_eq_true rfl) rfl ?_
  intro p e s m below meth c hx hb hr hml hw hown hlocks hin A hA hkn hP hD ls hl
  have hl : lv_has ls 5 [(0, .ref h0), (1, .long v0)] := hl
  have hS : va_S A s.heap s.heap [] := va_S.rf
  obtain ⟨H, hHe⟩ : ∃ H, H = s.heap := ⟨_, rfl⟩
  obtain ⟨locs, hLe⟩ : ∃ locs : List Loc, locs = [] := ⟨_, rfl⟩
  have hP : va_P g.1 vwCl [(h0, .inr (5, [.ref a1, .ref a2, .ref a3, .ref a4, .ref a5, .ref a6, .ref a7, .ref a8, .long sd]))] H := by rw [hHe]; exact hP
  have hS : va_S A s.heap H locs := by rw [hHe, hLe]; exact hS
  have hgo : W p l e ({ frames := 0, cells := 0, slots := 0, locals := 0 } : Room) s m ([.ref h0, .long v0] : List Value).toArray below meth c H locs 0 0 (MQ below (QAl g (fun (r : Int64) (u : Unit) => r = sd) (fun (u : Unit) => [(h0, .inr (5, [.ref a1, .ref a2, .ref a3, .ref a4, .ref a5, .ref a6, .ref a7, .ref a8, .long v0]))]) A) ([.ref h0, .long v0] : List Value).toArray s 0 0 A) (F0 m 0 ls []) := ?_
  · rw [hHe, hLe] at hgo; exact hgo
  clear hHe hLe
  refine lv_aload_n hx hb dX6_seed_0 rfl (lv_at hl 0 rfl) ?_
  refine va_get (D := g.1) (ci := 5) (v := .long sd) (C := RX6) (T := TX6) (N := 9) hx hb hw inlX6 hown hkn.1 hP 0 rfl rfl 8 (by decide) (hw _ mw_37) (fun _ h9 => h9) rfl dX6_seed_1 ?_
  refine lv_lstore_n (lv' := [(3, .long sd), (0, .ref h0), (1, .long v0)]) hx hb dX6_seed_4 rfl hl (by decide) rfl (fun ls hl => ?_)
  refine lv_aload_n hx hb dX6_seed_5 rfl (lv_at hl 1 rfl) ?_
  refine lv_lload_n hx hb dX6_seed_6 rfl (lv_at hl 2 rfl) ?_
  refine va_put (D := g.1) (ci := 5) (v := .long v0) (ty := .long) (C := RX6) (T := TX6) (N := 9) hx hb hw inlX6 tyX6 tyX6_ok nmX6 hown hkn.1 hP hD hS 0 rfl rfl 8 (by decide) (hw _ mw_37) (fun _ h9 => h9) rfl (by decide +kernel) rfl rfl (Nat.le_of_ble_eq_true rfl) dX6_seed_7 (fun H locs hP hD hS => ?_)
  have hP : va_P g.1 vwCl [(h0, .inr (5, [.ref a1, .ref a2, .ref a3, .ref a4, .ref a5, .ref a6, .ref a7, .ref a8, .long v0]))] H := hP
  have hD : va_D A [(h0, .inr (5, [.ref a1, .ref a2, .ref a3, .ref a4, .ref a5, .ref a6, .ref a7, .ref a8, .long v0]))] := hD
  refine lv_lload_n hx hb dX6_seed_10 rfl (lv_at hl 0 rfl) ?_
  exact eM_l (g := g) hx hb hr hlocks () (rfl) (hP.sub [0] rfl) (hD.sub [0] (by decide) rfl) hS dX6_seed_11
set_option maxHeartbeats 4000000 in
set_option maxRecDepth 100000 in
theorem c_X6_passYear (l : Launch) (g : GG) (sz : Nat) (h0 : Nat) (k : Nat) (a1 : Nat) (a2 : Nat) (a3 : Nat) (a4 : Nat) (a5 : Nat) (a6 : Nat) (a7 : Nat) (a8 : Nat) (sd : Int64) (b2 : Nat) (ft : Nat → Int64) (hk : k < 36) : Met l yX6_passYear (Cond.code yX6_passYear cX6_passYear 2 none :: wsL_law) ({ frames := 6, cells := 0, slots := 0, locals := 143 }) (PM g [.ref h0, .int (nI k)] [(h0, .inr (5, [.ref a1, .ref a2, .ref a3, .ref a4, .ref a5, .ref a6, .ref a7, .ref a8, .long sd])), (a2, .inr (1, [.ref b2])), (b2, .inl (gJ g, 3, .inr (.inl ft)))] sz) (QAv g (fun (u : Unit) => True) (fun (u : Unit) => [(h0, .inr (5, [.ref a1, .ref a2, .ref a3, .ref a4, .ref a5, .ref a6, .ref a7, .ref a8, .long sd])), (a2, .inr (1, [.ref b2])), (b2, .inl (gJ g, 3, .inr (.inl (pyS ft k))))]) (va_A [(h0, .inr (5, [.ref a1, .ref a2, .ref a3, .ref a4, .ref a5, .ref a6, .ref a7, .ref a8, .long sd])), (a2, .inr (1, [.ref b2])), (b2, .inl (gJ g, 3, .inr (.inl ft)))] sz)) 0 0 (va_A [(h0, .inr (5, [.ref a1, .ref a2, .ref a3, .ref a4, .ref a5, .ref a6, .ref a7, .ref a8, .long sd])), (a2, .inr (1, [.ref b2])), (b2, .inl (gJ g, 3, .inr (.inl ft)))] sz) := by
  refine Met.M (Qc := fun A => QAv g (fun (u : Unit) => True) (fun (u : Unit) => [(h0, .inr (5, [.ref a1, .ref a2, .ref a3, .ref a4, .ref a5, .ref a6, .ref a7, .ref a8, .long sd])), (a2, .inr (1, [.ref b2])), (b2, .inl (gJ g, 3, .inr (.inl (pyS ft k))))]) A) (by decide) (Nat.le_of_ble_eq_true rfl) rfl ?_
  intro p e s m below meth c hx hb hr hml hw hown hlocks hin A hA hkn hP hD ls hl
  have hl : lv_has ls 2 [(0, .ref h0), (1, .int (nI k))] := hl
  have hS : va_S A s.heap s.heap [] := va_S.rf
  obtain ⟨H, hHe⟩ : ∃ H, H = s.heap := ⟨_, rfl⟩
  obtain ⟨locs, hLe⟩ : ∃ locs : List Loc, locs = [] := ⟨_, rfl⟩
  have hP : va_P g.1 vwCl [(h0, .inr (5, [.ref a1, .ref a2, .ref a3, .ref a4, .ref a5, .ref a6, .ref a7, .ref a8, .long sd])), (a2, .inr (1, [.ref b2])), (b2, .inl (gJ g, 3, .inr (.inl ft)))] H := by rw [hHe]; exact hP
  have hS : va_S A s.heap H locs := by rw [hHe, hLe]; exact hS
  have hgo : W p l e ({ frames := 6, cells := 0, slots := 0, locals := 143 } : Room) s m ([.ref h0, .int (nI k)] : List Value).toArray below meth c H locs 0 0 (MQ below (QAv g (fun (u : Unit) => True) (fun (u : Unit) => [(h0, .inr (5, [.ref a1, .ref a2, .ref a3, .ref a4, .ref a5, .ref a6, .ref a7, .ref a8, .long sd])), (a2, .inr (1, [.ref b2])), (b2, .inl (gJ g, 3, .inr (.inl (pyS ft k))))]) A) ([.ref h0, .int (nI k)] : List Value).toArray s 0 0 A) (F0 m 0 ls []) := ?_
  · rw [hHe, hLe] at hgo; exact hgo
  clear hHe hLe
  refine lv_iload_n hx hb dX6_passYear_0 rfl (lv_at hl 1 rfl) ?_
  refine lv_bipush (v := 27) hx hb dX6_passYear_1 (by decide) ?_
  refine ic_ge (a := k) (d := 27) (tgt := 32) hx hb dX6_passYear_3 (by decide) rfl rfl (by omega) (by omega) (fun c_1 => ?_) (fun c_1 => ?_)
  · skip
    refine lv_iload_n hx hb dX6_passYear_32 rfl (lv_at hl 1 rfl) ?_
    refine lv_bipush (v := 30) hx hb dX6_passYear_33 (by decide) ?_
    refine ic_ge (a := k) (d := 30) (tgt := 55) hx hb dX6_passYear_35 (by decide) rfl rfl (by omega) (by omega) (fun c_2 => ?_) (fun c_2 => ?_)
    · skip
      refine lv_iload_n hx hb dX6_passYear_55 rfl (lv_at hl 1 rfl) ?_
      refine lv_bipush (v := 33) hx hb dX6_passYear_56 (by decide) ?_
      refine ic_ge (a := k) (d := 33) (tgt := 79) hx hb dX6_passYear_58 (by decide) rfl rfl (by omega) (by omega) (fun c_3 => ?_) (fun c_3 => ?_)
      · skip
        refine lv_aload_n hx hb dX6_passYear_79 rfl (lv_at hl 0 rfl) ?_
        refine va_get (D := g.1) (ci := 5) (v := .ref a2) (C := RX6) (T := TX6) (N := 9) hx hb hw inlX6 hown hkn.1 hP 0 rfl rfl 1 (by decide) (hw _ mw_17) (fun _ h9 => h9) rfl dX6_passYear_80 ?_
        refine lv_bipush (v := 7) hx hb dX6_passYear_83 (by decide) ?_
        refine lv_iload_n hx hb dX6_passYear_85 rfl (lv_at hl 1 rfl) ?_
        refine lv_bipush (v := 33) hx hb dX6_passYear_86 (by decide) ?_
        refine lv_isub hx hb dX6_passYear_88 ?_
        refine lv_eqi (pk_sub (a := k) (b := 33) (by omega)) ?_
        refine lv_iconst (v := 0) hx hb dX6_passYear_89 (by decide) ?_
        refine cVM_i (As := [.int 7, .int (nI (k - 33)), .int 0]) (rest := []) (q0 := 0) (wc := [(a2, .inr (1, [.ref b2])), (b2, .inl (gJ g, 3, .inr (.inl ft)))]) (wr := [(h0, .inr (5, [.ref a1, .ref a2, .ref a3, .ref a4, .ref a5, .ref a6, .ref a7, .ref a8, .long sd]))]) hx hb hml hown hw hkn hS hl hA hP hD [1, 2] [0] rfl rfl (by decide) (by decide) (by decide) (c_X1_does l g _ a2 7 (nI (k - 33)) 0 b2 ft ) vf_X1_does mw_570 rfl rfl ⟨(Nat.le_of_ble_eq_true rfl), (Nat.le_of_ble_eq_true rfl)⟩ rfl rfl rfl rfl (Nat.le_of_ble_eq_true rfl) dX6_passYear_90 ⟨(Nat.le_of_ble_eq_true rfl), (Nat.le_of_ble_eq_true rfl)⟩ (fun r u H locs hq hP hD hS => ?_)
        have hq : r = (b2i (doB ft 7 (nI (k - 33)) 0)) := hq
        subst hq
        have hP : va_P g.1 vwCl [(h0, .inr (5, [.ref a1, .ref a2, .ref a3, .ref a4, .ref a5, .ref a6, .ref a7, .ref a8, .long sd])), (a2, .inr (1, [.ref b2])), (b2, .inl (gJ g, 3, .inr (.inl (doF ft 7 (nI (k - 33)) 0))))] H := hP.sub [0, 1, 2] rfl
        have hD : va_D A [(h0, .inr (5, [.ref a1, .ref a2, .ref a3, .ref a4, .ref a5, .ref a6, .ref a7, .ref a8, .long sd])), (a2, .inr (1, [.ref b2])), (b2, .inl (gJ g, 3, .inr (.inl (doF ft 7 (nI (k - 33)) 0))))] := hD.sub [0, 1, 2] (by decide) rfl
        refine lv_pop hx hb dX6_passYear_93 rfl ?_
        have e1 : pyS ft k = (doF ft 7 (nI (k - 33)) 0) := by unfold pyS; rw [if_neg (by omega), if_neg (by omega), if_neg (by omega)]
        exact eM_v (g := g) hx hb hr hlocks () (trivial) (show va_P g.1 vwCl [(h0, .inr (5, [.ref a1, .ref a2, .ref a3, .ref a4, .ref a5, .ref a6, .ref a7, .ref a8, .long sd])), (a2, .inr (1, [.ref b2])), (b2, .inl (gJ g, 3, .inr (.inl (pyS ft k))))] H by rw [e1]; exact hP.sub [0, 1, 2] rfl) (show va_D A [(h0, .inr (5, [.ref a1, .ref a2, .ref a3, .ref a4, .ref a5, .ref a6, .ref a7, .ref a8, .long sd])), (a2, .inr (1, [.ref b2])), (b2, .inl (gJ g, 3, .inr (.inl (pyS ft k))))] by rw [e1]; exact hD.sub [0, 1, 2] (by decide) rfl) hS dX6_passYear_94
      · skip
        refine lv_aload_n hx hb dX6_passYear_61 rfl (lv_at hl 0 rfl) ?_
        refine va_get (D := g.1) (ci := 5) (v := .ref a2) (C := RX6) (T := TX6) (N := 9) hx hb hw inlX6 hown hkn.1 hP 0 rfl rfl 1 (by decide) (hw _ mw_17) (fun _ h9 => h9) rfl dX6_passYear_62 ?_
        refine lv_bipush (v := 6) hx hb dX6_passYear_65 (by decide) ?_
        refine lv_iload_n hx hb dX6_passYear_67 rfl (lv_at hl 1 rfl) ?_
        refine lv_bipush (v := 30) hx hb dX6_passYear_68 (by decide) ?_
        refine lv_isub hx hb dX6_passYear_70 ?_
        refine lv_eqi (pk_sub (a := k) (b := 30) (by omega)) ?_
        refine lv_iconst (v := 0) hx hb dX6_passYear_71 (by decide) ?_
        refine cVM_i (As := [.int 6, .int (nI (k - 30)), .int 0]) (rest := []) (q0 := 0) (wc := [(a2, .inr (1, [.ref b2])), (b2, .inl (gJ g, 3, .inr (.inl ft)))]) (wr := [(h0, .inr (5, [.ref a1, .ref a2, .ref a3, .ref a4, .ref a5, .ref a6, .ref a7, .ref a8, .long sd]))]) hx hb hml hown hw hkn hS hl hA hP hD [1, 2] [0] rfl rfl (by decide) (by decide) (by decide) (c_X1_does l g _ a2 6 (nI (k - 30)) 0 b2 ft ) vf_X1_does mw_570 rfl rfl ⟨(Nat.le_of_ble_eq_true rfl), (Nat.le_of_ble_eq_true rfl)⟩ rfl rfl rfl rfl (Nat.le_of_ble_eq_true rfl) dX6_passYear_72 ⟨(Nat.le_of_ble_eq_true rfl), (Nat.le_of_ble_eq_true rfl)⟩ (fun r u H locs hq hP hD hS => ?_)
        have hq : r = (b2i (doB ft 6 (nI (k - 30)) 0)) := hq
        subst hq
        have hP : va_P g.1 vwCl [(h0, .inr (5, [.ref a1, .ref a2, .ref a3, .ref a4, .ref a5, .ref a6, .ref a7, .ref a8, .long sd])), (a2, .inr (1, [.ref b2])), (b2, .inl (gJ g, 3, .inr (.inl (doF ft 6 (nI (k - 30)) 0))))] H := hP.sub [0, 1, 2] rfl
        have hD : va_D A [(h0, .inr (5, [.ref a1, .ref a2, .ref a3, .ref a4, .ref a5, .ref a6, .ref a7, .ref a8, .long sd])), (a2, .inr (1, [.ref b2])), (b2, .inl (gJ g, 3, .inr (.inl (doF ft 6 (nI (k - 30)) 0))))] := hD.sub [0, 1, 2] (by decide) rfl
        refine lv_pop hx hb dX6_passYear_75 rfl ?_
        refine lv_goto (tgt := 94) hx hb dX6_passYear_76 (by decide) ?_
        have e1 : pyS ft k = (doF ft 6 (nI (k - 30)) 0) := by unfold pyS; rw [if_neg (by omega), if_neg (by omega), if_pos (by omega)]
        exact eM_v (g := g) hx hb hr hlocks () (trivial) (show va_P g.1 vwCl [(h0, .inr (5, [.ref a1, .ref a2, .ref a3, .ref a4, .ref a5, .ref a6, .ref a7, .ref a8, .long sd])), (a2, .inr (1, [.ref b2])), (b2, .inl (gJ g, 3, .inr (.inl (pyS ft k))))] H by rw [e1]; exact hP.sub [0, 1, 2] rfl) (show va_D A [(h0, .inr (5, [.ref a1, .ref a2, .ref a3, .ref a4, .ref a5, .ref a6, .ref a7, .ref a8, .long sd])), (a2, .inr (1, [.ref b2])), (b2, .inl (gJ g, 3, .inr (.inl (pyS ft k))))] by rw [e1]; exact hD.sub [0, 1, 2] (by decide) rfl) hS dX6_passYear_94
    · skip
      refine lv_aload_n hx hb dX6_passYear_38 rfl (lv_at hl 0 rfl) ?_
      refine va_get (D := g.1) (ci := 5) (v := .ref a2) (C := RX6) (T := TX6) (N := 9) hx hb hw inlX6 hown hkn.1 hP 0 rfl rfl 1 (by decide) (hw _ mw_17) (fun _ h9 => h9) rfl dX6_passYear_39 ?_
      refine lv_iconst (v := 4) hx hb dX6_passYear_42 (by decide) ?_
      refine lv_iconst (v := 0) hx hb dX6_passYear_43 (by decide) ?_
      refine lv_iload_n hx hb dX6_passYear_44 rfl (lv_at hl 1 rfl) ?_
      refine lv_bipush (v := 27) hx hb dX6_passYear_45 (by decide) ?_
      refine lv_isub hx hb dX6_passYear_47 ?_
      refine lv_eqi (pk_sub (a := k) (b := 27) (by omega)) ?_
      refine cVM_i (As := [.int 4, .int 0, .int (nI (k - 27))]) (rest := []) (q0 := 0) (wc := [(a2, .inr (1, [.ref b2])), (b2, .inl (gJ g, 3, .inr (.inl ft)))]) (wr := [(h0, .inr (5, [.ref a1, .ref a2, .ref a3, .ref a4, .ref a5, .ref a6, .ref a7, .ref a8, .long sd]))]) hx hb hml hown hw hkn hS hl hA hP hD [1, 2] [0] rfl rfl (by decide) (by decide) (by decide) (c_X1_does l g _ a2 4 0 (nI (k - 27)) b2 ft ) vf_X1_does mw_570 rfl rfl ⟨(Nat.le_of_ble_eq_true rfl), (Nat.le_of_ble_eq_true rfl)⟩ rfl rfl rfl rfl (Nat.le_of_ble_eq_true rfl) dX6_passYear_48 ⟨(Nat.le_of_ble_eq_true rfl), (Nat.le_of_ble_eq_true rfl)⟩ (fun r u H locs hq hP hD hS => ?_)
      have hq : r = (b2i (doB ft 4 0 (nI (k - 27)))) := hq
      subst hq
      have hP : va_P g.1 vwCl [(h0, .inr (5, [.ref a1, .ref a2, .ref a3, .ref a4, .ref a5, .ref a6, .ref a7, .ref a8, .long sd])), (a2, .inr (1, [.ref b2])), (b2, .inl (gJ g, 3, .inr (.inl (doF ft 4 0 (nI (k - 27))))))] H := hP.sub [0, 1, 2] rfl
      have hD : va_D A [(h0, .inr (5, [.ref a1, .ref a2, .ref a3, .ref a4, .ref a5, .ref a6, .ref a7, .ref a8, .long sd])), (a2, .inr (1, [.ref b2])), (b2, .inl (gJ g, 3, .inr (.inl (doF ft 4 0 (nI (k - 27))))))] := hD.sub [0, 1, 2] (by decide) rfl
      refine lv_pop hx hb dX6_passYear_51 rfl ?_
      refine lv_goto (tgt := 94) hx hb dX6_passYear_52 (by decide) ?_
      have e1 : pyS ft k = (doF ft 4 0 (nI (k - 27))) := by unfold pyS; rw [if_neg (by omega), if_pos (by omega)]
      exact eM_v (g := g) hx hb hr hlocks () (trivial) (show va_P g.1 vwCl [(h0, .inr (5, [.ref a1, .ref a2, .ref a3, .ref a4, .ref a5, .ref a6, .ref a7, .ref a8, .long sd])), (a2, .inr (1, [.ref b2])), (b2, .inl (gJ g, 3, .inr (.inl (pyS ft k))))] H by rw [e1]; exact hP.sub [0, 1, 2] rfl) (show va_D A [(h0, .inr (5, [.ref a1, .ref a2, .ref a3, .ref a4, .ref a5, .ref a6, .ref a7, .ref a8, .long sd])), (a2, .inr (1, [.ref b2])), (b2, .inl (gJ g, 3, .inr (.inl (pyS ft k))))] by rw [e1]; exact hD.sub [0, 1, 2] (by decide) rfl) hS dX6_passYear_94
  · skip
    refine lv_aload_n hx hb dX6_passYear_6 rfl (lv_at hl 0 rfl) ?_
    refine va_get (D := g.1) (ci := 5) (v := .ref a2) (C := RX6) (T := TX6) (N := 9) hx hb hw inlX6 hown hkn.1 hP 0 rfl rfl 1 (by decide) (hw _ mw_17) (fun _ h9 => h9) rfl dX6_passYear_7 ?_
    refine lv_iconst (v := 1) hx hb dX6_passYear_10 (by decide) ?_
    refine lv_iload_n hx hb dX6_passYear_11 rfl (lv_at hl 1 rfl) ?_
    refine lv_bipush (v := 9) hx hb dX6_passYear_12 (by decide) ?_
    refine lv_idiv hx hb dX6_passYear_14 (by decide) ?_
    refine lv_eqi (pk_div (a := k) (d := 9) (by omega) (by omega) (by omega)) ?_
    refine lv_iadd hx hb dX6_passYear_15 ?_
    refine lv_eqi (nI_add 1 (k / 9)) ?_
    refine lv_iload_n hx hb dX6_passYear_16 rfl (lv_at hl 1 rfl) ?_
    refine lv_bipush (v := 9) hx hb dX6_passYear_17 (by decide) ?_
    refine lv_irem hx hb dX6_passYear_19 (by decide) ?_
    refine lv_eqi (pk_rem (a := k) (d := 9) (by omega) (by omega) (by omega)) ?_
    refine lv_iconst (v := 3) hx hb dX6_passYear_20 (by decide) ?_
    refine lv_idiv hx hb dX6_passYear_21 (by decide) ?_
    refine lv_eqi (pk_div (a := k % 9) (d := 3) (by omega) (by omega) (by omega)) ?_
    refine lv_iload_n hx hb dX6_passYear_22 rfl (lv_at hl 1 rfl) ?_
    refine lv_iconst (v := 3) hx hb dX6_passYear_23 (by decide) ?_
    refine lv_irem hx hb dX6_passYear_24 (by decide) ?_
    refine lv_eqi (pk_rem (a := k) (d := 3) (by omega) (by omega) (by omega)) ?_
    refine cVM_i (As := [.int (nI (1 + (k / 9))), .int (nI ((k % 9) / 3)), .int (nI (k % 3))]) (rest := []) (q0 := 0) (wc := [(a2, .inr (1, [.ref b2])), (b2, .inl (gJ g, 3, .inr (.inl ft)))]) (wr := [(h0, .inr (5, [.ref a1, .ref a2, .ref a3, .ref a4, .ref a5, .ref a6, .ref a7, .ref a8, .long sd]))]) hx hb hml hown hw hkn hS hl hA hP hD [1, 2] [0] rfl rfl (by decide) (by decide) (by decide) (c_X1_does l g _ a2 (nI (1 + (k / 9))) (nI ((k % 9) / 3)) (nI (k % 3)) b2 ft ) vf_X1_does mw_570 rfl rfl ⟨(Nat.le_of_ble_eq_true rfl), (Nat.le_of_ble_eq_true rfl)⟩ rfl rfl rfl rfl (Nat.le_of_ble_eq_true rfl) dX6_passYear_25 ⟨(Nat.le_of_ble_eq_true rfl), (Nat.le_of_ble_eq_true rfl)⟩ (fun r u H locs hq hP hD hS => ?_)
    have hq : r = (b2i (doB ft (nI (1 + (k / 9))) (nI ((k % 9) / 3)) (nI (k % 3)))) := hq
    subst hq
    have hP : va_P g.1 vwCl [(h0, .inr (5, [.ref a1, .ref a2, .ref a3, .ref a4, .ref a5, .ref a6, .ref a7, .ref a8, .long sd])), (a2, .inr (1, [.ref b2])), (b2, .inl (gJ g, 3, .inr (.inl (doF ft (nI (1 + (k / 9))) (nI ((k % 9) / 3)) (nI (k % 3))))))] H := hP.sub [0, 1, 2] rfl
    have hD : va_D A [(h0, .inr (5, [.ref a1, .ref a2, .ref a3, .ref a4, .ref a5, .ref a6, .ref a7, .ref a8, .long sd])), (a2, .inr (1, [.ref b2])), (b2, .inl (gJ g, 3, .inr (.inl (doF ft (nI (1 + (k / 9))) (nI ((k % 9) / 3)) (nI (k % 3))))))] := hD.sub [0, 1, 2] (by decide) rfl
    refine lv_pop hx hb dX6_passYear_28 rfl ?_
    refine lv_goto (tgt := 94) hx hb dX6_passYear_29 (by decide) ?_
    have e1 : pyS ft k = (doF ft (nI (1 + (k / 9))) (nI ((k % 9) / 3)) (nI (k % 3))) := by unfold pyS; rw [if_pos (by omega)]
    exact eM_v (g := g) hx hb hr hlocks () (trivial) (show va_P g.1 vwCl [(h0, .inr (5, [.ref a1, .ref a2, .ref a3, .ref a4, .ref a5, .ref a6, .ref a7, .ref a8, .long sd])), (a2, .inr (1, [.ref b2])), (b2, .inl (gJ g, 3, .inr (.inl (pyS ft k))))] H by rw [e1]; exact hP.sub [0, 1, 2] rfl) (show va_D A [(h0, .inr (5, [.ref a1, .ref a2, .ref a3, .ref a4, .ref a5, .ref a6, .ref a7, .ref a8, .long sd])), (a2, .inr (1, [.ref b2])), (b2, .inl (gJ g, 3, .inr (.inl (pyS ft k))))] by rw [e1]; exact hD.sub [0, 1, 2] (by decide) rfl) hS dX6_passYear_94
set_option maxHeartbeats 4000000 in
set_option maxRecDepth 100000 in
theorem c_X6_years (l : Launch) (g : GG) (sz : Nat) (h0 : Nat) (x0 : Int32) (a1 : Nat) (a2 : Nat) (a3 : Nat) (a4 : Nat) (a5 : Nat) (a6 : Nat) (a7 : Nat) (a8 : Nat) (sd : Int64) (b1 : Nat) (f : Nat → Int64) (b2 : Nat) (ft : Nat → Int64)  : Met l yX6_years (Cond.code yX6_years cX6_years 4 (some .int) :: wsL_law) ({ frames := 7, cells := 0, slots := 0, locals := 164 }) (PM g [.ref h0, .int x0] [(h0, .inr (5, [.ref a1, .ref a2, .ref a3, .ref a4, .ref a5, .ref a6, .ref a7, .ref a8, .long sd])), (a1, .inr (1, [.ref b1])), (b1, .inl (gJ g, 3, .inr (.inl f))), (a2, .inr (1, [.ref b2])), (b2, .inl (gJ g, 3, .inr (.inl ft)))] sz) (QAi g (fun (r : Int32) (u : (Nat → Int64)) => r = (if qYrB x0 = true then nI (yrS (cpS f ft) sd x0.toNatClampNeg).2.2 else -2)) (fun (u : (Nat → Int64)) => [(h0, .inr (5, [.ref a1, .ref a2, .ref a3, .ref a4, .ref a5, .ref a6, .ref a7, .ref a8, .long (cond (qYrB x0) (yrS (cpS f ft) sd x0.toNatClampNeg).2.1 sd)])), (a1, .inr (1, [.ref b1])), (b1, .inl (gJ g, 3, .inr (.inl f))), (a2, .inr (1, [.ref b2])), (b2, .inl (gJ g, 3, .inr (.inl u)))]) (va_A [(h0, .inr (5, [.ref a1, .ref a2, .ref a3, .ref a4, .ref a5, .ref a6, .ref a7, .ref a8, .long sd])), (a1, .inr (1, [.ref b1])), (b1, .inl (gJ g, 3, .inr (.inl f))), (a2, .inr (1, [.ref b2])), (b2, .inl (gJ g, 3, .inr (.inl ft)))] sz)) 0 0 (va_A [(h0, .inr (5, [.ref a1, .ref a2, .ref a3, .ref a4, .ref a5, .ref a6, .ref a7, .ref a8, .long sd])), (a1, .inr (1, [.ref b1])), (b1, .inl (gJ g, 3, .inr (.inl f))), (a2, .inr (1, [.ref b2])), (b2, .inl (gJ g, 3, .inr (.inl ft)))] sz) := by
  refine Met.M (Qc := fun A => QAi g (fun (r : Int32) (u : (Nat → Int64)) => r = (if qYrB x0 = true then nI (yrS (cpS f ft) sd x0.toNatClampNeg).2.2 else -2)) (fun (u : (Nat → Int64)) => [(h0, .inr (5, [.ref a1, .ref a2, .ref a3, .ref a4, .ref a5, .ref a6, .ref a7, .ref a8, .long (cond (qYrB x0) (yrS (cpS f ft) sd x0.toNatClampNeg).2.1 sd)])), (a1, .inr (1, [.ref b1])), (b1, .inl (gJ g, 3, .inr (.inl f))), (a2, .inr (1, [.ref b2])), (b2, .inl (gJ g, 3, .inr (.inl u)))]) A) (by decide) (Nat.le_of_ble_eq_true rfl) rfl ?_
  intro p e s m below meth c hx hb hr hml hw hown hlocks hin A hA hkn hP hD ls hl
  have hl : lv_has ls 4 [(0, .ref h0), (1, .int x0)] := hl
  have hS : va_S A s.heap s.heap [] := va_S.rf
  obtain ⟨H, hHe⟩ : ∃ H, H = s.heap := ⟨_, rfl⟩
  obtain ⟨locs, hLe⟩ : ∃ locs : List Loc, locs = [] := ⟨_, rfl⟩
  have hP : va_P g.1 vwCl [(h0, .inr (5, [.ref a1, .ref a2, .ref a3, .ref a4, .ref a5, .ref a6, .ref a7, .ref a8, .long sd])), (a1, .inr (1, [.ref b1])), (b1, .inl (gJ g, 3, .inr (.inl f))), (a2, .inr (1, [.ref b2])), (b2, .inl (gJ g, 3, .inr (.inl ft)))] H := by rw [hHe]; exact hP
  have hS : va_S A s.heap H locs := by rw [hHe, hLe]; exact hS
  have hgo : W p l e ({ frames := 7, cells := 0, slots := 0, locals := 164 } : Room) s m ([.ref h0, .int x0] : List Value).toArray below meth c H locs 0 0 (MQ below (QAi g (fun (r : Int32) (u : (Nat → Int64)) => r = (if qYrB x0 = true then nI (yrS (cpS f ft) sd x0.toNatClampNeg).2.2 else -2)) (fun (u : (Nat → Int64)) => [(h0, .inr (5, [.ref a1, .ref a2, .ref a3, .ref a4, .ref a5, .ref a6, .ref a7, .ref a8, .long (cond (qYrB x0) (yrS (cpS f ft) sd x0.toNatClampNeg).2.1 sd)])), (a1, .inr (1, [.ref b1])), (b1, .inl (gJ g, 3, .inr (.inl f))), (a2, .inr (1, [.ref b2])), (b2, .inl (gJ g, 3, .inr (.inl u)))]) A) ([.ref h0, .int x0] : List Value).toArray s 0 0 A) (F0 m 0 ls []) := ?_
  · rw [hHe, hLe] at hgo; exact hgo
  clear hHe hLe
  refine lv_iload_n hx hb dX6_years_0 rfl (lv_at hl 1 rfl) ?_
  refine lv_iconst (v := 1) hx hb dX6_years_1 (by decide) ?_
  refine lv_icmp_lt (tgt := 11) hx hb dX6_years_2 (by decide) (fun c_1 => ?_) (fun c_1 => ?_)
  · skip
    refine lv_bipush (v := (-2)) hx hb dX6_years_11 (by decide) ?_
    have eb : qYrB x0 = false := decide_eq_false (fun q => by first | exact q.1 c_1 | exact c_1 q.2)
    exact eM_i (g := g) hx hb hr hlocks ft (by rw [eb]; rfl) (show va_P g.1 vwCl [(h0, .inr (5, [.ref a1, .ref a2, .ref a3, .ref a4, .ref a5, .ref a6, .ref a7, .ref a8, .long (cond (qYrB x0) (yrS (cpS f ft) sd x0.toNatClampNeg).2.1 sd)])), (a1, .inr (1, [.ref b1])), (b1, .inl (gJ g, 3, .inr (.inl f))), (a2, .inr (1, [.ref b2])), (b2, .inl (gJ g, 3, .inr (.inl ft)))] H by rw [eb]; exact hP.sub [0, 1, 2, 3, 4] rfl) (show va_D A [(h0, .inr (5, [.ref a1, .ref a2, .ref a3, .ref a4, .ref a5, .ref a6, .ref a7, .ref a8, .long (cond (qYrB x0) (yrS (cpS f ft) sd x0.toNatClampNeg).2.1 sd)])), (a1, .inr (1, [.ref b1])), (b1, .inl (gJ g, 3, .inr (.inl f))), (a2, .inr (1, [.ref b2])), (b2, .inl (gJ g, 3, .inr (.inl ft)))] by rw [eb]; exact hD.sub [0, 1, 2, 3, 4] (by decide) rfl) hS dX6_years_13
  · skip
    refine lv_iload_n hx hb dX6_years_5 rfl (lv_at hl 1 rfl) ?_
    refine lv_bipush (v := 30) hx hb dX6_years_6 (by decide) ?_
    refine lv_icmp_le (tgt := 14) hx hb dX6_years_8 (by decide) (fun c_2 => ?_) (fun c_2 => ?_)
    · skip
      obtain ⟨x9, hx9, ex9⟩ := nI_of2 (M := 30) (n := 30) (by decide) (fun q => c_1 (Int32.lt_of_lt_of_le q (by decide))) c_2
      have eb : qYrB x0 = true := decide_eq_true ⟨c_1, c_2⟩
      have ec : x0.toNatClampNeg = x9 := by rw [ex9, nI_clamp (by omega)]
      refine lv_aload_n hx hb dX6_years_14 rfl (lv_at hl 0 rfl) ?_
      refine va_get (D := g.1) (ci := 5) (v := .ref a2) (C := RX6) (T := TX6) (N := 9) hx hb hw inlX6 hown hkn.1 hP 0 rfl rfl 1 (by decide) (hw _ mw_17) (fun _ h9 => h9) rfl dX6_years_15 ?_
      refine lv_aload_n hx hb dX6_years_18 rfl (lv_at hl 0 rfl) ?_
      refine va_get (D := g.1) (ci := 5) (v := .ref a1) (C := RX6) (T := TX6) (N := 9) hx hb hw inlX6 hown hkn.1 hP 0 rfl rfl 0 (by decide) (hw _ mw_16) (fun _ h9 => h9) rfl dX6_years_19 ?_
      refine cVM_v (As := [.ref a1]) (rest := []) (q0 := 0) (wc := [(a2, .inr (1, [.ref b2])), (b2, .inl (gJ g, 3, .inr (.inl ft))), (a1, .inr (1, [.ref b1])), (b1, .inl (gJ g, 3, .inr (.inl f)))]) (wr := [(h0, .inr (5, [.ref a1, .ref a2, .ref a3, .ref a4, .ref a5, .ref a6, .ref a7, .ref a8, .long sd]))]) hx hb hml hown hw hkn hS hl hA hP hD [3, 4, 1, 2] [0] rfl rfl (by decide) (by decide) (by decide) (c_X1_copyFrom l g _ a2 a1 b2 ft b1 f ) vf_X1_copyFrom mw_564 rfl rfl ⟨(Nat.le_of_ble_eq_true rfl), (Nat.le_of_ble_eq_true rfl)⟩ rfl rfl rfl rfl (Nat.le_of_ble_eq_true rfl) dX6_years_22 ⟨(Nat.le_of_ble_eq_true rfl), (Nat.le_of_ble_eq_true rfl)⟩ (fun u H locs hq hP hD hS => ?_)
      have hP : va_P g.1 vwCl [(h0, .inr (5, [.ref a1, .ref a2, .ref a3, .ref a4, .ref a5, .ref a6, .ref a7, .ref a8, .long sd])), (a1, .inr (1, [.ref b1])), (b1, .inl (gJ g, 3, .inr (.inl f))), (a2, .inr (1, [.ref b2])), (b2, .inl (gJ g, 3, .inr (.inl (cpS f ft))))] H := hP.sub [0, 3, 4, 1, 2] rfl
      have hD : va_D A [(h0, .inr (5, [.ref a1, .ref a2, .ref a3, .ref a4, .ref a5, .ref a6, .ref a7, .ref a8, .long sd])), (a1, .inr (1, [.ref b1])), (b1, .inl (gJ g, 3, .inr (.inl f))), (a2, .inr (1, [.ref b2])), (b2, .inl (gJ g, 3, .inr (.inl (cpS f ft))))] := hD.sub [0, 3, 4, 1, 2] (by decide) rfl
      refine lv_iconst (v := 0) hx hb dX6_years_25 (by decide) ?_
      refine lv_istore_n (lv' := [(2, .int 0), (0, .ref h0), (1, .int x0)]) hx hb dX6_years_26 rfl hl (by decide) rfl (fun ls hl => ?_)
      refine lv_iconst (v := 0) hx hb dX6_years_27 (by decide) ?_
      refine lv_istore_n (lv' := [(3, .int 0), (2, .int 0), (0, .ref h0), (1, .int x0)]) hx hb dX6_years_28 rfl hl (by decide) rfl (fun ls hl => ?_)
      have lp_29 : ∀ (n_29 : Nat) (i : Nat) (a : Nat) (sd1 : Int64) (t1 : Nat → Int64), (i ≤ x9) → (yrS (cpS f ft) sd i = (t1, sd1, a)) → x9 < i + n_29 → ∀ (H : Heap) (locs : List Loc), va_P g.1 vwCl [(h0, .inr (5, [.ref a1, .ref a2, .ref a3, .ref a4, .ref a5, .ref a6, .ref a7, .ref a8, .long sd1])), (a1, .inr (1, [.ref b1])), (b1, .inl (gJ g, 3, .inr (.inl f))), (a2, .inr (1, [.ref b2])), (b2, .inl (gJ g, 3, .inr (.inl t1)))] H → va_D A [(h0, .inr (5, [.ref a1, .ref a2, .ref a3, .ref a4, .ref a5, .ref a6, .ref a7, .ref a8, .long sd1])), (a1, .inr (1, [.ref b1])), (b1, .inl (gJ g, 3, .inr (.inl f))), (a2, .inr (1, [.ref b2])), (b2, .inl (gJ g, 3, .inr (.inl t1)))] → va_S A s.heap H locs → ∀ (ls : Array Slot), lv_has ls 4 [(3, .int (nI i)), (2, .int (nI a)), (0, .ref h0), (1, .int x0)] → W p l e ({ frames := 7, cells := 0, slots := 0, locals := 164 } : Room) s m ([.ref h0, .int x0] : List Value).toArray below meth c H locs 0 0 (MQ below (QAi g (fun (r : Int32) (u : (Nat → Int64)) => r = (if qYrB x0 = true then nI (yrS (cpS f ft) sd x0.toNatClampNeg).2.2 else -2)) (fun (u : (Nat → Int64)) => [(h0, .inr (5, [.ref a1, .ref a2, .ref a3, .ref a4, .ref a5, .ref a6, .ref a7, .ref a8, .long (cond (qYrB x0) (yrS (cpS f ft) sd x0.toNatClampNeg).2.1 sd)])), (a1, .inr (1, [.ref b1])), (b1, .inl (gJ g, 3, .inr (.inl f))), (a2, .inr (1, [.ref b2])), (b2, .inl (gJ g, 3, .inr (.inl u)))]) A) ([.ref h0, .int x0] : List Value).toArray s 0 0 A) (F0 m 29 ls []) := by
        intro n_29
        induction n_29 with
        | zero => intro i a sd1 t1 h_i h_y hfu_29; exact absurd hfu_29 (by omega)
        | succ n_29 ih_29 =>
          intro i a sd1 t1 h_i h_y hfu_29 H locs hP hD hS ls hl
          refine lv_iload_n hx hb dX6_years_29 rfl (lv_at hl 0 rfl) ?_
          refine lv_iload_n hx hb dX6_years_30 rfl (lv_at hl 3 rfl) ?_
          refine lv_eqi (show _ = (nI x9) from ex9) ?_
          refine ic_ge (a := i) (d := x9) (tgt := 82) hx hb dX6_years_31 (by decide) rfl rfl (by omega) (by omega) (fun c_4 => ?_) (fun c_4 => ?_)
          · skip
            refine lv_iload_n hx hb dX6_years_82 rfl (lv_at hl 1 rfl) ?_
            have e9 := h_y
            rw [show i = x9 by omega] at e9
            exact eM_i (g := g) hx hb hr hlocks t1 (by rw [eb, ec, e9]; rfl) (show va_P g.1 vwCl [(h0, .inr (5, [.ref a1, .ref a2, .ref a3, .ref a4, .ref a5, .ref a6, .ref a7, .ref a8, .long (cond (qYrB x0) (yrS (cpS f ft) sd x0.toNatClampNeg).2.1 sd)])), (a1, .inr (1, [.ref b1])), (b1, .inl (gJ g, 3, .inr (.inl f))), (a2, .inr (1, [.ref b2])), (b2, .inl (gJ g, 3, .inr (.inl t1)))] H by rw [eb, ec, e9]; exact hP.sub [0, 1, 2, 3, 4] rfl) (show va_D A [(h0, .inr (5, [.ref a1, .ref a2, .ref a3, .ref a4, .ref a5, .ref a6, .ref a7, .ref a8, .long (cond (qYrB x0) (yrS (cpS f ft) sd x0.toNatClampNeg).2.1 sd)])), (a1, .inr (1, [.ref b1])), (b1, .inl (gJ g, 3, .inr (.inl f))), (a2, .inr (1, [.ref b2])), (b2, .inl (gJ g, 3, .inr (.inl t1)))] by rw [eb, ec, e9]; exact hD.sub [0, 1, 2, 3, 4] (by decide) rfl) hS dX6_years_83
          · skip
            refine lv_aload_n hx hb dX6_years_34 rfl (lv_at hl 2 rfl) ?_
            refine lv_aload_n hx hb dX6_years_35 rfl (lv_at hl 2 rfl) ?_
            refine va_get (D := g.1) (ci := 5) (v := .long sd1) (C := RX6) (T := TX6) (N := 9) hx hb hw inlX6 hown hkn.1 hP 0 rfl rfl 8 (by decide) (hw _ mw_37) (fun _ h9 => h9) rfl dX6_years_36 ?_
            refine lv_ldc2 hx hb hown (hw _ mw_762) dX6_years_39 ?_
            refine lv_lmul hx hb dX6_years_42 ?_
            refine lv_ldc2 hx hb hown (hw _ mw_763) dX6_years_43 ?_
            refine lv_ladd hx hb dX6_years_46 ?_
            refine lv_eql (show _ = (sdS sd1) from rfl) ?_
            refine va_put (D := g.1) (ci := 5) (v := .long (sdS sd1)) (ty := .long) (C := RX6) (T := TX6) (N := 9) hx hb hw inlX6 tyX6 tyX6_ok nmX6 hown hkn.1 hP hD hS 0 rfl rfl 8 (by decide) (hw _ mw_37) (fun _ h9 => h9) rfl (by decide +kernel) rfl rfl (Nat.le_of_ble_eq_true rfl) dX6_years_47 (fun H locs hP hD hS => ?_)
            have hP : va_P g.1 vwCl [(h0, .inr (5, [.ref a1, .ref a2, .ref a3, .ref a4, .ref a5, .ref a6, .ref a7, .ref a8, .long (sdS sd1)])), (a1, .inr (1, [.ref b1])), (b1, .inl (gJ g, 3, .inr (.inl f))), (a2, .inr (1, [.ref b2])), (b2, .inl (gJ g, 3, .inr (.inl t1)))] H := hP
            have hD : va_D A [(h0, .inr (5, [.ref a1, .ref a2, .ref a3, .ref a4, .ref a5, .ref a6, .ref a7, .ref a8, .long (sdS sd1)])), (a1, .inr (1, [.ref b1])), (b1, .inl (gJ g, 3, .inr (.inl f))), (a2, .inr (1, [.ref b2])), (b2, .inl (gJ g, 3, .inr (.inl t1)))] := hD
            refine lv_aload_n hx hb dX6_years_50 rfl (lv_at hl 2 rfl) ?_
            refine lv_aload_n hx hb dX6_years_51 rfl (lv_at hl 2 rfl) ?_
            refine va_get (D := g.1) (ci := 5) (v := .long (sdS sd1)) (C := RX6) (T := TX6) (N := 9) hx hb hw inlX6 hown hkn.1 hP 0 rfl rfl 8 (by decide) (hw _ mw_37) (fun _ h9 => h9) rfl dX6_years_52 ?_
            refine lv_bipush (v := 33) hx hb dX6_years_55 (by decide) ?_
            refine lv_lushr (v := (jushr (sdS sd1) 33)) hx hb dX6_years_57 rfl ?_
            refine lv_ldc2 hx hb hown (hw _ mw_764) dX6_years_58 ?_
            refine lv_lrem hx hb dX6_years_61 (by decide) ?_
            refine lv_l2i hx hb dX6_years_62 rfl ?_
            refine lv_eqi (show _ = (nI (lotN (sdS sd1))) from lot_eq _) ?_
            have hlo := lot_lt (sdS sd1)
            refine cVM_v (As := [.int (nI (lotN (sdS sd1)))]) (rest := []) (q0 := 0) (wc := [(h0, .inr (5, [.ref a1, .ref a2, .ref a3, .ref a4, .ref a5, .ref a6, .ref a7, .ref a8, .long (sdS sd1)])), (a2, .inr (1, [.ref b2])), (b2, .inl (gJ g, 3, .inr (.inl t1)))]) (wr := [(a1, .inr (1, [.ref b1])), (b1, .inl (gJ g, 3, .inr (.inl f)))]) hx hb hml hown hw hkn hS hl hA hP hD [0, 3, 4] [1, 2] rfl rfl (by decide) (by decide) (by decide) (c_X6_passYear l g _ h0 (lotN (sdS sd1)) a1 a2 a3 a4 a5 a6 a7 a8 (sdS sd1) b2 t1 (by omega)) vf_X6_passYear mw_765 rfl rfl ⟨(Nat.le_of_ble_eq_true rfl), (Nat.le_of_ble_eq_true rfl)⟩ rfl rfl rfl rfl (Nat.le_of_ble_eq_true rfl) dX6_years_63 ⟨(Nat.le_of_ble_eq_true rfl), (Nat.le_of_ble_eq_true rfl)⟩ (fun u H locs hq hP hD hS => ?_)
            have hP : va_P g.1 vwCl [(h0, .inr (5, [.ref a1, .ref a2, .ref a3, .ref a4, .ref a5, .ref a6, .ref a7, .ref a8, .long (sdS sd1)])), (a1, .inr (1, [.ref b1])), (b1, .inl (gJ g, 3, .inr (.inl f))), (a2, .inr (1, [.ref b2])), (b2, .inl (gJ g, 3, .inr (.inl (pyS t1 (lotN (sdS sd1))))))] H := hP.sub [2, 0, 1, 3, 4] rfl
            have hD : va_D A [(h0, .inr (5, [.ref a1, .ref a2, .ref a3, .ref a4, .ref a5, .ref a6, .ref a7, .ref a8, .long (sdS sd1)])), (a1, .inr (1, [.ref b1])), (b1, .inl (gJ g, 3, .inr (.inl f))), (a2, .inr (1, [.ref b2])), (b2, .inl (gJ g, 3, .inr (.inl (pyS t1 (lotN (sdS sd1))))))] := hD.sub [2, 0, 1, 3, 4] (by decide) rfl
            refine lv_iload_n hx hb dX6_years_66 rfl (lv_at hl 1 rfl) ?_
            refine lv_aload_n hx hb dX6_years_67 rfl (lv_at hl 2 rfl) ?_
            refine va_get (D := g.1) (ci := 5) (v := .ref a2) (C := RX6) (T := TX6) (N := 9) hx hb hw inlX6 hown hkn.1 hP 0 rfl rfl 1 (by decide) (hw _ mw_17) (fun _ h9 => h9) rfl dX6_years_68 ?_
            refine cV_i (As := []) (rest := [.int (nI a)]) hx hb hml hown hw hkn hS hl (c_X1_area l g _ a2 b2 (pyS t1 (lotN (sdS sd1)))  (hP.sub [3, 4] rfl)) vf_X1_area mw_769 (va_recv hkn.1 hP (ci := 1) (q0 := 3) rfl rfl) ⟨(Nat.le_of_ble_eq_true rfl), (Nat.le_of_ble_eq_true rfl)⟩ rfl rfl rfl rfl (Nat.le_of_ble_eq_true rfl) dX6_years_71 ⟨(Nat.le_of_ble_eq_true rfl), (Nat.le_of_ble_eq_true rfl)⟩ ?_
            refine lv_iadd hx hb dX6_years_74 ?_
            refine lv_eqi (nI_add a (areaN (pyS t1 (lotN (sdS sd1))))) ?_
            refine lv_istore_n (lv' := [(2, .int (nI (a + (areaN (pyS t1 (lotN (sdS sd1))))))), (3, .int (nI i)), (0, .ref h0), (1, .int x0)]) hx hb dX6_years_75 rfl hl (by decide) rfl (fun ls hl => ?_)
            refine lv_iinc (v := (nI (i + 1))) (lv' := [(3, .int (nI (i + 1))), (2, .int (nI (a + (areaN (pyS t1 (lotN (sdS sd1))))))), (0, .ref h0), (1, .int x0)]) hx hb dX6_years_76 hl (k := 1) rfl (nI_1 i) (by decide) rfl (fun ls hl => ?_)
            refine lv_goto (tgt := 29) hx hb dX6_years_79 (by decide) ?_
            exact ih_29 (i + 1) (a + (areaN (pyS t1 (lotN (sdS sd1))))) (sdS sd1) (pyS t1 (lotN (sdS sd1))) (by omega) (by rw [yrS, h_y]) (by omega) _ _ hP hD hS ls (lv_sub hl [0, 1, 2, 3] rfl)
      exact lp_29 (x9 + 1) 0 0 sd (cpS f ft) (by omega) (rfl) (by omega) _ _ hP hD hS ls (lv_sub hl [0, 1, 2, 3] rfl)
    · skip
      refine lv_bipush (v := (-2)) hx hb dX6_years_11 (by decide) ?_
      have eb : qYrB x0 = false := decide_eq_false (fun q => by first | exact q.1 c_1 | exact c_2 q.2)
      exact eM_i (g := g) hx hb hr hlocks ft (by rw [eb]; rfl) (show va_P g.1 vwCl [(h0, .inr (5, [.ref a1, .ref a2, .ref a3, .ref a4, .ref a5, .ref a6, .ref a7, .ref a8, .long (cond (qYrB x0) (yrS (cpS f ft) sd x0.toNatClampNeg).2.1 sd)])), (a1, .inr (1, [.ref b1])), (b1, .inl (gJ g, 3, .inr (.inl f))), (a2, .inr (1, [.ref b2])), (b2, .inl (gJ g, 3, .inr (.inl ft)))] H by rw [eb]; exact hP.sub [0, 1, 2, 3, 4] rfl) (show va_D A [(h0, .inr (5, [.ref a1, .ref a2, .ref a3, .ref a4, .ref a5, .ref a6, .ref a7, .ref a8, .long (cond (qYrB x0) (yrS (cpS f ft) sd x0.toNatClampNeg).2.1 sd)])), (a1, .inr (1, [.ref b1])), (b1, .inl (gJ g, 3, .inr (.inl f))), (a2, .inr (1, [.ref b2])), (b2, .inl (gJ g, 3, .inr (.inl ft)))] by rw [eb]; exact hD.sub [0, 1, 2, 3, 4] (by decide) rfl) hS dX6_years_13
set_option maxHeartbeats 4000000 in
set_option maxRecDepth 100000 in
theorem c_X6_readsDoings (l : Launch) (g : GG) (sz : Nat) (h0 : Nat) (k : Nat) (r0 : Int64) (a1 : Nat) (a2 : Nat) (a3 : Nat) (a4 : Nat) (a5 : Nat) (a6 : Nat) (a7 : Nat) (a8 : Nat) (sd : Int64) (dg : Nat → Int32) (hk1 : 1 ≤ k) (hk4 : k ≤ 4) : Met l yX6_readsDoings (Cond.code yX6_readsDoings cX6_readsDoings 7 (some .boolean) :: wsL_law) ({ frames := 1, cells := 0, slots := 0, locals := 29 }) (PM g [.ref h0, .int (nI k), .long r0] [(h0, .inr (5, [.ref a1, .ref a2, .ref a3, .ref a4, .ref a5, .ref a6, .ref a7, .ref a8, .long sd])), (a8, .inl (gI g, 4, .inl dg))] sz) (QAi g (fun (r : Int32) (u : Unit) => r = b2i (decide (rsD r0 k = 0))) (fun (u : Unit) => [(h0, .inr (5, [.ref a1, .ref a2, .ref a3, .ref a4, .ref a5, .ref a6, .ref a7, .ref a8, .long sd])), (a8, .inl (gI g, 4, .inl (dgF r0 k 0 dg)))]) (va_A [(h0, .inr (5, [.ref a1, .ref a2, .ref a3, .ref a4, .ref a5, .ref a6, .ref a7, .ref a8, .long sd])), (a8, .inl (gI g, 4, .inl dg))] sz)) 0 0 (va_A [(h0, .inr (5, [.ref a1, .ref a2, .ref a3, .ref a4, .ref a5, .ref a6, .ref a7, .ref a8, .long sd])), (a8, .inl (gI g, 4, .inl dg))] sz) := by
  refine Met.M (Qc := fun A => QAi g (fun (r : Int32) (u : Unit) => r = b2i (decide (rsD r0 k = 0))) (fun (u : Unit) => [(h0, .inr (5, [.ref a1, .ref a2, .ref a3, .ref a4, .ref a5, .ref a6, .ref a7, .ref a8, .long sd])), (a8, .inl (gI g, 4, .inl (dgF r0 k 0 dg)))]) A) (by decide) (Nat.le_of_ble_eq_true rfl) rfl ?_
  intro p e s m below meth c hx hb hr hml hw hown hlocks hin A hA hkn hP hD ls hl
  have hl : lv_has ls 7 [(0, .ref h0), (1, .int (nI k)), (2, .long r0)] := hl
  have hS : va_S A s.heap s.heap [] := va_S.rf
  obtain ⟨H, hHe⟩ : ∃ H, H = s.heap := ⟨_, rfl⟩
  obtain ⟨locs, hLe⟩ : ∃ locs : List Loc, locs = [] := ⟨_, rfl⟩
  have hP : va_P g.1 vwCl [(h0, .inr (5, [.ref a1, .ref a2, .ref a3, .ref a4, .ref a5, .ref a6, .ref a7, .ref a8, .long sd])), (a8, .inl (gI g, 4, .inl dg))] H := by rw [hHe]; exact hP
  have hS : va_S A s.heap H locs := by rw [hHe, hLe]; exact hS
  have hgo : W p l e ({ frames := 1, cells := 0, slots := 0, locals := 29 } : Room) s m ([.ref h0, .int (nI k), .long r0] : List Value).toArray below meth c H locs 0 0 (MQ below (QAi g (fun (r : Int32) (u : Unit) => r = b2i (decide (rsD r0 k = 0))) (fun (u : Unit) => [(h0, .inr (5, [.ref a1, .ref a2, .ref a3, .ref a4, .ref a5, .ref a6, .ref a7, .ref a8, .long sd])), (a8, .inl (gI g, 4, .inl (dgF r0 k 0 dg)))]) A) ([.ref h0, .int (nI k), .long r0] : List Value).toArray s 0 0 A) (F0 m 0 ls []) := ?_
  · rw [hHe, hLe] at hgo; exact hgo
  clear hHe hLe
  refine lv_lload_n hx hb dX6_readsDoings_0 rfl (lv_at hl 2 rfl) ?_
  refine lv_lstore (lv' := [(4, .long r0), (0, .ref h0), (1, .int (nI k)), (2, .long r0)]) hx hb dX6_readsDoings_1 hl (by decide) rfl (fun ls hl => ?_)
  refine lv_iload_n hx hb dX6_readsDoings_3 rfl (lv_at hl 2 rfl) ?_
  refine lv_iconst (v := 4) hx hb dX6_readsDoings_4 (by decide) ?_
  refine va_mmin hx hb (hml.trans hl.1.symm) hown (hw _ mw_559) (hw _ mw_560) (hw _ mw_561) (hw _ mw_562) (Nat.le_of_ble_eq_true rfl) (Nat.le_of_ble_eq_true rfl) (Nat.le_of_ble_eq_true rfl) (Nat.le_of_ble_eq_true rfl) dX6_readsDoings_5 ?_
  refine lv_iconst (v := 1) hx hb dX6_readsDoings_8 (by decide) ?_
  refine lv_isub hx hb dX6_readsDoings_9 ?_
  refine lv_eqi (show _ = (nI k + (-1)) from mn_eq hk1 hk4) ?_
  refine lv_istore (lv' := [(6, .int (nI k + (-1))), (4, .long r0), (0, .ref h0), (1, .int (nI k)), (2, .long r0)]) hx hb dX6_readsDoings_10 hl (by decide) rfl (fun ls hl => ?_)
  have lp_12 : ∀ (n_12 : Nat) (j : Nat) (r1 : Int64) (dg1 : Nat → Int32), (j ≤ k) → (r1 = rsD r0 (k - j)) → (dg1 = dgF r0 k j dg) → j < n_12 → ∀ (H : Heap) (locs : List Loc), va_P g.1 vwCl [(h0, .inr (5, [.ref a1, .ref a2, .ref a3, .ref a4, .ref a5, .ref a6, .ref a7, .ref a8, .long sd])), (a8, .inl (gI g, 4, .inl dg1))] H → va_D A [(h0, .inr (5, [.ref a1, .ref a2, .ref a3, .ref a4, .ref a5, .ref a6, .ref a7, .ref a8, .long sd])), (a8, .inl (gI g, 4, .inl dg1))] → va_S A s.heap H locs → ∀ (ls : Array Slot), lv_has ls 7 [(6, .int (nI j + (-1))), (4, .long r1), (0, .ref h0), (1, .int (nI k)), (2, .long r0)] → W p l e ({ frames := 1, cells := 0, slots := 0, locals := 29 } : Room) s m ([.ref h0, .int (nI k), .long r0] : List Value).toArray below meth c H locs 0 0 (MQ below (QAi g (fun (r : Int32) (u : Unit) => r = b2i (decide (rsD r0 k = 0))) (fun (u : Unit) => [(h0, .inr (5, [.ref a1, .ref a2, .ref a3, .ref a4, .ref a5, .ref a6, .ref a7, .ref a8, .long sd])), (a8, .inl (gI g, 4, .inl (dgF r0 k 0 dg)))]) A) ([.ref h0, .int (nI k), .long r0] : List Value).toArray s 0 0 A) (F0 m 12 ls []) := by
    intro n_12
    induction n_12 with
    | zero => intro j r1 dg1 h_j h_r h_d hfu_12; exact absurd hfu_12 (by omega)
    | succ n_12 ih_12 =>
      intro j r1 dg1 h_j h_r h_d hfu_12 H locs hP hD hS ls hl
      refine lv_iload hx hb dX6_readsDoings_12 (lv_at hl 0 rfl) ?_
      refine lv_if_lt (tgt := 45) hx hb dX6_readsDoings_14 (by decide) (fun c_1 => ?_) (fun c_1 => ?_)
      · skip
        obtain rfl : j = 0 := (ngc (by omega)).mp c_1
        refine lv_lload hx hb dX6_readsDoings_45 (lv_at hl 1 rfl) ?_
        refine lv_lconst (v := 0) hx hb dX6_readsDoings_47 rfl ?_
        refine lc_ne (tgt := 56) hx hb dX6_readsDoings_48 dX6_readsDoings_49 (by decide) (fun c_2 => ?_) (fun c_2 => ?_)
        · skip
          refine lv_iconst (v := 0) hx hb dX6_readsDoings_56 (by decide) ?_
          have eb : decide (rsD r0 k = 0) = false := by rw [Nat.sub_zero] at h_r; rw [← h_r]; exact decide_eq_false c_2
          subst h_d
          exact eM_z (g := g) (b := decide (rsD r0 k = 0)) hx hb hr hlocks () (by rw [eb]; rfl) (by rw [eb]; rfl) (hP.sub [0, 1] rfl) (hD.sub [0, 1] (by decide) rfl) hS dX6_readsDoings_57
        · skip
          refine lv_iconst (v := 1) hx hb dX6_readsDoings_52 (by decide) ?_
          refine lv_goto (tgt := 57) hx hb dX6_readsDoings_53 (by decide) ?_
          have eb : decide (rsD r0 k = 0) = true := by rw [Nat.sub_zero] at h_r; rw [← h_r]; exact decide_eq_true c_2
          subst h_d
          exact eM_z (g := g) (b := decide (rsD r0 k = 0)) hx hb hr hlocks () (by rw [eb]; rfl) (by rw [eb]; rfl) (hP.sub [0, 1] rfl) (hD.sub [0, 1] (by decide) rfl) hS dX6_readsDoings_57
      · skip
        have hj1 : 0 < j := Nat.pos_of_ne_zero (fun q => c_1 ((ngc (by omega)).mpr q))
        refine lv_aload_n hx hb dX6_readsDoings_17 rfl (lv_at hl 2 rfl) ?_
        refine va_get (D := g.1) (ci := 5) (v := .ref a8) (C := RX6) (T := TX6) (N := 9) hx hb hw inlX6 hown hkn.1 hP 0 rfl rfl 7 (by decide) (hw _ mw_36) (fun _ h9 => h9) rfl dX6_readsDoings_18 ?_
        refine lv_iload hx hb dX6_readsDoings_21 (lv_at hl 0 rfl) ?_
        refine lv_eqi (show _ = (nI (j - 1)) from nI_dec (by omega)) ?_
        refine lv_lload hx hb dX6_readsDoings_23 (lv_at hl 1 rfl) ?_
        refine lv_ldc2 hx hb hown (hw _ mw_563) dX6_readsDoings_25 ?_
        refine lv_lrem hx hb dX6_readsDoings_28 (by decide) ?_
        refine lv_l2i hx hb dX6_readsDoings_29 rfl ?_
        refine va_iast hx hb hkn.1 hP hD hS 1 0 rfl rfl (vp_in_nI (n := j - 1) (by omega) (by decide)) dX6_readsDoings_30 (fun H locs hP hD hS => ?_)
        rw [nI_clamp (n := j - 1) (by omega)] at hP hD
        have hP : va_P g.1 vwCl [(h0, .inr (5, [.ref a1, .ref a2, .ref a3, .ref a4, .ref a5, .ref a6, .ref a7, .ref a8, .long sd])), (a8, .inl (gI g, 4, .inl (upd dg1 (j - 1) (((r1 - r1 / 1000 * 1000)).toInt32))))] H := hP
        have hD : va_D A [(h0, .inr (5, [.ref a1, .ref a2, .ref a3, .ref a4, .ref a5, .ref a6, .ref a7, .ref a8, .long sd])), (a8, .inl (gI g, 4, .inl (upd dg1 (j - 1) (((r1 - r1 / 1000 * 1000)).toInt32))))] := hD
        refine lv_lload hx hb dX6_readsDoings_31 (lv_at hl 1 rfl) ?_
        refine lv_ldc2 hx hb hown (hw _ mw_563) dX6_readsDoings_33 ?_
        refine lv_ldiv hx hb dX6_readsDoings_36 (by decide) ?_
        refine lv_lstore (lv' := [(4, .long (r1 / 1000)), (6, .int (nI j + (-1))), (0, .ref h0), (1, .int (nI k)), (2, .long r0)]) hx hb dX6_readsDoings_37 hl (by decide) rfl (fun ls hl => ?_)
        refine lv_iinc (v := (nI (j - 1) + (-1))) (lv' := [(6, .int (nI (j - 1) + (-1))), (4, .long (r1 / 1000)), (0, .ref h0), (1, .int (nI k)), (2, .long r0)]) hx hb dX6_readsDoings_39 hl (k := 1) rfl (by rw [nI_dec (by omega)]; rfl) (by decide) rfl (fun ls hl => ?_)
        refine lv_goto (tgt := 12) hx hb dX6_readsDoings_42 (by decide) ?_
        exact ih_12 (j - 1) (r1 / 1000) (upd dg1 (j - 1) (((r1 - r1 / 1000 * 1000)).toInt32)) (by omega) (by rw [h_r, show k - (j - 1) = (k - j) + 1 by omega]; rfl) (by rw [h_d, h_r]; exact dgF_step (by omega) h_j) (by omega) _ _ hP hD hS ls (lv_sub hl [0, 1, 2, 3, 4] rfl)
  exact lp_12 (k + 1) k r0 dg (by omega) (by rw [Nat.sub_self]; rfl) (by funext t; unfold dgF; rw [if_neg (by omega)]) (by omega) _ _ hP hD hS ls (lv_sub hl [0, 1, 2, 3, 4] rfl)
set_option maxHeartbeats 4000000 in
set_option maxRecDepth 100000 in
theorem c_X6_judge (l : Launch) (g : GG) (sz : Nat) (h0 : Nat) (x0 : Int32) (r0 : Int64) (a1 : Nat) (a2 : Nat) (a3 : Nat) (a4 : Nat) (a5 : Nat) (a6 : Nat) (a7 : Nat) (a8 : Nat) (sd : Int64) (b1 : Nat) (f : Nat → Int64) (b2 : Nat) (ft : Nat → Int64) (dg : Nat → Int32)  : Met l yX6_judge (Cond.code yX6_judge cX6_judge 6 (some .int) :: wsL_law) ({ frames := 6, cells := 0, slots := 0, locals := 143 }) (PM g [.ref h0, .int x0, .long r0] [(h0, .inr (5, [.ref a1, .ref a2, .ref a3, .ref a4, .ref a5, .ref a6, .ref a7, .ref a8, .long sd])), (a1, .inr (1, [.ref b1])), (b1, .inl (gJ g, 3, .inr (.inl f))), (a2, .inr (1, [.ref b2])), (b2, .inl (gJ g, 3, .inr (.inl ft))), (a8, .inl (gI g, 4, .inl dg))] sz) (QAi g (fun (r : Int32) (u : (Nat → Int64) × (Nat → Int32)) => r = qJd f ft x0 r0) (fun (u : (Nat → Int64) × (Nat → Int32)) => [(h0, .inr (5, [.ref a1, .ref a2, .ref a3, .ref a4, .ref a5, .ref a6, .ref a7, .ref a8, .long sd])), (a1, .inr (1, [.ref b1])), (b1, .inl (gJ g, 3, .inr (.inl f))), (a2, .inr (1, [.ref b2])), (b2, .inl (gJ g, 3, .inr (.inl u.1))), (a8, .inl (gI g, 4, .inl u.2))]) (va_A [(h0, .inr (5, [.ref a1, .ref a2, .ref a3, .ref a4, .ref a5, .ref a6, .ref a7, .ref a8, .long sd])), (a1, .inr (1, [.ref b1])), (b1, .inl (gJ g, 3, .inr (.inl f))), (a2, .inr (1, [.ref b2])), (b2, .inl (gJ g, 3, .inr (.inl ft))), (a8, .inl (gI g, 4, .inl dg))] sz)) 0 0 (va_A [(h0, .inr (5, [.ref a1, .ref a2, .ref a3, .ref a4, .ref a5, .ref a6, .ref a7, .ref a8, .long sd])), (a1, .inr (1, [.ref b1])), (b1, .inl (gJ g, 3, .inr (.inl f))), (a2, .inr (1, [.ref b2])), (b2, .inl (gJ g, 3, .inr (.inl ft))), (a8, .inl (gI g, 4, .inl dg))] sz) := by
  refine Met.M (Qc := fun A => QAi g (fun (r : Int32) (u : (Nat → Int64) × (Nat → Int32)) => r = qJd f ft x0 r0) (fun (u : (Nat → Int64) × (Nat → Int32)) => [(h0, .inr (5, [.ref a1, .ref a2, .ref a3, .ref a4, .ref a5, .ref a6, .ref a7, .ref a8, .long sd])), (a1, .inr (1, [.ref b1])), (b1, .inl (gJ g, 3, .inr (.inl f))), (a2, .inr (1, [.ref b2])), (b2, .inl (gJ g, 3, .inr (.inl u.1))), (a8, .inl (gI g, 4, .inl u.2))]) A) (by decide) (Nat.le_of_ble_eq_true rfl) rfl ?_
  intro p e s m below meth c hx hb hr hml hw hown hlocks hin A hA hkn hP hD ls hl
  have hl : lv_has ls 6 [(0, .ref h0), (1, .int x0), (2, .long r0)] := hl
  have hS : va_S A s.heap s.heap [] := va_S.rf
  obtain ⟨H, hHe⟩ : ∃ H, H = s.heap := ⟨_, rfl⟩
  obtain ⟨locs, hLe⟩ : ∃ locs : List Loc, locs = [] := ⟨_, rfl⟩
  have hP : va_P g.1 vwCl [(h0, .inr (5, [.ref a1, .ref a2, .ref a3, .ref a4, .ref a5, .ref a6, .ref a7, .ref a8, .long sd])), (a1, .inr (1, [.ref b1])), (b1, .inl (gJ g, 3, .inr (.inl f))), (a2, .inr (1, [.ref b2])), (b2, .inl (gJ g, 3, .inr (.inl ft))), (a8, .inl (gI g, 4, .inl dg))] H := by rw [hHe]; exact hP
  have hS : va_S A s.heap H locs := by rw [hHe, hLe]; exact hS
  have hgo : W p l e ({ frames := 6, cells := 0, slots := 0, locals := 143 } : Room) s m ([.ref h0, .int x0, .long r0] : List Value).toArray below meth c H locs 0 0 (MQ below (QAi g (fun (r : Int32) (u : (Nat → Int64) × (Nat → Int32)) => r = qJd f ft x0 r0) (fun (u : (Nat → Int64) × (Nat → Int32)) => [(h0, .inr (5, [.ref a1, .ref a2, .ref a3, .ref a4, .ref a5, .ref a6, .ref a7, .ref a8, .long sd])), (a1, .inr (1, [.ref b1])), (b1, .inl (gJ g, 3, .inr (.inl f))), (a2, .inr (1, [.ref b2])), (b2, .inl (gJ g, 3, .inr (.inl u.1))), (a8, .inl (gI g, 4, .inl u.2))]) A) ([.ref h0, .int x0, .long r0] : List Value).toArray s 0 0 A) (F0 m 0 ls []) := ?_
  · rw [hHe, hLe] at hgo; exact hgo
  clear hHe hLe
  refine lv_iload_n hx hb dX6_judge_0 rfl (lv_at hl 1 rfl) ?_
  refine lv_iconst (v := 1) hx hb dX6_judge_1 (by decide) ?_
  refine lv_icmp_lt (tgt := 25) hx hb dX6_judge_2 (by decide) (fun c_1 => ?_) (fun c_1 => ?_)
  · skip
    refine lv_bipush (v := (-2)) hx hb dX6_judge_25 (by decide) ?_
    exact eM_i (g := g) hx hb hr hlocks (ft, dg) (by unfold qJd; rw [if_pos c_1]) (hP.sub [0, 1, 2, 3, 4, 5] rfl) (hD.sub [0, 1, 2, 3, 4, 5] (by decide) rfl) hS dX6_judge_27
  · skip
    refine lv_iload_n hx hb dX6_judge_5 rfl (lv_at hl 1 rfl) ?_
    refine lv_iconst (v := 4) hx hb dX6_judge_6 (by decide) ?_
    refine lv_icmp_gt (tgt := 25) hx hb dX6_judge_7 (by decide) (fun c_2 => ?_) (fun c_2 => ?_)
    · skip
      refine lv_bipush (v := (-2)) hx hb dX6_judge_25 (by decide) ?_
      exact eM_i (g := g) hx hb hr hlocks (ft, dg) (by unfold qJd; rw [if_neg c_1, if_pos c_2]) (hP.sub [0, 1, 2, 3, 4, 5] rfl) (hD.sub [0, 1, 2, 3, 4, 5] (by decide) rfl) hS dX6_judge_27
    · skip
      refine lv_lload_n hx hb dX6_judge_10 rfl (lv_at hl 2 rfl) ?_
      refine lv_lconst (v := 0) hx hb dX6_judge_11 rfl ?_
      refine lc_lt (tgt := 25) hx hb dX6_judge_12 dX6_judge_13 (by decide) (fun c_3 => ?_) (fun c_3 => ?_)
      · skip
        refine lv_bipush (v := (-2)) hx hb dX6_judge_25 (by decide) ?_
        exact eM_i (g := g) hx hb hr hlocks (ft, dg) (by unfold qJd; rw [if_neg c_1, if_neg c_2, if_pos c_3]) (hP.sub [0, 1, 2, 3, 4, 5] rfl) (hD.sub [0, 1, 2, 3, 4, 5] (by decide) rfl) hS dX6_judge_27
      · skip
        obtain ⟨x9, hx9, ex9⟩ := nI_of2 (M := 4) (n := 4) (by decide) (fun q => c_1 (Int32.lt_of_lt_of_le q (by decide))) (Int32.not_lt.mp c_2)
        have hx1 : 1 ≤ x9 := Nat.pos_of_ne_zero (fun q => c_1 (by rw [ex9, q]; decide))
        have ec : x0.toNatClampNeg = x9 := by rw [ex9, nI_clamp (by omega)]
        have hj0 : qJd f ft x0 r0 = if rsD r0 x9 = 0 then jdG r0 x9 x9 0 (cpS f ft) else -2 := by unfold qJd; rw [if_neg c_1, if_neg c_2, if_neg c_3, ec]
        refine lv_aload_n hx hb dX6_judge_16 rfl (lv_at hl 0 rfl) ?_
        refine lv_iload_n hx hb dX6_judge_17 rfl (lv_at hl 1 rfl) ?_
        refine lv_eqi (show _ = (nI x9) from ex9) ?_
        refine lv_lload_n hx hb dX6_judge_18 rfl (lv_at hl 2 rfl) ?_
        refine cVM_i (As := [.int (nI x9), .long r0]) (rest := []) (q0 := 0) (wc := [(h0, .inr (5, [.ref a1, .ref a2, .ref a3, .ref a4, .ref a5, .ref a6, .ref a7, .ref a8, .long sd])), (a8, .inl (gI g, 4, .inl dg))]) (wr := [(a1, .inr (1, [.ref b1])), (b1, .inl (gJ g, 3, .inr (.inl f))), (a2, .inr (1, [.ref b2])), (b2, .inl (gJ g, 3, .inr (.inl ft)))]) hx hb hml hown hw hkn hS hl hA hP hD [0, 5] [1, 2, 3, 4] rfl rfl (by decide) (by decide) (by decide) (c_X6_readsDoings l g _ h0 x9 r0 a1 a2 a3 a4 a5 a6 a7 a8 sd dg (by omega) (by omega)) vf_X6_readsDoings mw_555 rfl rfl ⟨(Nat.le_of_ble_eq_true rfl), (Nat.le_of_ble_eq_true rfl)⟩ rfl rfl rfl rfl (Nat.le_of_ble_eq_true rfl) dX6_judge_19 ⟨(Nat.le_of_ble_eq_true rfl), (Nat.le_of_ble_eq_true rfl)⟩ (fun r u H locs hq hP hD hS => ?_)
        have hq : r = (b2i (decide (rsD r0 x9 = 0))) := hq
        subst hq
        have hP : va_P g.1 vwCl [(h0, .inr (5, [.ref a1, .ref a2, .ref a3, .ref a4, .ref a5, .ref a6, .ref a7, .ref a8, .long sd])), (a1, .inr (1, [.ref b1])), (b1, .inl (gJ g, 3, .inr (.inl f))), (a2, .inr (1, [.ref b2])), (b2, .inl (gJ g, 3, .inr (.inl ft))), (a8, .inl (gI g, 4, .inl (dgF r0 x9 0 dg)))] H := hP.sub [4, 0, 1, 2, 3, 5] rfl
        have hD : va_D A [(h0, .inr (5, [.ref a1, .ref a2, .ref a3, .ref a4, .ref a5, .ref a6, .ref a7, .ref a8, .long sd])), (a1, .inr (1, [.ref b1])), (b1, .inl (gJ g, 3, .inr (.inl f))), (a2, .inr (1, [.ref b2])), (b2, .inl (gJ g, 3, .inr (.inl ft))), (a8, .inl (gI g, 4, .inl (dgF r0 x9 0 dg)))] := hD.sub [4, 0, 1, 2, 3, 5] (by decide) rfl
        refine lv_ifneB (b := decide (rsD r0 x9 = 0)) (tgt := 28) hx hb dX6_judge_22 (by decide) (fun c_5 => ?_) (fun c_5 => ?_)
        · skip
          refine lv_aload_n hx hb dX6_judge_28 rfl (lv_at hl 0 rfl) ?_
          refine va_get (D := g.1) (ci := 5) (v := .ref a2) (C := RX6) (T := TX6) (N := 9) hx hb hw inlX6 hown hkn.1 hP 0 rfl rfl 1 (by decide) (hw _ mw_17) (fun _ h9 => h9) rfl dX6_judge_29 ?_
          refine lv_aload_n hx hb dX6_judge_32 rfl (lv_at hl 0 rfl) ?_
          refine va_get (D := g.1) (ci := 5) (v := .ref a1) (C := RX6) (T := TX6) (N := 9) hx hb hw inlX6 hown hkn.1 hP 0 rfl rfl 0 (by decide) (hw _ mw_16) (fun _ h9 => h9) rfl dX6_judge_33 ?_
          refine cVM_v (As := [.ref a1]) (rest := []) (q0 := 0) (wc := [(a2, .inr (1, [.ref b2])), (b2, .inl (gJ g, 3, .inr (.inl ft))), (a1, .inr (1, [.ref b1])), (b1, .inl (gJ g, 3, .inr (.inl f)))]) (wr := [(h0, .inr (5, [.ref a1, .ref a2, .ref a3, .ref a4, .ref a5, .ref a6, .ref a7, .ref a8, .long sd])), (a8, .inl (gI g, 4, .inl (dgF r0 x9 0 dg)))]) hx hb hml hown hw hkn hS hl hA hP hD [3, 4, 1, 2] [0, 5] rfl rfl (by decide) (by decide) (by decide) (c_X1_copyFrom l g _ a2 a1 b2 ft b1 f ) vf_X1_copyFrom mw_564 rfl rfl ⟨(Nat.le_of_ble_eq_true rfl), (Nat.le_of_ble_eq_true rfl)⟩ rfl rfl rfl rfl (Nat.le_of_ble_eq_true rfl) dX6_judge_36 ⟨(Nat.le_of_ble_eq_true rfl), (Nat.le_of_ble_eq_true rfl)⟩ (fun u H locs hq hP hD hS => ?_)
          have hP : va_P g.1 vwCl [(h0, .inr (5, [.ref a1, .ref a2, .ref a3, .ref a4, .ref a5, .ref a6, .ref a7, .ref a8, .long sd])), (a1, .inr (1, [.ref b1])), (b1, .inl (gJ g, 3, .inr (.inl f))), (a2, .inr (1, [.ref b2])), (b2, .inl (gJ g, 3, .inr (.inl (cpS f ft)))), (a8, .inl (gI g, 4, .inl (dgF r0 x9 0 dg)))] H := hP.sub [0, 4, 5, 2, 3, 1] rfl
          have hD : va_D A [(h0, .inr (5, [.ref a1, .ref a2, .ref a3, .ref a4, .ref a5, .ref a6, .ref a7, .ref a8, .long sd])), (a1, .inr (1, [.ref b1])), (b1, .inl (gJ g, 3, .inr (.inl f))), (a2, .inr (1, [.ref b2])), (b2, .inl (gJ g, 3, .inr (.inl (cpS f ft)))), (a8, .inl (gI g, 4, .inl (dgF r0 x9 0 dg)))] := hD.sub [0, 4, 5, 2, 3, 1] (by decide) rfl
          refine lv_iconst (v := 0) hx hb dX6_judge_39 (by decide) ?_
          refine lv_istore (lv' := [(4, .int 0), (0, .ref h0), (1, .int x0), (2, .long r0)]) hx hb dX6_judge_40 hl (by decide) rfl (fun ls hl => ?_)
          have lp_42 : ∀ (n_42 : Nat) (i : Nat) (t1 : Nat → Int64), (i ≤ x9) → (jdG r0 x9 (x9 - i) i t1 = jdG r0 x9 x9 0 (cpS f ft)) → x9 < i + n_42 → ∀ (H : Heap) (locs : List Loc), va_P g.1 vwCl [(h0, .inr (5, [.ref a1, .ref a2, .ref a3, .ref a4, .ref a5, .ref a6, .ref a7, .ref a8, .long sd])), (a1, .inr (1, [.ref b1])), (b1, .inl (gJ g, 3, .inr (.inl f))), (a2, .inr (1, [.ref b2])), (b2, .inl (gJ g, 3, .inr (.inl t1))), (a8, .inl (gI g, 4, .inl (dgF r0 x9 0 dg)))] H → va_D A [(h0, .inr (5, [.ref a1, .ref a2, .ref a3, .ref a4, .ref a5, .ref a6, .ref a7, .ref a8, .long sd])), (a1, .inr (1, [.ref b1])), (b1, .inl (gJ g, 3, .inr (.inl f))), (a2, .inr (1, [.ref b2])), (b2, .inl (gJ g, 3, .inr (.inl t1))), (a8, .inl (gI g, 4, .inl (dgF r0 x9 0 dg)))] → va_S A s.heap H locs → ∀ (ls : Array Slot), lv_has ls 6 [(4, .int (nI i)), (0, .ref h0), (1, .int x0), (2, .long r0)] → W p l e ({ frames := 6, cells := 0, slots := 0, locals := 143 } : Room) s m ([.ref h0, .int x0, .long r0] : List Value).toArray below meth c H locs 0 0 (MQ below (QAi g (fun (r : Int32) (u : (Nat → Int64) × (Nat → Int32)) => r = qJd f ft x0 r0) (fun (u : (Nat → Int64) × (Nat → Int32)) => [(h0, .inr (5, [.ref a1, .ref a2, .ref a3, .ref a4, .ref a5, .ref a6, .ref a7, .ref a8, .long sd])), (a1, .inr (1, [.ref b1])), (b1, .inl (gJ g, 3, .inr (.inl f))), (a2, .inr (1, [.ref b2])), (b2, .inl (gJ g, 3, .inr (.inl u.1))), (a8, .inl (gI g, 4, .inl u.2))]) A) ([.ref h0, .int x0, .long r0] : List Value).toArray s 0 0 A) (F0 m 42 ls []) := by
            intro n_42
            induction n_42 with
            | zero => intro i t1 h_i h_t hfu_42; exact absurd hfu_42 (by omega)
            | succ n_42 ih_42 =>
              intro i t1 h_i h_t hfu_42 H locs hP hD hS ls hl
              have h_s : ∀ k, x9 - i = k + 1 → jdG r0 x9 x9 0 (cpS f ft) = if doB t1 (dgV r0 x9 i / 100) (dgV r0 x9 i / 10 - dgV r0 x9 i / 10 / 10 * 10) (dgV r0 x9 i - dgV r0 x9 i / 10 * 10) = true then jdG r0 x9 k (i + 1) (doF t1 (dgV r0 x9 i / 100) (dgV r0 x9 i / 10 - dgV r0 x9 i / 10 / 10 * 10) (dgV r0 x9 i - dgV r0 x9 i / 10 * 10)) else nI i := fun k hk => by rw [← h_t, hk]; rfl
              refine lv_iload hx hb dX6_judge_42 (lv_at hl 0 rfl) ?_
              refine lv_iload_n hx hb dX6_judge_44 rfl (lv_at hl 2 rfl) ?_
              refine lv_eqi (show _ = (nI x9) from ex9) ?_
              refine ic_ge (a := i) (d := x9) (tgt := 94) hx hb dX6_judge_45 (by decide) rfl rfl (by omega) (by omega) (fun c_7 => ?_) (fun c_7 => ?_)
              · skip
                refine lv_bipush (v := (-9)) hx hb dX6_judge_94 (by decide) ?_
                exact eM_i (g := g) hx hb hr hlocks (t1, (dgF r0 x9 0 dg)) (by rw [hj0, if_pos (of_decide_eq_true c_5), ← h_t, show x9 - i = 0 by omega]; rfl) (hP.sub [0, 1, 2, 3, 4, 5] rfl) (hD.sub [0, 1, 2, 3, 4, 5] (by decide) rfl) hS dX6_judge_96
              · skip
                refine lv_aload_n hx hb dX6_judge_48 rfl (lv_at hl 1 rfl) ?_
                refine va_get (D := g.1) (ci := 5) (v := .ref a8) (C := RX6) (T := TX6) (N := 9) hx hb hw inlX6 hown hkn.1 hP 0 rfl rfl 7 (by decide) (hw _ mw_36) (fun _ h9 => h9) rfl dX6_judge_49 ?_
                refine lv_iload hx hb dX6_judge_52 (lv_at hl 0 rfl) ?_
                refine va_iald hx hb hkn.1 hP 5 0 rfl rfl (vp_in_nI (n := i) (by omega) (by decide)) dX6_judge_54 ?_
                refine lv_eqi (show _ = (dgF r0 x9 0 dg) i by rw [nI_clamp (n := i) (by omega)]) ?_
                refine lv_eqi (show _ = (dgV r0 x9 i) from show dgF r0 x9 0 dg i = _ from if_pos ⟨Nat.zero_le _, by omega⟩) ?_
                refine lv_istore (lv' := [(5, .int (dgV r0 x9 i)), (4, .int (nI i)), (0, .ref h0), (1, .int x0), (2, .long r0)]) hx hb dX6_judge_55 hl (by decide) rfl (fun ls hl => ?_)
                refine lv_aload_n hx hb dX6_judge_57 rfl (lv_at hl 2 rfl) ?_
                refine va_get (D := g.1) (ci := 5) (v := .ref a2) (C := RX6) (T := TX6) (N := 9) hx hb hw inlX6 hown hkn.1 hP 0 rfl rfl 1 (by decide) (hw _ mw_17) (fun _ h9 => h9) rfl dX6_judge_58 ?_
                refine lv_iload hx hb dX6_judge_61 (lv_at hl 0 rfl) ?_
                refine lv_bipush (v := 100) hx hb dX6_judge_63 (by decide) ?_
                refine lv_idiv hx hb dX6_judge_65 (by decide) ?_
                refine lv_iload hx hb dX6_judge_66 (lv_at hl 0 rfl) ?_
                refine lv_bipush (v := 10) hx hb dX6_judge_68 (by decide) ?_
                refine lv_idiv hx hb dX6_judge_70 (by decide) ?_
                refine lv_bipush (v := 10) hx hb dX6_judge_71 (by decide) ?_
                refine lv_irem hx hb dX6_judge_73 (by decide) ?_
                refine lv_iload hx hb dX6_judge_74 (lv_at hl 0 rfl) ?_
                refine lv_bipush (v := 10) hx hb dX6_judge_76 (by decide) ?_
                refine lv_irem hx hb dX6_judge_78 (by decide) ?_
                refine cVM_i (As := [.int ((dgV r0 x9 i) / 100), .int (((dgV r0 x9 i) / 10) - ((dgV r0 x9 i) / 10) / 10 * 10), .int ((dgV r0 x9 i) - (dgV r0 x9 i) / 10 * 10)]) (rest := []) (q0 := 0) (wc := [(a2, .inr (1, [.ref b2])), (b2, .inl (gJ g, 3, .inr (.inl t1)))]) (wr := [(h0, .inr (5, [.ref a1, .ref a2, .ref a3, .ref a4, .ref a5, .ref a6, .ref a7, .ref a8, .long sd])), (a1, .inr (1, [.ref b1])), (b1, .inl (gJ g, 3, .inr (.inl f))), (a8, .inl (gI g, 4, .inl (dgF r0 x9 0 dg)))]) hx hb hml hown hw hkn hS hl hA hP hD [3, 4] [0, 1, 2, 5] rfl rfl (by decide) (by decide) (by decide) (c_X1_does l g _ a2 ((dgV r0 x9 i) / 100) (((dgV r0 x9 i) / 10) - ((dgV r0 x9 i) / 10) / 10 * 10) ((dgV r0 x9 i) - (dgV r0 x9 i) / 10 * 10) b2 t1 ) vf_X1_does mw_570 rfl rfl ⟨(Nat.le_of_ble_eq_true rfl), (Nat.le_of_ble_eq_true rfl)⟩ rfl rfl rfl rfl (Nat.le_of_ble_eq_true rfl) dX6_judge_79 ⟨(Nat.le_of_ble_eq_true rfl), (Nat.le_of_ble_eq_true rfl)⟩ (fun r u H locs hq hP hD hS => ?_)
                have hq : r = (b2i (doB t1 ((dgV r0 x9 i) / 100) (((dgV r0 x9 i) / 10) - ((dgV r0 x9 i) / 10) / 10 * 10) ((dgV r0 x9 i) - (dgV r0 x9 i) / 10 * 10))) := hq
                subst hq
                have hP : va_P g.1 vwCl [(h0, .inr (5, [.ref a1, .ref a2, .ref a3, .ref a4, .ref a5, .ref a6, .ref a7, .ref a8, .long sd])), (a1, .inr (1, [.ref b1])), (b1, .inl (gJ g, 3, .inr (.inl f))), (a2, .inr (1, [.ref b2])), (b2, .inl (gJ g, 3, .inr (.inl (doF t1 ((dgV r0 x9 i) / 100) (((dgV r0 x9 i) / 10) - ((dgV r0 x9 i) / 10) / 10 * 10) ((dgV r0 x9 i) - (dgV r0 x9 i) / 10 * 10))))), (a8, .inl (gI g, 4, .inl (dgF r0 x9 0 dg)))] H := hP.sub [0, 1, 2, 4, 5, 3] rfl
                have hD : va_D A [(h0, .inr (5, [.ref a1, .ref a2, .ref a3, .ref a4, .ref a5, .ref a6, .ref a7, .ref a8, .long sd])), (a1, .inr (1, [.ref b1])), (b1, .inl (gJ g, 3, .inr (.inl f))), (a2, .inr (1, [.ref b2])), (b2, .inl (gJ g, 3, .inr (.inl (doF t1 ((dgV r0 x9 i) / 100) (((dgV r0 x9 i) / 10) - ((dgV r0 x9 i) / 10) / 10 * 10) ((dgV r0 x9 i) - (dgV r0 x9 i) / 10 * 10))))), (a8, .inl (gI g, 4, .inl (dgF r0 x9 0 dg)))] := hD.sub [0, 1, 2, 4, 5, 3] (by decide) rfl
                refine lv_ifneB (b := doB t1 ((dgV r0 x9 i) / 100) (((dgV r0 x9 i) / 10) - ((dgV r0 x9 i) / 10) / 10 * 10) ((dgV r0 x9 i) - (dgV r0 x9 i) / 10 * 10)) (tgt := 88) hx hb dX6_judge_82 (by decide) (fun c_9 => ?_) (fun c_9 => ?_)
                · skip
                  refine lv_iinc (v := (nI (i + 1))) (lv' := [(4, .int (nI (i + 1))), (5, .int (dgV r0 x9 i)), (0, .ref h0), (1, .int x0), (2, .long r0)]) hx hb dX6_judge_88 hl (k := 1) rfl (nI_1 i) (by decide) rfl (fun ls hl => ?_)
                  refine lv_goto (tgt := 42) hx hb dX6_judge_91 (by decide) ?_
                  exact ih_42 (i + 1) (doF t1 ((dgV r0 x9 i) / 100) (((dgV r0 x9 i) / 10) - ((dgV r0 x9 i) / 10) / 10 * 10) ((dgV r0 x9 i) - (dgV r0 x9 i) / 10 * 10)) (by omega) (by rw [h_s (x9 - (i + 1)) (by omega)]; exact (if_pos c_9).symm) (by omega) _ _ hP hD hS ls (lv_sub hl [0, 2, 3, 4] rfl)
                · skip
                  refine lv_iload hx hb dX6_judge_85 (lv_at hl 1 rfl) ?_
                  exact eM_i (g := g) hx hb hr hlocks ((doF t1 ((dgV r0 x9 i) / 100) (((dgV r0 x9 i) / 10) - ((dgV r0 x9 i) / 10) / 10 * 10) ((dgV r0 x9 i) - (dgV r0 x9 i) / 10 * 10)), (dgF r0 x9 0 dg)) (by rw [hj0, if_pos (of_decide_eq_true c_5), h_s (x9 - (i + 1)) (by omega), if_neg (nt_of c_9)]) (hP.sub [0, 1, 2, 3, 4, 5] rfl) (hD.sub [0, 1, 2, 3, 4, 5] (by decide) rfl) hS dX6_judge_87
          exact lp_42 (x9 + 1) 0 (cpS f ft) (by omega) (rfl) (by omega) _ _ hP hD hS ls (lv_sub hl [0, 1, 2, 3] rfl)
        · skip
          refine lv_bipush (v := (-2)) hx hb dX6_judge_25 (by decide) ?_
          exact eM_i (g := g) hx hb hr hlocks (ft, (dgF r0 x9 0 dg)) (by rw [hj0, if_neg (of_decide_eq_false c_5)]) (hP.sub [0, 1, 2, 3, 4, 5] rfl) (hD.sub [0, 1, 2, 3, 4, 5] (by decide) rfl) hS dX6_judge_27
set_option maxHeartbeats 4000000 in
set_option maxRecDepth 100000 in
theorem c_X6_count (l : Launch) (g : GG) (H : Heap) (h0 : Nat) (x0 : Int32) (a1 : Nat) (a2 : Nat) (a3 : Nat) (a4 : Nat) (a5 : Nat) (a6 : Nat) (a7 : Nat) (a8 : Nat) (sd : Int64) (b1 : Nat) (f : Nat → Int64) (t1 : Nat) (t2 : Nat) (sn : Nat) (dr : Int64) (c1 : Nat) (c2 : Nat) (an : Nat) (fc : Nat → Int32) (fb : Nat → Int64) (s1 : Nat) (s2 : Nat) (zn : Nat)  (hP : va_P g.1 vwCl [(h0, .inr (5, [.ref a1, .ref a2, .ref a3, .ref a4, .ref a5, .ref a6, .ref a7, .ref a8, .long sd])), (a1, .inr (1, [.ref b1])), (b1, .inl (gJ g, 3, .inr (.inl f))), (a4, .inr (3, [.ref t1, .ref t2, .int (nI sn), .long dr])), (a5, .inr (0, [.ref c1, .ref c2, .int (nI an)])), (c1, .inl (gI g, 14, .inl fc)), (c2, .inl (gJ g, 14, .inr (.inl fb))), (a6, .inr (2, [.ref s1, .ref s2, .int (nI zn)]))] H) : Met l yX6_count (Cond.code yX6_count cX6_count 2 (some .int) :: wsL_law) ({ frames := 3, cells := 0, slots := 0, locals := 63 }) (PR g [.ref h0, .int x0] H) (QRi (qCt f sn an zn x0) H) 0 0 NoA := by
  refine Met.R (by decide) (Nat.le_of_ble_eq_true rfl) rfl ?_
  intro p e s m below meth c hx hb hr hml hw hown hlocks hkn hH ls hl
  subst hH
  have hl : lv_has ls 2 [(0, .ref h0), (1, .int x0)] := hl
  have hS : va_S NoA s.heap s.heap [] := va_S.rf
  refine lv_iload_n hx hb dX6_count_0 rfl (lv_at hl 1 rfl) ?_
  by_cases c_1 : x0 = 0
  · skip
    refine lv_tableIn (off := 39) (tgt := 40) hx hb dX6_count_1 (by rw [c_1]; decide) (by rw [c_1]; decide) (by rw [c_1]; rfl) (by decide) ?_
    refine lv_aload_n hx hb dX6_count_40 rfl (lv_at hl 0 rfl) ?_
    refine va_get (D := g.1) (ci := 5) (v := .ref a4) (C := RX6) (T := TX6) (N := 9) hx hb hw inlX6 hown hkn.1 hP 0 rfl rfl 3 (by decide) (hw _ mw_22) (fun _ h9 => h9) rfl dX6_count_41 ?_
    refine cV_i (As := []) (rest := []) hx hb hml hown hw hkn hS hl (c_X4_size l g _ a4 t1 t2 sn dr  (hP.sub [3] rfl)) vf_X4_size mw_91 (va_recv hkn.1 hP (ci := 3) (q0 := 3) rfl rfl) ⟨(Nat.le_of_ble_eq_true rfl), (Nat.le_of_ble_eq_true rfl)⟩ rfl rfl rfl rfl (Nat.le_of_ble_eq_true rfl) dX6_count_44 ⟨(Nat.le_of_ble_eq_true rfl), (Nat.le_of_ble_eq_true rfl)⟩ ?_
    exact eR_i hx hb hr hlocks (by unfold qCt; rw [if_pos c_1]) dX6_count_47
  · skip
    by_cases c_2 : x0 = 1
    · skip
      refine lv_tableIn (off := 47) (tgt := 48) hx hb dX6_count_1 (by rw [c_2]; decide) (by rw [c_2]; decide) (by rw [c_2]; rfl) (by decide) ?_
      refine lv_aload_n hx hb dX6_count_48 rfl (lv_at hl 0 rfl) ?_
      refine va_get (D := g.1) (ci := 5) (v := .ref a1) (C := RX6) (T := TX6) (N := 9) hx hb hw inlX6 hown hkn.1 hP 0 rfl rfl 0 (by decide) (hw _ mw_16) (fun _ h9 => h9) rfl dX6_count_49 ?_
      refine cV_i (As := []) (rest := []) hx hb hml hown hw hkn hS hl (c_X1_area l g _ a1 b1 f  (hP.sub [1, 2] rfl)) vf_X1_area mw_769 (va_recv hkn.1 hP (ci := 1) (q0 := 1) rfl rfl) ⟨(Nat.le_of_ble_eq_true rfl), (Nat.le_of_ble_eq_true rfl)⟩ rfl rfl rfl rfl (Nat.le_of_ble_eq_true rfl) dX6_count_52 ⟨(Nat.le_of_ble_eq_true rfl), (Nat.le_of_ble_eq_true rfl)⟩ ?_
      exact eR_i hx hb hr hlocks (by unfold qCt; rw [if_neg c_1, if_pos c_2]) dX6_count_55
    · skip
      by_cases c_3 : x0 = 2
      · skip
        refine lv_tableIn (off := 55) (tgt := 56) hx hb dX6_count_1 (by rw [c_3]; decide) (by rw [c_3]; decide) (by rw [c_3]; rfl) (by decide) ?_
        refine lv_aload_n hx hb dX6_count_56 rfl (lv_at hl 0 rfl) ?_
        refine va_get (D := g.1) (ci := 5) (v := .ref a1) (C := RX6) (T := TX6) (N := 9) hx hb hw inlX6 hown hkn.1 hP 0 rfl rfl 0 (by decide) (hw _ mw_16) (fun _ h9 => h9) rfl dX6_count_57 ?_
        refine lv_iconst (v := 0) hx hb dX6_count_60 (by decide) ?_
        refine cV_l (As := [.int 0]) (rest := []) hx hb hml hown hw hkn hS hl (c_X1_cells l g _ a1 0 b1 f  (hP.sub [1, 2] rfl)) vf_X1_cells mw_218 (va_recv hkn.1 hP (ci := 1) (q0 := 1) rfl rfl) ⟨(Nat.le_of_ble_eq_true rfl), (Nat.le_of_ble_eq_true rfl)⟩ rfl rfl rfl rfl (Nat.le_of_ble_eq_true rfl) dX6_count_61 ⟨(Nat.le_of_ble_eq_true rfl), (Nat.le_of_ble_eq_true rfl)⟩ ?_
        refine lv_eql (show _ = (f 0) from picS_nI (j := 0) (by omega)) ?_
        refine lv_aload_n hx hb dX6_count_64 rfl (lv_at hl 0 rfl) ?_
        refine va_get (D := g.1) (ci := 5) (v := .ref a1) (C := RX6) (T := TX6) (N := 9) hx hb hw inlX6 hown hkn.1 hP 0 rfl rfl 0 (by decide) (hw _ mw_16) (fun _ h9 => h9) rfl dX6_count_65 ?_
        refine lv_iconst (v := 1) hx hb dX6_count_68 (by decide) ?_
        refine cV_l (As := [.int 1]) (rest := [.long (f 0)]) hx hb hml hown hw hkn hS hl (c_X1_cells l g _ a1 1 b1 f  (hP.sub [1, 2] rfl)) vf_X1_cells mw_218 (va_recv hkn.1 hP (ci := 1) (q0 := 1) rfl rfl) ⟨(Nat.le_of_ble_eq_true rfl), (Nat.le_of_ble_eq_true rfl)⟩ rfl rfl rfl rfl (Nat.le_of_ble_eq_true rfl) dX6_count_69 ⟨(Nat.le_of_ble_eq_true rfl), (Nat.le_of_ble_eq_true rfl)⟩ ?_
        refine lv_eql (show _ = (f 1) from picS_nI (j := 1) (by omega)) ?_
        refine lv_lor hx hb dX6_count_72 ?_
        refine lv_aload_n hx hb dX6_count_73 rfl (lv_at hl 0 rfl) ?_
        refine va_get (D := g.1) (ci := 5) (v := .ref a1) (C := RX6) (T := TX6) (N := 9) hx hb hw inlX6 hown hkn.1 hP 0 rfl rfl 0 (by decide) (hw _ mw_16) (fun _ h9 => h9) rfl dX6_count_74 ?_
        refine lv_iconst (v := 2) hx hb dX6_count_77 (by decide) ?_
        refine cV_l (As := [.int 2]) (rest := [.long ((f 0) ||| (f 1))]) hx hb hml hown hw hkn hS hl (c_X1_cells l g _ a1 2 b1 f  (hP.sub [1, 2] rfl)) vf_X1_cells mw_218 (va_recv hkn.1 hP (ci := 1) (q0 := 1) rfl rfl) ⟨(Nat.le_of_ble_eq_true rfl), (Nat.le_of_ble_eq_true rfl)⟩ rfl rfl rfl rfl (Nat.le_of_ble_eq_true rfl) dX6_count_78 ⟨(Nat.le_of_ble_eq_true rfl), (Nat.le_of_ble_eq_true rfl)⟩ ?_
        refine lv_eql (show _ = (f 2) from picS_nI (j := 2) (by omega)) ?_
        refine lv_lor hx hb dX6_count_81 ?_
        refine cS_i (As := [.long (((f 0) ||| (f 1)) ||| (f 2))]) (rest := []) hx hb hml hown hw hkn hS hl (c_J13_bitCount l g _ (((f 0) ||| (f 1)) ||| (f 2)) ) sf_J13_bitCount_95d88 mw_234 ⟨(Nat.le_of_ble_eq_true rfl), (Nat.le_of_ble_eq_true rfl)⟩ rfl rfl rfl rfl (Nat.le_of_ble_eq_true rfl) dX6_count_82 ⟨(Nat.le_of_ble_eq_true rfl), (Nat.le_of_ble_eq_true rfl)⟩ ?_
        exact eR_i hx hb hr hlocks (by unfold qCt; rw [if_neg c_1, if_neg c_2, if_pos c_3]) dX6_count_85
      · skip
        by_cases c_4 : x0 = 3
        · skip
          refine lv_tableIn (off := 85) (tgt := 86) hx hb dX6_count_1 (by rw [c_4]; decide) (by rw [c_4]; decide) (by rw [c_4]; rfl) (by decide) ?_
          refine lv_aload_n hx hb dX6_count_86 rfl (lv_at hl 0 rfl) ?_
          refine va_get (D := g.1) (ci := 5) (v := .ref a1) (C := RX6) (T := TX6) (N := 9) hx hb hw inlX6 hown hkn.1 hP 0 rfl rfl 0 (by decide) (hw _ mw_16) (fun _ h9 => h9) rfl dX6_count_87 ?_
          refine lv_iconst (v := 0) hx hb dX6_count_90 (by decide) ?_
          refine cV_l (As := [.int 0]) (rest := []) hx hb hml hown hw hkn hS hl (c_X1_cells l g _ a1 0 b1 f  (hP.sub [1, 2] rfl)) vf_X1_cells mw_218 (va_recv hkn.1 hP (ci := 1) (q0 := 1) rfl rfl) ⟨(Nat.le_of_ble_eq_true rfl), (Nat.le_of_ble_eq_true rfl)⟩ rfl rfl rfl rfl (Nat.le_of_ble_eq_true rfl) dX6_count_91 ⟨(Nat.le_of_ble_eq_true rfl), (Nat.le_of_ble_eq_true rfl)⟩ ?_
          refine lv_eql (show _ = (f 0) from picS_nI (j := 0) (by omega)) ?_
          refine lv_aload_n hx hb dX6_count_94 rfl (lv_at hl 0 rfl) ?_
          refine va_get (D := g.1) (ci := 5) (v := .ref a1) (C := RX6) (T := TX6) (N := 9) hx hb hw inlX6 hown hkn.1 hP 0 rfl rfl 0 (by decide) (hw _ mw_16) (fun _ h9 => h9) rfl dX6_count_95 ?_
          refine lv_iconst (v := 1) hx hb dX6_count_98 (by decide) ?_
          refine cV_l (As := [.int 1]) (rest := [.long (f 0)]) hx hb hml hown hw hkn hS hl (c_X1_cells l g _ a1 1 b1 f  (hP.sub [1, 2] rfl)) vf_X1_cells mw_218 (va_recv hkn.1 hP (ci := 1) (q0 := 1) rfl rfl) ⟨(Nat.le_of_ble_eq_true rfl), (Nat.le_of_ble_eq_true rfl)⟩ rfl rfl rfl rfl (Nat.le_of_ble_eq_true rfl) dX6_count_99 ⟨(Nat.le_of_ble_eq_true rfl), (Nat.le_of_ble_eq_true rfl)⟩ ?_
          refine lv_eql (show _ = (f 1) from picS_nI (j := 1) (by omega)) ?_
          refine lv_land hx hb dX6_count_102 ?_
          refine lv_aload_n hx hb dX6_count_103 rfl (lv_at hl 0 rfl) ?_
          refine va_get (D := g.1) (ci := 5) (v := .ref a1) (C := RX6) (T := TX6) (N := 9) hx hb hw inlX6 hown hkn.1 hP 0 rfl rfl 0 (by decide) (hw _ mw_16) (fun _ h9 => h9) rfl dX6_count_104 ?_
          refine lv_iconst (v := 2) hx hb dX6_count_107 (by decide) ?_
          refine cV_l (As := [.int 2]) (rest := [.long ((f 0) &&& (f 1))]) hx hb hml hown hw hkn hS hl (c_X1_cells l g _ a1 2 b1 f  (hP.sub [1, 2] rfl)) vf_X1_cells mw_218 (va_recv hkn.1 hP (ci := 1) (q0 := 1) rfl rfl) ⟨(Nat.le_of_ble_eq_true rfl), (Nat.le_of_ble_eq_true rfl)⟩ rfl rfl rfl rfl (Nat.le_of_ble_eq_true rfl) dX6_count_108 ⟨(Nat.le_of_ble_eq_true rfl), (Nat.le_of_ble_eq_true rfl)⟩ ?_
          refine lv_eql (show _ = (f 2) from picS_nI (j := 2) (by omega)) ?_
          refine lv_land hx hb dX6_count_111 ?_
          refine cS_i (As := [.long (((f 0) &&& (f 1)) &&& (f 2))]) (rest := []) hx hb hml hown hw hkn hS hl (c_J13_bitCount l g _ (((f 0) &&& (f 1)) &&& (f 2)) ) sf_J13_bitCount_95d88 mw_234 ⟨(Nat.le_of_ble_eq_true rfl), (Nat.le_of_ble_eq_true rfl)⟩ rfl rfl rfl rfl (Nat.le_of_ble_eq_true rfl) dX6_count_112 ⟨(Nat.le_of_ble_eq_true rfl), (Nat.le_of_ble_eq_true rfl)⟩ ?_
          exact eR_i hx hb hr hlocks (by unfold qCt; rw [if_neg c_1, if_neg c_2, if_neg c_3, if_pos c_4]) dX6_count_115
        · skip
          by_cases c_5 : x0 = 4
          · skip
            refine lv_tableIn (off := 115) (tgt := 116) hx hb dX6_count_1 (by rw [c_5]; decide) (by rw [c_5]; decide) (by rw [c_5]; rfl) (by decide) ?_
            refine lv_aload_n hx hb dX6_count_116 rfl (lv_at hl 0 rfl) ?_
            refine va_get (D := g.1) (ci := 5) (v := .ref a5) (C := RX6) (T := TX6) (N := 9) hx hb hw inlX6 hown hkn.1 hP 0 rfl rfl 4 (by decide) (hw _ mw_26) (fun _ h9 => h9) rfl dX6_count_117 ?_
            refine cV_i (As := []) (rest := []) hx hb hml hown hw hkn hS hl (c_X0_size l g _ a5 c1 c2 an fc fb  (hP.sub [4, 5, 6] rfl)) vf_X0_size mw_383 (va_recv hkn.1 hP (ci := 0) (q0 := 4) rfl rfl) ⟨(Nat.le_of_ble_eq_true rfl), (Nat.le_of_ble_eq_true rfl)⟩ rfl rfl rfl rfl (Nat.le_of_ble_eq_true rfl) dX6_count_120 ⟨(Nat.le_of_ble_eq_true rfl), (Nat.le_of_ble_eq_true rfl)⟩ ?_
            exact eR_i hx hb hr hlocks (by unfold qCt; rw [if_neg c_1, if_neg c_2, if_neg c_3, if_neg c_4, if_pos c_5]) dX6_count_123
          · skip
            by_cases c_6 : x0 = 5
            · skip
              refine lv_tableIn (off := 123) (tgt := 124) hx hb dX6_count_1 (by rw [c_6]; decide) (by rw [c_6]; decide) (by rw [c_6]; rfl) (by decide) ?_
              refine lv_aload_n hx hb dX6_count_124 rfl (lv_at hl 0 rfl) ?_
              refine va_get (D := g.1) (ci := 5) (v := .ref a6) (C := RX6) (T := TX6) (N := 9) hx hb hw inlX6 hown hkn.1 hP 0 rfl rfl 5 (by decide) (hw _ mw_30) (fun _ h9 => h9) rfl dX6_count_125 ?_
              refine cV_i (As := []) (rest := []) hx hb hml hown hw hkn hS hl (c_X3_size l g _ a6 s1 s2 zn  (hP.sub [7] rfl)) vf_X3_size mw_618 (va_recv hkn.1 hP (ci := 2) (q0 := 7) rfl rfl) ⟨(Nat.le_of_ble_eq_true rfl), (Nat.le_of_ble_eq_true rfl)⟩ rfl rfl rfl rfl (Nat.le_of_ble_eq_true rfl) dX6_count_128 ⟨(Nat.le_of_ble_eq_true rfl), (Nat.le_of_ble_eq_true rfl)⟩ ?_
              exact eR_i hx hb hr hlocks (by unfold qCt; rw [if_neg c_1, if_neg c_2, if_neg c_3, if_neg c_4, if_neg c_5, if_pos c_6]) dX6_count_131
            · skip
              refine lv_tableOut (tgt := 132) hx hb dX6_count_1 (sw_out (lo := 0) (hi := 5) (fun k h1 h2 => by have hk : k = 0 ∨ k = 1 ∨ k = 2 ∨ k = 3 ∨ k = 4 ∨ k = 5 := (by omega); rcases hk with rfl | rfl | rfl | rfl | rfl | rfl <;> assumption)) (by decide) ?_
              refine lv_bipush (v := (-2)) hx hb dX6_count_132 (by decide) ?_
              exact eR_i hx hb hr hlocks (by unfold qCt; rw [if_neg c_1, if_neg c_2, if_neg c_3, if_neg c_4, if_neg c_5, if_neg c_6]) dX6_count_134
