/-! The class: its static methods, the row of acts, the albums. -/
def isCel (p : Int32) : Bool := decide (¬ p < 0 ∧ ¬ 64 ≤ p)
def isQua (p : Int32) : Bool := decide (¬ p < 0 ∧ ¬ 4 ≤ p)
theorem isRng_of {p : Int32} {N : Nat} {z : Int32} (hz : z = nI N) (hN : N < 2 ^ 31) (h : ¬ p < 0 ∧ ¬ z ≤ p) : ∃ j : Nat, j < N ∧ p = nI j := by
  obtain ⟨j, hj, e⟩ := nI_of h.1
  refine ⟨j, ?_, e⟩
  rw [e, hz] at h
  exact Nat.lt_of_not_le fun q => h.2 ((nI_leI hN hj).mpr q)
theorem isCel_of {p : Int32} (h : isCel p = true) : ∃ j : Nat, j < 64 ∧ p = nI j := isRng_of rfl (by decide) (of_decide_eq_true h)
theorem isQua_of {p : Int32} (h : isQua p = true) : ∃ j : Nat, j < 4 ∧ p = nI j := isRng_of rfl (by decide) (of_decide_eq_true h)
theorem isPic_vp {p : Int32} (h : isPic p = true) : vp_in p 3 := by
  obtain ⟨j, hj, e⟩ := isPic_of h
  rw [e]; exact vp_in_nI hj (by decide)
def sxN (h : Nat) : Nat := if h = 1 then 6 else if h = 2 then 3 else 2
def gnS (a b c0 : Int64) : Int32 := nI (pcn (a &&& c0)) - nI (pcn (a &&& b))
def sb (k i : Nat) : Nat := k / 2 ^ i % 2
theorem sb_eq {k i : Nat} (hk : k < 16) (hi : i < 4) : ((nI k >>> (nI i &&& 31)) &&& 1) = nI (sb k i) := by
  have : ∀ (a : Fin 16) (b : Fin 4), ((nI a.val >>> (nI b.val &&& 31)) &&& 1) = nI (sb a.val b.val) := by decide +kernel
  exact this ⟨k, hk⟩ ⟨i, hi⟩
theorem sb_lt (k i : Nat) : sb k i < 2 := Nat.mod_lt _ (by decide)
def arF (v : Int64) (k i : Nat) : Nat := if sb k i = 1 then pcn (v &&& qcS i) else 0
def arN (v : Int64) (k : Nat) : Nat := fb_sm (arF v k) 4
def chF (k x i a : Nat) : Nat := a * (if sb k i = 1 then 10 - x else x)
def chN (k x : Nat) : Nat := it (chF k x) 4 1
theorem eu_half {x y : Nat} (hy : 0 < y) (h : y < x) : 2 * (x % y) ≤ x := by
  have h1 := Nat.mod_lt x hy
  have h2 := Nat.mod_add_div x y
  have h3 : 1 ≤ x / y := Nat.div_pos (Nat.le_of_lt h) hy
  have h4 : y * 1 ≤ y * (x / y) := Nat.mul_le_mul_left y h3
  omega
theorem eu_step {x y i B : Nat} (hy : 0 < y) (h : y < x) (hp : x * y * 2 ^ i ≤ B) : x % y < y ∧ y * (x % y) * 2 ^ (i + 1) ≤ B := by
  refine ⟨Nat.mod_lt x hy, Nat.le_trans ?_ hp⟩
  have h1 : y * (2 * (x % y)) ≤ y * x := Nat.mul_le_mul_left y (eu_half hy h)
  have h2 : y * (x % y) * 2 ^ (i + 1) = y * (2 * (x % y)) * 2 ^ i := by rw [Nat.pow_succ]; ac_rfl
  rw [h2, Nat.mul_comm x y]
  exact Nat.mul_le_mul_right _ h1
def euI (i x y : Nat) : Prop := (i = 0 ∧ x ≤ 10000 ∧ 0 < y ∧ y ≤ 10000) ∨ (0 < i ∧ y < x ∧ x ≤ 10000 ∧ x * y * 2 ^ i ≤ 2 ^ 29)
theorem euI_lt {i x y : Nat} (h : euI i x y) : x < 2 ^ 31 ∧ y < 2 ^ 31 := by
  rcases h with ⟨-, h1, -, h2⟩ | ⟨-, h1, h2, -⟩ <;> omega
theorem euI_step {i x y : Nat} (h : euI i x y) (hy : 0 < y) : euI (i + 1) y (x % y) := by
  right
  rcases h with ⟨rfl, h1, h2, h3⟩ | ⟨h0, h1, h2, h3⟩
  · have h4 := Nat.mod_lt x hy
    refine ⟨by omega, h4, h3, ?_⟩
    have h5 : y * (x % y) ≤ 10000 * 10000 := Nat.mul_le_mul h3 (by omega)
    have h6 : y * (x % y) * 2 ^ (0 + 1) ≤ 10000 * 10000 * 2 := Nat.mul_le_mul_right _ h5
    exact Nat.le_trans h6 (by decide)
  · obtain ⟨h4, h5⟩ := eu_step hy h1 h3
    exact ⟨by omega, h4, by omega, h5⟩
theorem euI_end {x y : Nat} (h : euI 64 x y) : y = 0 := by
  rcases h with ⟨h, -⟩ | ⟨-, h1, -, h3⟩
  · omega
  · rcases Nat.eq_zero_or_pos y with q | q
    · exact q
    · have h4 : 1 * 1 ≤ x * y := Nat.mul_le_mul (by omega) q
      have h5 : 1 * 1 * 2 ^ 64 ≤ x * y * 2 ^ 64 := Nat.mul_le_mul_right _ h4
      exact absurd (Nat.le_trans h5 h3) (by decide)
def tdN (a b : Nat) (up : Bool) : Nat := (if up = true then a else b) / Nat.gcd a b
def shI (f : Nat → Int32) : Nat → Int32 := fun j => if j + 1 < 14 then f (j + 1) else f j
def shL (f : Nat → Int64) : Nat → Int64 := fun j => if j + 1 < 14 then f (j + 1) else f j
def acF (n : Nat) (f : Nat → Int32) (x : Int32) : Nat → Int32 := if n < 14 then upd f n x else upd (shI f) 13 x
def acL (n : Nat) (f : Nat → Int64) (x : Int64) : Nat → Int64 := if n < 14 then vp_updL f n x else vp_updL (shL f) 13 x
def acN (n : Nat) : Nat := if n < 14 then n + 1 else 14
theorem shI_step {f : Nat → Int32} {i : Nat} (hi : 1 ≤ i) : upd (fun j => if j + 1 < i then f (j + 1) else f j) (i - 1) ((fun j => if j + 1 < i then f (j + 1) else f j) i) = fun j => if j + 1 < i + 1 then f (j + 1) else f j := by
  funext j
  unfold upd
  by_cases h1 : j = i - 1
  · subst h1
    simp only [if_true]
    rw [if_neg (by omega), if_pos (by omega)]
    congr 1; omega
  · rw [if_neg h1]
    dsimp only
    by_cases h2 : j + 1 < i
    · rw [if_pos h2, if_pos (by omega)]
    · rw [if_neg h2, if_neg (by omega)]
theorem shL_step {f : Nat → Int64} {i : Nat} (hi : 1 ≤ i) : vp_updL (fun j => if j + 1 < i then f (j + 1) else f j) (i - 1) ((fun j => if j + 1 < i then f (j + 1) else f j) i) = fun j => if j + 1 < i + 1 then f (j + 1) else f j := by
  funext j
  unfold vp_updL
  by_cases h1 : j = i - 1
  · subst h1
    simp only [if_true]
    rw [if_neg (by omega), if_pos (by omega)]
    congr 1; omega
  · rw [if_neg h1]
    dsimp only
    by_cases h2 : j + 1 < i
    · rw [if_pos h2, if_pos (by omega)]
    · rw [if_neg h2, if_neg (by omega)]
def picS (f : Nat → Int64) (x : Int32) : Int64 := if isPic x = true then f x.toNatClampNeg else 0
theorem picS_nI {f : Nat → Int64} {j : Nat} (h : j < 3) : picS f (nI j) = f j := by unfold picS; rw [if_pos (isPic_nI h), nI_clamp (by omega)]
def setS (f : Nat → Int64) (x : Int32) (v : Int64) : Nat → Int64 := if isPic x = true then vp_updL f x.toNatClampNeg v else f
theorem setS_nI {f : Nat → Int64} {j : Nat} {v : Int64} (h : j < 3) : setS f (nI j) v = vp_updL f j v := by unfold setS; rw [if_pos (isPic_nI h), nI_clamp (by omega)]
def cpS (f1 f : Nat → Int64) : Nat → Int64 := fun j => if j < 3 then f1 j else f j
theorem cp_step {f f1 : Nat → Int64} {i : Nat} : vp_updL (fun j => if j < i then f1 j else f j) i (f1 i) = fun j => if j < i + 1 then f1 j else f j := by
  funext j
  unfold vp_updL
  by_cases h1 : j = i
  · subst h1; rw [if_pos rfl, if_pos (by omega)]
  · rw [if_neg h1]
    dsimp only
    by_cases h2 : j < i
    · rw [if_pos h2, if_pos (by omega)]
    · rw [if_neg h2, if_neg (by omega)]
def areaF (f : Nat → Int64) (j : Nat) : Nat := pcn (f j)
def areaN (f : Nat → Int64) : Nat := fb_sm (areaF f) 3
def binN (f : Nat → Int64) (k : Nat) : Nat := fb_ct (fun j => bt (f j) k) 3
def cbB (a b : Int32) : Bool := isPic a && isPic b && !decide (a = b)
def cbF (f : Nat → Int64) (k a b : Int32) : Nat → Int64 := if cbB a b = true then setS f a (cmbS k (picS f a) (picS f b)) else f
def mvF (f : Nat → Int64) (k x : Int32) : Nat → Int64 := if isPic x = true then setS f x (if k = 4 then tuS (picS f x) else flS (picS f x)) else f
def scB (x q : Int32) : Bool := isPic x && isQua q
def scF (f : Nat → Int64) (k x q : Int32) : Nat → Int64 := if scB x q = true then setS f x (if k = 6 then haS (picS f x) q.toNatClampNeg else grnS (picS f x) q.toNatClampNeg) else f
def doB (f : Nat → Int64) (k a b : Int32) : Bool := if k = 1 then cbB a b else if k = 2 then cbB a b else if k = 3 then cbB a b else if k = 4 then (decide (a = 0) && isPic b) else if k = 5 then (decide (a = 0) && isPic b) else if k = 6 then scB a b else if k = 7 then scB a b else if k = 8 then (isPic a && !decide (nI (paS (picS f a)) < b)) else if k = 9 then (isPic a && isPic b && !decide (waS (picS f a) (picS f b) = 0)) else false
def doF (f : Nat → Int64) (k a b : Int32) : Nat → Int64 := if k = 1 then cbF f k a b else if k = 2 then cbF f k a b else if k = 3 then cbF f k a b else if k = 4 then (if a = 0 then mvF f k b else f) else if k = 5 then (if a = 0 then mvF f k b else f) else if k = 6 then scF f k a b else if k = 7 then scF f k a b else f
set_option maxHeartbeats 4000000 in
set_option maxRecDepth 100000 in
theorem c_X6_isPicture (l : Launch) (g : GG) (H : Heap) (x0 : Int32)  : Met l yX6_isPicture (Cond.code yX6_isPicture cX6_isPicture 1 (some .boolean) :: wsL_law) ({ frames := 0, cells := 0, slots := 0, locals := 0 }) (PR g [.int x0] H) (QRi (b2i (isPic x0)) H) 0 0 NoA := by
  refine Met.R (by decide) (Nat.le_of_ble_eq_true rfl) rfl ?_
  intro p e s m below meth c hx hb hr hml hw hown hlocks hkn hH ls hl
  subst hH
  have hl : lv_has ls 1 [(0, .int x0)] := hl
  have hS : va_S NoA s.heap s.heap [] := va_S.rf
  refine lv_iload_n hx hb dX6_isPicture_0 rfl (lv_at hl 0 rfl) ?_
  refine lv_if_lt (tgt := 13) hx hb dX6_isPicture_1 (by decide) (fun c_1 => ?_) (fun c_1 => ?_)
  · skip
    refine lv_iconst (v := 0) hx hb dX6_isPicture_13 (by decide) ?_
    exact eR_z hx hb hr hlocks (by simp [isPic, b2i, c_1]) dX6_isPicture_14
  · skip
    refine lv_iload_n hx hb dX6_isPicture_4 rfl (lv_at hl 0 rfl) ?_
    refine lv_iconst (v := 3) hx hb dX6_isPicture_5 (by decide) ?_
    refine lv_icmp_ge (tgt := 13) hx hb dX6_isPicture_6 (by decide) (fun c_2 => ?_) (fun c_2 => ?_)
    · skip
      refine lv_iconst (v := 0) hx hb dX6_isPicture_13 (by decide) ?_
      exact eR_z hx hb hr hlocks (by simp [isPic, b2i, c_1, c_2]) dX6_isPicture_14
    · skip
      refine lv_iconst (v := 1) hx hb dX6_isPicture_9 (by decide) ?_
      refine lv_goto (tgt := 14) hx hb dX6_isPicture_10 (by decide) ?_
      exact eR_z hx hb hr hlocks (by simp [isPic, b2i, c_1, c_2]) dX6_isPicture_14
set_option maxHeartbeats 4000000 in
set_option maxRecDepth 100000 in
theorem c_X6_isCell (l : Launch) (g : GG) (H : Heap) (x0 : Int32)  : Met l yX6_isCell (Cond.code yX6_isCell cX6_isCell 1 (some .boolean) :: wsL_law) ({ frames := 0, cells := 0, slots := 0, locals := 0 }) (PR g [.int x0] H) (QRi (b2i (isCel x0)) H) 0 0 NoA := by
  refine Met.R (by decide) (Nat.le_of_ble_eq_true rfl) rfl ?_
  intro p e s m below meth c hx hb hr hml hw hown hlocks hkn hH ls hl
  subst hH
  have hl : lv_has ls 1 [(0, .int x0)] := hl
  have hS : va_S NoA s.heap s.heap [] := va_S.rf
  refine lv_iload_n hx hb dX6_isCell_0 rfl (lv_at hl 0 rfl) ?_
  refine lv_if_lt (tgt := 14) hx hb dX6_isCell_1 (by decide) (fun c_1 => ?_) (fun c_1 => ?_)
  · skip
    refine lv_iconst (v := 0) hx hb dX6_isCell_14 (by decide) ?_
    exact eR_z hx hb hr hlocks (by simp [isCel, b2i, c_1]) dX6_isCell_15
  · skip
    refine lv_iload_n hx hb dX6_isCell_4 rfl (lv_at hl 0 rfl) ?_
    refine lv_bipush (v := 64) hx hb dX6_isCell_5 (by decide) ?_
    refine lv_icmp_ge (tgt := 14) hx hb dX6_isCell_7 (by decide) (fun c_2 => ?_) (fun c_2 => ?_)
    · skip
      refine lv_iconst (v := 0) hx hb dX6_isCell_14 (by decide) ?_
      exact eR_z hx hb hr hlocks (by simp [isCel, b2i, c_1, c_2]) dX6_isCell_15
    · skip
      refine lv_iconst (v := 1) hx hb dX6_isCell_10 (by decide) ?_
      refine lv_goto (tgt := 15) hx hb dX6_isCell_11 (by decide) ?_
      exact eR_z hx hb hr hlocks (by simp [isCel, b2i, c_1, c_2]) dX6_isCell_15
set_option maxHeartbeats 4000000 in
set_option maxRecDepth 100000 in
theorem c_X6_isQuarter (l : Launch) (g : GG) (H : Heap) (x0 : Int32)  : Met l yX6_isQuarter (Cond.code yX6_isQuarter cX6_isQuarter 1 (some .boolean) :: wsL_law) ({ frames := 0, cells := 0, slots := 0, locals := 0 }) (PR g [.int x0] H) (QRi (b2i (isQua x0)) H) 0 0 NoA := by
  refine Met.R (by decide) (Nat.le_of_ble_eq_true rfl) rfl ?_
  intro p e s m below meth c hx hb hr hml hw hown hlocks hkn hH ls hl
  subst hH
  have hl : lv_has ls 1 [(0, .int x0)] := hl
  have hS : va_S NoA s.heap s.heap [] := va_S.rf
  refine lv_iload_n hx hb dX6_isQuarter_0 rfl (lv_at hl 0 rfl) ?_
  refine lv_if_lt (tgt := 13) hx hb dX6_isQuarter_1 (by decide) (fun c_1 => ?_) (fun c_1 => ?_)
  · skip
    refine lv_iconst (v := 0) hx hb dX6_isQuarter_13 (by decide) ?_
    exact eR_z hx hb hr hlocks (by simp [isQua, b2i, c_1]) dX6_isQuarter_14
  · skip
    refine lv_iload_n hx hb dX6_isQuarter_4 rfl (lv_at hl 0 rfl) ?_
    refine lv_iconst (v := 4) hx hb dX6_isQuarter_5 (by decide) ?_
    refine lv_icmp_ge (tgt := 13) hx hb dX6_isQuarter_6 (by decide) (fun c_2 => ?_) (fun c_2 => ?_)
    · skip
      refine lv_iconst (v := 0) hx hb dX6_isQuarter_13 (by decide) ?_
      exact eR_z hx hb hr hlocks (by simp [isQua, b2i, c_1, c_2]) dX6_isQuarter_14
    · skip
      refine lv_iconst (v := 1) hx hb dX6_isQuarter_9 (by decide) ?_
      refine lv_goto (tgt := 14) hx hb dX6_isQuarter_10 (by decide) ?_
      exact eR_z hx hb hr hlocks (by simp [isQua, b2i, c_1, c_2]) dX6_isQuarter_14
set_option maxHeartbeats 4000000 in
set_option maxRecDepth 100000 in
theorem c_X6_sixthsOfCell (l : Launch) (g : GG) (H : Heap) (k : Nat) (hk : k ≤ 64) : Met l yX6_sixthsOfCell (Cond.code yX6_sixthsOfCell cX6_sixthsOfCell 1 (some .int) :: wsL_law) ({ frames := 0, cells := 0, slots := 0, locals := 0 }) (PR g [.int (nI k)] H) (QRi (nI (sxN k)) H) 0 0 NoA := by
  refine Met.R (by decide) (Nat.le_of_ble_eq_true rfl) rfl ?_
  intro p e s m below meth c hx hb hr hml hw hown hlocks hkn hH ls hl
  subst hH
  have hl : lv_has ls 1 [(0, .int (nI k))] := hl
  have hS : va_S NoA s.heap s.heap [] := va_S.rf
  refine lv_iload_n hx hb dX6_sixthsOfCell_0 rfl (lv_at hl 0 rfl) ?_
  refine lv_iconst (v := 1) hx hb dX6_sixthsOfCell_1 (by decide) ?_
  refine ic_ne (a := k) (d := 1) (tgt := 8) hx hb dX6_sixthsOfCell_2 (by decide) rfl rfl (by omega) (by omega) (fun c_1 => ?_) (fun c_1 => ?_)
  · skip
    refine lv_iload_n hx hb dX6_sixthsOfCell_8 rfl (lv_at hl 0 rfl) ?_
    refine lv_iconst (v := 2) hx hb dX6_sixthsOfCell_9 (by decide) ?_
    refine ic_ne (a := k) (d := 2) (tgt := 17) hx hb dX6_sixthsOfCell_10 (by decide) rfl rfl (by omega) (by omega) (fun c_2 => ?_) (fun c_2 => ?_)
    · skip
      refine lv_iconst (v := 2) hx hb dX6_sixthsOfCell_17 (by decide) ?_
      exact eR_i hx hb hr hlocks (by unfold sxN; rw [if_neg c_1, if_neg c_2]; rfl) dX6_sixthsOfCell_18
    · skip
      refine lv_iconst (v := 3) hx hb dX6_sixthsOfCell_13 (by decide) ?_
      refine lv_goto (tgt := 18) hx hb dX6_sixthsOfCell_14 (by decide) ?_
      exact eR_i hx hb hr hlocks (by unfold sxN; rw [if_neg c_1, if_pos c_2]; rfl) dX6_sixthsOfCell_18
  · skip
    refine lv_bipush (v := 6) hx hb dX6_sixthsOfCell_5 (by decide) ?_
    exact eR_i hx hb hr hlocks (by unfold sxN; rw [if_pos c_1]; rfl) dX6_sixthsOfCell_7
set_option maxHeartbeats 4000000 in
set_option maxRecDepth 100000 in
theorem c_X6_gain (l : Launch) (g : GG) (H : Heap) (a : Int64) (b : Int64) (c0 : Int64)  : Met l yX6_gain (Cond.code yX6_gain cX6_gain 6 (some .int) :: wsL_law) ({ frames := 1, cells := 0, slots := 0, locals := 21 }) (PR g [.long a, .long b, .long c0] H) (QRi (gnS a b c0) H) 0 0 NoA := by
  refine Met.R (by decide) (Nat.le_of_ble_eq_true rfl) rfl ?_
  intro p e s m below meth c hx hb hr hml hw hown hlocks hkn hH ls hl
  subst hH
  have hl : lv_has ls 6 [(0, .long a), (2, .long b), (4, .long c0)] := hl
  have hS : va_S NoA s.heap s.heap [] := va_S.rf
  refine lv_lload_n hx hb dX6_gain_0 rfl (lv_at hl 0 rfl) ?_
  refine lv_lload hx hb dX6_gain_1 (lv_at hl 2 rfl) ?_
  refine lv_land hx hb dX6_gain_3 ?_
  refine cS_i (As := [.long (a &&& c0)]) (rest := []) hx hb hml hown hw hkn hS hl (c_J13_bitCount l g _ (a &&& c0) ) sf_J13_bitCount_95d88 mw_234 ⟨(Nat.le_of_ble_eq_true rfl), (Nat.le_of_ble_eq_true rfl)⟩ rfl rfl rfl rfl (Nat.le_of_ble_eq_true rfl) dX6_gain_4 ⟨(Nat.le_of_ble_eq_true rfl), (Nat.le_of_ble_eq_true rfl)⟩ ?_
  refine lv_lload_n hx hb dX6_gain_7 rfl (lv_at hl 0 rfl) ?_
  refine lv_lload_n hx hb dX6_gain_8 rfl (lv_at hl 1 rfl) ?_
  refine lv_land hx hb dX6_gain_9 ?_
  refine cS_i (As := [.long (a &&& b)]) (rest := [.int (nI (pcn (a &&& c0)))]) hx hb hml hown hw hkn hS hl (c_J13_bitCount l g _ (a &&& b) ) sf_J13_bitCount_95d88 mw_234 ⟨(Nat.le_of_ble_eq_true rfl), (Nat.le_of_ble_eq_true rfl)⟩ rfl rfl rfl rfl (Nat.le_of_ble_eq_true rfl) dX6_gain_10 ⟨(Nat.le_of_ble_eq_true rfl), (Nat.le_of_ble_eq_true rfl)⟩ ?_
  refine lv_isub hx hb dX6_gain_13 ?_
  exact eR_i hx hb hr hlocks (rfl) dX6_gain_14
set_option maxHeartbeats 4000000 in
set_option maxRecDepth 100000 in
theorem c_X6_areaLeft (l : Launch) (g : GG) (H : Heap) (v : Int64) (k : Nat) (hk : k < 16) : Met l yX6_areaLeft (Cond.code yX6_areaLeft cX6_areaLeft 5 (some .int) :: wsL_law) ({ frames := 2, cells := 0, slots := 0, locals := 40 }) (PR g [.long v, .int (nI k)] H) (QRi (nI (arN v k)) H) 0 0 NoA := by
  refine Met.R (by decide) (Nat.le_of_ble_eq_true rfl) rfl ?_
  intro p e s m below meth c hx hb hr hml hw hown hlocks hkn hH ls hl
  subst hH
  have hl : lv_has ls 5 [(0, .long v), (2, .int (nI k))] := hl
  have hS : va_S NoA s.heap s.heap [] := va_S.rf
  refine lv_iconst (v := 0) hx hb dX6_areaLeft_0 (by decide) ?_
  refine lv_istore_n (lv' := [(3, .int 0), (0, .long v), (2, .int (nI k))]) hx hb dX6_areaLeft_1 rfl hl (by decide) rfl (fun ls hl => ?_)
  refine lv_iconst (v := 0) hx hb dX6_areaLeft_2 (by decide) ?_
  refine lv_istore (lv' := [(4, .int 0), (3, .int 0), (0, .long v), (2, .int (nI k))]) hx hb dX6_areaLeft_3 hl (by decide) rfl (fun ls hl => ?_)
  have lp_5 : ∀ (n_5 : Nat) (i : Nat) (a : Nat), (i ≤ 4) → (a = fb_sm (arF v k) i) → 4 < i + n_5 → ∀ (ls : Array Slot), lv_has ls 5 [(4, .int (nI i)), (3, .int (nI a)), (0, .long v), (2, .int (nI k))] → W p l e ({ frames := 2, cells := 0, slots := 0, locals := 40 } : Room) s m ([.long v, .int (nI k)] : List Value).toArray below meth c s.heap [] 0 0 (MQ below (QRi (nI (arN v k)) s.heap) ([.long v, .int (nI k)] : List Value).toArray s 0 0 NoA) (F0 m 5 ls []) := by
    intro n_5
    induction n_5 with
    | zero => intro i a h_i h_a hfu_5; exact absurd hfu_5 (by omega)
    | succ n_5 ih_5 =>
      intro i a h_i h_a hfu_5 ls hl
      refine lv_iload hx hb dX6_areaLeft_5 (lv_at hl 0 rfl) ?_
      refine lv_iconst (v := 4) hx hb dX6_areaLeft_7 (by decide) ?_
      refine ic_ge (a := i) (d := 4) (tgt := 40) hx hb dX6_areaLeft_8 (by decide) rfl rfl (by omega) (by omega) (fun c_1 => ?_) (fun c_1 => ?_)
      · skip
        refine lv_iload_n hx hb dX6_areaLeft_40 rfl (lv_at hl 1 rfl) ?_
        exact eR_i hx hb hr hlocks (by rw [h_a, show i = 4 by omega]; rfl) dX6_areaLeft_41
      · skip
        refine lv_iload_n hx hb dX6_areaLeft_11 rfl (lv_at hl 3 rfl) ?_
        refine lv_iload hx hb dX6_areaLeft_12 (lv_at hl 0 rfl) ?_
        refine lv_ishr hx hb dX6_areaLeft_14 ?_
        refine lv_iconst (v := 1) hx hb dX6_areaLeft_15 (by decide) ?_
        refine lv_iand hx hb dX6_areaLeft_16 ?_
        refine lv_eqi (show _ = (nI (sb k i)) from sb_eq hk (by omega)) ?_
        refine lv_iconst (v := 1) hx hb dX6_areaLeft_17 (by decide) ?_
        have hsb := sb_lt k i
        refine ic_ne (a := sb k i) (d := 1) (tgt := 34) hx hb dX6_areaLeft_18 (by decide) rfl rfl (by omega) (by omega) (fun c_2 => ?_) (fun c_2 => ?_)
        · skip
          refine lv_iinc (v := (nI (i + 1))) (lv' := [(4, .int (nI (i + 1))), (3, .int (nI a)), (0, .long v), (2, .int (nI k))]) hx hb dX6_areaLeft_34 hl (k := 0) rfl (nI_1 i) (by decide) rfl (fun ls hl => ?_)
          refine lv_goto (tgt := 5) hx hb dX6_areaLeft_37 (by decide) ?_
          exact ih_5 (i + 1) a (by omega) (by rw [h_a, fb_sm_succ]; simp [arF, c_1, c_2]) (by omega) ls (lv_sub hl [0, 1, 2, 3] rfl)
        · skip
          refine lv_iload_n hx hb dX6_areaLeft_21 rfl (lv_at hl 1 rfl) ?_
          refine lv_lload_n hx hb dX6_areaLeft_22 rfl (lv_at hl 2 rfl) ?_
          refine lv_iload hx hb dX6_areaLeft_23 (lv_at hl 0 rfl) ?_
          refine cS_l (As := [.int (nI i)]) (rest := [.long v, .int (nI a)]) hx hb hml hown hw hkn hS hl (c_X2_quarterCells l g _ i (by omega)) sf_X2_quarterCells mw_739 ⟨(Nat.le_of_ble_eq_true rfl), (Nat.le_of_ble_eq_true rfl)⟩ rfl rfl rfl rfl (Nat.le_of_ble_eq_true rfl) dX6_areaLeft_25 ⟨(Nat.le_of_ble_eq_true rfl), (Nat.le_of_ble_eq_true rfl)⟩ ?_
          refine lv_land hx hb dX6_areaLeft_28 ?_
          refine cS_i (As := [.long (v &&& (qcS i))]) (rest := [.int (nI a)]) hx hb hml hown hw hkn hS hl (c_J13_bitCount l g _ (v &&& (qcS i)) ) sf_J13_bitCount_95d88 mw_234 ⟨(Nat.le_of_ble_eq_true rfl), (Nat.le_of_ble_eq_true rfl)⟩ rfl rfl rfl rfl (Nat.le_of_ble_eq_true rfl) dX6_areaLeft_29 ⟨(Nat.le_of_ble_eq_true rfl), (Nat.le_of_ble_eq_true rfl)⟩ ?_
          refine lv_iadd hx hb dX6_areaLeft_32 ?_
          refine lv_eqi (nI_add a (pcn (v &&& (qcS i)))) ?_
          refine lv_istore_n (lv' := [(3, .int (nI (a + (pcn (v &&& (qcS i)))))), (4, .int (nI i)), (0, .long v), (2, .int (nI k))]) hx hb dX6_areaLeft_33 rfl hl (by decide) rfl (fun ls hl => ?_)
          refine lv_iinc (v := (nI (i + 1))) (lv' := [(4, .int (nI (i + 1))), (3, .int (nI (a + (pcn (v &&& (qcS i)))))), (0, .long v), (2, .int (nI k))]) hx hb dX6_areaLeft_34 hl (k := 1) rfl (nI_1 i) (by decide) rfl (fun ls hl => ?_)
          refine lv_goto (tgt := 5) hx hb dX6_areaLeft_37 (by decide) ?_
          exact ih_5 (i + 1) (a + (pcn (v &&& (qcS i)))) (by omega) (by rw [h_a, fb_sm_succ]; simp [arF, c_1, c_2]) (by omega) ls (lv_sub hl [0, 1, 2, 3] rfl)
  exact lp_5 5 0 0 (by omega) (rfl) (by omega) ls (lv_sub hl [0, 1, 2, 3] rfl)
set_option maxHeartbeats 4000000 in
set_option maxRecDepth 100000 in
theorem c_X6_chanceOf (l : Launch) (g : GG) (H : Heap) (k : Nat) (x : Nat) (hk : k < 16) (hx10 : x ≤ 10) : Met l yX6_chanceOf (Cond.code yX6_chanceOf cX6_chanceOf 4 (some .int) :: wsL_law) ({ frames := 0, cells := 0, slots := 0, locals := 0 }) (PR g [.int (nI k), .int (nI x)] H) (QRi (nI (chN k x)) H) 0 0 NoA := by
  refine Met.R (by decide) (Nat.le_of_ble_eq_true rfl) rfl ?_
  intro p e s m below meth c hx hb hr hml hw hown hlocks hkn hH ls hl
  subst hH
  have hl : lv_has ls 4 [(0, .int (nI k)), (1, .int (nI x))] := hl
  have hS : va_S NoA s.heap s.heap [] := va_S.rf
  refine lv_iconst (v := 1) hx hb dX6_chanceOf_0 (by decide) ?_
  refine lv_istore_n (lv' := [(2, .int 1), (0, .int (nI k)), (1, .int (nI x))]) hx hb dX6_chanceOf_1 rfl hl (by decide) rfl (fun ls hl => ?_)
  refine lv_iconst (v := 0) hx hb dX6_chanceOf_2 (by decide) ?_
  refine lv_istore_n (lv' := [(3, .int 0), (2, .int 1), (0, .int (nI k)), (1, .int (nI x))]) hx hb dX6_chanceOf_3 rfl hl (by decide) rfl (fun ls hl => ?_)
  have lp_4 : ∀ (n_4 : Nat) (i : Nat) (a : Nat), (i ≤ 4) → (a = it (chF k x) i 1) → 4 < i + n_4 → ∀ (ls : Array Slot), lv_has ls 4 [(3, .int (nI i)), (2, .int (nI a)), (0, .int (nI k)), (1, .int (nI x))] → W p l e ({ frames := 0, cells := 0, slots := 0, locals := 0 } : Room) s m ([.int (nI k), .int (nI x)] : List Value).toArray below meth c s.heap [] 0 0 (MQ below (QRi (nI (chN k x)) s.heap) ([.int (nI k), .int (nI x)] : List Value).toArray s 0 0 NoA) (F0 m 4 ls []) := by
    intro n_4
    induction n_4 with
    | zero => intro i a h_i h_a hfu_4; exact absurd hfu_4 (by omega)
    | succ n_4 ih_4 =>
      intro i a h_i h_a hfu_4 ls hl
      refine lv_iload_n hx hb dX6_chanceOf_4 rfl (lv_at hl 0 rfl) ?_
      refine lv_iconst (v := 4) hx hb dX6_chanceOf_5 (by decide) ?_
      refine ic_ge (a := i) (d := 4) (tgt := 35) hx hb dX6_chanceOf_6 (by decide) rfl rfl (by omega) (by omega) (fun c_1 => ?_) (fun c_1 => ?_)
      · skip
        refine lv_iload_n hx hb dX6_chanceOf_35 rfl (lv_at hl 1 rfl) ?_
        exact eR_i hx hb hr hlocks (by rw [h_a, show i = 4 by omega]; rfl) dX6_chanceOf_36
      · skip
        refine lv_iload_n hx hb dX6_chanceOf_9 rfl (lv_at hl 1 rfl) ?_
        refine lv_iload_n hx hb dX6_chanceOf_10 rfl (lv_at hl 2 rfl) ?_
        refine lv_iload_n hx hb dX6_chanceOf_11 rfl (lv_at hl 0 rfl) ?_
        refine lv_ishr hx hb dX6_chanceOf_12 ?_
        refine lv_iconst (v := 1) hx hb dX6_chanceOf_13 (by decide) ?_
        refine lv_iand hx hb dX6_chanceOf_14 ?_
        refine lv_eqi (show _ = (nI (sb k i)) from sb_eq hk (by omega)) ?_
        refine lv_iconst (v := 1) hx hb dX6_chanceOf_15 (by decide) ?_
        have hsb := sb_lt k i
        have mg_27 : W p l e ({ frames := 0, cells := 0, slots := 0, locals := 0 } : Room) s m ([.int (nI k), .int (nI x)] : List Value).toArray below meth c s.heap [] 0 0 (MQ below (QRi (nI (chN k x)) s.heap) ([.int (nI k), .int (nI x)] : List Value).toArray s 0 0 NoA) (F0 m 27 ls (.int (if sb k i = 1 then (nI (10 - x)) else (nI x)) :: [.int (nI a)])) := by
          refine lv_eqi (show _ = (nI (if sb k i = 1 then 10 - x else x)) from ifI rfl rfl) ?_
          refine lv_imul hx hb dX6_chanceOf_27 ?_
          refine lv_eqi (pk_mul a (if sb k i = 1 then 10 - x else x)) ?_
          refine lv_istore_n (lv' := [(2, .int (nI (a * ((if sb k i = 1 then 10 - x else x))))), (3, .int (nI i)), (0, .int (nI k)), (1, .int (nI x))]) hx hb dX6_chanceOf_28 rfl hl (by decide) rfl (fun ls hl => ?_)
          refine lv_iinc (v := (nI (i + 1))) (lv' := [(3, .int (nI (i + 1))), (2, .int (nI (a * ((if sb k i = 1 then 10 - x else x))))), (0, .int (nI k)), (1, .int (nI x))]) hx hb dX6_chanceOf_29 hl (k := 1) rfl (nI_1 i) (by decide) rfl (fun ls hl => ?_)
          refine lv_goto (tgt := 4) hx hb dX6_chanceOf_32 (by decide) ?_
          exact ih_4 (i + 1) (a * ((if sb k i = 1 then 10 - x else x))) (by omega) (by rw [h_a, it_s]; rfl) (by omega) ls (lv_sub hl [0, 1, 2, 3] rfl)
        refine ic_ne (a := sb k i) (d := 1) (tgt := 26) hx hb dX6_chanceOf_16 (by decide) rfl rfl (by omega) (by omega) (fun c_2 => ?_) (fun c_2 => ?_)
        · skip
          refine lv_iload_n hx hb dX6_chanceOf_26 rfl (lv_at hl 3 rfl) ?_
          exact lv_eqi (by rw [if_neg c_2]) mg_27
        · skip
          refine lv_bipush (v := 10) hx hb dX6_chanceOf_19 (by decide) ?_
          refine lv_iload_n hx hb dX6_chanceOf_21 rfl (lv_at hl 3 rfl) ?_
          refine lv_isub hx hb dX6_chanceOf_22 ?_
          refine lv_eqi (pk_sub (a := 10) (b := x) (by omega)) ?_
          refine lv_goto (tgt := 27) hx hb dX6_chanceOf_23 (by decide) ?_
          exact lv_eqi (by rw [if_pos c_2]) mg_27
  exact lp_4 5 0 1 (by omega) (rfl) (by omega) ls (lv_sub hl [0, 1, 2, 3] rfl)
set_option maxHeartbeats 4000000 in
set_option maxRecDepth 100000 in
theorem c_X6_commonDivisor (l : Launch) (g : GG) (H : Heap) (a : Nat) (b : Nat) (ha : a ≤ 10000) (hb1 : 0 < b) (hb2 : b ≤ 10000) : Met l yX6_commonDivisor (Cond.code yX6_commonDivisor cX6_commonDivisor 6 (some .int) :: wsL_law) ({ frames := 0, cells := 0, slots := 0, locals := 0 }) (PR g [.int (nI a), .int (nI b)] H) (QRi (nI (Nat.gcd a b)) H) 0 0 NoA := by
  refine Met.R (by decide) (Nat.le_of_ble_eq_true rfl) rfl ?_
  intro p e s m below meth c hx hb hr hml hw hown hlocks hkn hH ls hl
  subst hH
  have hl : lv_has ls 6 [(0, .int (nI a)), (1, .int (nI b))] := hl
  have hS : va_S NoA s.heap s.heap [] := va_S.rf
  refine lv_iload_n hx hb dX6_commonDivisor_0 rfl (lv_at hl 0 rfl) ?_
  refine lv_istore_n (lv' := [(2, .int (nI a)), (0, .int (nI a)), (1, .int (nI b))]) hx hb dX6_commonDivisor_1 rfl hl (by decide) rfl (fun ls hl => ?_)
  refine lv_iload_n hx hb dX6_commonDivisor_2 rfl (lv_at hl 2 rfl) ?_
  refine lv_istore_n (lv' := [(3, .int (nI b)), (2, .int (nI a)), (0, .int (nI a)), (1, .int (nI b))]) hx hb dX6_commonDivisor_3 rfl hl (by decide) rfl (fun ls hl => ?_)
  refine lv_iconst (v := 0) hx hb dX6_commonDivisor_4 (by decide) ?_
  refine lv_istore (lv' := [(4, .int 0), (3, .int (nI b)), (2, .int (nI a)), (0, .int (nI a)), (1, .int (nI b))]) hx hb dX6_commonDivisor_5 hl (by decide) rfl (fun ls hl => ?_)
  have lp_7 : ∀ (n_7 : Nat) (i : Nat) (x : Nat) (y : Nat), (i ≤ 64) → (euI i x y) → (Nat.gcd x y = Nat.gcd a b) → 64 < i + n_7 → ∀ (ls : Array Slot), lv_has ls 6 [(4, .int (nI i)), (3, .int (nI y)), (2, .int (nI x)), (0, .int (nI a)), (1, .int (nI b))] → W p l e ({ frames := 0, cells := 0, slots := 0, locals := 0 } : Room) s m ([.int (nI a), .int (nI b)] : List Value).toArray below meth c s.heap [] 0 0 (MQ below (QRi (nI (Nat.gcd a b)) s.heap) ([.int (nI a), .int (nI b)] : List Value).toArray s 0 0 NoA) (F0 m 7 ls []) := by
    intro n_7
    induction n_7 with
    | zero => intro i x y h_i h_u h_g hfu_7; exact absurd hfu_7 (by omega)
    | succ n_7 ih_7 =>
      intro i x y h_i h_u h_g hfu_7 ls hl
      have hlt := euI_lt h_u
      refine lv_iload hx hb dX6_commonDivisor_7 (lv_at hl 0 rfl) ?_
      refine lv_bipush (v := 64) hx hb dX6_commonDivisor_9 (by decide) ?_
      refine ic_ge (a := i) (d := 64) (tgt := 34) hx hb dX6_commonDivisor_11 (by decide) rfl rfl (by omega) (by omega) (fun c_1 => ?_) (fun c_1 => ?_)
      · skip
        refine lv_iload_n hx hb dX6_commonDivisor_34 rfl (lv_at hl 2 rfl) ?_
        exact eR_i hx hb hr hlocks (by have h9 : y = 0 := euI_end (by rw [show i = 64 by omega] at h_u; exact h_u); rw [← h_g, h9, Nat.gcd_zero_right]) dX6_commonDivisor_35
      · skip
        refine lv_iload_n hx hb dX6_commonDivisor_14 rfl (lv_at hl 1 rfl) ?_
        refine iz_eq (a := y) (tgt := 34) hx hb dX6_commonDivisor_15 (by decide) rfl (by omega) (fun c_2 => ?_) (fun c_2 => ?_)
        · skip
          refine lv_iload_n hx hb dX6_commonDivisor_34 rfl (lv_at hl 2 rfl) ?_
          exact eR_i hx hb hr hlocks (by have h9 : y = 0 := c_2; rw [← h_g, h9, Nat.gcd_zero_right]) dX6_commonDivisor_35
        · skip
          refine lv_iload_n hx hb dX6_commonDivisor_18 rfl (lv_at hl 2 rfl) ?_
          refine lv_iload_n hx hb dX6_commonDivisor_19 rfl (lv_at hl 1 rfl) ?_
          refine lv_irem hx hb dX6_commonDivisor_20 (nI_ne0 (by omega) (by omega)) ?_
          refine lv_eqi (pk_rem (a := x) (d := y) (by omega) (by omega) (by omega)) ?_
          refine lv_istore (lv' := [(5, .int (nI (x % y))), (4, .int (nI i)), (3, .int (nI y)), (2, .int (nI x)), (0, .int (nI a)), (1, .int (nI b))]) hx hb dX6_commonDivisor_21 hl (by decide) rfl (fun ls hl => ?_)
          refine lv_iload_n hx hb dX6_commonDivisor_23 rfl (lv_at hl 2 rfl) ?_
          refine lv_istore_n (lv' := [(2, .int (nI y)), (5, .int (nI (x % y))), (4, .int (nI i)), (3, .int (nI y)), (0, .int (nI a)), (1, .int (nI b))]) hx hb dX6_commonDivisor_24 rfl hl (by decide) rfl (fun ls hl => ?_)
          refine lv_iload hx hb dX6_commonDivisor_25 (lv_at hl 1 rfl) ?_
          refine lv_istore_n (lv' := [(3, .int (nI (x % y))), (2, .int (nI y)), (5, .int (nI (x % y))), (4, .int (nI i)), (0, .int (nI a)), (1, .int (nI b))]) hx hb dX6_commonDivisor_27 rfl hl (by decide) rfl (fun ls hl => ?_)
          refine lv_iinc (v := (nI (i + 1))) (lv' := [(4, .int (nI (i + 1))), (3, .int (nI (x % y))), (2, .int (nI y)), (5, .int (nI (x % y))), (0, .int (nI a)), (1, .int (nI b))]) hx hb dX6_commonDivisor_28 hl (k := 3) rfl (nI_1 i) (by decide) rfl (fun ls hl => ?_)
          refine lv_goto (tgt := 7) hx hb dX6_commonDivisor_31 (by decide) ?_
          exact ih_7 (i + 1) y (x % y) (by omega) (euI_step h_u (by omega)) (by rw [← h_g, Nat.gcd_comm y (x % y), ← Nat.gcd_rec, Nat.gcd_comm]) (by omega) ls (lv_sub hl [0, 1, 2, 4, 5] rfl)
  exact lp_7 65 0 a b (by omega) (Or.inl ⟨rfl, ha, hb1, hb2⟩) (rfl) (by omega) ls (lv_sub hl [0, 1, 2, 3, 4] rfl)
set_option maxHeartbeats 4000000 in
set_option maxRecDepth 100000 in
theorem c_X6_told (l : Launch) (g : GG) (H : Heap) (a : Nat) (b : Nat) (up : Bool) (ha : a ≤ 10000) (hb1 : 0 < b) (hb2 : b ≤ 10000) : Met l yX6_told (Cond.code yX6_told cX6_told 5 (some .int) :: wsL_law) ({ frames := 1, cells := 0, slots := 0, locals := 25 }) (PR g [.int (nI a), .int (nI b), .int (b2i up)] H) (QRi (nI (tdN a b up)) H) 0 0 NoA := by
  refine Met.R (by decide) (Nat.le_of_ble_eq_true rfl) rfl ?_
  intro p e s m below meth c hx hb hr hml hw hown hlocks hkn hH ls hl
  subst hH
  have hl : lv_has ls 5 [(0, .int (nI a)), (1, .int (nI b)), (2, .int (b2i up))] := hl
  have hS : va_S NoA s.heap s.heap [] := va_S.rf
  have hg1 : 0 < Nat.gcd a b := Nat.gcd_pos_of_pos_right a hb1
  have hg2 : Nat.gcd a b ≤ b := Nat.le_of_dvd hb1 (Nat.gcd_dvd_right a b)
  have hnu : (if up = true then a else b) ≤ 10000 := by split <;> omega
  refine lv_iload_n hx hb dX6_told_0 rfl (lv_at hl 0 rfl) ?_
  refine lv_iload_n hx hb dX6_told_1 rfl (lv_at hl 1 rfl) ?_
  refine cS_i (As := [.int (nI a), .int (nI b)]) (rest := []) hx hb hml hown hw hkn hS hl (c_X6_commonDivisor l g _ a b (by omega) (by omega) (by omega)) sf_X6_commonDivisor mw_694 ⟨(Nat.le_of_ble_eq_true rfl), (Nat.le_of_ble_eq_true rfl)⟩ rfl rfl rfl rfl (Nat.le_of_ble_eq_true rfl) dX6_told_2 ⟨(Nat.le_of_ble_eq_true rfl), (Nat.le_of_ble_eq_true rfl)⟩ ?_
  refine lv_istore_n (lv' := [(3, .int (nI (Nat.gcd a b))), (0, .int (nI a)), (1, .int (nI b)), (2, .int (b2i up))]) hx hb dX6_told_5 rfl hl (by decide) rfl (fun ls hl => ?_)
  refine lv_iload_n hx hb dX6_told_6 rfl (lv_at hl 3 rfl) ?_
  have mg_15 : W p l e ({ frames := 1, cells := 0, slots := 0, locals := 25 } : Room) s m ([.int (nI a), .int (nI b), .int (b2i up)] : List Value).toArray below meth c s.heap [] 0 0 (MQ below (QRi (nI (tdN a b up)) s.heap) ([.int (nI a), .int (nI b), .int (b2i up)] : List Value).toArray s 0 0 NoA) (F0 m 15 ls (.int (if up = true then (nI a) else (nI b)) :: [])) := by
    refine lv_eqi (show _ = (nI (if up = true then a else b)) from ifI rfl rfl) ?_
    refine lv_istore (lv' := [(4, .int (nI (if up = true then a else b))), (3, .int (nI (Nat.gcd a b))), (0, .int (nI a)), (1, .int (nI b)), (2, .int (b2i up))]) hx hb dX6_told_15 hl (by decide) rfl (fun ls hl => ?_)
    refine lv_iload_n hx hb dX6_told_17 rfl (lv_at hl 1 rfl) ?_
    refine lv_iconst (v := 1) hx hb dX6_told_18 (by decide) ?_
    refine ic_le (a := Nat.gcd a b) (d := 1) (tgt := 29) hx hb dX6_told_19 (by decide) rfl rfl (by omega) (by omega) (fun c_1 => ?_) (fun c_1 => ?_)
    · skip
      refine lv_iload hx hb dX6_told_29 (lv_at hl 0 rfl) ?_
      exact eR_i hx hb hr hlocks (by unfold tdN; rw [show Nat.gcd a b = 1 by omega, Nat.div_one]) dX6_told_31
    · skip
      refine lv_iload hx hb dX6_told_22 (lv_at hl 0 rfl) ?_
      refine lv_iload_n hx hb dX6_told_24 rfl (lv_at hl 1 rfl) ?_
      refine lv_idiv hx hb dX6_told_25 (nI_ne0 (by omega) (by omega)) ?_
      refine lv_eqi (pk_div (a := (if up = true then a else b)) (d := Nat.gcd a b) (by omega) (by omega) (by omega)) ?_
      refine lv_goto (tgt := 31) hx hb dX6_told_26 (by decide) ?_
      exact eR_i hx hb hr hlocks (rfl) dX6_told_31
  refine lv_ifeqB (b := up) (tgt := 14) hx hb dX6_told_7 (by decide) (fun c_2 => ?_) (fun c_2 => ?_)
  · skip
    refine lv_iload_n hx hb dX6_told_14 rfl (lv_at hl 2 rfl) ?_
    exact lv_eqi (by rw [if_neg (nt_of c_2)]) mg_15
  · skip
    refine lv_iload_n hx hb dX6_told_10 rfl (lv_at hl 1 rfl) ?_
    refine lv_goto (tgt := 15) hx hb dX6_told_11 (by decide) ?_
    exact lv_eqi (by rw [if_pos c_2]) mg_15
set_option maxHeartbeats 4000000 in
set_option maxRecDepth 100000 in
theorem c_X0_init (l : Launch) (g : GG) (sz : Nat) (h0 : Nat) (sx : Int32)  : Met l yX0_init (Cond.code yX0_init cX0_init 1 none :: wsL_law) ({ frames := 1, cells := 2, slots := 28, locals := 20 }) (PM g [.ref h0] [(h0, .inr (0, [.null, .null, .int sx]))] sz) (QAv g (fun (u : Nat × Nat) => True) (fun (u : Nat × Nat) => [(h0, .inr (0, [.ref u.1, .ref u.2, .int 0])), (u.1, .inl (gI g, 14, .inl (fun _ => 0))), (u.2, .inl (gJ g, 14, .inr (.inl (fun _ => 0))))]) (va_A [(h0, .inr (0, [.null, .null, .int sx]))] sz)) 2 28 (va_A [(h0, .inr (0, [.null, .null, .int sx]))] sz) := by
  refine Met.M (Qc := fun A => QAv g (fun (u : Nat × Nat) => True) (fun (u : Nat × Nat) => [(h0, .inr (0, [.ref u.1, .ref u.2, .int 0])), (u.1, .inl (gI g, 14, .inl (fun _ => 0))), (u.2, .inl (gJ g, 14, .inr (.inl (fun _ => 0))))]) A) (by decide) (Nat.le_of_ble_eq_true rfl) rfl ?_
  intro p e s m below meth c hx hb hr hml hw hown hlocks hin A hA hkn hP hD ls hl
  have hl : lv_has ls 1 [(0, .ref h0)] := hl
  have hS : va_S A s.heap s.heap [] := va_S.rf
  obtain ⟨H, hHe⟩ : ∃ H, H = s.heap := ⟨_, rfl⟩
  obtain ⟨locs, hLe⟩ : ∃ locs : List Loc, locs = [] := ⟨_, rfl⟩
  have hP : va_P g.1 vwCl [(h0, .inr (0, [.null, .null, .int sx]))] H := by rw [hHe]; exact hP
  have hS : va_S A s.heap H locs := by rw [hHe, hLe]; exact hS
  have hgo : W p l e ({ frames := 1, cells := 2, slots := 28, locals := 20 } : Room) s m ([.ref h0] : List Value).toArray below meth c H locs 0 0 (MQ below (QAv g (fun (u : Nat × Nat) => True) (fun (u : Nat × Nat) => [(h0, .inr (0, [.ref u.1, .ref u.2, .int 0])), (u.1, .inl (gI g, 14, .inl (fun _ => 0))), (u.2, .inl (gJ g, 14, .inr (.inl (fun _ => 0))))]) A) ([.ref h0] : List Value).toArray s 2 28 A) (F0 m 0 ls []) := ?_
  · rw [hHe, hLe] at hgo; exact hgo
  clear hHe hLe
  refine lv_aload_n hx hb dX0_init_0 rfl (lv_at hl 0 rfl) ?_
  refine W.objInit hx hb hown (hw _ mw_58) (hw _ mw_11) (hw _ mw_12) rfl (by rw [hml]; exact hl.1) rfl dX0_init_1 (Nat.le_of_ble_eq_true rfl) (Nat.le_of_ble_eq_true rfl) ?_
  refine W.eq (g2 := F0 m 4 ls []) rfl ?_
  refine lv_aload_n hx hb dX0_init_4 rfl (lv_at hl 0 rfl) ?_
  refine lv_bipush (v := 14) hx hb dX0_init_5 (by decide) ?_
  refine va_newG (t0 := 0) (atype := .int) (a0 := (14, .inl (fun _ => 0))) hx hb (hw _ mw_35) (ty := .int) rfl hkn.1 rfl hP hD hS hA (fun _ => rfl) (by decide) (by decide) (by decide) (Nat.le_of_ble_eq_true rfl) (Nat.le_of_ble_eq_true rfl) dX0_init_7 (fun q7 H hP hD hS => ?_)
  have hP : va_P g.1 vwCl [(h0, .inr (0, [.null, .null, .int sx])), (q7, .inl (gI g, 14, .inl (fun _ => 0)))] H := hP
  have hD : va_D A [(h0, .inr (0, [.null, .null, .int sx])), (q7, .inl (gI g, 14, .inl (fun _ => 0)))] := hD
  refine W.widen (k := 1) (n := 14) (by omega) (by omega) ?_
  refine va_putF (D := g.1) (ci := 0) (v := .ref q7) (ty := (.array .int)) (C := RX0) (T := TX0) (N := 3) hx hb hw inlX0 tyX0 tyX0_ok nmX0 hown hkn.1 hP hD hS 0 rfl rfl 0 (by decide) (hw _ mw_59) (fun _ h9 => h9) rfl hin rfl (by decide +kernel) rfl rfl (Nat.le_of_ble_eq_true rfl) dX0_init_9 (fun H locs hP hD hS => ?_)
  have hP : va_P g.1 vwCl [(h0, .inr (0, [.ref q7, .null, .int sx])), (q7, .inl (gI g, 14, .inl (fun _ => 0)))] H := hP
  have hD : va_D A [(h0, .inr (0, [.ref q7, .null, .int sx])), (q7, .inl (gI g, 14, .inl (fun _ => 0)))] := hD
  refine lv_aload_n hx hb dX0_init_12 rfl (lv_at hl 0 rfl) ?_
  refine lv_bipush (v := 14) hx hb dX0_init_13 (by decide) ?_
  refine va_newG (t0 := 1) (atype := .long) (a0 := (14, .inr (.inl (fun _ => 0)))) hx hb (hw _ mw_41) (ty := .long) rfl hkn.1 rfl hP hD hS hA (fun _ => rfl) (by decide) (by decide) (by decide) (Nat.le_of_ble_eq_true rfl) (Nat.le_of_ble_eq_true rfl) dX0_init_15 (fun q15 H hP hD hS => ?_)
  have hP : va_P g.1 vwCl [(h0, .inr (0, [.ref q7, .null, .int sx])), (q7, .inl (gI g, 14, .inl (fun _ => 0))), (q15, .inl (gJ g, 14, .inr (.inl (fun _ => 0))))] H := hP
  have hD : va_D A [(h0, .inr (0, [.ref q7, .null, .int sx])), (q7, .inl (gI g, 14, .inl (fun _ => 0))), (q15, .inl (gJ g, 14, .inr (.inl (fun _ => 0))))] := hD
  refine W.widen (k := 2) (n := 28) (by omega) (by omega) ?_
  refine va_putF (D := g.1) (ci := 0) (v := .ref q15) (ty := (.array .long)) (C := RX0) (T := TX0) (N := 3) hx hb hw inlX0 tyX0 tyX0_ok nmX0 hown hkn.1 hP hD hS 0 rfl rfl 1 (by decide) (hw _ mw_60) (fun _ h9 => h9) rfl hin rfl (by decide +kernel) rfl rfl (Nat.le_of_ble_eq_true rfl) dX0_init_17 (fun H locs hP hD hS => ?_)
  have hP : va_P g.1 vwCl [(h0, .inr (0, [.ref q7, .ref q15, .int sx])), (q7, .inl (gI g, 14, .inl (fun _ => 0))), (q15, .inl (gJ g, 14, .inr (.inl (fun _ => 0))))] H := hP
  have hD : va_D A [(h0, .inr (0, [.ref q7, .ref q15, .int sx])), (q7, .inl (gI g, 14, .inl (fun _ => 0))), (q15, .inl (gJ g, 14, .inr (.inl (fun _ => 0))))] := hD
  refine lv_aload_n hx hb dX0_init_20 rfl (lv_at hl 0 rfl) ?_
  refine lv_iconst (v := 0) hx hb dX0_init_21 (by decide) ?_
  refine va_put (D := g.1) (ci := 0) (v := .int 0) (ty := .int) (C := RX0) (T := TX0) (N := 3) hx hb hw inlX0 tyX0 tyX0_ok nmX0 hown hkn.1 hP hD hS 0 rfl rfl 2 (by decide) (hw _ mw_61) (fun _ h9 => h9) rfl (by decide +kernel) rfl rfl (Nat.le_of_ble_eq_true rfl) dX0_init_22 (fun H locs hP hD hS => ?_)
  have hP : va_P g.1 vwCl [(h0, .inr (0, [.ref q7, .ref q15, .int 0])), (q7, .inl (gI g, 14, .inl (fun _ => 0))), (q15, .inl (gJ g, 14, .inr (.inl (fun _ => 0))))] H := hP
  have hD : va_D A [(h0, .inr (0, [.ref q7, .ref q15, .int 0])), (q7, .inl (gI g, 14, .inl (fun _ => 0))), (q15, .inl (gJ g, 14, .inr (.inl (fun _ => 0))))] := hD
  exact eM_v (g := g) hx hb hr hlocks (q7, q15) (trivial) (hP.sub [0, 1, 2] rfl) (hD.sub [0, 1, 2] (by decide) rfl) hS dX0_init_25
set_option maxHeartbeats 4000000 in
set_option maxRecDepth 100000 in
theorem c_X0_size (l : Launch) (g : GG) (H : Heap) (h0 : Nat) (h1 : Nat) (h2 : Nat) (sn : Nat) (fc : Nat → Int32) (fb : Nat → Int64)  (hP : va_P g.1 vwCl [(h0, .inr (0, [.ref h1, .ref h2, .int (nI sn)])), (h1, .inl (gI g, 14, .inl fc)), (h2, .inl (gJ g, 14, .inr (.inl fb)))] H) : Met l yX0_size (Cond.code yX0_size cX0_size 1 (some .int) :: wsL_law) ({ frames := 0, cells := 0, slots := 0, locals := 0 }) (PR g [.ref h0] H) (QRi (nI sn) H) 0 0 NoA := by
  refine Met.R (by decide) (Nat.le_of_ble_eq_true rfl) rfl ?_
  intro p e s m below meth c hx hb hr hml hw hown hlocks hkn hH ls hl
  subst hH
  have hl : lv_has ls 1 [(0, .ref h0)] := hl
  have hS : va_S NoA s.heap s.heap [] := va_S.rf
  refine lv_aload_n hx hb dX0_size_0 rfl (lv_at hl 0 rfl) ?_
  refine va_get (D := g.1) (ci := 0) (v := .int (nI sn)) (C := RX0) (T := TX0) (N := 3) hx hb hw inlX0 hown hkn.1 hP 0 rfl rfl 2 (by decide) (hw _ mw_61) (fun _ h9 => h9) rfl dX0_size_1 ?_
  exact eR_i hx hb hr hlocks (rfl) dX0_size_4
set_option maxHeartbeats 4000000 in
set_option maxRecDepth 100000 in
theorem c_X0_clear (l : Launch) (g : GG) (sz : Nat) (h0 : Nat) (h1 : Nat) (h2 : Nat) (sn : Nat)  : Met l yX0_clear (Cond.code yX0_clear cX0_clear 1 none :: wsL_law) ({ frames := 0, cells := 0, slots := 0, locals := 0 }) (PM g [.ref h0] [(h0, .inr (0, [.ref h1, .ref h2, .int (nI sn)]))] sz) (QAv g (fun (u : Unit) => True) (fun (u : Unit) => [(h0, .inr (0, [.ref h1, .ref h2, .int 0]))]) (va_A [(h0, .inr (0, [.ref h1, .ref h2, .int (nI sn)]))] sz)) 0 0 (va_A [(h0, .inr (0, [.ref h1, .ref h2, .int (nI sn)]))] sz) := by
  refine Met.M (Qc := fun A => QAv g (fun (u : Unit) => True) (fun (u : Unit) => [(h0, .inr (0, [.ref h1, .ref h2, .int 0]))]) A) (by decide) (Nat.le_of_ble_eq_true rfl) rfl ?_
  intro p e s m below meth c hx hb hr hml hw hown hlocks hin A hA hkn hP hD ls hl
  have hl : lv_has ls 1 [(0, .ref h0)] := hl
  have hS : va_S A s.heap s.heap [] := va_S.rf
  obtain ⟨H, hHe⟩ : ∃ H, H = s.heap := ⟨_, rfl⟩
  obtain ⟨locs, hLe⟩ : ∃ locs : List Loc, locs = [] := ⟨_, rfl⟩
  have hP : va_P g.1 vwCl [(h0, .inr (0, [.ref h1, .ref h2, .int (nI sn)]))] H := by rw [hHe]; exact hP
  have hS : va_S A s.heap H locs := by rw [hHe, hLe]; exact hS
  have hgo : W p l e ({ frames := 0, cells := 0, slots := 0, locals := 0 } : Room) s m ([.ref h0] : List Value).toArray below meth c H locs 0 0 (MQ below (QAv g (fun (u : Unit) => True) (fun (u : Unit) => [(h0, .inr (0, [.ref h1, .ref h2, .int 0]))]) A) ([.ref h0] : List Value).toArray s 0 0 A) (F0 m 0 ls []) := ?_
  · rw [hHe, hLe] at hgo; exact hgo
  clear hHe hLe
  refine lv_aload_n hx hb dX0_clear_0 rfl (lv_at hl 0 rfl) ?_
  refine lv_iconst (v := 0) hx hb dX0_clear_1 (by decide) ?_
  refine va_put (D := g.1) (ci := 0) (v := .int 0) (ty := .int) (C := RX0) (T := TX0) (N := 3) hx hb hw inlX0 tyX0 tyX0_ok nmX0 hown hkn.1 hP hD hS 0 rfl rfl 2 (by decide) (hw _ mw_61) (fun _ h9 => h9) rfl (by decide +kernel) rfl rfl (Nat.le_of_ble_eq_true rfl) dX0_clear_2 (fun H locs hP hD hS => ?_)
  have hP : va_P g.1 vwCl [(h0, .inr (0, [.ref h1, .ref h2, .int 0]))] H := hP
  have hD : va_D A [(h0, .inr (0, [.ref h1, .ref h2, .int 0]))] := hD
  exact eM_v (g := g) hx hb hr hlocks () (trivial) (hP.sub [0] rfl) (hD.sub [0] (by decide) rfl) hS dX0_clear_5
set_option maxHeartbeats 4000000 in
set_option maxRecDepth 100000 in
theorem c_X0_forgetFirst (l : Launch) (g : GG) (sz : Nat) (h0 : Nat) (h1 : Nat) (h2 : Nat) (sn : Nat) (fc : Nat → Int32) (fb : Nat → Int64)  : Met l yX0_forgetFirst (Cond.code yX0_forgetFirst cX0_forgetFirst 2 none :: wsL_law) ({ frames := 0, cells := 0, slots := 0, locals := 0 }) (PM g [.ref h0] [(h0, .inr (0, [.ref h1, .ref h2, .int (nI sn)])), (h1, .inl (gI g, 14, .inl fc)), (h2, .inl (gJ g, 14, .inr (.inl fb)))] sz) (QAv g (fun (u : Unit) => True) (fun (u : Unit) => [(h0, .inr (0, [.ref h1, .ref h2, .int 13])), (h1, .inl (gI g, 14, .inl (shI fc))), (h2, .inl (gJ g, 14, .inr (.inl (shL fb))))]) (va_A [(h0, .inr (0, [.ref h1, .ref h2, .int (nI sn)])), (h1, .inl (gI g, 14, .inl fc)), (h2, .inl (gJ g, 14, .inr (.inl fb)))] sz)) 0 0 (va_A [(h0, .inr (0, [.ref h1, .ref h2, .int (nI sn)])), (h1, .inl (gI g, 14, .inl fc)), (h2, .inl (gJ g, 14, .inr (.inl fb)))] sz) := by
  refine Met.M (Qc := fun A => QAv g (fun (u : Unit) => True) (fun (u : Unit) => [(h0, .inr (0, [.ref h1, .ref h2, .int 13])), (h1, .inl (gI g, 14, .inl (shI fc))), (h2, .inl (gJ g, 14, .inr (.inl (shL fb))))]) A) (by decide) (Nat.le_of_ble_eq_true rfl) rfl ?_
  intro p e s m below meth c hx hb hr hml hw hown hlocks hin A hA hkn hP hD ls hl
  have hl : lv_has ls 2 [(0, .ref h0)] := hl
  have hS : va_S A s.heap s.heap [] := va_S.rf
  obtain ⟨H, hHe⟩ : ∃ H, H = s.heap := ⟨_, rfl⟩
  obtain ⟨locs, hLe⟩ : ∃ locs : List Loc, locs = [] := ⟨_, rfl⟩
  have hP : va_P g.1 vwCl [(h0, .inr (0, [.ref h1, .ref h2, .int (nI sn)])), (h1, .inl (gI g, 14, .inl fc)), (h2, .inl (gJ g, 14, .inr (.inl fb)))] H := by rw [hHe]; exact hP
  have hS : va_S A s.heap H locs := by rw [hHe, hLe]; exact hS
  have hgo : W p l e ({ frames := 0, cells := 0, slots := 0, locals := 0 } : Room) s m ([.ref h0] : List Value).toArray below meth c H locs 0 0 (MQ below (QAv g (fun (u : Unit) => True) (fun (u : Unit) => [(h0, .inr (0, [.ref h1, .ref h2, .int 13])), (h1, .inl (gI g, 14, .inl (shI fc))), (h2, .inl (gJ g, 14, .inr (.inl (shL fb))))]) A) ([.ref h0] : List Value).toArray s 0 0 A) (F0 m 0 ls []) := ?_
  · rw [hHe, hLe] at hgo; exact hgo
  clear hHe hLe
  refine lv_iconst (v := 1) hx hb dX0_forgetFirst_0 (by decide) ?_
  refine lv_istore_n (lv' := [(1, .int 1), (0, .ref h0)]) hx hb dX0_forgetFirst_1 rfl hl (by decide) rfl (fun ls hl => ?_)
  have lp_2 : ∀ (n_2 : Nat) (i : Nat) (f1 : Nat → Int32) (b1 : Nat → Int64), (i ≤ 14) → (1 ≤ i) → (f1 = fun j => if j + 1 < i then fc (j + 1) else fc j) → (b1 = fun j => if j + 1 < i then fb (j + 1) else fb j) → 14 < i + n_2 → ∀ (H : Heap) (locs : List Loc), va_P g.1 vwCl [(h0, .inr (0, [.ref h1, .ref h2, .int (nI sn)])), (h1, .inl (gI g, 14, .inl f1)), (h2, .inl (gJ g, 14, .inr (.inl b1)))] H → va_D A [(h0, .inr (0, [.ref h1, .ref h2, .int (nI sn)])), (h1, .inl (gI g, 14, .inl f1)), (h2, .inl (gJ g, 14, .inr (.inl b1)))] → va_S A s.heap H locs → ∀ (ls : Array Slot), lv_has ls 2 [(1, .int (nI i)), (0, .ref h0)] → W p l e ({ frames := 0, cells := 0, slots := 0, locals := 0 } : Room) s m ([.ref h0] : List Value).toArray below meth c H locs 0 0 (MQ below (QAv g (fun (u : Unit) => True) (fun (u : Unit) => [(h0, .inr (0, [.ref h1, .ref h2, .int 13])), (h1, .inl (gI g, 14, .inl (shI fc))), (h2, .inl (gJ g, 14, .inr (.inl (shL fb))))]) A) ([.ref h0] : List Value).toArray s 0 0 A) (F0 m 2 ls []) := by
    intro n_2
    induction n_2 with
    | zero => intro i f1 b1 h_i h_i1 h_f h_b hfu_2; exact absurd hfu_2 (by omega)
    | succ n_2 ih_2 =>
      intro i f1 b1 h_i h_i1 h_f h_b hfu_2 H locs hP hD hS ls hl
      refine lv_iload_n hx hb dX0_forgetFirst_2 rfl (lv_at hl 0 rfl) ?_
      refine lv_bipush (v := 14) hx hb dX0_forgetFirst_3 (by decide) ?_
      refine ic_ge (a := i) (d := 14) (tgt := 42) hx hb dX0_forgetFirst_5 (by decide) rfl rfl (by omega) (by omega) (fun c_1 => ?_) (fun c_1 => ?_)
      · skip
        refine lv_aload_n hx hb dX0_forgetFirst_42 rfl (lv_at hl 1 rfl) ?_
        refine lv_bipush (v := 13) hx hb dX0_forgetFirst_43 (by decide) ?_
        refine va_put (D := g.1) (ci := 0) (v := .int 13) (ty := .int) (C := RX0) (T := TX0) (N := 3) hx hb hw inlX0 tyX0 tyX0_ok nmX0 hown hkn.1 hP hD hS 0 rfl rfl 2 (by decide) (hw _ mw_61) (fun _ h9 => h9) rfl (by decide +kernel) rfl rfl (Nat.le_of_ble_eq_true rfl) dX0_forgetFirst_45 (fun H locs hP hD hS => ?_)
        have hP : va_P g.1 vwCl [(h0, .inr (0, [.ref h1, .ref h2, .int 13])), (h1, .inl (gI g, 14, .inl f1)), (h2, .inl (gJ g, 14, .inr (.inl b1)))] H := hP
        have hD : va_D A [(h0, .inr (0, [.ref h1, .ref h2, .int 13])), (h1, .inl (gI g, 14, .inl f1)), (h2, .inl (gJ g, 14, .inr (.inl b1)))] := hD
        obtain rfl : i = 14 := by omega
        subst h_f
        subst h_b
        exact eM_v (g := g) hx hb hr hlocks () (trivial) (hP.sub [0, 1, 2] rfl) (hD.sub [0, 1, 2] (by decide) rfl) hS dX0_forgetFirst_48
      · skip
        refine lv_aload_n hx hb dX0_forgetFirst_8 rfl (lv_at hl 1 rfl) ?_
        refine va_get (D := g.1) (ci := 0) (v := .ref h1) (C := RX0) (T := TX0) (N := 3) hx hb hw inlX0 hown hkn.1 hP 0 rfl rfl 0 (by decide) (hw _ mw_59) (fun _ h9 => h9) rfl dX0_forgetFirst_9 ?_
        refine lv_iload_n hx hb dX0_forgetFirst_12 rfl (lv_at hl 0 rfl) ?_
        refine lv_iconst (v := 1) hx hb dX0_forgetFirst_13 (by decide) ?_
        refine lv_isub hx hb dX0_forgetFirst_14 ?_
        refine lv_eqi (pk_sub (a := i) (b := 1) (by omega)) ?_
        refine lv_aload_n hx hb dX0_forgetFirst_15 rfl (lv_at hl 1 rfl) ?_
        refine va_get (D := g.1) (ci := 0) (v := .ref h1) (C := RX0) (T := TX0) (N := 3) hx hb hw inlX0 hown hkn.1 hP 0 rfl rfl 0 (by decide) (hw _ mw_59) (fun _ h9 => h9) rfl dX0_forgetFirst_16 ?_
        refine lv_iload_n hx hb dX0_forgetFirst_19 rfl (lv_at hl 0 rfl) ?_
        refine va_iald hx hb hkn.1 hP 1 0 rfl rfl (vp_in_nI (n := i) (by omega) (by decide)) dX0_forgetFirst_20 ?_
        refine lv_eqi (show _ = f1 i by rw [nI_clamp (n := i) (by omega)]) ?_
        refine va_iast hx hb hkn.1 hP hD hS 1 0 rfl rfl (vp_in_nI (n := i - 1) (by omega) (by decide)) dX0_forgetFirst_21 (fun H locs hP hD hS => ?_)
        rw [nI_clamp (n := i - 1) (by omega)] at hP hD
        have hP : va_P g.1 vwCl [(h0, .inr (0, [.ref h1, .ref h2, .int (nI sn)])), (h1, .inl (gI g, 14, .inl (upd f1 (i - 1) (f1 i)))), (h2, .inl (gJ g, 14, .inr (.inl b1)))] H := hP
        have hD : va_D A [(h0, .inr (0, [.ref h1, .ref h2, .int (nI sn)])), (h1, .inl (gI g, 14, .inl (upd f1 (i - 1) (f1 i)))), (h2, .inl (gJ g, 14, .inr (.inl b1)))] := hD
        refine lv_aload_n hx hb dX0_forgetFirst_22 rfl (lv_at hl 1 rfl) ?_
        refine va_get (D := g.1) (ci := 0) (v := .ref h2) (C := RX0) (T := TX0) (N := 3) hx hb hw inlX0 hown hkn.1 hP 0 rfl rfl 1 (by decide) (hw _ mw_60) (fun _ h9 => h9) rfl dX0_forgetFirst_23 ?_
        refine lv_iload_n hx hb dX0_forgetFirst_26 rfl (lv_at hl 0 rfl) ?_
        refine lv_iconst (v := 1) hx hb dX0_forgetFirst_27 (by decide) ?_
        refine lv_isub hx hb dX0_forgetFirst_28 ?_
        refine lv_eqi (pk_sub (a := i) (b := 1) (by omega)) ?_
        refine lv_aload_n hx hb dX0_forgetFirst_29 rfl (lv_at hl 1 rfl) ?_
        refine va_get (D := g.1) (ci := 0) (v := .ref h2) (C := RX0) (T := TX0) (N := 3) hx hb hw inlX0 hown hkn.1 hP 0 rfl rfl 1 (by decide) (hw _ mw_60) (fun _ h9 => h9) rfl dX0_forgetFirst_30 ?_
        refine lv_iload_n hx hb dX0_forgetFirst_33 rfl (lv_at hl 0 rfl) ?_
        refine va_lald hx hb hkn.1 hP 2 1 rfl rfl (vp_in_nI (n := i) (by omega) (by decide)) dX0_forgetFirst_34 ?_
        refine lv_eql (show _ = b1 i by rw [nI_clamp (n := i) (by omega)]) ?_
        refine va_last hx hb hkn.1 hP hD hS 2 1 rfl rfl (vp_in_nI (n := i - 1) (by omega) (by decide)) dX0_forgetFirst_35 (fun H locs hP hD hS => ?_)
        rw [nI_clamp (n := i - 1) (by omega)] at hP hD
        have hP : va_P g.1 vwCl [(h0, .inr (0, [.ref h1, .ref h2, .int (nI sn)])), (h1, .inl (gI g, 14, .inl (upd f1 (i - 1) (f1 i)))), (h2, .inl (gJ g, 14, .inr (.inl (vp_updL b1 (i - 1) (b1 i)))))] H := hP
        have hD : va_D A [(h0, .inr (0, [.ref h1, .ref h2, .int (nI sn)])), (h1, .inl (gI g, 14, .inl (upd f1 (i - 1) (f1 i)))), (h2, .inl (gJ g, 14, .inr (.inl (vp_updL b1 (i - 1) (b1 i)))))] := hD
        refine lv_iinc (v := (nI (i + 1))) (lv' := [(1, .int (nI (i + 1))), (0, .ref h0)]) hx hb dX0_forgetFirst_36 hl (k := 0) rfl (nI_1 i) (by decide) rfl (fun ls hl => ?_)
        refine lv_goto (tgt := 2) hx hb dX0_forgetFirst_39 (by decide) ?_
        exact ih_2 (i + 1) (upd f1 (i - 1) (f1 i)) (vp_updL b1 (i - 1) (b1 i)) (by omega) (by omega) (by rw [h_f]; exact shI_step h_i1) (by rw [h_b]; exact shL_step h_i1) (by omega) _ _ hP hD hS ls (lv_sub hl [0, 1] rfl)
  exact lp_2 14 1 fc fb (by omega) (by omega) (by funext j; rw [if_neg (by omega)]) (by funext j; rw [if_neg (by omega)]) (by omega) _ _ hP hD hS ls (lv_sub hl [0, 1] rfl)
set_option maxHeartbeats 4000000 in
set_option maxRecDepth 100000 in
theorem c_X0_add (l : Launch) (g : GG) (sz : Nat) (h0 : Nat) (x0 : Int32) (v0 : Int64) (h1 : Nat) (h2 : Nat) (sn : Nat) (fc : Nat → Int32) (fb : Nat → Int64) (hsn : sn ≤ 14) : Met l yX0_add (Cond.code yX0_add cX0_add 4 none :: wsL_law) ({ frames := 1, cells := 0, slots := 0, locals := 21 }) (PM g [.ref h0, .int x0, .long v0] [(h0, .inr (0, [.ref h1, .ref h2, .int (nI sn)])), (h1, .inl (gI g, 14, .inl fc)), (h2, .inl (gJ g, 14, .inr (.inl fb)))] sz) (QAv g (fun (u : Unit) => True) (fun (u : Unit) => [(h0, .inr (0, [.ref h1, .ref h2, .int (nI (acN sn))])), (h1, .inl (gI g, 14, .inl (acF sn fc x0))), (h2, .inl (gJ g, 14, .inr (.inl (acL sn fb v0))))]) (va_A [(h0, .inr (0, [.ref h1, .ref h2, .int (nI sn)])), (h1, .inl (gI g, 14, .inl fc)), (h2, .inl (gJ g, 14, .inr (.inl fb)))] sz)) 0 0 (va_A [(h0, .inr (0, [.ref h1, .ref h2, .int (nI sn)])), (h1, .inl (gI g, 14, .inl fc)), (h2, .inl (gJ g, 14, .inr (.inl fb)))] sz) := by
  refine Met.M (Qc := fun A => QAv g (fun (u : Unit) => True) (fun (u : Unit) => [(h0, .inr (0, [.ref h1, .ref h2, .int (nI (acN sn))])), (h1, .inl (gI g, 14, .inl (acF sn fc x0))), (h2, .inl (gJ g, 14, .inr (.inl (acL sn fb v0))))]) A) (by decide) (Nat.le_of_ble_eq_true rfl) rfl ?_
  intro p e s m below meth c hx hb hr hml hw hown hlocks hin A hA hkn hP hD ls hl
  have hl : lv_has ls 4 [(0, .ref h0), (1, .int x0), (2, .long v0)] := hl
  have hS : va_S A s.heap s.heap [] := va_S.rf
  obtain ⟨H, hHe⟩ : ∃ H, H = s.heap := ⟨_, rfl⟩
  obtain ⟨locs, hLe⟩ : ∃ locs : List Loc, locs = [] := ⟨_, rfl⟩
  have hP : va_P g.1 vwCl [(h0, .inr (0, [.ref h1, .ref h2, .int (nI sn)])), (h1, .inl (gI g, 14, .inl fc)), (h2, .inl (gJ g, 14, .inr (.inl fb)))] H := by rw [hHe]; exact hP
  have hS : va_S A s.heap H locs := by rw [hHe, hLe]; exact hS
  have hgo : W p l e ({ frames := 1, cells := 0, slots := 0, locals := 21 } : Room) s m ([.ref h0, .int x0, .long v0] : List Value).toArray below meth c H locs 0 0 (MQ below (QAv g (fun (u : Unit) => True) (fun (u : Unit) => [(h0, .inr (0, [.ref h1, .ref h2, .int (nI (acN sn))])), (h1, .inl (gI g, 14, .inl (acF sn fc x0))), (h2, .inl (gJ g, 14, .inr (.inl (acL sn fb v0))))]) A) ([.ref h0, .int x0, .long v0] : List Value).toArray s 0 0 A) (F0 m 0 ls []) := ?_
  · rw [hHe, hLe] at hgo; exact hgo
  clear hHe hLe
  refine lv_aload_n hx hb dX0_add_0 rfl (lv_at hl 0 rfl) ?_
  refine va_get (D := g.1) (ci := 0) (v := .int (nI sn)) (C := RX0) (T := TX0) (N := 3) hx hb hw inlX0 hown hkn.1 hP 0 rfl rfl 2 (by decide) (hw _ mw_61) (fun _ h9 => h9) rfl dX0_add_1 ?_
  refine lv_bipush (v := 14) hx hb dX0_add_4 (by decide) ?_
  refine ic_lt (a := sn) (d := 14) (tgt := 13) hx hb dX0_add_6 (by decide) rfl rfl (by omega) (by omega) (fun c_1 => ?_) (fun c_1 => ?_)
  · skip
    refine lv_aload_n hx hb dX0_add_13 rfl (lv_at hl 0 rfl) ?_
    refine va_get (D := g.1) (ci := 0) (v := .int (nI sn)) (C := RX0) (T := TX0) (N := 3) hx hb hw inlX0 hown hkn.1 hP 0 rfl rfl 2 (by decide) (hw _ mw_61) (fun _ h9 => h9) rfl dX0_add_14 ?_
    refine lv_if_lt (tgt := 59) hx hb dX0_add_17 (by decide) (fun c_2 => ?_) (fun c_2 => ?_)
    · skip
      first | exact absurd c_2 (nI_pos (by omega)) | exact absurd c_2 (by decide)
    · skip
      refine lv_aload_n hx hb dX0_add_20 rfl (lv_at hl 0 rfl) ?_
      refine va_get (D := g.1) (ci := 0) (v := .int (nI sn)) (C := RX0) (T := TX0) (N := 3) hx hb hw inlX0 hown hkn.1 hP 0 rfl rfl 2 (by decide) (hw _ mw_61) (fun _ h9 => h9) rfl dX0_add_21 ?_
      refine lv_bipush (v := 14) hx hb dX0_add_24 (by decide) ?_
      refine ic_ge (a := sn) (d := 14) (tgt := 59) hx hb dX0_add_26 (by decide) rfl rfl (by omega) (by omega) (fun c_3 => ?_) (fun c_3 => ?_)
      · skip
        first | omega | exact absurd c_3 (by decide)
      · skip
        refine lv_aload_n hx hb dX0_add_29 rfl (lv_at hl 0 rfl) ?_
        refine va_get (D := g.1) (ci := 0) (v := .ref h1) (C := RX0) (T := TX0) (N := 3) hx hb hw inlX0 hown hkn.1 hP 0 rfl rfl 0 (by decide) (hw _ mw_59) (fun _ h9 => h9) rfl dX0_add_30 ?_
        refine lv_aload_n hx hb dX0_add_33 rfl (lv_at hl 0 rfl) ?_
        refine va_get (D := g.1) (ci := 0) (v := .int (nI sn)) (C := RX0) (T := TX0) (N := 3) hx hb hw inlX0 hown hkn.1 hP 0 rfl rfl 2 (by decide) (hw _ mw_61) (fun _ h9 => h9) rfl dX0_add_34 ?_
        refine lv_iload_n hx hb dX0_add_37 rfl (lv_at hl 1 rfl) ?_
        refine va_iast hx hb hkn.1 hP hD hS 1 0 rfl rfl (vp_in_nI (n := sn) (by omega) (by decide)) dX0_add_38 (fun H locs hP hD hS => ?_)
        rw [nI_clamp (n := sn) (by omega)] at hP hD
        have hP : va_P g.1 vwCl [(h0, .inr (0, [.ref h1, .ref h2, .int (nI sn)])), (h1, .inl (gI g, 14, .inl (upd fc sn x0))), (h2, .inl (gJ g, 14, .inr (.inl fb)))] H := hP
        have hD : va_D A [(h0, .inr (0, [.ref h1, .ref h2, .int (nI sn)])), (h1, .inl (gI g, 14, .inl (upd fc sn x0))), (h2, .inl (gJ g, 14, .inr (.inl fb)))] := hD
        refine lv_aload_n hx hb dX0_add_39 rfl (lv_at hl 0 rfl) ?_
        refine va_get (D := g.1) (ci := 0) (v := .ref h2) (C := RX0) (T := TX0) (N := 3) hx hb hw inlX0 hown hkn.1 hP 0 rfl rfl 1 (by decide) (hw _ mw_60) (fun _ h9 => h9) rfl dX0_add_40 ?_
        refine lv_aload_n hx hb dX0_add_43 rfl (lv_at hl 0 rfl) ?_
        refine va_get (D := g.1) (ci := 0) (v := .int (nI sn)) (C := RX0) (T := TX0) (N := 3) hx hb hw inlX0 hown hkn.1 hP 0 rfl rfl 2 (by decide) (hw _ mw_61) (fun _ h9 => h9) rfl dX0_add_44 ?_
        refine lv_lload_n hx hb dX0_add_47 rfl (lv_at hl 2 rfl) ?_
        refine va_last hx hb hkn.1 hP hD hS 2 1 rfl rfl (vp_in_nI (n := sn) (by omega) (by decide)) dX0_add_48 (fun H locs hP hD hS => ?_)
        rw [nI_clamp (n := sn) (by omega)] at hP hD
        have hP : va_P g.1 vwCl [(h0, .inr (0, [.ref h1, .ref h2, .int (nI sn)])), (h1, .inl (gI g, 14, .inl (upd fc sn x0))), (h2, .inl (gJ g, 14, .inr (.inl (vp_updL fb sn v0))))] H := hP
        have hD : va_D A [(h0, .inr (0, [.ref h1, .ref h2, .int (nI sn)])), (h1, .inl (gI g, 14, .inl (upd fc sn x0))), (h2, .inl (gJ g, 14, .inr (.inl (vp_updL fb sn v0))))] := hD
        refine lv_aload_n hx hb dX0_add_49 rfl (lv_at hl 0 rfl) ?_
        refine lv_dup hx hb dX0_add_50 rfl ?_
        refine va_get (D := g.1) (ci := 0) (v := .int (nI sn)) (C := RX0) (T := TX0) (N := 3) hx hb hw inlX0 hown hkn.1 hP 0 rfl rfl 2 (by decide) (hw _ mw_61) (fun _ h9 => h9) rfl dX0_add_51 ?_
        refine lv_iconst (v := 1) hx hb dX0_add_54 (by decide) ?_
        refine lv_iadd hx hb dX0_add_55 ?_
        refine lv_eqi (nI_add sn 1) ?_
        refine va_put (D := g.1) (ci := 0) (v := .int (nI (sn + 1))) (ty := .int) (C := RX0) (T := TX0) (N := 3) hx hb hw inlX0 tyX0 tyX0_ok nmX0 hown hkn.1 hP hD hS 0 rfl rfl 2 (by decide) (hw _ mw_61) (fun _ h9 => h9) rfl (by decide +kernel) rfl rfl (Nat.le_of_ble_eq_true rfl) dX0_add_56 (fun H locs hP hD hS => ?_)
        have hP : va_P g.1 vwCl [(h0, .inr (0, [.ref h1, .ref h2, .int (nI (sn + 1))])), (h1, .inl (gI g, 14, .inl (upd fc sn x0))), (h2, .inl (gJ g, 14, .inr (.inl (vp_updL fb sn v0))))] H := hP
        have hD : va_D A [(h0, .inr (0, [.ref h1, .ref h2, .int (nI (sn + 1))])), (h1, .inl (gI g, 14, .inl (upd fc sn x0))), (h2, .inl (gJ g, 14, .inr (.inl (vp_updL fb sn v0))))] := hD
        have e1 : acN sn = sn + 1 := if_pos c_1
        have e2 : acF sn fc x0 = upd fc sn x0 := if_pos c_1
        have e3 : acL sn fb v0 = vp_updL fb sn v0 := if_pos c_1
        exact eM_v (g := g) hx hb hr hlocks () (trivial) (show va_P g.1 vwCl [(h0, .inr (0, [.ref h1, .ref h2, .int (nI (acN sn))])), (h1, .inl (gI g, 14, .inl (acF sn fc x0))), (h2, .inl (gJ g, 14, .inr (.inl (acL sn fb v0))))] H by rw [e1, e2, e3]; exact hP.sub [0, 1, 2] rfl) (show va_D A [(h0, .inr (0, [.ref h1, .ref h2, .int (nI (acN sn))])), (h1, .inl (gI g, 14, .inl (acF sn fc x0))), (h2, .inl (gJ g, 14, .inr (.inl (acL sn fb v0))))] by rw [e1, e2, e3]; exact hD.sub [0, 1, 2] (by decide) rfl) hS dX0_add_59
  · skip
    refine lv_aload_n hx hb dX0_add_9 rfl (lv_at hl 0 rfl) ?_
    refine cVM_v (As := []) (rest := []) (q0 := 0) (wc := [(h0, .inr (0, [.ref h1, .ref h2, .int (nI sn)])), (h1, .inl (gI g, 14, .inl fc)), (h2, .inl (gJ g, 14, .inr (.inl fb)))]) (wr := []) hx hb hml hown hw hkn hS hl hA hP hD [0, 1, 2] [] rfl rfl (by decide) (by decide) (by decide) (c_X0_forgetFirst l g _ h0 h1 h2 sn fc fb ) vf_X0_forgetFirst mw_226 rfl rfl ⟨(Nat.le_of_ble_eq_true rfl), (Nat.le_of_ble_eq_true rfl)⟩ rfl rfl rfl rfl (Nat.le_of_ble_eq_true rfl) dX0_add_10 ⟨(Nat.le_of_ble_eq_true rfl), (Nat.le_of_ble_eq_true rfl)⟩ (fun u H locs hq hP hD hS => ?_)
    have hP : va_P g.1 vwCl [(h0, .inr (0, [.ref h1, .ref h2, .int 13])), (h1, .inl (gI g, 14, .inl (shI fc))), (h2, .inl (gJ g, 14, .inr (.inl (shL fb))))] H := hP.sub [0, 1, 2] rfl
    have hD : va_D A [(h0, .inr (0, [.ref h1, .ref h2, .int 13])), (h1, .inl (gI g, 14, .inl (shI fc))), (h2, .inl (gJ g, 14, .inr (.inl (shL fb))))] := hD.sub [0, 1, 2] (by decide) rfl
    refine lv_aload_n hx hb dX0_add_13 rfl (lv_at hl 0 rfl) ?_
    refine va_get (D := g.1) (ci := 0) (v := .int 13) (C := RX0) (T := TX0) (N := 3) hx hb hw inlX0 hown hkn.1 hP 0 rfl rfl 2 (by decide) (hw _ mw_61) (fun _ h9 => h9) rfl dX0_add_14 ?_
    refine lv_if_lt (tgt := 59) hx hb dX0_add_17 (by decide) (fun c_5 => ?_) (fun c_5 => ?_)
    · skip
      first | exact absurd c_5 (nI_pos (by omega)) | exact absurd c_5 (by decide)
    · skip
      refine lv_aload_n hx hb dX0_add_20 rfl (lv_at hl 0 rfl) ?_
      refine va_get (D := g.1) (ci := 0) (v := .int 13) (C := RX0) (T := TX0) (N := 3) hx hb hw inlX0 hown hkn.1 hP 0 rfl rfl 2 (by decide) (hw _ mw_61) (fun _ h9 => h9) rfl dX0_add_21 ?_
      refine lv_bipush (v := 14) hx hb dX0_add_24 (by decide) ?_
      refine lv_icmp_ge (tgt := 59) hx hb dX0_add_26 (by decide) (fun c_6 => ?_) (fun c_6 => ?_)
      · skip
        first | omega | exact absurd c_6 (by decide)
      · skip
        refine lv_aload_n hx hb dX0_add_29 rfl (lv_at hl 0 rfl) ?_
        refine va_get (D := g.1) (ci := 0) (v := .ref h1) (C := RX0) (T := TX0) (N := 3) hx hb hw inlX0 hown hkn.1 hP 0 rfl rfl 0 (by decide) (hw _ mw_59) (fun _ h9 => h9) rfl dX0_add_30 ?_
        refine lv_aload_n hx hb dX0_add_33 rfl (lv_at hl 0 rfl) ?_
        refine va_get (D := g.1) (ci := 0) (v := .int 13) (C := RX0) (T := TX0) (N := 3) hx hb hw inlX0 hown hkn.1 hP 0 rfl rfl 2 (by decide) (hw _ mw_61) (fun _ h9 => h9) rfl dX0_add_34 ?_
        refine lv_iload_n hx hb dX0_add_37 rfl (lv_at hl 1 rfl) ?_
        refine va_iast hx hb hkn.1 hP hD hS 1 0 rfl rfl (vp_in_nI (n := 13) (by omega) (by decide)) dX0_add_38 (fun H locs hP hD hS => ?_)
        have hP : va_P g.1 vwCl [(h0, .inr (0, [.ref h1, .ref h2, .int 13])), (h1, .inl (gI g, 14, .inl (upd (shI fc) 13 x0))), (h2, .inl (gJ g, 14, .inr (.inl (shL fb))))] H := hP
        have hD : va_D A [(h0, .inr (0, [.ref h1, .ref h2, .int 13])), (h1, .inl (gI g, 14, .inl (upd (shI fc) 13 x0))), (h2, .inl (gJ g, 14, .inr (.inl (shL fb))))] := hD
        refine lv_aload_n hx hb dX0_add_39 rfl (lv_at hl 0 rfl) ?_
        refine va_get (D := g.1) (ci := 0) (v := .ref h2) (C := RX0) (T := TX0) (N := 3) hx hb hw inlX0 hown hkn.1 hP 0 rfl rfl 1 (by decide) (hw _ mw_60) (fun _ h9 => h9) rfl dX0_add_40 ?_
        refine lv_aload_n hx hb dX0_add_43 rfl (lv_at hl 0 rfl) ?_
        refine va_get (D := g.1) (ci := 0) (v := .int 13) (C := RX0) (T := TX0) (N := 3) hx hb hw inlX0 hown hkn.1 hP 0 rfl rfl 2 (by decide) (hw _ mw_61) (fun _ h9 => h9) rfl dX0_add_44 ?_
        refine lv_lload_n hx hb dX0_add_47 rfl (lv_at hl 2 rfl) ?_
        refine va_last hx hb hkn.1 hP hD hS 2 1 rfl rfl (vp_in_nI (n := 13) (by omega) (by decide)) dX0_add_48 (fun H locs hP hD hS => ?_)
        have hP : va_P g.1 vwCl [(h0, .inr (0, [.ref h1, .ref h2, .int 13])), (h1, .inl (gI g, 14, .inl (upd (shI fc) 13 x0))), (h2, .inl (gJ g, 14, .inr (.inl (vp_updL (shL fb) 13 v0))))] H := hP
        have hD : va_D A [(h0, .inr (0, [.ref h1, .ref h2, .int 13])), (h1, .inl (gI g, 14, .inl (upd (shI fc) 13 x0))), (h2, .inl (gJ g, 14, .inr (.inl (vp_updL (shL fb) 13 v0))))] := hD
        refine lv_aload_n hx hb dX0_add_49 rfl (lv_at hl 0 rfl) ?_
        refine lv_dup hx hb dX0_add_50 rfl ?_
        refine va_get (D := g.1) (ci := 0) (v := .int 13) (C := RX0) (T := TX0) (N := 3) hx hb hw inlX0 hown hkn.1 hP 0 rfl rfl 2 (by decide) (hw _ mw_61) (fun _ h9 => h9) rfl dX0_add_51 ?_
        refine lv_iconst (v := 1) hx hb dX0_add_54 (by decide) ?_
        refine lv_iadd hx hb dX0_add_55 ?_
        refine lv_eqi (show _ = 14 by decide) ?_
        refine va_put (D := g.1) (ci := 0) (v := .int 14) (ty := .int) (C := RX0) (T := TX0) (N := 3) hx hb hw inlX0 tyX0 tyX0_ok nmX0 hown hkn.1 hP hD hS 0 rfl rfl 2 (by decide) (hw _ mw_61) (fun _ h9 => h9) rfl (by decide +kernel) rfl rfl (Nat.le_of_ble_eq_true rfl) dX0_add_56 (fun H locs hP hD hS => ?_)
        have hP : va_P g.1 vwCl [(h0, .inr (0, [.ref h1, .ref h2, .int 14])), (h1, .inl (gI g, 14, .inl (upd (shI fc) 13 x0))), (h2, .inl (gJ g, 14, .inr (.inl (vp_updL (shL fb) 13 v0))))] H := hP
        have hD : va_D A [(h0, .inr (0, [.ref h1, .ref h2, .int 14])), (h1, .inl (gI g, 14, .inl (upd (shI fc) 13 x0))), (h2, .inl (gJ g, 14, .inr (.inl (vp_updL (shL fb) 13 v0))))] := hD
        have e1 : acN sn = 14 := if_neg (by omega)
        have e2 : acF sn fc x0 = upd (shI fc) 13 x0 := if_neg (by omega)
        have e3 : acL sn fb v0 = vp_updL (shL fb) 13 v0 := if_neg (by omega)
        exact eM_v (g := g) hx hb hr hlocks () (trivial) (show va_P g.1 vwCl [(h0, .inr (0, [.ref h1, .ref h2, .int (nI (acN sn))])), (h1, .inl (gI g, 14, .inl (acF sn fc x0))), (h2, .inl (gJ g, 14, .inr (.inl (acL sn fb v0))))] H by rw [e1, e2, e3]; exact hP.sub [0, 1, 2] rfl) (show va_D A [(h0, .inr (0, [.ref h1, .ref h2, .int (nI (acN sn))])), (h1, .inl (gI g, 14, .inl (acF sn fc x0))), (h2, .inl (gJ g, 14, .inr (.inl (acL sn fb v0))))] by rw [e1, e2, e3]; exact hD.sub [0, 1, 2] (by decide) rfl) hS dX0_add_59
set_option maxHeartbeats 4000000 in
set_option maxRecDepth 100000 in
theorem c_X0_lastPicture (l : Launch) (g : GG) (H : Heap) (h0 : Nat) (h1 : Nat) (h2 : Nat) (sn : Nat) (fc : Nat → Int32) (fb : Nat → Int64) (hs1 : 0 < sn) (hs2 : sn ≤ 14) (hP : va_P g.1 vwCl [(h0, .inr (0, [.ref h1, .ref h2, .int (nI sn)])), (h1, .inl (gI g, 14, .inl fc)), (h2, .inl (gJ g, 14, .inr (.inl fb)))] H) : Met l yX0_lastPicture (Cond.code yX0_lastPicture cX0_lastPicture 1 (some .int) :: wsL_law) ({ frames := 0, cells := 0, slots := 0, locals := 0 }) (PR g [.ref h0] H) (QRi (fc (sn - 1)) H) 0 0 NoA := by
  refine Met.R (by decide) (Nat.le_of_ble_eq_true rfl) rfl ?_
  intro p e s m below meth c hx hb hr hml hw hown hlocks hkn hH ls hl
  subst hH
  have hl : lv_has ls 1 [(0, .ref h0)] := hl
  have hS : va_S NoA s.heap s.heap [] := va_S.rf
  refine lv_aload_n hx hb dX0_lastPicture_0 rfl (lv_at hl 0 rfl) ?_
  refine va_get (D := g.1) (ci := 0) (v := .int (nI sn)) (C := RX0) (T := TX0) (N := 3) hx hb hw inlX0 hown hkn.1 hP 0 rfl rfl 2 (by decide) (hw _ mw_61) (fun _ h9 => h9) rfl dX0_lastPicture_1 ?_
  refine iz_le (a := sn) (tgt := 30) hx hb dX0_lastPicture_4 (by decide) rfl (by omega) (fun c_1 => ?_) (fun c_1 => ?_)
  · skip
    omega
  · skip
    refine lv_aload_n hx hb dX0_lastPicture_7 rfl (lv_at hl 0 rfl) ?_
    refine va_get (D := g.1) (ci := 0) (v := .int (nI sn)) (C := RX0) (T := TX0) (N := 3) hx hb hw inlX0 hown hkn.1 hP 0 rfl rfl 2 (by decide) (hw _ mw_61) (fun _ h9 => h9) rfl dX0_lastPicture_8 ?_
    refine lv_bipush (v := 14) hx hb dX0_lastPicture_11 (by decide) ?_
    refine ic_gt (a := sn) (d := 14) (tgt := 30) hx hb dX0_lastPicture_13 (by decide) rfl rfl (by omega) (by omega) (fun c_2 => ?_) (fun c_2 => ?_)
    · skip
      omega
    · skip
      refine lv_aload_n hx hb dX0_lastPicture_16 rfl (lv_at hl 0 rfl) ?_
      refine va_get (D := g.1) (ci := 0) (v := .ref h1) (C := RX0) (T := TX0) (N := 3) hx hb hw inlX0 hown hkn.1 hP 0 rfl rfl 0 (by decide) (hw _ mw_59) (fun _ h9 => h9) rfl dX0_lastPicture_17 ?_
      refine lv_aload_n hx hb dX0_lastPicture_20 rfl (lv_at hl 0 rfl) ?_
      refine va_get (D := g.1) (ci := 0) (v := .int (nI sn)) (C := RX0) (T := TX0) (N := 3) hx hb hw inlX0 hown hkn.1 hP 0 rfl rfl 2 (by decide) (hw _ mw_61) (fun _ h9 => h9) rfl dX0_lastPicture_21 ?_
      refine lv_iconst (v := 1) hx hb dX0_lastPicture_24 (by decide) ?_
      refine lv_isub hx hb dX0_lastPicture_25 ?_
      refine lv_eqi (pk_sub (a := sn) (b := 1) (by omega)) ?_
      refine va_iald hx hb hkn.1 hP 1 0 rfl rfl (vp_in_nI (n := sn - 1) (by omega) (by decide)) dX0_lastPicture_26 ?_
      refine lv_eqi (show _ = fc (sn - 1) by rw [nI_clamp (n := sn - 1) (by omega)]) ?_
      refine lv_goto (tgt := 32) hx hb dX0_lastPicture_27 (by decide) ?_
      exact eR_i hx hb hr hlocks (rfl) dX0_lastPicture_32
set_option maxHeartbeats 4000000 in
set_option maxRecDepth 100000 in
theorem c_X0_lastBefore (l : Launch) (g : GG) (H : Heap) (h0 : Nat) (h1 : Nat) (h2 : Nat) (sn : Nat) (fc : Nat → Int32) (fb : Nat → Int64) (hs1 : 0 < sn) (hs2 : sn ≤ 14) (hP : va_P g.1 vwCl [(h0, .inr (0, [.ref h1, .ref h2, .int (nI sn)])), (h1, .inl (gI g, 14, .inl fc)), (h2, .inl (gJ g, 14, .inr (.inl fb)))] H) : Met l yX0_lastBefore (Cond.code yX0_lastBefore cX0_lastBefore 1 (some .long) :: wsL_law) ({ frames := 0, cells := 0, slots := 0, locals := 0 }) (PR g [.ref h0] H) (QRl (fb (sn - 1)) H) 0 0 NoA := by
  refine Met.R (by decide) (Nat.le_of_ble_eq_true rfl) rfl ?_
  intro p e s m below meth c hx hb hr hml hw hown hlocks hkn hH ls hl
  subst hH
  have hl : lv_has ls 1 [(0, .ref h0)] := hl
  have hS : va_S NoA s.heap s.heap [] := va_S.rf
  refine lv_aload_n hx hb dX0_lastBefore_0 rfl (lv_at hl 0 rfl) ?_
  refine va_get (D := g.1) (ci := 0) (v := .int (nI sn)) (C := RX0) (T := TX0) (N := 3) hx hb hw inlX0 hown hkn.1 hP 0 rfl rfl 2 (by decide) (hw _ mw_61) (fun _ h9 => h9) rfl dX0_lastBefore_1 ?_
  refine iz_le (a := sn) (tgt := 30) hx hb dX0_lastBefore_4 (by decide) rfl (by omega) (fun c_1 => ?_) (fun c_1 => ?_)
  · skip
    omega
  · skip
    refine lv_aload_n hx hb dX0_lastBefore_7 rfl (lv_at hl 0 rfl) ?_
    refine va_get (D := g.1) (ci := 0) (v := .int (nI sn)) (C := RX0) (T := TX0) (N := 3) hx hb hw inlX0 hown hkn.1 hP 0 rfl rfl 2 (by decide) (hw _ mw_61) (fun _ h9 => h9) rfl dX0_lastBefore_8 ?_
    refine lv_bipush (v := 14) hx hb dX0_lastBefore_11 (by decide) ?_
    refine ic_gt (a := sn) (d := 14) (tgt := 30) hx hb dX0_lastBefore_13 (by decide) rfl rfl (by omega) (by omega) (fun c_2 => ?_) (fun c_2 => ?_)
    · skip
      omega
    · skip
      refine lv_aload_n hx hb dX0_lastBefore_16 rfl (lv_at hl 0 rfl) ?_
      refine va_get (D := g.1) (ci := 0) (v := .ref h2) (C := RX0) (T := TX0) (N := 3) hx hb hw inlX0 hown hkn.1 hP 0 rfl rfl 1 (by decide) (hw _ mw_60) (fun _ h9 => h9) rfl dX0_lastBefore_17 ?_
      refine lv_aload_n hx hb dX0_lastBefore_20 rfl (lv_at hl 0 rfl) ?_
      refine va_get (D := g.1) (ci := 0) (v := .int (nI sn)) (C := RX0) (T := TX0) (N := 3) hx hb hw inlX0 hown hkn.1 hP 0 rfl rfl 2 (by decide) (hw _ mw_61) (fun _ h9 => h9) rfl dX0_lastBefore_21 ?_
      refine lv_iconst (v := 1) hx hb dX0_lastBefore_24 (by decide) ?_
      refine lv_isub hx hb dX0_lastBefore_25 ?_
      refine lv_eqi (pk_sub (a := sn) (b := 1) (by omega)) ?_
      refine va_lald hx hb hkn.1 hP 2 1 rfl rfl (vp_in_nI (n := sn - 1) (by omega) (by decide)) dX0_lastBefore_26 ?_
      refine lv_eql (show _ = fb (sn - 1) by rw [nI_clamp (n := sn - 1) (by omega)]) ?_
      refine lv_goto (tgt := 31) hx hb dX0_lastBefore_27 (by decide) ?_
      exact eR_l hx hb hr hlocks (rfl) dX0_lastBefore_31
set_option maxHeartbeats 4000000 in
set_option maxRecDepth 100000 in
theorem c_X0_dropLast (l : Launch) (g : GG) (sz : Nat) (h0 : Nat) (h1 : Nat) (h2 : Nat) (sn : Nat) (hs1 : 0 < sn) (hs2 : sn ≤ 14) : Met l yX0_dropLast (Cond.code yX0_dropLast cX0_dropLast 1 none :: wsL_law) ({ frames := 0, cells := 0, slots := 0, locals := 0 }) (PM g [.ref h0] [(h0, .inr (0, [.ref h1, .ref h2, .int (nI sn)]))] sz) (QAv g (fun (u : Unit) => True) (fun (u : Unit) => [(h0, .inr (0, [.ref h1, .ref h2, .int (nI (sn - 1))]))]) (va_A [(h0, .inr (0, [.ref h1, .ref h2, .int (nI sn)]))] sz)) 0 0 (va_A [(h0, .inr (0, [.ref h1, .ref h2, .int (nI sn)]))] sz) := by
  refine Met.M (Qc := fun A => QAv g (fun (u : Unit) => True) (fun (u : Unit) => [(h0, .inr (0, [.ref h1, .ref h2, .int (nI (sn - 1))]))]) A) (by decide) (Nat.le_of_ble_eq_true rfl) rfl ?_
  intro p e s m below meth c hx hb hr hml hw hown hlocks hin A hA hkn hP hD ls hl
  have hl : lv_has ls 1 [(0, .ref h0)] := hl
  have hS : va_S A s.heap s.heap [] := va_S.rf
  obtain ⟨H, hHe⟩ : ∃ H, H = s.heap := ⟨_, rfl⟩
  obtain ⟨locs, hLe⟩ : ∃ locs : List Loc, locs = [] := ⟨_, rfl⟩
  have hP : va_P g.1 vwCl [(h0, .inr (0, [.ref h1, .ref h2, .int (nI sn)]))] H := by rw [hHe]; exact hP
  have hS : va_S A s.heap H locs := by rw [hHe, hLe]; exact hS
  have hgo : W p l e ({ frames := 0, cells := 0, slots := 0, locals := 0 } : Room) s m ([.ref h0] : List Value).toArray below meth c H locs 0 0 (MQ below (QAv g (fun (u : Unit) => True) (fun (u : Unit) => [(h0, .inr (0, [.ref h1, .ref h2, .int (nI (sn - 1))]))]) A) ([.ref h0] : List Value).toArray s 0 0 A) (F0 m 0 ls []) := ?_
  · rw [hHe, hLe] at hgo; exact hgo
  clear hHe hLe
  refine lv_aload_n hx hb dX0_dropLast_0 rfl (lv_at hl 0 rfl) ?_
  refine va_get (D := g.1) (ci := 0) (v := .int (nI sn)) (C := RX0) (T := TX0) (N := 3) hx hb hw inlX0 hown hkn.1 hP 0 rfl rfl 2 (by decide) (hw _ mw_61) (fun _ h9 => h9) rfl dX0_dropLast_1 ?_
  refine iz_le (a := sn) (tgt := 17) hx hb dX0_dropLast_4 (by decide) rfl (by omega) (fun c_1 => ?_) (fun c_1 => ?_)
  · skip
    omega
  · skip
    refine lv_aload_n hx hb dX0_dropLast_7 rfl (lv_at hl 0 rfl) ?_
    refine lv_dup hx hb dX0_dropLast_8 rfl ?_
    refine va_get (D := g.1) (ci := 0) (v := .int (nI sn)) (C := RX0) (T := TX0) (N := 3) hx hb hw inlX0 hown hkn.1 hP 0 rfl rfl 2 (by decide) (hw _ mw_61) (fun _ h9 => h9) rfl dX0_dropLast_9 ?_
    refine lv_iconst (v := 1) hx hb dX0_dropLast_12 (by decide) ?_
    refine lv_isub hx hb dX0_dropLast_13 ?_
    refine lv_eqi (pk_sub (a := sn) (b := 1) (by omega)) ?_
    refine va_put (D := g.1) (ci := 0) (v := .int (nI (sn - 1))) (ty := .int) (C := RX0) (T := TX0) (N := 3) hx hb hw inlX0 tyX0 tyX0_ok nmX0 hown hkn.1 hP hD hS 0 rfl rfl 2 (by decide) (hw _ mw_61) (fun _ h9 => h9) rfl (by decide +kernel) rfl rfl (Nat.le_of_ble_eq_true rfl) dX0_dropLast_14 (fun H locs hP hD hS => ?_)
    have hP : va_P g.1 vwCl [(h0, .inr (0, [.ref h1, .ref h2, .int (nI (sn - 1))]))] H := hP
    have hD : va_D A [(h0, .inr (0, [.ref h1, .ref h2, .int (nI (sn - 1))]))] := hD
    exact eM_v (g := g) hx hb hr hlocks () (trivial) (hP.sub [0] rfl) (hD.sub [0] (by decide) rfl) hS dX0_dropLast_17
set_option maxHeartbeats 4000000 in
set_option maxRecDepth 100000 in
theorem c_X1_init (l : Launch) (g : GG) (sz : Nat) (h0 : Nat)  : Met l yX1_init (Cond.code yX1_init cX1_init 1 none :: wsL_law) ({ frames := 1, cells := 1, slots := 3, locals := 20 }) (PM g [.ref h0] [(h0, .inr (1, [.null]))] sz) (QAv g (fun (u : Nat) => True) (fun (u : Nat) => [(h0, .inr (1, [.ref u])), (u, .inl (gJ g, 3, .inr (.inl (fun _ => 0))))]) (va_A [(h0, .inr (1, [.null]))] sz)) 1 3 (va_A [(h0, .inr (1, [.null]))] sz) := by
  refine Met.M (Qc := fun A => QAv g (fun (u : Nat) => True) (fun (u : Nat) => [(h0, .inr (1, [.ref u])), (u, .inl (gJ g, 3, .inr (.inl (fun _ => 0))))]) A) (by decide) (Nat.le_of_ble_eq_true rfl) rfl ?_
  intro p e s m below meth c hx hb hr hml hw hown hlocks hin A hA hkn hP hD ls hl
  have hl : lv_has ls 1 [(0, .ref h0)] := hl
  have hS : va_S A s.heap s.heap [] := va_S.rf
  obtain ⟨H, hHe⟩ : ∃ H, H = s.heap := ⟨_, rfl⟩
  obtain ⟨locs, hLe⟩ : ∃ locs : List Loc, locs = [] := ⟨_, rfl⟩
  have hP : va_P g.1 vwCl [(h0, .inr (1, [.null]))] H := by rw [hHe]; exact hP
  have hS : va_S A s.heap H locs := by rw [hHe, hLe]; exact hS
  have hgo : W p l e ({ frames := 1, cells := 1, slots := 3, locals := 20 } : Room) s m ([.ref h0] : List Value).toArray below meth c H locs 0 0 (MQ below (QAv g (fun (u : Nat) => True) (fun (u : Nat) => [(h0, .inr (1, [.ref u])), (u, .inl (gJ g, 3, .inr (.inl (fun _ => 0))))]) A) ([.ref h0] : List Value).toArray s 1 3 A) (F0 m 0 ls []) := ?_
  · rw [hHe, hLe] at hgo; exact hgo
  clear hHe hLe
  refine lv_aload_n hx hb dX1_init_0 rfl (lv_at hl 0 rfl) ?_
  refine W.objInit hx hb hown (hw _ mw_40) (hw _ mw_11) (hw _ mw_12) rfl (by rw [hml]; exact hl.1) rfl dX1_init_1 (Nat.le_of_ble_eq_true rfl) (Nat.le_of_ble_eq_true rfl) ?_
  refine W.eq (g2 := F0 m 4 ls []) rfl ?_
  refine lv_aload_n hx hb dX1_init_4 rfl (lv_at hl 0 rfl) ?_
  refine lv_iconst (v := 3) hx hb dX1_init_5 (by decide) ?_
  refine va_newG (t0 := 1) (atype := .long) (a0 := (3, .inr (.inl (fun _ => 0)))) hx hb (hw _ mw_41) (ty := .long) rfl hkn.1 rfl hP hD hS hA (fun _ => rfl) (by decide) (by decide) (by decide) (Nat.le_of_ble_eq_true rfl) (Nat.le_of_ble_eq_true rfl) dX1_init_6 (fun q6 H hP hD hS => ?_)
  have hP : va_P g.1 vwCl [(h0, .inr (1, [.null])), (q6, .inl (gJ g, 3, .inr (.inl (fun _ => 0))))] H := hP
  have hD : va_D A [(h0, .inr (1, [.null])), (q6, .inl (gJ g, 3, .inr (.inl (fun _ => 0))))] := hD
  refine W.widen (k := 1) (n := 3) (by omega) (by omega) ?_
  refine va_putF (D := g.1) (ci := 1) (v := .ref q6) (ty := (.array .long)) (C := RX1) (T := TX1) (N := 1) hx hb hw inlX1 tyX1 tyX1_ok nmX1 hown hkn.1 hP hD hS 0 rfl rfl 0 (by decide) (hw _ mw_42) (fun _ h9 => h9) rfl hin rfl (by decide +kernel) rfl rfl (Nat.le_of_ble_eq_true rfl) dX1_init_8 (fun H locs hP hD hS => ?_)
  have hP : va_P g.1 vwCl [(h0, .inr (1, [.ref q6])), (q6, .inl (gJ g, 3, .inr (.inl (fun _ => 0))))] H := hP
  have hD : va_D A [(h0, .inr (1, [.ref q6])), (q6, .inl (gJ g, 3, .inr (.inl (fun _ => 0))))] := hD
  exact eM_v (g := g) hx hb hr hlocks q6 (trivial) (hP.sub [0, 1] rfl) (hD.sub [0, 1] (by decide) rfl) hS dX1_init_11
set_option maxHeartbeats 4000000 in
set_option maxRecDepth 100000 in
theorem c_X1_cells (l : Launch) (g : GG) (H : Heap) (h0 : Nat) (x0 : Int32) (h1 : Nat) (f : Nat → Int64)  (hP : va_P g.1 vwCl [(h0, .inr (1, [.ref h1])), (h1, .inl (gJ g, 3, .inr (.inl f)))] H) : Met l yX1_cells (Cond.code yX1_cells cX1_cells 2 (some .long) :: wsL_law) ({ frames := 1, cells := 0, slots := 0, locals := 20 }) (PR g [.ref h0, .int x0] H) (QRl (picS f x0) H) 0 0 NoA := by
  refine Met.R (by decide) (Nat.le_of_ble_eq_true rfl) rfl ?_
  intro p e s m below meth c hx hb hr hml hw hown hlocks hkn hH ls hl
  subst hH
  have hl : lv_has ls 2 [(0, .ref h0), (1, .int x0)] := hl
  have hS : va_S NoA s.heap s.heap [] := va_S.rf
  refine lv_iload_n hx hb dX1_cells_0 rfl (lv_at hl 1 rfl) ?_
  refine cN_i (As := [.int x0]) (rest := []) hx hb hml hown hw hkn hS hl (c_X6_isPicture l g _ x0 ) sf_X6_isPicture (hkn.nest 0 rfl) ⟨(Nat.le_of_ble_eq_true rfl), (Nat.le_of_ble_eq_true rfl)⟩ rfl rfl rfl rfl (Nat.le_of_ble_eq_true rfl) dX1_cells_1 ⟨(Nat.le_of_ble_eq_true rfl), (Nat.le_of_ble_eq_true rfl)⟩ ?_
  refine lv_ifeqB (b := isPic x0) (tgt := 16) hx hb dX1_cells_4 (by decide) (fun c_1 => ?_) (fun c_1 => ?_)
  · skip
    refine lv_lconst (v := 0) hx hb dX1_cells_16 rfl ?_
    exact eR_l hx hb hr hlocks (by unfold picS; rw [if_neg (nt_of c_1)]) dX1_cells_17
  · skip
    refine lv_aload_n hx hb dX1_cells_7 rfl (lv_at hl 0 rfl) ?_
    refine va_get (D := g.1) (ci := 1) (v := .ref h1) (C := RX1) (T := TX1) (N := 1) hx hb hw inlX1 hown hkn.1 hP 0 rfl rfl 0 (by decide) (hw _ mw_42) (fun _ h9 => h9) rfl dX1_cells_8 ?_
    refine lv_iload_n hx hb dX1_cells_11 rfl (lv_at hl 1 rfl) ?_
    refine va_lald hx hb hkn.1 hP 1 1 rfl rfl (isPic_vp c_1) dX1_cells_12 ?_
    refine lv_goto (tgt := 17) hx hb dX1_cells_13 (by decide) ?_
    exact eR_l hx hb hr hlocks (by unfold picS; rw [if_pos c_1]) dX1_cells_17
set_option maxHeartbeats 4000000 in
set_option maxRecDepth 100000 in
theorem c_X1_set (l : Launch) (g : GG) (sz : Nat) (h0 : Nat) (x0 : Int32) (v0 : Int64) (h1 : Nat) (f : Nat → Int64)  : Met l yX1_set (Cond.code yX1_set cX1_set 4 none :: wsL_law) ({ frames := 1, cells := 0, slots := 0, locals := 20 }) (PM g [.ref h0, .int x0, .long v0] [(h0, .inr (1, [.ref h1])), (h1, .inl (gJ g, 3, .inr (.inl f)))] sz) (QAv g (fun (u : Unit) => True) (fun (u : Unit) => [(h0, .inr (1, [.ref h1])), (h1, .inl (gJ g, 3, .inr (.inl (setS f x0 v0))))]) (va_A [(h0, .inr (1, [.ref h1])), (h1, .inl (gJ g, 3, .inr (.inl f)))] sz)) 0 0 (va_A [(h0, .inr (1, [.ref h1])), (h1, .inl (gJ g, 3, .inr (.inl f)))] sz) := by
  refine Met.M (Qc := fun A => QAv g (fun (u : Unit) => True) (fun (u : Unit) => [(h0, .inr (1, [.ref h1])), (h1, .inl (gJ g, 3, .inr (.inl (setS f x0 v0))))]) A) (by decide) (Nat.le_of_ble_eq_true rfl) rfl ?_
  intro p e s m below meth c hx hb hr hml hw hown hlocks hin A hA hkn hP hD ls hl
  have hl : lv_has ls 4 [(0, .ref h0), (1, .int x0), (2, .long v0)] := hl
  have hS : va_S A s.heap s.heap [] := va_S.rf
  obtain ⟨H, hHe⟩ : ∃ H, H = s.heap := ⟨_, rfl⟩
  obtain ⟨locs, hLe⟩ : ∃ locs : List Loc, locs = [] := ⟨_, rfl⟩
  have hP : va_P g.1 vwCl [(h0, .inr (1, [.ref h1])), (h1, .inl (gJ g, 3, .inr (.inl f)))] H := by rw [hHe]; exact hP
  have hS : va_S A s.heap H locs := by rw [hHe, hLe]; exact hS
  have hgo : W p l e ({ frames := 1, cells := 0, slots := 0, locals := 20 } : Room) s m ([.ref h0, .int x0, .long v0] : List Value).toArray below meth c H locs 0 0 (MQ below (QAv g (fun (u : Unit) => True) (fun (u : Unit) => [(h0, .inr (1, [.ref h1])), (h1, .inl (gJ g, 3, .inr (.inl (setS f x0 v0))))]) A) ([.ref h0, .int x0, .long v0] : List Value).toArray s 0 0 A) (F0 m 0 ls []) := ?_
  · rw [hHe, hLe] at hgo; exact hgo
  clear hHe hLe
  refine lv_iload_n hx hb dX1_set_0 rfl (lv_at hl 1 rfl) ?_
  refine cN_i (As := [.int x0]) (rest := []) hx hb hml hown hw hkn hS hl (c_X6_isPicture l g _ x0 ) sf_X6_isPicture (hkn.nest 0 rfl) ⟨(Nat.le_of_ble_eq_true rfl), (Nat.le_of_ble_eq_true rfl)⟩ rfl rfl rfl rfl (Nat.le_of_ble_eq_true rfl) dX1_set_1 ⟨(Nat.le_of_ble_eq_true rfl), (Nat.le_of_ble_eq_true rfl)⟩ ?_
  refine lv_ifeqB (b := isPic x0) (tgt := 14) hx hb dX1_set_4 (by decide) (fun c_1 => ?_) (fun c_1 => ?_)
  · skip
    have e1 : setS f x0 v0 = f := if_neg (nt_of c_1)
    exact eM_v (g := g) hx hb hr hlocks () (trivial) (show va_P g.1 vwCl [(h0, .inr (1, [.ref h1])), (h1, .inl (gJ g, 3, .inr (.inl (setS f x0 v0))))] H by rw [e1]; exact hP.sub [0, 1] rfl) (show va_D A [(h0, .inr (1, [.ref h1])), (h1, .inl (gJ g, 3, .inr (.inl (setS f x0 v0))))] by rw [e1]; exact hD.sub [0, 1] (by decide) rfl) hS dX1_set_14
  · skip
    refine lv_aload_n hx hb dX1_set_7 rfl (lv_at hl 0 rfl) ?_
    refine va_get (D := g.1) (ci := 1) (v := .ref h1) (C := RX1) (T := TX1) (N := 1) hx hb hw inlX1 hown hkn.1 hP 0 rfl rfl 0 (by decide) (hw _ mw_42) (fun _ h9 => h9) rfl dX1_set_8 ?_
    refine lv_iload_n hx hb dX1_set_11 rfl (lv_at hl 1 rfl) ?_
    refine lv_lload_n hx hb dX1_set_12 rfl (lv_at hl 2 rfl) ?_
    refine va_last hx hb hkn.1 hP hD hS 1 1 rfl rfl (isPic_vp c_1) dX1_set_13 (fun H locs hP hD hS => ?_)
    have hP : va_P g.1 vwCl [(h0, .inr (1, [.ref h1])), (h1, .inl (gJ g, 3, .inr (.inl (vp_updL f (x0).toNatClampNeg v0))))] H := hP
    have hD : va_D A [(h0, .inr (1, [.ref h1])), (h1, .inl (gJ g, 3, .inr (.inl (vp_updL f (x0).toNatClampNeg v0))))] := hD
    have e1 : setS f x0 v0 = (vp_updL f (x0).toNatClampNeg v0) := if_pos c_1
    exact eM_v (g := g) hx hb hr hlocks () (trivial) (show va_P g.1 vwCl [(h0, .inr (1, [.ref h1])), (h1, .inl (gJ g, 3, .inr (.inl (setS f x0 v0))))] H by rw [e1]; exact hP.sub [0, 1] rfl) (show va_D A [(h0, .inr (1, [.ref h1])), (h1, .inl (gJ g, 3, .inr (.inl (setS f x0 v0))))] by rw [e1]; exact hD.sub [0, 1] (by decide) rfl) hS dX1_set_14
set_option maxHeartbeats 4000000 in
set_option maxRecDepth 100000 in
theorem c_X1_copyFrom (l : Launch) (g : GG) (sz : Nat) (h0 : Nat) (h2 : Nat) (h1 : Nat) (f : Nat → Int64) (h3 : Nat) (f1 : Nat → Int64)  : Met l yX1_copyFrom (Cond.code yX1_copyFrom cX1_copyFrom 3 none :: wsL_law) ({ frames := 2, cells := 0, slots := 0, locals := 43 }) (PM g [.ref h0, .ref h2] [(h0, .inr (1, [.ref h1])), (h1, .inl (gJ g, 3, .inr (.inl f))), (h2, .inr (1, [.ref h3])), (h3, .inl (gJ g, 3, .inr (.inl f1)))] sz) (QAv g (fun (u : Unit) => True) (fun (u : Unit) => [(h0, .inr (1, [.ref h1])), (h1, .inl (gJ g, 3, .inr (.inl (cpS f1 f)))), (h2, .inr (1, [.ref h3])), (h3, .inl (gJ g, 3, .inr (.inl f1)))]) (va_A [(h0, .inr (1, [.ref h1])), (h1, .inl (gJ g, 3, .inr (.inl f))), (h2, .inr (1, [.ref h3])), (h3, .inl (gJ g, 3, .inr (.inl f1)))] sz)) 0 0 (va_A [(h0, .inr (1, [.ref h1])), (h1, .inl (gJ g, 3, .inr (.inl f))), (h2, .inr (1, [.ref h3])), (h3, .inl (gJ g, 3, .inr (.inl f1)))] sz) := by
  refine Met.M (Qc := fun A => QAv g (fun (u : Unit) => True) (fun (u : Unit) => [(h0, .inr (1, [.ref h1])), (h1, .inl (gJ g, 3, .inr (.inl (cpS f1 f)))), (h2, .inr (1, [.ref h3])), (h3, .inl (gJ g, 3, .inr (.inl f1)))]) A) (by decide) (Nat.le_of_ble_eq_true rfl) rfl ?_
  intro p e s m below meth c hx hb hr hml hw hown hlocks hin A hA hkn hP hD ls hl
  have hl : lv_has ls 3 [(0, .ref h0), (1, .ref h2)] := hl
  have hS : va_S A s.heap s.heap [] := va_S.rf
  obtain ⟨H, hHe⟩ : ∃ H, H = s.heap := ⟨_, rfl⟩
  obtain ⟨locs, hLe⟩ : ∃ locs : List Loc, locs = [] := ⟨_, rfl⟩
  have hP : va_P g.1 vwCl [(h0, .inr (1, [.ref h1])), (h1, .inl (gJ g, 3, .inr (.inl f))), (h2, .inr (1, [.ref h3])), (h3, .inl (gJ g, 3, .inr (.inl f1)))] H := by rw [hHe]; exact hP
  have hS : va_S A s.heap H locs := by rw [hHe, hLe]; exact hS
  have hgo : W p l e ({ frames := 2, cells := 0, slots := 0, locals := 43 } : Room) s m ([.ref h0, .ref h2] : List Value).toArray below meth c H locs 0 0 (MQ below (QAv g (fun (u : Unit) => True) (fun (u : Unit) => [(h0, .inr (1, [.ref h1])), (h1, .inl (gJ g, 3, .inr (.inl (cpS f1 f)))), (h2, .inr (1, [.ref h3])), (h3, .inl (gJ g, 3, .inr (.inl f1)))]) A) ([.ref h0, .ref h2] : List Value).toArray s 0 0 A) (F0 m 0 ls []) := ?_
  · rw [hHe, hLe] at hgo; exact hgo
  clear hHe hLe
  refine lv_iconst (v := 0) hx hb dX1_copyFrom_0 (by decide) ?_
  refine lv_istore_n (lv' := [(2, .int 0), (0, .ref h0), (1, .ref h2)]) hx hb dX1_copyFrom_1 rfl hl (by decide) rfl (fun ls hl => ?_)
  have lp_2 : ∀ (n_2 : Nat) (i : Nat) (f2 : Nat → Int64), (i ≤ 3) → (f2 = fun j => if j < i then f1 j else f j) → 3 < i + n_2 → ∀ (H : Heap) (locs : List Loc), va_P g.1 vwCl [(h0, .inr (1, [.ref h1])), (h1, .inl (gJ g, 3, .inr (.inl f2))), (h2, .inr (1, [.ref h3])), (h3, .inl (gJ g, 3, .inr (.inl f1)))] H → va_D A [(h0, .inr (1, [.ref h1])), (h1, .inl (gJ g, 3, .inr (.inl f2))), (h2, .inr (1, [.ref h3])), (h3, .inl (gJ g, 3, .inr (.inl f1)))] → va_S A s.heap H locs → ∀ (ls : Array Slot), lv_has ls 3 [(2, .int (nI i)), (0, .ref h0), (1, .ref h2)] → W p l e ({ frames := 2, cells := 0, slots := 0, locals := 43 } : Room) s m ([.ref h0, .ref h2] : List Value).toArray below meth c H locs 0 0 (MQ below (QAv g (fun (u : Unit) => True) (fun (u : Unit) => [(h0, .inr (1, [.ref h1])), (h1, .inl (gJ g, 3, .inr (.inl (cpS f1 f)))), (h2, .inr (1, [.ref h3])), (h3, .inl (gJ g, 3, .inr (.inl f1)))]) A) ([.ref h0, .ref h2] : List Value).toArray s 0 0 A) (F0 m 2 ls []) := by
    intro n_2
    induction n_2 with
    | zero => intro i f2 h_i h_f hfu_2; exact absurd hfu_2 (by omega)
    | succ n_2 ih_2 =>
      intro i f2 h_i h_f hfu_2 H locs hP hD hS ls hl
      refine lv_iload_n hx hb dX1_copyFrom_2 rfl (lv_at hl 0 rfl) ?_
      refine lv_iconst (v := 3) hx hb dX1_copyFrom_3 (by decide) ?_
      refine ic_ge (a := i) (d := 3) (tgt := 23) hx hb dX1_copyFrom_4 (by decide) rfl rfl (by omega) (by omega) (fun c_1 => ?_) (fun c_1 => ?_)
      · skip
        obtain rfl : i = 3 := by omega
        subst h_f
        exact eM_v (g := g) hx hb hr hlocks () (trivial) (hP.sub [0, 1, 2, 3] rfl) (hD.sub [0, 1, 2, 3] (by decide) rfl) hS dX1_copyFrom_23
      · skip
        refine lv_aload_n hx hb dX1_copyFrom_7 rfl (lv_at hl 1 rfl) ?_
        refine lv_iload_n hx hb dX1_copyFrom_8 rfl (lv_at hl 0 rfl) ?_
        refine lv_aload_n hx hb dX1_copyFrom_9 rfl (lv_at hl 2 rfl) ?_
        refine lv_iload_n hx hb dX1_copyFrom_10 rfl (lv_at hl 0 rfl) ?_
        refine cV_l (As := [.int (nI i)]) (rest := [.int (nI i), .ref h0]) hx hb hml hown hw hkn hS hl (c_X1_cells l g _ h2 (nI i) h3 f1  (hP.sub [2, 3] rfl)) vf_X1_cells mw_568 (va_recv hkn.1 hP (ci := 1) (q0 := 2) rfl rfl) ⟨(Nat.le_of_ble_eq_true rfl), (Nat.le_of_ble_eq_true rfl)⟩ rfl rfl rfl rfl (Nat.le_of_ble_eq_true rfl) dX1_copyFrom_11 ⟨(Nat.le_of_ble_eq_true rfl), (Nat.le_of_ble_eq_true rfl)⟩ ?_
        refine lv_eql (show _ = (f1 i) from picS_nI (j := i) (by omega)) ?_
        refine cVM_v (As := [.int (nI i), .long (f1 i)]) (rest := []) (q0 := 0) (wc := [(h0, .inr (1, [.ref h1])), (h1, .inl (gJ g, 3, .inr (.inl f2)))]) (wr := [(h2, .inr (1, [.ref h3])), (h3, .inl (gJ g, 3, .inr (.inl f1)))]) hx hb hml hown hw hkn hS hl hA hP hD [0, 1] [2, 3] rfl rfl (by decide) (by decide) (by decide) (c_X1_set l g _ h0 (nI i) (f1 i) h1 f2 ) vf_X1_set mw_569 rfl rfl ⟨(Nat.le_of_ble_eq_true rfl), (Nat.le_of_ble_eq_true rfl)⟩ rfl rfl rfl rfl (Nat.le_of_ble_eq_true rfl) dX1_copyFrom_14 ⟨(Nat.le_of_ble_eq_true rfl), (Nat.le_of_ble_eq_true rfl)⟩ (fun u H locs hq hP hD hS => ?_)
        have hP : va_P g.1 vwCl [(h0, .inr (1, [.ref h1])), (h1, .inl (gJ g, 3, .inr (.inl (setS f2 (nI i) (f1 i))))), (h2, .inr (1, [.ref h3])), (h3, .inl (gJ g, 3, .inr (.inl f1)))] H := hP.sub [2, 3, 0, 1] rfl
        have hD : va_D A [(h0, .inr (1, [.ref h1])), (h1, .inl (gJ g, 3, .inr (.inl (setS f2 (nI i) (f1 i))))), (h2, .inr (1, [.ref h3])), (h3, .inl (gJ g, 3, .inr (.inl f1)))] := hD.sub [2, 3, 0, 1] (by decide) rfl
        refine lv_iinc (v := (nI (i + 1))) (lv' := [(2, .int (nI (i + 1))), (0, .ref h0), (1, .ref h2)]) hx hb dX1_copyFrom_17 hl (k := 0) rfl (nI_1 i) (by decide) rfl (fun ls hl => ?_)
        refine lv_goto (tgt := 2) hx hb dX1_copyFrom_20 (by decide) ?_
        exact ih_2 (i + 1) (setS f2 (nI i) (f1 i)) (by omega) (by rw [setS_nI (by omega), h_f]; exact cp_step) (by omega) _ _ hP hD hS ls (lv_sub hl [0, 1, 2] rfl)
  exact lp_2 4 0 f (by omega) (by funext j; rw [if_neg (by omega)]) (by omega) _ _ hP hD hS ls (lv_sub hl [0, 1, 2] rfl)
set_option maxHeartbeats 4000000 in
set_option maxRecDepth 100000 in
theorem c_X1_area (l : Launch) (g : GG) (H : Heap) (h0 : Nat) (h1 : Nat) (f : Nat → Int64)  (hP : va_P g.1 vwCl [(h0, .inr (1, [.ref h1])), (h1, .inl (gJ g, 3, .inr (.inl f)))] H) : Met l yX1_area (Cond.code yX1_area cX1_area 3 (some .int) :: wsL_law) ({ frames := 2, cells := 0, slots := 0, locals := 41 }) (PR g [.ref h0] H) (QRi (nI (areaN f)) H) 0 0 NoA := by
  refine Met.R (by decide) (Nat.le_of_ble_eq_true rfl) rfl ?_
  intro p e s m below meth c hx hb hr hml hw hown hlocks hkn hH ls hl
  subst hH
  have hl : lv_has ls 3 [(0, .ref h0)] := hl
  have hS : va_S NoA s.heap s.heap [] := va_S.rf
  refine lv_iconst (v := 0) hx hb dX1_area_0 (by decide) ?_
  refine lv_istore_n (lv' := [(1, .int 0), (0, .ref h0)]) hx hb dX1_area_1 rfl hl (by decide) rfl (fun ls hl => ?_)
  refine lv_iconst (v := 0) hx hb dX1_area_2 (by decide) ?_
  refine lv_istore_n (lv' := [(2, .int 0), (1, .int 0), (0, .ref h0)]) hx hb dX1_area_3 rfl hl (by decide) rfl (fun ls hl => ?_)
  have lp_4 : ∀ (n_4 : Nat) (i : Nat) (a : Nat), (i ≤ 3) → (a = fb_sm (areaF f) i) → 3 < i + n_4 → ∀ (ls : Array Slot), lv_has ls 3 [(2, .int (nI i)), (1, .int (nI a)), (0, .ref h0)] → W p l e ({ frames := 2, cells := 0, slots := 0, locals := 41 } : Room) s m ([.ref h0] : List Value).toArray below meth c s.heap [] 0 0 (MQ below (QRi (nI (areaN f)) s.heap) ([.ref h0] : List Value).toArray s 0 0 NoA) (F0 m 4 ls []) := by
    intro n_4
    induction n_4 with
    | zero => intro i a h_i h_a hfu_4; exact absurd hfu_4 (by omega)
    | succ n_4 ih_4 =>
      intro i a h_i h_a hfu_4 ls hl
      refine lv_iload_n hx hb dX1_area_4 rfl (lv_at hl 0 rfl) ?_
      refine lv_iconst (v := 3) hx hb dX1_area_5 (by decide) ?_
      refine ic_ge (a := i) (d := 3) (tgt := 26) hx hb dX1_area_6 (by decide) rfl rfl (by omega) (by omega) (fun c_1 => ?_) (fun c_1 => ?_)
      · skip
        refine lv_iload_n hx hb dX1_area_26 rfl (lv_at hl 1 rfl) ?_
        exact eR_i hx hb hr hlocks (by rw [h_a, show i = 3 by omega]; rfl) dX1_area_27
      · skip
        refine lv_iload_n hx hb dX1_area_9 rfl (lv_at hl 1 rfl) ?_
        refine lv_aload_n hx hb dX1_area_10 rfl (lv_at hl 2 rfl) ?_
        refine lv_iload_n hx hb dX1_area_11 rfl (lv_at hl 0 rfl) ?_
        refine cV_l (As := [.int (nI i)]) (rest := [.int (nI a)]) hx hb hml hown hw hkn hS hl (c_X1_cells l g _ h0 (nI i) h1 f  (hP.sub [0, 1] rfl)) vf_X1_cells mw_568 (va_recv hkn.1 hP (ci := 1) (q0 := 0) rfl rfl) ⟨(Nat.le_of_ble_eq_true rfl), (Nat.le_of_ble_eq_true rfl)⟩ rfl rfl rfl rfl (Nat.le_of_ble_eq_true rfl) dX1_area_12 ⟨(Nat.le_of_ble_eq_true rfl), (Nat.le_of_ble_eq_true rfl)⟩ ?_
        refine lv_eql (show _ = (f i) from picS_nI (j := i) (by omega)) ?_
        refine cS_i (As := [.long (f i)]) (rest := [.int (nI a)]) hx hb hml hown hw hkn hS hl (c_J13_bitCount l g _ (f i) ) sf_J13_bitCount_95d88 mw_773 ⟨(Nat.le_of_ble_eq_true rfl), (Nat.le_of_ble_eq_true rfl)⟩ rfl rfl rfl rfl (Nat.le_of_ble_eq_true rfl) dX1_area_15 ⟨(Nat.le_of_ble_eq_true rfl), (Nat.le_of_ble_eq_true rfl)⟩ ?_
        refine lv_iadd hx hb dX1_area_18 ?_
        refine lv_eqi (nI_add a (pcn (f i))) ?_
        refine lv_istore_n (lv' := [(1, .int (nI (a + (pcn (f i))))), (2, .int (nI i)), (0, .ref h0)]) hx hb dX1_area_19 rfl hl (by decide) rfl (fun ls hl => ?_)
        refine lv_iinc (v := (nI (i + 1))) (lv' := [(2, .int (nI (i + 1))), (1, .int (nI (a + (pcn (f i))))), (0, .ref h0)]) hx hb dX1_area_20 hl (k := 1) rfl (nI_1 i) (by decide) rfl (fun ls hl => ?_)
        refine lv_goto (tgt := 4) hx hb dX1_area_23 (by decide) ?_
        exact ih_4 (i + 1) (a + (pcn (f i))) (by omega) (by rw [h_a, fb_sm_succ]; rfl) (by omega) ls (lv_sub hl [0, 1, 2] rfl)
  exact lp_4 4 0 0 (by omega) (rfl) (by omega) ls (lv_sub hl [0, 1, 2] rfl)
set_option maxHeartbeats 4000000 in
set_option maxRecDepth 100000 in
theorem c_X1_blackIn (l : Launch) (g : GG) (H : Heap) (h0 : Nat) (k : Nat) (h1 : Nat) (f : Nat → Int64) (hk : k < 64) (hP : va_P g.1 vwCl [(h0, .inr (1, [.ref h1])), (h1, .inl (gJ g, 3, .inr (.inl f)))] H) : Met l yX1_blackIn (Cond.code yX1_blackIn cX1_blackIn 4 (some .int) :: wsL_law) ({ frames := 2, cells := 0, slots := 0, locals := 41 }) (PR g [.ref h0, .int (nI k)] H) (QRi (nI (binN f k)) H) 0 0 NoA := by
  refine Met.R (by decide) (Nat.le_of_ble_eq_true rfl) rfl ?_
  intro p e s m below meth c hx hb hr hml hw hown hlocks hkn hH ls hl
  subst hH
  have hl : lv_has ls 4 [(0, .ref h0), (1, .int (nI k))] := hl
  have hS : va_S NoA s.heap s.heap [] := va_S.rf
  refine lv_iconst (v := 0) hx hb dX1_blackIn_0 (by decide) ?_
  refine lv_istore_n (lv' := [(2, .int 0), (0, .ref h0), (1, .int (nI k))]) hx hb dX1_blackIn_1 rfl hl (by decide) rfl (fun ls hl => ?_)
  refine lv_iconst (v := 0) hx hb dX1_blackIn_2 (by decide) ?_
  refine lv_istore_n (lv' := [(3, .int 0), (2, .int 0), (0, .ref h0), (1, .int (nI k))]) hx hb dX1_blackIn_3 rfl hl (by decide) rfl (fun ls hl => ?_)
  have lp_4 : ∀ (n_4 : Nat) (i : Nat) (a : Nat), (i ≤ 3) → (a = fb_ct (fun j => bt (f j) k) i) → 3 < i + n_4 → ∀ (ls : Array Slot), lv_has ls 4 [(3, .int (nI i)), (2, .int (nI a)), (0, .ref h0), (1, .int (nI k))] → W p l e ({ frames := 2, cells := 0, slots := 0, locals := 41 } : Room) s m ([.ref h0, .int (nI k)] : List Value).toArray below meth c s.heap [] 0 0 (MQ below (QRi (nI (binN f k)) s.heap) ([.ref h0, .int (nI k)] : List Value).toArray s 0 0 NoA) (F0 m 4 ls []) := by
    intro n_4
    induction n_4 with
    | zero => intro i a h_i h_a hfu_4; exact absurd hfu_4 (by omega)
    | succ n_4 ih_4 =>
      intro i a h_i h_a hfu_4 ls hl
      refine lv_iload_n hx hb dX1_blackIn_4 rfl (lv_at hl 0 rfl) ?_
      refine lv_iconst (v := 3) hx hb dX1_blackIn_5 (by decide) ?_
      refine ic_ge (a := i) (d := 3) (tgt := 35) hx hb dX1_blackIn_6 (by decide) rfl rfl (by omega) (by omega) (fun c_1 => ?_) (fun c_1 => ?_)
      · skip
        refine lv_iload_n hx hb dX1_blackIn_35 rfl (lv_at hl 1 rfl) ?_
        exact eR_i hx hb hr hlocks (by rw [h_a, show i = 3 by omega]; rfl) dX1_blackIn_36
      · skip
        refine lv_iload_n hx hb dX1_blackIn_9 rfl (lv_at hl 1 rfl) ?_
        refine lv_aload_n hx hb dX1_blackIn_10 rfl (lv_at hl 2 rfl) ?_
        refine lv_iload_n hx hb dX1_blackIn_11 rfl (lv_at hl 0 rfl) ?_
        refine cV_l (As := [.int (nI i)]) (rest := [.int (nI a)]) hx hb hml hown hw hkn hS hl (c_X1_cells l g _ h0 (nI i) h1 f  (hP.sub [0, 1] rfl)) vf_X1_cells mw_568 (va_recv hkn.1 hP (ci := 1) (q0 := 0) rfl rfl) ⟨(Nat.le_of_ble_eq_true rfl), (Nat.le_of_ble_eq_true rfl)⟩ rfl rfl rfl rfl (Nat.le_of_ble_eq_true rfl) dX1_blackIn_12 ⟨(Nat.le_of_ble_eq_true rfl), (Nat.le_of_ble_eq_true rfl)⟩ ?_
        refine lv_eql (show _ = (f i) from picS_nI (j := i) (by omega)) ?_
        refine lv_iload_n hx hb dX1_blackIn_15 rfl (lv_at hl 3 rfl) ?_
        refine cS_i (As := [.long (f i), .int (nI k)]) (rest := [.int (nI a)]) hx hb hml hown hw hkn hS hl (c_X2_isBlack l g _ (f i) k (by omega)) sf_X2_isBlack mw_687 ⟨(Nat.le_of_ble_eq_true rfl), (Nat.le_of_ble_eq_true rfl)⟩ rfl rfl rfl rfl (Nat.le_of_ble_eq_true rfl) dX1_blackIn_16 ⟨(Nat.le_of_ble_eq_true rfl), (Nat.le_of_ble_eq_true rfl)⟩ ?_
        have mg_27 : W p l e ({ frames := 2, cells := 0, slots := 0, locals := 41 } : Room) s m ([.ref h0, .int (nI k)] : List Value).toArray below meth c s.heap [] 0 0 (MQ below (QRi (nI (binN f k)) s.heap) ([.ref h0, .int (nI k)] : List Value).toArray s 0 0 NoA) (F0 m 27 ls (.int (if bt (f i) k = true then 1 else 0) :: [.int (nI a)])) := by
          refine lv_eqi (show _ = (nI (if bt (f i) k = true then 1 else 0)) from ifI rfl rfl) ?_
          refine lv_iadd hx hb dX1_blackIn_27 ?_
          refine lv_eqi (nI_add a (if bt (f i) k = true then 1 else 0)) ?_
          refine lv_istore_n (lv' := [(2, .int (nI (a + ((if bt (f i) k = true then 1 else 0))))), (3, .int (nI i)), (0, .ref h0), (1, .int (nI k))]) hx hb dX1_blackIn_28 rfl hl (by decide) rfl (fun ls hl => ?_)
          refine lv_iinc (v := (nI (i + 1))) (lv' := [(3, .int (nI (i + 1))), (2, .int (nI (a + ((if bt (f i) k = true then 1 else 0))))), (0, .ref h0), (1, .int (nI k))]) hx hb dX1_blackIn_29 hl (k := 1) rfl (nI_1 i) (by decide) rfl (fun ls hl => ?_)
          refine lv_goto (tgt := 4) hx hb dX1_blackIn_32 (by decide) ?_
          exact ih_4 (i + 1) (a + ((if bt (f i) k = true then 1 else 0))) (by omega) (by rw [h_a, fb_ct_succ]) (by omega) ls (lv_sub hl [0, 1, 2, 3] rfl)
        refine lv_ifeqB (b := bt (f i) k) (tgt := 26) hx hb dX1_blackIn_19 (by decide) (fun c_2 => ?_) (fun c_2 => ?_)
        · skip
          refine lv_iconst (v := 0) hx hb dX1_blackIn_26 (by decide) ?_
          exact lv_eqi (by rw [if_neg (nt_of c_2)]) mg_27
        · skip
          refine lv_iconst (v := 1) hx hb dX1_blackIn_22 (by decide) ?_
          refine lv_goto (tgt := 27) hx hb dX1_blackIn_23 (by decide) ?_
          exact lv_eqi (by rw [if_pos c_2]) mg_27
  exact lp_4 4 0 0 (by omega) (rfl) (by omega) ls (lv_sub hl [0, 1, 2, 3] rfl)
set_option maxHeartbeats 4000000 in
set_option maxRecDepth 100000 in
theorem c_X1_combines (l : Launch) (g : GG) (sz : Nat) (h0 : Nat) (k : Int32) (a : Int32) (b : Int32) (h1 : Nat) (f : Nat → Int64)  : Met l yX1_combines (Cond.code yX1_combines cX1_combines 4 (some .boolean) :: wsL_law) ({ frames := 2, cells := 0, slots := 0, locals := 43 }) (PM g [.ref h0, .int k, .int a, .int b] [(h0, .inr (1, [.ref h1])), (h1, .inl (gJ g, 3, .inr (.inl f)))] sz) (QAi g (fun (r : Int32) (u : Unit) => r = b2i (cbB a b)) (fun (u : Unit) => [(h0, .inr (1, [.ref h1])), (h1, .inl (gJ g, 3, .inr (.inl (cbF f k a b))))]) (va_A [(h0, .inr (1, [.ref h1])), (h1, .inl (gJ g, 3, .inr (.inl f)))] sz)) 0 0 (va_A [(h0, .inr (1, [.ref h1])), (h1, .inl (gJ g, 3, .inr (.inl f)))] sz) := by
  refine Met.M (Qc := fun A => QAi g (fun (r : Int32) (u : Unit) => r = b2i (cbB a b)) (fun (u : Unit) => [(h0, .inr (1, [.ref h1])), (h1, .inl (gJ g, 3, .inr (.inl (cbF f k a b))))]) A) (by decide) (Nat.le_of_ble_eq_true rfl) rfl ?_
  intro p e s m below meth c hx hb hr hml hw hown hlocks hin A hA hkn hP hD ls hl
  have hl : lv_has ls 4 [(0, .ref h0), (1, .int k), (2, .int a), (3, .int b)] := hl
  have hS : va_S A s.heap s.heap [] := va_S.rf
  obtain ⟨H, hHe⟩ : ∃ H, H = s.heap := ⟨_, rfl⟩
  obtain ⟨locs, hLe⟩ : ∃ locs : List Loc, locs = [] := ⟨_, rfl⟩
  have hP : va_P g.1 vwCl [(h0, .inr (1, [.ref h1])), (h1, .inl (gJ g, 3, .inr (.inl f)))] H := by rw [hHe]; exact hP
  have hS : va_S A s.heap H locs := by rw [hHe, hLe]; exact hS
  have hgo : W p l e ({ frames := 2, cells := 0, slots := 0, locals := 43 } : Room) s m ([.ref h0, .int k, .int a, .int b] : List Value).toArray below meth c H locs 0 0 (MQ below (QAi g (fun (r : Int32) (u : Unit) => r = b2i (cbB a b)) (fun (u : Unit) => [(h0, .inr (1, [.ref h1])), (h1, .inl (gJ g, 3, .inr (.inl (cbF f k a b))))]) A) ([.ref h0, .int k, .int a, .int b] : List Value).toArray s 0 0 A) (F0 m 0 ls []) := ?_
  · rw [hHe, hLe] at hgo; exact hgo
  clear hHe hLe
  refine lv_iload_n hx hb dX1_combines_0 rfl (lv_at hl 2 rfl) ?_
  refine cN_i (As := [.int a]) (rest := []) hx hb hml hown hw hkn hS hl (c_X6_isPicture l g _ a ) sf_X6_isPicture (hkn.nest 0 rfl) ⟨(Nat.le_of_ble_eq_true rfl), (Nat.le_of_ble_eq_true rfl)⟩ rfl rfl rfl rfl (Nat.le_of_ble_eq_true rfl) dX1_combines_1 ⟨(Nat.le_of_ble_eq_true rfl), (Nat.le_of_ble_eq_true rfl)⟩ ?_
  refine lv_ifeqB (b := isPic a) (tgt := 19) hx hb dX1_combines_4 (by decide) (fun c_1 => ?_) (fun c_1 => ?_)
  · skip
    refine lv_iconst (v := 0) hx hb dX1_combines_19 (by decide) ?_
    have eb : cbB a b = false := by simp [cbB, c_1]
    have e1 : cbF f k a b = f := if_neg (nt_of eb)
    exact eM_z (g := g) (b := cbB a b) hx hb hr hlocks () (by rw [eb]; rfl) (by rw [eb]; rfl) (show va_P g.1 vwCl [(h0, .inr (1, [.ref h1])), (h1, .inl (gJ g, 3, .inr (.inl (cbF f k a b))))] H by rw [e1]; exact hP.sub [0, 1] rfl) (show va_D A [(h0, .inr (1, [.ref h1])), (h1, .inl (gJ g, 3, .inr (.inl (cbF f k a b))))] by rw [e1]; exact hD.sub [0, 1] (by decide) rfl) hS dX1_combines_20
  · skip
    refine lv_iload_n hx hb dX1_combines_7 rfl (lv_at hl 3 rfl) ?_
    refine cN_i (As := [.int b]) (rest := []) hx hb hml hown hw hkn hS hl (c_X6_isPicture l g _ b ) sf_X6_isPicture (hkn.nest 0 rfl) ⟨(Nat.le_of_ble_eq_true rfl), (Nat.le_of_ble_eq_true rfl)⟩ rfl rfl rfl rfl (Nat.le_of_ble_eq_true rfl) dX1_combines_8 ⟨(Nat.le_of_ble_eq_true rfl), (Nat.le_of_ble_eq_true rfl)⟩ ?_
    refine lv_ifeqB (b := isPic b) (tgt := 19) hx hb dX1_combines_11 (by decide) (fun c_2 => ?_) (fun c_2 => ?_)
    · skip
      refine lv_iconst (v := 0) hx hb dX1_combines_19 (by decide) ?_
      have eb : cbB a b = false := by simp [cbB, c_1, c_2]
      have e1 : cbF f k a b = f := if_neg (nt_of eb)
      exact eM_z (g := g) (b := cbB a b) hx hb hr hlocks () (by rw [eb]; rfl) (by rw [eb]; rfl) (show va_P g.1 vwCl [(h0, .inr (1, [.ref h1])), (h1, .inl (gJ g, 3, .inr (.inl (cbF f k a b))))] H by rw [e1]; exact hP.sub [0, 1] rfl) (show va_D A [(h0, .inr (1, [.ref h1])), (h1, .inl (gJ g, 3, .inr (.inl (cbF f k a b))))] by rw [e1]; exact hD.sub [0, 1] (by decide) rfl) hS dX1_combines_20
    · skip
      refine lv_iload_n hx hb dX1_combines_14 rfl (lv_at hl 2 rfl) ?_
      refine lv_iload_n hx hb dX1_combines_15 rfl (lv_at hl 3 rfl) ?_
      refine lv_icmp_ne (tgt := 21) hx hb dX1_combines_16 (by decide) (fun c_3 => ?_) (fun c_3 => ?_)
      · skip
        refine lv_aload_n hx hb dX1_combines_21 rfl (lv_at hl 0 rfl) ?_
        refine lv_iload_n hx hb dX1_combines_22 rfl (lv_at hl 2 rfl) ?_
        refine lv_iload_n hx hb dX1_combines_23 rfl (lv_at hl 1 rfl) ?_
        refine lv_aload_n hx hb dX1_combines_24 rfl (lv_at hl 0 rfl) ?_
        refine lv_iload_n hx hb dX1_combines_25 rfl (lv_at hl 2 rfl) ?_
        refine cV_l (As := [.int a]) (rest := [.int k, .int a, .ref h0]) hx hb hml hown hw hkn hS hl (c_X1_cells l g _ h0 a h1 f  (hP.sub [0, 1] rfl)) vf_X1_cells mw_568 (va_recv hkn.1 hP (ci := 1) (q0 := 0) rfl rfl) ⟨(Nat.le_of_ble_eq_true rfl), (Nat.le_of_ble_eq_true rfl)⟩ rfl rfl rfl rfl (Nat.le_of_ble_eq_true rfl) dX1_combines_26 ⟨(Nat.le_of_ble_eq_true rfl), (Nat.le_of_ble_eq_true rfl)⟩ ?_
        refine lv_aload_n hx hb dX1_combines_29 rfl (lv_at hl 0 rfl) ?_
        refine lv_iload_n hx hb dX1_combines_30 rfl (lv_at hl 3 rfl) ?_
        refine cV_l (As := [.int b]) (rest := [.long (picS f a), .int k, .int a, .ref h0]) hx hb hml hown hw hkn hS hl (c_X1_cells l g _ h0 b h1 f  (hP.sub [0, 1] rfl)) vf_X1_cells mw_568 (va_recv hkn.1 hP (ci := 1) (q0 := 0) rfl rfl) ⟨(Nat.le_of_ble_eq_true rfl), (Nat.le_of_ble_eq_true rfl)⟩ rfl rfl rfl rfl (Nat.le_of_ble_eq_true rfl) dX1_combines_31 ⟨(Nat.le_of_ble_eq_true rfl), (Nat.le_of_ble_eq_true rfl)⟩ ?_
        refine cS_l (As := [.int k, .long (picS f a), .long (picS f b)]) (rest := [.int a, .ref h0]) hx hb hml hown hw hkn hS hl (c_X2_combined l g _ k (picS f a) (picS f b) ) sf_X2_combined mw_578 ⟨(Nat.le_of_ble_eq_true rfl), (Nat.le_of_ble_eq_true rfl)⟩ rfl rfl rfl rfl (Nat.le_of_ble_eq_true rfl) dX1_combines_34 ⟨(Nat.le_of_ble_eq_true rfl), (Nat.le_of_ble_eq_true rfl)⟩ ?_
        refine cVM_v (As := [.int a, .long (cmbS k (picS f a) (picS f b))]) (rest := []) (q0 := 0) (wc := [(h0, .inr (1, [.ref h1])), (h1, .inl (gJ g, 3, .inr (.inl f)))]) (wr := []) hx hb hml hown hw hkn hS hl hA hP hD [0, 1] [] rfl rfl (by decide) (by decide) (by decide) (c_X1_set l g _ h0 a (cmbS k (picS f a) (picS f b)) h1 f ) vf_X1_set mw_569 rfl rfl ⟨(Nat.le_of_ble_eq_true rfl), (Nat.le_of_ble_eq_true rfl)⟩ rfl rfl rfl rfl (Nat.le_of_ble_eq_true rfl) dX1_combines_37 ⟨(Nat.le_of_ble_eq_true rfl), (Nat.le_of_ble_eq_true rfl)⟩ (fun u H locs hq hP hD hS => ?_)
        have hP : va_P g.1 vwCl [(h0, .inr (1, [.ref h1])), (h1, .inl (gJ g, 3, .inr (.inl (setS f a (cmbS k (picS f a) (picS f b))))))] H := hP.sub [0, 1] rfl
        have hD : va_D A [(h0, .inr (1, [.ref h1])), (h1, .inl (gJ g, 3, .inr (.inl (setS f a (cmbS k (picS f a) (picS f b))))))] := hD.sub [0, 1] (by decide) rfl
        refine lv_iconst (v := 1) hx hb dX1_combines_40 (by decide) ?_
        have eb : cbB a b = true := by simp [cbB, c_1, c_2, c_3]
        have e1 : cbF f k a b = (setS f a (cmbS k (picS f a) (picS f b))) := if_pos eb
        exact eM_z (g := g) (b := cbB a b) hx hb hr hlocks () (by rw [eb]; rfl) (by rw [eb]; rfl) (show va_P g.1 vwCl [(h0, .inr (1, [.ref h1])), (h1, .inl (gJ g, 3, .inr (.inl (cbF f k a b))))] H by rw [e1]; exact hP.sub [0, 1] rfl) (show va_D A [(h0, .inr (1, [.ref h1])), (h1, .inl (gJ g, 3, .inr (.inl (cbF f k a b))))] by rw [e1]; exact hD.sub [0, 1] (by decide) rfl) hS dX1_combines_41
      · skip
        refine lv_iconst (v := 0) hx hb dX1_combines_19 (by decide) ?_
        have eb : cbB a b = false := by simp [cbB, c_1, c_2, c_3]
        have e1 : cbF f k a b = f := if_neg (nt_of eb)
        exact eM_z (g := g) (b := cbB a b) hx hb hr hlocks () (by rw [eb]; rfl) (by rw [eb]; rfl) (show va_P g.1 vwCl [(h0, .inr (1, [.ref h1])), (h1, .inl (gJ g, 3, .inr (.inl (cbF f k a b))))] H by rw [e1]; exact hP.sub [0, 1] rfl) (show va_D A [(h0, .inr (1, [.ref h1])), (h1, .inl (gJ g, 3, .inr (.inl (cbF f k a b))))] by rw [e1]; exact hD.sub [0, 1] (by decide) rfl) hS dX1_combines_20
set_option maxHeartbeats 4000000 in
set_option maxRecDepth 100000 in
theorem c_X1_moves (l : Launch) (g : GG) (sz : Nat) (h0 : Nat) (k : Int32) (x0 : Int32) (h1 : Nat) (f : Nat → Int64)  : Met l yX1_moves (Cond.code yX1_moves cX1_moves 5 (some .boolean) :: wsL_law) ({ frames := 2, cells := 0, slots := 0, locals := 46 }) (PM g [.ref h0, .int k, .int x0] [(h0, .inr (1, [.ref h1])), (h1, .inl (gJ g, 3, .inr (.inl f)))] sz) (QAi g (fun (r : Int32) (u : Unit) => r = b2i (isPic x0)) (fun (u : Unit) => [(h0, .inr (1, [.ref h1])), (h1, .inl (gJ g, 3, .inr (.inl (mvF f k x0))))]) (va_A [(h0, .inr (1, [.ref h1])), (h1, .inl (gJ g, 3, .inr (.inl f)))] sz)) 0 0 (va_A [(h0, .inr (1, [.ref h1])), (h1, .inl (gJ g, 3, .inr (.inl f)))] sz) := by
  refine Met.M (Qc := fun A => QAi g (fun (r : Int32) (u : Unit) => r = b2i (isPic x0)) (fun (u : Unit) => [(h0, .inr (1, [.ref h1])), (h1, .inl (gJ g, 3, .inr (.inl (mvF f k x0))))]) A) (by decide) (Nat.le_of_ble_eq_true rfl) rfl ?_
  intro p e s m below meth c hx hb hr hml hw hown hlocks hin A hA hkn hP hD ls hl
  have hl : lv_has ls 5 [(0, .ref h0), (1, .int k), (2, .int x0)] := hl
  have hS : va_S A s.heap s.heap [] := va_S.rf
  obtain ⟨H, hHe⟩ : ∃ H, H = s.heap := ⟨_, rfl⟩
  obtain ⟨locs, hLe⟩ : ∃ locs : List Loc, locs = [] := ⟨_, rfl⟩
  have hP : va_P g.1 vwCl [(h0, .inr (1, [.ref h1])), (h1, .inl (gJ g, 3, .inr (.inl f)))] H := by rw [hHe]; exact hP
  have hS : va_S A s.heap H locs := by rw [hHe, hLe]; exact hS
  have hgo : W p l e ({ frames := 2, cells := 0, slots := 0, locals := 46 } : Room) s m ([.ref h0, .int k, .int x0] : List Value).toArray below meth c H locs 0 0 (MQ below (QAi g (fun (r : Int32) (u : Unit) => r = b2i (isPic x0)) (fun (u : Unit) => [(h0, .inr (1, [.ref h1])), (h1, .inl (gJ g, 3, .inr (.inl (mvF f k x0))))]) A) ([.ref h0, .int k, .int x0] : List Value).toArray s 0 0 A) (F0 m 0 ls []) := ?_
  · rw [hHe, hLe] at hgo; exact hgo
  clear hHe hLe
  refine lv_iload_n hx hb dX1_moves_0 rfl (lv_at hl 2 rfl) ?_
  refine cN_i (As := [.int x0]) (rest := []) hx hb hml hown hw hkn hS hl (c_X6_isPicture l g _ x0 ) sf_X6_isPicture (hkn.nest 0 rfl) ⟨(Nat.le_of_ble_eq_true rfl), (Nat.le_of_ble_eq_true rfl)⟩ rfl rfl rfl rfl (Nat.le_of_ble_eq_true rfl) dX1_moves_1 ⟨(Nat.le_of_ble_eq_true rfl), (Nat.le_of_ble_eq_true rfl)⟩ ?_
  refine lv_ifneB (b := isPic x0) (tgt := 9) hx hb dX1_moves_4 (by decide) (fun c_1 => ?_) (fun c_1 => ?_)
  · skip
    refine lv_aload_n hx hb dX1_moves_9 rfl (lv_at hl 0 rfl) ?_
    refine lv_iload_n hx hb dX1_moves_10 rfl (lv_at hl 2 rfl) ?_
    refine cV_l (As := [.int x0]) (rest := []) hx hb hml hown hw hkn hS hl (c_X1_cells l g _ h0 x0 h1 f  (hP.sub [0, 1] rfl)) vf_X1_cells mw_568 (va_recv hkn.1 hP (ci := 1) (q0 := 0) rfl rfl) ⟨(Nat.le_of_ble_eq_true rfl), (Nat.le_of_ble_eq_true rfl)⟩ rfl rfl rfl rfl (Nat.le_of_ble_eq_true rfl) dX1_moves_11 ⟨(Nat.le_of_ble_eq_true rfl), (Nat.le_of_ble_eq_true rfl)⟩ ?_
    refine lv_lstore_n (lv' := [(3, .long (picS f x0)), (0, .ref h0), (1, .int k), (2, .int x0)]) hx hb dX1_moves_14 rfl hl (by decide) rfl (fun ls hl => ?_)
    refine lv_aload_n hx hb dX1_moves_15 rfl (lv_at hl 1 rfl) ?_
    refine lv_iload_n hx hb dX1_moves_16 rfl (lv_at hl 3 rfl) ?_
    refine lv_iload_n hx hb dX1_moves_17 rfl (lv_at hl 2 rfl) ?_
    refine lv_iconst (v := 4) hx hb dX1_moves_18 (by decide) ?_
    have mg_33 : W p l e ({ frames := 2, cells := 0, slots := 0, locals := 46 } : Room) s m ([.ref h0, .int k, .int x0] : List Value).toArray below meth c H locs 0 0 (MQ below (QAi g (fun (r : Int32) (u : Unit) => r = b2i (isPic x0)) (fun (u : Unit) => [(h0, .inr (1, [.ref h1])), (h1, .inl (gJ g, 3, .inr (.inl (mvF f k x0))))]) A) ([.ref h0, .int k, .int x0] : List Value).toArray s 0 0 A) (F0 m 33 ls (.long (if k = 4 then (tuS (picS f x0)) else (flS (picS f x0))) :: [.int x0, .ref h0])) := by
      refine cVM_v (As := [.int x0, .long (if k = 4 then (tuS (picS f x0)) else (flS (picS f x0)))]) (rest := []) (q0 := 0) (wc := [(h0, .inr (1, [.ref h1])), (h1, .inl (gJ g, 3, .inr (.inl f)))]) (wr := []) hx hb hml hown hw hkn hS hl hA hP hD [0, 1] [] rfl rfl (by decide) (by decide) (by decide) (c_X1_set l g _ h0 x0 (if k = 4 then (tuS (picS f x0)) else (flS (picS f x0))) h1 f ) vf_X1_set mw_569 rfl rfl ⟨(Nat.le_of_ble_eq_true rfl), (Nat.le_of_ble_eq_true rfl)⟩ rfl rfl rfl rfl (Nat.le_of_ble_eq_true rfl) dX1_moves_33 ⟨(Nat.le_of_ble_eq_true rfl), (Nat.le_of_ble_eq_true rfl)⟩ (fun u H locs hq hP hD hS => ?_)
      have hP : va_P g.1 vwCl [(h0, .inr (1, [.ref h1])), (h1, .inl (gJ g, 3, .inr (.inl (setS f x0 (if k = 4 then (tuS (picS f x0)) else (flS (picS f x0)))))))] H := hP.sub [0, 1] rfl
      have hD : va_D A [(h0, .inr (1, [.ref h1])), (h1, .inl (gJ g, 3, .inr (.inl (setS f x0 (if k = 4 then (tuS (picS f x0)) else (flS (picS f x0)))))))] := hD.sub [0, 1] (by decide) rfl
      refine lv_iconst (v := 1) hx hb dX1_moves_36 (by decide) ?_
      have e1 : mvF f k x0 = (setS f x0 (if k = 4 then (tuS (picS f x0)) else (flS (picS f x0)))) := if_pos c_1
      exact eM_z (g := g) (b := isPic x0) hx hb hr hlocks () (by rw [c_1]; rfl) (by rw [c_1]; rfl) (show va_P g.1 vwCl [(h0, .inr (1, [.ref h1])), (h1, .inl (gJ g, 3, .inr (.inl (mvF f k x0))))] H by rw [e1]; exact hP.sub [0, 1] rfl) (show va_D A [(h0, .inr (1, [.ref h1])), (h1, .inl (gJ g, 3, .inr (.inl (mvF f k x0))))] by rw [e1]; exact hD.sub [0, 1] (by decide) rfl) hS dX1_moves_37
    refine lv_icmp_ne (tgt := 29) hx hb dX1_moves_19 (by decide) (fun c_3 => ?_) (fun c_3 => ?_)
    · skip
      refine lv_lload_n hx hb dX1_moves_29 rfl (lv_at hl 0 rfl) ?_
      refine cS_l (As := [.long (picS f x0)]) (rest := [.int x0, .ref h0]) hx hb hml hown hw hkn hS hl (c_X2_flipped l g _ (picS f x0) ) sf_X2_flipped mw_584 ⟨(Nat.le_of_ble_eq_true rfl), (Nat.le_of_ble_eq_true rfl)⟩ rfl rfl rfl rfl (Nat.le_of_ble_eq_true rfl) dX1_moves_30 ⟨(Nat.le_of_ble_eq_true rfl), (Nat.le_of_ble_eq_true rfl)⟩ ?_
      exact lv_eql (by rw [if_neg c_3]) mg_33
    · skip
      refine lv_lload_n hx hb dX1_moves_22 rfl (lv_at hl 0 rfl) ?_
      refine cS_l (As := [.long (picS f x0)]) (rest := [.int x0, .ref h0]) hx hb hml hown hw hkn hS hl (c_X2_turned l g _ (picS f x0) ) sf_X2_turned mw_583 ⟨(Nat.le_of_ble_eq_true rfl), (Nat.le_of_ble_eq_true rfl)⟩ rfl rfl rfl rfl (Nat.le_of_ble_eq_true rfl) dX1_moves_23 ⟨(Nat.le_of_ble_eq_true rfl), (Nat.le_of_ble_eq_true rfl)⟩ ?_
      refine lv_goto (tgt := 33) hx hb dX1_moves_26 (by decide) ?_
      exact lv_eql (by rw [if_pos c_3]) mg_33
  · skip
    refine lv_iconst (v := 0) hx hb dX1_moves_7 (by decide) ?_
    have e1 : mvF f k x0 = f := if_neg (nt_of c_1)
    exact eM_z (g := g) (b := isPic x0) hx hb hr hlocks () (by rw [c_1]; rfl) (by rw [c_1]; rfl) (show va_P g.1 vwCl [(h0, .inr (1, [.ref h1])), (h1, .inl (gJ g, 3, .inr (.inl (mvF f k x0))))] H by rw [e1]; exact hP.sub [0, 1] rfl) (show va_D A [(h0, .inr (1, [.ref h1])), (h1, .inl (gJ g, 3, .inr (.inl (mvF f k x0))))] by rw [e1]; exact hD.sub [0, 1] (by decide) rfl) hS dX1_moves_8
set_option maxHeartbeats 4000000 in
set_option maxRecDepth 100000 in
theorem c_X1_scales (l : Launch) (g : GG) (sz : Nat) (h0 : Nat) (k : Int32) (x0 : Int32) (q0 : Int32) (h1 : Nat) (f : Nat → Int64)  : Met l yX1_scales (Cond.code yX1_scales cX1_scales 6 (some .boolean) :: wsL_law) ({ frames := 2, cells := 0, slots := 0, locals := 48 }) (PM g [.ref h0, .int k, .int x0, .int q0] [(h0, .inr (1, [.ref h1])), (h1, .inl (gJ g, 3, .inr (.inl f)))] sz) (QAi g (fun (r : Int32) (u : Unit) => r = b2i (scB x0 q0)) (fun (u : Unit) => [(h0, .inr (1, [.ref h1])), (h1, .inl (gJ g, 3, .inr (.inl (scF f k x0 q0))))]) (va_A [(h0, .inr (1, [.ref h1])), (h1, .inl (gJ g, 3, .inr (.inl f)))] sz)) 0 0 (va_A [(h0, .inr (1, [.ref h1])), (h1, .inl (gJ g, 3, .inr (.inl f)))] sz) := by
  refine Met.M (Qc := fun A => QAi g (fun (r : Int32) (u : Unit) => r = b2i (scB x0 q0)) (fun (u : Unit) => [(h0, .inr (1, [.ref h1])), (h1, .inl (gJ g, 3, .inr (.inl (scF f k x0 q0))))]) A) (by decide) (Nat.le_of_ble_eq_true rfl) rfl ?_
  intro p e s m below meth c hx hb hr hml hw hown hlocks hin A hA hkn hP hD ls hl
  have hl : lv_has ls 6 [(0, .ref h0), (1, .int k), (2, .int x0), (3, .int q0)] := hl
  have hS : va_S A s.heap s.heap [] := va_S.rf
  obtain ⟨H, hHe⟩ : ∃ H, H = s.heap := ⟨_, rfl⟩
  obtain ⟨locs, hLe⟩ : ∃ locs : List Loc, locs = [] := ⟨_, rfl⟩
  have hP : va_P g.1 vwCl [(h0, .inr (1, [.ref h1])), (h1, .inl (gJ g, 3, .inr (.inl f)))] H := by rw [hHe]; exact hP
  have hS : va_S A s.heap H locs := by rw [hHe, hLe]; exact hS
  have hgo : W p l e ({ frames := 2, cells := 0, slots := 0, locals := 48 } : Room) s m ([.ref h0, .int k, .int x0, .int q0] : List Value).toArray below meth c H locs 0 0 (MQ below (QAi g (fun (r : Int32) (u : Unit) => r = b2i (scB x0 q0)) (fun (u : Unit) => [(h0, .inr (1, [.ref h1])), (h1, .inl (gJ g, 3, .inr (.inl (scF f k x0 q0))))]) A) ([.ref h0, .int k, .int x0, .int q0] : List Value).toArray s 0 0 A) (F0 m 0 ls []) := ?_
  · rw [hHe, hLe] at hgo; exact hgo
  clear hHe hLe
  refine lv_iload_n hx hb dX1_scales_0 rfl (lv_at hl 2 rfl) ?_
  refine cN_i (As := [.int x0]) (rest := []) hx hb hml hown hw hkn hS hl (c_X6_isPicture l g _ x0 ) sf_X6_isPicture (hkn.nest 0 rfl) ⟨(Nat.le_of_ble_eq_true rfl), (Nat.le_of_ble_eq_true rfl)⟩ rfl rfl rfl rfl (Nat.le_of_ble_eq_true rfl) dX1_scales_1 ⟨(Nat.le_of_ble_eq_true rfl), (Nat.le_of_ble_eq_true rfl)⟩ ?_
  refine lv_ifeqB (b := isPic x0) (tgt := 14) hx hb dX1_scales_4 (by decide) (fun c_1 => ?_) (fun c_1 => ?_)
  · skip
    refine lv_iconst (v := 0) hx hb dX1_scales_14 (by decide) ?_
    have eb : scB x0 q0 = false := by simp [scB, c_1]
    have e1 : scF f k x0 q0 = f := if_neg (nt_of eb)
    exact eM_z (g := g) (b := scB x0 q0) hx hb hr hlocks () (by rw [eb]; rfl) (by rw [eb]; rfl) (show va_P g.1 vwCl [(h0, .inr (1, [.ref h1])), (h1, .inl (gJ g, 3, .inr (.inl (scF f k x0 q0))))] H by rw [e1]; exact hP.sub [0, 1] rfl) (show va_D A [(h0, .inr (1, [.ref h1])), (h1, .inl (gJ g, 3, .inr (.inl (scF f k x0 q0))))] by rw [e1]; exact hD.sub [0, 1] (by decide) rfl) hS dX1_scales_15
  · skip
    refine lv_iload_n hx hb dX1_scales_7 rfl (lv_at hl 3 rfl) ?_
    refine cN_i (As := [.int q0]) (rest := []) hx hb hml hown hw hkn hS hl (c_X6_isQuarter l g _ q0 ) sf_X6_isQuarter (hkn.nest 1 rfl) ⟨(Nat.le_of_ble_eq_true rfl), (Nat.le_of_ble_eq_true rfl)⟩ rfl rfl rfl rfl (Nat.le_of_ble_eq_true rfl) dX1_scales_8 ⟨(Nat.le_of_ble_eq_true rfl), (Nat.le_of_ble_eq_true rfl)⟩ ?_
    refine lv_ifneB (b := isQua q0) (tgt := 16) hx hb dX1_scales_11 (by decide) (fun c_2 => ?_) (fun c_2 => ?_)
    · skip
      obtain ⟨q9, hq9, eq9⟩ := isQua_of c_2
      refine lv_aload_n hx hb dX1_scales_16 rfl (lv_at hl 0 rfl) ?_
      refine lv_iload_n hx hb dX1_scales_17 rfl (lv_at hl 2 rfl) ?_
      refine cV_l (As := [.int x0]) (rest := []) hx hb hml hown hw hkn hS hl (c_X1_cells l g _ h0 x0 h1 f  (hP.sub [0, 1] rfl)) vf_X1_cells mw_568 (va_recv hkn.1 hP (ci := 1) (q0 := 0) rfl rfl) ⟨(Nat.le_of_ble_eq_true rfl), (Nat.le_of_ble_eq_true rfl)⟩ rfl rfl rfl rfl (Nat.le_of_ble_eq_true rfl) dX1_scales_18 ⟨(Nat.le_of_ble_eq_true rfl), (Nat.le_of_ble_eq_true rfl)⟩ ?_
      refine lv_lstore (lv' := [(4, .long (picS f x0)), (0, .ref h0), (1, .int k), (2, .int x0), (3, .int q0)]) hx hb dX1_scales_21 hl (by decide) rfl (fun ls hl => ?_)
      refine lv_aload_n hx hb dX1_scales_23 rfl (lv_at hl 1 rfl) ?_
      refine lv_iload_n hx hb dX1_scales_24 rfl (lv_at hl 3 rfl) ?_
      refine lv_iload_n hx hb dX1_scales_25 rfl (lv_at hl 2 rfl) ?_
      refine lv_bipush (v := 6) hx hb dX1_scales_26 (by decide) ?_
      have mg_46 : W p l e ({ frames := 2, cells := 0, slots := 0, locals := 48 } : Room) s m ([.ref h0, .int k, .int x0, .int q0] : List Value).toArray below meth c H locs 0 0 (MQ below (QAi g (fun (r : Int32) (u : Unit) => r = b2i (scB x0 q0)) (fun (u : Unit) => [(h0, .inr (1, [.ref h1])), (h1, .inl (gJ g, 3, .inr (.inl (scF f k x0 q0))))]) A) ([.ref h0, .int k, .int x0, .int q0] : List Value).toArray s 0 0 A) (F0 m 46 ls (.long (if k = 6 then (haS (picS f x0) q9) else (grnS (picS f x0) q9)) :: [.int x0, .ref h0])) := by
        refine cVM_v (As := [.int x0, .long (if k = 6 then (haS (picS f x0) q9) else (grnS (picS f x0) q9))]) (rest := []) (q0 := 0) (wc := [(h0, .inr (1, [.ref h1])), (h1, .inl (gJ g, 3, .inr (.inl f)))]) (wr := []) hx hb hml hown hw hkn hS hl hA hP hD [0, 1] [] rfl rfl (by decide) (by decide) (by decide) (c_X1_set l g _ h0 x0 (if k = 6 then (haS (picS f x0) q9) else (grnS (picS f x0) q9)) h1 f ) vf_X1_set mw_569 rfl rfl ⟨(Nat.le_of_ble_eq_true rfl), (Nat.le_of_ble_eq_true rfl)⟩ rfl rfl rfl rfl (Nat.le_of_ble_eq_true rfl) dX1_scales_46 ⟨(Nat.le_of_ble_eq_true rfl), (Nat.le_of_ble_eq_true rfl)⟩ (fun u H locs hq hP hD hS => ?_)
        have hP : va_P g.1 vwCl [(h0, .inr (1, [.ref h1])), (h1, .inl (gJ g, 3, .inr (.inl (setS f x0 (if k = 6 then (haS (picS f x0) q9) else (grnS (picS f x0) q9))))))] H := hP.sub [0, 1] rfl
        have hD : va_D A [(h0, .inr (1, [.ref h1])), (h1, .inl (gJ g, 3, .inr (.inl (setS f x0 (if k = 6 then (haS (picS f x0) q9) else (grnS (picS f x0) q9))))))] := hD.sub [0, 1] (by decide) rfl
        refine lv_iconst (v := 1) hx hb dX1_scales_49 (by decide) ?_
        have eb : scB x0 q0 = true := by simp [scB, c_1, c_2]
        have e1 : scF f k x0 q0 = (setS f x0 (if k = 6 then (haS (picS f x0) q9) else (grnS (picS f x0) q9))) := by unfold scF; rw [if_pos eb, eq9, nI_clamp (by omega)]
        exact eM_z (g := g) (b := scB x0 q0) hx hb hr hlocks () (by rw [eb]; rfl) (by rw [eb]; rfl) (show va_P g.1 vwCl [(h0, .inr (1, [.ref h1])), (h1, .inl (gJ g, 3, .inr (.inl (scF f k x0 q0))))] H by rw [e1]; exact hP.sub [0, 1] rfl) (show va_D A [(h0, .inr (1, [.ref h1])), (h1, .inl (gJ g, 3, .inr (.inl (scF f k x0 q0))))] by rw [e1]; exact hD.sub [0, 1] (by decide) rfl) hS dX1_scales_50
      refine lv_icmp_ne (tgt := 40) hx hb dX1_scales_28 (by decide) (fun c_4 => ?_) (fun c_4 => ?_)
      · skip
        refine lv_lload hx hb dX1_scales_40 (lv_at hl 0 rfl) ?_
        refine lv_iload_n hx hb dX1_scales_42 rfl (lv_at hl 4 rfl) ?_
        refine lv_eqi (show _ = (nI q9) from eq9) ?_
        refine cS_l (As := [.long (picS f x0), .int (nI q9)]) (rest := [.int x0, .ref h0]) hx hb hml hown hw hkn hS hl (c_X2_grown l g _ (picS f x0) q9 (by omega)) sf_X2_grown mw_590 ⟨(Nat.le_of_ble_eq_true rfl), (Nat.le_of_ble_eq_true rfl)⟩ rfl rfl rfl rfl (Nat.le_of_ble_eq_true rfl) dX1_scales_43 ⟨(Nat.le_of_ble_eq_true rfl), (Nat.le_of_ble_eq_true rfl)⟩ ?_
        exact lv_eql (by rw [if_neg c_4]) mg_46
      · skip
        refine lv_lload hx hb dX1_scales_31 (lv_at hl 0 rfl) ?_
        refine lv_iload_n hx hb dX1_scales_33 rfl (lv_at hl 4 rfl) ?_
        refine lv_eqi (show _ = (nI q9) from eq9) ?_
        refine cS_l (As := [.long (picS f x0), .int (nI q9)]) (rest := [.int x0, .ref h0]) hx hb hml hown hw hkn hS hl (c_X2_halved l g _ (picS f x0) q9 (by omega)) sf_X2_halved mw_589 ⟨(Nat.le_of_ble_eq_true rfl), (Nat.le_of_ble_eq_true rfl)⟩ rfl rfl rfl rfl (Nat.le_of_ble_eq_true rfl) dX1_scales_34 ⟨(Nat.le_of_ble_eq_true rfl), (Nat.le_of_ble_eq_true rfl)⟩ ?_
        refine lv_goto (tgt := 46) hx hb dX1_scales_37 (by decide) ?_
        exact lv_eql (by rw [if_pos c_4]) mg_46
    · skip
      refine lv_iconst (v := 0) hx hb dX1_scales_14 (by decide) ?_
      have eb : scB x0 q0 = false := by simp [scB, c_1, c_2]
      have e1 : scF f k x0 q0 = f := if_neg (nt_of eb)
      exact eM_z (g := g) (b := scB x0 q0) hx hb hr hlocks () (by rw [eb]; rfl) (by rw [eb]; rfl) (show va_P g.1 vwCl [(h0, .inr (1, [.ref h1])), (h1, .inl (gJ g, 3, .inr (.inl (scF f k x0 q0))))] H by rw [e1]; exact hP.sub [0, 1] rfl) (show va_D A [(h0, .inr (1, [.ref h1])), (h1, .inl (gJ g, 3, .inr (.inl (scF f k x0 q0))))] by rw [e1]; exact hD.sub [0, 1] (by decide) rfl) hS dX1_scales_15
set_option maxHeartbeats 4000000 in
set_option maxRecDepth 100000 in
theorem c_X1_does (l : Launch) (g : GG) (sz : Nat) (h0 : Nat) (k : Int32) (a : Int32) (b : Int32) (h1 : Nat) (f : Nat → Int64)  : Met l yX1_does (Cond.code yX1_does cX1_does 4 (some .boolean) :: wsL_law) ({ frames := 5, cells := 0, slots := 0, locals := 120 }) (PM g [.ref h0, .int k, .int a, .int b] [(h0, .inr (1, [.ref h1])), (h1, .inl (gJ g, 3, .inr (.inl f)))] sz) (QAi g (fun (r : Int32) (u : Unit) => r = b2i (doB f k a b)) (fun (u : Unit) => [(h0, .inr (1, [.ref h1])), (h1, .inl (gJ g, 3, .inr (.inl (doF f k a b))))]) (va_A [(h0, .inr (1, [.ref h1])), (h1, .inl (gJ g, 3, .inr (.inl f)))] sz)) 0 0 (va_A [(h0, .inr (1, [.ref h1])), (h1, .inl (gJ g, 3, .inr (.inl f)))] sz) := by
  refine Met.M (Qc := fun A => QAi g (fun (r : Int32) (u : Unit) => r = b2i (doB f k a b)) (fun (u : Unit) => [(h0, .inr (1, [.ref h1])), (h1, .inl (gJ g, 3, .inr (.inl (doF f k a b))))]) A) (by decide) (Nat.le_of_ble_eq_true rfl) rfl ?_
  intro p e s m below meth c hx hb hr hml hw hown hlocks hin A hA hkn hP hD ls hl
  have hl : lv_has ls 4 [(0, .ref h0), (1, .int k), (2, .int a), (3, .int b)] := hl
  have hS : va_S A s.heap s.heap [] := va_S.rf
  obtain ⟨H, hHe⟩ : ∃ H, H = s.heap := ⟨_, rfl⟩
  obtain ⟨locs, hLe⟩ : ∃ locs : List Loc, locs = [] := ⟨_, rfl⟩
  have hP : va_P g.1 vwCl [(h0, .inr (1, [.ref h1])), (h1, .inl (gJ g, 3, .inr (.inl f)))] H := by rw [hHe]; exact hP
  have hS : va_S A s.heap H locs := by rw [hHe, hLe]; exact hS
  have hgo : W p l e ({ frames := 5, cells := 0, slots := 0, locals := 120 } : Room) s m ([.ref h0, .int k, .int a, .int b] : List Value).toArray below meth c H locs 0 0 (MQ below (QAi g (fun (r : Int32) (u : Unit) => r = b2i (doB f k a b)) (fun (u : Unit) => [(h0, .inr (1, [.ref h1])), (h1, .inl (gJ g, 3, .inr (.inl (doF f k a b))))]) A) ([.ref h0, .int k, .int a, .int b] : List Value).toArray s 0 0 A) (F0 m 0 ls []) := ?_
  · rw [hHe, hLe] at hgo; exact hgo
  clear hHe hLe
  refine lv_iload_n hx hb dX1_does_0 rfl (lv_at hl 1 rfl) ?_
  by_cases c_1 : k = 1
  · skip
    refine lv_tableIn (off := 51) (tgt := 52) hx hb dX1_does_1 (by rw [c_1]; decide) (by rw [c_1]; decide) (by rw [c_1]; rfl) (by decide) ?_
    refine lv_aload_n hx hb dX1_does_52 rfl (lv_at hl 0 rfl) ?_
    refine lv_iload_n hx hb dX1_does_53 rfl (lv_at hl 1 rfl) ?_
    refine lv_iload_n hx hb dX1_does_54 rfl (lv_at hl 2 rfl) ?_
    refine lv_iload_n hx hb dX1_does_55 rfl (lv_at hl 3 rfl) ?_
    refine cVM_i (As := [.int k, .int a, .int b]) (rest := []) (q0 := 0) (wc := [(h0, .inr (1, [.ref h1])), (h1, .inl (gJ g, 3, .inr (.inl f)))]) (wr := []) hx hb hml hown hw hkn hS hl hA hP hD [0, 1] [] rfl rfl (by decide) (by decide) (by decide) (c_X1_combines l g _ h0 k a b h1 f ) vf_X1_combines mw_574 rfl rfl ⟨(Nat.le_of_ble_eq_true rfl), (Nat.le_of_ble_eq_true rfl)⟩ rfl rfl rfl rfl (Nat.le_of_ble_eq_true rfl) dX1_does_56 ⟨(Nat.le_of_ble_eq_true rfl), (Nat.le_of_ble_eq_true rfl)⟩ (fun r u H locs hq hP hD hS => ?_)
    have hq : r = (b2i (cbB a b)) := hq
    subst hq
    have hP : va_P g.1 vwCl [(h0, .inr (1, [.ref h1])), (h1, .inl (gJ g, 3, .inr (.inl (cbF f k a b))))] H := hP.sub [0, 1] rfl
    have hD : va_D A [(h0, .inr (1, [.ref h1])), (h1, .inl (gJ g, 3, .inr (.inl (cbF f k a b))))] := hD.sub [0, 1] (by decide) rfl
    have eb : doB f k a b = cbB a b := by unfold doB; simp (decide := true) [c_1]
    have e1 : doF f k a b = (cbF f k a b) := by unfold doF; simp (decide := true) [c_1]
    exact eM_z (g := g) (b := doB f k a b) hx hb hr hlocks () (by rw [eb]; try rfl) (by rw [eb]; try rfl) (show va_P g.1 vwCl [(h0, .inr (1, [.ref h1])), (h1, .inl (gJ g, 3, .inr (.inl (doF f k a b))))] H by rw [e1]; exact hP.sub [0, 1] rfl) (show va_D A [(h0, .inr (1, [.ref h1])), (h1, .inl (gJ g, 3, .inr (.inl (doF f k a b))))] by rw [e1]; exact hD.sub [0, 1] (by decide) rfl) hS dX1_does_59
  · skip
    by_cases c_3 : k = 2
    · skip
      refine lv_tableIn (off := 51) (tgt := 52) hx hb dX1_does_1 (by rw [c_3]; decide) (by rw [c_3]; decide) (by rw [c_3]; rfl) (by decide) ?_
      refine lv_aload_n hx hb dX1_does_52 rfl (lv_at hl 0 rfl) ?_
      refine lv_iload_n hx hb dX1_does_53 rfl (lv_at hl 1 rfl) ?_
      refine lv_iload_n hx hb dX1_does_54 rfl (lv_at hl 2 rfl) ?_
      refine lv_iload_n hx hb dX1_does_55 rfl (lv_at hl 3 rfl) ?_
      refine cVM_i (As := [.int k, .int a, .int b]) (rest := []) (q0 := 0) (wc := [(h0, .inr (1, [.ref h1])), (h1, .inl (gJ g, 3, .inr (.inl f)))]) (wr := []) hx hb hml hown hw hkn hS hl hA hP hD [0, 1] [] rfl rfl (by decide) (by decide) (by decide) (c_X1_combines l g _ h0 k a b h1 f ) vf_X1_combines mw_574 rfl rfl ⟨(Nat.le_of_ble_eq_true rfl), (Nat.le_of_ble_eq_true rfl)⟩ rfl rfl rfl rfl (Nat.le_of_ble_eq_true rfl) dX1_does_56 ⟨(Nat.le_of_ble_eq_true rfl), (Nat.le_of_ble_eq_true rfl)⟩ (fun r u H locs hq hP hD hS => ?_)
      have hq : r = (b2i (cbB a b)) := hq
      subst hq
      have hP : va_P g.1 vwCl [(h0, .inr (1, [.ref h1])), (h1, .inl (gJ g, 3, .inr (.inl (cbF f k a b))))] H := hP.sub [0, 1] rfl
      have hD : va_D A [(h0, .inr (1, [.ref h1])), (h1, .inl (gJ g, 3, .inr (.inl (cbF f k a b))))] := hD.sub [0, 1] (by decide) rfl
      have eb : doB f k a b = cbB a b := by unfold doB; simp (decide := true) [c_1, c_3]
      have e1 : doF f k a b = (cbF f k a b) := by unfold doF; simp (decide := true) [c_1, c_3]
      exact eM_z (g := g) (b := doB f k a b) hx hb hr hlocks () (by rw [eb]; try rfl) (by rw [eb]; try rfl) (show va_P g.1 vwCl [(h0, .inr (1, [.ref h1])), (h1, .inl (gJ g, 3, .inr (.inl (doF f k a b))))] H by rw [e1]; exact hP.sub [0, 1] rfl) (show va_D A [(h0, .inr (1, [.ref h1])), (h1, .inl (gJ g, 3, .inr (.inl (doF f k a b))))] by rw [e1]; exact hD.sub [0, 1] (by decide) rfl) hS dX1_does_59
    · skip
      by_cases c_5 : k = 3
      · skip
        refine lv_tableIn (off := 51) (tgt := 52) hx hb dX1_does_1 (by rw [c_5]; decide) (by rw [c_5]; decide) (by rw [c_5]; rfl) (by decide) ?_
        refine lv_aload_n hx hb dX1_does_52 rfl (lv_at hl 0 rfl) ?_
        refine lv_iload_n hx hb dX1_does_53 rfl (lv_at hl 1 rfl) ?_
        refine lv_iload_n hx hb dX1_does_54 rfl (lv_at hl 2 rfl) ?_
        refine lv_iload_n hx hb dX1_does_55 rfl (lv_at hl 3 rfl) ?_
        refine cVM_i (As := [.int k, .int a, .int b]) (rest := []) (q0 := 0) (wc := [(h0, .inr (1, [.ref h1])), (h1, .inl (gJ g, 3, .inr (.inl f)))]) (wr := []) hx hb hml hown hw hkn hS hl hA hP hD [0, 1] [] rfl rfl (by decide) (by decide) (by decide) (c_X1_combines l g _ h0 k a b h1 f ) vf_X1_combines mw_574 rfl rfl ⟨(Nat.le_of_ble_eq_true rfl), (Nat.le_of_ble_eq_true rfl)⟩ rfl rfl rfl rfl (Nat.le_of_ble_eq_true rfl) dX1_does_56 ⟨(Nat.le_of_ble_eq_true rfl), (Nat.le_of_ble_eq_true rfl)⟩ (fun r u H locs hq hP hD hS => ?_)
        have hq : r = (b2i (cbB a b)) := hq
        subst hq
        have hP : va_P g.1 vwCl [(h0, .inr (1, [.ref h1])), (h1, .inl (gJ g, 3, .inr (.inl (cbF f k a b))))] H := hP.sub [0, 1] rfl
        have hD : va_D A [(h0, .inr (1, [.ref h1])), (h1, .inl (gJ g, 3, .inr (.inl (cbF f k a b))))] := hD.sub [0, 1] (by decide) rfl
        have eb : doB f k a b = cbB a b := by unfold doB; simp (decide := true) [c_1, c_3, c_5]
        have e1 : doF f k a b = (cbF f k a b) := by unfold doF; simp (decide := true) [c_1, c_3, c_5]
        exact eM_z (g := g) (b := doB f k a b) hx hb hr hlocks () (by rw [eb]; try rfl) (by rw [eb]; try rfl) (show va_P g.1 vwCl [(h0, .inr (1, [.ref h1])), (h1, .inl (gJ g, 3, .inr (.inl (doF f k a b))))] H by rw [e1]; exact hP.sub [0, 1] rfl) (show va_D A [(h0, .inr (1, [.ref h1])), (h1, .inl (gJ g, 3, .inr (.inl (doF f k a b))))] by rw [e1]; exact hD.sub [0, 1] (by decide) rfl) hS dX1_does_59
      · skip
        by_cases c_7 : k = 4
        · skip
          refine lv_tableIn (off := 59) (tgt := 60) hx hb dX1_does_1 (by rw [c_7]; decide) (by rw [c_7]; decide) (by rw [c_7]; rfl) (by decide) ?_
          refine lv_iload_n hx hb dX1_does_60 rfl (lv_at hl 2 rfl) ?_
          refine lv_if_ne (tgt := 77) hx hb dX1_does_61 (by decide) (fun c_8 => ?_) (fun c_8 => ?_)
          · skip
            refine lv_iconst (v := 0) hx hb dX1_does_77 (by decide) ?_
            have eb : doB f k a b = false := by unfold doB; simp (decide := true) [c_1, c_3, c_5, c_7, c_8]
            have e1 : doF f k a b = f := by unfold doF; simp (decide := true) [c_1, c_3, c_5, c_7, c_8]
            exact eM_z (g := g) (b := doB f k a b) hx hb hr hlocks () (by rw [eb]; try rfl) (by rw [eb]; try rfl) (show va_P g.1 vwCl [(h0, .inr (1, [.ref h1])), (h1, .inl (gJ g, 3, .inr (.inl (doF f k a b))))] H by rw [e1]; exact hP.sub [0, 1] rfl) (show va_D A [(h0, .inr (1, [.ref h1])), (h1, .inl (gJ g, 3, .inr (.inl (doF f k a b))))] by rw [e1]; exact hD.sub [0, 1] (by decide) rfl) hS dX1_does_78
          · skip
            refine lv_aload_n hx hb dX1_does_64 rfl (lv_at hl 0 rfl) ?_
            refine lv_iload_n hx hb dX1_does_65 rfl (lv_at hl 1 rfl) ?_
            refine lv_iload_n hx hb dX1_does_66 rfl (lv_at hl 3 rfl) ?_
            refine cVM_i (As := [.int k, .int b]) (rest := []) (q0 := 0) (wc := [(h0, .inr (1, [.ref h1])), (h1, .inl (gJ g, 3, .inr (.inl f)))]) (wr := []) hx hb hml hown hw hkn hS hl hA hP hD [0, 1] [] rfl rfl (by decide) (by decide) (by decide) (c_X1_moves l g _ h0 k b h1 f ) vf_X1_moves mw_579 rfl rfl ⟨(Nat.le_of_ble_eq_true rfl), (Nat.le_of_ble_eq_true rfl)⟩ rfl rfl rfl rfl (Nat.le_of_ble_eq_true rfl) dX1_does_67 ⟨(Nat.le_of_ble_eq_true rfl), (Nat.le_of_ble_eq_true rfl)⟩ (fun r u H locs hq hP hD hS => ?_)
            have hq : r = (b2i (isPic b)) := hq
            subst hq
            have hP : va_P g.1 vwCl [(h0, .inr (1, [.ref h1])), (h1, .inl (gJ g, 3, .inr (.inl (mvF f k b))))] H := hP.sub [0, 1] rfl
            have hD : va_D A [(h0, .inr (1, [.ref h1])), (h1, .inl (gJ g, 3, .inr (.inl (mvF f k b))))] := hD.sub [0, 1] (by decide) rfl
            refine lv_ifeqB (b := isPic b) (tgt := 77) hx hb dX1_does_70 (by decide) (fun c_10 => ?_) (fun c_10 => ?_)
            · skip
              refine lv_iconst (v := 0) hx hb dX1_does_77 (by decide) ?_
              have eb : doB f k a b = false := by unfold doB; simp (decide := true) [c_1, c_3, c_5, c_7, c_8, c_10]
              have e1 : doF f k a b = (mvF f k b) := by unfold doF; simp (decide := true) [c_1, c_3, c_5, c_7, c_8, c_10]
              exact eM_z (g := g) (b := doB f k a b) hx hb hr hlocks () (by rw [eb]; try rfl) (by rw [eb]; try rfl) (show va_P g.1 vwCl [(h0, .inr (1, [.ref h1])), (h1, .inl (gJ g, 3, .inr (.inl (doF f k a b))))] H by rw [e1]; exact hP.sub [0, 1] rfl) (show va_D A [(h0, .inr (1, [.ref h1])), (h1, .inl (gJ g, 3, .inr (.inl (doF f k a b))))] by rw [e1]; exact hD.sub [0, 1] (by decide) rfl) hS dX1_does_78
            · skip
              refine lv_iconst (v := 1) hx hb dX1_does_73 (by decide) ?_
              refine lv_goto (tgt := 78) hx hb dX1_does_74 (by decide) ?_
              have eb : doB f k a b = true := by unfold doB; simp (decide := true) [c_1, c_3, c_5, c_7, c_8, c_10]
              have e1 : doF f k a b = (mvF f k b) := by unfold doF; simp (decide := true) [c_1, c_3, c_5, c_7, c_8, c_10]
              exact eM_z (g := g) (b := doB f k a b) hx hb hr hlocks () (by rw [eb]; try rfl) (by rw [eb]; try rfl) (show va_P g.1 vwCl [(h0, .inr (1, [.ref h1])), (h1, .inl (gJ g, 3, .inr (.inl (doF f k a b))))] H by rw [e1]; exact hP.sub [0, 1] rfl) (show va_D A [(h0, .inr (1, [.ref h1])), (h1, .inl (gJ g, 3, .inr (.inl (doF f k a b))))] by rw [e1]; exact hD.sub [0, 1] (by decide) rfl) hS dX1_does_78
        · skip
          by_cases c_11 : k = 5
          · skip
            refine lv_tableIn (off := 59) (tgt := 60) hx hb dX1_does_1 (by rw [c_11]; decide) (by rw [c_11]; decide) (by rw [c_11]; rfl) (by decide) ?_
            refine lv_iload_n hx hb dX1_does_60 rfl (lv_at hl 2 rfl) ?_
            refine lv_if_ne (tgt := 77) hx hb dX1_does_61 (by decide) (fun c_12 => ?_) (fun c_12 => ?_)
            · skip
              refine lv_iconst (v := 0) hx hb dX1_does_77 (by decide) ?_
              have eb : doB f k a b = false := by unfold doB; simp (decide := true) [c_1, c_3, c_5, c_7, c_11, c_12]
              have e1 : doF f k a b = f := by unfold doF; simp (decide := true) [c_1, c_3, c_5, c_7, c_11, c_12]
              exact eM_z (g := g) (b := doB f k a b) hx hb hr hlocks () (by rw [eb]; try rfl) (by rw [eb]; try rfl) (show va_P g.1 vwCl [(h0, .inr (1, [.ref h1])), (h1, .inl (gJ g, 3, .inr (.inl (doF f k a b))))] H by rw [e1]; exact hP.sub [0, 1] rfl) (show va_D A [(h0, .inr (1, [.ref h1])), (h1, .inl (gJ g, 3, .inr (.inl (doF f k a b))))] by rw [e1]; exact hD.sub [0, 1] (by decide) rfl) hS dX1_does_78
            · skip
              refine lv_aload_n hx hb dX1_does_64 rfl (lv_at hl 0 rfl) ?_
              refine lv_iload_n hx hb dX1_does_65 rfl (lv_at hl 1 rfl) ?_
              refine lv_iload_n hx hb dX1_does_66 rfl (lv_at hl 3 rfl) ?_
              refine cVM_i (As := [.int k, .int b]) (rest := []) (q0 := 0) (wc := [(h0, .inr (1, [.ref h1])), (h1, .inl (gJ g, 3, .inr (.inl f)))]) (wr := []) hx hb hml hown hw hkn hS hl hA hP hD [0, 1] [] rfl rfl (by decide) (by decide) (by decide) (c_X1_moves l g _ h0 k b h1 f ) vf_X1_moves mw_579 rfl rfl ⟨(Nat.le_of_ble_eq_true rfl), (Nat.le_of_ble_eq_true rfl)⟩ rfl rfl rfl rfl (Nat.le_of_ble_eq_true rfl) dX1_does_67 ⟨(Nat.le_of_ble_eq_true rfl), (Nat.le_of_ble_eq_true rfl)⟩ (fun r u H locs hq hP hD hS => ?_)
              have hq : r = (b2i (isPic b)) := hq
              subst hq
              have hP : va_P g.1 vwCl [(h0, .inr (1, [.ref h1])), (h1, .inl (gJ g, 3, .inr (.inl (mvF f k b))))] H := hP.sub [0, 1] rfl
              have hD : va_D A [(h0, .inr (1, [.ref h1])), (h1, .inl (gJ g, 3, .inr (.inl (mvF f k b))))] := hD.sub [0, 1] (by decide) rfl
              refine lv_ifeqB (b := isPic b) (tgt := 77) hx hb dX1_does_70 (by decide) (fun c_14 => ?_) (fun c_14 => ?_)
              · skip
                refine lv_iconst (v := 0) hx hb dX1_does_77 (by decide) ?_
                have eb : doB f k a b = false := by unfold doB; simp (decide := true) [c_1, c_3, c_5, c_7, c_11, c_12, c_14]
                have e1 : doF f k a b = (mvF f k b) := by unfold doF; simp (decide := true) [c_1, c_3, c_5, c_7, c_11, c_12, c_14]
                exact eM_z (g := g) (b := doB f k a b) hx hb hr hlocks () (by rw [eb]; try rfl) (by rw [eb]; try rfl) (show va_P g.1 vwCl [(h0, .inr (1, [.ref h1])), (h1, .inl (gJ g, 3, .inr (.inl (doF f k a b))))] H by rw [e1]; exact hP.sub [0, 1] rfl) (show va_D A [(h0, .inr (1, [.ref h1])), (h1, .inl (gJ g, 3, .inr (.inl (doF f k a b))))] by rw [e1]; exact hD.sub [0, 1] (by decide) rfl) hS dX1_does_78
              · skip
                refine lv_iconst (v := 1) hx hb dX1_does_73 (by decide) ?_
                refine lv_goto (tgt := 78) hx hb dX1_does_74 (by decide) ?_
                have eb : doB f k a b = true := by unfold doB; simp (decide := true) [c_1, c_3, c_5, c_7, c_11, c_12, c_14]
                have e1 : doF f k a b = (mvF f k b) := by unfold doF; simp (decide := true) [c_1, c_3, c_5, c_7, c_11, c_12, c_14]
                exact eM_z (g := g) (b := doB f k a b) hx hb hr hlocks () (by rw [eb]; try rfl) (by rw [eb]; try rfl) (show va_P g.1 vwCl [(h0, .inr (1, [.ref h1])), (h1, .inl (gJ g, 3, .inr (.inl (doF f k a b))))] H by rw [e1]; exact hP.sub [0, 1] rfl) (show va_D A [(h0, .inr (1, [.ref h1])), (h1, .inl (gJ g, 3, .inr (.inl (doF f k a b))))] by rw [e1]; exact hD.sub [0, 1] (by decide) rfl) hS dX1_does_78
          · skip
            by_cases c_15 : k = 6
            · skip
              refine lv_tableIn (off := 78) (tgt := 79) hx hb dX1_does_1 (by rw [c_15]; decide) (by rw [c_15]; decide) (by rw [c_15]; rfl) (by decide) ?_
              refine lv_aload_n hx hb dX1_does_79 rfl (lv_at hl 0 rfl) ?_
              refine lv_iload_n hx hb dX1_does_80 rfl (lv_at hl 1 rfl) ?_
              refine lv_iload_n hx hb dX1_does_81 rfl (lv_at hl 2 rfl) ?_
              refine lv_iload_n hx hb dX1_does_82 rfl (lv_at hl 3 rfl) ?_
              refine cVM_i (As := [.int k, .int a, .int b]) (rest := []) (q0 := 0) (wc := [(h0, .inr (1, [.ref h1])), (h1, .inl (gJ g, 3, .inr (.inl f)))]) (wr := []) hx hb hml hown hw hkn hS hl hA hP hD [0, 1] [] rfl rfl (by decide) (by decide) (by decide) (c_X1_scales l g _ h0 k a b h1 f ) vf_X1_scales mw_585 rfl rfl ⟨(Nat.le_of_ble_eq_true rfl), (Nat.le_of_ble_eq_true rfl)⟩ rfl rfl rfl rfl (Nat.le_of_ble_eq_true rfl) dX1_does_83 ⟨(Nat.le_of_ble_eq_true rfl), (Nat.le_of_ble_eq_true rfl)⟩ (fun r u H locs hq hP hD hS => ?_)
              have hq : r = (b2i (scB a b)) := hq
              subst hq
              have hP : va_P g.1 vwCl [(h0, .inr (1, [.ref h1])), (h1, .inl (gJ g, 3, .inr (.inl (scF f k a b))))] H := hP.sub [0, 1] rfl
              have hD : va_D A [(h0, .inr (1, [.ref h1])), (h1, .inl (gJ g, 3, .inr (.inl (scF f k a b))))] := hD.sub [0, 1] (by decide) rfl
              have eb : doB f k a b = scB a b := by unfold doB; simp (decide := true) [c_1, c_3, c_5, c_7, c_11, c_15]
              have e1 : doF f k a b = (scF f k a b) := by unfold doF; simp (decide := true) [c_1, c_3, c_5, c_7, c_11, c_15]
              exact eM_z (g := g) (b := doB f k a b) hx hb hr hlocks () (by rw [eb]; try rfl) (by rw [eb]; try rfl) (show va_P g.1 vwCl [(h0, .inr (1, [.ref h1])), (h1, .inl (gJ g, 3, .inr (.inl (doF f k a b))))] H by rw [e1]; exact hP.sub [0, 1] rfl) (show va_D A [(h0, .inr (1, [.ref h1])), (h1, .inl (gJ g, 3, .inr (.inl (doF f k a b))))] by rw [e1]; exact hD.sub [0, 1] (by decide) rfl) hS dX1_does_86
            · skip
              by_cases c_17 : k = 7
              · skip
                refine lv_tableIn (off := 78) (tgt := 79) hx hb dX1_does_1 (by rw [c_17]; decide) (by rw [c_17]; decide) (by rw [c_17]; rfl) (by decide) ?_
                refine lv_aload_n hx hb dX1_does_79 rfl (lv_at hl 0 rfl) ?_
                refine lv_iload_n hx hb dX1_does_80 rfl (lv_at hl 1 rfl) ?_
                refine lv_iload_n hx hb dX1_does_81 rfl (lv_at hl 2 rfl) ?_
                refine lv_iload_n hx hb dX1_does_82 rfl (lv_at hl 3 rfl) ?_
                refine cVM_i (As := [.int k, .int a, .int b]) (rest := []) (q0 := 0) (wc := [(h0, .inr (1, [.ref h1])), (h1, .inl (gJ g, 3, .inr (.inl f)))]) (wr := []) hx hb hml hown hw hkn hS hl hA hP hD [0, 1] [] rfl rfl (by decide) (by decide) (by decide) (c_X1_scales l g _ h0 k a b h1 f ) vf_X1_scales mw_585 rfl rfl ⟨(Nat.le_of_ble_eq_true rfl), (Nat.le_of_ble_eq_true rfl)⟩ rfl rfl rfl rfl (Nat.le_of_ble_eq_true rfl) dX1_does_83 ⟨(Nat.le_of_ble_eq_true rfl), (Nat.le_of_ble_eq_true rfl)⟩ (fun r u H locs hq hP hD hS => ?_)
                have hq : r = (b2i (scB a b)) := hq
                subst hq
                have hP : va_P g.1 vwCl [(h0, .inr (1, [.ref h1])), (h1, .inl (gJ g, 3, .inr (.inl (scF f k a b))))] H := hP.sub [0, 1] rfl
                have hD : va_D A [(h0, .inr (1, [.ref h1])), (h1, .inl (gJ g, 3, .inr (.inl (scF f k a b))))] := hD.sub [0, 1] (by decide) rfl
                have eb : doB f k a b = scB a b := by unfold doB; simp (decide := true) [c_1, c_3, c_5, c_7, c_11, c_15, c_17]
                have e1 : doF f k a b = (scF f k a b) := by unfold doF; simp (decide := true) [c_1, c_3, c_5, c_7, c_11, c_15, c_17]
                exact eM_z (g := g) (b := doB f k a b) hx hb hr hlocks () (by rw [eb]; try rfl) (by rw [eb]; try rfl) (show va_P g.1 vwCl [(h0, .inr (1, [.ref h1])), (h1, .inl (gJ g, 3, .inr (.inl (doF f k a b))))] H by rw [e1]; exact hP.sub [0, 1] rfl) (show va_D A [(h0, .inr (1, [.ref h1])), (h1, .inl (gJ g, 3, .inr (.inl (doF f k a b))))] by rw [e1]; exact hD.sub [0, 1] (by decide) rfl) hS dX1_does_86
              · skip
                by_cases c_19 : k = 8
                · skip
                  refine lv_tableIn (off := 86) (tgt := 87) hx hb dX1_does_1 (by rw [c_19]; decide) (by rw [c_19]; decide) (by rw [c_19]; rfl) (by decide) ?_
                  refine lv_iload_n hx hb dX1_does_87 rfl (lv_at hl 2 rfl) ?_
                  refine cN_i (As := [.int a]) (rest := []) hx hb hml hown hw hkn hS hl (c_X6_isPicture l g _ a ) sf_X6_isPicture (hkn.nest 0 rfl) ⟨(Nat.le_of_ble_eq_true rfl), (Nat.le_of_ble_eq_true rfl)⟩ rfl rfl rfl rfl (Nat.le_of_ble_eq_true rfl) dX1_does_88 ⟨(Nat.le_of_ble_eq_true rfl), (Nat.le_of_ble_eq_true rfl)⟩ ?_
                  refine lv_ifeqB (b := isPic a) (tgt := 110) hx hb dX1_does_91 (by decide) (fun c_20 => ?_) (fun c_20 => ?_)
                  · skip
                    refine lv_iconst (v := 0) hx hb dX1_does_110 (by decide) ?_
                    have eb : doB f k a b = false := by unfold doB; simp (decide := true) [c_1, c_3, c_5, c_7, c_11, c_15, c_17, c_19, c_20]
                    have e1 : doF f k a b = f := by unfold doF; simp (decide := true) [c_1, c_3, c_5, c_7, c_11, c_15, c_17, c_19, c_20]
                    exact eM_z (g := g) (b := doB f k a b) hx hb hr hlocks () (by rw [eb]; try rfl) (by rw [eb]; try rfl) (show va_P g.1 vwCl [(h0, .inr (1, [.ref h1])), (h1, .inl (gJ g, 3, .inr (.inl (doF f k a b))))] H by rw [e1]; exact hP.sub [0, 1] rfl) (show va_D A [(h0, .inr (1, [.ref h1])), (h1, .inl (gJ g, 3, .inr (.inl (doF f k a b))))] by rw [e1]; exact hD.sub [0, 1] (by decide) rfl) hS dX1_does_111
                  · skip
                    refine lv_aload_n hx hb dX1_does_94 rfl (lv_at hl 0 rfl) ?_
                    refine lv_iload_n hx hb dX1_does_95 rfl (lv_at hl 2 rfl) ?_
                    refine cV_l (As := [.int a]) (rest := []) hx hb hml hown hw hkn hS hl (c_X1_cells l g _ h0 a h1 f  (hP.sub [0, 1] rfl)) vf_X1_cells mw_568 (va_recv hkn.1 hP (ci := 1) (q0 := 0) rfl rfl) ⟨(Nat.le_of_ble_eq_true rfl), (Nat.le_of_ble_eq_true rfl)⟩ rfl rfl rfl rfl (Nat.le_of_ble_eq_true rfl) dX1_does_96 ⟨(Nat.le_of_ble_eq_true rfl), (Nat.le_of_ble_eq_true rfl)⟩ ?_
                    refine cS_i (As := [.long (picS f a)]) (rest := []) hx hb hml hown hw hkn hS hl (c_X2_parts l g _ (picS f a) ) sf_X2_parts mw_591 ⟨(Nat.le_of_ble_eq_true rfl), (Nat.le_of_ble_eq_true rfl)⟩ rfl rfl rfl rfl (Nat.le_of_ble_eq_true rfl) dX1_does_99 ⟨(Nat.le_of_ble_eq_true rfl), (Nat.le_of_ble_eq_true rfl)⟩ ?_
                    refine lv_iload_n hx hb dX1_does_102 rfl (lv_at hl 3 rfl) ?_
                    refine lv_icmp_lt (tgt := 110) hx hb dX1_does_103 (by decide) (fun c_21 => ?_) (fun c_21 => ?_)
                    · skip
                      refine lv_iconst (v := 0) hx hb dX1_does_110 (by decide) ?_
                      have eb : doB f k a b = false := by unfold doB; simp (decide := true) [c_1, c_3, c_5, c_7, c_11, c_15, c_17, c_19, c_20, c_21]
                      have e1 : doF f k a b = f := by unfold doF; simp (decide := true) [c_1, c_3, c_5, c_7, c_11, c_15, c_17, c_19, c_20, c_21]
                      exact eM_z (g := g) (b := doB f k a b) hx hb hr hlocks () (by rw [eb]; try rfl) (by rw [eb]; try rfl) (show va_P g.1 vwCl [(h0, .inr (1, [.ref h1])), (h1, .inl (gJ g, 3, .inr (.inl (doF f k a b))))] H by rw [e1]; exact hP.sub [0, 1] rfl) (show va_D A [(h0, .inr (1, [.ref h1])), (h1, .inl (gJ g, 3, .inr (.inl (doF f k a b))))] by rw [e1]; exact hD.sub [0, 1] (by decide) rfl) hS dX1_does_111
                    · skip
                      refine lv_iconst (v := 1) hx hb dX1_does_106 (by decide) ?_
                      refine lv_goto (tgt := 111) hx hb dX1_does_107 (by decide) ?_
                      have eb : doB f k a b = true := by unfold doB; simp (decide := true) [c_1, c_3, c_5, c_7, c_11, c_15, c_17, c_19, c_20, c_21]
                      have e1 : doF f k a b = f := by unfold doF; simp (decide := true) [c_1, c_3, c_5, c_7, c_11, c_15, c_17, c_19, c_20, c_21]
                      exact eM_z (g := g) (b := doB f k a b) hx hb hr hlocks () (by rw [eb]; try rfl) (by rw [eb]; try rfl) (show va_P g.1 vwCl [(h0, .inr (1, [.ref h1])), (h1, .inl (gJ g, 3, .inr (.inl (doF f k a b))))] H by rw [e1]; exact hP.sub [0, 1] rfl) (show va_D A [(h0, .inr (1, [.ref h1])), (h1, .inl (gJ g, 3, .inr (.inl (doF f k a b))))] by rw [e1]; exact hD.sub [0, 1] (by decide) rfl) hS dX1_does_111
                · skip
                  by_cases c_22 : k = 9
                  · skip
                    refine lv_tableIn (off := 111) (tgt := 112) hx hb dX1_does_1 (by rw [c_22]; decide) (by rw [c_22]; decide) (by rw [c_22]; rfl) (by decide) ?_
                    refine lv_iload_n hx hb dX1_does_112 rfl (lv_at hl 2 rfl) ?_
                    refine cN_i (As := [.int a]) (rest := []) hx hb hml hown hw hkn hS hl (c_X6_isPicture l g _ a ) sf_X6_isPicture (hkn.nest 0 rfl) ⟨(Nat.le_of_ble_eq_true rfl), (Nat.le_of_ble_eq_true rfl)⟩ rfl rfl rfl rfl (Nat.le_of_ble_eq_true rfl) dX1_does_113 ⟨(Nat.le_of_ble_eq_true rfl), (Nat.le_of_ble_eq_true rfl)⟩ ?_
                    refine lv_ifeqB (b := isPic a) (tgt := 146) hx hb dX1_does_116 (by decide) (fun c_23 => ?_) (fun c_23 => ?_)
                    · skip
                      refine lv_iconst (v := 0) hx hb dX1_does_146 (by decide) ?_
                      have eb : doB f k a b = false := by unfold doB; simp (decide := true) [c_1, c_3, c_5, c_7, c_11, c_15, c_17, c_19, c_22, c_23]
                      have e1 : doF f k a b = f := by unfold doF; simp (decide := true) [c_1, c_3, c_5, c_7, c_11, c_15, c_17, c_19, c_22, c_23]
                      exact eM_z (g := g) (b := doB f k a b) hx hb hr hlocks () (by rw [eb]; try rfl) (by rw [eb]; try rfl) (show va_P g.1 vwCl [(h0, .inr (1, [.ref h1])), (h1, .inl (gJ g, 3, .inr (.inl (doF f k a b))))] H by rw [e1]; exact hP.sub [0, 1] rfl) (show va_D A [(h0, .inr (1, [.ref h1])), (h1, .inl (gJ g, 3, .inr (.inl (doF f k a b))))] by rw [e1]; exact hD.sub [0, 1] (by decide) rfl) hS dX1_does_147
                    · skip
                      refine lv_iload_n hx hb dX1_does_119 rfl (lv_at hl 3 rfl) ?_
                      refine cN_i (As := [.int b]) (rest := []) hx hb hml hown hw hkn hS hl (c_X6_isPicture l g _ b ) sf_X6_isPicture (hkn.nest 0 rfl) ⟨(Nat.le_of_ble_eq_true rfl), (Nat.le_of_ble_eq_true rfl)⟩ rfl rfl rfl rfl (Nat.le_of_ble_eq_true rfl) dX1_does_120 ⟨(Nat.le_of_ble_eq_true rfl), (Nat.le_of_ble_eq_true rfl)⟩ ?_
                      refine lv_ifeqB (b := isPic b) (tgt := 146) hx hb dX1_does_123 (by decide) (fun c_24 => ?_) (fun c_24 => ?_)
                      · skip
                        refine lv_iconst (v := 0) hx hb dX1_does_146 (by decide) ?_
                        have eb : doB f k a b = false := by unfold doB; simp (decide := true) [c_1, c_3, c_5, c_7, c_11, c_15, c_17, c_19, c_22, c_23, c_24]
                        have e1 : doF f k a b = f := by unfold doF; simp (decide := true) [c_1, c_3, c_5, c_7, c_11, c_15, c_17, c_19, c_22, c_23, c_24]
                        exact eM_z (g := g) (b := doB f k a b) hx hb hr hlocks () (by rw [eb]; try rfl) (by rw [eb]; try rfl) (show va_P g.1 vwCl [(h0, .inr (1, [.ref h1])), (h1, .inl (gJ g, 3, .inr (.inl (doF f k a b))))] H by rw [e1]; exact hP.sub [0, 1] rfl) (show va_D A [(h0, .inr (1, [.ref h1])), (h1, .inl (gJ g, 3, .inr (.inl (doF f k a b))))] by rw [e1]; exact hD.sub [0, 1] (by decide) rfl) hS dX1_does_147
                      · skip
                        refine lv_aload_n hx hb dX1_does_126 rfl (lv_at hl 0 rfl) ?_
                        refine lv_iload_n hx hb dX1_does_127 rfl (lv_at hl 2 rfl) ?_
                        refine cV_l (As := [.int a]) (rest := []) hx hb hml hown hw hkn hS hl (c_X1_cells l g _ h0 a h1 f  (hP.sub [0, 1] rfl)) vf_X1_cells mw_568 (va_recv hkn.1 hP (ci := 1) (q0 := 0) rfl rfl) ⟨(Nat.le_of_ble_eq_true rfl), (Nat.le_of_ble_eq_true rfl)⟩ rfl rfl rfl rfl (Nat.le_of_ble_eq_true rfl) dX1_does_128 ⟨(Nat.le_of_ble_eq_true rfl), (Nat.le_of_ble_eq_true rfl)⟩ ?_
                        refine lv_aload_n hx hb dX1_does_131 rfl (lv_at hl 0 rfl) ?_
                        refine lv_iload_n hx hb dX1_does_132 rfl (lv_at hl 3 rfl) ?_
                        refine cV_l (As := [.int b]) (rest := [.long (picS f a)]) hx hb hml hown hw hkn hS hl (c_X1_cells l g _ h0 b h1 f  (hP.sub [0, 1] rfl)) vf_X1_cells mw_568 (va_recv hkn.1 hP (ci := 1) (q0 := 0) rfl rfl) ⟨(Nat.le_of_ble_eq_true rfl), (Nat.le_of_ble_eq_true rfl)⟩ rfl rfl rfl rfl (Nat.le_of_ble_eq_true rfl) dX1_does_133 ⟨(Nat.le_of_ble_eq_true rfl), (Nat.le_of_ble_eq_true rfl)⟩ ?_
                        refine cS_i (As := [.long (picS f a), .long (picS f b)]) (rest := []) hx hb hml hown hw hkn hS hl (c_X2_waysAlike l g _ (picS f a) (picS f b) ) sf_X2_waysAlike mw_592 ⟨(Nat.le_of_ble_eq_true rfl), (Nat.le_of_ble_eq_true rfl)⟩ rfl rfl rfl rfl (Nat.le_of_ble_eq_true rfl) dX1_does_136 ⟨(Nat.le_of_ble_eq_true rfl), (Nat.le_of_ble_eq_true rfl)⟩ ?_
                        refine lv_if_eq (tgt := 146) hx hb dX1_does_139 (by decide) (fun c_25 => ?_) (fun c_25 => ?_)
                        · skip
                          refine lv_iconst (v := 0) hx hb dX1_does_146 (by decide) ?_
                          have eb : doB f k a b = false := by unfold doB; simp (decide := true) [c_1, c_3, c_5, c_7, c_11, c_15, c_17, c_19, c_22, c_23, c_24, c_25]
                          have e1 : doF f k a b = f := by unfold doF; simp (decide := true) [c_1, c_3, c_5, c_7, c_11, c_15, c_17, c_19, c_22, c_23, c_24, c_25]
                          exact eM_z (g := g) (b := doB f k a b) hx hb hr hlocks () (by rw [eb]; try rfl) (by rw [eb]; try rfl) (show va_P g.1 vwCl [(h0, .inr (1, [.ref h1])), (h1, .inl (gJ g, 3, .inr (.inl (doF f k a b))))] H by rw [e1]; exact hP.sub [0, 1] rfl) (show va_D A [(h0, .inr (1, [.ref h1])), (h1, .inl (gJ g, 3, .inr (.inl (doF f k a b))))] by rw [e1]; exact hD.sub [0, 1] (by decide) rfl) hS dX1_does_147
                        · skip
                          refine lv_iconst (v := 1) hx hb dX1_does_142 (by decide) ?_
                          refine lv_goto (tgt := 147) hx hb dX1_does_143 (by decide) ?_
                          have eb : doB f k a b = true := by unfold doB; simp (decide := true) [c_1, c_3, c_5, c_7, c_11, c_15, c_17, c_19, c_22, c_23, c_24, c_25]
                          have e1 : doF f k a b = f := by unfold doF; simp (decide := true) [c_1, c_3, c_5, c_7, c_11, c_15, c_17, c_19, c_22, c_23, c_24, c_25]
                          exact eM_z (g := g) (b := doB f k a b) hx hb hr hlocks () (by rw [eb]; try rfl) (by rw [eb]; try rfl) (show va_P g.1 vwCl [(h0, .inr (1, [.ref h1])), (h1, .inl (gJ g, 3, .inr (.inl (doF f k a b))))] H by rw [e1]; exact hP.sub [0, 1] rfl) (show va_D A [(h0, .inr (1, [.ref h1])), (h1, .inl (gJ g, 3, .inr (.inl (doF f k a b))))] by rw [e1]; exact hD.sub [0, 1] (by decide) rfl) hS dX1_does_147
                  · skip
                    refine lv_tableOut (tgt := 148) hx hb dX1_does_1 (sw_out (lo := 1) (hi := 9) (fun k h1 h2 => by have hk : k = 1 ∨ k = 2 ∨ k = 3 ∨ k = 4 ∨ k = 5 ∨ k = 6 ∨ k = 7 ∨ k = 8 ∨ k = 9 := (by omega); rcases hk with rfl | rfl | rfl | rfl | rfl | rfl | rfl | rfl | rfl <;> assumption)) (by decide) ?_
                    refine lv_iconst (v := 0) hx hb dX1_does_148 (by decide) ?_
                    have eb : doB f k a b = false := by unfold doB; simp (decide := true) [c_1, c_3, c_5, c_7, c_11, c_15, c_17, c_19, c_22]
                    have e1 : doF f k a b = f := by unfold doF; simp (decide := true) [c_1, c_3, c_5, c_7, c_11, c_15, c_17, c_19, c_22]
                    exact eM_z (g := g) (b := doB f k a b) hx hb hr hlocks () (by rw [eb]; try rfl) (by rw [eb]; try rfl) (show va_P g.1 vwCl [(h0, .inr (1, [.ref h1])), (h1, .inl (gJ g, 3, .inr (.inl (doF f k a b))))] H by rw [e1]; exact hP.sub [0, 1] rfl) (show va_D A [(h0, .inr (1, [.ref h1])), (h1, .inl (gJ g, 3, .inr (.inl (doF f k a b))))] by rw [e1]; exact hD.sub [0, 1] (by decide) rfl) hS dX1_does_149
