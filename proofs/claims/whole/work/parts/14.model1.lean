/-! The reference: its static methods. -/
def inL (v a b : Int64) : Bool := decide (¬ v < a ∧ ¬ b < v)
theorem in7 {x : Int32} (h : inL x.toInt64 0 7 = true) : ∃ j : Nat, j < 8 ∧ x = nI j := by
  have h2 := of_decide_eq_true h
  have h3 : ¬ x < 0 := fun q => h2.1 ((fa_wide_lt x 0).mpr q)
  have h4 : x ≤ 7 := Int32.not_lt.mp fun q => h2.2 ((fa_wide_lt 7 x).mpr q)
  obtain ⟨j, hj, e⟩ := nI_of2 (M := 7) (n := 7) (by decide) h3 h4
  exact ⟨j, by omega, e⟩
theorem in7_nI {j : Nat} (h : j < 8) : inL (nI j).toInt64 0 7 = true := by
  have : ∀ i : Fin 8, inL (nI i.val).toInt64 0 7 = true := by decide +kernel
  exact this ⟨j, h⟩
def isR (v : Int64) (x y : Int32) : Bool := inL x.toInt64 0 7 && inL y.toInt64 0 7 && bt v (8 * y + x).toNatClampNeg
theorem isR_nI {v : Int64} {x y : Nat} (hx : x < 8) (hy : y < 8) : isR v (nI x) (nI y) = bt v (8 * y + x) := by
  unfold isR
  rw [in7_nI hx, in7_nI hy, show (8 : Int32) * nI y + nI x = nI (8 * y + x) from by rw [show (8 : Int32) = nI 8 from rfl, pk_mul, nI_add], nI_clamp (by omega)]
  rfl
theorem isR_k {v : Int64} {k : Nat} (h : k < 64) : isR v (nI (k % 8)) (nI (k / 8)) = bt v k := by
  rw [isR_nI (by omega) (by omega)]; congr 1; omega
def isPic (p : Int32) : Bool := decide (¬ p < 0 ∧ ¬ 3 ≤ p)
theorem isPic_in (p : Int32) : inL p.toInt64 0 2 = isPic p := by
  unfold inL isPic
  apply decide_eq_decide.mpr
  rw [show (p.toInt64 < 0 ↔ p < 0) from fa_wide_lt p 0, show (2 < p.toInt64 ↔ 2 < p) from fa_wide_lt 2 p]
  constructor
  · intro h; exact ⟨h.1, fun q => h.2 (Int32.lt_of_lt_of_le (by decide) q)⟩
  · intro h
    refine ⟨h.1, fun q => h.2 ?_⟩
    have q2 := (fa_lt 2 p).mp q
    exact (fa_le 3 p).mpr (by rw [show (2 : Int32).toInt = 2 from rfl] at q2; rw [show (3 : Int32).toInt = 3 from rfl]; omega)
theorem isPic_of {p : Int32} (h : isPic p = true) : ∃ j : Nat, j < 3 ∧ p = nI j := by
  have h2 := of_decide_eq_true h
  obtain ⟨j, hj, e⟩ := nI_of h2.1
  refine ⟨j, ?_, e⟩
  rw [e] at h2
  exact Nat.lt_of_not_le fun q => h2.2 ((nI_leI (a := 3) (b := j) (by decide) hj).mpr q)
theorem isPic_nI {j : Nat} (h : j < 3) : isPic (nI j) = true := by
  have : ∀ i : Fin 3, isPic (nI i.val) = true := by decide +kernel
  exact this ⟨j, h⟩
def wid (d : Nat) : Nat := 8 / 2 ^ d
theorem wid_eq {d : Nat} (h : d < 4) : ((8 : Int32) >>> (nI d &&& 31)) = nI (wid d) := by
  have : ∀ j : Fin 4, ((8 : Int32) >>> (nI j.val &&& 31)) = nI (wid j.val) := by decide +kernel
  exact this ⟨d, h⟩
theorem wid_le (d : Nat) : wid d ≤ 8 := Nat.div_le_self _ _
def lfM : Nat → Nat → Nat
  | 0, _ => 0
  | d + 1, r => r % 2 * wid (d + 1) + lfM d (r / 4)
def lwM : Nat → Nat → Nat
  | 0, _ => 0
  | d + 1, r => r % 4 / 2 * wid (d + 1) + lwM d (r / 4)
theorem lf_le {d p : Nat} (hd : d < 4) (hp : p < 64) : lfM d p + wid d ≤ 8 ∧ lwM d p + wid d ≤ 8 := by
  have : ∀ (j : Fin 4) (i : Fin 64), lfM j.val i.val + wid j.val ≤ 8 ∧ lwM j.val i.val + wid j.val ≤ 8 := by decide +kernel
  exact this ⟨d, hd⟩ ⟨p, hp⟩
def tellB (c : Int32) (x y : Nat) : Bool := decide (c = 98 ∨ (c = 103 ∧ (x + y) % 2 = 0) ∨ (c = 115 ∧ y % 2 = 0))
def pxF (c : Int32) (left y i : Nat) (a : Int64) : Int64 := a ||| (if tellB c (left + i) y = true then jshl 1 (8 * y + (left + i)) else 0)
def pyF (c : Int32) (d left low j : Nat) (a : Int64) : Int64 := it (pxF c left (low + j)) (wid d) a
def ptM (d p : Nat) (c : Int32) : Int64 := it (pyF c d (lfM d p) (lwM d p)) (wid d) 0
def mkM (d p : Nat) : Int64 := ptM d p 98
theorem or0 (a : Int64) : a ||| 0 = a := bt_ext fun k _ => by rw [bt_or, bt_0, Bool.or_false]
theorem tuM {v a : Int64} {k : Nat} (h : k < 64) : a ||| (if bt v k = true then jshl 1 (8 * (k % 8) + 7 - k / 8) else 0) = tuF v k a := by
  unfold tuF sh
  rw [show 8 * (k % 8) + 7 - k / 8 = 8 * (k % 8) + (7 - k / 8) by omega]
  by_cases q : bt v k = true
  · rw [if_pos q, if_pos q]
  · rw [if_neg q, if_neg q, or0]
theorem flM {v a : Int64} {k : Nat} (h : k < 64) : a ||| (if bt v k = true then jshl 1 (8 * (k / 8) + 7 - k % 8) else 0) = flF v k a := by
  unfold flF sh
  rw [show 8 * (k / 8) + 7 - k % 8 = 8 * (k / 8) + (7 - k % 8) by omega]
  by_cases q : bt v k = true
  · rw [if_pos q, if_pos q]
  · rw [if_neg q, if_neg q, or0]
def hcM (v : Int64) (i f : Nat) : Bool := bt v (8 * (2 * (i / 4) + f / 2) + (2 * (i % 4) + f % 2))
def haM (v : Int64) (q i : Nat) (a : Int64) : Int64 := a ||| (if fb_ct (hcM v i) 4 ≤ 1 then 0 else jshl 1 (8 * (i / 4 + 4 * (q / 2)) + i % 4 + 4 * (q % 2)))
def haMS (v : Int64) (q : Nat) : Int64 := it (haM v q) 16 0
def grM (v : Int64) (q i : Nat) (a : Int64) : Int64 := a ||| (if bt v (8 * (i / 16 + 4 * (q / 2)) + (i % 8 / 2 + 4 * (q % 2))) = true then jshl 1 i else 0)
def grMS (v : Int64) (q : Nat) : Int64 := it (grM v q) 64 0
def ifn {P : Prop} [Decidable P] (a b : Nat) : Nat := if P then a else b
theorem ifI {P : Prop} [Decidable P] {a b : Nat} {x y : Int32} (hx : x = nI a) (hy : y = nI b) : (if P then x else y) = nI (if P then a else b) := by subst hx; subst hy; split <;> rfl
theorem ifB {P : Prop} [Decidable P] : (if P then (1 : Int32) else 0) = b2i (decide P) := by unfold b2i; by_cases h : P <;> simp [h]
def nbM (r p : Int64) : Int64 := p ||| ((jshl p 8 ||| jushr p 8 ||| (jshl p 1 &&& (-72340172838076674)) ||| (jushr p 1 &&& 9187201950435737471)) &&& r)
def rmF (v : Int64) (k : Nat) : Nat := if bt v k = true then (if isR v (nI (k % 8 + 1)) (nI (k / 8)) = true then 0 else 1) + (if isR v (nI (k % 8) - 1) (nI (k / 8)) = true then 0 else 1) + (if isR v (nI (k % 8)) (nI (k / 8 + 1)) = true then 0 else 1) + (if isR v (nI (k % 8)) (nI (k / 8) - 1) = true then 0 else 1) else 0
def p4 (d : Nat) : Nat := 4 ^ d
theorem p4_le {d : Nat} (h : d < 4) : p4 d ≤ 64 := by
  have : ∀ j : Fin 4, p4 j.val ≤ 64 := by decide
  exact this ⟨d, h⟩
theorem p4_eq {d : Nat} (h : d < 4) : ((1 : Int32) <<< (nI (2 * d) &&& 31)) = nI (p4 d) := by
  have : ∀ j : Fin 4, ((1 : Int32) <<< (nI (2 * j.val) &&& 31)) = nI (p4 j.val) := by decide +kernel
  exact this ⟨d, h⟩
def blM (d k : Nat) (s : Int64 × Nat) : Int64 × Nat := (s.1 &&& (if decide (s.1 &&& mkM d k = mkM d k) = true then mkM d k ^^^ (-1) else (-1)), s.2 + (if decide (s.1 &&& mkM d k = mkM d k) = true then 1 else 0))
def blMS (v : Int64) : Int64 × Nat := it (fun d s => it (blM d) (p4 d) s) 4 (v, 0)
theorem pcn_0 {x : Int64} (h : pcn x = 0) : x = 0 := bt_ext fun k hk => by rw [bt_0]; exact fb_ct_zero.mp h k hk
theorem pcn_z : pcn 0 = 0 := fb_ct_zero.mpr fun k _ => bt_0 k
theorem un_0 {a b : Int64} {w : Nat} : unS a b w = 0 ↔ bwS a w = b := by
  unfold unS
  constructor
  · intro h
    have h2 := pcn_0 h
    apply bt_ext
    intro k hk
    have h3 := congrArg (fun z => bt z k) h2
    simp only [bt_xor, bt_0] at h3
    revert h3; cases bt (bwS a w) k <;> cases bt b k <;> simp
  · intro h
    rw [h, show b ^^^ b = 0 from bt_ext fun k _ => by rw [bt_xor, bt_0]; cases bt b k <;> rfl]
    exact pcn_z
theorem or0i (a : Int32) : a ||| 0 = a := by simp
theorem waM {a b : Int64} {w : Nat} {x : Int32} : x ||| (if bwS a w = b then (1 <<< (nI w &&& 31)) else 0) = waF a b w x := by
  unfold waF
  by_cases q : bwS a w = b
  · rw [if_pos q, if_pos (un_0.mpr q)]
  · rw [if_neg q, if_neg (fun h => q (un_0.mp h)), or0i]
theorem swW (v : Int64) (w : Nat) : (if w ≤ 3 then v else flS v) = it (fun _ a => tuS a) 0 (if 4 ≤ w then flS v else v) := by
  show _ = (if 4 ≤ w then flS v else v)
  by_cases h : w ≤ 3
  · rw [if_pos h, if_neg (by omega)]
  · rw [if_neg h, if_pos (by omega)]
def thM (n : Nat) : Int64 := it (fun _ a => a * 1000) n 1
def figN (l : Nat) : Nat := 1111 + 1000 * (l / 64) + 100 * (l / 16 % 4) + 10 * (l / 4 % 4) + l % 4
set_option maxHeartbeats 4000000 in
set_option maxRecDepth 100000 in
theorem c_X7_in (l : Launch) (g : GG) (H : Heap) (v : Int64) (a : Int64) (b : Int64)  : Met l yX7_in (Cond.code yX7_in cX7_in 6 (some .boolean) :: wsL_law) ({ frames := 0, cells := 0, slots := 0, locals := 0 }) (PR g [.long v, .long a, .long b] H) (QRi (b2i (inL v a b)) H) 0 0 NoA := by
  refine Met.R (by decide) (Nat.le_of_ble_eq_true rfl) rfl ?_
  intro p e s m below meth c hx hb hr hml hw hown hlocks hkn hH ls hl
  subst hH
  have hl : lv_has ls 6 [(0, .long v), (2, .long a), (4, .long b)] := hl
  have hS : va_S NoA s.heap s.heap [] := va_S.rf
  refine lv_lload_n hx hb dX7_in_0 rfl (lv_at hl 0 rfl) ?_
  refine lv_lload_n hx hb dX7_in_1 rfl (lv_at hl 1 rfl) ?_
  refine lc_lt (tgt := 17) hx hb dX7_in_2 dX7_in_3 (by decide) (fun c_1 => ?_) (fun c_1 => ?_)
  · skip
    refine lv_iconst (v := 0) hx hb dX7_in_17 (by decide) ?_
    exact eR_z hx hb hr hlocks (by simp [inL, b2i, c_1]) dX7_in_18
  · skip
    refine lv_lload_n hx hb dX7_in_6 rfl (lv_at hl 0 rfl) ?_
    refine lv_lload hx hb dX7_in_7 (lv_at hl 2 rfl) ?_
    refine lc_gt (tgt := 17) hx hb dX7_in_9 dX7_in_10 (by decide) (fun c_2 => ?_) (fun c_2 => ?_)
    · skip
      refine lv_iconst (v := 0) hx hb dX7_in_17 (by decide) ?_
      exact eR_z hx hb hr hlocks (by simp [inL, b2i, c_1, c_2]) dX7_in_18
    · skip
      refine lv_iconst (v := 1) hx hb dX7_in_13 (by decide) ?_
      refine lv_goto (tgt := 18) hx hb dX7_in_14 (by decide) ?_
      exact eR_z hx hb hr hlocks (by simp [inL, b2i, c_1, c_2]) dX7_in_18
set_option maxHeartbeats 4000000 in
set_option maxRecDepth 100000 in
theorem c_X7_ones (l : Launch) (g : GG) (H : Heap) (v : Int64)  : Met l yX7_ones (Cond.code yX7_ones cX7_ones 4 (some .int) :: wsL_law) ({ frames := 0, cells := 0, slots := 0, locals := 0 }) (PR g [.long v] H) (QRi (nI (pcn v)) H) 0 0 NoA := by
  refine Met.R (by decide) (Nat.le_of_ble_eq_true rfl) rfl ?_
  intro p e s m below meth c hx hb hr hml hw hown hlocks hkn hH ls hl
  subst hH
  have hl : lv_has ls 4 [(0, .long v)] := hl
  have hS : va_S NoA s.heap s.heap [] := va_S.rf
  refine lv_iconst (v := 0) hx hb dX7_ones_0 (by decide) ?_
  refine lv_istore_n (lv' := [(2, .int 0), (0, .long v)]) hx hb dX7_ones_1 rfl hl (by decide) rfl (fun ls hl => ?_)
  refine lv_iconst (v := 0) hx hb dX7_ones_2 (by decide) ?_
  refine lv_istore_n (lv' := [(3, .int 0), (2, .int 0), (0, .long v)]) hx hb dX7_ones_3 rfl hl (by decide) rfl (fun ls hl => ?_)
  have lp_4 : ∀ (n_4 : Nat) (i : Nat) (a : Nat), (i ≤ 64) → (a = fb_ct (bt v) i) → 64 < i + n_4 → ∀ (ls : Array Slot), lv_has ls 4 [(3, .int (nI i)), (2, .int (nI a)), (0, .long v)] → W p l e ({ frames := 0, cells := 0, slots := 0, locals := 0 } : Room) s m ([.long v] : List Value).toArray below meth c s.heap [] 0 0 (MQ below (QRi (nI (pcn v)) s.heap) ([.long v] : List Value).toArray s 0 0 NoA) (F0 m 4 ls []) := by
    intro n_4
    induction n_4 with
    | zero => intro i a h_i h_a hfu_4; exact absurd hfu_4 (by omega)
    | succ n_4 ih_4 =>
      intro i a h_i h_a hfu_4 ls hl
      refine lv_iload_n hx hb dX7_ones_4 rfl (lv_at hl 0 rfl) ?_
      refine lv_bipush (v := 64) hx hb dX7_ones_5 (by decide) ?_
      refine ic_ge (a := i) (d := 64) (tgt := 25) hx hb dX7_ones_7 (by decide) rfl rfl (by omega) (by omega) (fun c_1 => ?_) (fun c_1 => ?_)
      · skip
        refine lv_iload_n hx hb dX7_ones_25 rfl (lv_at hl 1 rfl) ?_
        exact eR_i hx hb hr hlocks (by rw [h_a, show i = 64 by omega]; rfl) dX7_ones_26
      · skip
        refine lv_iload_n hx hb dX7_ones_10 rfl (lv_at hl 1 rfl) ?_
        refine lv_lload_n hx hb dX7_ones_11 rfl (lv_at hl 2 rfl) ?_
        refine lv_iload_n hx hb dX7_ones_12 rfl (lv_at hl 0 rfl) ?_
        refine lv_lushr (v := (jushr v i)) hx hb dX7_ones_13 rfl ?_
        refine lv_lconst (v := 1) hx hb dX7_ones_14 rfl ?_
        refine lv_land hx hb dX7_ones_15 ?_
        refine lv_l2i hx hb dX7_ones_16 rfl ?_
        refine lv_eqi (show _ = (nI (if bt v i then 1 else 0)) from by rw [bit1 v (by omega)]; cases bt v i <;> rfl) ?_
        refine lv_iadd hx hb dX7_ones_17 ?_
        refine lv_eqi (nI_add a (if bt v i then 1 else 0)) ?_
        refine lv_istore_n (lv' := [(2, .int (nI (a + ((if bt v i then 1 else 0))))), (3, .int (nI i)), (0, .long v)]) hx hb dX7_ones_18 rfl hl (by decide) rfl (fun ls hl => ?_)
        refine lv_iinc (v := (nI (i + 1))) (lv' := [(3, .int (nI (i + 1))), (2, .int (nI (a + ((if bt v i then 1 else 0))))), (0, .long v)]) hx hb dX7_ones_19 hl (k := 1) rfl (nI_1 i) (by decide) rfl (fun ls hl => ?_)
        refine lv_goto (tgt := 4) hx hb dX7_ones_22 (by decide) ?_
        exact ih_4 (i + 1) (a + ((if bt v i then 1 else 0))) (by omega) (by rw [h_a]; rfl) (by omega) ls (lv_sub hl [0, 1, 2] rfl)
  exact lp_4 65 0 0 (by omega) (rfl) (by omega) ls (lv_sub hl [0, 1, 2] rfl)
set_option maxHeartbeats 4000000 in
set_option maxRecDepth 100000 in
theorem c_X7_is (l : Launch) (g : GG) (H : Heap) (v : Int64) (x : Int32) (y : Int32)  : Met l yX7_is (Cond.code yX7_is cX7_is 4 (some .boolean) :: wsL_law) ({ frames := 1, cells := 0, slots := 0, locals := 25 }) (PR g [.long v, .int x, .int y] H) (QRi (b2i (isR v x y)) H) 0 0 NoA := by
  refine Met.R (by decide) (Nat.le_of_ble_eq_true rfl) rfl ?_
  intro p e s m below meth c hx hb hr hml hw hown hlocks hkn hH ls hl
  subst hH
  have hl : lv_has ls 4 [(0, .long v), (2, .int x), (3, .int y)] := hl
  have hS : va_S NoA s.heap s.heap [] := va_S.rf
  refine lv_iload_n hx hb dX7_is_0 rfl (lv_at hl 1 rfl) ?_
  refine lv_i2l hx hb dX7_is_1 rfl ?_
  refine lv_lconst (v := 0) hx hb dX7_is_2 rfl ?_
  refine lv_ldc2 hx hb hown (hw _ mw_324) dX7_is_3 ?_
  refine cS_i (As := [.long ((x).toInt64), .long 0, .long 7]) (rest := []) hx hb hml hown hw hkn hS hl (c_X7_in l g _ ((x).toInt64) 0 7 ) sf_X7_in mw_101 ⟨(Nat.le_of_ble_eq_true rfl), (Nat.le_of_ble_eq_true rfl)⟩ rfl rfl rfl rfl (Nat.le_of_ble_eq_true rfl) dX7_is_6 ⟨(Nat.le_of_ble_eq_true rfl), (Nat.le_of_ble_eq_true rfl)⟩ ?_
  refine lv_ifeqB (b := inL ((x).toInt64) 0 7) (tgt := 43) hx hb dX7_is_9 (by decide) (fun c_1 => ?_) (fun c_1 => ?_)
  · skip
    refine lv_iconst (v := 0) hx hb dX7_is_43 (by decide) ?_
    exact eR_z hx hb hr hlocks (by simp [isR, b2i, c_1]) dX7_is_44
  · skip
    refine lv_iload_n hx hb dX7_is_12 rfl (lv_at hl 2 rfl) ?_
    refine lv_i2l hx hb dX7_is_13 rfl ?_
    refine lv_lconst (v := 0) hx hb dX7_is_14 rfl ?_
    refine lv_ldc2 hx hb hown (hw _ mw_324) dX7_is_15 ?_
    refine cS_i (As := [.long ((y).toInt64), .long 0, .long 7]) (rest := []) hx hb hml hown hw hkn hS hl (c_X7_in l g _ ((y).toInt64) 0 7 ) sf_X7_in mw_101 ⟨(Nat.le_of_ble_eq_true rfl), (Nat.le_of_ble_eq_true rfl)⟩ rfl rfl rfl rfl (Nat.le_of_ble_eq_true rfl) dX7_is_18 ⟨(Nat.le_of_ble_eq_true rfl), (Nat.le_of_ble_eq_true rfl)⟩ ?_
    refine lv_ifeqB (b := inL ((y).toInt64) 0 7) (tgt := 43) hx hb dX7_is_21 (by decide) (fun c_2 => ?_) (fun c_2 => ?_)
    · skip
      refine lv_iconst (v := 0) hx hb dX7_is_43 (by decide) ?_
      exact eR_z hx hb hr hlocks (by simp [isR, b2i, c_1, c_2]) dX7_is_44
    · skip
      obtain ⟨x9, hx9, rfl⟩ := in7 c_1
      obtain ⟨y9, hy9, rfl⟩ := in7 c_2
      refine lv_lload_n hx hb dX7_is_24 rfl (lv_at hl 0 rfl) ?_
      refine lv_bipush (v := 8) hx hb dX7_is_25 (by decide) ?_
      refine lv_iload_n hx hb dX7_is_27 rfl (lv_at hl 2 rfl) ?_
      refine lv_imul hx hb dX7_is_28 ?_
      refine lv_eqi (pk_mul 8 y9) ?_
      refine lv_iload_n hx hb dX7_is_29 rfl (lv_at hl 1 rfl) ?_
      refine lv_iadd hx hb dX7_is_30 ?_
      refine lv_eqi (nI_add (8 * y9) x9) ?_
      refine lv_lushr (v := (jushr v (8 * y9 + x9))) hx hb dX7_is_31 rfl ?_
      refine lv_lconst (v := 1) hx hb dX7_is_32 rfl ?_
      refine lv_land hx hb dX7_is_33 ?_
      refine lv_lconst (v := 1) hx hb dX7_is_34 rfl ?_
      refine lc_ne (tgt := 43) hx hb dX7_is_35 dX7_is_36 (by decide) (fun c_3 => ?_) (fun c_3 => ?_)
      · skip
        refine lv_iconst (v := 0) hx hb dX7_is_43 (by decide) ?_
        exact eR_z hx hb hr hlocks (by rw [isR_nI hx9 hy9]; simp [b2i, (bit1_iff v (show 8 * y9 + x9 < 64 by omega)).symm, c_1, c_2, c_3]) dX7_is_44
      · skip
        refine lv_iconst (v := 1) hx hb dX7_is_39 (by decide) ?_
        refine lv_goto (tgt := 44) hx hb dX7_is_40 (by decide) ?_
        exact eR_z hx hb hr hlocks (by rw [isR_nI hx9 hy9]; simp [b2i, (bit1_iff v (show 8 * y9 + x9 < 64 by omega)).symm, c_1, c_2, c_3]) dX7_is_44
set_option maxHeartbeats 4000000 in
set_option maxRecDepth 100000 in
theorem c_X7_widthAt (l : Launch) (g : GG) (H : Heap) (d : Nat) (hd : d < 4) : Met l yX7_widthAt (Cond.code yX7_widthAt cX7_widthAt 1 (some .int) :: wsL_law) ({ frames := 0, cells := 0, slots := 0, locals := 0 }) (PR g [.int (nI d)] H) (QRi (nI (wid d)) H) 0 0 NoA := by
  refine Met.R (by decide) (Nat.le_of_ble_eq_true rfl) rfl ?_
  intro p e s m below meth c hx hb hr hml hw hown hlocks hkn hH ls hl
  subst hH
  have hl : lv_has ls 1 [(0, .int (nI d))] := hl
  have hS : va_S NoA s.heap s.heap [] := va_S.rf
  refine lv_bipush (v := 8) hx hb dX7_widthAt_0 (by decide) ?_
  refine lv_iload_n hx hb dX7_widthAt_2 rfl (lv_at hl 0 rfl) ?_
  refine lv_ishr hx hb dX7_widthAt_3 ?_
  exact eR_i hx hb hr hlocks (wid_eq hd) dX7_widthAt_4
set_option maxHeartbeats 4000000 in
set_option maxRecDepth 100000 in
theorem c_X7_leftOf (l : Launch) (g : GG) (H : Heap) (d : Nat) (q : Nat) (hd : d < 4) (hq : q < 64) : Met l yX7_leftOf (Cond.code yX7_leftOf cX7_leftOf 5 (some .int) :: wsL_law) ({ frames := 1, cells := 0, slots := 0, locals := 20 }) (PR g [.int (nI d), .int (nI q)] H) (QRi (nI (lfM d q)) H) 0 0 NoA := by
  refine Met.R (by decide) (Nat.le_of_ble_eq_true rfl) rfl ?_
  intro p e s m below meth c hx hb hr hml hw hown hlocks hkn hH ls hl
  subst hH
  have hl : lv_has ls 5 [(0, .int (nI d)), (1, .int (nI q))] := hl
  have hS : va_S NoA s.heap s.heap [] := va_S.rf
  refine lv_iconst (v := 0) hx hb dX7_leftOf_0 (by decide) ?_
  refine lv_istore_n (lv' := [(2, .int 0), (0, .int (nI d)), (1, .int (nI q))]) hx hb dX7_leftOf_1 rfl hl (by decide) rfl (fun ls hl => ?_)
  refine lv_iload_n hx hb dX7_leftOf_2 rfl (lv_at hl 2 rfl) ?_
  refine lv_istore_n (lv' := [(3, .int (nI q)), (2, .int 0), (0, .int (nI d)), (1, .int (nI q))]) hx hb dX7_leftOf_3 rfl hl (by decide) rfl (fun ls hl => ?_)
  refine lv_iload_n hx hb dX7_leftOf_4 rfl (lv_at hl 2 rfl) ?_
  refine lv_istore (lv' := [(4, .int (nI d)), (3, .int (nI q)), (2, .int 0), (0, .int (nI d)), (1, .int (nI q))]) hx hb dX7_leftOf_5 hl (by decide) rfl (fun ls hl => ?_)
  have lp_7 : ∀ (n_7 : Nat) (j : Nat) (r : Nat) (x : Nat), (j ≤ d) → (r < 64) → (x + lfM j r = lfM d q) → j < n_7 → ∀ (ls : Array Slot), lv_has ls 5 [(4, .int (nI j)), (3, .int (nI r)), (2, .int (nI x)), (0, .int (nI d)), (1, .int (nI q))] → W p l e ({ frames := 1, cells := 0, slots := 0, locals := 20 } : Room) s m ([.int (nI d), .int (nI q)] : List Value).toArray below meth c s.heap [] 0 0 (MQ below (QRi (nI (lfM d q)) s.heap) ([.int (nI d), .int (nI q)] : List Value).toArray s 0 0 NoA) (F0 m 7 ls []) := by
    intro n_7
    induction n_7 with
    | zero => intro j r x h_j h_r h_x hfu_7; exact absurd hfu_7 (by omega)
    | succ n_7 ih_7 =>
      intro j r x h_j h_r h_x hfu_7 ls hl
      refine lv_iload hx hb dX7_leftOf_7 (lv_at hl 0 rfl) ?_
      refine iz_le (a := j) (tgt := 34) hx hb dX7_leftOf_9 (by decide) rfl (by omega) (fun c_1 => ?_) (fun c_1 => ?_)
      · skip
        refine lv_iload_n hx hb dX7_leftOf_34 rfl (lv_at hl 2 rfl) ?_
        exact eR_i hx hb hr hlocks (by subst c_1; exact congrArg nI (by rw [← h_x]; rfl)) dX7_leftOf_35
      · skip
        refine lv_iload_n hx hb dX7_leftOf_12 rfl (lv_at hl 2 rfl) ?_
        refine lv_iload_n hx hb dX7_leftOf_13 rfl (lv_at hl 1 rfl) ?_
        refine lv_iconst (v := 2) hx hb dX7_leftOf_14 (by decide) ?_
        refine lv_irem hx hb dX7_leftOf_15 (by decide) ?_
        refine lv_eqi (pk_rem (a := r) (d := 2) (by omega) (by omega) (by omega)) ?_
        refine lv_iload hx hb dX7_leftOf_16 (lv_at hl 0 rfl) ?_
        refine cS_i (As := [.int (nI j)]) (rest := [.int (nI (r % 2)), .int (nI x)]) hx hb hml hown hw hkn hS hl (c_X7_widthAt l g _ j (by omega)) sf_X7_widthAt mw_190 ⟨(Nat.le_of_ble_eq_true rfl), (Nat.le_of_ble_eq_true rfl)⟩ rfl rfl rfl rfl (Nat.le_of_ble_eq_true rfl) dX7_leftOf_18 ⟨(Nat.le_of_ble_eq_true rfl), (Nat.le_of_ble_eq_true rfl)⟩ ?_
        refine lv_imul hx hb dX7_leftOf_21 ?_
        refine lv_eqi (pk_mul (r % 2) (wid j)) ?_
        refine lv_iadd hx hb dX7_leftOf_22 ?_
        refine lv_eqi (nI_add x ((r % 2) * (wid j))) ?_
        refine lv_istore_n (lv' := [(2, .int (nI (x + ((r % 2) * (wid j))))), (4, .int (nI j)), (3, .int (nI r)), (0, .int (nI d)), (1, .int (nI q))]) hx hb dX7_leftOf_23 rfl hl (by decide) rfl (fun ls hl => ?_)
        refine lv_iload_n hx hb dX7_leftOf_24 rfl (lv_at hl 2 rfl) ?_
        refine lv_iconst (v := 4) hx hb dX7_leftOf_25 (by decide) ?_
        refine lv_idiv hx hb dX7_leftOf_26 (by decide) ?_
        refine lv_eqi (pk_div (a := r) (d := 4) (by omega) (by omega) (by omega)) ?_
        refine lv_istore_n (lv' := [(3, .int (nI (r / 4))), (2, .int (nI (x + ((r % 2) * (wid j))))), (4, .int (nI j)), (0, .int (nI d)), (1, .int (nI q))]) hx hb dX7_leftOf_27 rfl hl (by decide) rfl (fun ls hl => ?_)
        refine lv_iinc (v := (nI (j - 1))) (lv' := [(4, .int (nI (j - 1))), (3, .int (nI (r / 4))), (2, .int (nI (x + ((r % 2) * (wid j))))), (0, .int (nI d)), (1, .int (nI q))]) hx hb dX7_leftOf_28 hl (k := 2) rfl (nI_dec (by omega)) (by decide) rfl (fun ls hl => ?_)
        refine lv_goto (tgt := 7) hx hb dX7_leftOf_31 (by decide) ?_
        exact ih_7 (j - 1) (r / 4) (x + ((r % 2) * (wid j))) (by omega) (by omega) (by obtain ⟨k, rfl⟩ : ∃ k, j = k + 1 := ⟨j - 1, by omega⟩; rw [← h_x]; show _ + lfM k (r / 4) = _ + (r % 2 * wid (k + 1) + lfM k (r / 4)); omega) (by omega) ls (lv_sub hl [0, 1, 2, 3, 4] rfl)
  exact lp_7 (d + 1) d q 0 (by omega) (by omega) (Nat.zero_add _) (by omega) ls (lv_sub hl [0, 1, 2, 3, 4] rfl)
set_option maxHeartbeats 4000000 in
set_option maxRecDepth 100000 in
theorem c_X7_lowOf (l : Launch) (g : GG) (H : Heap) (d : Nat) (q : Nat) (hd : d < 4) (hq : q < 64) : Met l yX7_lowOf (Cond.code yX7_lowOf cX7_lowOf 5 (some .int) :: wsL_law) ({ frames := 1, cells := 0, slots := 0, locals := 20 }) (PR g [.int (nI d), .int (nI q)] H) (QRi (nI (lwM d q)) H) 0 0 NoA := by
  refine Met.R (by decide) (Nat.le_of_ble_eq_true rfl) rfl ?_
  intro p e s m below meth c hx hb hr hml hw hown hlocks hkn hH ls hl
  subst hH
  have hl : lv_has ls 5 [(0, .int (nI d)), (1, .int (nI q))] := hl
  have hS : va_S NoA s.heap s.heap [] := va_S.rf
  refine lv_iconst (v := 0) hx hb dX7_lowOf_0 (by decide) ?_
  refine lv_istore_n (lv' := [(2, .int 0), (0, .int (nI d)), (1, .int (nI q))]) hx hb dX7_lowOf_1 rfl hl (by decide) rfl (fun ls hl => ?_)
  refine lv_iload_n hx hb dX7_lowOf_2 rfl (lv_at hl 2 rfl) ?_
  refine lv_istore_n (lv' := [(3, .int (nI q)), (2, .int 0), (0, .int (nI d)), (1, .int (nI q))]) hx hb dX7_lowOf_3 rfl hl (by decide) rfl (fun ls hl => ?_)
  refine lv_iload_n hx hb dX7_lowOf_4 rfl (lv_at hl 2 rfl) ?_
  refine lv_istore (lv' := [(4, .int (nI d)), (3, .int (nI q)), (2, .int 0), (0, .int (nI d)), (1, .int (nI q))]) hx hb dX7_lowOf_5 hl (by decide) rfl (fun ls hl => ?_)
  have lp_7 : ∀ (n_7 : Nat) (j : Nat) (r : Nat) (x : Nat), (j ≤ d) → (r < 64) → (x + lwM j r = lwM d q) → j < n_7 → ∀ (ls : Array Slot), lv_has ls 5 [(4, .int (nI j)), (3, .int (nI r)), (2, .int (nI x)), (0, .int (nI d)), (1, .int (nI q))] → W p l e ({ frames := 1, cells := 0, slots := 0, locals := 20 } : Room) s m ([.int (nI d), .int (nI q)] : List Value).toArray below meth c s.heap [] 0 0 (MQ below (QRi (nI (lwM d q)) s.heap) ([.int (nI d), .int (nI q)] : List Value).toArray s 0 0 NoA) (F0 m 7 ls []) := by
    intro n_7
    induction n_7 with
    | zero => intro j r x h_j h_r h_x hfu_7; exact absurd hfu_7 (by omega)
    | succ n_7 ih_7 =>
      intro j r x h_j h_r h_x hfu_7 ls hl
      refine lv_iload hx hb dX7_lowOf_7 (lv_at hl 0 rfl) ?_
      refine iz_le (a := j) (tgt := 36) hx hb dX7_lowOf_9 (by decide) rfl (by omega) (fun c_1 => ?_) (fun c_1 => ?_)
      · skip
        refine lv_iload_n hx hb dX7_lowOf_36 rfl (lv_at hl 2 rfl) ?_
        exact eR_i hx hb hr hlocks (by subst c_1; exact congrArg nI (by rw [← h_x]; rfl)) dX7_lowOf_37
      · skip
        refine lv_iload_n hx hb dX7_lowOf_12 rfl (lv_at hl 2 rfl) ?_
        refine lv_iload_n hx hb dX7_lowOf_13 rfl (lv_at hl 1 rfl) ?_
        refine lv_iconst (v := 4) hx hb dX7_lowOf_14 (by decide) ?_
        refine lv_irem hx hb dX7_lowOf_15 (by decide) ?_
        refine lv_eqi (pk_rem (a := r) (d := 4) (by omega) (by omega) (by omega)) ?_
        refine lv_iconst (v := 2) hx hb dX7_lowOf_16 (by decide) ?_
        refine lv_idiv hx hb dX7_lowOf_17 (by decide) ?_
        refine lv_eqi (pk_div (a := r % 4) (d := 2) (by omega) (by omega) (by omega)) ?_
        refine lv_iload hx hb dX7_lowOf_18 (lv_at hl 0 rfl) ?_
        refine cS_i (As := [.int (nI j)]) (rest := [.int (nI ((r % 4) / 2)), .int (nI x)]) hx hb hml hown hw hkn hS hl (c_X7_widthAt l g _ j (by omega)) sf_X7_widthAt mw_190 ⟨(Nat.le_of_ble_eq_true rfl), (Nat.le_of_ble_eq_true rfl)⟩ rfl rfl rfl rfl (Nat.le_of_ble_eq_true rfl) dX7_lowOf_20 ⟨(Nat.le_of_ble_eq_true rfl), (Nat.le_of_ble_eq_true rfl)⟩ ?_
        refine lv_imul hx hb dX7_lowOf_23 ?_
        refine lv_eqi (pk_mul ((r % 4) / 2) (wid j)) ?_
        refine lv_iadd hx hb dX7_lowOf_24 ?_
        refine lv_eqi (nI_add x (((r % 4) / 2) * (wid j))) ?_
        refine lv_istore_n (lv' := [(2, .int (nI (x + (((r % 4) / 2) * (wid j))))), (4, .int (nI j)), (3, .int (nI r)), (0, .int (nI d)), (1, .int (nI q))]) hx hb dX7_lowOf_25 rfl hl (by decide) rfl (fun ls hl => ?_)
        refine lv_iload_n hx hb dX7_lowOf_26 rfl (lv_at hl 2 rfl) ?_
        refine lv_iconst (v := 4) hx hb dX7_lowOf_27 (by decide) ?_
        refine lv_idiv hx hb dX7_lowOf_28 (by decide) ?_
        refine lv_eqi (pk_div (a := r) (d := 4) (by omega) (by omega) (by omega)) ?_
        refine lv_istore_n (lv' := [(3, .int (nI (r / 4))), (2, .int (nI (x + (((r % 4) / 2) * (wid j))))), (4, .int (nI j)), (0, .int (nI d)), (1, .int (nI q))]) hx hb dX7_lowOf_29 rfl hl (by decide) rfl (fun ls hl => ?_)
        refine lv_iinc (v := (nI (j - 1))) (lv' := [(4, .int (nI (j - 1))), (3, .int (nI (r / 4))), (2, .int (nI (x + (((r % 4) / 2) * (wid j))))), (0, .int (nI d)), (1, .int (nI q))]) hx hb dX7_lowOf_30 hl (k := 2) rfl (nI_dec (by omega)) (by decide) rfl (fun ls hl => ?_)
        refine lv_goto (tgt := 7) hx hb dX7_lowOf_33 (by decide) ?_
        exact ih_7 (j - 1) (r / 4) (x + (((r % 4) / 2) * (wid j))) (by omega) (by omega) (by obtain ⟨k, rfl⟩ : ∃ k, j = k + 1 := ⟨j - 1, by omega⟩; rw [← h_x]; show _ + lwM k (r / 4) = _ + (r % 4 / 2 * wid (k + 1) + lwM k (r / 4)); omega) (by omega) ls (lv_sub hl [0, 1, 2, 3, 4] rfl)
  exact lp_7 (d + 1) d q 0 (by omega) (by omega) (Nat.zero_add _) (by omega) ls (lv_sub hl [0, 1, 2, 3, 4] rfl)
set_option maxHeartbeats 4000000 in
set_option maxRecDepth 100000 in
theorem c_X7_tells (l : Launch) (g : GG) (H : Heap) (c0 : Int32) (x : Nat) (y : Nat) (hx8 : x < 8) (hy8 : y < 8) : Met l yX7_tells (Cond.code yX7_tells cX7_tells 3 (some .boolean) :: wsL_law) ({ frames := 0, cells := 0, slots := 0, locals := 0 }) (PR g [.int c0, .int (nI x), .int (nI y)] H) (QRi (b2i (tellB c0 x y)) H) 0 0 NoA := by
  refine Met.R (by decide) (Nat.le_of_ble_eq_true rfl) rfl ?_
  intro p e s m below meth c hx hb hr hml hw hown hlocks hkn hH ls hl
  subst hH
  have hl : lv_has ls 3 [(0, .int c0), (1, .int (nI x)), (2, .int (nI y))] := hl
  have hS : va_S NoA s.heap s.heap [] := va_S.rf
  refine lv_iload_n hx hb dX7_tells_0 rfl (lv_at hl 0 rfl) ?_
  refine lv_bipush (v := 98) hx hb dX7_tells_1 (by decide) ?_
  refine lv_icmp_eq (tgt := 32) hx hb dX7_tells_3 (by decide) (fun c_1 => ?_) (fun c_1 => ?_)
  · skip
    refine lv_iconst (v := 1) hx hb dX7_tells_32 (by decide) ?_
    refine lv_goto (tgt := 37) hx hb dX7_tells_33 (by decide) ?_
    exact eR_z hx hb hr hlocks (by first | (simp [tellB, b2i, c_1]; done) | (simp [tellB, b2i, c_1]; omega) | exact absurd (c_2.symm.trans c_6) (by decide)) dX7_tells_37
  · skip
    refine lv_iload_n hx hb dX7_tells_6 rfl (lv_at hl 0 rfl) ?_
    refine lv_bipush (v := 103) hx hb dX7_tells_7 (by decide) ?_
    refine lv_icmp_ne (tgt := 20) hx hb dX7_tells_9 (by decide) (fun c_2 => ?_) (fun c_2 => ?_)
    · skip
      refine lv_iload_n hx hb dX7_tells_20 rfl (lv_at hl 0 rfl) ?_
      refine lv_bipush (v := 115) hx hb dX7_tells_21 (by decide) ?_
      refine lv_icmp_ne (tgt := 36) hx hb dX7_tells_23 (by decide) (fun c_3 => ?_) (fun c_3 => ?_)
      · skip
        refine lv_iconst (v := 0) hx hb dX7_tells_36 (by decide) ?_
        exact eR_z hx hb hr hlocks (by first | (simp [tellB, b2i, c_1, c_2, c_3]; done) | (simp [tellB, b2i, c_1, c_2, c_3]; omega) | exact absurd (c_2.symm.trans c_6) (by decide)) dX7_tells_37
      · skip
        refine lv_iload_n hx hb dX7_tells_26 rfl (lv_at hl 2 rfl) ?_
        refine lv_iconst (v := 2) hx hb dX7_tells_27 (by decide) ?_
        refine lv_irem hx hb dX7_tells_28 (by decide) ?_
        refine lv_eqi (pk_rem (a := y) (d := 2) (by omega) (by omega) (by omega)) ?_
        refine iz_ne (a := y % 2) (tgt := 36) hx hb dX7_tells_29 (by decide) rfl (by omega) (fun c_4 => ?_) (fun c_4 => ?_)
        · skip
          refine lv_iconst (v := 0) hx hb dX7_tells_36 (by decide) ?_
          exact eR_z hx hb hr hlocks (by first | (simp [tellB, b2i, c_1, c_2, c_3, c_4]; done) | (simp [tellB, b2i, c_1, c_2, c_3, c_4]; omega) | exact absurd (c_2.symm.trans c_6) (by decide)) dX7_tells_37
        · skip
          refine lv_iconst (v := 1) hx hb dX7_tells_32 (by decide) ?_
          refine lv_goto (tgt := 37) hx hb dX7_tells_33 (by decide) ?_
          exact eR_z hx hb hr hlocks (by first | (simp [tellB, b2i, c_1, c_2, c_3, c_4]; done) | (simp [tellB, b2i, c_1, c_2, c_3, c_4]; omega) | exact absurd (c_2.symm.trans c_6) (by decide)) dX7_tells_37
    · skip
      refine lv_iload_n hx hb dX7_tells_12 rfl (lv_at hl 1 rfl) ?_
      refine lv_iload_n hx hb dX7_tells_13 rfl (lv_at hl 2 rfl) ?_
      refine lv_iadd hx hb dX7_tells_14 ?_
      refine lv_eqi (nI_add x y) ?_
      refine lv_iconst (v := 2) hx hb dX7_tells_15 (by decide) ?_
      refine lv_irem hx hb dX7_tells_16 (by decide) ?_
      refine lv_eqi (pk_rem (a := x + y) (d := 2) (by omega) (by omega) (by omega)) ?_
      refine iz_eq (a := (x + y) % 2) (tgt := 32) hx hb dX7_tells_17 (by decide) rfl (by omega) (fun c_5 => ?_) (fun c_5 => ?_)
      · skip
        refine lv_iconst (v := 1) hx hb dX7_tells_32 (by decide) ?_
        refine lv_goto (tgt := 37) hx hb dX7_tells_33 (by decide) ?_
        exact eR_z hx hb hr hlocks (by first | (simp [tellB, b2i, c_1, c_2, c_5]; done) | (simp [tellB, b2i, c_1, c_2, c_5]; omega) | exact absurd (c_2.symm.trans c_6) (by decide)) dX7_tells_37
      · skip
        refine lv_iload_n hx hb dX7_tells_20 rfl (lv_at hl 0 rfl) ?_
        refine lv_bipush (v := 115) hx hb dX7_tells_21 (by decide) ?_
        refine lv_icmp_ne (tgt := 36) hx hb dX7_tells_23 (by decide) (fun c_6 => ?_) (fun c_6 => ?_)
        · skip
          refine lv_iconst (v := 0) hx hb dX7_tells_36 (by decide) ?_
          exact eR_z hx hb hr hlocks (by first | (simp [tellB, b2i, c_1, c_2, c_5, c_6]; done) | (simp [tellB, b2i, c_1, c_2, c_5, c_6]; omega) | exact absurd (c_2.symm.trans c_6) (by decide)) dX7_tells_37
        · skip
          refine lv_iload_n hx hb dX7_tells_26 rfl (lv_at hl 2 rfl) ?_
          refine lv_iconst (v := 2) hx hb dX7_tells_27 (by decide) ?_
          refine lv_irem hx hb dX7_tells_28 (by decide) ?_
          refine lv_eqi (pk_rem (a := y) (d := 2) (by omega) (by omega) (by omega)) ?_
          refine iz_ne (a := y % 2) (tgt := 36) hx hb dX7_tells_29 (by decide) rfl (by omega) (fun c_7 => ?_) (fun c_7 => ?_)
          · skip
            refine lv_iconst (v := 0) hx hb dX7_tells_36 (by decide) ?_
            exact eR_z hx hb hr hlocks (by first | (simp [tellB, b2i, c_1, c_2, c_5, c_6, c_7]; done) | (simp [tellB, b2i, c_1, c_2, c_5, c_6, c_7]; omega) | exact absurd (c_2.symm.trans c_6) (by decide)) dX7_tells_37
          · skip
            refine lv_iconst (v := 1) hx hb dX7_tells_32 (by decide) ?_
            refine lv_goto (tgt := 37) hx hb dX7_tells_33 (by decide) ?_
            exact eR_z hx hb hr hlocks (by first | (simp [tellB, b2i, c_1, c_2, c_5, c_6, c_7]; done) | (simp [tellB, b2i, c_1, c_2, c_5, c_6, c_7]; omega) | exact absurd (c_2.symm.trans c_6) (by decide)) dX7_tells_37
set_option maxHeartbeats 4000000 in
set_option maxRecDepth 100000 in
theorem c_X7_paintOf (l : Launch) (g : GG) (H : Heap) (d : Nat) (q : Nat) (c0 : Int32) (hd : d < 4) (hq : q < 64) : Met l yX7_paintOf (Cond.code yX7_paintOf cX7_paintOf 9 (some .long) :: wsL_law) ({ frames := 2, cells := 0, slots := 0, locals := 44 }) (PR g [.int (nI d), .int (nI q), .int c0] H) (QRl (ptM d q c0) H) 0 0 NoA := by
  refine Met.R (by decide) (Nat.le_of_ble_eq_true rfl) rfl ?_
  intro p e s m below meth c hx hb hr hml hw hown hlocks hkn hH ls hl
  subst hH
  have hl : lv_has ls 9 [(0, .int (nI d)), (1, .int (nI q)), (2, .int c0)] := hl
  have hS : va_S NoA s.heap s.heap [] := va_S.rf
  have hle := lf_le hd hq
  have hwi := wid_le d
  refine lv_lconst (v := 0) hx hb dX7_paintOf_0 rfl ?_
  refine lv_lstore_n (lv' := [(3, .long 0), (0, .int (nI d)), (1, .int (nI q)), (2, .int c0)]) hx hb dX7_paintOf_1 rfl hl (by decide) rfl (fun ls hl => ?_)
  refine lv_iload_n hx hb dX7_paintOf_2 rfl (lv_at hl 1 rfl) ?_
  refine lv_iload_n hx hb dX7_paintOf_3 rfl (lv_at hl 2 rfl) ?_
  refine cS_i (As := [.int (nI d), .int (nI q)]) (rest := []) hx hb hml hown hw hkn hS hl (c_X7_leftOf l g _ d q (by omega) (by omega)) sf_X7_leftOf mw_187 ⟨(Nat.le_of_ble_eq_true rfl), (Nat.le_of_ble_eq_true rfl)⟩ rfl rfl rfl rfl (Nat.le_of_ble_eq_true rfl) dX7_paintOf_4 ⟨(Nat.le_of_ble_eq_true rfl), (Nat.le_of_ble_eq_true rfl)⟩ ?_
  refine lv_istore (lv' := [(5, .int (nI (lfM d q))), (3, .long 0), (0, .int (nI d)), (1, .int (nI q)), (2, .int c0)]) hx hb dX7_paintOf_7 hl (by decide) rfl (fun ls hl => ?_)
  refine lv_iload_n hx hb dX7_paintOf_9 rfl (lv_at hl 2 rfl) ?_
  refine lv_iload_n hx hb dX7_paintOf_10 rfl (lv_at hl 3 rfl) ?_
  refine cS_i (As := [.int (nI d), .int (nI q)]) (rest := []) hx hb hml hown hw hkn hS hl (c_X7_lowOf l g _ d q (by omega) (by omega)) sf_X7_lowOf mw_193 ⟨(Nat.le_of_ble_eq_true rfl), (Nat.le_of_ble_eq_true rfl)⟩ rfl rfl rfl rfl (Nat.le_of_ble_eq_true rfl) dX7_paintOf_11 ⟨(Nat.le_of_ble_eq_true rfl), (Nat.le_of_ble_eq_true rfl)⟩ ?_
  refine lv_istore (lv' := [(6, .int (nI (lwM d q))), (5, .int (nI (lfM d q))), (3, .long 0), (0, .int (nI d)), (1, .int (nI q)), (2, .int c0)]) hx hb dX7_paintOf_14 hl (by decide) rfl (fun ls hl => ?_)
  refine lv_iload hx hb dX7_paintOf_16 (lv_at hl 0 rfl) ?_
  refine lv_istore (lv' := [(7, .int (nI (lwM d q))), (6, .int (nI (lwM d q))), (5, .int (nI (lfM d q))), (3, .long 0), (0, .int (nI d)), (1, .int (nI q)), (2, .int c0)]) hx hb dX7_paintOf_18 hl (by decide) rfl (fun ls hl => ?_)
  have lp_20 : ∀ (n_20 : Nat) (y : Nat) (a : Int64), (lwM d q ≤ y) → (y ≤ lwM d q + wid d) → (a = it (pyF c0 d (lfM d q) (lwM d q)) (y - lwM d q) 0) → lwM d q + wid d < y + n_20 → ∀ (ls : Array Slot), lv_has ls 9 [(7, .int (nI y)), (6, .int (nI (lwM d q))), (5, .int (nI (lfM d q))), (3, .long a), (0, .int (nI d)), (1, .int (nI q)), (2, .int c0)] → W p l e ({ frames := 2, cells := 0, slots := 0, locals := 44 } : Room) s m ([.int (nI d), .int (nI q), .int c0] : List Value).toArray below meth c s.heap [] 0 0 (MQ below (QRl (ptM d q c0) s.heap) ([.int (nI d), .int (nI q), .int c0] : List Value).toArray s 0 0 NoA) (F0 m 20 ls []) := by
    intro n_20
    induction n_20 with
    | zero => intro y a h_y1 h_y2 h_a hfu_20; exact absurd hfu_20 (by omega)
    | succ n_20 ih_20 =>
      intro y a h_y1 h_y2 h_a hfu_20 ls hl
      refine lv_iload hx hb dX7_paintOf_20 (lv_at hl 0 rfl) ?_
      refine lv_iload hx hb dX7_paintOf_22 (lv_at hl 1 rfl) ?_
      refine lv_iload_n hx hb dX7_paintOf_24 rfl (lv_at hl 4 rfl) ?_
      refine cS_i (As := [.int (nI d)]) (rest := [.int (nI (lwM d q)), .int (nI y)]) hx hb hml hown hw hkn hS hl (c_X7_widthAt l g _ d (by omega)) sf_X7_widthAt mw_190 ⟨(Nat.le_of_ble_eq_true rfl), (Nat.le_of_ble_eq_true rfl)⟩ rfl rfl rfl rfl (Nat.le_of_ble_eq_true rfl) dX7_paintOf_25 ⟨(Nat.le_of_ble_eq_true rfl), (Nat.le_of_ble_eq_true rfl)⟩ ?_
      refine lv_iadd hx hb dX7_paintOf_28 ?_
      refine lv_eqi (nI_add (lwM d q) (wid d)) ?_
      refine ic_ge (a := y) (d := lwM d q + (wid d)) (tgt := 88) hx hb dX7_paintOf_29 (by decide) rfl rfl (by omega) (by omega) (fun c_1 => ?_) (fun c_1 => ?_)
      · skip
        refine lv_lload_n hx hb dX7_paintOf_88 rfl (lv_at hl 3 rfl) ?_
        exact eR_l hx hb hr hlocks (by rw [h_a, show y - lwM d q = wid d by omega]; rfl) dX7_paintOf_89
      · skip
        refine lv_iload hx hb dX7_paintOf_32 (lv_at hl 2 rfl) ?_
        refine lv_istore (lv' := [(8, .int (nI (lfM d q))), (7, .int (nI y)), (6, .int (nI (lwM d q))), (5, .int (nI (lfM d q))), (3, .long a), (0, .int (nI d)), (1, .int (nI q)), (2, .int c0)]) hx hb dX7_paintOf_34 hl (by decide) rfl (fun ls hl => ?_)
        have lp_36 : ∀ (n_36 : Nat) (x : Nat) (b : Int64), (lfM d q ≤ x) → (x ≤ lfM d q + wid d) → (b = it (pxF c0 (lfM d q) y) (x - lfM d q) a) → lfM d q + wid d < x + n_36 → ∀ (ls : Array Slot), lv_has ls 9 [(8, .int (nI x)), (7, .int (nI y)), (6, .int (nI (lwM d q))), (5, .int (nI (lfM d q))), (3, .long b), (0, .int (nI d)), (1, .int (nI q)), (2, .int c0)] → W p l e ({ frames := 2, cells := 0, slots := 0, locals := 44 } : Room) s m ([.int (nI d), .int (nI q), .int c0] : List Value).toArray below meth c s.heap [] 0 0 (MQ below (QRl (ptM d q c0) s.heap) ([.int (nI d), .int (nI q), .int c0] : List Value).toArray s 0 0 NoA) (F0 m 36 ls []) := by
          intro n_36
          induction n_36 with
          | zero => intro x b h_x1 h_x2 h_b hfu_36; exact absurd hfu_36 (by omega)
          | succ n_36 ih_36 =>
            intro x b h_x1 h_x2 h_b hfu_36 ls hl
            refine lv_iload hx hb dX7_paintOf_36 (lv_at hl 0 rfl) ?_
            refine lv_iload hx hb dX7_paintOf_38 (lv_at hl 3 rfl) ?_
            refine lv_iload_n hx hb dX7_paintOf_40 rfl (lv_at hl 5 rfl) ?_
            refine cS_i (As := [.int (nI d)]) (rest := [.int (nI (lfM d q)), .int (nI x)]) hx hb hml hown hw hkn hS hl (c_X7_widthAt l g _ d (by omega)) sf_X7_widthAt mw_190 ⟨(Nat.le_of_ble_eq_true rfl), (Nat.le_of_ble_eq_true rfl)⟩ rfl rfl rfl rfl (Nat.le_of_ble_eq_true rfl) dX7_paintOf_41 ⟨(Nat.le_of_ble_eq_true rfl), (Nat.le_of_ble_eq_true rfl)⟩ ?_
            refine lv_iadd hx hb dX7_paintOf_44 ?_
            refine lv_eqi (nI_add (lfM d q) (wid d)) ?_
            refine ic_ge (a := x) (d := lfM d q + (wid d)) (tgt := 82) hx hb dX7_paintOf_45 (by decide) rfl rfl (by omega) (by omega) (fun c_2 => ?_) (fun c_2 => ?_)
            · skip
              refine lv_iinc (v := (nI (y + 1))) (lv' := [(7, .int (nI (y + 1))), (8, .int (nI x)), (6, .int (nI (lwM d q))), (5, .int (nI (lfM d q))), (3, .long b), (0, .int (nI d)), (1, .int (nI q)), (2, .int c0)]) hx hb dX7_paintOf_82 hl (k := 1) rfl (nI_1 y) (by decide) rfl (fun ls hl => ?_)
              refine lv_goto (tgt := 20) hx hb dX7_paintOf_85 (by decide) ?_
              exact ih_20 (y + 1) b (by omega) (by omega) (by rw [show y + 1 - lwM d q = (y - lwM d q) + 1 by omega, it_s, ← h_a]; unfold pyF; rw [show lwM d q + (y - lwM d q) = y by omega, h_b, show x - lfM d q = wid d by omega]) (by omega) ls (lv_sub hl [0, 2, 3, 4, 5, 6, 7] rfl)
            · skip
              refine lv_lload_n hx hb dX7_paintOf_48 rfl (lv_at hl 4 rfl) ?_
              refine lv_iload_n hx hb dX7_paintOf_49 rfl (lv_at hl 7 rfl) ?_
              refine lv_iload hx hb dX7_paintOf_50 (lv_at hl 0 rfl) ?_
              refine lv_iload hx hb dX7_paintOf_52 (lv_at hl 1 rfl) ?_
              refine cS_i (As := [.int c0, .int (nI x), .int (nI y)]) (rest := [.long b]) hx hb hml hown hw hkn hS hl (c_X7_tells l g _ c0 x y (by omega) (by omega)) sf_X7_tells mw_196 ⟨(Nat.le_of_ble_eq_true rfl), (Nat.le_of_ble_eq_true rfl)⟩ rfl rfl rfl rfl (Nat.le_of_ble_eq_true rfl) dX7_paintOf_54 ⟨(Nat.le_of_ble_eq_true rfl), (Nat.le_of_ble_eq_true rfl)⟩ ?_
              have mg_74 : W p l e ({ frames := 2, cells := 0, slots := 0, locals := 44 } : Room) s m ([.int (nI d), .int (nI q), .int c0] : List Value).toArray below meth c s.heap [] 0 0 (MQ below (QRl (ptM d q c0) s.heap) ([.int (nI d), .int (nI q), .int c0] : List Value).toArray s 0 0 NoA) (F0 m 74 ls (.long (if tellB c0 x y = true then (jshl 1 (8 * y + x)) else 0) :: [.long b])) := by
                refine lv_lor hx hb dX7_paintOf_74 ?_
                refine lv_lstore_n (lv' := [(3, .long (b ||| (if tellB c0 x y = true then (jshl 1 (8 * y + x)) else 0))), (8, .int (nI x)), (7, .int (nI y)), (6, .int (nI (lwM d q))), (5, .int (nI (lfM d q))), (0, .int (nI d)), (1, .int (nI q)), (2, .int c0)]) hx hb dX7_paintOf_75 rfl hl (by decide) rfl (fun ls hl => ?_)
                refine lv_iinc (v := (nI (x + 1))) (lv' := [(8, .int (nI (x + 1))), (3, .long (b ||| (if tellB c0 x y = true then (jshl 1 (8 * y + x)) else 0))), (7, .int (nI y)), (6, .int (nI (lwM d q))), (5, .int (nI (lfM d q))), (0, .int (nI d)), (1, .int (nI q)), (2, .int c0)]) hx hb dX7_paintOf_76 hl (k := 1) rfl (nI_1 x) (by decide) rfl (fun ls hl => ?_)
                refine lv_goto (tgt := 36) hx hb dX7_paintOf_79 (by decide) ?_
                exact ih_36 (x + 1) (b ||| (if tellB c0 x y = true then (jshl 1 (8 * y + x)) else 0)) (by omega) (by omega) (by rw [show x + 1 - lfM d q = (x - lfM d q) + 1 by omega, it_s, ← h_b]; unfold pxF; rw [show lfM d q + (x - lfM d q) = x by omega]) (by omega) ls (lv_sub hl [0, 2, 3, 4, 1, 5, 6, 7] rfl)
              refine lv_ifeqB (b := tellB c0 x y) (tgt := 73) hx hb dX7_paintOf_57 (by decide) (fun c_3 => ?_) (fun c_3 => ?_)
              · skip
                refine lv_lconst (v := 0) hx hb dX7_paintOf_73 rfl ?_
                exact lv_eql (by rw [if_neg (nt_of c_3)]) mg_74
              · skip
                refine lv_lconst (v := 1) hx hb dX7_paintOf_60 rfl ?_
                refine lv_bipush (v := 8) hx hb dX7_paintOf_61 (by decide) ?_
                refine lv_iload hx hb dX7_paintOf_63 (lv_at hl 1 rfl) ?_
                refine lv_imul hx hb dX7_paintOf_65 ?_
                refine lv_eqi (pk_mul 8 y) ?_
                refine lv_iload hx hb dX7_paintOf_66 (lv_at hl 0 rfl) ?_
                refine lv_iadd hx hb dX7_paintOf_68 ?_
                refine lv_eqi (nI_add (8 * y) x) ?_
                refine lv_lshl (v := (jshl 1 (8 * y + x))) hx hb dX7_paintOf_69 rfl ?_
                refine lv_goto (tgt := 74) hx hb dX7_paintOf_70 (by decide) ?_
                exact lv_eql (by rw [if_pos c_3]) mg_74
        exact lp_36 9 (lfM d q) a (by omega) (by omega) (by rw [Nat.sub_self]; rfl) (by omega) ls (lv_sub hl [0, 1, 2, 3, 4, 5, 6, 7] rfl)
  exact lp_20 9 (lwM d q) 0 (by omega) (by omega) (by rw [Nat.sub_self]; rfl) (by omega) ls (lv_sub hl [0, 1, 2, 3, 4, 5, 6] rfl)
set_option maxHeartbeats 4000000 in
set_option maxRecDepth 100000 in
theorem c_X7_maskOf (l : Launch) (g : GG) (H : Heap) (d : Nat) (q : Nat) (hd : d < 4) (hq : q < 64) : Met l yX7_maskOf (Cond.code yX7_maskOf cX7_maskOf 2 (some .long) :: wsL_law) ({ frames := 3, cells := 0, slots := 0, locals := 72 }) (PR g [.int (nI d), .int (nI q)] H) (QRl (mkM d q) H) 0 0 NoA := by
  refine Met.R (by decide) (Nat.le_of_ble_eq_true rfl) rfl ?_
  intro p e s m below meth c hx hb hr hml hw hown hlocks hkn hH ls hl
  subst hH
  have hl : lv_has ls 2 [(0, .int (nI d)), (1, .int (nI q))] := hl
  have hS : va_S NoA s.heap s.heap [] := va_S.rf
  refine lv_iload_n hx hb dX7_maskOf_0 rfl (lv_at hl 0 rfl) ?_
  refine lv_iload_n hx hb dX7_maskOf_1 rfl (lv_at hl 1 rfl) ?_
  refine lv_bipush (v := 98) hx hb dX7_maskOf_2 (by decide) ?_
  refine cS_l (As := [.int (nI d), .int (nI q), .int 98]) (rest := []) hx hb hml hown hw hkn hS hl (c_X7_paintOf l g _ d q 98 (by omega) (by omega)) sf_X7_paintOf mw_184 ⟨(Nat.le_of_ble_eq_true rfl), (Nat.le_of_ble_eq_true rfl)⟩ rfl rfl rfl rfl (Nat.le_of_ble_eq_true rfl) dX7_maskOf_4 ⟨(Nat.le_of_ble_eq_true rfl), (Nat.le_of_ble_eq_true rfl)⟩ ?_
  exact eR_l hx hb hr hlocks (rfl) dX7_maskOf_7
set_option maxHeartbeats 4000000 in
set_option maxRecDepth 100000 in
theorem c_X7_isLeaf (l : Launch) (g : GG) (H : Heap) (c0 : Int32)  : Met l yX7_isLeaf (Cond.code yX7_isLeaf cX7_isLeaf 1 (some .boolean) :: wsL_law) ({ frames := 0, cells := 0, slots := 0, locals := 0 }) (PR g [.int c0] H) (QRi (b2i (isLeafB c0)) H) 0 0 NoA := by
  refine Met.R (by decide) (Nat.le_of_ble_eq_true rfl) rfl ?_
  intro p e s m below meth c hx hb hr hml hw hown hlocks hkn hH ls hl
  subst hH
  have hl : lv_has ls 1 [(0, .int c0)] := hl
  have hS : va_S NoA s.heap s.heap [] := va_S.rf
  refine lv_iload_n hx hb dX7_isLeaf_0 rfl (lv_at hl 0 rfl) ?_
  refine lv_bipush (v := 98) hx hb dX7_isLeaf_1 (by decide) ?_
  refine lv_icmp_eq (tgt := 24) hx hb dX7_isLeaf_3 (by decide) (fun c_1 => ?_) (fun c_1 => ?_)
  · skip
    refine lv_iconst (v := 1) hx hb dX7_isLeaf_24 (by decide) ?_
    refine lv_goto (tgt := 29) hx hb dX7_isLeaf_25 (by decide) ?_
    exact eR_z hx hb hr hlocks (by simp [isLeafB, b2i, c_1]) dX7_isLeaf_29
  · skip
    refine lv_iload_n hx hb dX7_isLeaf_6 rfl (lv_at hl 0 rfl) ?_
    refine lv_bipush (v := 119) hx hb dX7_isLeaf_7 (by decide) ?_
    refine lv_icmp_eq (tgt := 24) hx hb dX7_isLeaf_9 (by decide) (fun c_2 => ?_) (fun c_2 => ?_)
    · skip
      refine lv_iconst (v := 1) hx hb dX7_isLeaf_24 (by decide) ?_
      refine lv_goto (tgt := 29) hx hb dX7_isLeaf_25 (by decide) ?_
      exact eR_z hx hb hr hlocks (by simp [isLeafB, b2i, c_1, c_2]) dX7_isLeaf_29
    · skip
      refine lv_iload_n hx hb dX7_isLeaf_12 rfl (lv_at hl 0 rfl) ?_
      refine lv_bipush (v := 103) hx hb dX7_isLeaf_13 (by decide) ?_
      refine lv_icmp_eq (tgt := 24) hx hb dX7_isLeaf_15 (by decide) (fun c_3 => ?_) (fun c_3 => ?_)
      · skip
        refine lv_iconst (v := 1) hx hb dX7_isLeaf_24 (by decide) ?_
        refine lv_goto (tgt := 29) hx hb dX7_isLeaf_25 (by decide) ?_
        exact eR_z hx hb hr hlocks (by simp [isLeafB, b2i, c_1, c_2, c_3]) dX7_isLeaf_29
      · skip
        refine lv_iload_n hx hb dX7_isLeaf_18 rfl (lv_at hl 0 rfl) ?_
        refine lv_bipush (v := 115) hx hb dX7_isLeaf_19 (by decide) ?_
        refine lv_icmp_ne (tgt := 28) hx hb dX7_isLeaf_21 (by decide) (fun c_4 => ?_) (fun c_4 => ?_)
        · skip
          refine lv_iconst (v := 0) hx hb dX7_isLeaf_28 (by decide) ?_
          exact eR_z hx hb hr hlocks (by simp [isLeafB, b2i, c_1, c_2, c_3, c_4]) dX7_isLeaf_29
        · skip
          refine lv_iconst (v := 1) hx hb dX7_isLeaf_24 (by decide) ?_
          refine lv_goto (tgt := 29) hx hb dX7_isLeaf_25 (by decide) ?_
          exact eR_z hx hb hr hlocks (by simp [isLeafB, b2i, c_1, c_2, c_3, c_4]) dX7_isLeaf_29
set_option maxHeartbeats 4000000 in
set_option maxRecDepth 100000 in
theorem c_X7_isPicture (l : Launch) (g : GG) (H : Heap) (p0 : Int32)  : Met l yX7_isPicture (Cond.code yX7_isPicture cX7_isPicture 1 (some .boolean) :: wsL_law) ({ frames := 1, cells := 0, slots := 0, locals := 25 }) (PR g [.int p0] H) (QRi (b2i (isPic p0)) H) 0 0 NoA := by
  refine Met.R (by decide) (Nat.le_of_ble_eq_true rfl) rfl ?_
  intro p e s m below meth c hx hb hr hml hw hown hlocks hkn hH ls hl
  subst hH
  have hl : lv_has ls 1 [(0, .int p0)] := hl
  have hS : va_S NoA s.heap s.heap [] := va_S.rf
  refine lv_iload_n hx hb dX7_isPicture_0 rfl (lv_at hl 0 rfl) ?_
  refine lv_i2l hx hb dX7_isPicture_1 rfl ?_
  refine lv_lconst (v := 0) hx hb dX7_isPicture_2 rfl ?_
  refine lv_ldc2 hx hb hown (hw _ mw_180) dX7_isPicture_3 ?_
  refine cS_i (As := [.long ((p0).toInt64), .long 0, .long 2]) (rest := []) hx hb hml hown hw hkn hS hl (c_X7_in l g _ ((p0).toInt64) 0 2 ) sf_X7_in mw_101 ⟨(Nat.le_of_ble_eq_true rfl), (Nat.le_of_ble_eq_true rfl)⟩ rfl rfl rfl rfl (Nat.le_of_ble_eq_true rfl) dX7_isPicture_6 ⟨(Nat.le_of_ble_eq_true rfl), (Nat.le_of_ble_eq_true rfl)⟩ ?_
  exact eR_z hx hb hr hlocks (congrArg b2i (isPic_in p0)) dX7_isPicture_9
set_option maxHeartbeats 4000000 in
set_option maxRecDepth 100000 in
theorem c_X7_turned (l : Launch) (g : GG) (H : Heap) (v : Int64)  : Met l yX7_turned (Cond.code yX7_turned cX7_turned 7 (some .long) :: wsL_law) ({ frames := 2, cells := 0, slots := 0, locals := 48 }) (PR g [.long v] H) (QRl (tuS v) H) 0 0 NoA := by
  refine Met.R (by decide) (Nat.le_of_ble_eq_true rfl) rfl ?_
  intro p e s m below meth c hx hb hr hml hw hown hlocks hkn hH ls hl
  subst hH
  have hl : lv_has ls 7 [(0, .long v)] := hl
  have hS : va_S NoA s.heap s.heap [] := va_S.rf
  refine lv_lconst (v := 0) hx hb dX7_turned_0 rfl ?_
  refine lv_lstore_n (lv' := [(2, .long 0), (0, .long v)]) hx hb dX7_turned_1 rfl hl (by decide) rfl (fun ls hl => ?_)
  refine lv_iconst (v := 0) hx hb dX7_turned_2 (by decide) ?_
  refine lv_istore (lv' := [(4, .int 0), (2, .long 0), (0, .long v)]) hx hb dX7_turned_3 hl (by decide) rfl (fun ls hl => ?_)
  have lp_5 : ∀ (n_5 : Nat) (i : Nat) (a : Int64), (i ≤ 64) → (a = it (tuF v) i 0) → 64 < i + n_5 → ∀ (ls : Array Slot), lv_has ls 7 [(4, .int (nI i)), (2, .long a), (0, .long v)] → W p l e ({ frames := 2, cells := 0, slots := 0, locals := 48 } : Room) s m ([.long v] : List Value).toArray below meth c s.heap [] 0 0 (MQ below (QRl (tuS v) s.heap) ([.long v] : List Value).toArray s 0 0 NoA) (F0 m 5 ls []) := by
    intro n_5
    induction n_5 with
    | zero => intro i a h_i h_a hfu_5; exact absurd hfu_5 (by omega)
    | succ n_5 ih_5 =>
      intro i a h_i h_a hfu_5 ls hl
      refine lv_iload hx hb dX7_turned_5 (lv_at hl 0 rfl) ?_
      refine lv_bipush (v := 64) hx hb dX7_turned_7 (by decide) ?_
      refine ic_ge (a := i) (d := 64) (tgt := 63) hx hb dX7_turned_9 (by decide) rfl rfl (by omega) (by omega) (fun c_1 => ?_) (fun c_1 => ?_)
      · skip
        refine lv_lload_n hx hb dX7_turned_63 rfl (lv_at hl 1 rfl) ?_
        exact eR_l hx hb hr hlocks (by rw [h_a, show i = 64 by omega]; rfl) dX7_turned_64
      · skip
        refine lv_iload hx hb dX7_turned_12 (lv_at hl 0 rfl) ?_
        refine lv_bipush (v := 8) hx hb dX7_turned_14 (by decide) ?_
        refine lv_irem hx hb dX7_turned_16 (by decide) ?_
        refine lv_eqi (pk_rem (a := i) (d := 8) (by omega) (by omega) (by omega)) ?_
        refine lv_istore (lv' := [(5, .int (nI (i % 8))), (4, .int (nI i)), (2, .long a), (0, .long v)]) hx hb dX7_turned_17 hl (by decide) rfl (fun ls hl => ?_)
        refine lv_iload hx hb dX7_turned_19 (lv_at hl 1 rfl) ?_
        refine lv_bipush (v := 8) hx hb dX7_turned_21 (by decide) ?_
        refine lv_idiv hx hb dX7_turned_23 (by decide) ?_
        refine lv_eqi (pk_div (a := i) (d := 8) (by omega) (by omega) (by omega)) ?_
        refine lv_istore (lv' := [(6, .int (nI (i / 8))), (5, .int (nI (i % 8))), (4, .int (nI i)), (2, .long a), (0, .long v)]) hx hb dX7_turned_24 hl (by decide) rfl (fun ls hl => ?_)
        refine lv_lload_n hx hb dX7_turned_26 rfl (lv_at hl 3 rfl) ?_
        refine lv_lload_n hx hb dX7_turned_27 rfl (lv_at hl 4 rfl) ?_
        refine lv_iload hx hb dX7_turned_28 (lv_at hl 1 rfl) ?_
        refine lv_iload hx hb dX7_turned_30 (lv_at hl 0 rfl) ?_
        refine cS_i (As := [.long v, .int (nI (i % 8)), .int (nI (i / 8))]) (rest := [.long a]) hx hb hml hown hw hkn hS hl (c_X7_is l g _ v (nI (i % 8)) (nI (i / 8)) ) sf_X7_is mw_321 ⟨(Nat.le_of_ble_eq_true rfl), (Nat.le_of_ble_eq_true rfl)⟩ rfl rfl rfl rfl (Nat.le_of_ble_eq_true rfl) dX7_turned_32 ⟨(Nat.le_of_ble_eq_true rfl), (Nat.le_of_ble_eq_true rfl)⟩ ?_
        refine lv_eqi (show _ = b2i (bt v i) from congrArg b2i (isR_k (by omega))) ?_
        have mg_55 : W p l e ({ frames := 2, cells := 0, slots := 0, locals := 48 } : Room) s m ([.long v] : List Value).toArray below meth c s.heap [] 0 0 (MQ below (QRl (tuS v) s.heap) ([.long v] : List Value).toArray s 0 0 NoA) (F0 m 55 ls (.long (if bt v i = true then (jshl 1 (8 * (i % 8) + 7 - (i / 8))) else 0) :: [.long a])) := by
          refine lv_lor hx hb dX7_turned_55 ?_
          refine lv_lstore_n (lv' := [(2, .long (a ||| (if bt v i = true then (jshl 1 (8 * (i % 8) + 7 - (i / 8))) else 0))), (6, .int (nI (i / 8))), (5, .int (nI (i % 8))), (4, .int (nI i)), (0, .long v)]) hx hb dX7_turned_56 rfl hl (by decide) rfl (fun ls hl => ?_)
          refine lv_iinc (v := (nI (i + 1))) (lv' := [(4, .int (nI (i + 1))), (2, .long (a ||| (if bt v i = true then (jshl 1 (8 * (i % 8) + 7 - (i / 8))) else 0))), (6, .int (nI (i / 8))), (5, .int (nI (i % 8))), (0, .long v)]) hx hb dX7_turned_57 hl (k := 3) rfl (nI_1 i) (by decide) rfl (fun ls hl => ?_)
          refine lv_goto (tgt := 5) hx hb dX7_turned_60 (by decide) ?_
          exact ih_5 (i + 1) (a ||| (if bt v i = true then (jshl 1 (8 * (i % 8) + 7 - (i / 8))) else 0)) (by omega) (by rw [tuM (by omega), h_a, it_s]) (by omega) ls (lv_sub hl [0, 1, 4] rfl)
        refine lv_ifeqB (b := bt v i) (tgt := 54) hx hb dX7_turned_35 (by decide) (fun c_2 => ?_) (fun c_2 => ?_)
        · skip
          refine lv_lconst (v := 0) hx hb dX7_turned_54 rfl ?_
          exact lv_eql (by rw [if_neg (nt_of c_2)]) mg_55
        · skip
          refine lv_lconst (v := 1) hx hb dX7_turned_38 rfl ?_
          refine lv_bipush (v := 8) hx hb dX7_turned_39 (by decide) ?_
          refine lv_iload hx hb dX7_turned_41 (lv_at hl 1 rfl) ?_
          refine lv_imul hx hb dX7_turned_43 ?_
          refine lv_eqi (pk_mul 8 (i % 8)) ?_
          refine lv_bipush (v := 7) hx hb dX7_turned_44 (by decide) ?_
          refine lv_iadd hx hb dX7_turned_46 ?_
          refine lv_eqi (nI_add (8 * (i % 8)) 7) ?_
          refine lv_iload hx hb dX7_turned_47 (lv_at hl 0 rfl) ?_
          refine lv_isub hx hb dX7_turned_49 ?_
          refine lv_eqi (pk_sub (a := 8 * (i % 8) + 7) (b := i / 8) (by omega)) ?_
          refine lv_lshl (v := (jshl 1 (8 * (i % 8) + 7 - (i / 8)))) hx hb dX7_turned_50 rfl ?_
          refine lv_goto (tgt := 55) hx hb dX7_turned_51 (by decide) ?_
          exact lv_eql (by rw [if_pos c_2]) mg_55
  exact lp_5 65 0 0 (by omega) (rfl) (by omega) ls (lv_sub hl [0, 1, 2] rfl)
set_option maxHeartbeats 4000000 in
set_option maxRecDepth 100000 in
theorem c_X7_flipped (l : Launch) (g : GG) (H : Heap) (v : Int64)  : Met l yX7_flipped (Cond.code yX7_flipped cX7_flipped 5 (some .long) :: wsL_law) ({ frames := 2, cells := 0, slots := 0, locals := 48 }) (PR g [.long v] H) (QRl (flS v) H) 0 0 NoA := by
  refine Met.R (by decide) (Nat.le_of_ble_eq_true rfl) rfl ?_
  intro p e s m below meth c hx hb hr hml hw hown hlocks hkn hH ls hl
  subst hH
  have hl : lv_has ls 5 [(0, .long v)] := hl
  have hS : va_S NoA s.heap s.heap [] := va_S.rf
  refine lv_lconst (v := 0) hx hb dX7_flipped_0 rfl ?_
  refine lv_lstore_n (lv' := [(2, .long 0), (0, .long v)]) hx hb dX7_flipped_1 rfl hl (by decide) rfl (fun ls hl => ?_)
  refine lv_iconst (v := 0) hx hb dX7_flipped_2 (by decide) ?_
  refine lv_istore (lv' := [(4, .int 0), (2, .long 0), (0, .long v)]) hx hb dX7_flipped_3 hl (by decide) rfl (fun ls hl => ?_)
  have lp_5 : ∀ (n_5 : Nat) (i : Nat) (a : Int64), (i ≤ 64) → (a = it (flF v) i 0) → 64 < i + n_5 → ∀ (ls : Array Slot), lv_has ls 5 [(4, .int (nI i)), (2, .long a), (0, .long v)] → W p l e ({ frames := 2, cells := 0, slots := 0, locals := 48 } : Room) s m ([.long v] : List Value).toArray below meth c s.heap [] 0 0 (MQ below (QRl (flS v) s.heap) ([.long v] : List Value).toArray s 0 0 NoA) (F0 m 5 ls []) := by
    intro n_5
    induction n_5 with
    | zero => intro i a h_i h_a hfu_5; exact absurd hfu_5 (by omega)
    | succ n_5 ih_5 =>
      intro i a h_i h_a hfu_5 ls hl
      refine lv_iload hx hb dX7_flipped_5 (lv_at hl 0 rfl) ?_
      refine lv_bipush (v := 64) hx hb dX7_flipped_7 (by decide) ?_
      refine ic_ge (a := i) (d := 64) (tgt := 61) hx hb dX7_flipped_9 (by decide) rfl rfl (by omega) (by omega) (fun c_1 => ?_) (fun c_1 => ?_)
      · skip
        refine lv_lload_n hx hb dX7_flipped_61 rfl (lv_at hl 1 rfl) ?_
        exact eR_l hx hb hr hlocks (by rw [h_a, show i = 64 by omega]; rfl) dX7_flipped_62
      · skip
        refine lv_lload_n hx hb dX7_flipped_12 rfl (lv_at hl 1 rfl) ?_
        refine lv_lload_n hx hb dX7_flipped_13 rfl (lv_at hl 2 rfl) ?_
        refine lv_iload hx hb dX7_flipped_14 (lv_at hl 0 rfl) ?_
        refine lv_bipush (v := 8) hx hb dX7_flipped_16 (by decide) ?_
        refine lv_irem hx hb dX7_flipped_18 (by decide) ?_
        refine lv_eqi (pk_rem (a := i) (d := 8) (by omega) (by omega) (by omega)) ?_
        refine lv_iload hx hb dX7_flipped_19 (lv_at hl 0 rfl) ?_
        refine lv_bipush (v := 8) hx hb dX7_flipped_21 (by decide) ?_
        refine lv_idiv hx hb dX7_flipped_23 (by decide) ?_
        refine lv_eqi (pk_div (a := i) (d := 8) (by omega) (by omega) (by omega)) ?_
        refine cS_i (As := [.long v, .int (nI (i % 8)), .int (nI (i / 8))]) (rest := [.long a]) hx hb hml hown hw hkn hS hl (c_X7_is l g _ v (nI (i % 8)) (nI (i / 8)) ) sf_X7_is mw_321 ⟨(Nat.le_of_ble_eq_true rfl), (Nat.le_of_ble_eq_true rfl)⟩ rfl rfl rfl rfl (Nat.le_of_ble_eq_true rfl) dX7_flipped_24 ⟨(Nat.le_of_ble_eq_true rfl), (Nat.le_of_ble_eq_true rfl)⟩ ?_
        refine lv_eqi (show _ = b2i (bt v i) from congrArg b2i (isR_k (by omega))) ?_
        have mg_53 : W p l e ({ frames := 2, cells := 0, slots := 0, locals := 48 } : Room) s m ([.long v] : List Value).toArray below meth c s.heap [] 0 0 (MQ below (QRl (flS v) s.heap) ([.long v] : List Value).toArray s 0 0 NoA) (F0 m 53 ls (.long (if bt v i = true then (jshl 1 (8 * (i / 8) + 7 - (i % 8))) else 0) :: [.long a])) := by
          refine lv_lor hx hb dX7_flipped_53 ?_
          refine lv_lstore_n (lv' := [(2, .long (a ||| (if bt v i = true then (jshl 1 (8 * (i / 8) + 7 - (i % 8))) else 0))), (4, .int (nI i)), (0, .long v)]) hx hb dX7_flipped_54 rfl hl (by decide) rfl (fun ls hl => ?_)
          refine lv_iinc (v := (nI (i + 1))) (lv' := [(4, .int (nI (i + 1))), (2, .long (a ||| (if bt v i = true then (jshl 1 (8 * (i / 8) + 7 - (i % 8))) else 0))), (0, .long v)]) hx hb dX7_flipped_55 hl (k := 1) rfl (nI_1 i) (by decide) rfl (fun ls hl => ?_)
          refine lv_goto (tgt := 5) hx hb dX7_flipped_58 (by decide) ?_
          exact ih_5 (i + 1) (a ||| (if bt v i = true then (jshl 1 (8 * (i / 8) + 7 - (i % 8))) else 0)) (by omega) (by rw [flM (by omega), h_a, it_s]) (by omega) ls (lv_sub hl [0, 1, 2] rfl)
        refine lv_ifeqB (b := bt v i) (tgt := 52) hx hb dX7_flipped_27 (by decide) (fun c_2 => ?_) (fun c_2 => ?_)
        · skip
          refine lv_lconst (v := 0) hx hb dX7_flipped_52 rfl ?_
          exact lv_eql (by rw [if_neg (nt_of c_2)]) mg_53
        · skip
          refine lv_lconst (v := 1) hx hb dX7_flipped_30 rfl ?_
          refine lv_bipush (v := 8) hx hb dX7_flipped_31 (by decide) ?_
          refine lv_iload hx hb dX7_flipped_33 (lv_at hl 0 rfl) ?_
          refine lv_bipush (v := 8) hx hb dX7_flipped_35 (by decide) ?_
          refine lv_idiv hx hb dX7_flipped_37 (by decide) ?_
          refine lv_eqi (pk_div (a := i) (d := 8) (by omega) (by omega) (by omega)) ?_
          refine lv_imul hx hb dX7_flipped_38 ?_
          refine lv_eqi (pk_mul 8 (i / 8)) ?_
          refine lv_bipush (v := 7) hx hb dX7_flipped_39 (by decide) ?_
          refine lv_iadd hx hb dX7_flipped_41 ?_
          refine lv_eqi (nI_add (8 * (i / 8)) 7) ?_
          refine lv_iload hx hb dX7_flipped_42 (lv_at hl 0 rfl) ?_
          refine lv_bipush (v := 8) hx hb dX7_flipped_44 (by decide) ?_
          refine lv_irem hx hb dX7_flipped_46 (by decide) ?_
          refine lv_eqi (pk_rem (a := i) (d := 8) (by omega) (by omega) (by omega)) ?_
          refine lv_isub hx hb dX7_flipped_47 ?_
          refine lv_eqi (pk_sub (a := 8 * (i / 8) + 7) (b := i % 8) (by omega)) ?_
          refine lv_lshl (v := (jshl 1 (8 * (i / 8) + 7 - (i % 8)))) hx hb dX7_flipped_48 rfl ?_
          refine lv_goto (tgt := 53) hx hb dX7_flipped_49 (by decide) ?_
          exact lv_eql (by rw [if_pos c_2]) mg_53
  exact lp_5 65 0 0 (by omega) (rfl) (by omega) ls (lv_sub hl [0, 1, 2] rfl)
set_option maxHeartbeats 4000000 in
set_option maxRecDepth 100000 in
theorem c_X7_halved (l : Launch) (g : GG) (H : Heap) (v : Int64) (q : Nat) (hq : q < 4) : Met l yX7_halved (Cond.code yX7_halved cX7_halved 10 (some .long) :: wsL_law) ({ frames := 2, cells := 0, slots := 0, locals := 48 }) (PR g [.long v, .int (nI q)] H) (QRl (haMS v q) H) 0 0 NoA := by
  refine Met.R (by decide) (Nat.le_of_ble_eq_true rfl) rfl ?_
  intro p e s m below meth c hx hb hr hml hw hown hlocks hkn hH ls hl
  subst hH
  have hl : lv_has ls 10 [(0, .long v), (2, .int (nI q))] := hl
  have hS : va_S NoA s.heap s.heap [] := va_S.rf
  refine lv_lconst (v := 0) hx hb dX7_halved_0 rfl ?_
  refine lv_lstore_n (lv' := [(3, .long 0), (0, .long v), (2, .int (nI q))]) hx hb dX7_halved_1 rfl hl (by decide) rfl (fun ls hl => ?_)
  refine lv_iconst (v := 0) hx hb dX7_halved_2 (by decide) ?_
  refine lv_istore (lv' := [(5, .int 0), (3, .long 0), (0, .long v), (2, .int (nI q))]) hx hb dX7_halved_3 hl (by decide) rfl (fun ls hl => ?_)
  have lp_5 : ∀ (n_5 : Nat) (i : Nat) (a : Int64), (i ≤ 16) → (a = it (haM v q) i 0) → 16 < i + n_5 → ∀ (ls : Array Slot), lv_has ls 10 [(5, .int (nI i)), (3, .long a), (0, .long v), (2, .int (nI q))] → W p l e ({ frames := 2, cells := 0, slots := 0, locals := 48 } : Room) s m ([.long v, .int (nI q)] : List Value).toArray below meth c s.heap [] 0 0 (MQ below (QRl (haMS v q) s.heap) ([.long v, .int (nI q)] : List Value).toArray s 0 0 NoA) (F0 m 5 ls []) := by
    intro n_5
    induction n_5 with
    | zero => intro i a h_i h_a hfu_5; exact absurd hfu_5 (by omega)
    | succ n_5 ih_5 =>
      intro i a h_i h_a hfu_5 ls hl
      refine lv_iload hx hb dX7_halved_5 (lv_at hl 0 rfl) ?_
      refine lv_bipush (v := 16) hx hb dX7_halved_7 (by decide) ?_
      refine ic_ge (a := i) (d := 16) (tgt := 118) hx hb dX7_halved_9 (by decide) rfl rfl (by omega) (by omega) (fun c_1 => ?_) (fun c_1 => ?_)
      · skip
        refine lv_lload_n hx hb dX7_halved_118 rfl (lv_at hl 1 rfl) ?_
        exact eR_l hx hb hr hlocks (by rw [h_a, show i = 16 by omega]; rfl) dX7_halved_119
      · skip
        refine lv_iload hx hb dX7_halved_12 (lv_at hl 0 rfl) ?_
        refine lv_iconst (v := 4) hx hb dX7_halved_14 (by decide) ?_
        refine lv_irem hx hb dX7_halved_15 (by decide) ?_
        refine lv_eqi (pk_rem (a := i) (d := 4) (by omega) (by omega) (by omega)) ?_
        refine lv_istore (lv' := [(6, .int (nI (i % 4))), (5, .int (nI i)), (3, .long a), (0, .long v), (2, .int (nI q))]) hx hb dX7_halved_16 hl (by decide) rfl (fun ls hl => ?_)
        refine lv_iload hx hb dX7_halved_18 (lv_at hl 1 rfl) ?_
        refine lv_iconst (v := 4) hx hb dX7_halved_20 (by decide) ?_
        refine lv_idiv hx hb dX7_halved_21 (by decide) ?_
        refine lv_eqi (pk_div (a := i) (d := 4) (by omega) (by omega) (by omega)) ?_
        refine lv_istore (lv' := [(7, .int (nI (i / 4))), (6, .int (nI (i % 4))), (5, .int (nI i)), (3, .long a), (0, .long v), (2, .int (nI q))]) hx hb dX7_halved_22 hl (by decide) rfl (fun ls hl => ?_)
        refine lv_iconst (v := 0) hx hb dX7_halved_24 (by decide) ?_
        refine lv_istore (lv' := [(8, .int 0), (7, .int (nI (i / 4))), (6, .int (nI (i % 4))), (5, .int (nI i)), (3, .long a), (0, .long v), (2, .int (nI q))]) hx hb dX7_halved_25 hl (by decide) rfl (fun ls hl => ?_)
        refine lv_iconst (v := 0) hx hb dX7_halved_27 (by decide) ?_
        refine lv_istore (lv' := [(9, .int 0), (8, .int 0), (7, .int (nI (i / 4))), (6, .int (nI (i % 4))), (5, .int (nI i)), (3, .long a), (0, .long v), (2, .int (nI q))]) hx hb dX7_halved_28 hl (by decide) rfl (fun ls hl => ?_)
        have lp_30 : ∀ (n_30 : Nat) (f : Nat) (n1 : Nat), (f ≤ 4) → (n1 = fb_ct (hcM v i) f) → 4 < f + n_30 → ∀ (ls : Array Slot), lv_has ls 10 [(9, .int (nI f)), (8, .int (nI n1)), (7, .int (nI (i / 4))), (6, .int (nI (i % 4))), (5, .int (nI i)), (3, .long a), (0, .long v), (2, .int (nI q))] → W p l e ({ frames := 2, cells := 0, slots := 0, locals := 48 } : Room) s m ([.long v, .int (nI q)] : List Value).toArray below meth c s.heap [] 0 0 (MQ below (QRl (haMS v q) s.heap) ([.long v, .int (nI q)] : List Value).toArray s 0 0 NoA) (F0 m 30 ls []) := by
          intro n_30
          induction n_30 with
          | zero => intro f n1 h_f h_n hfu_30; exact absurd hfu_30 (by omega)
          | succ n_30 ih_30 =>
            intro f n1 h_f h_n hfu_30 ls hl
            have hn4 : n1 ≤ 4 := by have h9 := fb_ct_le (hcM v i) f; omega
            refine lv_iload hx hb dX7_halved_30 (lv_at hl 0 rfl) ?_
            refine lv_iconst (v := 4) hx hb dX7_halved_32 (by decide) ?_
            refine ic_ge (a := f) (d := 4) (tgt := 77) hx hb dX7_halved_33 (by decide) rfl rfl (by omega) (by omega) (fun c_2 => ?_) (fun c_2 => ?_)
            · skip
              refine lv_lload_n hx hb dX7_halved_77 rfl (lv_at hl 5 rfl) ?_
              refine lv_iload hx hb dX7_halved_78 (lv_at hl 1 rfl) ?_
              refine lv_iconst (v := 1) hx hb dX7_halved_80 (by decide) ?_
              have mg_110 : W p l e ({ frames := 2, cells := 0, slots := 0, locals := 48 } : Room) s m ([.long v, .int (nI q)] : List Value).toArray below meth c s.heap [] 0 0 (MQ below (QRl (haMS v q) s.heap) ([.long v, .int (nI q)] : List Value).toArray s 0 0 NoA) (F0 m 110 ls (.long (if n1 ≤ 1 then 0 else (jshl 1 (8 * (i / 4 + (4 * (q / 2))) + (i % 4) + (4 * (q % 2))))) :: [.long a])) := by
                refine lv_lor hx hb dX7_halved_110 ?_
                refine lv_lstore_n (lv' := [(3, .long (a ||| (if n1 ≤ 1 then 0 else (jshl 1 (8 * (i / 4 + (4 * (q / 2))) + (i % 4) + (4 * (q % 2))))))), (9, .int (nI f)), (8, .int (nI n1)), (7, .int (nI (i / 4))), (6, .int (nI (i % 4))), (5, .int (nI i)), (0, .long v), (2, .int (nI q))]) hx hb dX7_halved_111 rfl hl (by decide) rfl (fun ls hl => ?_)
                refine lv_iinc (v := (nI (i + 1))) (lv' := [(5, .int (nI (i + 1))), (3, .long (a ||| (if n1 ≤ 1 then 0 else (jshl 1 (8 * (i / 4 + (4 * (q / 2))) + (i % 4) + (4 * (q % 2))))))), (9, .int (nI f)), (8, .int (nI n1)), (7, .int (nI (i / 4))), (6, .int (nI (i % 4))), (0, .long v), (2, .int (nI q))]) hx hb dX7_halved_112 hl (k := 5) rfl (nI_1 i) (by decide) rfl (fun ls hl => ?_)
                refine lv_goto (tgt := 5) hx hb dX7_halved_115 (by decide) ?_
                exact ih_5 (i + 1) (a ||| (if n1 ≤ 1 then 0 else (jshl 1 (8 * (i / 4 + (4 * (q / 2))) + (i % 4) + (4 * (q % 2)))))) (by omega) (by rw [h_n, show f = 4 by omega, h_a, it_s]; rfl) (by omega) ls (lv_sub hl [0, 1, 6, 7] rfl)
              refine ic_le (a := n1) (d := 1) (tgt := 109) hx hb dX7_halved_81 (by decide) rfl rfl (by omega) (by omega) (fun c_3 => ?_) (fun c_3 => ?_)
              · skip
                refine lv_lconst (v := 0) hx hb dX7_halved_109 rfl ?_
                exact lv_eql (by rw [if_pos c_3]) mg_110
              · skip
                refine lv_lconst (v := 1) hx hb dX7_halved_84 rfl ?_
                refine lv_bipush (v := 8) hx hb dX7_halved_85 (by decide) ?_
                refine lv_iload hx hb dX7_halved_87 (lv_at hl 2 rfl) ?_
                refine lv_iconst (v := 4) hx hb dX7_halved_89 (by decide) ?_
                refine lv_iload_n hx hb dX7_halved_90 rfl (lv_at hl 7 rfl) ?_
                refine lv_iconst (v := 2) hx hb dX7_halved_91 (by decide) ?_
                refine lv_idiv hx hb dX7_halved_92 (by decide) ?_
                refine lv_eqi (pk_div (a := q) (d := 2) (by omega) (by omega) (by omega)) ?_
                refine lv_imul hx hb dX7_halved_93 ?_
                refine lv_eqi (pk_mul 4 (q / 2)) ?_
                refine lv_iadd hx hb dX7_halved_94 ?_
                refine lv_eqi (nI_add (i / 4) (4 * (q / 2))) ?_
                refine lv_imul hx hb dX7_halved_95 ?_
                refine lv_eqi (pk_mul 8 (i / 4 + (4 * (q / 2)))) ?_
                refine lv_iload hx hb dX7_halved_96 (lv_at hl 3 rfl) ?_
                refine lv_iadd hx hb dX7_halved_98 ?_
                refine lv_eqi (nI_add (8 * (i / 4 + (4 * (q / 2)))) (i % 4)) ?_
                refine lv_iconst (v := 4) hx hb dX7_halved_99 (by decide) ?_
                refine lv_iload_n hx hb dX7_halved_100 rfl (lv_at hl 7 rfl) ?_
                refine lv_iconst (v := 2) hx hb dX7_halved_101 (by decide) ?_
                refine lv_irem hx hb dX7_halved_102 (by decide) ?_
                refine lv_eqi (pk_rem (a := q) (d := 2) (by omega) (by omega) (by omega)) ?_
                refine lv_imul hx hb dX7_halved_103 ?_
                refine lv_eqi (pk_mul 4 (q % 2)) ?_
                refine lv_iadd hx hb dX7_halved_104 ?_
                refine lv_eqi (nI_add (8 * (i / 4 + (4 * (q / 2))) + (i % 4)) (4 * (q % 2))) ?_
                refine lv_lshl (v := (jshl 1 (8 * (i / 4 + (4 * (q / 2))) + (i % 4) + (4 * (q % 2))))) hx hb dX7_halved_105 rfl ?_
                refine lv_goto (tgt := 110) hx hb dX7_halved_106 (by decide) ?_
                exact lv_eql (by rw [if_neg (Nat.not_le.mpr c_3)]) mg_110
            · skip
              refine lv_iload hx hb dX7_halved_36 (lv_at hl 1 rfl) ?_
              refine lv_lload_n hx hb dX7_halved_38 rfl (lv_at hl 6 rfl) ?_
              refine lv_iconst (v := 2) hx hb dX7_halved_39 (by decide) ?_
              refine lv_iload hx hb dX7_halved_40 (lv_at hl 3 rfl) ?_
              refine lv_imul hx hb dX7_halved_42 ?_
              refine lv_eqi (pk_mul 2 (i % 4)) ?_
              refine lv_iload hx hb dX7_halved_43 (lv_at hl 0 rfl) ?_
              refine lv_iconst (v := 2) hx hb dX7_halved_45 (by decide) ?_
              refine lv_irem hx hb dX7_halved_46 (by decide) ?_
              refine lv_eqi (pk_rem (a := f) (d := 2) (by omega) (by omega) (by omega)) ?_
              refine lv_iadd hx hb dX7_halved_47 ?_
              refine lv_eqi (nI_add (2 * (i % 4)) (f % 2)) ?_
              refine lv_iconst (v := 2) hx hb dX7_halved_48 (by decide) ?_
              refine lv_iload hx hb dX7_halved_49 (lv_at hl 2 rfl) ?_
              refine lv_imul hx hb dX7_halved_51 ?_
              refine lv_eqi (pk_mul 2 (i / 4)) ?_
              refine lv_iload hx hb dX7_halved_52 (lv_at hl 0 rfl) ?_
              refine lv_iconst (v := 2) hx hb dX7_halved_54 (by decide) ?_
              refine lv_idiv hx hb dX7_halved_55 (by decide) ?_
              refine lv_eqi (pk_div (a := f) (d := 2) (by omega) (by omega) (by omega)) ?_
              refine lv_iadd hx hb dX7_halved_56 ?_
              refine lv_eqi (nI_add (2 * (i / 4)) (f / 2)) ?_
              refine cS_i (As := [.long v, .int (nI (2 * (i % 4) + (f % 2))), .int (nI (2 * (i / 4) + (f / 2)))]) (rest := [.int (nI n1)]) hx hb hml hown hw hkn hS hl (c_X7_is l g _ v (nI (2 * (i % 4) + (f % 2))) (nI (2 * (i / 4) + (f / 2))) ) sf_X7_is mw_321 ⟨(Nat.le_of_ble_eq_true rfl), (Nat.le_of_ble_eq_true rfl)⟩ rfl rfl rfl rfl (Nat.le_of_ble_eq_true rfl) dX7_halved_57 ⟨(Nat.le_of_ble_eq_true rfl), (Nat.le_of_ble_eq_true rfl)⟩ ?_
              refine lv_eqi (show _ = b2i (hcM v i f) from congrArg b2i (isR_nI (by omega) (by omega))) ?_
              have mg_68 : W p l e ({ frames := 2, cells := 0, slots := 0, locals := 48 } : Room) s m ([.long v, .int (nI q)] : List Value).toArray below meth c s.heap [] 0 0 (MQ below (QRl (haMS v q) s.heap) ([.long v, .int (nI q)] : List Value).toArray s 0 0 NoA) (F0 m 68 ls (.int (if hcM v i f = true then 1 else 0) :: [.int (nI n1)])) := by
                refine lv_eqi (show _ = (nI (if hcM v i f = true then 1 else 0)) from ifI rfl rfl) ?_
                refine lv_iadd hx hb dX7_halved_68 ?_
                refine lv_eqi (nI_add n1 (if hcM v i f = true then 1 else 0)) ?_
                refine lv_istore (lv' := [(8, .int (nI (n1 + ((if hcM v i f = true then 1 else 0))))), (9, .int (nI f)), (7, .int (nI (i / 4))), (6, .int (nI (i % 4))), (5, .int (nI i)), (3, .long a), (0, .long v), (2, .int (nI q))]) hx hb dX7_halved_69 hl (by decide) rfl (fun ls hl => ?_)
                refine lv_iinc (v := (nI (f + 1))) (lv' := [(9, .int (nI (f + 1))), (8, .int (nI (n1 + ((if hcM v i f = true then 1 else 0))))), (7, .int (nI (i / 4))), (6, .int (nI (i % 4))), (5, .int (nI i)), (3, .long a), (0, .long v), (2, .int (nI q))]) hx hb dX7_halved_71 hl (k := 1) rfl (nI_1 f) (by decide) rfl (fun ls hl => ?_)
                refine lv_goto (tgt := 30) hx hb dX7_halved_74 (by decide) ?_
                exact ih_30 (f + 1) (n1 + ((if hcM v i f = true then 1 else 0))) (by omega) (by rw [h_n]; rfl) (by omega) ls (lv_sub hl [0, 1, 2, 3, 4, 5, 6, 7] rfl)
              refine lv_ifeqB (b := hcM v i f) (tgt := 67) hx hb dX7_halved_60 (by decide) (fun c_4 => ?_) (fun c_4 => ?_)
              · skip
                refine lv_iconst (v := 0) hx hb dX7_halved_67 (by decide) ?_
                exact lv_eqi (by rw [if_neg (nt_of c_4)]) mg_68
              · skip
                refine lv_iconst (v := 1) hx hb dX7_halved_63 (by decide) ?_
                refine lv_goto (tgt := 68) hx hb dX7_halved_64 (by decide) ?_
                exact lv_eqi (by rw [if_pos c_4]) mg_68
        exact lp_30 5 0 0 (by omega) (rfl) (by omega) ls (lv_sub hl [0, 1, 2, 3, 4, 5, 6, 7] rfl)
  exact lp_5 17 0 0 (by omega) (rfl) (by omega) ls (lv_sub hl [0, 1, 2, 3] rfl)
set_option maxHeartbeats 4000000 in
set_option maxRecDepth 100000 in
theorem c_X7_grown (l : Launch) (g : GG) (H : Heap) (v : Int64) (q : Nat) (hq : q < 4) : Met l yX7_grown (Cond.code yX7_grown cX7_grown 8 (some .long) :: wsL_law) ({ frames := 2, cells := 0, slots := 0, locals := 48 }) (PR g [.long v, .int (nI q)] H) (QRl (grMS v q) H) 0 0 NoA := by
  refine Met.R (by decide) (Nat.le_of_ble_eq_true rfl) rfl ?_
  intro p e s m below meth c hx hb hr hml hw hown hlocks hkn hH ls hl
  subst hH
  have hl : lv_has ls 8 [(0, .long v), (2, .int (nI q))] := hl
  have hS : va_S NoA s.heap s.heap [] := va_S.rf
  refine lv_lconst (v := 0) hx hb dX7_grown_0 rfl ?_
  refine lv_lstore_n (lv' := [(3, .long 0), (0, .long v), (2, .int (nI q))]) hx hb dX7_grown_1 rfl hl (by decide) rfl (fun ls hl => ?_)
  refine lv_iconst (v := 0) hx hb dX7_grown_2 (by decide) ?_
  refine lv_istore (lv' := [(5, .int 0), (3, .long 0), (0, .long v), (2, .int (nI q))]) hx hb dX7_grown_3 hl (by decide) rfl (fun ls hl => ?_)
  have lp_5 : ∀ (n_5 : Nat) (i : Nat) (a : Int64), (i ≤ 64) → (a = it (grM v q) i 0) → 64 < i + n_5 → ∀ (ls : Array Slot), lv_has ls 8 [(5, .int (nI i)), (3, .long a), (0, .long v), (2, .int (nI q))] → W p l e ({ frames := 2, cells := 0, slots := 0, locals := 48 } : Room) s m ([.long v, .int (nI q)] : List Value).toArray below meth c s.heap [] 0 0 (MQ below (QRl (grMS v q) s.heap) ([.long v, .int (nI q)] : List Value).toArray s 0 0 NoA) (F0 m 5 ls []) := by
    intro n_5
    induction n_5 with
    | zero => intro i a h_i h_a hfu_5; exact absurd hfu_5 (by omega)
    | succ n_5 ih_5 =>
      intro i a h_i h_a hfu_5 ls hl
      refine lv_iload hx hb dX7_grown_5 (lv_at hl 0 rfl) ?_
      refine lv_bipush (v := 64) hx hb dX7_grown_7 (by decide) ?_
      refine ic_ge (a := i) (d := 64) (tgt := 68) hx hb dX7_grown_9 (by decide) rfl rfl (by omega) (by omega) (fun c_1 => ?_) (fun c_1 => ?_)
      · skip
        refine lv_lload_n hx hb dX7_grown_68 rfl (lv_at hl 1 rfl) ?_
        exact eR_l hx hb hr hlocks (by rw [h_a, show i = 64 by omega]; rfl) dX7_grown_69
      · skip
        refine lv_iload hx hb dX7_grown_12 (lv_at hl 0 rfl) ?_
        refine lv_bipush (v := 8) hx hb dX7_grown_14 (by decide) ?_
        refine lv_irem hx hb dX7_grown_16 (by decide) ?_
        refine lv_eqi (pk_rem (a := i) (d := 8) (by omega) (by omega) (by omega)) ?_
        refine lv_iconst (v := 2) hx hb dX7_grown_17 (by decide) ?_
        refine lv_idiv hx hb dX7_grown_18 (by decide) ?_
        refine lv_eqi (pk_div (a := i % 8) (d := 2) (by omega) (by omega) (by omega)) ?_
        refine lv_iconst (v := 4) hx hb dX7_grown_19 (by decide) ?_
        refine lv_iload_n hx hb dX7_grown_20 rfl (lv_at hl 3 rfl) ?_
        refine lv_iconst (v := 2) hx hb dX7_grown_21 (by decide) ?_
        refine lv_irem hx hb dX7_grown_22 (by decide) ?_
        refine lv_eqi (pk_rem (a := q) (d := 2) (by omega) (by omega) (by omega)) ?_
        refine lv_imul hx hb dX7_grown_23 ?_
        refine lv_eqi (pk_mul 4 (q % 2)) ?_
        refine lv_iadd hx hb dX7_grown_24 ?_
        refine lv_eqi (nI_add ((i % 8) / 2) (4 * (q % 2))) ?_
        refine lv_istore (lv' := [(6, .int (nI ((i % 8) / 2 + (4 * (q % 2))))), (5, .int (nI i)), (3, .long a), (0, .long v), (2, .int (nI q))]) hx hb dX7_grown_25 hl (by decide) rfl (fun ls hl => ?_)
        refine lv_iload hx hb dX7_grown_27 (lv_at hl 1 rfl) ?_
        refine lv_bipush (v := 16) hx hb dX7_grown_29 (by decide) ?_
        refine lv_idiv hx hb dX7_grown_31 (by decide) ?_
        refine lv_eqi (pk_div (a := i) (d := 16) (by omega) (by omega) (by omega)) ?_
        refine lv_iconst (v := 4) hx hb dX7_grown_32 (by decide) ?_
        refine lv_iload_n hx hb dX7_grown_33 rfl (lv_at hl 4 rfl) ?_
        refine lv_iconst (v := 2) hx hb dX7_grown_34 (by decide) ?_
        refine lv_idiv hx hb dX7_grown_35 (by decide) ?_
        refine lv_eqi (pk_div (a := q) (d := 2) (by omega) (by omega) (by omega)) ?_
        refine lv_imul hx hb dX7_grown_36 ?_
        refine lv_eqi (pk_mul 4 (q / 2)) ?_
        refine lv_iadd hx hb dX7_grown_37 ?_
        refine lv_eqi (nI_add (i / 16) (4 * (q / 2))) ?_
        refine lv_istore (lv' := [(7, .int (nI (i / 16 + (4 * (q / 2))))), (6, .int (nI ((i % 8) / 2 + (4 * (q % 2))))), (5, .int (nI i)), (3, .long a), (0, .long v), (2, .int (nI q))]) hx hb dX7_grown_38 hl (by decide) rfl (fun ls hl => ?_)
        refine lv_lload_n hx hb dX7_grown_40 rfl (lv_at hl 3 rfl) ?_
        refine lv_lload_n hx hb dX7_grown_41 rfl (lv_at hl 4 rfl) ?_
        refine lv_iload hx hb dX7_grown_42 (lv_at hl 1 rfl) ?_
        refine lv_iload hx hb dX7_grown_44 (lv_at hl 0 rfl) ?_
        refine cS_i (As := [.long v, .int (nI ((i % 8) / 2 + (4 * (q % 2)))), .int (nI (i / 16 + (4 * (q / 2))))]) (rest := [.long a]) hx hb hml hown hw hkn hS hl (c_X7_is l g _ v (nI ((i % 8) / 2 + (4 * (q % 2)))) (nI (i / 16 + (4 * (q / 2)))) ) sf_X7_is mw_321 ⟨(Nat.le_of_ble_eq_true rfl), (Nat.le_of_ble_eq_true rfl)⟩ rfl rfl rfl rfl (Nat.le_of_ble_eq_true rfl) dX7_grown_46 ⟨(Nat.le_of_ble_eq_true rfl), (Nat.le_of_ble_eq_true rfl)⟩ ?_
        refine lv_eqi (show _ = b2i (bt v (8 * (i / 16 + 4 * (q / 2)) + (i % 8 / 2 + 4 * (q % 2)))) from congrArg b2i (isR_nI (by omega) (by omega))) ?_
        have mg_60 : W p l e ({ frames := 2, cells := 0, slots := 0, locals := 48 } : Room) s m ([.long v, .int (nI q)] : List Value).toArray below meth c s.heap [] 0 0 (MQ below (QRl (grMS v q) s.heap) ([.long v, .int (nI q)] : List Value).toArray s 0 0 NoA) (F0 m 60 ls (.long (if bt v (8 * (i / 16 + 4 * (q / 2)) + (i % 8 / 2 + 4 * (q % 2))) = true then (jshl 1 i) else 0) :: [.long a])) := by
          refine lv_lor hx hb dX7_grown_60 ?_
          refine lv_lstore_n (lv' := [(3, .long (a ||| (if bt v (8 * (i / 16 + 4 * (q / 2)) + (i % 8 / 2 + 4 * (q % 2))) = true then (jshl 1 i) else 0))), (7, .int (nI (i / 16 + (4 * (q / 2))))), (6, .int (nI ((i % 8) / 2 + (4 * (q % 2))))), (5, .int (nI i)), (0, .long v), (2, .int (nI q))]) hx hb dX7_grown_61 rfl hl (by decide) rfl (fun ls hl => ?_)
          refine lv_iinc (v := (nI (i + 1))) (lv' := [(5, .int (nI (i + 1))), (3, .long (a ||| (if bt v (8 * (i / 16 + 4 * (q / 2)) + (i % 8 / 2 + 4 * (q % 2))) = true then (jshl 1 i) else 0))), (7, .int (nI (i / 16 + (4 * (q / 2))))), (6, .int (nI ((i % 8) / 2 + (4 * (q % 2))))), (0, .long v), (2, .int (nI q))]) hx hb dX7_grown_62 hl (k := 3) rfl (nI_1 i) (by decide) rfl (fun ls hl => ?_)
          refine lv_goto (tgt := 5) hx hb dX7_grown_65 (by decide) ?_
          exact ih_5 (i + 1) (a ||| (if bt v (8 * (i / 16 + 4 * (q / 2)) + (i % 8 / 2 + 4 * (q % 2))) = true then (jshl 1 i) else 0)) (by omega) (by rw [h_a, it_s]; rfl) (by omega) ls (lv_sub hl [0, 1, 4, 5] rfl)
        refine lv_ifeqB (b := bt v (8 * (i / 16 + 4 * (q / 2)) + (i % 8 / 2 + 4 * (q % 2)))) (tgt := 59) hx hb dX7_grown_49 (by decide) (fun c_2 => ?_) (fun c_2 => ?_)
        · skip
          refine lv_lconst (v := 0) hx hb dX7_grown_59 rfl ?_
          exact lv_eql (by rw [if_neg (nt_of c_2)]) mg_60
        · skip
          refine lv_lconst (v := 1) hx hb dX7_grown_52 rfl ?_
          refine lv_iload hx hb dX7_grown_53 (lv_at hl 2 rfl) ?_
          refine lv_lshl (v := (jshl 1 i)) hx hb dX7_grown_55 rfl ?_
          refine lv_goto (tgt := 60) hx hb dX7_grown_56 (by decide) ?_
          exact lv_eql (by rw [if_pos c_2]) mg_60
  exact lp_5 65 0 0 (by omega) (rfl) (by omega) ls (lv_sub hl [0, 1, 2, 3] rfl)
set_option maxHeartbeats 4000000 in
set_option maxRecDepth 100000 in
theorem c_X7_rimOf (l : Launch) (g : GG) (H : Heap) (v : Int64)  : Met l yX7_rimOf (Cond.code yX7_rimOf cX7_rimOf 6 (some .int) :: wsL_law) ({ frames := 2, cells := 0, slots := 0, locals := 48 }) (PR g [.long v] H) (QRi (nI (fb_sm (rmF v) 64)) H) 0 0 NoA := by
  refine Met.R (by decide) (Nat.le_of_ble_eq_true rfl) rfl ?_
  intro p e s m below meth c hx hb hr hml hw hown hlocks hkn hH ls hl
  subst hH
  have hl : lv_has ls 6 [(0, .long v)] := hl
  have hS : va_S NoA s.heap s.heap [] := va_S.rf
  refine lv_iconst (v := 0) hx hb dX7_rimOf_0 (by decide) ?_
  refine lv_istore_n (lv' := [(2, .int 0), (0, .long v)]) hx hb dX7_rimOf_1 rfl hl (by decide) rfl (fun ls hl => ?_)
  refine lv_iconst (v := 0) hx hb dX7_rimOf_2 (by decide) ?_
  refine lv_istore_n (lv' := [(3, .int 0), (2, .int 0), (0, .long v)]) hx hb dX7_rimOf_3 rfl hl (by decide) rfl (fun ls hl => ?_)
  have lp_4 : ∀ (n_4 : Nat) (i : Nat) (a : Nat), (i ≤ 64) → (a = fb_sm (rmF v) i) → 64 < i + n_4 → ∀ (ls : Array Slot), lv_has ls 6 [(3, .int (nI i)), (2, .int (nI a)), (0, .long v)] → W p l e ({ frames := 2, cells := 0, slots := 0, locals := 48 } : Room) s m ([.long v] : List Value).toArray below meth c s.heap [] 0 0 (MQ below (QRi (nI (fb_sm (rmF v) 64)) s.heap) ([.long v] : List Value).toArray s 0 0 NoA) (F0 m 4 ls []) := by
    intro n_4
    induction n_4 with
    | zero => intro i a h_i h_a hfu_4; exact absurd hfu_4 (by omega)
    | succ n_4 ih_4 =>
      intro i a h_i h_a hfu_4 ls hl
      refine lv_iload_n hx hb dX7_rimOf_4 rfl (lv_at hl 0 rfl) ?_
      refine lv_bipush (v := 64) hx hb dX7_rimOf_5 (by decide) ?_
      refine ic_ge (a := i) (d := 64) (tgt := 117) hx hb dX7_rimOf_7 (by decide) rfl rfl (by omega) (by omega) (fun c_1 => ?_) (fun c_1 => ?_)
      · skip
        refine lv_iload_n hx hb dX7_rimOf_117 rfl (lv_at hl 1 rfl) ?_
        exact eR_i hx hb hr hlocks (by rw [h_a, show i = 64 by omega]) dX7_rimOf_118
      · skip
        refine lv_iload_n hx hb dX7_rimOf_10 rfl (lv_at hl 0 rfl) ?_
        refine lv_bipush (v := 8) hx hb dX7_rimOf_11 (by decide) ?_
        refine lv_irem hx hb dX7_rimOf_13 (by decide) ?_
        refine lv_eqi (pk_rem (a := i) (d := 8) (by omega) (by omega) (by omega)) ?_
        refine lv_istore (lv' := [(4, .int (nI (i % 8))), (3, .int (nI i)), (2, .int (nI a)), (0, .long v)]) hx hb dX7_rimOf_14 hl (by decide) rfl (fun ls hl => ?_)
        refine lv_iload_n hx hb dX7_rimOf_16 rfl (lv_at hl 1 rfl) ?_
        refine lv_bipush (v := 8) hx hb dX7_rimOf_17 (by decide) ?_
        refine lv_idiv hx hb dX7_rimOf_19 (by decide) ?_
        refine lv_eqi (pk_div (a := i) (d := 8) (by omega) (by omega) (by omega)) ?_
        refine lv_istore (lv' := [(5, .int (nI (i / 8))), (4, .int (nI (i % 8))), (3, .int (nI i)), (2, .int (nI a)), (0, .long v)]) hx hb dX7_rimOf_20 hl (by decide) rfl (fun ls hl => ?_)
        refine lv_lload_n hx hb dX7_rimOf_22 rfl (lv_at hl 4 rfl) ?_
        refine lv_iload hx hb dX7_rimOf_23 (lv_at hl 1 rfl) ?_
        refine lv_iload hx hb dX7_rimOf_25 (lv_at hl 0 rfl) ?_
        refine cS_i (As := [.long v, .int (nI (i % 8)), .int (nI (i / 8))]) (rest := []) hx hb hml hown hw hkn hS hl (c_X7_is l g _ v (nI (i % 8)) (nI (i / 8)) ) sf_X7_is mw_321 ⟨(Nat.le_of_ble_eq_true rfl), (Nat.le_of_ble_eq_true rfl)⟩ rfl rfl rfl rfl (Nat.le_of_ble_eq_true rfl) dX7_rimOf_27 ⟨(Nat.le_of_ble_eq_true rfl), (Nat.le_of_ble_eq_true rfl)⟩ ?_
        refine lv_eqi (show _ = b2i (bt v i) from congrArg b2i (isR_k (by omega))) ?_
        refine lv_ifeqB (b := bt v i) (tgt := 111) hx hb dX7_rimOf_30 (by decide) (fun c_2 => ?_) (fun c_2 => ?_)
        · skip
          refine lv_iinc (v := (nI (i + 1))) (lv' := [(3, .int (nI (i + 1))), (5, .int (nI (i / 8))), (4, .int (nI (i % 8))), (2, .int (nI a)), (0, .long v)]) hx hb dX7_rimOf_111 hl (k := 2) rfl (nI_1 i) (by decide) rfl (fun ls hl => ?_)
          refine lv_goto (tgt := 4) hx hb dX7_rimOf_114 (by decide) ?_
          exact ih_4 (i + 1) a (by omega) (by rw [h_a, fb_sm_succ]; simp [rmF, c_1, c_2]) (by omega) ls (lv_sub hl [0, 3, 4] rfl)
        · skip
          refine lv_iload_n hx hb dX7_rimOf_33 rfl (lv_at hl 3 rfl) ?_
          refine lv_lload_n hx hb dX7_rimOf_34 rfl (lv_at hl 4 rfl) ?_
          refine lv_iload hx hb dX7_rimOf_35 (lv_at hl 1 rfl) ?_
          refine lv_iconst (v := 1) hx hb dX7_rimOf_37 (by decide) ?_
          refine lv_iadd hx hb dX7_rimOf_38 ?_
          refine lv_eqi (nI_add (i % 8) 1) ?_
          refine lv_iload hx hb dX7_rimOf_39 (lv_at hl 0 rfl) ?_
          refine cS_i (As := [.long v, .int (nI (i % 8 + 1)), .int (nI (i / 8))]) (rest := [.int (nI a)]) hx hb hml hown hw hkn hS hl (c_X7_is l g _ v (nI (i % 8 + 1)) (nI (i / 8)) ) sf_X7_is mw_321 ⟨(Nat.le_of_ble_eq_true rfl), (Nat.le_of_ble_eq_true rfl)⟩ rfl rfl rfl rfl (Nat.le_of_ble_eq_true rfl) dX7_rimOf_41 ⟨(Nat.le_of_ble_eq_true rfl), (Nat.le_of_ble_eq_true rfl)⟩ ?_
          have mg_52 : W p l e ({ frames := 2, cells := 0, slots := 0, locals := 48 } : Room) s m ([.long v] : List Value).toArray below meth c s.heap [] 0 0 (MQ below (QRi (nI (fb_sm (rmF v) 64)) s.heap) ([.long v] : List Value).toArray s 0 0 NoA) (F0 m 52 ls (.int (if isR v (nI (i % 8 + 1)) (nI (i / 8)) = true then 0 else 1) :: [.int (nI a)])) := by
            refine lv_eqi (show _ = (nI (if isR v (nI (i % 8 + 1)) (nI (i / 8)) = true then 0 else 1)) from ifI rfl rfl) ?_
            refine lv_lload_n hx hb dX7_rimOf_52 rfl (lv_at hl 4 rfl) ?_
            refine lv_iload hx hb dX7_rimOf_53 (lv_at hl 1 rfl) ?_
            refine lv_iconst (v := 1) hx hb dX7_rimOf_55 (by decide) ?_
            refine lv_isub hx hb dX7_rimOf_56 ?_
            refine lv_iload hx hb dX7_rimOf_57 (lv_at hl 0 rfl) ?_
            refine cS_i (As := [.long v, .int ((nI (i % 8)) - 1), .int (nI (i / 8))]) (rest := [.int (nI (if isR v (nI (i % 8 + 1)) (nI (i / 8)) = true then 0 else 1)), .int (nI a)]) hx hb hml hown hw hkn hS hl (c_X7_is l g _ v ((nI (i % 8)) - 1) (nI (i / 8)) ) sf_X7_is mw_321 ⟨(Nat.le_of_ble_eq_true rfl), (Nat.le_of_ble_eq_true rfl)⟩ rfl rfl rfl rfl (Nat.le_of_ble_eq_true rfl) dX7_rimOf_59 ⟨(Nat.le_of_ble_eq_true rfl), (Nat.le_of_ble_eq_true rfl)⟩ ?_
            have mg_70 : W p l e ({ frames := 2, cells := 0, slots := 0, locals := 48 } : Room) s m ([.long v] : List Value).toArray below meth c s.heap [] 0 0 (MQ below (QRi (nI (fb_sm (rmF v) 64)) s.heap) ([.long v] : List Value).toArray s 0 0 NoA) (F0 m 70 ls (.int (if isR v ((nI (i % 8)) - 1) (nI (i / 8)) = true then 0 else 1) :: [.int (nI (if isR v (nI (i % 8 + 1)) (nI (i / 8)) = true then 0 else 1)), .int (nI a)])) := by
              refine lv_eqi (show _ = (nI (if isR v ((nI (i % 8)) - 1) (nI (i / 8)) = true then 0 else 1)) from ifI rfl rfl) ?_
              refine lv_iadd hx hb dX7_rimOf_70 ?_
              refine lv_eqi (nI_add (if isR v (nI (i % 8 + 1)) (nI (i / 8)) = true then 0 else 1) (if isR v ((nI (i % 8)) - 1) (nI (i / 8)) = true then 0 else 1)) ?_
              refine lv_lload_n hx hb dX7_rimOf_71 rfl (lv_at hl 4 rfl) ?_
              refine lv_iload hx hb dX7_rimOf_72 (lv_at hl 1 rfl) ?_
              refine lv_iload hx hb dX7_rimOf_74 (lv_at hl 0 rfl) ?_
              refine lv_iconst (v := 1) hx hb dX7_rimOf_76 (by decide) ?_
              refine lv_iadd hx hb dX7_rimOf_77 ?_
              refine lv_eqi (nI_add (i / 8) 1) ?_
              refine cS_i (As := [.long v, .int (nI (i % 8)), .int (nI (i / 8 + 1))]) (rest := [.int (nI ((if isR v (nI (i % 8 + 1)) (nI (i / 8)) = true then 0 else 1) + ((if isR v ((nI (i % 8)) - 1) (nI (i / 8)) = true then 0 else 1)))), .int (nI a)]) hx hb hml hown hw hkn hS hl (c_X7_is l g _ v (nI (i % 8)) (nI (i / 8 + 1)) ) sf_X7_is mw_321 ⟨(Nat.le_of_ble_eq_true rfl), (Nat.le_of_ble_eq_true rfl)⟩ rfl rfl rfl rfl (Nat.le_of_ble_eq_true rfl) dX7_rimOf_78 ⟨(Nat.le_of_ble_eq_true rfl), (Nat.le_of_ble_eq_true rfl)⟩ ?_
              have mg_89 : W p l e ({ frames := 2, cells := 0, slots := 0, locals := 48 } : Room) s m ([.long v] : List Value).toArray below meth c s.heap [] 0 0 (MQ below (QRi (nI (fb_sm (rmF v) 64)) s.heap) ([.long v] : List Value).toArray s 0 0 NoA) (F0 m 89 ls (.int (if isR v (nI (i % 8)) (nI (i / 8 + 1)) = true then 0 else 1) :: [.int (nI ((if isR v (nI (i % 8 + 1)) (nI (i / 8)) = true then 0 else 1) + ((if isR v ((nI (i % 8)) - 1) (nI (i / 8)) = true then 0 else 1)))), .int (nI a)])) := by
                refine lv_eqi (show _ = (nI (if isR v (nI (i % 8)) (nI (i / 8 + 1)) = true then 0 else 1)) from ifI rfl rfl) ?_
                refine lv_iadd hx hb dX7_rimOf_89 ?_
                refine lv_eqi (nI_add ((if isR v (nI (i % 8 + 1)) (nI (i / 8)) = true then 0 else 1) + ((if isR v ((nI (i % 8)) - 1) (nI (i / 8)) = true then 0 else 1))) (if isR v (nI (i % 8)) (nI (i / 8 + 1)) = true then 0 else 1)) ?_
                refine lv_lload_n hx hb dX7_rimOf_90 rfl (lv_at hl 4 rfl) ?_
                refine lv_iload hx hb dX7_rimOf_91 (lv_at hl 1 rfl) ?_
                refine lv_iload hx hb dX7_rimOf_93 (lv_at hl 0 rfl) ?_
                refine lv_iconst (v := 1) hx hb dX7_rimOf_95 (by decide) ?_
                refine lv_isub hx hb dX7_rimOf_96 ?_
                refine cS_i (As := [.long v, .int (nI (i % 8)), .int ((nI (i / 8)) - 1)]) (rest := [.int (nI ((if isR v (nI (i % 8 + 1)) (nI (i / 8)) = true then 0 else 1) + ((if isR v ((nI (i % 8)) - 1) (nI (i / 8)) = true then 0 else 1)) + ((if isR v (nI (i % 8)) (nI (i / 8 + 1)) = true then 0 else 1)))), .int (nI a)]) hx hb hml hown hw hkn hS hl (c_X7_is l g _ v (nI (i % 8)) ((nI (i / 8)) - 1) ) sf_X7_is mw_321 ⟨(Nat.le_of_ble_eq_true rfl), (Nat.le_of_ble_eq_true rfl)⟩ rfl rfl rfl rfl (Nat.le_of_ble_eq_true rfl) dX7_rimOf_97 ⟨(Nat.le_of_ble_eq_true rfl), (Nat.le_of_ble_eq_true rfl)⟩ ?_
                have mg_108 : W p l e ({ frames := 2, cells := 0, slots := 0, locals := 48 } : Room) s m ([.long v] : List Value).toArray below meth c s.heap [] 0 0 (MQ below (QRi (nI (fb_sm (rmF v) 64)) s.heap) ([.long v] : List Value).toArray s 0 0 NoA) (F0 m 108 ls (.int (if isR v (nI (i % 8)) ((nI (i / 8)) - 1) = true then 0 else 1) :: [.int (nI ((if isR v (nI (i % 8 + 1)) (nI (i / 8)) = true then 0 else 1) + ((if isR v ((nI (i % 8)) - 1) (nI (i / 8)) = true then 0 else 1)) + ((if isR v (nI (i % 8)) (nI (i / 8 + 1)) = true then 0 else 1)))), .int (nI a)])) := by
                  refine lv_eqi (show _ = (nI (if isR v (nI (i % 8)) ((nI (i / 8)) - 1) = true then 0 else 1)) from ifI rfl rfl) ?_
                  refine lv_iadd hx hb dX7_rimOf_108 ?_
                  refine lv_eqi (nI_add ((if isR v (nI (i % 8 + 1)) (nI (i / 8)) = true then 0 else 1) + ((if isR v ((nI (i % 8)) - 1) (nI (i / 8)) = true then 0 else 1)) + ((if isR v (nI (i % 8)) (nI (i / 8 + 1)) = true then 0 else 1))) (if isR v (nI (i % 8)) ((nI (i / 8)) - 1) = true then 0 else 1)) ?_
                  refine lv_iadd hx hb dX7_rimOf_109 ?_
                  refine lv_eqi (nI_add a ((if isR v (nI (i % 8 + 1)) (nI (i / 8)) = true then 0 else 1) + ((if isR v ((nI (i % 8)) - 1) (nI (i / 8)) = true then 0 else 1)) + ((if isR v (nI (i % 8)) (nI (i / 8 + 1)) = true then 0 else 1)) + ((if isR v (nI (i % 8)) ((nI (i / 8)) - 1) = true then 0 else 1)))) ?_
                  refine lv_istore_n (lv' := [(2, .int (nI (a + ((if isR v (nI (i % 8 + 1)) (nI (i / 8)) = true then 0 else 1) + ((if isR v ((nI (i % 8)) - 1) (nI (i / 8)) = true then 0 else 1)) + ((if isR v (nI (i % 8)) (nI (i / 8 + 1)) = true then 0 else 1)) + ((if isR v (nI (i % 8)) ((nI (i / 8)) - 1) = true then 0 else 1)))))), (5, .int (nI (i / 8))), (4, .int (nI (i % 8))), (3, .int (nI i)), (0, .long v)]) hx hb dX7_rimOf_110 rfl hl (by decide) rfl (fun ls hl => ?_)
                  refine lv_iinc (v := (nI (i + 1))) (lv' := [(3, .int (nI (i + 1))), (2, .int (nI (a + ((if isR v (nI (i % 8 + 1)) (nI (i / 8)) = true then 0 else 1) + ((if isR v ((nI (i % 8)) - 1) (nI (i / 8)) = true then 0 else 1)) + ((if isR v (nI (i % 8)) (nI (i / 8 + 1)) = true then 0 else 1)) + ((if isR v (nI (i % 8)) ((nI (i / 8)) - 1) = true then 0 else 1)))))), (5, .int (nI (i / 8))), (4, .int (nI (i % 8))), (0, .long v)]) hx hb dX7_rimOf_111 hl (k := 3) rfl (nI_1 i) (by decide) rfl (fun ls hl => ?_)
                  refine lv_goto (tgt := 4) hx hb dX7_rimOf_114 (by decide) ?_
                  exact ih_4 (i + 1) (a + ((if isR v (nI (i % 8 + 1)) (nI (i / 8)) = true then 0 else 1) + ((if isR v ((nI (i % 8)) - 1) (nI (i / 8)) = true then 0 else 1)) + ((if isR v (nI (i % 8)) (nI (i / 8 + 1)) = true then 0 else 1)) + ((if isR v (nI (i % 8)) ((nI (i / 8)) - 1) = true then 0 else 1)))) (by omega) (by rw [h_a, fb_sm_succ]; simp [rmF, c_1, c_2]) (by omega) ls (lv_sub hl [0, 1, 4] rfl)
                refine lv_ifeqB (b := isR v (nI (i % 8)) ((nI (i / 8)) - 1)) (tgt := 107) hx hb dX7_rimOf_100 (by decide) (fun c_3 => ?_) (fun c_3 => ?_)
                · skip
                  refine lv_iconst (v := 1) hx hb dX7_rimOf_107 (by decide) ?_
                  exact lv_eqi (by rw [if_neg (nt_of c_3)]) mg_108
                · skip
                  refine lv_iconst (v := 0) hx hb dX7_rimOf_103 (by decide) ?_
                  refine lv_goto (tgt := 108) hx hb dX7_rimOf_104 (by decide) ?_
                  exact lv_eqi (by rw [if_pos c_3]) mg_108
              refine lv_ifeqB (b := isR v (nI (i % 8)) (nI (i / 8 + 1))) (tgt := 88) hx hb dX7_rimOf_81 (by decide) (fun c_4 => ?_) (fun c_4 => ?_)
              · skip
                refine lv_iconst (v := 1) hx hb dX7_rimOf_88 (by decide) ?_
                exact lv_eqi (by rw [if_neg (nt_of c_4)]) mg_89
              · skip
                refine lv_iconst (v := 0) hx hb dX7_rimOf_84 (by decide) ?_
                refine lv_goto (tgt := 89) hx hb dX7_rimOf_85 (by decide) ?_
                exact lv_eqi (by rw [if_pos c_4]) mg_89
            refine lv_ifeqB (b := isR v ((nI (i % 8)) - 1) (nI (i / 8))) (tgt := 69) hx hb dX7_rimOf_62 (by decide) (fun c_5 => ?_) (fun c_5 => ?_)
            · skip
              refine lv_iconst (v := 1) hx hb dX7_rimOf_69 (by decide) ?_
              exact lv_eqi (by rw [if_neg (nt_of c_5)]) mg_70
            · skip
              refine lv_iconst (v := 0) hx hb dX7_rimOf_65 (by decide) ?_
              refine lv_goto (tgt := 70) hx hb dX7_rimOf_66 (by decide) ?_
              exact lv_eqi (by rw [if_pos c_5]) mg_70
          refine lv_ifeqB (b := isR v (nI (i % 8 + 1)) (nI (i / 8))) (tgt := 51) hx hb dX7_rimOf_44 (by decide) (fun c_6 => ?_) (fun c_6 => ?_)
          · skip
            refine lv_iconst (v := 1) hx hb dX7_rimOf_51 (by decide) ?_
            exact lv_eqi (by rw [if_neg (nt_of c_6)]) mg_52
          · skip
            refine lv_iconst (v := 0) hx hb dX7_rimOf_47 (by decide) ?_
            refine lv_goto (tgt := 52) hx hb dX7_rimOf_48 (by decide) ?_
            exact lv_eqi (by rw [if_pos c_6]) mg_52
  exact lp_4 65 0 0 (by omega) (rfl) (by omega) ls (lv_sub hl [0, 1, 2] rfl)
set_option maxHeartbeats 4000000 in
set_option maxRecDepth 100000 in
theorem c_X7_blocksOf (l : Launch) (g : GG) (H : Heap) (v : Int64)  : Met l yX7_blocksOf (Cond.code yX7_blocksOf cX7_blocksOf 10 (some .int) :: wsL_law) ({ frames := 4, cells := 0, slots := 0, locals := 93 }) (PR g [.long v] H) (QRi (nI (blMS v).2) H) 0 0 NoA := by
  refine Met.R (by decide) (Nat.le_of_ble_eq_true rfl) rfl ?_
  intro p e s m below meth c hx hb hr hml hw hown hlocks hkn hH ls hl
  subst hH
  have hl : lv_has ls 10 [(0, .long v)] := hl
  have hS : va_S NoA s.heap s.heap [] := va_S.rf
  refine lv_lload_n hx hb dX7_blocksOf_0 rfl (lv_at hl 0 rfl) ?_
  refine lv_lstore_n (lv' := [(2, .long v), (0, .long v)]) hx hb dX7_blocksOf_1 rfl hl (by decide) rfl (fun ls hl => ?_)
  refine lv_iconst (v := 0) hx hb dX7_blocksOf_2 (by decide) ?_
  refine lv_istore (lv' := [(4, .int 0), (2, .long v), (0, .long v)]) hx hb dX7_blocksOf_3 hl (by decide) rfl (fun ls hl => ?_)
  refine lv_iconst (v := 0) hx hb dX7_blocksOf_5 (by decide) ?_
  refine lv_istore (lv' := [(5, .int 0), (4, .int 0), (2, .long v), (0, .long v)]) hx hb dX7_blocksOf_6 hl (by decide) rfl (fun ls hl => ?_)
  have lp_8 : ∀ (n_8 : Nat) (d : Nat) (a : Int64) (n0 : Nat), (d ≤ 4) → ((a, n0) = it (fun d s => it (blM d) (p4 d) s) d (v, 0)) → 4 < d + n_8 → ∀ (ls : Array Slot), lv_has ls 10 [(5, .int (nI d)), (4, .int (nI n0)), (2, .long a), (0, .long v)] → W p l e ({ frames := 4, cells := 0, slots := 0, locals := 93 } : Room) s m ([.long v] : List Value).toArray below meth c s.heap [] 0 0 (MQ below (QRi (nI (blMS v).2) s.heap) ([.long v] : List Value).toArray s 0 0 NoA) (F0 m 8 ls []) := by
    intro n_8
    induction n_8 with
    | zero => intro d a n0 h_d h_a hfu_8; exact absurd hfu_8 (by omega)
    | succ n_8 ih_8 =>
      intro d a n0 h_d h_a hfu_8 ls hl
      refine lv_iload hx hb dX7_blocksOf_8 (lv_at hl 0 rfl) ?_
      refine lv_iconst (v := 4) hx hb dX7_blocksOf_10 (by decide) ?_
      refine ic_ge (a := d) (d := 4) (tgt := 101) hx hb dX7_blocksOf_11 (by decide) rfl rfl (by omega) (by omega) (fun c_1 => ?_) (fun c_1 => ?_)
      · skip
        refine lv_iload hx hb dX7_blocksOf_101 (lv_at hl 1 rfl) ?_
        exact eR_i hx hb hr hlocks (by have h9 := congrArg Prod.snd h_a; rw [show d = 4 by omega] at h9; exact congrArg nI h9) dX7_blocksOf_103
      · skip
        refine lv_iconst (v := 0) hx hb dX7_blocksOf_14 (by decide) ?_
        refine lv_istore (lv' := [(6, .int 0), (5, .int (nI d)), (4, .int (nI n0)), (2, .long a), (0, .long v)]) hx hb dX7_blocksOf_15 hl (by decide) rfl (fun ls hl => ?_)
        have lp_17 : ∀ (n_17 : Nat) (k : Nat) (r1 : Int64) (n1 : Nat), (k ≤ p4 d) → ((r1, n1) = it (blM d) k (a, n0)) → p4 d < k + n_17 → ∀ (ls : Array Slot), lv_has ls 10 [(6, .int (nI k)), (5, .int (nI d)), (4, .int (nI n1)), (2, .long r1), (0, .long v)] → W p l e ({ frames := 4, cells := 0, slots := 0, locals := 93 } : Room) s m ([.long v] : List Value).toArray below meth c s.heap [] 0 0 (MQ below (QRi (nI (blMS v).2) s.heap) ([.long v] : List Value).toArray s 0 0 NoA) (F0 m 17 ls []) := by
          intro n_17
          induction n_17 with
          | zero => intro k r1 n1 h_k h_e hfu_17; exact absurd hfu_17 (by omega)
          | succ n_17 ih_17 =>
            intro k r1 n1 h_k h_e hfu_17 ls hl
            have hp4 := p4_le (show d < 4 by omega)
            refine lv_iload hx hb dX7_blocksOf_17 (lv_at hl 0 rfl) ?_
            refine lv_iconst (v := 1) hx hb dX7_blocksOf_19 (by decide) ?_
            refine lv_iconst (v := 2) hx hb dX7_blocksOf_20 (by decide) ?_
            refine lv_iload hx hb dX7_blocksOf_21 (lv_at hl 1 rfl) ?_
            refine lv_imul hx hb dX7_blocksOf_23 ?_
            refine lv_eqi (pk_mul 2 d) ?_
            refine lv_ishl hx hb dX7_blocksOf_24 ?_
            refine lv_eqi (p4_eq (by omega)) ?_
            refine ic_ge (a := k) (d := p4 d) (tgt := 95) hx hb dX7_blocksOf_25 (by decide) rfl rfl (by omega) (by omega) (fun c_2 => ?_) (fun c_2 => ?_)
            · skip
              refine lv_iinc (v := (nI (d + 1))) (lv' := [(5, .int (nI (d + 1))), (6, .int (nI k)), (4, .int (nI n1)), (2, .long r1), (0, .long v)]) hx hb dX7_blocksOf_95 hl (k := 1) rfl (nI_1 d) (by decide) rfl (fun ls hl => ?_)
              refine lv_goto (tgt := 8) hx hb dX7_blocksOf_98 (by decide) ?_
              exact ih_8 (d + 1) r1 n1 (by omega) (by rw [h_e, show k = p4 d by omega, h_a]; rfl) (by omega) ls (lv_sub hl [0, 2, 3, 4] rfl)
            · skip
              refine lv_iload hx hb dX7_blocksOf_28 (lv_at hl 1 rfl) ?_
              refine lv_iload hx hb dX7_blocksOf_30 (lv_at hl 0 rfl) ?_
              refine cS_l (As := [.int (nI d), .int (nI k)]) (rest := []) hx hb hml hown hw hkn hS hl (c_X7_maskOf l g _ d k (by omega) (by omega)) sf_X7_maskOf mw_465 ⟨(Nat.le_of_ble_eq_true rfl), (Nat.le_of_ble_eq_true rfl)⟩ rfl rfl rfl rfl (Nat.le_of_ble_eq_true rfl) dX7_blocksOf_32 ⟨(Nat.le_of_ble_eq_true rfl), (Nat.le_of_ble_eq_true rfl)⟩ ?_
              refine lv_lstore (lv' := [(7, .long (mkM d k)), (6, .int (nI k)), (5, .int (nI d)), (4, .int (nI n1)), (2, .long r1), (0, .long v)]) hx hb dX7_blocksOf_35 hl (by decide) rfl (fun ls hl => ?_)
              refine lv_lload_n hx hb dX7_blocksOf_37 rfl (lv_at hl 4 rfl) ?_
              refine lv_lload hx hb dX7_blocksOf_38 (lv_at hl 0 rfl) ?_
              refine lv_land hx hb dX7_blocksOf_40 ?_
              refine lv_lload hx hb dX7_blocksOf_41 (lv_at hl 0 rfl) ?_
              have mg_52 : W p l e ({ frames := 4, cells := 0, slots := 0, locals := 93 } : Room) s m ([.long v] : List Value).toArray below meth c s.heap [] 0 0 (MQ below (QRi (nI (blMS v).2) s.heap) ([.long v] : List Value).toArray s 0 0 NoA) (F0 m 52 ls (.int (if (r1 &&& (mkM d k)) = (mkM d k) then 1 else 0) :: [])) := by
                refine lv_eqi (show _ = (b2i (decide (r1 &&& mkM d k = mkM d k))) from ifB) ?_
                refine lv_istore (lv' := [(9, .int (b2i (decide (r1 &&& mkM d k = mkM d k)))), (7, .long (mkM d k)), (6, .int (nI k)), (5, .int (nI d)), (4, .int (nI n1)), (2, .long r1), (0, .long v)]) hx hb dX7_blocksOf_52 hl (by decide) rfl (fun ls hl => ?_)
                refine lv_iload hx hb dX7_blocksOf_54 (lv_at hl 4 rfl) ?_
                refine lv_iload hx hb dX7_blocksOf_56 (lv_at hl 0 rfl) ?_
                have mg_66 : W p l e ({ frames := 4, cells := 0, slots := 0, locals := 93 } : Room) s m ([.long v] : List Value).toArray below meth c s.heap [] 0 0 (MQ below (QRi (nI (blMS v).2) s.heap) ([.long v] : List Value).toArray s 0 0 NoA) (F0 m 66 ls (.int (if (decide (r1 &&& mkM d k = mkM d k)) = true then 1 else 0) :: [.int (nI n1)])) := by
                  refine lv_eqi (show _ = (nI (if (decide (r1 &&& mkM d k = mkM d k)) = true then 1 else 0)) from ifI rfl rfl) ?_
                  refine lv_iadd hx hb dX7_blocksOf_66 ?_
                  refine lv_eqi (nI_add n1 (if (decide (r1 &&& mkM d k = mkM d k)) = true then 1 else 0)) ?_
                  refine lv_istore (lv' := [(4, .int (nI (n1 + ((if (decide (r1 &&& mkM d k = mkM d k)) = true then 1 else 0))))), (9, .int (b2i (decide (r1 &&& mkM d k = mkM d k)))), (7, .long (mkM d k)), (6, .int (nI k)), (5, .int (nI d)), (2, .long r1), (0, .long v)]) hx hb dX7_blocksOf_67 hl (by decide) rfl (fun ls hl => ?_)
                  refine lv_lload_n hx hb dX7_blocksOf_69 rfl (lv_at hl 5 rfl) ?_
                  refine lv_iload hx hb dX7_blocksOf_70 (lv_at hl 1 rfl) ?_
                  have mg_87 : W p l e ({ frames := 4, cells := 0, slots := 0, locals := 93 } : Room) s m ([.long v] : List Value).toArray below meth c s.heap [] 0 0 (MQ below (QRi (nI (blMS v).2) s.heap) ([.long v] : List Value).toArray s 0 0 NoA) (F0 m 87 ls (.long (if (decide (r1 &&& mkM d k = mkM d k)) = true then ((mkM d k) ^^^ (-1)) else (-1)) :: [.long r1])) := by
                    refine lv_land hx hb dX7_blocksOf_87 ?_
                    refine lv_lstore_n (lv' := [(2, .long (r1 &&& (if (decide (r1 &&& mkM d k = mkM d k)) = true then ((mkM d k) ^^^ (-1)) else (-1)))), (4, .int (nI (n1 + ((if (decide (r1 &&& mkM d k = mkM d k)) = true then 1 else 0))))), (9, .int (b2i (decide (r1 &&& mkM d k = mkM d k)))), (7, .long (mkM d k)), (6, .int (nI k)), (5, .int (nI d)), (0, .long v)]) hx hb dX7_blocksOf_88 rfl hl (by decide) rfl (fun ls hl => ?_)
                    refine lv_iinc (v := (nI (k + 1))) (lv' := [(6, .int (nI (k + 1))), (2, .long (r1 &&& (if (decide (r1 &&& mkM d k = mkM d k)) = true then ((mkM d k) ^^^ (-1)) else (-1)))), (4, .int (nI (n1 + ((if (decide (r1 &&& mkM d k = mkM d k)) = true then 1 else 0))))), (9, .int (b2i (decide (r1 &&& mkM d k = mkM d k)))), (7, .long (mkM d k)), (5, .int (nI d)), (0, .long v)]) hx hb dX7_blocksOf_89 hl (k := 4) rfl (nI_1 k) (by decide) rfl (fun ls hl => ?_)
                    refine lv_goto (tgt := 17) hx hb dX7_blocksOf_92 (by decide) ?_
                    exact ih_17 (k + 1) (r1 &&& (if (decide (r1 &&& mkM d k = mkM d k)) = true then ((mkM d k) ^^^ (-1)) else (-1))) (n1 + ((if (decide (r1 &&& mkM d k = mkM d k)) = true then 1 else 0))) (by omega) (by rw [it_s, ← h_e]; rfl) (by omega) ls (lv_sub hl [0, 5, 2, 1, 6] rfl)
                  refine lv_ifeqB (b := (decide (r1 &&& mkM d k = mkM d k))) (tgt := 84) hx hb dX7_blocksOf_72 (by decide) (fun c_3 => ?_) (fun c_3 => ?_)
                  · skip
                    refine lv_ldc2 hx hb hown (hw _ mw_280) dX7_blocksOf_84 ?_
                    exact lv_eql (by rw [if_neg (nt_of c_3)]) mg_87
                  · skip
                    refine lv_lload hx hb dX7_blocksOf_75 (lv_at hl 2 rfl) ?_
                    refine lv_ldc2 hx hb hown (hw _ mw_280) dX7_blocksOf_77 ?_
                    refine lv_lxor hx hb dX7_blocksOf_80 ?_
                    refine lv_goto (tgt := 87) hx hb dX7_blocksOf_81 (by decide) ?_
                    exact lv_eql (by rw [if_pos c_3]) mg_87
                refine lv_ifeqB (b := (decide (r1 &&& mkM d k = mkM d k))) (tgt := 65) hx hb dX7_blocksOf_58 (by decide) (fun c_4 => ?_) (fun c_4 => ?_)
                · skip
                  refine lv_iconst (v := 0) hx hb dX7_blocksOf_65 (by decide) ?_
                  exact lv_eqi (by rw [if_neg (nt_of c_4)]) mg_66
                · skip
                  refine lv_iconst (v := 1) hx hb dX7_blocksOf_61 (by decide) ?_
                  refine lv_goto (tgt := 66) hx hb dX7_blocksOf_62 (by decide) ?_
                  exact lv_eqi (by rw [if_pos c_4]) mg_66
              refine lc_ne (tgt := 51) hx hb dX7_blocksOf_43 dX7_blocksOf_44 (by decide) (fun c_5 => ?_) (fun c_5 => ?_)
              · skip
                refine lv_iconst (v := 0) hx hb dX7_blocksOf_51 (by decide) ?_
                exact lv_eqi (by rw [if_neg c_5]) mg_52
              · skip
                refine lv_iconst (v := 1) hx hb dX7_blocksOf_47 (by decide) ?_
                refine lv_goto (tgt := 52) hx hb dX7_blocksOf_48 (by decide) ?_
                exact lv_eqi (by rw [if_pos c_5]) mg_52
        exact lp_17 (p4 d + 1) 0 a n0 (by omega) (rfl) (by omega) ls (lv_sub hl [0, 1, 2, 3, 4] rfl)
  exact lp_8 5 0 v 0 (by omega) (rfl) (by omega) ls (lv_sub hl [0, 1, 2, 3] rfl)
set_option maxHeartbeats 4000000 in
set_option maxRecDepth 100000 in
theorem c_X7_byWay (l : Launch) (g : GG) (H : Heap) (v : Int64) (w : Nat) (hw8 : w < 8) : Met l yX7_byWay (Cond.code yX7_byWay cX7_byWay 6 (some .long) :: wsL_law) ({ frames := 3, cells := 0, slots := 0, locals := 74 }) (PR g [.long v, .int (nI w)] H) (QRl (bwS v w) H) 0 0 NoA := by
  refine Met.R (by decide) (Nat.le_of_ble_eq_true rfl) rfl ?_
  intro p e s m below meth c hx hb hr hml hw hown hlocks hkn hH ls hl
  subst hH
  have hl : lv_has ls 6 [(0, .long v), (2, .int (nI w))] := hl
  have hS : va_S NoA s.heap s.heap [] := va_S.rf
  refine lv_iload_n hx hb dX7_byWay_0 rfl (lv_at hl 1 rfl) ?_
  refine lv_iconst (v := 3) hx hb dX7_byWay_1 (by decide) ?_
  have mg_13 : W p l e ({ frames := 3, cells := 0, slots := 0, locals := 74 } : Room) s m ([.long v, .int (nI w)] : List Value).toArray below meth c s.heap [] 0 0 (MQ below (QRl (bwS v w) s.heap) ([.long v, .int (nI w)] : List Value).toArray s 0 0 NoA) (F0 m 13 ls (.long (if w ≤ 3 then v else (flS v)) :: [])) := by
    refine lv_lstore_n (lv' := [(3, .long (if w ≤ 3 then v else (flS v))), (0, .long v), (2, .int (nI w))]) hx hb dX7_byWay_13 rfl hl (by decide) rfl (fun ls hl => ?_)
    refine lv_iconst (v := 0) hx hb dX7_byWay_14 (by decide) ?_
    refine lv_istore (lv' := [(5, .int 0), (3, .long (if w ≤ 3 then v else (flS v))), (0, .long v), (2, .int (nI w))]) hx hb dX7_byWay_15 hl (by decide) rfl (fun ls hl => ?_)
    have lp_17 : ∀ (n_17 : Nat) (i : Nat) (a : Int64), (i ≤ w % 4) → (a = it (fun _ a => tuS a) i (if 4 ≤ w then flS v else v)) → w % 4 < i + n_17 → ∀ (ls : Array Slot), lv_has ls 6 [(5, .int (nI i)), (3, .long a), (0, .long v), (2, .int (nI w))] → W p l e ({ frames := 3, cells := 0, slots := 0, locals := 74 } : Room) s m ([.long v, .int (nI w)] : List Value).toArray below meth c s.heap [] 0 0 (MQ below (QRl (bwS v w) s.heap) ([.long v, .int (nI w)] : List Value).toArray s 0 0 NoA) (F0 m 17 ls []) := by
      intro n_17
      induction n_17 with
      | zero => intro i a h_i h_a hfu_17; exact absurd hfu_17 (by omega)
      | succ n_17 ih_17 =>
        intro i a h_i h_a hfu_17 ls hl
        refine lv_iload hx hb dX7_byWay_17 (lv_at hl 0 rfl) ?_
        refine lv_iload_n hx hb dX7_byWay_19 rfl (lv_at hl 3 rfl) ?_
        refine lv_iconst (v := 4) hx hb dX7_byWay_20 (by decide) ?_
        refine lv_irem hx hb dX7_byWay_21 (by decide) ?_
        refine lv_eqi (pk_rem (a := w) (d := 4) (by omega) (by omega) (by omega)) ?_
        refine ic_ge (a := i) (d := w % 4) (tgt := 36) hx hb dX7_byWay_22 (by decide) rfl rfl (by omega) (by omega) (fun c_1 => ?_) (fun c_1 => ?_)
        · skip
          refine lv_lload_n hx hb dX7_byWay_36 rfl (lv_at hl 1 rfl) ?_
          exact eR_l hx hb hr hlocks (by rw [h_a, show i = w % 4 by omega]; rfl) dX7_byWay_37
        · skip
          refine lv_lload_n hx hb dX7_byWay_25 rfl (lv_at hl 1 rfl) ?_
          refine cS_l (As := [.long a]) (rest := []) hx hb hml hown hw hkn hS hl (c_X7_turned l g _ a ) sf_X7_turned mw_318 ⟨(Nat.le_of_ble_eq_true rfl), (Nat.le_of_ble_eq_true rfl)⟩ rfl rfl rfl rfl (Nat.le_of_ble_eq_true rfl) dX7_byWay_26 ⟨(Nat.le_of_ble_eq_true rfl), (Nat.le_of_ble_eq_true rfl)⟩ ?_
          refine lv_lstore_n (lv' := [(3, .long (tuS a)), (5, .int (nI i)), (0, .long v), (2, .int (nI w))]) hx hb dX7_byWay_29 rfl hl (by decide) rfl (fun ls hl => ?_)
          refine lv_iinc (v := (nI (i + 1))) (lv' := [(5, .int (nI (i + 1))), (3, .long (tuS a)), (0, .long v), (2, .int (nI w))]) hx hb dX7_byWay_30 hl (k := 1) rfl (nI_1 i) (by decide) rfl (fun ls hl => ?_)
          refine lv_goto (tgt := 17) hx hb dX7_byWay_33 (by decide) ?_
          exact ih_17 (i + 1) (tuS a) (by omega) (by rw [h_a]; rfl) (by omega) ls (lv_sub hl [0, 1, 2, 3] rfl)
    exact lp_17 (w % 4 + 1) 0 (if w ≤ 3 then v else (flS v)) (by omega) (swW v w) (by omega) ls (lv_sub hl [0, 1, 2, 3] rfl)
  refine ic_le (a := w) (d := 3) (tgt := 12) hx hb dX7_byWay_2 (by decide) rfl rfl (by omega) (by omega) (fun c_2 => ?_) (fun c_2 => ?_)
  · skip
    refine lv_lload_n hx hb dX7_byWay_12 rfl (lv_at hl 0 rfl) ?_
    exact lv_eql (by rw [if_pos c_2]) mg_13
  · skip
    refine lv_lload_n hx hb dX7_byWay_5 rfl (lv_at hl 0 rfl) ?_
    refine cS_l (As := [.long v]) (rest := []) hx hb hml hown hw hkn hS hl (c_X7_flipped l g _ v ) sf_X7_flipped mw_336 ⟨(Nat.le_of_ble_eq_true rfl), (Nat.le_of_ble_eq_true rfl)⟩ rfl rfl rfl rfl (Nat.le_of_ble_eq_true rfl) dX7_byWay_6 ⟨(Nat.le_of_ble_eq_true rfl), (Nat.le_of_ble_eq_true rfl)⟩ ?_
    refine lv_goto (tgt := 13) hx hb dX7_byWay_9 (by decide) ?_
    exact lv_eql (by rw [if_neg (Nat.not_le.mpr c_2)]) mg_13
set_option maxHeartbeats 4000000 in
set_option maxRecDepth 100000 in
theorem c_X7_waysOf (l : Launch) (g : GG) (H : Heap) (a : Int64) (b : Int64)  : Met l yX7_waysOf (Cond.code yX7_waysOf cX7_waysOf 6 (some .int) :: wsL_law) ({ frames := 4, cells := 0, slots := 0, locals := 99 }) (PR g [.long a, .long b] H) (QRi (waS a b) H) 0 0 NoA := by
  refine Met.R (by decide) (Nat.le_of_ble_eq_true rfl) rfl ?_
  intro p e s m below meth c hx hb hr hml hw hown hlocks hkn hH ls hl
  subst hH
  have hl : lv_has ls 6 [(0, .long a), (2, .long b)] := hl
  have hS : va_S NoA s.heap s.heap [] := va_S.rf
  refine lv_iconst (v := 0) hx hb dX7_waysOf_0 (by decide) ?_
  refine lv_istore (lv' := [(4, .int 0), (0, .long a), (2, .long b)]) hx hb dX7_waysOf_1 hl (by decide) rfl (fun ls hl => ?_)
  refine lv_iconst (v := 0) hx hb dX7_waysOf_3 (by decide) ?_
  refine lv_istore (lv' := [(5, .int 0), (4, .int 0), (0, .long a), (2, .long b)]) hx hb dX7_waysOf_4 hl (by decide) rfl (fun ls hl => ?_)
  have lp_6 : ∀ (n_6 : Nat) (i : Nat) (x : Int32), (i ≤ 8) → (x = it (waF a b) i 0) → 8 < i + n_6 → ∀ (ls : Array Slot), lv_has ls 6 [(5, .int (nI i)), (4, .int x), (0, .long a), (2, .long b)] → W p l e ({ frames := 4, cells := 0, slots := 0, locals := 99 } : Room) s m ([.long a, .long b] : List Value).toArray below meth c s.heap [] 0 0 (MQ below (QRi (waS a b) s.heap) ([.long a, .long b] : List Value).toArray s 0 0 NoA) (F0 m 6 ls []) := by
    intro n_6
    induction n_6 with
    | zero => intro i x h_i h_x hfu_6; exact absurd hfu_6 (by omega)
    | succ n_6 ih_6 =>
      intro i x h_i h_x hfu_6 ls hl
      refine lv_iload hx hb dX7_waysOf_6 (lv_at hl 0 rfl) ?_
      refine lv_bipush (v := 8) hx hb dX7_waysOf_8 (by decide) ?_
      refine ic_ge (a := i) (d := 8) (tgt := 43) hx hb dX7_waysOf_10 (by decide) rfl rfl (by omega) (by omega) (fun c_1 => ?_) (fun c_1 => ?_)
      · skip
        refine lv_iload hx hb dX7_waysOf_43 (lv_at hl 1 rfl) ?_
        exact eR_i hx hb hr hlocks (by rw [h_x, show i = 8 by omega]; rfl) dX7_waysOf_45
      · skip
        refine lv_iload hx hb dX7_waysOf_13 (lv_at hl 1 rfl) ?_
        refine lv_lload_n hx hb dX7_waysOf_15 rfl (lv_at hl 2 rfl) ?_
        refine lv_iload hx hb dX7_waysOf_16 (lv_at hl 0 rfl) ?_
        refine cS_l (As := [.long a, .int (nI i)]) (rest := [.int x]) hx hb hml hown hw hkn hS hl (c_X7_byWay l g _ a i (by omega)) sf_X7_byWay mw_536 ⟨(Nat.le_of_ble_eq_true rfl), (Nat.le_of_ble_eq_true rfl)⟩ rfl rfl rfl rfl (Nat.le_of_ble_eq_true rfl) dX7_waysOf_18 ⟨(Nat.le_of_ble_eq_true rfl), (Nat.le_of_ble_eq_true rfl)⟩ ?_
        refine lv_lload_n hx hb dX7_waysOf_21 rfl (lv_at hl 3 rfl) ?_
        have mg_34 : W p l e ({ frames := 4, cells := 0, slots := 0, locals := 99 } : Room) s m ([.long a, .long b] : List Value).toArray below meth c s.heap [] 0 0 (MQ below (QRi (waS a b) s.heap) ([.long a, .long b] : List Value).toArray s 0 0 NoA) (F0 m 34 ls (.int (if (bwS a i) = b then ((1 : Int32) <<< ((nI i) &&& 31)) else 0) :: [.int x])) := by
          refine lv_ior hx hb dX7_waysOf_34 ?_
          refine lv_istore (lv' := [(4, .int (x ||| (if (bwS a i) = b then ((1 : Int32) <<< ((nI i) &&& 31)) else 0))), (5, .int (nI i)), (0, .long a), (2, .long b)]) hx hb dX7_waysOf_35 hl (by decide) rfl (fun ls hl => ?_)
          refine lv_iinc (v := (nI (i + 1))) (lv' := [(5, .int (nI (i + 1))), (4, .int (x ||| (if (bwS a i) = b then ((1 : Int32) <<< ((nI i) &&& 31)) else 0))), (0, .long a), (2, .long b)]) hx hb dX7_waysOf_37 hl (k := 1) rfl (nI_1 i) (by decide) rfl (fun ls hl => ?_)
          refine lv_goto (tgt := 6) hx hb dX7_waysOf_40 (by decide) ?_
          exact ih_6 (i + 1) (x ||| (if (bwS a i) = b then ((1 : Int32) <<< ((nI i) &&& 31)) else 0)) (by omega) (by rw [waM, h_x, it_s]) (by omega) ls (lv_sub hl [0, 1, 2, 3] rfl)
        refine lc_ne (tgt := 33) hx hb dX7_waysOf_22 dX7_waysOf_23 (by decide) (fun c_2 => ?_) (fun c_2 => ?_)
        · skip
          refine lv_iconst (v := 0) hx hb dX7_waysOf_33 (by decide) ?_
          exact lv_eqi (by rw [if_neg c_2]) mg_34
        · skip
          refine lv_iconst (v := 1) hx hb dX7_waysOf_26 (by decide) ?_
          refine lv_iload hx hb dX7_waysOf_27 (lv_at hl 0 rfl) ?_
          refine lv_ishl hx hb dX7_waysOf_29 ?_
          refine lv_goto (tgt := 34) hx hb dX7_waysOf_30 (by decide) ?_
          exact lv_eqi (by rw [if_pos c_2]) mg_34
  exact lp_6 9 0 0 (by omega) (rfl) (by omega) ls (lv_sub hl [0, 1, 2, 3] rfl)
set_option maxHeartbeats 4000000 in
set_option maxRecDepth 100000 in
theorem c_X7_thousandTo (l : Launch) (g : GG) (H : Heap) (k : Nat) (hk : k ≤ 4) : Met l yX7_thousandTo (Cond.code yX7_thousandTo cX7_thousandTo 4 (some .long) :: wsL_law) ({ frames := 0, cells := 0, slots := 0, locals := 0 }) (PR g [.int (nI k)] H) (QRl (thM k) H) 0 0 NoA := by
  refine Met.R (by decide) (Nat.le_of_ble_eq_true rfl) rfl ?_
  intro p e s m below meth c hx hb hr hml hw hown hlocks hkn hH ls hl
  subst hH
  have hl : lv_has ls 4 [(0, .int (nI k))] := hl
  have hS : va_S NoA s.heap s.heap [] := va_S.rf
  refine lv_lconst (v := 1) hx hb dX7_thousandTo_0 rfl ?_
  refine lv_lstore_n (lv' := [(1, .long 1), (0, .int (nI k))]) hx hb dX7_thousandTo_1 rfl hl (by decide) rfl (fun ls hl => ?_)
  refine lv_iconst (v := 0) hx hb dX7_thousandTo_2 (by decide) ?_
  refine lv_istore_n (lv' := [(3, .int 0), (1, .long 1), (0, .int (nI k))]) hx hb dX7_thousandTo_3 rfl hl (by decide) rfl (fun ls hl => ?_)
  have lp_4 : ∀ (n_4 : Nat) (i : Nat) (a : Int64), (i ≤ k) → (a = it (fun _ a => a * 1000) i 1) → k < i + n_4 → ∀ (ls : Array Slot), lv_has ls 4 [(3, .int (nI i)), (1, .long a), (0, .int (nI k))] → W p l e ({ frames := 0, cells := 0, slots := 0, locals := 0 } : Room) s m ([.int (nI k)] : List Value).toArray below meth c s.heap [] 0 0 (MQ below (QRl (thM k) s.heap) ([.int (nI k)] : List Value).toArray s 0 0 NoA) (F0 m 4 ls []) := by
    intro n_4
    induction n_4 with
    | zero => intro i a h_i h_a hfu_4; exact absurd hfu_4 (by omega)
    | succ n_4 ih_4 =>
      intro i a h_i h_a hfu_4 ls hl
      refine lv_iload_n hx hb dX7_thousandTo_4 rfl (lv_at hl 0 rfl) ?_
      refine lv_iload_n hx hb dX7_thousandTo_5 rfl (lv_at hl 2 rfl) ?_
      refine ic_ge (a := i) (d := k) (tgt := 21) hx hb dX7_thousandTo_6 (by decide) rfl rfl (by omega) (by omega) (fun c_1 => ?_) (fun c_1 => ?_)
      · skip
        refine lv_lload_n hx hb dX7_thousandTo_21 rfl (lv_at hl 1 rfl) ?_
        exact eR_l hx hb hr hlocks (by rw [h_a, show i = k by omega]; rfl) dX7_thousandTo_22
      · skip
        refine lv_lload_n hx hb dX7_thousandTo_9 rfl (lv_at hl 1 rfl) ?_
        refine lv_ldc2 hx hb hown (hw _ mw_598) dX7_thousandTo_10 ?_
        refine lv_lmul hx hb dX7_thousandTo_13 ?_
        refine lv_lstore_n (lv' := [(1, .long (a * 1000)), (3, .int (nI i)), (0, .int (nI k))]) hx hb dX7_thousandTo_14 rfl hl (by decide) rfl (fun ls hl => ?_)
        refine lv_iinc (v := (nI (i + 1))) (lv' := [(3, .int (nI (i + 1))), (1, .long (a * 1000)), (0, .int (nI k))]) hx hb dX7_thousandTo_15 hl (k := 1) rfl (nI_1 i) (by decide) rfl (fun ls hl => ?_)
        refine lv_goto (tgt := 4) hx hb dX7_thousandTo_18 (by decide) ?_
        exact ih_4 (i + 1) (a * 1000) (by omega) (by rw [h_a]; rfl) (by omega) ls (lv_sub hl [0, 1, 2] rfl)
  exact lp_4 (k + 1) 0 1 (by omega) (rfl) (by omega) ls (lv_sub hl [0, 1, 2] rfl)
set_option maxHeartbeats 4000000 in
set_option maxRecDepth 100000 in
theorem c_X7_leafLetter (l : Launch) (g : GG) (H : Heap) (f : Nat) (hf : f < 4) : Met l yX7_leafLetter (Cond.code yX7_leafLetter cX7_leafLetter 1 (some .int) :: wsL_law) ({ frames := 0, cells := 0, slots := 0, locals := 0 }) (PR g [.int (nI f)] H) (QRi (leafc f) H) 0 0 NoA := by
  refine Met.R (by decide) (Nat.le_of_ble_eq_true rfl) rfl ?_
  intro p e s m below meth c hx hb hr hml hw hown hlocks hkn hH ls hl
  subst hH
  have hl : lv_has ls 1 [(0, .int (nI f))] := hl
  have hS : va_S NoA s.heap s.heap [] := va_S.rf
  refine lv_iload_n hx hb dX7_leafLetter_0 rfl (lv_at hl 0 rfl) ?_
  refine iz_ne (a := f) (tgt := 9) hx hb dX7_leafLetter_1 (by decide) rfl (by omega) (fun c_1 => ?_) (fun c_1 => ?_)
  · skip
    refine lv_iload_n hx hb dX7_leafLetter_9 rfl (lv_at hl 0 rfl) ?_
    refine lv_iconst (v := 1) hx hb dX7_leafLetter_10 (by decide) ?_
    refine ic_ne (a := f) (d := 1) (tgt := 19) hx hb dX7_leafLetter_11 (by decide) rfl rfl (by omega) (by omega) (fun c_2 => ?_) (fun c_2 => ?_)
    · skip
      refine lv_iload_n hx hb dX7_leafLetter_19 rfl (lv_at hl 0 rfl) ?_
      refine lv_iconst (v := 2) hx hb dX7_leafLetter_20 (by decide) ?_
      refine ic_ne (a := f) (d := 2) (tgt := 29) hx hb dX7_leafLetter_21 (by decide) rfl rfl (by omega) (by omega) (fun c_3 => ?_) (fun c_3 => ?_)
      · skip
        refine lv_bipush (v := 115) hx hb dX7_leafLetter_29 (by decide) ?_
        exact eR_i hx hb hr hlocks (by rcases (show f = 0 ∨ f = 1 ∨ f = 2 ∨ f = 3 by omega) with rfl | rfl | rfl | rfl <;> first | rfl | omega) dX7_leafLetter_31
      · skip
        refine lv_bipush (v := 103) hx hb dX7_leafLetter_24 (by decide) ?_
        refine lv_goto (tgt := 31) hx hb dX7_leafLetter_26 (by decide) ?_
        exact eR_i hx hb hr hlocks (by rcases (show f = 0 ∨ f = 1 ∨ f = 2 ∨ f = 3 by omega) with rfl | rfl | rfl | rfl <;> first | rfl | omega) dX7_leafLetter_31
    · skip
      refine lv_bipush (v := 119) hx hb dX7_leafLetter_14 (by decide) ?_
      refine lv_goto (tgt := 31) hx hb dX7_leafLetter_16 (by decide) ?_
      exact eR_i hx hb hr hlocks (by rcases (show f = 0 ∨ f = 1 ∨ f = 2 ∨ f = 3 by omega) with rfl | rfl | rfl | rfl <;> first | rfl | omega) dX7_leafLetter_31
  · skip
    refine lv_bipush (v := 98) hx hb dX7_leafLetter_4 (by decide) ?_
    refine lv_goto (tgt := 31) hx hb dX7_leafLetter_6 (by decide) ?_
    exact eR_i hx hb hr hlocks (by rcases (show f = 0 ∨ f = 1 ∨ f = 2 ∨ f = 3 by omega) with rfl | rfl | rfl | rfl <;> first | rfl | omega) dX7_leafLetter_31
set_option maxHeartbeats 4000000 in
set_option maxRecDepth 100000 in
theorem c_X7_figuresOf (l : Launch) (g : GG) (H : Heap) (k : Nat) (hk : k < 256) : Met l yX7_figuresOf (Cond.code yX7_figuresOf cX7_figuresOf 1 (some .int) :: wsL_law) ({ frames := 0, cells := 0, slots := 0, locals := 0 }) (PR g [.int (nI k)] H) (QRi (nI (figN k)) H) 0 0 NoA := by
  refine Met.R (by decide) (Nat.le_of_ble_eq_true rfl) rfl ?_
  intro p e s m below meth c hx hb hr hml hw hown hlocks hkn hH ls hl
  subst hH
  have hl : lv_has ls 1 [(0, .int (nI k))] := hl
  have hS : va_S NoA s.heap s.heap [] := va_S.rf
  refine lv_sipush (v := 1111) hx hb dX7_figuresOf_0 (by decide) ?_
  refine lv_sipush (v := 1000) hx hb dX7_figuresOf_3 (by decide) ?_
  refine lv_iload_n hx hb dX7_figuresOf_6 rfl (lv_at hl 0 rfl) ?_
  refine lv_bipush (v := 6) hx hb dX7_figuresOf_7 (by decide) ?_
  refine lv_ishr hx hb dX7_figuresOf_9 ?_
  refine lv_imul hx hb dX7_figuresOf_10 ?_
  refine lv_iadd hx hb dX7_figuresOf_11 ?_
  refine lv_bipush (v := 100) hx hb dX7_figuresOf_12 (by decide) ?_
  refine lv_iload_n hx hb dX7_figuresOf_14 rfl (lv_at hl 0 rfl) ?_
  refine lv_iconst (v := 4) hx hb dX7_figuresOf_15 (by decide) ?_
  refine lv_ishr hx hb dX7_figuresOf_16 ?_
  refine lv_iconst (v := 3) hx hb dX7_figuresOf_17 (by decide) ?_
  refine lv_iand hx hb dX7_figuresOf_18 ?_
  refine lv_imul hx hb dX7_figuresOf_19 ?_
  refine lv_iadd hx hb dX7_figuresOf_20 ?_
  refine lv_bipush (v := 10) hx hb dX7_figuresOf_21 (by decide) ?_
  refine lv_iload_n hx hb dX7_figuresOf_23 rfl (lv_at hl 0 rfl) ?_
  refine lv_iconst (v := 2) hx hb dX7_figuresOf_24 (by decide) ?_
  refine lv_ishr hx hb dX7_figuresOf_25 ?_
  refine lv_iconst (v := 3) hx hb dX7_figuresOf_26 (by decide) ?_
  refine lv_iand hx hb dX7_figuresOf_27 ?_
  refine lv_imul hx hb dX7_figuresOf_28 ?_
  refine lv_iadd hx hb dX7_figuresOf_29 ?_
  refine lv_iload_n hx hb dX7_figuresOf_30 rfl (lv_at hl 0 rfl) ?_
  refine lv_iconst (v := 3) hx hb dX7_figuresOf_31 (by decide) ?_
  refine lv_iand hx hb dX7_figuresOf_32 ?_
  refine lv_iadd hx hb dX7_figuresOf_33 ?_
  exact eR_i hx hb hr hlocks (show ((((1111 + (1000 * ((nI k) >>> ((6 : Int32) &&& 31)))) + (100 * (((nI k) >>> ((4 : Int32) &&& 31)) &&& 3))) + (10 * (((nI k) >>> ((2 : Int32) &&& 31)) &&& 3))) + ((nI k) &&& 3)) = nI (figN k) from (fun h9 => h9 ⟨k, hk⟩) (show ∀ j : Fin 256, ((((1111 + (1000 * ((nI j.val) >>> ((6 : Int32) &&& 31)))) + (100 * (((nI j.val) >>> ((4 : Int32) &&& 31)) &&& 3))) + (10 * (((nI j.val) >>> ((2 : Int32) &&& 31)) &&& 3))) + ((nI j.val) &&& 3)) = nI (figN j.val) by decide +kernel)) dX7_figuresOf_34
set_option maxHeartbeats 4000000 in
set_option maxRecDepth 100000 in
theorem c_X7_common (l : Launch) (g : GG) (H : Heap) (a : Nat) (b : Nat) (ha : a < 2 ^ 31) (hb2 : b < 2 ^ 31) : Met l yX7_common (Cond.code yX7_common cX7_common 5 (some .int) :: wsL_law) ({ frames := 0, cells := 0, slots := 0, locals := 0 }) (PR g [.int (nI a), .int (nI b)] H) (QRi (nI (Nat.gcd a b)) H) 0 0 NoA := by
  refine Met.R (by decide) (Nat.le_of_ble_eq_true rfl) rfl ?_
  intro p e s m below meth c hx hb hr hml hw hown hlocks hkn hH ls hl
  subst hH
  have hl : lv_has ls 5 [(0, .int (nI a)), (1, .int (nI b))] := hl
  have hS : va_S NoA s.heap s.heap [] := va_S.rf
  refine lv_iload_n hx hb dX7_common_0 rfl (lv_at hl 0 rfl) ?_
  have mg_10 : W p l e ({ frames := 0, cells := 0, slots := 0, locals := 0 } : Room) s m ([.int (nI a), .int (nI b)] : List Value).toArray below meth c s.heap [] 0 0 (MQ below (QRi (nI (Nat.gcd a b)) s.heap) ([.int (nI a), .int (nI b)] : List Value).toArray s 0 0 NoA) (F0 m 10 ls (.int (nI a) :: [])) := by
    refine lv_istore_n (lv' := [(2, .int (nI a)), (0, .int (nI a)), (1, .int (nI b))]) hx hb dX7_common_10 rfl hl (by decide) rfl (fun ls hl => ?_)
    refine lv_iload_n hx hb dX7_common_11 rfl (lv_at hl 2 rfl) ?_
    refine lv_istore_n (lv' := [(3, .int (nI b)), (2, .int (nI a)), (0, .int (nI a)), (1, .int (nI b))]) hx hb dX7_common_12 rfl hl (by decide) rfl (fun ls hl => ?_)
    have lp_13 : ∀ (n_13 : Nat) (x : Nat) (y : Nat), (x < 2 ^ 31) → (y < 2 ^ 31) → (Nat.gcd x y = Nat.gcd a b) → y < n_13 → ∀ (ls : Array Slot), lv_has ls 5 [(3, .int (nI y)), (2, .int (nI x)), (0, .int (nI a)), (1, .int (nI b))] → W p l e ({ frames := 0, cells := 0, slots := 0, locals := 0 } : Room) s m ([.int (nI a), .int (nI b)] : List Value).toArray below meth c s.heap [] 0 0 (MQ below (QRi (nI (Nat.gcd a b)) s.heap) ([.int (nI a), .int (nI b)] : List Value).toArray s 0 0 NoA) (F0 m 13 ls []) := by
      intro n_13
      induction n_13 with
      | zero => intro x y h_x h_y h_g hfu_13; exact absurd hfu_13 (by omega)
      | succ n_13 ih_13 =>
        intro x y h_x h_y h_g hfu_13 ls hl
        refine lv_iload_n hx hb dX7_common_13 rfl (lv_at hl 0 rfl) ?_
        refine iz_eq (a := y) (tgt := 30) hx hb dX7_common_14 (by decide) rfl (by omega) (fun c_1 => ?_) (fun c_1 => ?_)
        · skip
          refine lv_iload_n hx hb dX7_common_30 rfl (lv_at hl 1 rfl) ?_
          exact eR_i hx hb hr hlocks (by rw [← h_g, c_1, Nat.gcd_zero_right]) dX7_common_31
        · skip
          refine lv_iload_n hx hb dX7_common_17 rfl (lv_at hl 1 rfl) ?_
          refine lv_iload_n hx hb dX7_common_18 rfl (lv_at hl 0 rfl) ?_
          refine lv_irem hx hb dX7_common_19 (nI_ne0 (by omega) (by omega)) ?_
          refine lv_eqi (pk_rem (a := x) (d := y) (by omega) (by omega) (by omega)) ?_
          refine lv_istore (lv' := [(4, .int (nI (x % y))), (3, .int (nI y)), (2, .int (nI x)), (0, .int (nI a)), (1, .int (nI b))]) hx hb dX7_common_20 hl (by decide) rfl (fun ls hl => ?_)
          refine lv_iload_n hx hb dX7_common_22 rfl (lv_at hl 1 rfl) ?_
          refine lv_istore_n (lv' := [(2, .int (nI y)), (4, .int (nI (x % y))), (3, .int (nI y)), (0, .int (nI a)), (1, .int (nI b))]) hx hb dX7_common_23 rfl hl (by decide) rfl (fun ls hl => ?_)
          refine lv_iload hx hb dX7_common_24 (lv_at hl 1 rfl) ?_
          refine lv_istore_n (lv' := [(3, .int (nI (x % y))), (2, .int (nI y)), (4, .int (nI (x % y))), (0, .int (nI a)), (1, .int (nI b))]) hx hb dX7_common_26 rfl hl (by decide) rfl (fun ls hl => ?_)
          refine lv_goto (tgt := 13) hx hb dX7_common_27 (by decide) ?_
          exact ih_13 y (x % y) (by omega) (Nat.lt_trans (Nat.mod_lt _ (by omega)) h_y) (by rw [← h_g, Nat.gcd_comm y (x % y), ← Nat.gcd_rec, Nat.gcd_comm]) (Nat.lt_of_lt_of_le (Nat.mod_lt _ (by omega)) (by omega)) ls (lv_sub hl [0, 1, 3, 4] rfl)
    exact lp_13 (b + 1) a b (by omega) (by omega) (rfl) (by omega) ls (lv_sub hl [0, 1, 2, 3] rfl)
  refine lv_if_ge (tgt := 9) hx hb dX7_common_1 (by decide) (fun c_2 => ?_) (fun c_2 => ?_)
  · skip
    refine lv_iload_n hx hb dX7_common_9 rfl (lv_at hl 0 rfl) ?_
    exact mg_10
  · skip
    exact absurd (nI_pos' (by omega)) c_2
