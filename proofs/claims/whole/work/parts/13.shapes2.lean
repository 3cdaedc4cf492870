/-! Shapes: the methods that loop. -/
def it {σ : Type} (f : Nat → σ → σ) : Nat → σ → σ
  | 0, s => s
  | n + 1, s => f n (it f n s)
theorem it_s {σ : Type} (f : Nat → σ → σ) (n : Nat) (s : σ) : it f (n + 1) s = f n (it f n s) := rfl
def pcn (v : Int64) : Nat := fb_ct (bt v) 64
theorem pcn_le (v : Int64) : pcn v ≤ 64 := fb_ct_le _ _
theorem qcn_le {q : Nat} (h : q < 4) : qcn q ≤ 36 := by unfold qcn; omega
def tuF (v : Int64) (k : Nat) (a : Int64) : Int64 := if bt v k then a ||| sh (8 * (k % 8) + (7 - k / 8)) else a
def tuS (v : Int64) : Int64 := it (tuF v) 64 0
def flF (v : Int64) (k : Nat) (a : Int64) : Int64 := if bt v k then a ||| sh (8 * (k / 8) + (7 - k % 8)) else a
def flS (v : Int64) : Int64 := it (flF v) 64 0
def hxF (v : Int64) (q y x : Nat) (a : Int64) : Int64 := if pcn (v &&& jshl 771 (16 * y + 2 * x)) < 2 then a else a ||| jshl (sh (8 * y + x)) (qcn q)
def hyF (v : Int64) (q y : Nat) (a : Int64) : Int64 := it (hxF v q y) 4 a
def haS (v : Int64) (q : Nat) : Int64 := it (hyF v q) 4 0
def gxF (v : Int64) (q y x : Nat) (a : Int64) : Int64 := if bt v (qcn q + 8 * y + x) then a ||| jshl 771 (16 * y + 2 * x) else a
def gyF (v : Int64) (q y : Nat) (a : Int64) : Int64 := it (gxF v q y) 4 a
def grnS (v : Int64) (q : Nat) : Int64 := it (gyF v q) 4 0
def bwS (v : Int64) (w : Nat) : Int64 := it (fun _ a => tuS a) (w % 4) (if 4 ≤ w then flS v else v)
def unS (a b : Int64) (w : Nat) : Nat := pcn (bwS a w ^^^ b)
def waF (a b : Int64) (w : Nat) (x : Int32) : Int32 := if unS a b w = 0 then x ||| (1 <<< (nI w &&& 31)) else x
def waS (a b : Int64) : Int32 := it (waF a b) 8 0
def nwS (a b : Int64) : Nat → Nat × Nat
  | 0 => (0, unS a b 0)
  | n + 1 => if unS a b (n + 1) < (nwS a b n).2 then (n + 1, unS a b (n + 1)) else nwS a b n
theorem nwS_le (a b : Int64) : ∀ n, (nwS a b n).1 ≤ n ∧ (nwS a b n).2 ≤ 64
  | 0 => ⟨Nat.le_refl 0, pcn_le _⟩
  | n + 1 => by
    unfold nwS
    have h := nwS_le a b n
    split
    · exact ⟨Nat.le_refl _, pcn_le _⟩
    · exact ⟨by omega, h.2⟩
def depS (v : Int64) (k : Nat) : Nat := if signS v (sqS k 0) = 113 then (if signS v (sqS k 1) = 113 then (if signS v (sqS k 2) = 113 then 3 else 2) else 1) else 0
theorem depS_of {v : Int64} {k d : Nat} (hd : d ≤ 3) (h : ∀ j, j < d → signS v (sqS k j) = 113) (he : d = 3 ∨ ¬ signS v (sqS k d) = 113) : depS v k = d := by
  unfold depS
  rcases (show d = 0 ∨ d = 1 ∨ d = 2 ∨ d = 3 by omega) with rfl | rfl | rfl | rfl
  · rw [if_neg (he.resolve_left (by omega))]
  · rw [if_pos (h 0 (by omega)), if_neg (he.resolve_left (by omega))]
  · rw [if_pos (h 0 (by omega)), if_pos (h 1 (by omega)), if_neg (he.resolve_left (by omega))]
  · rw [if_pos (h 0 (by omega)), if_pos (h 1 (by omega)), if_pos (h 2 (by omega))]
def ngS (c p : Int64) : Int64 := c &&& (p ||| leS p ||| riS p ||| jushr p 8 ||| jshl p 8)
def poG (c : Int64) : Nat → Int64 → Int64
  | 0, p => p
  | n + 1, p => if ngS c p = p then p else poG c n (ngS c p)
def poS (c p : Int64) : Int64 := poG c 64 p
def paG : Nat → Int64 → Nat → Nat
  | 0, _, n => n
  | f + 1, r, n => if r = 0 then n else paG f (r &&& (poS r (r &&& -r) ^^^ (-1))) (n + 1)
def paS (v : Int64) : Nat := paG 64 v 0
def riN (v : Int64) : Nat := pcn (v &&& (leS v ^^^ (-1))) + pcn (v &&& (riS v ^^^ (-1))) + pcn (v &&& (jushr v 8 ^^^ (-1))) + pcn (v &&& (jshl v 8 ^^^ (-1)))
def blF (d c : Nat) (s : Int64 × Nat) : Int64 × Nat := if s.1 &&& sqS c d = sqS c d then (s.1 &&& (sqS c d ^^^ (-1)), s.2 + 1) else s
def blS (v : Int64) : Int64 × Nat := it (fun d s => it (blF d) 64 s) 4 (v, 0)
theorem lt64_nI {n : Nat} (h : n ≤ 64) : n < 2 ^ 31 := Nat.lt_of_le_of_lt h (by decide)
theorem bcS_eq (v : Int64) : bcS v = nI (pcn v) := bcN_eq v
theorem c_J13_bitCount (l : Launch) (g : GG) (H : Heap) (v : Int64)  : Met l yJ13_bitCount_95d88 (Cond.code yJ13_bitCount_95d88 cJ13_bitCount_95d88 2 (some .int) :: wsL_law) ({ frames := 0, cells := 0, slots := 0, locals := 0 }) (PR g [.long v] H) (QRi (nI (pcn v)) H) 0 0 NoA := by
  rw [← bcS_eq v]; exact c_J13_bitCount_95d88 l g H v
set_option maxHeartbeats 4000000 in
set_option maxRecDepth 100000 in
theorem c_X2_turned (l : Launch) (g : GG) (H : Heap) (v : Int64)  : Met l yX2_turned (Cond.code yX2_turned cX2_turned 5 (some .long) :: wsL_law) ({ frames := 1, cells := 0, slots := 0, locals := 22 }) (PR g [.long v] H) (QRl (tuS v) H) 0 0 NoA := by
  refine Met.R (by decide) (Nat.le_of_ble_eq_true rfl) rfl ?_
  intro p e s m below meth c hx hb hr hml hw hown hlocks hkn hH ls hl
  subst hH
  have hl : lv_has ls 5 [(0, .long v)] := hl
  have hS : va_S NoA s.heap s.heap [] := va_S.rf
  refine lv_lconst (v := 0) hx hb dX2_turned_0 rfl ?_
  refine lv_lstore_n (lv' := [(2, .long 0), (0, .long v)]) hx hb dX2_turned_1 rfl hl (by decide) rfl (fun ls hl => ?_)
  refine lv_iconst (v := 0) hx hb dX2_turned_2 (by decide) ?_
  refine lv_istore (lv' := [(4, .int 0), (2, .long 0), (0, .long v)]) hx hb dX2_turned_3 hl (by decide) rfl (fun ls hl => ?_)
  have lp_5 : ∀ (n_5 : Nat) (i : Nat) (a : Int64), (i ≤ 64) → (a = it (tuF v) i 0) → 64 < i + n_5 → ∀ (ls : Array Slot), lv_has ls 5 [(4, .int (nI i)), (2, .long a), (0, .long v)] → W p l e ({ frames := 1, cells := 0, slots := 0, locals := 22 } : Room) s m ([.long v] : List Value).toArray below meth c s.heap [] 0 0 (MQ below (QRl (tuS v) s.heap) ([.long v] : List Value).toArray s 0 0 NoA) (F0 m 5 ls []) := by
    intro n_5
    induction n_5 with
    | zero => intro i a h_i h_a hfu_5; exact absurd hfu_5 (by omega)
    | succ n_5 ih_5 =>
      intro i a h_i h_a hfu_5 ls hl
      refine lv_iload hx hb dX2_turned_5 (lv_at hl 0 rfl) ?_
      refine lv_bipush (v := 64) hx hb dX2_turned_7 (by decide) ?_
      refine ic_ge (a := i) (d := 64) (tgt := 46) hx hb dX2_turned_9 (by decide) rfl rfl (by omega) (by omega) (fun c_1 => ?_) (fun c_1 => ?_)
      · skip
        refine lv_lload_n hx hb dX2_turned_46 rfl (lv_at hl 1 rfl) ?_
        exact eR_l hx hb hr hlocks (by rw [h_a, show i = 64 by omega]; rfl) dX2_turned_47
      · skip
        refine lv_lload_n hx hb dX2_turned_12 rfl (lv_at hl 2 rfl) ?_
        refine lv_iload hx hb dX2_turned_13 (lv_at hl 0 rfl) ?_
        refine cS_i (As := [.long v, .int (nI i)]) (rest := []) hx hb hml hown hw hkn hS hl (c_X2_isBlack l g _ v i (by omega)) sf_X2_isBlack mw_304 ⟨(Nat.le_of_ble_eq_true rfl), (Nat.le_of_ble_eq_true rfl)⟩ rfl rfl rfl rfl (Nat.le_of_ble_eq_true rfl) dX2_turned_15 ⟨(Nat.le_of_ble_eq_true rfl), (Nat.le_of_ble_eq_true rfl)⟩ ?_
        refine lv_ifeqB (b := bt v i) (tgt := 40) hx hb dX2_turned_18 (by decide) (fun c_2 => ?_) (fun c_2 => ?_)
        · skip
          refine lv_iinc (v := (nI (i + 1))) (lv' := [(4, .int (nI (i + 1))), (2, .long a), (0, .long v)]) hx hb dX2_turned_40 hl (k := 0) rfl (nI_1 i) (by decide) rfl (fun ls hl => ?_)
          refine lv_goto (tgt := 5) hx hb dX2_turned_43 (by decide) ?_
          exact ih_5 (i + 1) a (by omega) (by rw [h_a, it_s]; simp [tuF, c_1, c_2]) (by omega) ls (lv_sub hl [0, 1, 2] rfl)
        · skip
          refine lv_lload_n hx hb dX2_turned_21 rfl (lv_at hl 1 rfl) ?_
          refine lv_bipush (v := 7) hx hb dX2_turned_22 (by decide) ?_
          refine lv_iload hx hb dX2_turned_24 (lv_at hl 0 rfl) ?_
          refine lv_bipush (v := 8) hx hb dX2_turned_26 (by decide) ?_
          refine lv_idiv hx hb dX2_turned_28 (by decide) ?_
          refine lv_eqi (pk_div (a := i) (d := 8) (by omega) (by omega) (by omega)) ?_
          refine lv_isub hx hb dX2_turned_29 ?_
          refine lv_eqi (pk_sub (a := 7) (b := i / 8) (by omega)) ?_
          refine lv_iload hx hb dX2_turned_30 (lv_at hl 0 rfl) ?_
          refine lv_bipush (v := 8) hx hb dX2_turned_32 (by decide) ?_
          refine lv_irem hx hb dX2_turned_34 (by decide) ?_
          refine lv_eqi (pk_rem (a := i) (d := 8) (by omega) (by omega) (by omega)) ?_
          refine cS_l (As := [.int (nI (7 - (i / 8))), .int (nI (i % 8))]) (rest := [.long a]) hx hb hml hown hw hkn hS hl (c_X2_bit l g _ (7 - (i / 8)) (i % 8) ) sf_X2_bit mw_307 ⟨(Nat.le_of_ble_eq_true rfl), (Nat.le_of_ble_eq_true rfl)⟩ rfl rfl rfl rfl (Nat.le_of_ble_eq_true rfl) dX2_turned_35 ⟨(Nat.le_of_ble_eq_true rfl), (Nat.le_of_ble_eq_true rfl)⟩ ?_
          refine lv_lor hx hb dX2_turned_38 ?_
          refine lv_lstore_n (lv' := [(2, .long (a ||| (sh (8 * (i % 8) + (7 - (i / 8)))))), (4, .int (nI i)), (0, .long v)]) hx hb dX2_turned_39 rfl hl (by decide) rfl (fun ls hl => ?_)
          refine lv_iinc (v := (nI (i + 1))) (lv' := [(4, .int (nI (i + 1))), (2, .long (a ||| (sh (8 * (i % 8) + (7 - (i / 8)))))), (0, .long v)]) hx hb dX2_turned_40 hl (k := 1) rfl (nI_1 i) (by decide) rfl (fun ls hl => ?_)
          refine lv_goto (tgt := 5) hx hb dX2_turned_43 (by decide) ?_
          exact ih_5 (i + 1) (a ||| (sh (8 * (i % 8) + (7 - (i / 8))))) (by omega) (by rw [h_a, it_s]; simp [tuF, c_1, c_2]) (by omega) ls (lv_sub hl [0, 1, 2] rfl)
  exact lp_5 65 0 0 (by omega) (rfl) (by omega) ls (lv_sub hl [0, 1, 2] rfl)
set_option maxHeartbeats 4000000 in
set_option maxRecDepth 100000 in
theorem c_X2_flipped (l : Launch) (g : GG) (H : Heap) (v : Int64)  : Met l yX2_flipped (Cond.code yX2_flipped cX2_flipped 5 (some .long) :: wsL_law) ({ frames := 1, cells := 0, slots := 0, locals := 22 }) (PR g [.long v] H) (QRl (flS v) H) 0 0 NoA := by
  refine Met.R (by decide) (Nat.le_of_ble_eq_true rfl) rfl ?_
  intro p e s m below meth c hx hb hr hml hw hown hlocks hkn hH ls hl
  subst hH
  have hl : lv_has ls 5 [(0, .long v)] := hl
  have hS : va_S NoA s.heap s.heap [] := va_S.rf
  refine lv_lconst (v := 0) hx hb dX2_flipped_0 rfl ?_
  refine lv_lstore_n (lv' := [(2, .long 0), (0, .long v)]) hx hb dX2_flipped_1 rfl hl (by decide) rfl (fun ls hl => ?_)
  refine lv_iconst (v := 0) hx hb dX2_flipped_2 (by decide) ?_
  refine lv_istore (lv' := [(4, .int 0), (2, .long 0), (0, .long v)]) hx hb dX2_flipped_3 hl (by decide) rfl (fun ls hl => ?_)
  have lp_5 : ∀ (n_5 : Nat) (i : Nat) (a : Int64), (i ≤ 64) → (a = it (flF v) i 0) → 64 < i + n_5 → ∀ (ls : Array Slot), lv_has ls 5 [(4, .int (nI i)), (2, .long a), (0, .long v)] → W p l e ({ frames := 1, cells := 0, slots := 0, locals := 22 } : Room) s m ([.long v] : List Value).toArray below meth c s.heap [] 0 0 (MQ below (QRl (flS v) s.heap) ([.long v] : List Value).toArray s 0 0 NoA) (F0 m 5 ls []) := by
    intro n_5
    induction n_5 with
    | zero => intro i a h_i h_a hfu_5; exact absurd hfu_5 (by omega)
    | succ n_5 ih_5 =>
      intro i a h_i h_a hfu_5 ls hl
      refine lv_iload hx hb dX2_flipped_5 (lv_at hl 0 rfl) ?_
      refine lv_bipush (v := 64) hx hb dX2_flipped_7 (by decide) ?_
      refine ic_ge (a := i) (d := 64) (tgt := 46) hx hb dX2_flipped_9 (by decide) rfl rfl (by omega) (by omega) (fun c_1 => ?_) (fun c_1 => ?_)
      · skip
        refine lv_lload_n hx hb dX2_flipped_46 rfl (lv_at hl 1 rfl) ?_
        exact eR_l hx hb hr hlocks (by rw [h_a, show i = 64 by omega]; rfl) dX2_flipped_47
      · skip
        refine lv_lload_n hx hb dX2_flipped_12 rfl (lv_at hl 2 rfl) ?_
        refine lv_iload hx hb dX2_flipped_13 (lv_at hl 0 rfl) ?_
        refine cS_i (As := [.long v, .int (nI i)]) (rest := []) hx hb hml hown hw hkn hS hl (c_X2_isBlack l g _ v i (by omega)) sf_X2_isBlack mw_304 ⟨(Nat.le_of_ble_eq_true rfl), (Nat.le_of_ble_eq_true rfl)⟩ rfl rfl rfl rfl (Nat.le_of_ble_eq_true rfl) dX2_flipped_15 ⟨(Nat.le_of_ble_eq_true rfl), (Nat.le_of_ble_eq_true rfl)⟩ ?_
        refine lv_ifeqB (b := bt v i) (tgt := 40) hx hb dX2_flipped_18 (by decide) (fun c_2 => ?_) (fun c_2 => ?_)
        · skip
          refine lv_iinc (v := (nI (i + 1))) (lv' := [(4, .int (nI (i + 1))), (2, .long a), (0, .long v)]) hx hb dX2_flipped_40 hl (k := 0) rfl (nI_1 i) (by decide) rfl (fun ls hl => ?_)
          refine lv_goto (tgt := 5) hx hb dX2_flipped_43 (by decide) ?_
          exact ih_5 (i + 1) a (by omega) (by rw [h_a, it_s]; simp [flF, c_1, c_2]) (by omega) ls (lv_sub hl [0, 1, 2] rfl)
        · skip
          refine lv_lload_n hx hb dX2_flipped_21 rfl (lv_at hl 1 rfl) ?_
          refine lv_bipush (v := 7) hx hb dX2_flipped_22 (by decide) ?_
          refine lv_iload hx hb dX2_flipped_24 (lv_at hl 0 rfl) ?_
          refine lv_bipush (v := 8) hx hb dX2_flipped_26 (by decide) ?_
          refine lv_irem hx hb dX2_flipped_28 (by decide) ?_
          refine lv_eqi (pk_rem (a := i) (d := 8) (by omega) (by omega) (by omega)) ?_
          refine lv_isub hx hb dX2_flipped_29 ?_
          refine lv_eqi (pk_sub (a := 7) (b := i % 8) (by omega)) ?_
          refine lv_iload hx hb dX2_flipped_30 (lv_at hl 0 rfl) ?_
          refine lv_bipush (v := 8) hx hb dX2_flipped_32 (by decide) ?_
          refine lv_idiv hx hb dX2_flipped_34 (by decide) ?_
          refine lv_eqi (pk_div (a := i) (d := 8) (by omega) (by omega) (by omega)) ?_
          refine cS_l (As := [.int (nI (7 - (i % 8))), .int (nI (i / 8))]) (rest := [.long a]) hx hb hml hown hw hkn hS hl (c_X2_bit l g _ (7 - (i % 8)) (i / 8) ) sf_X2_bit mw_307 ⟨(Nat.le_of_ble_eq_true rfl), (Nat.le_of_ble_eq_true rfl)⟩ rfl rfl rfl rfl (Nat.le_of_ble_eq_true rfl) dX2_flipped_35 ⟨(Nat.le_of_ble_eq_true rfl), (Nat.le_of_ble_eq_true rfl)⟩ ?_
          refine lv_lor hx hb dX2_flipped_38 ?_
          refine lv_lstore_n (lv' := [(2, .long (a ||| (sh (8 * (i / 8) + (7 - (i % 8)))))), (4, .int (nI i)), (0, .long v)]) hx hb dX2_flipped_39 rfl hl (by decide) rfl (fun ls hl => ?_)
          refine lv_iinc (v := (nI (i + 1))) (lv' := [(4, .int (nI (i + 1))), (2, .long (a ||| (sh (8 * (i / 8) + (7 - (i % 8)))))), (0, .long v)]) hx hb dX2_flipped_40 hl (k := 1) rfl (nI_1 i) (by decide) rfl (fun ls hl => ?_)
          refine lv_goto (tgt := 5) hx hb dX2_flipped_43 (by decide) ?_
          exact ih_5 (i + 1) (a ||| (sh (8 * (i / 8) + (7 - (i % 8))))) (by omega) (by rw [h_a, it_s]; simp [flF, c_1, c_2]) (by omega) ls (lv_sub hl [0, 1, 2] rfl)
  exact lp_5 65 0 0 (by omega) (rfl) (by omega) ls (lv_sub hl [0, 1, 2] rfl)
set_option maxHeartbeats 4000000 in
set_option maxRecDepth 100000 in
theorem c_X2_halved (l : Launch) (g : GG) (H : Heap) (v : Int64) (q : Nat) (hq : q < 4) : Met l yX2_halved (Cond.code yX2_halved cX2_halved 7 (some .long) :: wsL_law) ({ frames := 1, cells := 0, slots := 0, locals := 21 }) (PR g [.long v, .int (nI q)] H) (QRl (haS v q) H) 0 0 NoA := by
  refine Met.R (by decide) (Nat.le_of_ble_eq_true rfl) rfl ?_
  intro p e s m below meth c hx hb hr hml hw hown hlocks hkn hH ls hl
  subst hH
  have hl : lv_has ls 7 [(0, .long v), (2, .int (nI q))] := hl
  have hS : va_S NoA s.heap s.heap [] := va_S.rf
  refine lv_lconst (v := 0) hx hb dX2_halved_0 rfl ?_
  refine lv_lstore_n (lv' := [(3, .long 0), (0, .long v), (2, .int (nI q))]) hx hb dX2_halved_1 rfl hl (by decide) rfl (fun ls hl => ?_)
  refine lv_iconst (v := 0) hx hb dX2_halved_2 (by decide) ?_
  refine lv_istore (lv' := [(5, .int 0), (3, .long 0), (0, .long v), (2, .int (nI q))]) hx hb dX2_halved_3 hl (by decide) rfl (fun ls hl => ?_)
  have lp_5 : ∀ (n_5 : Nat) (y : Nat) (a : Int64), (y ≤ 4) → (a = it (hyF v q) y 0) → 4 < y + n_5 → ∀ (ls : Array Slot), lv_has ls 7 [(5, .int (nI y)), (3, .long a), (0, .long v), (2, .int (nI q))] → W p l e ({ frames := 1, cells := 0, slots := 0, locals := 21 } : Room) s m ([.long v, .int (nI q)] : List Value).toArray below meth c s.heap [] 0 0 (MQ below (QRl (haS v q) s.heap) ([.long v, .int (nI q)] : List Value).toArray s 0 0 NoA) (F0 m 5 ls []) := by
    intro n_5
    induction n_5 with
    | zero => intro y a h_y h_a hfu_5; exact absurd hfu_5 (by omega)
    | succ n_5 ih_5 =>
      intro y a h_y h_a hfu_5 ls hl
      refine lv_iload hx hb dX2_halved_5 (lv_at hl 0 rfl) ?_
      refine lv_iconst (v := 4) hx hb dX2_halved_7 (by decide) ?_
      refine ic_ge (a := y) (d := 4) (tgt := 63) hx hb dX2_halved_8 (by decide) rfl rfl (by omega) (by omega) (fun c_1 => ?_) (fun c_1 => ?_)
      · skip
        refine lv_lload_n hx hb dX2_halved_63 rfl (lv_at hl 1 rfl) ?_
        exact eR_l hx hb hr hlocks (by rw [h_a, show y = 4 by omega]; rfl) dX2_halved_64
      · skip
        refine lv_iconst (v := 0) hx hb dX2_halved_11 (by decide) ?_
        refine lv_istore (lv' := [(6, .int 0), (5, .int (nI y)), (3, .long a), (0, .long v), (2, .int (nI q))]) hx hb dX2_halved_12 hl (by decide) rfl (fun ls hl => ?_)
        have lp_14 : ∀ (n_14 : Nat) (x : Nat) (b : Int64), (x ≤ 4) → (b = it (hxF v q y) x a) → 4 < x + n_14 → ∀ (ls : Array Slot), lv_has ls 7 [(6, .int (nI x)), (5, .int (nI y)), (3, .long b), (0, .long v), (2, .int (nI q))] → W p l e ({ frames := 1, cells := 0, slots := 0, locals := 21 } : Room) s m ([.long v, .int (nI q)] : List Value).toArray below meth c s.heap [] 0 0 (MQ below (QRl (haS v q) s.heap) ([.long v, .int (nI q)] : List Value).toArray s 0 0 NoA) (F0 m 14 ls []) := by
          intro n_14
          induction n_14 with
          | zero => intro x b h_x h_b hfu_14; exact absurd hfu_14 (by omega)
          | succ n_14 ih_14 =>
            intro x b h_x h_b hfu_14 ls hl
            refine lv_iload hx hb dX2_halved_14 (lv_at hl 0 rfl) ?_
            refine lv_iconst (v := 4) hx hb dX2_halved_16 (by decide) ?_
            refine ic_ge (a := x) (d := 4) (tgt := 57) hx hb dX2_halved_17 (by decide) rfl rfl (by omega) (by omega) (fun c_2 => ?_) (fun c_2 => ?_)
            · skip
              refine lv_iinc (v := (nI (y + 1))) (lv' := [(5, .int (nI (y + 1))), (6, .int (nI x)), (3, .long b), (0, .long v), (2, .int (nI q))]) hx hb dX2_halved_57 hl (k := 1) rfl (nI_1 y) (by decide) rfl (fun ls hl => ?_)
              refine lv_goto (tgt := 5) hx hb dX2_halved_60 (by decide) ?_
              exact ih_5 (y + 1) b (by omega) (by rw [h_b, show x = 4 by omega, h_a, it_s]; rfl) (by omega) ls (lv_sub hl [0, 2, 3, 4] rfl)
            · skip
              refine lv_lload_n hx hb dX2_halved_20 rfl (lv_at hl 3 rfl) ?_
              refine lv_iload hx hb dX2_halved_21 (lv_at hl 0 rfl) ?_
              refine lv_iload hx hb dX2_halved_23 (lv_at hl 1 rfl) ?_
              refine cS_l (As := [.int (nI x), .int (nI y)]) (rest := [.long v]) hx hb hml hown hw hkn hS hl (c_X2_fourCells l g _ x y ) sf_X2_fourCells mw_349 ⟨(Nat.le_of_ble_eq_true rfl), (Nat.le_of_ble_eq_true rfl)⟩ rfl rfl rfl rfl (Nat.le_of_ble_eq_true rfl) dX2_halved_25 ⟨(Nat.le_of_ble_eq_true rfl), (Nat.le_of_ble_eq_true rfl)⟩ ?_
              refine lv_land hx hb dX2_halved_28 ?_
              refine cS_i (As := [.long (v &&& (jshl 771 (16 * y + 2 * x)))]) (rest := []) hx hb hml hown hw hkn hS hl (c_J13_bitCount l g _ (v &&& (jshl 771 (16 * y + 2 * x))) ) sf_J13_bitCount_95d88 mw_353 ⟨(Nat.le_of_ble_eq_true rfl), (Nat.le_of_ble_eq_true rfl)⟩ rfl rfl rfl rfl (Nat.le_of_ble_eq_true rfl) dX2_halved_29 ⟨(Nat.le_of_ble_eq_true rfl), (Nat.le_of_ble_eq_true rfl)⟩ ?_
              refine lv_iconst (v := 2) hx hb dX2_halved_32 (by decide) ?_
              have hpc := pcn_le (v &&& jshl 771 (16 * y + 2 * x))
              refine ic_lt (a := pcn (v &&& (jshl 771 (16 * y + 2 * x)))) (d := 2) (tgt := 51) hx hb dX2_halved_33 (by decide) rfl rfl (by omega) (by omega) (fun c_3 => ?_) (fun c_3 => ?_)
              · skip
                refine lv_iinc (v := (nI (x + 1))) (lv' := [(6, .int (nI (x + 1))), (5, .int (nI y)), (3, .long b), (0, .long v), (2, .int (nI q))]) hx hb dX2_halved_51 hl (k := 0) rfl (nI_1 x) (by decide) rfl (fun ls hl => ?_)
                refine lv_goto (tgt := 14) hx hb dX2_halved_54 (by decide) ?_
                exact ih_14 (x + 1) b (by omega) (by rw [h_b, it_s]; simp [hxF]; omega) (by omega) ls (lv_sub hl [0, 1, 2, 3, 4] rfl)
              · skip
                refine lv_lload_n hx hb dX2_halved_36 rfl (lv_at hl 2 rfl) ?_
                refine lv_iload hx hb dX2_halved_37 (lv_at hl 0 rfl) ?_
                refine lv_iload hx hb dX2_halved_39 (lv_at hl 1 rfl) ?_
                refine cS_l (As := [.int (nI x), .int (nI y)]) (rest := [.long b]) hx hb hml hown hw hkn hS hl (c_X2_bit l g _ x y ) sf_X2_bit mw_307 ⟨(Nat.le_of_ble_eq_true rfl), (Nat.le_of_ble_eq_true rfl)⟩ rfl rfl rfl rfl (Nat.le_of_ble_eq_true rfl) dX2_halved_41 ⟨(Nat.le_of_ble_eq_true rfl), (Nat.le_of_ble_eq_true rfl)⟩ ?_
                refine lv_iload_n hx hb dX2_halved_44 rfl (lv_at hl 4 rfl) ?_
                refine cS_i (As := [.int (nI q)]) (rest := [.long (sh (8 * y + x)), .long b]) hx hb hml hown hw hkn hS hl (c_X2_quarterCorner l g _ q (by omega)) sf_X2_quarterCorner mw_354 ⟨(Nat.le_of_ble_eq_true rfl), (Nat.le_of_ble_eq_true rfl)⟩ rfl rfl rfl rfl (Nat.le_of_ble_eq_true rfl) dX2_halved_45 ⟨(Nat.le_of_ble_eq_true rfl), (Nat.le_of_ble_eq_true rfl)⟩ ?_
                refine lv_lshl (v := (jshl (sh (8 * y + x)) (qcn q))) hx hb dX2_halved_48 rfl ?_
                refine lv_lor hx hb dX2_halved_49 ?_
                refine lv_lstore_n (lv' := [(3, .long (b ||| (jshl (sh (8 * y + x)) (qcn q)))), (6, .int (nI x)), (5, .int (nI y)), (0, .long v), (2, .int (nI q))]) hx hb dX2_halved_50 rfl hl (by decide) rfl (fun ls hl => ?_)
                refine lv_iinc (v := (nI (x + 1))) (lv' := [(6, .int (nI (x + 1))), (3, .long (b ||| (jshl (sh (8 * y + x)) (qcn q)))), (5, .int (nI y)), (0, .long v), (2, .int (nI q))]) hx hb dX2_halved_51 hl (k := 1) rfl (nI_1 x) (by decide) rfl (fun ls hl => ?_)
                refine lv_goto (tgt := 14) hx hb dX2_halved_54 (by decide) ?_
                exact ih_14 (x + 1) (b ||| (jshl (sh (8 * y + x)) (qcn q))) (by omega) (by rw [h_b, it_s]; simp [hxF]; omega) (by omega) ls (lv_sub hl [0, 2, 1, 3, 4] rfl)
        exact lp_14 5 0 a (by omega) (rfl) (by omega) ls (lv_sub hl [0, 1, 2, 3, 4] rfl)
  exact lp_5 5 0 0 (by omega) (rfl) (by omega) ls (lv_sub hl [0, 1, 2, 3] rfl)
set_option maxHeartbeats 4000000 in
set_option maxRecDepth 100000 in
theorem c_X2_grown (l : Launch) (g : GG) (H : Heap) (v : Int64) (q : Nat) (hq : q < 4) : Met l yX2_grown (Cond.code yX2_grown cX2_grown 7 (some .long) :: wsL_law) ({ frames := 1, cells := 0, slots := 0, locals := 22 }) (PR g [.long v, .int (nI q)] H) (QRl (grnS v q) H) 0 0 NoA := by
  refine Met.R (by decide) (Nat.le_of_ble_eq_true rfl) rfl ?_
  intro p e s m below meth c hx hb hr hml hw hown hlocks hkn hH ls hl
  subst hH
  have hl : lv_has ls 7 [(0, .long v), (2, .int (nI q))] := hl
  have hS : va_S NoA s.heap s.heap [] := va_S.rf
  have hqc := qcn_le hq
  refine lv_lconst (v := 0) hx hb dX2_grown_0 rfl ?_
  refine lv_lstore_n (lv' := [(3, .long 0), (0, .long v), (2, .int (nI q))]) hx hb dX2_grown_1 rfl hl (by decide) rfl (fun ls hl => ?_)
  refine lv_iconst (v := 0) hx hb dX2_grown_2 (by decide) ?_
  refine lv_istore (lv' := [(5, .int 0), (3, .long 0), (0, .long v), (2, .int (nI q))]) hx hb dX2_grown_3 hl (by decide) rfl (fun ls hl => ?_)
  have lp_5 : ∀ (n_5 : Nat) (y : Nat) (a : Int64), (y ≤ 4) → (a = it (gyF v q) y 0) → 4 < y + n_5 → ∀ (ls : Array Slot), lv_has ls 7 [(5, .int (nI y)), (3, .long a), (0, .long v), (2, .int (nI q))] → W p l e ({ frames := 1, cells := 0, slots := 0, locals := 22 } : Room) s m ([.long v, .int (nI q)] : List Value).toArray below meth c s.heap [] 0 0 (MQ below (QRl (grnS v q) s.heap) ([.long v, .int (nI q)] : List Value).toArray s 0 0 NoA) (F0 m 5 ls []) := by
    intro n_5
    induction n_5 with
    | zero => intro y a h_y h_a hfu_5; exact absurd hfu_5 (by omega)
    | succ n_5 ih_5 =>
      intro y a h_y h_a hfu_5 ls hl
      refine lv_iload hx hb dX2_grown_5 (lv_at hl 0 rfl) ?_
      refine lv_iconst (v := 4) hx hb dX2_grown_7 (by decide) ?_
      refine ic_ge (a := y) (d := 4) (tgt := 62) hx hb dX2_grown_8 (by decide) rfl rfl (by omega) (by omega) (fun c_1 => ?_) (fun c_1 => ?_)
      · skip
        refine lv_lload_n hx hb dX2_grown_62 rfl (lv_at hl 1 rfl) ?_
        exact eR_l hx hb hr hlocks (by rw [h_a, show y = 4 by omega]; rfl) dX2_grown_63
      · skip
        refine lv_iconst (v := 0) hx hb dX2_grown_11 (by decide) ?_
        refine lv_istore (lv' := [(6, .int 0), (5, .int (nI y)), (3, .long a), (0, .long v), (2, .int (nI q))]) hx hb dX2_grown_12 hl (by decide) rfl (fun ls hl => ?_)
        have lp_14 : ∀ (n_14 : Nat) (x : Nat) (b : Int64), (x ≤ 4) → (b = it (gxF v q y) x a) → 4 < x + n_14 → ∀ (ls : Array Slot), lv_has ls 7 [(6, .int (nI x)), (5, .int (nI y)), (3, .long b), (0, .long v), (2, .int (nI q))] → W p l e ({ frames := 1, cells := 0, slots := 0, locals := 22 } : Room) s m ([.long v, .int (nI q)] : List Value).toArray below meth c s.heap [] 0 0 (MQ below (QRl (grnS v q) s.heap) ([.long v, .int (nI q)] : List Value).toArray s 0 0 NoA) (F0 m 14 ls []) := by
          intro n_14
          induction n_14 with
          | zero => intro x b h_x h_b hfu_14; exact absurd hfu_14 (by omega)
          | succ n_14 ih_14 =>
            intro x b h_x h_b hfu_14 ls hl
            refine lv_iload hx hb dX2_grown_14 (lv_at hl 0 rfl) ?_
            refine lv_iconst (v := 4) hx hb dX2_grown_16 (by decide) ?_
            refine ic_ge (a := x) (d := 4) (tgt := 56) hx hb dX2_grown_17 (by decide) rfl rfl (by omega) (by omega) (fun c_2 => ?_) (fun c_2 => ?_)
            · skip
              refine lv_iinc (v := (nI (y + 1))) (lv' := [(5, .int (nI (y + 1))), (6, .int (nI x)), (3, .long b), (0, .long v), (2, .int (nI q))]) hx hb dX2_grown_56 hl (k := 1) rfl (nI_1 y) (by decide) rfl (fun ls hl => ?_)
              refine lv_goto (tgt := 5) hx hb dX2_grown_59 (by decide) ?_
              exact ih_5 (y + 1) b (by omega) (by rw [h_b, show x = 4 by omega, h_a, it_s]; rfl) (by omega) ls (lv_sub hl [0, 2, 3, 4] rfl)
            · skip
              refine lv_lload_n hx hb dX2_grown_20 rfl (lv_at hl 3 rfl) ?_
              refine lv_iload_n hx hb dX2_grown_21 rfl (lv_at hl 4 rfl) ?_
              refine cS_i (As := [.int (nI q)]) (rest := [.long v]) hx hb hml hown hw hkn hS hl (c_X2_quarterCorner l g _ q (by omega)) sf_X2_quarterCorner mw_354 ⟨(Nat.le_of_ble_eq_true rfl), (Nat.le_of_ble_eq_true rfl)⟩ rfl rfl rfl rfl (Nat.le_of_ble_eq_true rfl) dX2_grown_22 ⟨(Nat.le_of_ble_eq_true rfl), (Nat.le_of_ble_eq_true rfl)⟩ ?_
              refine lv_bipush (v := 8) hx hb dX2_grown_25 (by decide) ?_
              refine lv_iload hx hb dX2_grown_27 (lv_at hl 1 rfl) ?_
              refine lv_imul hx hb dX2_grown_29 ?_
              refine lv_eqi (pk_mul 8 y) ?_
              refine lv_iadd hx hb dX2_grown_30 ?_
              refine lv_eqi (nI_add (qcn q) (8 * y)) ?_
              refine lv_iload hx hb dX2_grown_31 (lv_at hl 0 rfl) ?_
              refine lv_iadd hx hb dX2_grown_33 ?_
              refine lv_eqi (nI_add (qcn q + (8 * y)) x) ?_
              refine cS_i (As := [.long v, .int (nI (qcn q + (8 * y) + x))]) (rest := []) hx hb hml hown hw hkn hS hl (c_X2_isBlack l g _ v (qcn q + (8 * y) + x) (by omega)) sf_X2_isBlack mw_304 ⟨(Nat.le_of_ble_eq_true rfl), (Nat.le_of_ble_eq_true rfl)⟩ rfl rfl rfl rfl (Nat.le_of_ble_eq_true rfl) dX2_grown_34 ⟨(Nat.le_of_ble_eq_true rfl), (Nat.le_of_ble_eq_true rfl)⟩ ?_
              refine lv_ifeqB (b := bt v (qcn q + (8 * y) + x)) (tgt := 50) hx hb dX2_grown_37 (by decide) (fun c_3 => ?_) (fun c_3 => ?_)
              · skip
                refine lv_iinc (v := (nI (x + 1))) (lv' := [(6, .int (nI (x + 1))), (5, .int (nI y)), (3, .long b), (0, .long v), (2, .int (nI q))]) hx hb dX2_grown_50 hl (k := 0) rfl (nI_1 x) (by decide) rfl (fun ls hl => ?_)
                refine lv_goto (tgt := 14) hx hb dX2_grown_53 (by decide) ?_
                exact ih_14 (x + 1) b (by omega) (by rw [h_b, it_s]; simp [gxF, c_1, c_2, c_3]) (by omega) ls (lv_sub hl [0, 1, 2, 3, 4] rfl)
              · skip
                refine lv_lload_n hx hb dX2_grown_40 rfl (lv_at hl 2 rfl) ?_
                refine lv_iload hx hb dX2_grown_41 (lv_at hl 0 rfl) ?_
                refine lv_iload hx hb dX2_grown_43 (lv_at hl 1 rfl) ?_
                refine cS_l (As := [.int (nI x), .int (nI y)]) (rest := [.long b]) hx hb hml hown hw hkn hS hl (c_X2_fourCells l g _ x y ) sf_X2_fourCells mw_349 ⟨(Nat.le_of_ble_eq_true rfl), (Nat.le_of_ble_eq_true rfl)⟩ rfl rfl rfl rfl (Nat.le_of_ble_eq_true rfl) dX2_grown_45 ⟨(Nat.le_of_ble_eq_true rfl), (Nat.le_of_ble_eq_true rfl)⟩ ?_
                refine lv_lor hx hb dX2_grown_48 ?_
                refine lv_lstore_n (lv' := [(3, .long (b ||| (jshl 771 (16 * y + 2 * x)))), (6, .int (nI x)), (5, .int (nI y)), (0, .long v), (2, .int (nI q))]) hx hb dX2_grown_49 rfl hl (by decide) rfl (fun ls hl => ?_)
                refine lv_iinc (v := (nI (x + 1))) (lv' := [(6, .int (nI (x + 1))), (3, .long (b ||| (jshl 771 (16 * y + 2 * x)))), (5, .int (nI y)), (0, .long v), (2, .int (nI q))]) hx hb dX2_grown_50 hl (k := 1) rfl (nI_1 x) (by decide) rfl (fun ls hl => ?_)
                refine lv_goto (tgt := 14) hx hb dX2_grown_53 (by decide) ?_
                exact ih_14 (x + 1) (b ||| (jshl 771 (16 * y + 2 * x))) (by omega) (by rw [h_b, it_s]; simp [gxF, c_1, c_2, c_3]) (by omega) ls (lv_sub hl [0, 2, 1, 3, 4] rfl)
        exact lp_14 5 0 a (by omega) (rfl) (by omega) ls (lv_sub hl [0, 1, 2, 3, 4] rfl)
  exact lp_5 5 0 0 (by omega) (rfl) (by omega) ls (lv_sub hl [0, 1, 2, 3] rfl)
set_option maxHeartbeats 4000000 in
set_option maxRecDepth 100000 in
theorem c_X2_byWay (l : Launch) (g : GG) (H : Heap) (v : Int64) (w : Nat) (hw8 : w < 8) : Met l yX2_byWay (Cond.code yX2_byWay cX2_byWay 6 (some .long) :: wsL_law) ({ frames := 2, cells := 0, slots := 0, locals := 46 }) (PR g [.long v, .int (nI w)] H) (QRl (bwS v w) H) 0 0 NoA := by
  refine Met.R (by decide) (Nat.le_of_ble_eq_true rfl) rfl ?_
  intro p e s m below meth c hx hb hr hml hw hown hlocks hkn hH ls hl
  subst hH
  have hl : lv_has ls 6 [(0, .long v), (2, .int (nI w))] := hl
  have hS : va_S NoA s.heap s.heap [] := va_S.rf
  refine lv_iload_n hx hb dX2_byWay_0 rfl (lv_at hl 1 rfl) ?_
  refine lv_iconst (v := 4) hx hb dX2_byWay_1 (by decide) ?_
  have mg_13 : W p l e ({ frames := 2, cells := 0, slots := 0, locals := 46 } : Room) s m ([.long v, .int (nI w)] : List Value).toArray below meth c s.heap [] 0 0 (MQ below (QRl (bwS v w) s.heap) ([.long v, .int (nI w)] : List Value).toArray s 0 0 NoA) (F0 m 13 ls (.long (if 4 ≤ w then (flS v) else v) :: [])) := by
    refine lv_lstore_n (lv' := [(3, .long (if 4 ≤ w then (flS v) else v)), (0, .long v), (2, .int (nI w))]) hx hb dX2_byWay_13 rfl hl (by decide) rfl (fun ls hl => ?_)
    refine lv_iconst (v := 0) hx hb dX2_byWay_14 (by decide) ?_
    refine lv_istore (lv' := [(5, .int 0), (3, .long (if 4 ≤ w then (flS v) else v)), (0, .long v), (2, .int (nI w))]) hx hb dX2_byWay_15 hl (by decide) rfl (fun ls hl => ?_)
    have lp_17 : ∀ (n_17 : Nat) (i : Nat) (a : Int64), (i ≤ w % 4) → (a = it (fun _ a => tuS a) i (if 4 ≤ w then flS v else v)) → w % 4 < i + n_17 → ∀ (ls : Array Slot), lv_has ls 6 [(5, .int (nI i)), (3, .long a), (0, .long v), (2, .int (nI w))] → W p l e ({ frames := 2, cells := 0, slots := 0, locals := 46 } : Room) s m ([.long v, .int (nI w)] : List Value).toArray below meth c s.heap [] 0 0 (MQ below (QRl (bwS v w) s.heap) ([.long v, .int (nI w)] : List Value).toArray s 0 0 NoA) (F0 m 17 ls []) := by
      intro n_17
      induction n_17 with
      | zero => intro i a h_i h_a hfu_17; exact absurd hfu_17 (by omega)
      | succ n_17 ih_17 =>
        intro i a h_i h_a hfu_17 ls hl
        refine lv_iload hx hb dX2_byWay_17 (lv_at hl 0 rfl) ?_
        refine lv_iload_n hx hb dX2_byWay_19 rfl (lv_at hl 3 rfl) ?_
        refine lv_iconst (v := 4) hx hb dX2_byWay_20 (by decide) ?_
        refine lv_irem hx hb dX2_byWay_21 (by decide) ?_
        refine lv_eqi (pk_rem (a := w) (d := 4) (by omega) (by omega) (by omega)) ?_
        refine ic_ge (a := i) (d := w % 4) (tgt := 36) hx hb dX2_byWay_22 (by decide) rfl rfl (by omega) (by omega) (fun c_1 => ?_) (fun c_1 => ?_)
        · skip
          refine lv_lload_n hx hb dX2_byWay_36 rfl (lv_at hl 1 rfl) ?_
          exact eR_l hx hb hr hlocks (by rw [h_a, show i = w % 4 by omega]; rfl) dX2_byWay_37
        · skip
          refine lv_lload_n hx hb dX2_byWay_25 rfl (lv_at hl 1 rfl) ?_
          refine cS_l (As := [.long a]) (rest := []) hx hb hml hown hw hkn hS hl (c_X2_turned l g _ a ) sf_X2_turned mw_528 ⟨(Nat.le_of_ble_eq_true rfl), (Nat.le_of_ble_eq_true rfl)⟩ rfl rfl rfl rfl (Nat.le_of_ble_eq_true rfl) dX2_byWay_26 ⟨(Nat.le_of_ble_eq_true rfl), (Nat.le_of_ble_eq_true rfl)⟩ ?_
          refine lv_lstore_n (lv' := [(3, .long (tuS a)), (5, .int (nI i)), (0, .long v), (2, .int (nI w))]) hx hb dX2_byWay_29 rfl hl (by decide) rfl (fun ls hl => ?_)
          refine lv_iinc (v := (nI (i + 1))) (lv' := [(5, .int (nI (i + 1))), (3, .long (tuS a)), (0, .long v), (2, .int (nI w))]) hx hb dX2_byWay_30 hl (k := 1) rfl (nI_1 i) (by decide) rfl (fun ls hl => ?_)
          refine lv_goto (tgt := 17) hx hb dX2_byWay_33 (by decide) ?_
          exact ih_17 (i + 1) (tuS a) (by omega) (by rw [h_a]; rfl) (by omega) ls (lv_sub hl [0, 1, 2, 3] rfl)
    exact lp_17 (w % 4 + 1) 0 (if 4 ≤ w then (flS v) else v) (by omega) (rfl) (by omega) ls (lv_sub hl [0, 1, 2, 3] rfl)
  refine ic_ge (a := w) (d := 4) (tgt := 9) hx hb dX2_byWay_2 (by decide) rfl rfl (by omega) (by omega) (fun c_2 => ?_) (fun c_2 => ?_)
  · skip
    refine lv_lload_n hx hb dX2_byWay_9 rfl (lv_at hl 0 rfl) ?_
    refine cS_l (As := [.long v]) (rest := []) hx hb hml hown hw hkn hS hl (c_X2_flipped l g _ v ) sf_X2_flipped mw_527 ⟨(Nat.le_of_ble_eq_true rfl), (Nat.le_of_ble_eq_true rfl)⟩ rfl rfl rfl rfl (Nat.le_of_ble_eq_true rfl) dX2_byWay_10 ⟨(Nat.le_of_ble_eq_true rfl), (Nat.le_of_ble_eq_true rfl)⟩ ?_
    exact lv_eql (by rw [if_pos c_2]) mg_13
  · skip
    refine lv_lload_n hx hb dX2_byWay_5 rfl (lv_at hl 0 rfl) ?_
    refine lv_goto (tgt := 13) hx hb dX2_byWay_6 (by decide) ?_
    exact lv_eql (by rw [if_neg (Nat.not_le.mpr c_2)]) mg_13
set_option maxHeartbeats 4000000 in
set_option maxRecDepth 100000 in
theorem c_X2_unlike (l : Launch) (g : GG) (H : Heap) (a : Int64) (b : Int64) (w : Nat) (hw8 : w < 8) : Met l yX2_unlike (Cond.code yX2_unlike cX2_unlike 5 (some .int) :: wsL_law) ({ frames := 3, cells := 0, slots := 0, locals := 71 }) (PR g [.long a, .long b, .int (nI w)] H) (QRi (nI (unS a b w)) H) 0 0 NoA := by
  refine Met.R (by decide) (Nat.le_of_ble_eq_true rfl) rfl ?_
  intro p e s m below meth c hx hb hr hml hw hown hlocks hkn hH ls hl
  subst hH
  have hl : lv_has ls 5 [(0, .long a), (2, .long b), (4, .int (nI w))] := hl
  have hS : va_S NoA s.heap s.heap [] := va_S.rf
  refine lv_lload_n hx hb dX2_unlike_0 rfl (lv_at hl 0 rfl) ?_
  refine lv_iload hx hb dX2_unlike_1 (lv_at hl 2 rfl) ?_
  refine cS_l (As := [.long a, .int (nI w)]) (rest := []) hx hb hml hown hw hkn hS hl (c_X2_byWay l g _ a w (by omega)) sf_X2_byWay mw_524 ⟨(Nat.le_of_ble_eq_true rfl), (Nat.le_of_ble_eq_true rfl)⟩ rfl rfl rfl rfl (Nat.le_of_ble_eq_true rfl) dX2_unlike_3 ⟨(Nat.le_of_ble_eq_true rfl), (Nat.le_of_ble_eq_true rfl)⟩ ?_
  refine lv_lload_n hx hb dX2_unlike_6 rfl (lv_at hl 1 rfl) ?_
  refine lv_lxor hx hb dX2_unlike_7 ?_
  refine cS_i (As := [.long ((bwS a w) ^^^ b)]) (rest := []) hx hb hml hown hw hkn hS hl (c_J13_bitCount l g _ ((bwS a w) ^^^ b) ) sf_J13_bitCount_95d88 mw_353 ⟨(Nat.le_of_ble_eq_true rfl), (Nat.le_of_ble_eq_true rfl)⟩ rfl rfl rfl rfl (Nat.le_of_ble_eq_true rfl) dX2_unlike_8 ⟨(Nat.le_of_ble_eq_true rfl), (Nat.le_of_ble_eq_true rfl)⟩ ?_
  exact eR_i hx hb hr hlocks (rfl) dX2_unlike_11
set_option maxHeartbeats 4000000 in
set_option maxRecDepth 100000 in
theorem c_X2_waysAlike (l : Launch) (g : GG) (H : Heap) (a : Int64) (b : Int64)  : Met l yX2_waysAlike (Cond.code yX2_waysAlike cX2_waysAlike 6 (some .int) :: wsL_law) ({ frames := 4, cells := 0, slots := 0, locals := 95 }) (PR g [.long a, .long b] H) (QRi (waS a b) H) 0 0 NoA := by
  refine Met.R (by decide) (Nat.le_of_ble_eq_true rfl) rfl ?_
  intro p e s m below meth c hx hb hr hml hw hown hlocks hkn hH ls hl
  subst hH
  have hl : lv_has ls 6 [(0, .long a), (2, .long b)] := hl
  have hS : va_S NoA s.heap s.heap [] := va_S.rf
  refine lv_iconst (v := 0) hx hb dX2_waysAlike_0 (by decide) ?_
  refine lv_istore (lv' := [(4, .int 0), (0, .long a), (2, .long b)]) hx hb dX2_waysAlike_1 hl (by decide) rfl (fun ls hl => ?_)
  refine lv_iconst (v := 0) hx hb dX2_waysAlike_3 (by decide) ?_
  refine lv_istore (lv' := [(5, .int 0), (4, .int 0), (0, .long a), (2, .long b)]) hx hb dX2_waysAlike_4 hl (by decide) rfl (fun ls hl => ?_)
  have lp_6 : ∀ (n_6 : Nat) (i : Nat) (x : Int32), (i ≤ 8) → (x = it (waF a b) i 0) → 8 < i + n_6 → ∀ (ls : Array Slot), lv_has ls 6 [(5, .int (nI i)), (4, .int x), (0, .long a), (2, .long b)] → W p l e ({ frames := 4, cells := 0, slots := 0, locals := 95 } : Room) s m ([.long a, .long b] : List Value).toArray below meth c s.heap [] 0 0 (MQ below (QRi (waS a b) s.heap) ([.long a, .long b] : List Value).toArray s 0 0 NoA) (F0 m 6 ls []) := by
    intro n_6
    induction n_6 with
    | zero => intro i x h_i h_x hfu_6; exact absurd hfu_6 (by omega)
    | succ n_6 ih_6 =>
      intro i x h_i h_x hfu_6 ls hl
      have hun := pcn_le (bwS a i ^^^ b)
      have hun : unS a b i ≤ 64 := hun
      refine lv_iload hx hb dX2_waysAlike_6 (lv_at hl 0 rfl) ?_
      refine lv_bipush (v := 8) hx hb dX2_waysAlike_8 (by decide) ?_
      refine ic_ge (a := i) (d := 8) (tgt := 38) hx hb dX2_waysAlike_10 (by decide) rfl rfl (by omega) (by omega) (fun c_1 => ?_) (fun c_1 => ?_)
      · skip
        refine lv_iload hx hb dX2_waysAlike_38 (lv_at hl 1 rfl) ?_
        exact eR_i hx hb hr hlocks (by rw [h_x, show i = 8 by omega]; rfl) dX2_waysAlike_40
      · skip
        refine lv_lload_n hx hb dX2_waysAlike_13 rfl (lv_at hl 2 rfl) ?_
        refine lv_lload_n hx hb dX2_waysAlike_14 rfl (lv_at hl 3 rfl) ?_
        refine lv_iload hx hb dX2_waysAlike_15 (lv_at hl 0 rfl) ?_
        refine cS_i (As := [.long a, .long b, .int (nI i)]) (rest := []) hx hb hml hown hw hkn hS hl (c_X2_unlike l g _ a b i (by omega)) sf_X2_unlike mw_521 ⟨(Nat.le_of_ble_eq_true rfl), (Nat.le_of_ble_eq_true rfl)⟩ rfl rfl rfl rfl (Nat.le_of_ble_eq_true rfl) dX2_waysAlike_17 ⟨(Nat.le_of_ble_eq_true rfl), (Nat.le_of_ble_eq_true rfl)⟩ ?_
        refine iz_ne (a := unS a b i) (tgt := 32) hx hb dX2_waysAlike_20 (by decide) rfl (by omega) (fun c_2 => ?_) (fun c_2 => ?_)
        · skip
          refine lv_iinc (v := (nI (i + 1))) (lv' := [(5, .int (nI (i + 1))), (4, .int x), (0, .long a), (2, .long b)]) hx hb dX2_waysAlike_32 hl (k := 0) rfl (nI_1 i) (by decide) rfl (fun ls hl => ?_)
          refine lv_goto (tgt := 6) hx hb dX2_waysAlike_35 (by decide) ?_
          exact ih_6 (i + 1) x (by omega) (by rw [h_x, it_s]; simp [waF]; omega) (by omega) ls (lv_sub hl [0, 1, 2, 3] rfl)
        · skip
          refine lv_iload hx hb dX2_waysAlike_23 (lv_at hl 1 rfl) ?_
          refine lv_iconst (v := 1) hx hb dX2_waysAlike_25 (by decide) ?_
          refine lv_iload hx hb dX2_waysAlike_26 (lv_at hl 0 rfl) ?_
          refine lv_ishl hx hb dX2_waysAlike_28 ?_
          refine lv_ior hx hb dX2_waysAlike_29 ?_
          refine lv_istore (lv' := [(4, .int (x ||| ((1 : Int32) <<< ((nI i) &&& 31)))), (5, .int (nI i)), (0, .long a), (2, .long b)]) hx hb dX2_waysAlike_30 hl (by decide) rfl (fun ls hl => ?_)
          refine lv_iinc (v := (nI (i + 1))) (lv' := [(5, .int (nI (i + 1))), (4, .int (x ||| ((1 : Int32) <<< ((nI i) &&& 31)))), (0, .long a), (2, .long b)]) hx hb dX2_waysAlike_32 hl (k := 1) rfl (nI_1 i) (by decide) rfl (fun ls hl => ?_)
          refine lv_goto (tgt := 6) hx hb dX2_waysAlike_35 (by decide) ?_
          exact ih_6 (i + 1) (x ||| ((1 : Int32) <<< ((nI i) &&& 31))) (by omega) (by rw [h_x, it_s]; simp [waF]; omega) (by omega) ls (lv_sub hl [0, 1, 2, 3] rfl)
  exact lp_6 9 0 0 (by omega) (rfl) (by omega) ls (lv_sub hl [0, 1, 2, 3] rfl)
set_option maxHeartbeats 4000000 in
set_option maxRecDepth 100000 in
theorem c_X2_nearestWay (l : Launch) (g : GG) (H : Heap) (a : Int64) (b : Int64)  : Met l yX2_nearestWay (Cond.code yX2_nearestWay cX2_nearestWay 8 (some .int) :: wsL_law) ({ frames := 4, cells := 0, slots := 0, locals := 95 }) (PR g [.long a, .long b] H) (QRi (nI (nwS a b 7).1) H) 0 0 NoA := by
  refine Met.R (by decide) (Nat.le_of_ble_eq_true rfl) rfl ?_
  intro p e s m below meth c hx hb hr hml hw hown hlocks hkn hH ls hl
  subst hH
  have hl : lv_has ls 8 [(0, .long a), (2, .long b)] := hl
  have hS : va_S NoA s.heap s.heap [] := va_S.rf
  refine lv_iconst (v := 0) hx hb dX2_nearestWay_0 (by decide) ?_
  refine lv_istore (lv' := [(4, .int 0), (0, .long a), (2, .long b)]) hx hb dX2_nearestWay_1 hl (by decide) rfl (fun ls hl => ?_)
  refine lv_lload_n hx hb dX2_nearestWay_3 rfl (lv_at hl 1 rfl) ?_
  refine lv_lload_n hx hb dX2_nearestWay_4 rfl (lv_at hl 2 rfl) ?_
  refine lv_iconst (v := 0) hx hb dX2_nearestWay_5 (by decide) ?_
  refine cS_i (As := [.long a, .long b, .int 0]) (rest := []) hx hb hml hown hw hkn hS hl (c_X2_unlike l g _ a b 0 (by omega)) sf_X2_unlike mw_521 ⟨(Nat.le_of_ble_eq_true rfl), (Nat.le_of_ble_eq_true rfl)⟩ rfl rfl rfl rfl (Nat.le_of_ble_eq_true rfl) dX2_nearestWay_6 ⟨(Nat.le_of_ble_eq_true rfl), (Nat.le_of_ble_eq_true rfl)⟩ ?_
  refine lv_istore (lv' := [(5, .int (nI (unS a b 0))), (4, .int 0), (0, .long a), (2, .long b)]) hx hb dX2_nearestWay_9 hl (by decide) rfl (fun ls hl => ?_)
  refine lv_iconst (v := 1) hx hb dX2_nearestWay_11 (by decide) ?_
  refine lv_istore (lv' := [(6, .int 1), (5, .int (nI (unS a b 0))), (4, .int 0), (0, .long a), (2, .long b)]) hx hb dX2_nearestWay_12 hl (by decide) rfl (fun ls hl => ?_)
  have lp_14 : ∀ (n_14 : Nat) (i : Nat) (ne : Nat) (fe : Nat), (i ≤ 8) → (1 ≤ i) → ((ne, fe) = nwS a b (i - 1)) → 8 < i + n_14 → ∀ (ls : Array Slot), lv_has ls 8 [(6, .int (nI i)), (5, .int (nI fe)), (4, .int (nI ne)), (0, .long a), (2, .long b)] → W p l e ({ frames := 4, cells := 0, slots := 0, locals := 95 } : Room) s m ([.long a, .long b] : List Value).toArray below meth c s.heap [] 0 0 (MQ below (QRi (nI (nwS a b 7).1) s.heap) ([.long a, .long b] : List Value).toArray s 0 0 NoA) (F0 m 14 ls []) := by
    intro n_14
    induction n_14 with
    | zero => intro i ne fe h_i hi1 h_s hfu_14; exact absurd hfu_14 (by omega)
    | succ n_14 ih_14 =>
      intro i ne fe h_i hi1 h_s hfu_14 ls hl
      have hfe : fe ≤ 64 := by have h9 := (nwS_le a b (i - 1)).2; rw [← h_s] at h9; exact h9
      have hun : unS a b i ≤ 64 := pcn_le _
      have hst : nwS a b (i + 1 - 1) = if unS a b i < fe then (i, unS a b i) else (ne, fe) := by obtain ⟨k, rfl⟩ : ∃ k, i = k + 1 := ⟨i - 1, by omega⟩; show nwS a b (k + 1) = _; rw [nwS, show k = k + 1 - 1 by omega, ← h_s]
      refine lv_iload hx hb dX2_nearestWay_14 (lv_at hl 0 rfl) ?_
      refine lv_bipush (v := 8) hx hb dX2_nearestWay_16 (by decide) ?_
      refine ic_ge (a := i) (d := 8) (tgt := 51) hx hb dX2_nearestWay_18 (by decide) rfl rfl (by omega) (by omega) (fun c_1 => ?_) (fun c_1 => ?_)
      · skip
        refine lv_iload hx hb dX2_nearestWay_51 (lv_at hl 2 rfl) ?_
        exact eR_i hx hb hr hlocks (by have h9 := congrArg Prod.fst h_s; rw [show i - 1 = 7 by omega] at h9; exact congrArg nI h9) dX2_nearestWay_53
      · skip
        refine lv_lload_n hx hb dX2_nearestWay_21 rfl (lv_at hl 3 rfl) ?_
        refine lv_lload_n hx hb dX2_nearestWay_22 rfl (lv_at hl 4 rfl) ?_
        refine lv_iload hx hb dX2_nearestWay_23 (lv_at hl 0 rfl) ?_
        refine cS_i (As := [.long a, .long b, .int (nI i)]) (rest := []) hx hb hml hown hw hkn hS hl (c_X2_unlike l g _ a b i (by omega)) sf_X2_unlike mw_521 ⟨(Nat.le_of_ble_eq_true rfl), (Nat.le_of_ble_eq_true rfl)⟩ rfl rfl rfl rfl (Nat.le_of_ble_eq_true rfl) dX2_nearestWay_25 ⟨(Nat.le_of_ble_eq_true rfl), (Nat.le_of_ble_eq_true rfl)⟩ ?_
        refine lv_istore (lv' := [(7, .int (nI (unS a b i))), (6, .int (nI i)), (5, .int (nI fe)), (4, .int (nI ne)), (0, .long a), (2, .long b)]) hx hb dX2_nearestWay_28 hl (by decide) rfl (fun ls hl => ?_)
        refine lv_iload hx hb dX2_nearestWay_30 (lv_at hl 0 rfl) ?_
        refine lv_iload hx hb dX2_nearestWay_32 (lv_at hl 2 rfl) ?_
        refine ic_ge (a := unS a b i) (d := fe) (tgt := 45) hx hb dX2_nearestWay_34 (by decide) rfl rfl (by omega) (by omega) (fun c_2 => ?_) (fun c_2 => ?_)
        · skip
          refine lv_iinc (v := (nI (i + 1))) (lv' := [(6, .int (nI (i + 1))), (7, .int (nI (unS a b i))), (5, .int (nI fe)), (4, .int (nI ne)), (0, .long a), (2, .long b)]) hx hb dX2_nearestWay_45 hl (k := 1) rfl (nI_1 i) (by decide) rfl (fun ls hl => ?_)
          refine lv_goto (tgt := 14) hx hb dX2_nearestWay_48 (by decide) ?_
          exact ih_14 (i + 1) ne fe (by omega) (by omega) (by rw [hst]; simp; omega) (by omega) ls (lv_sub hl [0, 2, 3, 4, 5] rfl)
        · skip
          refine lv_iload hx hb dX2_nearestWay_37 (lv_at hl 0 rfl) ?_
          refine lv_istore (lv' := [(5, .int (nI (unS a b i))), (7, .int (nI (unS a b i))), (6, .int (nI i)), (4, .int (nI ne)), (0, .long a), (2, .long b)]) hx hb dX2_nearestWay_39 hl (by decide) rfl (fun ls hl => ?_)
          refine lv_iload hx hb dX2_nearestWay_41 (lv_at hl 2 rfl) ?_
          refine lv_istore (lv' := [(4, .int (nI i)), (5, .int (nI (unS a b i))), (7, .int (nI (unS a b i))), (6, .int (nI i)), (0, .long a), (2, .long b)]) hx hb dX2_nearestWay_43 hl (by decide) rfl (fun ls hl => ?_)
          refine lv_iinc (v := (nI (i + 1))) (lv' := [(6, .int (nI (i + 1))), (4, .int (nI i)), (5, .int (nI (unS a b i))), (7, .int (nI (unS a b i))), (0, .long a), (2, .long b)]) hx hb dX2_nearestWay_45 hl (k := 3) rfl (nI_1 i) (by decide) rfl (fun ls hl => ?_)
          refine lv_goto (tgt := 14) hx hb dX2_nearestWay_48 (by decide) ?_
          exact ih_14 (i + 1) i (unS a b i) (by omega) (by omega) (by rw [hst]; simp; omega) (by omega) ls (lv_sub hl [0, 2, 1, 4, 5] rfl)
  exact lp_14 8 1 0 (unS a b 0) (by omega) (by omega) (rfl) (by omega) ls (lv_sub hl [0, 1, 2, 3, 4] rfl)
set_option maxHeartbeats 4000000 in
set_option maxRecDepth 100000 in
theorem c_X2_depthAt (l : Launch) (g : GG) (H : Heap) (v : Int64) (k : Nat) (hk : k < 64) : Met l yX2_depthAt (Cond.code yX2_depthAt cX2_depthAt 4 (some .int) :: wsL_law) ({ frames := 1, cells := 0, slots := 0, locals := 25 }) (PR g [.long v, .int (nI k)] H) (QRi (nI (depS v k)) H) 0 0 NoA := by
  refine Met.R (by decide) (Nat.le_of_ble_eq_true rfl) rfl ?_
  intro p e s m below meth c hx hb hr hml hw hown hlocks hkn hH ls hl
  subst hH
  have hl : lv_has ls 4 [(0, .long v), (2, .int (nI k))] := hl
  have hS : va_S NoA s.heap s.heap [] := va_S.rf
  refine lv_iconst (v := 0) hx hb dX2_depthAt_0 (by decide) ?_
  refine lv_istore_n (lv' := [(3, .int 0), (0, .long v), (2, .int (nI k))]) hx hb dX2_depthAt_1 rfl hl (by decide) rfl (fun ls hl => ?_)
  have lp_2 : ∀ (n_2 : Nat) (d : Nat), (d ≤ 3) → (∀ j, j < d → signS v (sqS k j) = 113) → 3 < d + n_2 → ∀ (ls : Array Slot), lv_has ls 4 [(3, .int (nI d)), (0, .long v), (2, .int (nI k))] → W p l e ({ frames := 1, cells := 0, slots := 0, locals := 25 } : Room) s m ([.long v, .int (nI k)] : List Value).toArray below meth c s.heap [] 0 0 (MQ below (QRi (nI (depS v k)) s.heap) ([.long v, .int (nI k)] : List Value).toArray s 0 0 NoA) (F0 m 2 ls []) := by
    intro n_2
    induction n_2 with
    | zero => intro d h_d h_q hfu_2; exact absurd hfu_2 (by omega)
    | succ n_2 ih_2 =>
      intro d h_d h_q hfu_2 ls hl
      refine lv_iload_n hx hb dX2_depthAt_2 rfl (lv_at hl 0 rfl) ?_
      refine lv_iconst (v := 3) hx hb dX2_depthAt_3 (by decide) ?_
      refine ic_ge (a := d) (d := 3) (tgt := 27) hx hb dX2_depthAt_4 (by decide) rfl rfl (by omega) (by omega) (fun c_1 => ?_) (fun c_1 => ?_)
      · skip
        refine lv_iload_n hx hb dX2_depthAt_27 rfl (lv_at hl 0 rfl) ?_
        exact eR_i hx hb hr hlocks (congrArg nI (depS_of h_d h_q (Or.inl (by omega))).symm) dX2_depthAt_28
      · skip
        refine lv_lload_n hx hb dX2_depthAt_7 rfl (lv_at hl 1 rfl) ?_
        refine lv_iload_n hx hb dX2_depthAt_8 rfl (lv_at hl 2 rfl) ?_
        refine lv_iload_n hx hb dX2_depthAt_9 rfl (lv_at hl 0 rfl) ?_
        refine cS_l (As := [.int (nI k), .int (nI d)]) (rest := [.long v]) hx hb hml hown hw hkn hS hl (c_X2_squareOf l g _ k d (by omega) (by omega)) sf_X2_squareOf mw_451 ⟨(Nat.le_of_ble_eq_true rfl), (Nat.le_of_ble_eq_true rfl)⟩ rfl rfl rfl rfl (Nat.le_of_ble_eq_true rfl) dX2_depthAt_10 ⟨(Nat.le_of_ble_eq_true rfl), (Nat.le_of_ble_eq_true rfl)⟩ ?_
        refine cS_i (As := [.long v, .long (sqS k d)]) (rest := []) hx hb hml hown hw hkn hS hl (c_X2_sign l g _ v (sqS k d) ) sf_X2_sign mw_506 ⟨(Nat.le_of_ble_eq_true rfl), (Nat.le_of_ble_eq_true rfl)⟩ rfl rfl rfl rfl (Nat.le_of_ble_eq_true rfl) dX2_depthAt_13 ⟨(Nat.le_of_ble_eq_true rfl), (Nat.le_of_ble_eq_true rfl)⟩ ?_
        refine lv_bipush (v := 113) hx hb dX2_depthAt_16 (by decide) ?_
        refine lv_icmp_ne (tgt := 27) hx hb dX2_depthAt_18 (by decide) (fun c_2 => ?_) (fun c_2 => ?_)
        · skip
          refine lv_iload_n hx hb dX2_depthAt_27 rfl (lv_at hl 0 rfl) ?_
          exact eR_i hx hb hr hlocks (congrArg nI (depS_of h_d h_q (Or.inr c_2)).symm) dX2_depthAt_28
        · skip
          refine lv_iinc (v := (nI (d + 1))) (lv' := [(3, .int (nI (d + 1))), (0, .long v), (2, .int (nI k))]) hx hb dX2_depthAt_21 hl (k := 0) rfl (nI_1 d) (by decide) rfl (fun ls hl => ?_)
          refine lv_goto (tgt := 2) hx hb dX2_depthAt_24 (by decide) ?_
          exact ih_2 (d + 1) (by omega) (lt_s h_q c_2) (by omega) ls (lv_sub hl [0, 1, 2] rfl)
  exact lp_2 4 0 (by omega) (fun _ h => absurd h (Nat.not_lt_zero _)) (by omega) ls (lv_sub hl [0, 1, 2] rfl)
set_option maxHeartbeats 4000000 in
set_option maxRecDepth 100000 in
theorem c_X2_partOf (l : Launch) (g : GG) (H : Heap) (c0 : Int64) (p0 : Int64)  : Met l yX2_partOf (Cond.code yX2_partOf cX2_partOf 9 (some .long) :: wsL_law) ({ frames := 1, cells := 0, slots := 0, locals := 21 }) (PR g [.long c0, .long p0] H) (QRl (poS c0 p0) H) 0 0 NoA := by
  refine Met.R (by decide) (Nat.le_of_ble_eq_true rfl) rfl ?_
  intro p e s m below meth c hx hb hr hml hw hown hlocks hkn hH ls hl
  subst hH
  have hl : lv_has ls 9 [(0, .long c0), (2, .long p0)] := hl
  have hS : va_S NoA s.heap s.heap [] := va_S.rf
  refine lv_lload_n hx hb dX2_partOf_0 rfl (lv_at hl 1 rfl) ?_
  refine lv_lstore (lv' := [(4, .long p0), (0, .long c0), (2, .long p0)]) hx hb dX2_partOf_1 hl (by decide) rfl (fun ls hl => ?_)
  refine lv_iconst (v := 0) hx hb dX2_partOf_3 (by decide) ?_
  refine lv_istore (lv' := [(6, .int 0), (4, .long p0), (0, .long c0), (2, .long p0)]) hx hb dX2_partOf_4 hl (by decide) rfl (fun ls hl => ?_)
  have lp_6 : ∀ (n_6 : Nat) (i : Nat) (a : Int64), (i ≤ 64) → (poG c0 (64 - i) a = poG c0 64 p0) → 64 < i + n_6 → ∀ (ls : Array Slot), lv_has ls 9 [(6, .int (nI i)), (4, .long a), (0, .long c0)] → W p l e ({ frames := 1, cells := 0, slots := 0, locals := 21 } : Room) s m ([.long c0, .long p0] : List Value).toArray below meth c s.heap [] 0 0 (MQ below (QRl (poS c0 p0) s.heap) ([.long c0, .long p0] : List Value).toArray s 0 0 NoA) (F0 m 6 ls []) := by
    intro n_6
    induction n_6 with
    | zero => intro i a h_i h_a hfu_6; exact absurd hfu_6 (by omega)
    | succ n_6 ih_6 =>
      intro i a h_i h_a hfu_6 ls hl
      have hst : ∀ k, 64 - i = k + 1 → poG c0 64 p0 = if ngS c0 a = a then a else poG c0 k (ngS c0 a) := fun k hk => by rw [← h_a, hk]; rfl
      refine lv_iload hx hb dX2_partOf_6 (lv_at hl 0 rfl) ?_
      refine lv_bipush (v := 64) hx hb dX2_partOf_8 (by decide) ?_
      refine ic_ge (a := i) (d := 64) (tgt := 64) hx hb dX2_partOf_10 (by decide) rfl rfl (by omega) (by omega) (fun c_1 => ?_) (fun c_1 => ?_)
      · skip
        refine lv_lload hx hb dX2_partOf_64 (lv_at hl 1 rfl) ?_
        exact eR_l hx hb hr hlocks (by rw [show 64 - i = 0 by omega] at h_a; exact h_a) dX2_partOf_66
      · skip
        refine lv_lload_n hx hb dX2_partOf_13 rfl (lv_at hl 2 rfl) ?_
        refine lv_lload hx hb dX2_partOf_14 (lv_at hl 1 rfl) ?_
        refine lv_lload hx hb dX2_partOf_16 (lv_at hl 1 rfl) ?_
        refine cS_l (As := [.long a]) (rest := [.long a, .long c0]) hx hb hml hown hw hkn hS hl (c_X2_leftOf l g _ a ) sf_X2_leftOf mw_437 ⟨(Nat.le_of_ble_eq_true rfl), (Nat.le_of_ble_eq_true rfl)⟩ rfl rfl rfl rfl (Nat.le_of_ble_eq_true rfl) dX2_partOf_18 ⟨(Nat.le_of_ble_eq_true rfl), (Nat.le_of_ble_eq_true rfl)⟩ ?_
        refine lv_lor hx hb dX2_partOf_21 ?_
        refine lv_lload hx hb dX2_partOf_22 (lv_at hl 1 rfl) ?_
        refine cS_l (As := [.long a]) (rest := [.long (a ||| (leS a)), .long c0]) hx hb hml hown hw hkn hS hl (c_X2_rightOf l g _ a ) sf_X2_rightOf mw_441 ⟨(Nat.le_of_ble_eq_true rfl), (Nat.le_of_ble_eq_true rfl)⟩ rfl rfl rfl rfl (Nat.le_of_ble_eq_true rfl) dX2_partOf_24 ⟨(Nat.le_of_ble_eq_true rfl), (Nat.le_of_ble_eq_true rfl)⟩ ?_
        refine lv_lor hx hb dX2_partOf_27 ?_
        refine lv_lload hx hb dX2_partOf_28 (lv_at hl 1 rfl) ?_
        refine lv_bipush (v := 8) hx hb dX2_partOf_30 (by decide) ?_
        refine lv_lushr (v := (jushr a 8)) hx hb dX2_partOf_32 rfl ?_
        refine lv_lor hx hb dX2_partOf_33 ?_
        refine lv_lload hx hb dX2_partOf_34 (lv_at hl 1 rfl) ?_
        refine lv_bipush (v := 8) hx hb dX2_partOf_36 (by decide) ?_
        refine lv_lshl (v := (jshl a 8)) hx hb dX2_partOf_38 rfl ?_
        refine lv_lor hx hb dX2_partOf_39 ?_
        refine lv_land hx hb dX2_partOf_40 ?_
        refine lv_lstore (lv' := [(7, .long (c0 &&& ((((a ||| (leS a)) ||| (riS a)) ||| (jushr a 8)) ||| (jshl a 8)))), (6, .int (nI i)), (4, .long a), (0, .long c0)]) hx hb dX2_partOf_41 hl (by decide) rfl (fun ls hl => ?_)
        refine lv_lload hx hb dX2_partOf_43 (lv_at hl 0 rfl) ?_
        refine lv_lload hx hb dX2_partOf_45 (lv_at hl 2 rfl) ?_
        refine lc_ne (tgt := 54) hx hb dX2_partOf_47 dX2_partOf_48 (by decide) (fun c_2 => ?_) (fun c_2 => ?_)
        · skip
          refine lv_lload hx hb dX2_partOf_54 (lv_at hl 0 rfl) ?_
          refine lv_lstore (lv' := [(4, .long (c0 &&& ((((a ||| (leS a)) ||| (riS a)) ||| (jushr a 8)) ||| (jshl a 8)))), (7, .long (c0 &&& ((((a ||| (leS a)) ||| (riS a)) ||| (jushr a 8)) ||| (jshl a 8)))), (6, .int (nI i)), (0, .long c0)]) hx hb dX2_partOf_56 hl (by decide) rfl (fun ls hl => ?_)
          refine lv_iinc (v := (nI (i + 1))) (lv' := [(6, .int (nI (i + 1))), (4, .long (c0 &&& ((((a ||| (leS a)) ||| (riS a)) ||| (jushr a 8)) ||| (jshl a 8)))), (7, .long (c0 &&& ((((a ||| (leS a)) ||| (riS a)) ||| (jushr a 8)) ||| (jshl a 8)))), (0, .long c0)]) hx hb dX2_partOf_58 hl (k := 2) rfl (nI_1 i) (by decide) rfl (fun ls hl => ?_)
          refine lv_goto (tgt := 6) hx hb dX2_partOf_61 (by decide) ?_
          exact ih_6 (i + 1) (c0 &&& ((((a ||| (leS a)) ||| (riS a)) ||| (jushr a 8)) ||| (jshl a 8))) (by omega) (by rw [hst (64 - (i + 1)) (by omega)]; exact (if_neg c_2).symm) (by omega) ls (lv_sub hl [0, 1, 3] rfl)
        · skip
          refine lv_lload hx hb dX2_partOf_51 (lv_at hl 2 rfl) ?_
          exact eR_l hx hb hr hlocks (by have h9 := hst (64 - (i + 1)) (by omega); rw [if_pos (show ngS c0 a = a from c_2)] at h9; exact h9.symm) dX2_partOf_53
  exact lp_6 65 0 p0 (by omega) (rfl) (by omega) ls (lv_sub hl [0, 1, 2] rfl)
set_option maxHeartbeats 4000000 in
set_option maxRecDepth 100000 in
theorem c_X2_parts (l : Launch) (g : GG) (H : Heap) (v : Int64)  : Met l yX2_parts (Cond.code yX2_parts cX2_parts 5 (some .int) :: wsL_law) ({ frames := 2, cells := 0, slots := 0, locals := 49 }) (PR g [.long v] H) (QRi (nI (paS v)) H) 0 0 NoA := by
  refine Met.R (by decide) (Nat.le_of_ble_eq_true rfl) rfl ?_
  intro p e s m below meth c hx hb hr hml hw hown hlocks hkn hH ls hl
  subst hH
  have hl : lv_has ls 5 [(0, .long v)] := hl
  have hS : va_S NoA s.heap s.heap [] := va_S.rf
  refine lv_lload_n hx hb dX2_parts_0 rfl (lv_at hl 0 rfl) ?_
  refine lv_lstore_n (lv' := [(2, .long v), (0, .long v)]) hx hb dX2_parts_1 rfl hl (by decide) rfl (fun ls hl => ?_)
  refine lv_iconst (v := 0) hx hb dX2_parts_2 (by decide) ?_
  refine lv_istore (lv' := [(4, .int 0), (2, .long v), (0, .long v)]) hx hb dX2_parts_3 hl (by decide) rfl (fun ls hl => ?_)
  have lp_5 : ∀ (n_5 : Nat) (i : Nat) (a : Int64), (i ≤ 64) → (paG (64 - i) a i = paG 64 v 0) → 64 < i + n_5 → ∀ (ls : Array Slot), lv_has ls 5 [(4, .int (nI i)), (2, .long a), (0, .long v)] → W p l e ({ frames := 2, cells := 0, slots := 0, locals := 49 } : Room) s m ([.long v] : List Value).toArray below meth c s.heap [] 0 0 (MQ below (QRi (nI (paS v)) s.heap) ([.long v] : List Value).toArray s 0 0 NoA) (F0 m 5 ls []) := by
    intro n_5
    induction n_5 with
    | zero => intro i a h_i h_a hfu_5; exact absurd hfu_5 (by omega)
    | succ n_5 ih_5 =>
      intro i a h_i h_a hfu_5 ls hl
      have hst : ∀ k, 64 - i = k + 1 → paG 64 v 0 = if a = 0 then i else paG k (a &&& (poS a (a &&& -a) ^^^ (-1))) (i + 1) := fun k hk => by rw [← h_a, hk]; rfl
      refine lv_iload hx hb dX2_parts_5 (lv_at hl 0 rfl) ?_
      refine lv_bipush (v := 64) hx hb dX2_parts_7 (by decide) ?_
      refine ic_ge (a := i) (d := 64) (tgt := 39) hx hb dX2_parts_9 (by decide) rfl rfl (by omega) (by omega) (fun c_1 => ?_) (fun c_1 => ?_)
      · skip
        refine lv_iload hx hb dX2_parts_39 (lv_at hl 0 rfl) ?_
        exact eR_i hx hb hr hlocks (by rw [show 64 - i = 0 by omega] at h_a; exact congrArg nI h_a) dX2_parts_41
      · skip
        refine lv_lload_n hx hb dX2_parts_12 rfl (lv_at hl 1 rfl) ?_
        refine lv_lconst (v := 0) hx hb dX2_parts_13 rfl ?_
        refine lc_eq (tgt := 39) hx hb dX2_parts_14 dX2_parts_15 (by decide) (fun c_2 => ?_) (fun c_2 => ?_)
        · skip
          refine lv_iload hx hb dX2_parts_39 (lv_at hl 0 rfl) ?_
          exact eR_i hx hb hr hlocks (by have h9 := hst (64 - (i + 1)) (by omega); rw [if_pos c_2] at h9; exact congrArg nI h9.symm) dX2_parts_41
        · skip
          refine lv_lload_n hx hb dX2_parts_18 rfl (lv_at hl 1 rfl) ?_
          refine lv_lload_n hx hb dX2_parts_19 rfl (lv_at hl 1 rfl) ?_
          refine lv_lload_n hx hb dX2_parts_20 rfl (lv_at hl 1 rfl) ?_
          refine lv_lload_n hx hb dX2_parts_21 rfl (lv_at hl 1 rfl) ?_
          refine lv_lneg hx hb dX2_parts_22 ?_
          refine lv_land hx hb dX2_parts_23 ?_
          refine cS_l (As := [.long a, .long (a &&& (-a))]) (rest := [.long a]) hx hb hml hown hw hkn hS hl (c_X2_partOf l g _ a (a &&& (-a)) ) sf_X2_partOf mw_434 ⟨(Nat.le_of_ble_eq_true rfl), (Nat.le_of_ble_eq_true rfl)⟩ rfl rfl rfl rfl (Nat.le_of_ble_eq_true rfl) dX2_parts_24 ⟨(Nat.le_of_ble_eq_true rfl), (Nat.le_of_ble_eq_true rfl)⟩ ?_
          refine lv_ldc2 hx hb hown (hw _ mw_159) dX2_parts_27 ?_
          refine lv_lxor hx hb dX2_parts_30 ?_
          refine lv_land hx hb dX2_parts_31 ?_
          refine lv_lstore_n (lv' := [(2, .long (a &&& ((poS a (a &&& (-a))) ^^^ (-1)))), (4, .int (nI i)), (0, .long v)]) hx hb dX2_parts_32 rfl hl (by decide) rfl (fun ls hl => ?_)
          refine lv_iinc (v := (nI (i + 1))) (lv' := [(4, .int (nI (i + 1))), (2, .long (a &&& ((poS a (a &&& (-a))) ^^^ (-1)))), (0, .long v)]) hx hb dX2_parts_33 hl (k := 1) rfl (nI_1 i) (by decide) rfl (fun ls hl => ?_)
          refine lv_goto (tgt := 5) hx hb dX2_parts_36 (by decide) ?_
          exact ih_5 (i + 1) (a &&& ((poS a (a &&& (-a))) ^^^ (-1))) (by omega) (by rw [hst (64 - (i + 1)) (by omega)]; exact (if_neg c_2).symm) (by omega) ls (lv_sub hl [0, 1, 2] rfl)
  exact lp_5 65 0 v (by omega) (rfl) (by omega) ls (lv_sub hl [0, 1, 2] rfl)
set_option maxHeartbeats 4000000 in
set_option maxRecDepth 100000 in
theorem c_X2_rim (l : Launch) (g : GG) (H : Heap) (v : Int64)  : Met l yX2_rim (Cond.code yX2_rim cX2_rim 2 (some .int) :: wsL_law) ({ frames := 1, cells := 0, slots := 0, locals := 21 }) (PR g [.long v] H) (QRi (nI (riN v)) H) 0 0 NoA := by
  refine Met.R (by decide) (Nat.le_of_ble_eq_true rfl) rfl ?_
  intro p e s m below meth c hx hb hr hml hw hown hlocks hkn hH ls hl
  subst hH
  have hl : lv_has ls 2 [(0, .long v)] := hl
  have hS : va_S NoA s.heap s.heap [] := va_S.rf
  refine lv_lload_n hx hb dX2_rim_0 rfl (lv_at hl 0 rfl) ?_
  refine lv_lload_n hx hb dX2_rim_1 rfl (lv_at hl 0 rfl) ?_
  refine cS_l (As := [.long v]) (rest := [.long v]) hx hb hml hown hw hkn hS hl (c_X2_leftOf l g _ v ) sf_X2_leftOf mw_437 ⟨(Nat.le_of_ble_eq_true rfl), (Nat.le_of_ble_eq_true rfl)⟩ rfl rfl rfl rfl (Nat.le_of_ble_eq_true rfl) dX2_rim_2 ⟨(Nat.le_of_ble_eq_true rfl), (Nat.le_of_ble_eq_true rfl)⟩ ?_
  refine lv_ldc2 hx hb hown (hw _ mw_159) dX2_rim_5 ?_
  refine lv_lxor hx hb dX2_rim_8 ?_
  refine lv_land hx hb dX2_rim_9 ?_
  refine cS_i (As := [.long (v &&& ((leS v) ^^^ (-1)))]) (rest := []) hx hb hml hown hw hkn hS hl (c_J13_bitCount l g _ (v &&& ((leS v) ^^^ (-1))) ) sf_J13_bitCount_95d88 mw_353 ⟨(Nat.le_of_ble_eq_true rfl), (Nat.le_of_ble_eq_true rfl)⟩ rfl rfl rfl rfl (Nat.le_of_ble_eq_true rfl) dX2_rim_10 ⟨(Nat.le_of_ble_eq_true rfl), (Nat.le_of_ble_eq_true rfl)⟩ ?_
  refine lv_lload_n hx hb dX2_rim_13 rfl (lv_at hl 0 rfl) ?_
  refine lv_lload_n hx hb dX2_rim_14 rfl (lv_at hl 0 rfl) ?_
  refine cS_l (As := [.long v]) (rest := [.long v, .int (nI (pcn (v &&& ((leS v) ^^^ (-1)))))]) hx hb hml hown hw hkn hS hl (c_X2_rightOf l g _ v ) sf_X2_rightOf mw_441 ⟨(Nat.le_of_ble_eq_true rfl), (Nat.le_of_ble_eq_true rfl)⟩ rfl rfl rfl rfl (Nat.le_of_ble_eq_true rfl) dX2_rim_15 ⟨(Nat.le_of_ble_eq_true rfl), (Nat.le_of_ble_eq_true rfl)⟩ ?_
  refine lv_ldc2 hx hb hown (hw _ mw_159) dX2_rim_18 ?_
  refine lv_lxor hx hb dX2_rim_21 ?_
  refine lv_land hx hb dX2_rim_22 ?_
  refine cS_i (As := [.long (v &&& ((riS v) ^^^ (-1)))]) (rest := [.int (nI (pcn (v &&& ((leS v) ^^^ (-1)))))]) hx hb hml hown hw hkn hS hl (c_J13_bitCount l g _ (v &&& ((riS v) ^^^ (-1))) ) sf_J13_bitCount_95d88 mw_353 ⟨(Nat.le_of_ble_eq_true rfl), (Nat.le_of_ble_eq_true rfl)⟩ rfl rfl rfl rfl (Nat.le_of_ble_eq_true rfl) dX2_rim_23 ⟨(Nat.le_of_ble_eq_true rfl), (Nat.le_of_ble_eq_true rfl)⟩ ?_
  refine lv_iadd hx hb dX2_rim_26 ?_
  refine lv_eqi (nI_add (pcn (v &&& ((leS v) ^^^ (-1)))) (pcn (v &&& ((riS v) ^^^ (-1))))) ?_
  refine lv_lload_n hx hb dX2_rim_27 rfl (lv_at hl 0 rfl) ?_
  refine lv_lload_n hx hb dX2_rim_28 rfl (lv_at hl 0 rfl) ?_
  refine lv_bipush (v := 8) hx hb dX2_rim_29 (by decide) ?_
  refine lv_lushr (v := (jushr v 8)) hx hb dX2_rim_31 rfl ?_
  refine lv_ldc2 hx hb hown (hw _ mw_159) dX2_rim_32 ?_
  refine lv_lxor hx hb dX2_rim_35 ?_
  refine lv_land hx hb dX2_rim_36 ?_
  refine cS_i (As := [.long (v &&& ((jushr v 8) ^^^ (-1)))]) (rest := [.int (nI (pcn (v &&& ((leS v) ^^^ (-1))) + (pcn (v &&& ((riS v) ^^^ (-1))))))]) hx hb hml hown hw hkn hS hl (c_J13_bitCount l g _ (v &&& ((jushr v 8) ^^^ (-1))) ) sf_J13_bitCount_95d88 mw_353 ⟨(Nat.le_of_ble_eq_true rfl), (Nat.le_of_ble_eq_true rfl)⟩ rfl rfl rfl rfl (Nat.le_of_ble_eq_true rfl) dX2_rim_37 ⟨(Nat.le_of_ble_eq_true rfl), (Nat.le_of_ble_eq_true rfl)⟩ ?_
  refine lv_iadd hx hb dX2_rim_40 ?_
  refine lv_eqi (nI_add (pcn (v &&& ((leS v) ^^^ (-1))) + (pcn (v &&& ((riS v) ^^^ (-1))))) (pcn (v &&& ((jushr v 8) ^^^ (-1))))) ?_
  refine lv_lload_n hx hb dX2_rim_41 rfl (lv_at hl 0 rfl) ?_
  refine lv_lload_n hx hb dX2_rim_42 rfl (lv_at hl 0 rfl) ?_
  refine lv_bipush (v := 8) hx hb dX2_rim_43 (by decide) ?_
  refine lv_lshl (v := (jshl v 8)) hx hb dX2_rim_45 rfl ?_
  refine lv_ldc2 hx hb hown (hw _ mw_159) dX2_rim_46 ?_
  refine lv_lxor hx hb dX2_rim_49 ?_
  refine lv_land hx hb dX2_rim_50 ?_
  refine cS_i (As := [.long (v &&& ((jshl v 8) ^^^ (-1)))]) (rest := [.int (nI (pcn (v &&& ((leS v) ^^^ (-1))) + (pcn (v &&& ((riS v) ^^^ (-1)))) + (pcn (v &&& ((jushr v 8) ^^^ (-1))))))]) hx hb hml hown hw hkn hS hl (c_J13_bitCount l g _ (v &&& ((jshl v 8) ^^^ (-1))) ) sf_J13_bitCount_95d88 mw_353 ⟨(Nat.le_of_ble_eq_true rfl), (Nat.le_of_ble_eq_true rfl)⟩ rfl rfl rfl rfl (Nat.le_of_ble_eq_true rfl) dX2_rim_51 ⟨(Nat.le_of_ble_eq_true rfl), (Nat.le_of_ble_eq_true rfl)⟩ ?_
  refine lv_iadd hx hb dX2_rim_54 ?_
  refine lv_eqi (nI_add (pcn (v &&& ((leS v) ^^^ (-1))) + (pcn (v &&& ((riS v) ^^^ (-1)))) + (pcn (v &&& ((jushr v 8) ^^^ (-1))))) (pcn (v &&& ((jshl v 8) ^^^ (-1))))) ?_
  exact eR_i hx hb hr hlocks (rfl) dX2_rim_55
set_option maxHeartbeats 4000000 in
set_option maxRecDepth 100000 in
theorem c_X2_blocks (l : Launch) (g : GG) (H : Heap) (v : Int64)  : Met l yX2_blocks (Cond.code yX2_blocks cX2_blocks 9 (some .int) :: wsL_law) ({ frames := 1, cells := 0, slots := 0, locals := 23 }) (PR g [.long v] H) (QRi (nI (blS v).2) H) 0 0 NoA := by
  refine Met.R (by decide) (Nat.le_of_ble_eq_true rfl) rfl ?_
  intro p e s m below meth c hx hb hr hml hw hown hlocks hkn hH ls hl
  subst hH
  have hl : lv_has ls 9 [(0, .long v)] := hl
  have hS : va_S NoA s.heap s.heap [] := va_S.rf
  refine lv_lload_n hx hb dX2_blocks_0 rfl (lv_at hl 0 rfl) ?_
  refine lv_lstore_n (lv' := [(2, .long v), (0, .long v)]) hx hb dX2_blocks_1 rfl hl (by decide) rfl (fun ls hl => ?_)
  refine lv_iconst (v := 0) hx hb dX2_blocks_2 (by decide) ?_
  refine lv_istore (lv' := [(4, .int 0), (2, .long v), (0, .long v)]) hx hb dX2_blocks_3 hl (by decide) rfl (fun ls hl => ?_)
  refine lv_iconst (v := 0) hx hb dX2_blocks_5 (by decide) ?_
  refine lv_istore (lv' := [(5, .int 0), (4, .int 0), (2, .long v), (0, .long v)]) hx hb dX2_blocks_6 hl (by decide) rfl (fun ls hl => ?_)
  have lp_8 : ∀ (n_8 : Nat) (d : Nat) (a : Int64) (n0 : Nat), (d ≤ 4) → ((a, n0) = it (fun d s => it (blF d) 64 s) d (v, 0)) → 4 < d + n_8 → ∀ (ls : Array Slot), lv_has ls 9 [(5, .int (nI d)), (4, .int (nI n0)), (2, .long a), (0, .long v)] → W p l e ({ frames := 1, cells := 0, slots := 0, locals := 23 } : Room) s m ([.long v] : List Value).toArray below meth c s.heap [] 0 0 (MQ below (QRi (nI (blS v).2) s.heap) ([.long v] : List Value).toArray s 0 0 NoA) (F0 m 8 ls []) := by
    intro n_8
    induction n_8 with
    | zero => intro d a n0 h_d h_a hfu_8; exact absurd hfu_8 (by omega)
    | succ n_8 ih_8 =>
      intro d a n0 h_d h_a hfu_8 ls hl
      refine lv_iload hx hb dX2_blocks_8 (lv_at hl 0 rfl) ?_
      refine lv_iconst (v := 3) hx hb dX2_blocks_10 (by decide) ?_
      refine ic_gt (a := d) (d := 3) (tgt := 67) hx hb dX2_blocks_11 (by decide) rfl rfl (by omega) (by omega) (fun c_1 => ?_) (fun c_1 => ?_)
      · skip
        refine lv_iload hx hb dX2_blocks_67 (lv_at hl 1 rfl) ?_
        exact eR_i hx hb hr hlocks (by have h9 := congrArg Prod.snd h_a; rw [show d = 4 by omega] at h9; exact congrArg nI h9) dX2_blocks_69
      · skip
        refine lv_iconst (v := 0) hx hb dX2_blocks_14 (by decide) ?_
        refine lv_istore (lv' := [(6, .int 0), (5, .int (nI d)), (4, .int (nI n0)), (2, .long a), (0, .long v)]) hx hb dX2_blocks_15 hl (by decide) rfl (fun ls hl => ?_)
        have lp_17 : ∀ (n_17 : Nat) (k : Nat) (r1 : Int64) (n1 : Nat), (k ≤ 64) → ((r1, n1) = it (blF d) k (a, n0)) → 64 < k + n_17 → ∀ (ls : Array Slot), lv_has ls 9 [(6, .int (nI k)), (5, .int (nI d)), (4, .int (nI n1)), (2, .long r1), (0, .long v)] → W p l e ({ frames := 1, cells := 0, slots := 0, locals := 23 } : Room) s m ([.long v] : List Value).toArray below meth c s.heap [] 0 0 (MQ below (QRi (nI (blS v).2) s.heap) ([.long v] : List Value).toArray s 0 0 NoA) (F0 m 17 ls []) := by
          intro n_17
          induction n_17 with
          | zero => intro k r1 n1 h_k h_e hfu_17; exact absurd hfu_17 (by omega)
          | succ n_17 ih_17 =>
            intro k r1 n1 h_k h_e hfu_17 ls hl
            refine lv_iload hx hb dX2_blocks_17 (lv_at hl 0 rfl) ?_
            refine lv_bipush (v := 64) hx hb dX2_blocks_19 (by decide) ?_
            refine ic_ge (a := k) (d := 64) (tgt := 61) hx hb dX2_blocks_21 (by decide) rfl rfl (by omega) (by omega) (fun c_2 => ?_) (fun c_2 => ?_)
            · skip
              refine lv_iinc (v := (nI (d + 1))) (lv' := [(5, .int (nI (d + 1))), (6, .int (nI k)), (4, .int (nI n1)), (2, .long r1), (0, .long v)]) hx hb dX2_blocks_61 hl (k := 1) rfl (nI_1 d) (by decide) rfl (fun ls hl => ?_)
              refine lv_goto (tgt := 8) hx hb dX2_blocks_64 (by decide) ?_
              exact ih_8 (d + 1) r1 n1 (by omega) (by rw [h_e, show k = 64 by omega, h_a]; rfl) (by omega) ls (lv_sub hl [0, 2, 3, 4] rfl)
            · skip
              refine lv_iload hx hb dX2_blocks_24 (lv_at hl 0 rfl) ?_
              refine lv_iload hx hb dX2_blocks_26 (lv_at hl 1 rfl) ?_
              refine cS_l (As := [.int (nI k), .int (nI d)]) (rest := []) hx hb hml hown hw hkn hS hl (c_X2_squareOf l g _ k d (by omega) (by omega)) sf_X2_squareOf mw_451 ⟨(Nat.le_of_ble_eq_true rfl), (Nat.le_of_ble_eq_true rfl)⟩ rfl rfl rfl rfl (Nat.le_of_ble_eq_true rfl) dX2_blocks_28 ⟨(Nat.le_of_ble_eq_true rfl), (Nat.le_of_ble_eq_true rfl)⟩ ?_
              refine lv_lstore (lv' := [(7, .long (sqS k d)), (6, .int (nI k)), (5, .int (nI d)), (4, .int (nI n1)), (2, .long r1), (0, .long v)]) hx hb dX2_blocks_31 hl (by decide) rfl (fun ls hl => ?_)
              refine lv_lload_n hx hb dX2_blocks_33 rfl (lv_at hl 4 rfl) ?_
              refine lv_lload hx hb dX2_blocks_34 (lv_at hl 0 rfl) ?_
              refine lv_land hx hb dX2_blocks_36 ?_
              refine lv_lload hx hb dX2_blocks_37 (lv_at hl 0 rfl) ?_
              refine lc_ne (tgt := 55) hx hb dX2_blocks_39 dX2_blocks_40 (by decide) (fun c_3 => ?_) (fun c_3 => ?_)
              · skip
                refine lv_iinc (v := (nI (k + 1))) (lv' := [(6, .int (nI (k + 1))), (7, .long (sqS k d)), (5, .int (nI d)), (4, .int (nI n1)), (2, .long r1), (0, .long v)]) hx hb dX2_blocks_55 hl (k := 1) rfl (nI_1 k) (by decide) rfl (fun ls hl => ?_)
                refine lv_goto (tgt := 17) hx hb dX2_blocks_58 (by decide) ?_
                exact ih_17 (k + 1) r1 n1 (by omega) (by rw [it_s, ← h_e]; simp [blF, c_1, c_2, c_3]) (by omega) ls (lv_sub hl [0, 2, 3, 4, 5] rfl)
              · skip
                refine lv_lload_n hx hb dX2_blocks_43 rfl (lv_at hl 4 rfl) ?_
                refine lv_lload hx hb dX2_blocks_44 (lv_at hl 0 rfl) ?_
                refine lv_ldc2 hx hb hown (hw _ mw_159) dX2_blocks_46 ?_
                refine lv_lxor hx hb dX2_blocks_49 ?_
                refine lv_land hx hb dX2_blocks_50 ?_
                refine lv_lstore_n (lv' := [(2, .long (r1 &&& ((sqS k d) ^^^ (-1)))), (7, .long (sqS k d)), (6, .int (nI k)), (5, .int (nI d)), (4, .int (nI n1)), (0, .long v)]) hx hb dX2_blocks_51 rfl hl (by decide) rfl (fun ls hl => ?_)
                refine lv_iinc (v := (nI (n1 + 1))) (lv' := [(4, .int (nI (n1 + 1))), (2, .long (r1 &&& ((sqS k d) ^^^ (-1)))), (7, .long (sqS k d)), (6, .int (nI k)), (5, .int (nI d)), (0, .long v)]) hx hb dX2_blocks_52 hl (k := 4) rfl (nI_1 n1) (by decide) rfl (fun ls hl => ?_)
                refine lv_iinc (v := (nI (k + 1))) (lv' := [(6, .int (nI (k + 1))), (4, .int (nI (n1 + 1))), (2, .long (r1 &&& ((sqS k d) ^^^ (-1)))), (7, .long (sqS k d)), (5, .int (nI d)), (0, .long v)]) hx hb dX2_blocks_55 hl (k := 3) rfl (nI_1 k) (by decide) rfl (fun ls hl => ?_)
                refine lv_goto (tgt := 17) hx hb dX2_blocks_58 (by decide) ?_
                exact ih_17 (k + 1) (r1 &&& ((sqS k d) ^^^ (-1))) (n1 + 1) (by omega) (by rw [it_s, ← h_e]; simp [blF, c_1, c_2, c_3]) (by omega) ls (lv_sub hl [0, 4, 1, 2, 5] rfl)
        exact lp_17 65 0 a n0 (by omega) (rfl) (by omega) ls (lv_sub hl [0, 1, 2, 3, 4] rfl)
  exact lp_8 5 0 v 0 (by omega) (rfl) (by omega) ls (lv_sub hl [0, 1, 2, 3] rfl)
