/-! The class: Walk, Text, Sight. -/
theorem b2i_inj {a b : Bool} (h : b2i a = b2i b) : a = b := by revert h; cases a <;> cases b <;> decide
def dmN (p : Nat) : Nat := 8 * (p / 2 % 2 + 2 * (p / 8 % 2) + 4 * (p / 32 % 2)) + (p % 2 + 2 * (p / 4 % 2) + 4 * (p / 16 % 2))
theorem dm_lt {p : Nat} (h : p < 64) : dmN p < 64 := by unfold dmN; omega
def szN (d : Nat) : Nat := 64 / 4 ^ d
theorem sz_eq {d : Nat} (h : d < 4) : ((64 : Int32) >>> (nI (2 * d) &&& 31)) = nI (szN d) := by
  have : ∀ j : Fin 4, ((64 : Int32) >>> (nI (2 * j.val) &&& 31)) = nI (szN j.val) := by decide +kernel
  exact this ⟨d, h⟩
theorem sz_rng {d : Nat} (h : d < 4) : 1 ≤ szN d ∧ szN d ≤ 64 := by
  have : ∀ j : Fin 4, 1 ≤ szN j.val ∧ szN j.val ≤ 64 := by decide +kernel
  exact this ⟨d, h⟩
theorem am_eq {p d : Nat} (hp : p ≤ 64) (h : d < 4) : (nI p &&& nI (szN d - 1)) = nI (p % szN d) := by
  have : ∀ (i : Fin 65) (j : Fin 4), (nI i.val &&& nI (szN j.val - 1)) = nI (i.val % szN j.val) := by decide +kernel
  exact this ⟨p, by omega⟩ ⟨d, h⟩
def psN (p : Nat) : Nat → Nat
  | 0 => 0
  | d + 1 => if p % szN d = 0 then psN p d else d + 1
def ctN (d : Nat) : Nat := if d < 3 then d + 1 else d
def okW (p d : Nat) : Prop := d ≤ 3 ∧ p ≤ 64 ∧ p % szN d = 0
theorem okW_pass {p d : Nat} (h : okW p d) (hp : p < 64) : okW (p + szN d) (psN (p + szN d) d) := by
  have : ∀ (i : Fin 64) (j : Fin 4), i.val % szN j.val = 0 → psN (i.val + szN j.val) j.val ≤ 3 ∧ i.val + szN j.val ≤ 64 ∧ (i.val + szN j.val) % szN (psN (i.val + szN j.val) j.val) = 0 := by decide +kernel
  exact this ⟨p, hp⟩ ⟨d, by have := h.1; omega⟩ h.2.2
theorem okW_cut {p d : Nat} (h : okW p d) (hd : d < 3) : okW p (d + 1) := by
  refine ⟨by omega, h.2.1, ?_⟩
  have : ∀ (i : Fin 65) (j : Fin 3), i.val % szN j.val = 0 → i.val % szN (j.val + 1) = 0 := by decide +kernel
  exact this ⟨p, by have := h.2.1; omega⟩ ⟨d, hd⟩ h.2.2
theorem okW_0 : okW 0 0 := ⟨by decide, by decide, by decide⟩
theorem okW_add {p d : Nat} (h : okW p d) (hp : p < 64) : p + szN d ≤ 64 := (okW_pass h hp).2.1
def sgW (v : Int64) (p d : Nat) : Int32 := signS v (sqS (dmN p) d)
def stW (v : Int64) (p d : Nat) : Nat × Nat := if sgW v p d = 113 ∧ d < 3 then (p, d + 1) else (p + szN d, psN (p + szN d) d)
theorem okW_st {v : Int64} {p d : Nat} (h : okW p d) (hp : p < 64) : okW (stW v p d).1 (stW v p d).2 := by
  unfold stW
  split
  · rename_i q; exact okW_cut h q.2
  · exact okW_pass h hp
def wkS (v : Int64) : Nat → Nat × Nat
  | 0 => (0, 0)
  | n + 1 => stW v (wkS v n).1 (wkS v n).2
def lnG (v : Int64) : Nat → Nat → Nat
  | 0, i => i
  | f + 1, i => if 64 ≤ (wkS v i).1 then i else lnG v f (i + 1)
def lnS (v : Int64) : Nat := lnG v 85 0
def finS (v : Int64) (i : Nat) : Int32 := if 64 ≤ (wkS v i).1 then -9 else sgW v (wkS v i).1 (wkS v i).2
def llG (v : Int64) : Nat → Nat → Int32
  | 0, i => finS v i
  | f + 1, i => if 64 ≤ (wkS v i).1 then finS v i else llG v f (i + 1)
def llS (v : Int64) (x : Int32) : Int32 := if x < 0 then -9 else if x < 85 then llG v x.toNatClampNeg 0 else -9
def taN (n : Nat) : Nat := if n < 64 then n + 1 else n
def taF (n : Nat) (f : Nat → Int32) (x : Int32) : Nat → Int32 := if n < 64 then upd f n x else f
def rdB (x : Int32) (p d : Nat) : Bool := if 64 ≤ p then false else if x = 113 then decide (d < 3) else isLeafB x
def rdP (x : Int32) (p d : Nat) : Nat := if 64 ≤ p then p else if x = 113 then p else if isLeafB x = true then p + szN d else p
def rdD (x : Int32) (p d : Nat) : Nat := if 64 ≤ p then d else if x = 113 then ctN d else if isLeafB x = true then psN (p + szN d) d else d
def rdR (x : Int32) (p d : Nat) (dr : Int64) : Int64 := if 64 ≤ p then dr else if x = 113 then dr else if isLeafB x = true then dr ||| (sqS (dmN p) d &&& patS x) else dr
theorem okW_rd {x : Int32} {p d : Nat} (h : okW p d) : okW (rdP x p d) (rdD x p d) := by
  unfold rdP rdD
  split
  · exact h
  · split
    · unfold ctN; split
      · rename_i q; exact okW_cut h q
      · exact h
    · split
      · exact okW_pass h (by omega)
      · exact h
def ffG (f : Nat → Int32) : Nat → Nat → Nat → Nat → Int64 → Int32 × Int64
  | 0, i, p, _, dr => (if 64 ≤ p then -9 else nI i, dr)
  | n + 1, i, p, d, dr => if rdB (f i) p d = true then ffG f n (i + 1) (rdP (f i) p d) (rdD (f i) p d) (rdR (f i) p d dr) else (nI i, rdR (f i) p d dr)
def saN (n : Nat) : Nat := if n < 6 then n + 1 else n
def saF (n : Nat) (f : Nat → Int32) (x : Int32) : Nat → Int32 := if n < 6 then upd f n x else f
def okS (cf : Nat → Nat) (bz : Nat → Bool) (q : Nat) (c : Int32) (j : Nat) : Bool := !(bt (qcS q) (cf j)) || (bt (patS c) (cf j) == bz j)
def soB (cf : Nat → Nat) (bz : Nat → Bool) (n q : Nat) (c : Int32) : Bool := decide (∀ j, j < n → okS cf bz q c j = true)
def fitN (cf : Nat → Nat) (bz : Nat → Bool) (n : Nat) : Nat := it (fun q a => a * fb_ct (fun j => soB cf bz n q (leafc j)) 4) 4 1
def fgI (cf : Nat → Nat) (bz : Nat → Bool) (n q : Nat) : Int32 := if soB cf bz n q (leafc 0) = true then 1 else if soB cf bz n q (leafc 1) = true then 2 else if soB cf bz n q (leafc 2) = true then 3 else if soB cf bz n q (leafc 3) = true then 4 else -9
theorem fgI_of {cf : Nat → Nat} {bz : Nat → Bool} {n q i : Nat} (hi : i < 4) (h : ∀ j, j < i → soB cf bz n q (leafc j) = false) (h2 : soB cf bz n q (leafc i) = true) : fgI cf bz n q = nI (i + 1) := by
  unfold fgI
  rcases (show i = 0 ∨ i = 1 ∨ i = 2 ∨ i = 3 by omega) with rfl | rfl | rfl | rfl
  · rw [if_pos h2]; rfl
  · rw [if_neg (nt_of (h 0 (by omega))), if_pos h2]; rfl
  · rw [if_neg (nt_of (h 0 (by omega))), if_neg (nt_of (h 1 (by omega))), if_pos h2]; rfl
  · rw [if_neg (nt_of (h 0 (by omega))), if_neg (nt_of (h 1 (by omega))), if_neg (nt_of (h 2 (by omega))), if_pos h2]; rfl
theorem fgI_no {cf : Nat → Nat} {bz : Nat → Bool} {n q : Nat} (h : ∀ j, j < 4 → soB cf bz n q (leafc j) = false) : fgI cf bz n q = -9 := by
  unfold fgI
  rw [if_neg (nt_of (h 0 (by omega))), if_neg (nt_of (h 1 (by omega))), if_neg (nt_of (h 2 (by omega))), if_neg (nt_of (h 3 (by omega)))]
def ftG (cf : Nat → Nat) (bz : Nat → Bool) (n : Nat) : Nat → Nat → Int32 → Int32
  | 0, _, a => a
  | f + 1, q, a => if fgI cf bz n q = -9 then -9 else ftG cf bz n f (q + 1) (10 * a + fgI cf bz n q)
def ftS (cf : Nat → Nat) (bz : Nat → Bool) (n : Nat) : Int32 := ftG cf bz n 4 0 0
set_option maxHeartbeats 4000000 in
set_option maxRecDepth 100000 in
theorem c_X5_init (l : Launch) (g : GG) (sz : Nat) (h0 : Nat) (x1 : Int32) (x2 : Int32)  : Met l yX5_init (Cond.code yX5_init cX5_init 1 none :: wsL_law) ({ frames := 1, cells := 0, slots := 0, locals := 20 }) (PM g [.ref h0] [(h0, .inr (4, [.int x1, .int x2]))] sz) (QAv g (fun (u : Unit) => True) (fun (u : Unit) => [(h0, .inr (4, [.int 0, .int 0]))]) (va_A [(h0, .inr (4, [.int x1, .int x2]))] sz)) 0 0 (va_A [(h0, .inr (4, [.int x1, .int x2]))] sz) := by
  refine Met.M (Qc := fun A => QAv g (fun (u : Unit) => True) (fun (u : Unit) => [(h0, .inr (4, [.int 0, .int 0]))]) A) (by decide) (Nat.le_of_ble_eq_true rfl) rfl ?_
  intro p e s m below meth c hx hb hr hml hw hown hlocks hin A hA hkn hP hD ls hl
  have hl : lv_has ls 1 [(0, .ref h0)] := hl
  have hS : va_S A s.heap s.heap [] := va_S.rf
  obtain ⟨H, hHe⟩ : ∃ H, H = s.heap := ⟨_, rfl⟩
  obtain ⟨locs, hLe⟩ : ∃ locs : List Loc, locs = [] := ⟨_, rfl⟩
  have hP : va_P g.1 vwCl [(h0, .inr (4, [.int x1, .int x2]))] H := by rw [hHe]; exact hP
  have hS : va_S A s.heap H locs := by rw [hHe, hLe]; exact hS
  have hgo : W p l e ({ frames := 1, cells := 0, slots := 0, locals := 20 } : Room) s m ([.ref h0] : List Value).toArray below meth c H locs 0 0 (MQ below (QAv g (fun (u : Unit) => True) (fun (u : Unit) => [(h0, .inr (4, [.int 0, .int 0]))]) A) ([.ref h0] : List Value).toArray s 0 0 A) (F0 m 0 ls []) := ?_
  · rw [hHe, hLe] at hgo; exact hgo
  clear hHe hLe
  refine lv_aload_n hx hb dX5_init_0 rfl (lv_at hl 0 rfl) ?_
  refine W.objInit hx hb hown (hw _ mw_53) (hw _ mw_11) (hw _ mw_12) rfl (by rw [hml]; exact hl.1) rfl dX5_init_1 (Nat.le_of_ble_eq_true rfl) (Nat.le_of_ble_eq_true rfl) ?_
  refine W.eq (g2 := F0 m 4 ls []) rfl ?_
  refine lv_aload_n hx hb dX5_init_4 rfl (lv_at hl 0 rfl) ?_
  refine lv_iconst (v := 0) hx hb dX5_init_5 (by decide) ?_
  refine va_put (D := g.1) (ci := 4) (v := .int 0) (ty := .int) (C := RX5) (T := TX5) (N := 2) hx hb hw inlX5 tyX5 tyX5_ok nmX5 hown hkn.1 hP hD hS 0 rfl rfl 0 (by decide) (hw _ mw_54) (fun _ h9 => h9) rfl (by decide +kernel) rfl rfl (Nat.le_of_ble_eq_true rfl) dX5_init_6 (fun H locs hP hD hS => ?_)
  have hP : va_P g.1 vwCl [(h0, .inr (4, [.int 0, .int x2]))] H := hP
  have hD : va_D A [(h0, .inr (4, [.int 0, .int x2]))] := hD
  refine lv_aload_n hx hb dX5_init_9 rfl (lv_at hl 0 rfl) ?_
  refine lv_iconst (v := 0) hx hb dX5_init_10 (by decide) ?_
  refine va_put (D := g.1) (ci := 4) (v := .int 0) (ty := .int) (C := RX5) (T := TX5) (N := 2) hx hb hw inlX5 tyX5 tyX5_ok nmX5 hown hkn.1 hP hD hS 0 rfl rfl 1 (by decide) (hw _ mw_55) (fun _ h9 => h9) rfl (by decide +kernel) rfl rfl (Nat.le_of_ble_eq_true rfl) dX5_init_11 (fun H locs hP hD hS => ?_)
  have hP : va_P g.1 vwCl [(h0, .inr (4, [.int 0, .int 0]))] H := hP
  have hD : va_D A [(h0, .inr (4, [.int 0, .int 0]))] := hD
  exact eM_v (g := g) hx hb hr hlocks () (trivial) (hP.sub [0] rfl) (hD.sub [0] (by decide) rfl) hS dX5_init_14
set_option maxHeartbeats 4000000 in
set_option maxRecDepth 100000 in
theorem c_X5_start (l : Launch) (g : GG) (sz : Nat) (h0 : Nat) (x1 : Int32) (x2 : Int32)  : Met l yX5_start (Cond.code yX5_start cX5_start 1 none :: wsL_law) ({ frames := 0, cells := 0, slots := 0, locals := 0 }) (PM g [.ref h0] [(h0, .inr (4, [.int x1, .int x2]))] sz) (QAv g (fun (u : Unit) => True) (fun (u : Unit) => [(h0, .inr (4, [.int 0, .int 0]))]) (va_A [(h0, .inr (4, [.int x1, .int x2]))] sz)) 0 0 (va_A [(h0, .inr (4, [.int x1, .int x2]))] sz) := by
  refine Met.M (Qc := fun A => QAv g (fun (u : Unit) => True) (fun (u : Unit) => [(h0, .inr (4, [.int 0, .int 0]))]) A) (by decide) (Nat.le_of_ble_eq_true rfl) rfl ?_
  intro p e s m below meth c hx hb hr hml hw hown hlocks hin A hA hkn hP hD ls hl
  have hl : lv_has ls 1 [(0, .ref h0)] := hl
  have hS : va_S A s.heap s.heap [] := va_S.rf
  obtain ⟨H, hHe⟩ : ∃ H, H = s.heap := ⟨_, rfl⟩
  obtain ⟨locs, hLe⟩ : ∃ locs : List Loc, locs = [] := ⟨_, rfl⟩
  have hP : va_P g.1 vwCl [(h0, .inr (4, [.int x1, .int x2]))] H := by rw [hHe]; exact hP
  have hS : va_S A s.heap H locs := by rw [hHe, hLe]; exact hS
  have hgo : W p l e ({ frames := 0, cells := 0, slots := 0, locals := 0 } : Room) s m ([.ref h0] : List Value).toArray below meth c H locs 0 0 (MQ below (QAv g (fun (u : Unit) => True) (fun (u : Unit) => [(h0, .inr (4, [.int 0, .int 0]))]) A) ([.ref h0] : List Value).toArray s 0 0 A) (F0 m 0 ls []) := ?_
  · rw [hHe, hLe] at hgo; exact hgo
  clear hHe hLe
  refine lv_aload_n hx hb dX5_start_0 rfl (lv_at hl 0 rfl) ?_
  refine lv_iconst (v := 0) hx hb dX5_start_1 (by decide) ?_
  refine va_put (D := g.1) (ci := 4) (v := .int 0) (ty := .int) (C := RX5) (T := TX5) (N := 2) hx hb hw inlX5 tyX5 tyX5_ok nmX5 hown hkn.1 hP hD hS 0 rfl rfl 0 (by decide) (hw _ mw_54) (fun _ h9 => h9) rfl (by decide +kernel) rfl rfl (Nat.le_of_ble_eq_true rfl) dX5_start_2 (fun H locs hP hD hS => ?_)
  have hP : va_P g.1 vwCl [(h0, .inr (4, [.int 0, .int x2]))] H := hP
  have hD : va_D A [(h0, .inr (4, [.int 0, .int x2]))] := hD
  refine lv_aload_n hx hb dX5_start_5 rfl (lv_at hl 0 rfl) ?_
  refine lv_iconst (v := 0) hx hb dX5_start_6 (by decide) ?_
  refine va_put (D := g.1) (ci := 4) (v := .int 0) (ty := .int) (C := RX5) (T := TX5) (N := 2) hx hb hw inlX5 tyX5 tyX5_ok nmX5 hown hkn.1 hP hD hS 0 rfl rfl 1 (by decide) (hw _ mw_55) (fun _ h9 => h9) rfl (by decide +kernel) rfl rfl (Nat.le_of_ble_eq_true rfl) dX5_start_7 (fun H locs hP hD hS => ?_)
  have hP : va_P g.1 vwCl [(h0, .inr (4, [.int 0, .int 0]))] H := hP
  have hD : va_D A [(h0, .inr (4, [.int 0, .int 0]))] := hD
  exact eM_v (g := g) hx hb hr hlocks () (trivial) (hP.sub [0] rfl) (hD.sub [0] (by decide) rfl) hS dX5_start_10
set_option maxHeartbeats 4000000 in
set_option maxRecDepth 100000 in
theorem c_X5_hasEnded (l : Launch) (g : GG) (H : Heap) (h0 : Nat) (pl : Nat) (dp : Nat) (hpl : pl ≤ 64) (hP : va_P g.1 vwCl [(h0, .inr (4, [.int (nI pl), .int (nI dp)]))] H) : Met l yX5_hasEnded (Cond.code yX5_hasEnded cX5_hasEnded 1 (some .boolean) :: wsL_law) ({ frames := 0, cells := 0, slots := 0, locals := 0 }) (PR g [.ref h0] H) (QRi (b2i (decide (64 ≤ pl))) H) 0 0 NoA := by
  refine Met.R (by decide) (Nat.le_of_ble_eq_true rfl) rfl ?_
  intro p e s m below meth c hx hb hr hml hw hown hlocks hkn hH ls hl
  subst hH
  have hl : lv_has ls 1 [(0, .ref h0)] := hl
  have hS : va_S NoA s.heap s.heap [] := va_S.rf
  refine lv_aload_n hx hb dX5_hasEnded_0 rfl (lv_at hl 0 rfl) ?_
  refine va_get (D := g.1) (ci := 4) (v := .int (nI pl)) (C := RX5) (T := TX5) (N := 2) hx hb hw inlX5 hown hkn.1 hP 0 rfl rfl 0 (by decide) (hw _ mw_54) (fun _ h9 => h9) rfl dX5_hasEnded_1 ?_
  refine lv_bipush (v := 64) hx hb dX5_hasEnded_4 (by decide) ?_
  refine ic_lt (a := pl) (d := 64) (tgt := 13) hx hb dX5_hasEnded_6 (by decide) rfl rfl (by omega) (by omega) (fun c_1 => ?_) (fun c_1 => ?_)
  · skip
    refine lv_iconst (v := 0) hx hb dX5_hasEnded_13 (by decide) ?_
    exact eR_z hx hb hr hlocks (by simp [b2i]; omega) dX5_hasEnded_14
  · skip
    refine lv_iconst (v := 1) hx hb dX5_hasEnded_9 (by decide) ?_
    refine lv_goto (tgt := 14) hx hb dX5_hasEnded_10 (by decide) ?_
    exact eR_z hx hb hr hlocks (by simp [b2i]; omega) dX5_hasEnded_14
set_option maxHeartbeats 4000000 in
set_option maxRecDepth 100000 in
theorem c_X5_cell (l : Launch) (g : GG) (H : Heap) (h0 : Nat) (pl : Nat) (dp : Nat) (hpl : pl < 64) (hP : va_P g.1 vwCl [(h0, .inr (4, [.int (nI pl), .int (nI dp)]))] H) : Met l yX5_cell (Cond.code yX5_cell cX5_cell 3 (some .int) :: wsL_law) ({ frames := 0, cells := 0, slots := 0, locals := 0 }) (PR g [.ref h0] H) (QRi (nI (dmN pl)) H) 0 0 NoA := by
  refine Met.R (by decide) (Nat.le_of_ble_eq_true rfl) rfl ?_
  intro p e s m below meth c hx hb hr hml hw hown hlocks hkn hH ls hl
  subst hH
  have hl : lv_has ls 3 [(0, .ref h0)] := hl
  have hS : va_S NoA s.heap s.heap [] := va_S.rf
  refine lv_aload_n hx hb dX5_cell_0 rfl (lv_at hl 0 rfl) ?_
  refine va_get (D := g.1) (ci := 4) (v := .int (nI pl)) (C := RX5) (T := TX5) (N := 2) hx hb hw inlX5 hown hkn.1 hP 0 rfl rfl 0 (by decide) (hw _ mw_54) (fun _ h9 => h9) rfl dX5_cell_1 ?_
  refine lv_iconst (v := 1) hx hb dX5_cell_4 (by decide) ?_
  refine lv_iand hx hb dX5_cell_5 ?_
  refine lv_aload_n hx hb dX5_cell_6 rfl (lv_at hl 0 rfl) ?_
  refine va_get (D := g.1) (ci := 4) (v := .int (nI pl)) (C := RX5) (T := TX5) (N := 2) hx hb hw inlX5 hown hkn.1 hP 0 rfl rfl 0 (by decide) (hw _ mw_54) (fun _ h9 => h9) rfl dX5_cell_7 ?_
  refine lv_iconst (v := 1) hx hb dX5_cell_10 (by decide) ?_
  refine lv_ishr hx hb dX5_cell_11 ?_
  refine lv_iconst (v := 2) hx hb dX5_cell_12 (by decide) ?_
  refine lv_iand hx hb dX5_cell_13 ?_
  refine lv_ior hx hb dX5_cell_14 ?_
  refine lv_aload_n hx hb dX5_cell_15 rfl (lv_at hl 0 rfl) ?_
  refine va_get (D := g.1) (ci := 4) (v := .int (nI pl)) (C := RX5) (T := TX5) (N := 2) hx hb hw inlX5 hown hkn.1 hP 0 rfl rfl 0 (by decide) (hw _ mw_54) (fun _ h9 => h9) rfl dX5_cell_16 ?_
  refine lv_iconst (v := 2) hx hb dX5_cell_19 (by decide) ?_
  refine lv_ishr hx hb dX5_cell_20 ?_
  refine lv_iconst (v := 4) hx hb dX5_cell_21 (by decide) ?_
  refine lv_iand hx hb dX5_cell_22 ?_
  refine lv_ior hx hb dX5_cell_23 ?_
  refine lv_istore_n (lv' := [(1, .int ((((nI pl) &&& 1) ||| (((nI pl) >>> ((1 : Int32) &&& 31)) &&& 2)) ||| (((nI pl) >>> ((2 : Int32) &&& 31)) &&& 4))), (0, .ref h0)]) hx hb dX5_cell_24 rfl hl (by decide) rfl (fun ls hl => ?_)
  refine lv_aload_n hx hb dX5_cell_25 rfl (lv_at hl 1 rfl) ?_
  refine va_get (D := g.1) (ci := 4) (v := .int (nI pl)) (C := RX5) (T := TX5) (N := 2) hx hb hw inlX5 hown hkn.1 hP 0 rfl rfl 0 (by decide) (hw _ mw_54) (fun _ h9 => h9) rfl dX5_cell_26 ?_
  refine lv_iconst (v := 1) hx hb dX5_cell_29 (by decide) ?_
  refine lv_ishr hx hb dX5_cell_30 ?_
  refine lv_iconst (v := 1) hx hb dX5_cell_31 (by decide) ?_
  refine lv_iand hx hb dX5_cell_32 ?_
  refine lv_aload_n hx hb dX5_cell_33 rfl (lv_at hl 1 rfl) ?_
  refine va_get (D := g.1) (ci := 4) (v := .int (nI pl)) (C := RX5) (T := TX5) (N := 2) hx hb hw inlX5 hown hkn.1 hP 0 rfl rfl 0 (by decide) (hw _ mw_54) (fun _ h9 => h9) rfl dX5_cell_34 ?_
  refine lv_iconst (v := 2) hx hb dX5_cell_37 (by decide) ?_
  refine lv_ishr hx hb dX5_cell_38 ?_
  refine lv_iconst (v := 2) hx hb dX5_cell_39 (by decide) ?_
  refine lv_iand hx hb dX5_cell_40 ?_
  refine lv_ior hx hb dX5_cell_41 ?_
  refine lv_aload_n hx hb dX5_cell_42 rfl (lv_at hl 1 rfl) ?_
  refine va_get (D := g.1) (ci := 4) (v := .int (nI pl)) (C := RX5) (T := TX5) (N := 2) hx hb hw inlX5 hown hkn.1 hP 0 rfl rfl 0 (by decide) (hw _ mw_54) (fun _ h9 => h9) rfl dX5_cell_43 ?_
  refine lv_iconst (v := 3) hx hb dX5_cell_46 (by decide) ?_
  refine lv_ishr hx hb dX5_cell_47 ?_
  refine lv_iconst (v := 4) hx hb dX5_cell_48 (by decide) ?_
  refine lv_iand hx hb dX5_cell_49 ?_
  refine lv_ior hx hb dX5_cell_50 ?_
  refine lv_istore_n (lv' := [(2, .int (((((nI pl) >>> ((1 : Int32) &&& 31)) &&& 1) ||| (((nI pl) >>> ((2 : Int32) &&& 31)) &&& 2)) ||| (((nI pl) >>> ((3 : Int32) &&& 31)) &&& 4))), (1, .int ((((nI pl) &&& 1) ||| (((nI pl) >>> ((1 : Int32) &&& 31)) &&& 2)) ||| (((nI pl) >>> ((2 : Int32) &&& 31)) &&& 4))), (0, .ref h0)]) hx hb dX5_cell_51 rfl hl (by decide) rfl (fun ls hl => ?_)
  refine lv_bipush (v := 8) hx hb dX5_cell_52 (by decide) ?_
  refine lv_iload_n hx hb dX5_cell_54 rfl (lv_at hl 0 rfl) ?_
  refine lv_imul hx hb dX5_cell_55 ?_
  refine lv_iload_n hx hb dX5_cell_56 rfl (lv_at hl 1 rfl) ?_
  refine lv_iadd hx hb dX5_cell_57 ?_
  exact eR_i hx hb hr hlocks (show ((8 * (((((nI pl) >>> ((1 : Int32) &&& 31)) &&& 1) ||| (((nI pl) >>> ((2 : Int32) &&& 31)) &&& 2)) ||| (((nI pl) >>> ((3 : Int32) &&& 31)) &&& 4))) + ((((nI pl) &&& 1) ||| (((nI pl) >>> ((1 : Int32) &&& 31)) &&& 2)) ||| (((nI pl) >>> ((2 : Int32) &&& 31)) &&& 4))) = nI (dmN pl) from (fun h9 => h9 ⟨pl, hpl⟩) (show ∀ j : Fin 64, ((8 * (((((nI j.val) >>> ((1 : Int32) &&& 31)) &&& 1) ||| (((nI j.val) >>> ((2 : Int32) &&& 31)) &&& 2)) ||| (((nI j.val) >>> ((3 : Int32) &&& 31)) &&& 4))) + ((((nI j.val) &&& 1) ||| (((nI j.val) >>> ((1 : Int32) &&& 31)) &&& 2)) ||| (((nI j.val) >>> ((2 : Int32) &&& 31)) &&& 4))) = nI (dmN j.val) by decide +kernel)) dX5_cell_58
set_option maxHeartbeats 4000000 in
set_option maxRecDepth 100000 in
theorem c_X5_square (l : Launch) (g : GG) (H : Heap) (h0 : Nat) (pl : Nat) (dp : Nat) (hpl : pl < 64) (hdp : dp < 4) (hP : va_P g.1 vwCl [(h0, .inr (4, [.int (nI pl), .int (nI dp)]))] H) : Met l yX5_square (Cond.code yX5_square cX5_square 1 (some .long) :: wsL_law) ({ frames := 1, cells := 0, slots := 0, locals := 23 }) (PR g [.ref h0] H) (QRl (sqS (dmN pl) dp) H) 0 0 NoA := by
  refine Met.R (by decide) (Nat.le_of_ble_eq_true rfl) rfl ?_
  intro p e s m below meth c hx hb hr hml hw hown hlocks hkn hH ls hl
  subst hH
  have hl : lv_has ls 1 [(0, .ref h0)] := hl
  have hS : va_S NoA s.heap s.heap [] := va_S.rf
  have hdm := dm_lt hpl
  refine lv_aload_n hx hb dX5_square_0 rfl (lv_at hl 0 rfl) ?_
  refine cV_i (As := []) (rest := []) hx hb hml hown hw hkn hS hl (c_X5_cell l g _ h0 pl dp (by omega) (hP.sub [0] rfl)) vf_X5_cell mw_148 (va_recv hkn.1 hP (ci := 4) (q0 := 0) rfl rfl) ⟨(Nat.le_of_ble_eq_true rfl), (Nat.le_of_ble_eq_true rfl)⟩ rfl rfl rfl rfl (Nat.le_of_ble_eq_true rfl) dX5_square_1 ⟨(Nat.le_of_ble_eq_true rfl), (Nat.le_of_ble_eq_true rfl)⟩ ?_
  refine lv_aload_n hx hb dX5_square_4 rfl (lv_at hl 0 rfl) ?_
  refine va_get (D := g.1) (ci := 4) (v := .int (nI dp)) (C := RX5) (T := TX5) (N := 2) hx hb hw inlX5 hown hkn.1 hP 0 rfl rfl 1 (by decide) (hw _ mw_55) (fun _ h9 => h9) rfl dX5_square_5 ?_
  refine cS_l (As := [.int (nI (dmN pl)), .int (nI dp)]) (rest := []) hx hb hml hown hw hkn hS hl (c_X2_squareOf l g _ (dmN pl) dp (by omega) (by omega)) sf_X2_squareOf mw_152 ⟨(Nat.le_of_ble_eq_true rfl), (Nat.le_of_ble_eq_true rfl)⟩ rfl rfl rfl rfl (Nat.le_of_ble_eq_true rfl) dX5_square_8 ⟨(Nat.le_of_ble_eq_true rfl), (Nat.le_of_ble_eq_true rfl)⟩ ?_
  exact eR_l hx hb hr hlocks (rfl) dX5_square_11
set_option maxHeartbeats 4000000 in
set_option maxRecDepth 100000 in
theorem c_X5_cut (l : Launch) (g : GG) (sz : Nat) (h0 : Nat) (pl : Nat) (dp : Nat) (hdp : dp < 4) : Met l yX5_cut (Cond.code yX5_cut cX5_cut 1 (some .boolean) :: wsL_law) ({ frames := 0, cells := 0, slots := 0, locals := 0 }) (PM g [.ref h0] [(h0, .inr (4, [.int (nI pl), .int (nI dp)]))] sz) (QAi g (fun (r : Int32) (u : Unit) => r = b2i (decide (dp < 3))) (fun (u : Unit) => [(h0, .inr (4, [.int (nI pl), .int (nI (ctN dp))]))]) (va_A [(h0, .inr (4, [.int (nI pl), .int (nI dp)]))] sz)) 0 0 (va_A [(h0, .inr (4, [.int (nI pl), .int (nI dp)]))] sz) := by
  refine Met.M (Qc := fun A => QAi g (fun (r : Int32) (u : Unit) => r = b2i (decide (dp < 3))) (fun (u : Unit) => [(h0, .inr (4, [.int (nI pl), .int (nI (ctN dp))]))]) A) (by decide) (Nat.le_of_ble_eq_true rfl) rfl ?_
  intro p e s m below meth c hx hb hr hml hw hown hlocks hin A hA hkn hP hD ls hl
  have hl : lv_has ls 1 [(0, .ref h0)] := hl
  have hS : va_S A s.heap s.heap [] := va_S.rf
  obtain ⟨H, hHe⟩ : ∃ H, H = s.heap := ⟨_, rfl⟩
  obtain ⟨locs, hLe⟩ : ∃ locs : List Loc, locs = [] := ⟨_, rfl⟩
  have hP : va_P g.1 vwCl [(h0, .inr (4, [.int (nI pl), .int (nI dp)]))] H := by rw [hHe]; exact hP
  have hS : va_S A s.heap H locs := by rw [hHe, hLe]; exact hS
  have hgo : W p l e ({ frames := 0, cells := 0, slots := 0, locals := 0 } : Room) s m ([.ref h0] : List Value).toArray below meth c H locs 0 0 (MQ below (QAi g (fun (r : Int32) (u : Unit) => r = b2i (decide (dp < 3))) (fun (u : Unit) => [(h0, .inr (4, [.int (nI pl), .int (nI (ctN dp))]))]) A) ([.ref h0] : List Value).toArray s 0 0 A) (F0 m 0 ls []) := ?_
  · rw [hHe, hLe] at hgo; exact hgo
  clear hHe hLe
  refine lv_aload_n hx hb dX5_cut_0 rfl (lv_at hl 0 rfl) ?_
  refine va_get (D := g.1) (ci := 4) (v := .int (nI dp)) (C := RX5) (T := TX5) (N := 2) hx hb hw inlX5 hown hkn.1 hP 0 rfl rfl 1 (by decide) (hw _ mw_55) (fun _ h9 => h9) rfl dX5_cut_1 ?_
  refine lv_iconst (v := 3) hx hb dX5_cut_4 (by decide) ?_
  refine ic_lt (a := dp) (d := 3) (tgt := 10) hx hb dX5_cut_5 (by decide) rfl rfl (by omega) (by omega) (fun c_1 => ?_) (fun c_1 => ?_)
  · skip
    refine lv_aload_n hx hb dX5_cut_10 rfl (lv_at hl 0 rfl) ?_
    refine lv_dup hx hb dX5_cut_11 rfl ?_
    refine va_get (D := g.1) (ci := 4) (v := .int (nI dp)) (C := RX5) (T := TX5) (N := 2) hx hb hw inlX5 hown hkn.1 hP 0 rfl rfl 1 (by decide) (hw _ mw_55) (fun _ h9 => h9) rfl dX5_cut_12 ?_
    refine lv_iconst (v := 1) hx hb dX5_cut_15 (by decide) ?_
    refine lv_iadd hx hb dX5_cut_16 ?_
    refine lv_eqi (nI_add dp 1) ?_
    refine va_put (D := g.1) (ci := 4) (v := .int (nI (dp + 1))) (ty := .int) (C := RX5) (T := TX5) (N := 2) hx hb hw inlX5 tyX5 tyX5_ok nmX5 hown hkn.1 hP hD hS 0 rfl rfl 1 (by decide) (hw _ mw_55) (fun _ h9 => h9) rfl (by decide +kernel) rfl rfl (Nat.le_of_ble_eq_true rfl) dX5_cut_17 (fun H locs hP hD hS => ?_)
    have hP : va_P g.1 vwCl [(h0, .inr (4, [.int (nI pl), .int (nI (dp + 1))]))] H := hP
    have hD : va_D A [(h0, .inr (4, [.int (nI pl), .int (nI (dp + 1))]))] := hD
    refine lv_iconst (v := 1) hx hb dX5_cut_20 (by decide) ?_
    have eb : decide (dp < 3) = true := by simp; omega
    have e1 : ctN dp = dp + 1 := by unfold ctN; rw [if_pos (by omega)]
    exact eM_z (g := g) (b := decide (dp < 3)) hx hb hr hlocks () (by rw [eb]; rfl) (by rw [eb]; rfl) (show va_P g.1 vwCl [(h0, .inr (4, [.int (nI pl), .int (nI (ctN dp))]))] H by rw [e1]; exact hP.sub [0] rfl) (show va_D A [(h0, .inr (4, [.int (nI pl), .int (nI (ctN dp))]))] by rw [e1]; exact hD.sub [0] (by decide) rfl) hS dX5_cut_21
  · skip
    refine lv_iconst (v := 0) hx hb dX5_cut_8 (by decide) ?_
    have eb : decide (dp < 3) = false := by simp; omega
    have e1 : ctN dp = dp := by unfold ctN; rw [if_neg (by omega)]
    exact eM_z (g := g) (b := decide (dp < 3)) hx hb hr hlocks () (by rw [eb]; rfl) (by rw [eb]; rfl) (show va_P g.1 vwCl [(h0, .inr (4, [.int (nI pl), .int (nI (ctN dp))]))] H by rw [e1]; exact hP.sub [0] rfl) (show va_D A [(h0, .inr (4, [.int (nI pl), .int (nI (ctN dp))]))] by rw [e1]; exact hD.sub [0] (by decide) rfl) hS dX5_cut_9
set_option maxHeartbeats 4000000 in
set_option maxRecDepth 100000 in
theorem c_X5_sizeAt (l : Launch) (g : GG) (H : Heap) (d : Nat) (hd : d < 4) : Met l yX5_sizeAt (Cond.code yX5_sizeAt cX5_sizeAt 1 (some .int) :: wsL_law) ({ frames := 0, cells := 0, slots := 0, locals := 0 }) (PR g [.int (nI d)] H) (QRi (nI (szN d)) H) 0 0 NoA := by
  refine Met.R (by decide) (Nat.le_of_ble_eq_true rfl) rfl ?_
  intro p e s m below meth c hx hb hr hml hw hown hlocks hkn hH ls hl
  subst hH
  have hl : lv_has ls 1 [(0, .int (nI d))] := hl
  have hS : va_S NoA s.heap s.heap [] := va_S.rf
  refine lv_bipush (v := 64) hx hb dX5_sizeAt_0 (by decide) ?_
  refine lv_iconst (v := 2) hx hb dX5_sizeAt_2 (by decide) ?_
  refine lv_iload_n hx hb dX5_sizeAt_3 rfl (lv_at hl 0 rfl) ?_
  refine lv_imul hx hb dX5_sizeAt_4 ?_
  refine lv_eqi (pk_mul 2 d) ?_
  refine lv_ishr hx hb dX5_sizeAt_5 ?_
  exact eR_i hx hb hr hlocks (sz_eq hd) dX5_sizeAt_6
set_option maxHeartbeats 4000000 in
set_option maxRecDepth 100000 in
theorem c_X5_pass (l : Launch) (g : GG) (sz : Nat) (h0 : Nat) (pl : Nat) (dp : Nat) (hok : okW pl dp) (hpl : pl < 64) : Met l yX5_pass (Cond.code yX5_pass cX5_pass 1 none :: wsL_law) ({ frames := 1, cells := 0, slots := 0, locals := 20 }) (PM g [.ref h0] [(h0, .inr (4, [.int (nI pl), .int (nI dp)]))] sz) (QAv g (fun (u : Unit) => True) (fun (u : Unit) => [(h0, .inr (4, [.int (nI (pl + szN dp)), .int (nI (psN (pl + szN dp) dp))]))]) (va_A [(h0, .inr (4, [.int (nI pl), .int (nI dp)]))] sz)) 0 0 (va_A [(h0, .inr (4, [.int (nI pl), .int (nI dp)]))] sz) := by
  refine Met.M (Qc := fun A => QAv g (fun (u : Unit) => True) (fun (u : Unit) => [(h0, .inr (4, [.int (nI (pl + szN dp)), .int (nI (psN (pl + szN dp) dp))]))]) A) (by decide) (Nat.le_of_ble_eq_true rfl) rfl ?_
  intro p e s m below meth c hx hb hr hml hw hown hlocks hin A hA hkn hP hD ls hl
  have hl : lv_has ls 1 [(0, .ref h0)] := hl
  have hS : va_S A s.heap s.heap [] := va_S.rf
  obtain ⟨H, hHe⟩ : ∃ H, H = s.heap := ⟨_, rfl⟩
  obtain ⟨locs, hLe⟩ : ∃ locs : List Loc, locs = [] := ⟨_, rfl⟩
  have hP : va_P g.1 vwCl [(h0, .inr (4, [.int (nI pl), .int (nI dp)]))] H := by rw [hHe]; exact hP
  have hS : va_S A s.heap H locs := by rw [hHe, hLe]; exact hS
  have hgo : W p l e ({ frames := 1, cells := 0, slots := 0, locals := 20 } : Room) s m ([.ref h0] : List Value).toArray below meth c H locs 0 0 (MQ below (QAv g (fun (u : Unit) => True) (fun (u : Unit) => [(h0, .inr (4, [.int (nI (pl + szN dp)), .int (nI (psN (pl + szN dp) dp))]))]) A) ([.ref h0] : List Value).toArray s 0 0 A) (F0 m 0 ls []) := ?_
  · rw [hHe, hLe] at hgo; exact hgo
  clear hHe hLe
  have hd3 := hok.1
  have hle := okW_add hok hpl
  refine lv_aload_n hx hb dX5_pass_0 rfl (lv_at hl 0 rfl) ?_
  refine lv_dup hx hb dX5_pass_1 rfl ?_
  refine va_get (D := g.1) (ci := 4) (v := .int (nI pl)) (C := RX5) (T := TX5) (N := 2) hx hb hw inlX5 hown hkn.1 hP 0 rfl rfl 0 (by decide) (hw _ mw_54) (fun _ h9 => h9) rfl dX5_pass_2 ?_
  refine lv_aload_n hx hb dX5_pass_5 rfl (lv_at hl 0 rfl) ?_
  refine va_get (D := g.1) (ci := 4) (v := .int (nI dp)) (C := RX5) (T := TX5) (N := 2) hx hb hw inlX5 hown hkn.1 hP 0 rfl rfl 1 (by decide) (hw _ mw_55) (fun _ h9 => h9) rfl dX5_pass_6 ?_
  refine cS_i (As := [.int (nI dp)]) (rest := [.int (nI pl), .ref h0]) hx hb hml hown hw hkn hS hl (c_X5_sizeAt l g _ dp (by omega)) sf_X5_sizeAt mw_166 ⟨(Nat.le_of_ble_eq_true rfl), (Nat.le_of_ble_eq_true rfl)⟩ rfl rfl rfl rfl (Nat.le_of_ble_eq_true rfl) dX5_pass_9 ⟨(Nat.le_of_ble_eq_true rfl), (Nat.le_of_ble_eq_true rfl)⟩ ?_
  refine lv_iadd hx hb dX5_pass_12 ?_
  refine lv_eqi (nI_add pl (szN dp)) ?_
  refine va_put (D := g.1) (ci := 4) (v := .int (nI (pl + (szN dp)))) (ty := .int) (C := RX5) (T := TX5) (N := 2) hx hb hw inlX5 tyX5 tyX5_ok nmX5 hown hkn.1 hP hD hS 0 rfl rfl 0 (by decide) (hw _ mw_54) (fun _ h9 => h9) rfl (by decide +kernel) rfl rfl (Nat.le_of_ble_eq_true rfl) dX5_pass_13 (fun H locs hP hD hS => ?_)
  have hP : va_P g.1 vwCl [(h0, .inr (4, [.int (nI (pl + (szN dp))), .int (nI dp)]))] H := hP
  have hD : va_D A [(h0, .inr (4, [.int (nI (pl + (szN dp))), .int (nI dp)]))] := hD
  have lp_16 : ∀ (n_16 : Nat) (j : Nat), (j ≤ dp) → (psN (pl + szN dp) j = psN (pl + szN dp) dp) → j < n_16 → ∀ (H : Heap) (locs : List Loc), va_P g.1 vwCl [(h0, .inr (4, [.int (nI (pl + (szN dp))), .int (nI j)]))] H → va_D A [(h0, .inr (4, [.int (nI (pl + (szN dp))), .int (nI j)]))] → va_S A s.heap H locs → ∀ (ls : Array Slot), lv_has ls 1 [(0, .ref h0)] → W p l e ({ frames := 1, cells := 0, slots := 0, locals := 20 } : Room) s m ([.ref h0] : List Value).toArray below meth c H locs 0 0 (MQ below (QAv g (fun (u : Unit) => True) (fun (u : Unit) => [(h0, .inr (4, [.int (nI (pl + szN dp)), .int (nI (psN (pl + szN dp) dp))]))]) A) ([.ref h0] : List Value).toArray s 0 0 A) (F0 m 16 ls []) := by
    intro n_16
    induction n_16 with
    | zero => intro j h_j h_p hfu_16; exact absurd hfu_16 (by omega)
    | succ n_16 ih_16 =>
      intro j h_j h_p hfu_16 H locs hP hD hS ls hl
      refine lv_aload_n hx hb dX5_pass_16 rfl (lv_at hl 0 rfl) ?_
      refine va_get (D := g.1) (ci := 4) (v := .int (nI j)) (C := RX5) (T := TX5) (N := 2) hx hb hw inlX5 hown hkn.1 hP 0 rfl rfl 1 (by decide) (hw _ mw_55) (fun _ h9 => h9) rfl dX5_pass_17 ?_
      refine iz_le (a := j) (tgt := 55) hx hb dX5_pass_20 (by decide) rfl (by omega) (fun c_1 => ?_) (fun c_1 => ?_)
      · skip
        have e1 : psN (pl + szN dp) dp = j := by rw [← h_p]; rw [c_1]; rfl
        exact eM_v (g := g) hx hb hr hlocks () (trivial) (show va_P g.1 vwCl [(h0, .inr (4, [.int (nI (pl + szN dp)), .int (nI (psN (pl + szN dp) dp))]))] H by rw [e1]; exact hP.sub [0] rfl) (show va_D A [(h0, .inr (4, [.int (nI (pl + szN dp)), .int (nI (psN (pl + szN dp) dp))]))] by rw [e1]; exact hD.sub [0] (by decide) rfl) hS dX5_pass_55
      · skip
        refine lv_aload_n hx hb dX5_pass_23 rfl (lv_at hl 0 rfl) ?_
        refine va_get (D := g.1) (ci := 4) (v := .int (nI (pl + (szN dp)))) (C := RX5) (T := TX5) (N := 2) hx hb hw inlX5 hown hkn.1 hP 0 rfl rfl 0 (by decide) (hw _ mw_54) (fun _ h9 => h9) rfl dX5_pass_24 ?_
        refine lv_aload_n hx hb dX5_pass_27 rfl (lv_at hl 0 rfl) ?_
        refine va_get (D := g.1) (ci := 4) (v := .int (nI j)) (C := RX5) (T := TX5) (N := 2) hx hb hw inlX5 hown hkn.1 hP 0 rfl rfl 1 (by decide) (hw _ mw_55) (fun _ h9 => h9) rfl dX5_pass_28 ?_
        have hsz := sz_rng (show j - 1 < 4 by omega)
        refine lv_iconst (v := 1) hx hb dX5_pass_31 (by decide) ?_
        refine lv_isub hx hb dX5_pass_32 ?_
        refine lv_eqi (pk_sub (a := j) (b := 1) (by omega)) ?_
        refine cS_i (As := [.int (nI (j - 1))]) (rest := [.int (nI (pl + (szN dp)))]) hx hb hml hown hw hkn hS hl (c_X5_sizeAt l g _ (j - 1) (by omega)) sf_X5_sizeAt mw_166 ⟨(Nat.le_of_ble_eq_true rfl), (Nat.le_of_ble_eq_true rfl)⟩ rfl rfl rfl rfl (Nat.le_of_ble_eq_true rfl) dX5_pass_33 ⟨(Nat.le_of_ble_eq_true rfl), (Nat.le_of_ble_eq_true rfl)⟩ ?_
        refine lv_iconst (v := 1) hx hb dX5_pass_36 (by decide) ?_
        refine lv_isub hx hb dX5_pass_37 ?_
        refine lv_eqi (pk_sub (a := szN (j - 1)) (b := 1) (by omega)) ?_
        refine lv_iand hx hb dX5_pass_38 ?_
        refine lv_eqi (show _ = (nI ((pl + szN dp) % szN (j - 1))) from am_eq (by omega) (by omega)) ?_
        have hmd := Nat.mod_lt (pl + szN dp) (show 0 < szN (j - 1) by omega)
        refine iz_ne (a := (pl + szN dp) % szN (j - 1)) (tgt := 55) hx hb dX5_pass_39 (by decide) rfl (by omega) (fun c_2 => ?_) (fun c_2 => ?_)
        · skip
          have e1 : psN (pl + szN dp) dp = j := by rw [← h_p]; obtain ⟨k, rfl⟩ : ∃ k, j = k + 1 := ⟨j - 1, by omega⟩; show (if (pl + szN dp) % szN k = 0 then psN _ k else k + 1) = k + 1; exact if_neg (Nat.pos_iff_ne_zero.mp c_2)
          exact eM_v (g := g) hx hb hr hlocks () (trivial) (show va_P g.1 vwCl [(h0, .inr (4, [.int (nI (pl + szN dp)), .int (nI (psN (pl + szN dp) dp))]))] H by rw [e1]; exact hP.sub [0] rfl) (show va_D A [(h0, .inr (4, [.int (nI (pl + szN dp)), .int (nI (psN (pl + szN dp) dp))]))] by rw [e1]; exact hD.sub [0] (by decide) rfl) hS dX5_pass_55
        · skip
          refine lv_aload_n hx hb dX5_pass_42 rfl (lv_at hl 0 rfl) ?_
          refine lv_dup hx hb dX5_pass_43 rfl ?_
          refine va_get (D := g.1) (ci := 4) (v := .int (nI j)) (C := RX5) (T := TX5) (N := 2) hx hb hw inlX5 hown hkn.1 hP 0 rfl rfl 1 (by decide) (hw _ mw_55) (fun _ h9 => h9) rfl dX5_pass_44 ?_
          refine lv_iconst (v := 1) hx hb dX5_pass_47 (by decide) ?_
          refine lv_isub hx hb dX5_pass_48 ?_
          refine lv_eqi (pk_sub (a := j) (b := 1) (by omega)) ?_
          refine va_put (D := g.1) (ci := 4) (v := .int (nI (j - 1))) (ty := .int) (C := RX5) (T := TX5) (N := 2) hx hb hw inlX5 tyX5 tyX5_ok nmX5 hown hkn.1 hP hD hS 0 rfl rfl 1 (by decide) (hw _ mw_55) (fun _ h9 => h9) rfl (by decide +kernel) rfl rfl (Nat.le_of_ble_eq_true rfl) dX5_pass_49 (fun H locs hP hD hS => ?_)
          have hP : va_P g.1 vwCl [(h0, .inr (4, [.int (nI (pl + (szN dp))), .int (nI (j - 1))]))] H := hP
          have hD : va_D A [(h0, .inr (4, [.int (nI (pl + (szN dp))), .int (nI (j - 1))]))] := hD
          refine lv_goto (tgt := 16) hx hb dX5_pass_52 (by decide) ?_
          exact ih_16 (j - 1) (by omega) (by rw [← h_p]; obtain ⟨k, rfl⟩ : ∃ k, j = k + 1 := ⟨j - 1, by omega⟩; show psN _ k = if (pl + szN dp) % szN k = 0 then psN _ k else k + 1; exact (if_pos c_2).symm) (by omega) _ _ hP hD hS ls (lv_sub hl [0] rfl)
  exact lp_16 (dp + 1) dp (by omega) (rfl) (by omega) _ _ hP hD hS ls (lv_sub hl [0] rfl)
set_option maxHeartbeats 4000000 in
set_option maxRecDepth 100000 in
theorem c_X5_step (l : Launch) (g : GG) (sz : Nat) (h0 : Nat) (v : Int64) (pl : Nat) (dp : Nat) (hok : okW pl dp) (hpl : pl < 64) : Met l yX5_step (Cond.code yX5_step cX5_step 3 none :: wsL_law) ({ frames := 2, cells := 0, slots := 0, locals := 43 }) (PM g [.ref h0, .long v] [(h0, .inr (4, [.int (nI pl), .int (nI dp)]))] sz) (QAv g (fun (u : Unit) => True) (fun (u : Unit) => [(h0, .inr (4, [.int (nI ((stW v pl dp).1)), .int (nI ((stW v pl dp).2))]))]) (va_A [(h0, .inr (4, [.int (nI pl), .int (nI dp)]))] sz)) 0 0 (va_A [(h0, .inr (4, [.int (nI pl), .int (nI dp)]))] sz) := by
  refine Met.M (Qc := fun A => QAv g (fun (u : Unit) => True) (fun (u : Unit) => [(h0, .inr (4, [.int (nI ((stW v pl dp).1)), .int (nI ((stW v pl dp).2))]))]) A) (by decide) (Nat.le_of_ble_eq_true rfl) rfl ?_
  intro p e s m below meth c hx hb hr hml hw hown hlocks hin A hA hkn hP hD ls hl
  have hl : lv_has ls 3 [(0, .ref h0), (1, .long v)] := hl
  have hS : va_S A s.heap s.heap [] := va_S.rf
  obtain ⟨H, hHe⟩ : ∃ H, H = s.heap := ⟨_, rfl⟩
  obtain ⟨locs, hLe⟩ : ∃ locs : List Loc, locs = [] := ⟨_, rfl⟩
  have hP : va_P g.1 vwCl [(h0, .inr (4, [.int (nI pl), .int (nI dp)]))] H := by rw [hHe]; exact hP
  have hS : va_S A s.heap H locs := by rw [hHe, hLe]; exact hS
  have hgo : W p l e ({ frames := 2, cells := 0, slots := 0, locals := 43 } : Room) s m ([.ref h0, .long v] : List Value).toArray below meth c H locs 0 0 (MQ below (QAv g (fun (u : Unit) => True) (fun (u : Unit) => [(h0, .inr (4, [.int (nI ((stW v pl dp).1)), .int (nI ((stW v pl dp).2))]))]) A) ([.ref h0, .long v] : List Value).toArray s 0 0 A) (F0 m 0 ls []) := ?_
  · rw [hHe, hLe] at hgo; exact hgo
  clear hHe hLe
  have hd3 := hok.1
  refine lv_lload_n hx hb dX5_step_0 rfl (lv_at hl 1 rfl) ?_
  refine lv_aload_n hx hb dX5_step_1 rfl (lv_at hl 0 rfl) ?_
  refine cV_l (As := []) (rest := [.long v]) hx hb hml hown hw hkn hS hl (c_X5_square l g _ h0 pl dp (by omega) (by omega) (hP.sub [0] rfl)) vf_X5_square mw_425 (va_recv hkn.1 hP (ci := 4) (q0 := 0) rfl rfl) ⟨(Nat.le_of_ble_eq_true rfl), (Nat.le_of_ble_eq_true rfl)⟩ rfl rfl rfl rfl (Nat.le_of_ble_eq_true rfl) dX5_step_2 ⟨(Nat.le_of_ble_eq_true rfl), (Nat.le_of_ble_eq_true rfl)⟩ ?_
  refine cS_i (As := [.long v, .long (sqS (dmN pl) dp)]) (rest := []) hx hb hml hown hw hkn hS hl (c_X2_sign l g _ v (sqS (dmN pl) dp) ) sf_X2_sign mw_426 ⟨(Nat.le_of_ble_eq_true rfl), (Nat.le_of_ble_eq_true rfl)⟩ rfl rfl rfl rfl (Nat.le_of_ble_eq_true rfl) dX5_step_5 ⟨(Nat.le_of_ble_eq_true rfl), (Nat.le_of_ble_eq_true rfl)⟩ ?_
  refine lv_bipush (v := 113) hx hb dX5_step_8 (by decide) ?_
  refine lv_icmp_ne (tgt := 20) hx hb dX5_step_10 (by decide) (fun c_1 => ?_) (fun c_1 => ?_)
  · skip
    refine lv_aload_n hx hb dX5_step_20 rfl (lv_at hl 0 rfl) ?_
    refine cVM_v (As := []) (rest := []) (q0 := 0) (wc := [(h0, .inr (4, [.int (nI pl), .int (nI dp)]))]) (wr := []) hx hb hml hown hw hkn hS hl hA hP hD [0] [] rfl rfl (by decide) (by decide) (by decide) (c_X5_pass l g _ h0 pl dp (by first | exact hok | (rw [show ctN dp = dp from if_neg (of_decide_eq_false c_1)]; exact hok)) (by omega)) vf_X5_pass mw_430 rfl rfl ⟨(Nat.le_of_ble_eq_true rfl), (Nat.le_of_ble_eq_true rfl)⟩ rfl rfl rfl rfl (Nat.le_of_ble_eq_true rfl) dX5_step_21 ⟨(Nat.le_of_ble_eq_true rfl), (Nat.le_of_ble_eq_true rfl)⟩ (fun u H locs hq hP hD hS => ?_)
    have hP : va_P g.1 vwCl [(h0, .inr (4, [.int (nI (pl + szN dp)), .int (nI (psN (pl + szN dp) dp))]))] H := hP.sub [0] rfl
    have hD : va_D A [(h0, .inr (4, [.int (nI (pl + szN dp)), .int (nI (psN (pl + szN dp) dp))]))] := hD.sub [0] (by decide) rfl
    have e0 : stW v pl dp = (pl + szN dp, psN (pl + szN dp) dp) := by unfold stW sgW; exact if_neg (fun q => c_1 q.1)
    exact eM_v (g := g) hx hb hr hlocks () (trivial) (show va_P g.1 vwCl [(h0, .inr (4, [.int (nI ((stW v pl dp).1)), .int (nI ((stW v pl dp).2))]))] H by rw [e0]; exact hP.sub [0] rfl) (show va_D A [(h0, .inr (4, [.int (nI ((stW v pl dp).1)), .int (nI ((stW v pl dp).2))]))] by rw [e0]; exact hD.sub [0] (by decide) rfl) hS dX5_step_24
  · skip
    refine lv_aload_n hx hb dX5_step_13 rfl (lv_at hl 0 rfl) ?_
    refine cVM_i (As := []) (rest := []) (q0 := 0) (wc := [(h0, .inr (4, [.int (nI pl), .int (nI dp)]))]) (wr := []) hx hb hml hown hw hkn hS hl hA hP hD [0] [] rfl rfl (by decide) (by decide) (by decide) (c_X5_cut l g _ h0 pl dp (by omega)) vf_X5_cut mw_429 rfl rfl ⟨(Nat.le_of_ble_eq_true rfl), (Nat.le_of_ble_eq_true rfl)⟩ rfl rfl rfl rfl (Nat.le_of_ble_eq_true rfl) dX5_step_14 ⟨(Nat.le_of_ble_eq_true rfl), (Nat.le_of_ble_eq_true rfl)⟩ (fun r u H locs hq hP hD hS => ?_)
    have hq : r = (b2i (decide (dp < 3))) := hq
    subst hq
    have hP : va_P g.1 vwCl [(h0, .inr (4, [.int (nI pl), .int (nI (ctN dp))]))] H := hP.sub [0] rfl
    have hD : va_D A [(h0, .inr (4, [.int (nI pl), .int (nI (ctN dp))]))] := hD.sub [0] (by decide) rfl
    refine lv_ifneB (b := decide (dp < 3)) (tgt := 24) hx hb dX5_step_17 (by decide) (fun c_4 => ?_) (fun c_4 => ?_)
    · skip
      have ec : ctN dp = dp + 1 := by unfold ctN; exact if_pos (of_decide_eq_true c_4)
      have e0 : stW v pl dp = (pl, ctN dp) := by unfold stW sgW; rw [ec]; exact if_pos ⟨c_1, of_decide_eq_true c_4⟩
      exact eM_v (g := g) hx hb hr hlocks () (trivial) (show va_P g.1 vwCl [(h0, .inr (4, [.int (nI ((stW v pl dp).1)), .int (nI ((stW v pl dp).2))]))] H by rw [e0]; exact hP.sub [0] rfl) (show va_D A [(h0, .inr (4, [.int (nI ((stW v pl dp).1)), .int (nI ((stW v pl dp).2))]))] by rw [e0]; exact hD.sub [0] (by decide) rfl) hS dX5_step_24
    · skip
      refine lv_aload_n hx hb dX5_step_20 rfl (lv_at hl 0 rfl) ?_
      refine cVM_v (As := []) (rest := []) (q0 := 0) (wc := [(h0, .inr (4, [.int (nI pl), .int (nI (ctN dp))]))]) (wr := []) hx hb hml hown hw hkn hS hl hA hP hD [0] [] rfl rfl (by decide) (by decide) (by decide) (c_X5_pass l g _ h0 pl (ctN dp) (by first | exact hok | (rw [show ctN dp = dp from if_neg (of_decide_eq_false c_4)]; exact hok)) (by omega)) vf_X5_pass mw_430 rfl rfl ⟨(Nat.le_of_ble_eq_true rfl), (Nat.le_of_ble_eq_true rfl)⟩ rfl rfl rfl rfl (Nat.le_of_ble_eq_true rfl) dX5_step_21 ⟨(Nat.le_of_ble_eq_true rfl), (Nat.le_of_ble_eq_true rfl)⟩ (fun u H locs hq hP hD hS => ?_)
      have hP : va_P g.1 vwCl [(h0, .inr (4, [.int (nI (pl + szN (ctN dp))), .int (nI (psN (pl + szN (ctN dp)) (ctN dp)))]))] H := hP.sub [0] rfl
      have hD : va_D A [(h0, .inr (4, [.int (nI (pl + szN (ctN dp))), .int (nI (psN (pl + szN (ctN dp)) (ctN dp)))]))] := hD.sub [0] (by decide) rfl
      have ec : ctN dp = dp := by unfold ctN; exact if_neg (of_decide_eq_false c_4)
      have e0 : stW v pl dp = (pl + szN (ctN dp), psN (pl + szN (ctN dp)) (ctN dp)) := by unfold stW sgW; rw [ec]; exact if_neg (fun q => absurd q.2 (of_decide_eq_false c_4))
      exact eM_v (g := g) hx hb hr hlocks () (trivial) (show va_P g.1 vwCl [(h0, .inr (4, [.int (nI ((stW v pl dp).1)), .int (nI ((stW v pl dp).2))]))] H by rw [e0]; exact hP.sub [0] rfl) (show va_D A [(h0, .inr (4, [.int (nI ((stW v pl dp).1)), .int (nI ((stW v pl dp).2))]))] by rw [e0]; exact hD.sub [0] (by decide) rfl) hS dX5_step_24
set_option maxHeartbeats 4000000 in
set_option maxRecDepth 100000 in
theorem c_X5_leastLength (l : Launch) (g : GG) (sz : Nat) (h0 : Nat) (v : Int64) (x1 : Int32) (x2 : Int32)  : Met l yX5_leastLength (Cond.code yX5_leastLength cX5_leastLength 4 (some .int) :: wsL_law) ({ frames := 3, cells := 0, slots := 0, locals := 65 }) (PM g [.ref h0, .long v] [(h0, .inr (4, [.int x1, .int x2]))] sz) (QAi g (fun (r : Int32) (u : Nat × Nat) => r = nI (lnS v)) (fun (u : Nat × Nat) => [(h0, .inr (4, [.int (nI u.1), .int (nI u.2)]))]) (va_A [(h0, .inr (4, [.int x1, .int x2]))] sz)) 0 0 (va_A [(h0, .inr (4, [.int x1, .int x2]))] sz) := by
  refine Met.M (Qc := fun A => QAi g (fun (r : Int32) (u : Nat × Nat) => r = nI (lnS v)) (fun (u : Nat × Nat) => [(h0, .inr (4, [.int (nI u.1), .int (nI u.2)]))]) A) (by decide) (Nat.le_of_ble_eq_true rfl) rfl ?_
  intro p e s m below meth c hx hb hr hml hw hown hlocks hin A hA hkn hP hD ls hl
  have hl : lv_has ls 4 [(0, .ref h0), (1, .long v)] := hl
  have hS : va_S A s.heap s.heap [] := va_S.rf
  obtain ⟨H, hHe⟩ : ∃ H, H = s.heap := ⟨_, rfl⟩
  obtain ⟨locs, hLe⟩ : ∃ locs : List Loc, locs = [] := ⟨_, rfl⟩
  have hP : va_P g.1 vwCl [(h0, .inr (4, [.int x1, .int x2]))] H := by rw [hHe]; exact hP
  have hS : va_S A s.heap H locs := by rw [hHe, hLe]; exact hS
  have hgo : W p l e ({ frames := 3, cells := 0, slots := 0, locals := 65 } : Room) s m ([.ref h0, .long v] : List Value).toArray below meth c H locs 0 0 (MQ below (QAi g (fun (r : Int32) (u : Nat × Nat) => r = nI (lnS v)) (fun (u : Nat × Nat) => [(h0, .inr (4, [.int (nI u.1), .int (nI u.2)]))]) A) ([.ref h0, .long v] : List Value).toArray s 0 0 A) (F0 m 0 ls []) := ?_
  · rw [hHe, hLe] at hgo; exact hgo
  clear hHe hLe
  refine lv_aload_n hx hb dX5_leastLength_0 rfl (lv_at hl 0 rfl) ?_
  refine cVM_v (As := []) (rest := []) (q0 := 0) (wc := [(h0, .inr (4, [.int x1, .int x2]))]) (wr := []) hx hb hml hown hw hkn hS hl hA hP hD [0] [] rfl rfl (by decide) (by decide) (by decide) (c_X5_start l g _ h0 x1 x2 ) vf_X5_start mw_419 rfl rfl ⟨(Nat.le_of_ble_eq_true rfl), (Nat.le_of_ble_eq_true rfl)⟩ rfl rfl rfl rfl (Nat.le_of_ble_eq_true rfl) dX5_leastLength_1 ⟨(Nat.le_of_ble_eq_true rfl), (Nat.le_of_ble_eq_true rfl)⟩ (fun u H locs hq hP hD hS => ?_)
  have hP : va_P g.1 vwCl [(h0, .inr (4, [.int 0, .int 0]))] H := hP.sub [0] rfl
  have hD : va_D A [(h0, .inr (4, [.int 0, .int 0]))] := hD.sub [0] (by decide) rfl
  refine lv_iconst (v := 0) hx hb dX5_leastLength_4 (by decide) ?_
  refine lv_istore_n (lv' := [(3, .int 0), (0, .ref h0), (1, .long v)]) hx hb dX5_leastLength_5 rfl hl (by decide) rfl (fun ls hl => ?_)
  have lp_6 : ∀ (n_6 : Nat) (i : Nat) (p1 : Nat) (d1 : Nat), (i ≤ 85) → (wkS v i = (p1, d1)) → (okW p1 d1) → (lnG v (85 - i) i = lnG v 85 0) → 85 < i + n_6 → ∀ (H : Heap) (locs : List Loc), va_P g.1 vwCl [(h0, .inr (4, [.int (nI p1), .int (nI d1)]))] H → va_D A [(h0, .inr (4, [.int (nI p1), .int (nI d1)]))] → va_S A s.heap H locs → ∀ (ls : Array Slot), lv_has ls 4 [(3, .int (nI i)), (0, .ref h0), (1, .long v)] → W p l e ({ frames := 3, cells := 0, slots := 0, locals := 65 } : Room) s m ([.ref h0, .long v] : List Value).toArray below meth c H locs 0 0 (MQ below (QAi g (fun (r : Int32) (u : Nat × Nat) => r = nI (lnS v)) (fun (u : Nat × Nat) => [(h0, .inr (4, [.int (nI u.1), .int (nI u.2)]))]) A) ([.ref h0, .long v] : List Value).toArray s 0 0 A) (F0 m 6 ls []) := by
    intro n_6
    induction n_6 with
    | zero => intro i p1 d1 h_i h_w h_o h_n hfu_6; exact absurd hfu_6 (by omega)
    | succ n_6 ih_6 =>
      intro i p1 d1 h_i h_w h_o h_n hfu_6 H locs hP hD hS ls hl
      have ho2 := h_o.2.1
      have h_s : ∀ k, 85 - i = k + 1 → lnG v 85 0 = if 64 ≤ p1 then i else lnG v k (i + 1) := fun k hk => by rw [← h_n, hk]; show (if 64 ≤ (wkS v i).1 then i else _) = _; rw [h_w]
      refine lv_iload_n hx hb dX5_leastLength_6 rfl (lv_at hl 0 rfl) ?_
      refine lv_bipush (v := 85) hx hb dX5_leastLength_7 (by decide) ?_
      refine ic_ge (a := i) (d := 85) (tgt := 30) hx hb dX5_leastLength_9 (by decide) rfl rfl (by omega) (by omega) (fun c_2 => ?_) (fun c_2 => ?_)
      · skip
        refine lv_iload_n hx hb dX5_leastLength_30 rfl (lv_at hl 0 rfl) ?_
        exact eM_i (g := g) hx hb hr hlocks (p1, d1) (by rw [show 85 - i = 0 by omega] at h_n; exact congrArg nI h_n) (hP.sub [0] rfl) (hD.sub [0] (by decide) rfl) hS dX5_leastLength_31
      · skip
        refine lv_aload_n hx hb dX5_leastLength_12 rfl (lv_at hl 1 rfl) ?_
        refine cV_i (As := []) (rest := []) hx hb hml hown hw hkn hS hl (c_X5_hasEnded l g _ h0 p1 d1 (by omega) (hP.sub [0] rfl)) vf_X5_hasEnded mw_420 (va_recv hkn.1 hP (ci := 4) (q0 := 0) rfl rfl) ⟨(Nat.le_of_ble_eq_true rfl), (Nat.le_of_ble_eq_true rfl)⟩ rfl rfl rfl rfl (Nat.le_of_ble_eq_true rfl) dX5_leastLength_13 ⟨(Nat.le_of_ble_eq_true rfl), (Nat.le_of_ble_eq_true rfl)⟩ ?_
        refine lv_ifneB (b := decide (64 ≤ p1)) (tgt := 30) hx hb dX5_leastLength_16 (by decide) (fun c_3 => ?_) (fun c_3 => ?_)
        · skip
          refine lv_iload_n hx hb dX5_leastLength_30 rfl (lv_at hl 0 rfl) ?_
          exact eM_i (g := g) hx hb hr hlocks (p1, d1) (by have h9 := h_s (85 - (i + 1)) (by omega); rw [if_pos (of_decide_eq_true c_3)] at h9; exact congrArg nI h9.symm) (hP.sub [0] rfl) (hD.sub [0] (by decide) rfl) hS dX5_leastLength_31
        · skip
          have hne : p1 < 64 := Nat.lt_of_not_le (of_decide_eq_false c_3)
          refine lv_aload_n hx hb dX5_leastLength_19 rfl (lv_at hl 1 rfl) ?_
          refine lv_lload_n hx hb dX5_leastLength_20 rfl (lv_at hl 2 rfl) ?_
          refine cVM_v (As := [.long v]) (rest := []) (q0 := 0) (wc := [(h0, .inr (4, [.int (nI p1), .int (nI d1)]))]) (wr := []) hx hb hml hown hw hkn hS hl hA hP hD [0] [] rfl rfl (by decide) (by decide) (by decide) (c_X5_step l g _ h0 v p1 d1 (h_o) (hne)) vf_X5_step mw_421 rfl rfl ⟨(Nat.le_of_ble_eq_true rfl), (Nat.le_of_ble_eq_true rfl)⟩ rfl rfl rfl rfl (Nat.le_of_ble_eq_true rfl) dX5_leastLength_21 ⟨(Nat.le_of_ble_eq_true rfl), (Nat.le_of_ble_eq_true rfl)⟩ (fun u H locs hq hP hD hS => ?_)
          have hP : va_P g.1 vwCl [(h0, .inr (4, [.int (nI ((stW v p1 d1).1)), .int (nI ((stW v p1 d1).2))]))] H := hP.sub [0] rfl
          have hD : va_D A [(h0, .inr (4, [.int (nI ((stW v p1 d1).1)), .int (nI ((stW v p1 d1).2))]))] := hD.sub [0] (by decide) rfl
          refine lv_iinc (v := (nI (i + 1))) (lv' := [(3, .int (nI (i + 1))), (0, .ref h0), (1, .long v)]) hx hb dX5_leastLength_24 hl (k := 0) rfl (nI_1 i) (by decide) rfl (fun ls hl => ?_)
          refine lv_goto (tgt := 6) hx hb dX5_leastLength_27 (by decide) ?_
          exact ih_6 (i + 1) ((stW v p1 d1).1) ((stW v p1 d1).2) (by omega) (by show stW v (wkS v i).1 (wkS v i).2 = _; rw [h_w]) (okW_st h_o hne) (by rw [h_s (85 - (i + 1)) (by omega)]; exact (if_neg (Nat.not_le.mpr hne)).symm) (by omega) _ _ hP hD hS ls (lv_sub hl [0, 1, 2] rfl)
  exact lp_6 86 0 0 0 (by omega) (rfl) (okW_0) (rfl) (by omega) _ _ hP hD hS ls (lv_sub hl [0, 1, 2] rfl)
set_option maxHeartbeats 4000000 in
set_option maxRecDepth 100000 in
theorem c_X5_leastLetter (l : Launch) (g : GG) (sz : Nat) (h0 : Nat) (v : Int64) (x0 : Int32) (x1 : Int32) (x2 : Int32)  : Met l yX5_leastLetter (Cond.code yX5_leastLetter cX5_leastLetter 5 (some .int) :: wsL_law) ({ frames := 3, cells := 0, slots := 0, locals := 65 }) (PM g [.ref h0, .long v, .int x0] [(h0, .inr (4, [.int x1, .int x2]))] sz) (QAi g (fun (r : Int32) (u : Int32 × Int32) => r = llS v x0) (fun (u : Int32 × Int32) => [(h0, .inr (4, [.int u.1, .int u.2]))]) (va_A [(h0, .inr (4, [.int x1, .int x2]))] sz)) 0 0 (va_A [(h0, .inr (4, [.int x1, .int x2]))] sz) := by
  refine Met.M (Qc := fun A => QAi g (fun (r : Int32) (u : Int32 × Int32) => r = llS v x0) (fun (u : Int32 × Int32) => [(h0, .inr (4, [.int u.1, .int u.2]))]) A) (by decide) (Nat.le_of_ble_eq_true rfl) rfl ?_
  intro p e s m below meth c hx hb hr hml hw hown hlocks hin A hA hkn hP hD ls hl
  have hl : lv_has ls 5 [(0, .ref h0), (1, .long v), (3, .int x0)] := hl
  have hS : va_S A s.heap s.heap [] := va_S.rf
  obtain ⟨H, hHe⟩ : ∃ H, H = s.heap := ⟨_, rfl⟩
  obtain ⟨locs, hLe⟩ : ∃ locs : List Loc, locs = [] := ⟨_, rfl⟩
  have hP : va_P g.1 vwCl [(h0, .inr (4, [.int x1, .int x2]))] H := by rw [hHe]; exact hP
  have hS : va_S A s.heap H locs := by rw [hHe, hLe]; exact hS
  have hgo : W p l e ({ frames := 3, cells := 0, slots := 0, locals := 65 } : Room) s m ([.ref h0, .long v, .int x0] : List Value).toArray below meth c H locs 0 0 (MQ below (QAi g (fun (r : Int32) (u : Int32 × Int32) => r = llS v x0) (fun (u : Int32 × Int32) => [(h0, .inr (4, [.int u.1, .int u.2]))]) A) ([.ref h0, .long v, .int x0] : List Value).toArray s 0 0 A) (F0 m 0 ls []) := ?_
  · rw [hHe, hLe] at hgo; exact hgo
  clear hHe hLe
  refine lv_iload_n hx hb dX5_leastLetter_0 rfl (lv_at hl 2 rfl) ?_
  refine lv_if_lt (tgt := 10) hx hb dX5_leastLetter_1 (by decide) (fun c_1 => ?_) (fun c_1 => ?_)
  · skip
    refine lv_bipush (v := (-9)) hx hb dX5_leastLetter_10 (by decide) ?_
    exact eM_i (g := g) hx hb hr hlocks (x1, x2) (by unfold llS; rw [if_pos c_1]) (hP.sub [0] rfl) (hD.sub [0] (by decide) rfl) hS dX5_leastLetter_12
  · skip
    refine lv_iload_n hx hb dX5_leastLetter_4 rfl (lv_at hl 2 rfl) ?_
    refine lv_bipush (v := 85) hx hb dX5_leastLetter_5 (by decide) ?_
    refine lv_icmp_lt (tgt := 13) hx hb dX5_leastLetter_7 (by decide) (fun c_2 => ?_) (fun c_2 => ?_)
    · skip
      obtain ⟨x9, hx9, ex9⟩ := isRng_of (p := x0) (N := 85) (z := 85) rfl (by decide) ⟨c_1, Int32.not_le.mpr c_2⟩
      refine lv_aload_n hx hb dX5_leastLetter_13 rfl (lv_at hl 0 rfl) ?_
      refine cVM_v (As := []) (rest := []) (q0 := 0) (wc := [(h0, .inr (4, [.int x1, .int x2]))]) (wr := []) hx hb hml hown hw hkn hS hl hA hP hD [0] [] rfl rfl (by decide) (by decide) (by decide) (c_X5_start l g _ h0 x1 x2 ) vf_X5_start mw_419 rfl rfl ⟨(Nat.le_of_ble_eq_true rfl), (Nat.le_of_ble_eq_true rfl)⟩ rfl rfl rfl rfl (Nat.le_of_ble_eq_true rfl) dX5_leastLetter_14 ⟨(Nat.le_of_ble_eq_true rfl), (Nat.le_of_ble_eq_true rfl)⟩ (fun u H locs hq hP hD hS => ?_)
      have hP : va_P g.1 vwCl [(h0, .inr (4, [.int 0, .int 0]))] H := hP.sub [0] rfl
      have hD : va_D A [(h0, .inr (4, [.int 0, .int 0]))] := hD.sub [0] (by decide) rfl
      refine lv_iconst (v := 0) hx hb dX5_leastLetter_17 (by decide) ?_
      refine lv_istore (lv' := [(4, .int 0), (0, .ref h0), (1, .long v), (3, .int x0)]) hx hb dX5_leastLetter_18 hl (by decide) rfl (fun ls hl => ?_)
      have lp_20 : ∀ (n_20 : Nat) (i : Nat) (p1 : Nat) (d1 : Nat), (i ≤ x9) → (wkS v i = (p1, d1)) → (okW p1 d1) → (llG v (x9 - i) i = llG v x9 0) → x9 < i + n_20 → ∀ (H : Heap) (locs : List Loc), va_P g.1 vwCl [(h0, .inr (4, [.int (nI p1), .int (nI d1)]))] H → va_D A [(h0, .inr (4, [.int (nI p1), .int (nI d1)]))] → va_S A s.heap H locs → ∀ (ls : Array Slot), lv_has ls 5 [(4, .int (nI i)), (0, .ref h0), (1, .long v), (3, .int x0)] → W p l e ({ frames := 3, cells := 0, slots := 0, locals := 65 } : Room) s m ([.ref h0, .long v, .int x0] : List Value).toArray below meth c H locs 0 0 (MQ below (QAi g (fun (r : Int32) (u : Int32 × Int32) => r = llS v x0) (fun (u : Int32 × Int32) => [(h0, .inr (4, [.int u.1, .int u.2]))]) A) ([.ref h0, .long v, .int x0] : List Value).toArray s 0 0 A) (F0 m 20 ls []) := by
        intro n_20
        induction n_20 with
        | zero => intro i p1 d1 h_i h_w h_o h_n hfu_20; exact absurd hfu_20 (by omega)
        | succ n_20 ih_20 =>
          intro i p1 d1 h_i h_w h_o h_n hfu_20 H locs hP hD hS ls hl
          have ho1 := h_o.1
          have ho2 := h_o.2.1
          have h_f : finS v i = if 64 ≤ p1 then -9 else sgW v p1 d1 := by unfold finS; rw [h_w]
          have h_s : ∀ k, x9 - i = k + 1 → llG v x9 0 = if 64 ≤ p1 then finS v i else llG v k (i + 1) := fun k hk => by rw [← h_n, hk]; show (if 64 ≤ (wkS v i).1 then _ else _) = _; rw [h_w]
          have h_ll : llS v x0 = llG v x9 0 := by unfold llS; rw [if_neg c_1, if_pos c_2, ex9, nI_clamp (by omega)]
          refine lv_iload hx hb dX5_leastLetter_20 (lv_at hl 0 rfl) ?_
          refine lv_iload_n hx hb dX5_leastLetter_22 rfl (lv_at hl 3 rfl) ?_
          refine lv_eqi (show _ = (nI x9) from ex9) ?_
          refine ic_ge (a := i) (d := x9) (tgt := 44) hx hb dX5_leastLetter_23 (by decide) rfl rfl (by omega) (by omega) (fun c_4 => ?_) (fun c_4 => ?_)
          · skip
            refine lv_aload_n hx hb dX5_leastLetter_44 rfl (lv_at hl 1 rfl) ?_
            refine cV_i (As := []) (rest := []) hx hb hml hown hw hkn hS hl (c_X5_hasEnded l g _ h0 p1 d1 (by omega) (hP.sub [0] rfl)) vf_X5_hasEnded mw_420 (va_recv hkn.1 hP (ci := 4) (q0 := 0) rfl rfl) ⟨(Nat.le_of_ble_eq_true rfl), (Nat.le_of_ble_eq_true rfl)⟩ rfl rfl rfl rfl (Nat.le_of_ble_eq_true rfl) dX5_leastLetter_45 ⟨(Nat.le_of_ble_eq_true rfl), (Nat.le_of_ble_eq_true rfl)⟩ ?_
            refine lv_ifeqB (b := decide (64 ≤ p1)) (tgt := 56) hx hb dX5_leastLetter_48 (by decide) (fun c_5 => ?_) (fun c_5 => ?_)
            · skip
              refine lv_lload_n hx hb dX5_leastLetter_56 rfl (lv_at hl 2 rfl) ?_
              refine lv_aload_n hx hb dX5_leastLetter_57 rfl (lv_at hl 1 rfl) ?_
              refine cV_l (As := []) (rest := [.long v]) hx hb hml hown hw hkn hS hl (c_X5_square l g _ h0 p1 d1 (Nat.lt_of_not_le (of_decide_eq_false c_5)) (by omega) (hP.sub [0] rfl)) vf_X5_square mw_425 (va_recv hkn.1 hP (ci := 4) (q0 := 0) rfl rfl) ⟨(Nat.le_of_ble_eq_true rfl), (Nat.le_of_ble_eq_true rfl)⟩ rfl rfl rfl rfl (Nat.le_of_ble_eq_true rfl) dX5_leastLetter_58 ⟨(Nat.le_of_ble_eq_true rfl), (Nat.le_of_ble_eq_true rfl)⟩ ?_
              refine cS_i (As := [.long v, .long (sqS (dmN p1) d1)]) (rest := []) hx hb hml hown hw hkn hS hl (c_X2_sign l g _ v (sqS (dmN p1) d1) ) sf_X2_sign mw_426 ⟨(Nat.le_of_ble_eq_true rfl), (Nat.le_of_ble_eq_true rfl)⟩ rfl rfl rfl rfl (Nat.le_of_ble_eq_true rfl) dX5_leastLetter_61 ⟨(Nat.le_of_ble_eq_true rfl), (Nat.le_of_ble_eq_true rfl)⟩ ?_
              exact eM_i (g := g) hx hb hr hlocks (nI p1, nI d1) (by rw [h_ll, ← h_n, show x9 - i = 0 by omega]; show _ = finS v i; rw [h_f]; exact (if_neg (of_decide_eq_false c_5)).symm) (hP.sub [0] rfl) (hD.sub [0] (by decide) rfl) hS dX5_leastLetter_64
            · skip
              refine lv_bipush (v := (-9)) hx hb dX5_leastLetter_51 (by decide) ?_
              refine lv_goto (tgt := 64) hx hb dX5_leastLetter_53 (by decide) ?_
              exact eM_i (g := g) hx hb hr hlocks (nI p1, nI d1) (by rw [h_ll, ← h_n, show x9 - i = 0 by omega]; show _ = finS v i; rw [h_f]; exact (if_pos (of_decide_eq_true c_5)).symm) (hP.sub [0] rfl) (hD.sub [0] (by decide) rfl) hS dX5_leastLetter_64
          · skip
            refine lv_aload_n hx hb dX5_leastLetter_26 rfl (lv_at hl 1 rfl) ?_
            refine cV_i (As := []) (rest := []) hx hb hml hown hw hkn hS hl (c_X5_hasEnded l g _ h0 p1 d1 (by omega) (hP.sub [0] rfl)) vf_X5_hasEnded mw_420 (va_recv hkn.1 hP (ci := 4) (q0 := 0) rfl rfl) ⟨(Nat.le_of_ble_eq_true rfl), (Nat.le_of_ble_eq_true rfl)⟩ rfl rfl rfl rfl (Nat.le_of_ble_eq_true rfl) dX5_leastLetter_27 ⟨(Nat.le_of_ble_eq_true rfl), (Nat.le_of_ble_eq_true rfl)⟩ ?_
            refine lv_ifneB (b := decide (64 ≤ p1)) (tgt := 44) hx hb dX5_leastLetter_30 (by decide) (fun c_6 => ?_) (fun c_6 => ?_)
            · skip
              refine lv_aload_n hx hb dX5_leastLetter_44 rfl (lv_at hl 1 rfl) ?_
              refine cV_i (As := []) (rest := []) hx hb hml hown hw hkn hS hl (c_X5_hasEnded l g _ h0 p1 d1 (by omega) (hP.sub [0] rfl)) vf_X5_hasEnded mw_420 (va_recv hkn.1 hP (ci := 4) (q0 := 0) rfl rfl) ⟨(Nat.le_of_ble_eq_true rfl), (Nat.le_of_ble_eq_true rfl)⟩ rfl rfl rfl rfl (Nat.le_of_ble_eq_true rfl) dX5_leastLetter_45 ⟨(Nat.le_of_ble_eq_true rfl), (Nat.le_of_ble_eq_true rfl)⟩ ?_
              refine lv_ifeqB (b := decide (64 ≤ p1)) (tgt := 56) hx hb dX5_leastLetter_48 (by decide) (fun c_7 => ?_) (fun c_7 => ?_)
              · skip
                refine lv_lload_n hx hb dX5_leastLetter_56 rfl (lv_at hl 2 rfl) ?_
                refine lv_aload_n hx hb dX5_leastLetter_57 rfl (lv_at hl 1 rfl) ?_
                refine cV_l (As := []) (rest := [.long v]) hx hb hml hown hw hkn hS hl (c_X5_square l g _ h0 p1 d1 (Nat.lt_of_not_le (of_decide_eq_false c_7)) (by omega) (hP.sub [0] rfl)) vf_X5_square mw_425 (va_recv hkn.1 hP (ci := 4) (q0 := 0) rfl rfl) ⟨(Nat.le_of_ble_eq_true rfl), (Nat.le_of_ble_eq_true rfl)⟩ rfl rfl rfl rfl (Nat.le_of_ble_eq_true rfl) dX5_leastLetter_58 ⟨(Nat.le_of_ble_eq_true rfl), (Nat.le_of_ble_eq_true rfl)⟩ ?_
                refine cS_i (As := [.long v, .long (sqS (dmN p1) d1)]) (rest := []) hx hb hml hown hw hkn hS hl (c_X2_sign l g _ v (sqS (dmN p1) d1) ) sf_X2_sign mw_426 ⟨(Nat.le_of_ble_eq_true rfl), (Nat.le_of_ble_eq_true rfl)⟩ rfl rfl rfl rfl (Nat.le_of_ble_eq_true rfl) dX5_leastLetter_61 ⟨(Nat.le_of_ble_eq_true rfl), (Nat.le_of_ble_eq_true rfl)⟩ ?_
                exact eM_i (g := g) hx hb hr hlocks (nI p1, nI d1) (by rw [h_ll, h_s (x9 - (i + 1)) (by omega), if_pos (of_decide_eq_true c_6), h_f]; exact (if_neg (of_decide_eq_false c_7)).symm) (hP.sub [0] rfl) (hD.sub [0] (by decide) rfl) hS dX5_leastLetter_64
              · skip
                refine lv_bipush (v := (-9)) hx hb dX5_leastLetter_51 (by decide) ?_
                refine lv_goto (tgt := 64) hx hb dX5_leastLetter_53 (by decide) ?_
                exact eM_i (g := g) hx hb hr hlocks (nI p1, nI d1) (by rw [h_ll, h_s (x9 - (i + 1)) (by omega), if_pos (of_decide_eq_true c_6), h_f]; exact (if_pos (of_decide_eq_true c_7)).symm) (hP.sub [0] rfl) (hD.sub [0] (by decide) rfl) hS dX5_leastLetter_64
            · skip
              have hne : p1 < 64 := Nat.lt_of_not_le (of_decide_eq_false c_6)
              refine lv_aload_n hx hb dX5_leastLetter_33 rfl (lv_at hl 1 rfl) ?_
              refine lv_lload_n hx hb dX5_leastLetter_34 rfl (lv_at hl 2 rfl) ?_
              refine cVM_v (As := [.long v]) (rest := []) (q0 := 0) (wc := [(h0, .inr (4, [.int (nI p1), .int (nI d1)]))]) (wr := []) hx hb hml hown hw hkn hS hl hA hP hD [0] [] rfl rfl (by decide) (by decide) (by decide) (c_X5_step l g _ h0 v p1 d1 (h_o) (hne)) vf_X5_step mw_421 rfl rfl ⟨(Nat.le_of_ble_eq_true rfl), (Nat.le_of_ble_eq_true rfl)⟩ rfl rfl rfl rfl (Nat.le_of_ble_eq_true rfl) dX5_leastLetter_35 ⟨(Nat.le_of_ble_eq_true rfl), (Nat.le_of_ble_eq_true rfl)⟩ (fun u H locs hq hP hD hS => ?_)
              have hP : va_P g.1 vwCl [(h0, .inr (4, [.int (nI ((stW v p1 d1).1)), .int (nI ((stW v p1 d1).2))]))] H := hP.sub [0] rfl
              have hD : va_D A [(h0, .inr (4, [.int (nI ((stW v p1 d1).1)), .int (nI ((stW v p1 d1).2))]))] := hD.sub [0] (by decide) rfl
              refine lv_iinc (v := (nI (i + 1))) (lv' := [(4, .int (nI (i + 1))), (0, .ref h0), (1, .long v), (3, .int x0)]) hx hb dX5_leastLetter_38 hl (k := 0) rfl (nI_1 i) (by decide) rfl (fun ls hl => ?_)
              refine lv_goto (tgt := 20) hx hb dX5_leastLetter_41 (by decide) ?_
              exact ih_20 (i + 1) ((stW v p1 d1).1) ((stW v p1 d1).2) (by omega) (by show stW v (wkS v i).1 (wkS v i).2 = _; rw [h_w]) (okW_st h_o hne) (by rw [h_s (x9 - (i + 1)) (by omega)]; exact (if_neg (Nat.not_le.mpr hne)).symm) (by omega) _ _ hP hD hS ls (lv_sub hl [0, 1, 2, 3] rfl)
      exact lp_20 (x9 + 1) 0 0 0 (by omega) (rfl) (okW_0) (rfl) (by omega) _ _ hP hD hS ls (lv_sub hl [0, 1, 2, 3] rfl)
    · skip
      refine lv_bipush (v := (-9)) hx hb dX5_leastLetter_10 (by decide) ?_
      exact eM_i (g := g) hx hb hr hlocks (x1, x2) (by unfold llS; rw [if_neg c_1, if_neg c_2]) (hP.sub [0] rfl) (hD.sub [0] (by decide) rfl) hS dX5_leastLetter_12
set_option maxHeartbeats 4000000 in
set_option maxRecDepth 100000 in
theorem c_X4_init (l : Launch) (g : GG) (sz : Nat) (h0 : Nat) (sx : Int32) (dx : Int64)  : Met l yX4_init (Cond.code yX4_init cX4_init 1 none :: wsL_law) ({ frames := 2, cells := 2, slots := 66, locals := 40 }) (PM g [.ref h0] [(h0, .inr (3, [.null, .null, .int sx, .long dx]))] sz) (QAv g (fun (u : Nat × Nat) => True) (fun (u : Nat × Nat) => [(h0, .inr (3, [.ref u.1, .ref u.2, .int 0, .long 0])), (u.1, .inl (gI g, 64, .inl (fun _ => 0))), (u.2, .inr (4, [.int 0, .int 0]))]) (va_A [(h0, .inr (3, [.null, .null, .int sx, .long dx]))] sz)) 2 66 (va_A [(h0, .inr (3, [.null, .null, .int sx, .long dx]))] sz) := by
  refine Met.M (Qc := fun A => QAv g (fun (u : Nat × Nat) => True) (fun (u : Nat × Nat) => [(h0, .inr (3, [.ref u.1, .ref u.2, .int 0, .long 0])), (u.1, .inl (gI g, 64, .inl (fun _ => 0))), (u.2, .inr (4, [.int 0, .int 0]))]) A) (by decide) (Nat.le_of_ble_eq_true rfl) rfl ?_
  intro p e s m below meth c hx hb hr hml hw hown hlocks hin A hA hkn hP hD ls hl
  have hl : lv_has ls 1 [(0, .ref h0)] := hl
  have hS : va_S A s.heap s.heap [] := va_S.rf
  obtain ⟨H, hHe⟩ : ∃ H, H = s.heap := ⟨_, rfl⟩
  obtain ⟨locs, hLe⟩ : ∃ locs : List Loc, locs = [] := ⟨_, rfl⟩
  have hP : va_P g.1 vwCl [(h0, .inr (3, [.null, .null, .int sx, .long dx]))] H := by rw [hHe]; exact hP
  have hS : va_S A s.heap H locs := by rw [hHe, hLe]; exact hS
  have hgo : W p l e ({ frames := 2, cells := 2, slots := 66, locals := 40 } : Room) s m ([.ref h0] : List Value).toArray below meth c H locs 0 0 (MQ below (QAv g (fun (u : Nat × Nat) => True) (fun (u : Nat × Nat) => [(h0, .inr (3, [.ref u.1, .ref u.2, .int 0, .long 0])), (u.1, .inl (gI g, 64, .inl (fun _ => 0))), (u.2, .inr (4, [.int 0, .int 0]))]) A) ([.ref h0] : List Value).toArray s 2 66 A) (F0 m 0 ls []) := ?_
  · rw [hHe, hLe] at hgo; exact hgo
  clear hHe hLe
  refine lv_aload_n hx hb dX4_init_0 rfl (lv_at hl 0 rfl) ?_
  refine W.objInit hx hb hown (hw _ mw_45) (hw _ mw_11) (hw _ mw_12) rfl (by rw [hml]; exact hl.1) rfl dX4_init_1 (Nat.le_of_ble_eq_true rfl) (Nat.le_of_ble_eq_true rfl) ?_
  refine W.eq (g2 := F0 m 4 ls []) rfl ?_
  refine lv_aload_n hx hb dX4_init_4 rfl (lv_at hl 0 rfl) ?_
  refine lv_bipush (v := 64) hx hb dX4_init_5 (by decide) ?_
  refine va_newG (t0 := 0) (atype := .int) (a0 := (64, .inl (fun _ => 0))) hx hb (hw _ mw_35) (ty := .int) rfl hkn.1 rfl hP hD hS hA (fun _ => rfl) (by decide) (by decide) (by decide) (Nat.le_of_ble_eq_true rfl) (Nat.le_of_ble_eq_true rfl) dX4_init_7 (fun q7 H hP hD hS => ?_)
  have hP : va_P g.1 vwCl [(h0, .inr (3, [.null, .null, .int sx, .long dx])), (q7, .inl (gI g, 64, .inl (fun _ => 0)))] H := hP
  have hD : va_D A [(h0, .inr (3, [.null, .null, .int sx, .long dx])), (q7, .inl (gI g, 64, .inl (fun _ => 0)))] := hD
  refine W.widen (k := 1) (n := 64) (by omega) (by omega) ?_
  refine va_putF (D := g.1) (ci := 3) (v := .ref q7) (ty := (.array .int)) (C := RX4) (T := TX4) (N := 4) hx hb hw inlX4 tyX4 tyX4_ok nmX4 hown hkn.1 hP hD hS 0 rfl rfl 0 (by decide) (hw _ mw_46) (fun _ h9 => h9) rfl hin rfl (by decide +kernel) rfl rfl (Nat.le_of_ble_eq_true rfl) dX4_init_9 (fun H locs hP hD hS => ?_)
  have hP : va_P g.1 vwCl [(h0, .inr (3, [.ref q7, .null, .int sx, .long dx])), (q7, .inl (gI g, 64, .inl (fun _ => 0)))] H := hP
  have hD : va_D A [(h0, .inr (3, [.ref q7, .null, .int sx, .long dx])), (q7, .inl (gI g, 64, .inl (fun _ => 0)))] := hD
  refine lv_aload_n hx hb dX4_init_12 rfl (lv_at hl 0 rfl) ?_
  refine va_new (ci := 4) (fs := [.int 0, .int 0]) (C := RX5) (T := TX5) (N := 2) hx hb hw inlX5 tyX5 tyX5_ok hown (hw _ mw_47) (hw _ mw_32) (hw _ mw_33) hkn.1 hP hD hS hA rfl (fun j hj => by rcases (show j = 0 ∨ j = 1 by omega) with rfl | rfl <;> rfl) (Nat.le_of_ble_eq_true rfl) (Nat.le_of_ble_eq_true rfl) dX4_init_13 (fun q13 H hP hD hS => ?_)
  have hP : va_P g.1 vwCl [(h0, .inr (3, [.ref q7, .null, .int sx, .long dx])), (q7, .inl (gI g, 64, .inl (fun _ => 0))), (q13, .inr (4, [.int 0, .int 0]))] H := hP
  have hD : va_D A [(h0, .inr (3, [.ref q7, .null, .int sx, .long dx])), (q7, .inl (gI g, 64, .inl (fun _ => 0))), (q13, .inr (4, [.int 0, .int 0]))] := hD
  refine W.widen (k := 2) (n := 66) (by omega) (by omega) ?_
  refine lv_dup hx hb dX4_init_16 rfl ?_
  refine cNM (As := []) (rest := [.ref q13, .ref h0]) (wc := [(q13, .inr (4, [.int 0, .int 0]))]) (wr := [(h0, .inr (3, [.ref q7, .null, .int sx, .long dx])), (q7, .inl (gI g, 64, .inl (fun _ => 0)))]) hx hb hml hown hw hkn hS hl hA hP hD [2] [0, 1] rfl rfl (by decide) (by decide) (by decide) (c_X5_init l g _ q13 0 0 ) if_X5_init (hkn.nest 7 rfl) ⟨(Nat.le_of_ble_eq_true rfl), (Nat.le_of_ble_eq_true rfl)⟩ rfl rfl rfl rfl (Nat.le_of_ble_eq_true rfl) dX4_init_17 ⟨(Nat.le_of_ble_eq_true rfl), (Nat.le_of_ble_eq_true rfl)⟩ (fun u H locs hq hP hD hS => ?_)
  have hP : va_P g.1 vwCl [(h0, .inr (3, [.ref q7, .null, .int sx, .long dx])), (q7, .inl (gI g, 64, .inl (fun _ => 0))), (q13, .inr (4, [.int 0, .int 0]))] H := hP.sub [0, 1, 2] rfl
  have hD : va_D A [(h0, .inr (3, [.ref q7, .null, .int sx, .long dx])), (q7, .inl (gI g, 64, .inl (fun _ => 0))), (q13, .inr (4, [.int 0, .int 0]))] := hD.sub [0, 1, 2] (by decide) rfl
  refine va_putF (D := g.1) (ci := 3) (v := .ref q13) (ty := (.object "QuarterWords$Walk")) (C := RX4) (T := TX4) (N := 4) hx hb hw inlX4 tyX4 tyX4_ok nmX4 hown hkn.1 hP hD hS 0 rfl rfl 1 (by decide) (hw _ mw_48) (fun _ h9 => h9) rfl hin rfl (by decide +kernel) rfl rfl (Nat.le_of_ble_eq_true rfl) dX4_init_20 (fun H locs hP hD hS => ?_)
  have hP : va_P g.1 vwCl [(h0, .inr (3, [.ref q7, .ref q13, .int sx, .long dx])), (q7, .inl (gI g, 64, .inl (fun _ => 0))), (q13, .inr (4, [.int 0, .int 0]))] H := hP
  have hD : va_D A [(h0, .inr (3, [.ref q7, .ref q13, .int sx, .long dx])), (q7, .inl (gI g, 64, .inl (fun _ => 0))), (q13, .inr (4, [.int 0, .int 0]))] := hD
  refine lv_aload_n hx hb dX4_init_23 rfl (lv_at hl 0 rfl) ?_
  refine lv_iconst (v := 0) hx hb dX4_init_24 (by decide) ?_
  refine va_put (D := g.1) (ci := 3) (v := .int 0) (ty := .int) (C := RX4) (T := TX4) (N := 4) hx hb hw inlX4 tyX4 tyX4_ok nmX4 hown hkn.1 hP hD hS 0 rfl rfl 2 (by decide) (hw _ mw_49) (fun _ h9 => h9) rfl (by decide +kernel) rfl rfl (Nat.le_of_ble_eq_true rfl) dX4_init_25 (fun H locs hP hD hS => ?_)
  have hP : va_P g.1 vwCl [(h0, .inr (3, [.ref q7, .ref q13, .int 0, .long dx])), (q7, .inl (gI g, 64, .inl (fun _ => 0))), (q13, .inr (4, [.int 0, .int 0]))] H := hP
  have hD : va_D A [(h0, .inr (3, [.ref q7, .ref q13, .int 0, .long dx])), (q7, .inl (gI g, 64, .inl (fun _ => 0))), (q13, .inr (4, [.int 0, .int 0]))] := hD
  refine lv_aload_n hx hb dX4_init_28 rfl (lv_at hl 0 rfl) ?_
  refine lv_lconst (v := 0) hx hb dX4_init_29 rfl ?_
  refine va_put (D := g.1) (ci := 3) (v := .long 0) (ty := .long) (C := RX4) (T := TX4) (N := 4) hx hb hw inlX4 tyX4 tyX4_ok nmX4 hown hkn.1 hP hD hS 0 rfl rfl 3 (by decide) (hw _ mw_50) (fun _ h9 => h9) rfl (by decide +kernel) rfl rfl (Nat.le_of_ble_eq_true rfl) dX4_init_30 (fun H locs hP hD hS => ?_)
  have hP : va_P g.1 vwCl [(h0, .inr (3, [.ref q7, .ref q13, .int 0, .long 0])), (q7, .inl (gI g, 64, .inl (fun _ => 0))), (q13, .inr (4, [.int 0, .int 0]))] H := hP
  have hD : va_D A [(h0, .inr (3, [.ref q7, .ref q13, .int 0, .long 0])), (q7, .inl (gI g, 64, .inl (fun _ => 0))), (q13, .inr (4, [.int 0, .int 0]))] := hD
  exact eM_v (g := g) hx hb hr hlocks (q7, q13) (trivial) (hP.sub [0, 1, 2] rfl) (hD.sub [0, 1, 2] (by decide) rfl) hS dX4_init_33
set_option maxHeartbeats 4000000 in
set_option maxRecDepth 100000 in
theorem c_X4_size (l : Launch) (g : GG) (H : Heap) (h0 : Nat) (h1 : Nat) (h2 : Nat) (sn : Nat) (dr : Int64)  (hP : va_P g.1 vwCl [(h0, .inr (3, [.ref h1, .ref h2, .int (nI sn), .long dr]))] H) : Met l yX4_size (Cond.code yX4_size cX4_size 1 (some .int) :: wsL_law) ({ frames := 0, cells := 0, slots := 0, locals := 0 }) (PR g [.ref h0] H) (QRi (nI sn) H) 0 0 NoA := by
  refine Met.R (by decide) (Nat.le_of_ble_eq_true rfl) rfl ?_
  intro p e s m below meth c hx hb hr hml hw hown hlocks hkn hH ls hl
  subst hH
  have hl : lv_has ls 1 [(0, .ref h0)] := hl
  have hS : va_S NoA s.heap s.heap [] := va_S.rf
  refine lv_aload_n hx hb dX4_size_0 rfl (lv_at hl 0 rfl) ?_
  refine va_get (D := g.1) (ci := 3) (v := .int (nI sn)) (C := RX4) (T := TX4) (N := 4) hx hb hw inlX4 hown hkn.1 hP 0 rfl rfl 2 (by decide) (hw _ mw_49) (fun _ h9 => h9) rfl dX4_size_1 ?_
  exact eR_i hx hb hr hlocks (rfl) dX4_size_4
set_option maxHeartbeats 4000000 in
set_option maxRecDepth 100000 in
theorem c_X4_clear (l : Launch) (g : GG) (sz : Nat) (h0 : Nat) (h1 : Nat) (h2 : Nat) (sn : Nat) (dr : Int64)  : Met l yX4_clear (Cond.code yX4_clear cX4_clear 1 none :: wsL_law) ({ frames := 0, cells := 0, slots := 0, locals := 0 }) (PM g [.ref h0] [(h0, .inr (3, [.ref h1, .ref h2, .int (nI sn), .long dr]))] sz) (QAv g (fun (u : Unit) => True) (fun (u : Unit) => [(h0, .inr (3, [.ref h1, .ref h2, .int 0, .long dr]))]) (va_A [(h0, .inr (3, [.ref h1, .ref h2, .int (nI sn), .long dr]))] sz)) 0 0 (va_A [(h0, .inr (3, [.ref h1, .ref h2, .int (nI sn), .long dr]))] sz) := by
  refine Met.M (Qc := fun A => QAv g (fun (u : Unit) => True) (fun (u : Unit) => [(h0, .inr (3, [.ref h1, .ref h2, .int 0, .long dr]))]) A) (by decide) (Nat.le_of_ble_eq_true rfl) rfl ?_
  intro p e s m below meth c hx hb hr hml hw hown hlocks hin A hA hkn hP hD ls hl
  have hl : lv_has ls 1 [(0, .ref h0)] := hl
  have hS : va_S A s.heap s.heap [] := va_S.rf
  obtain ⟨H, hHe⟩ : ∃ H, H = s.heap := ⟨_, rfl⟩
  obtain ⟨locs, hLe⟩ : ∃ locs : List Loc, locs = [] := ⟨_, rfl⟩
  have hP : va_P g.1 vwCl [(h0, .inr (3, [.ref h1, .ref h2, .int (nI sn), .long dr]))] H := by rw [hHe]; exact hP
  have hS : va_S A s.heap H locs := by rw [hHe, hLe]; exact hS
  have hgo : W p l e ({ frames := 0, cells := 0, slots := 0, locals := 0 } : Room) s m ([.ref h0] : List Value).toArray below meth c H locs 0 0 (MQ below (QAv g (fun (u : Unit) => True) (fun (u : Unit) => [(h0, .inr (3, [.ref h1, .ref h2, .int 0, .long dr]))]) A) ([.ref h0] : List Value).toArray s 0 0 A) (F0 m 0 ls []) := ?_
  · rw [hHe, hLe] at hgo; exact hgo
  clear hHe hLe
  refine lv_aload_n hx hb dX4_clear_0 rfl (lv_at hl 0 rfl) ?_
  refine lv_iconst (v := 0) hx hb dX4_clear_1 (by decide) ?_
  refine va_put (D := g.1) (ci := 3) (v := .int 0) (ty := .int) (C := RX4) (T := TX4) (N := 4) hx hb hw inlX4 tyX4 tyX4_ok nmX4 hown hkn.1 hP hD hS 0 rfl rfl 2 (by decide) (hw _ mw_49) (fun _ h9 => h9) rfl (by decide +kernel) rfl rfl (Nat.le_of_ble_eq_true rfl) dX4_clear_2 (fun H locs hP hD hS => ?_)
  have hP : va_P g.1 vwCl [(h0, .inr (3, [.ref h1, .ref h2, .int 0, .long dr]))] H := hP
  have hD : va_D A [(h0, .inr (3, [.ref h1, .ref h2, .int 0, .long dr]))] := hD
  exact eM_v (g := g) hx hb hr hlocks () (trivial) (hP.sub [0] rfl) (hD.sub [0] (by decide) rfl) hS dX4_clear_5
set_option maxHeartbeats 4000000 in
set_option maxRecDepth 100000 in
theorem c_X4_drawn (l : Launch) (g : GG) (H : Heap) (h0 : Nat) (h1 : Nat) (h2 : Nat) (sn : Nat) (dr : Int64)  (hP : va_P g.1 vwCl [(h0, .inr (3, [.ref h1, .ref h2, .int (nI sn), .long dr]))] H) : Met l yX4_drawn (Cond.code yX4_drawn cX4_drawn 1 (some .long) :: wsL_law) ({ frames := 0, cells := 0, slots := 0, locals := 0 }) (PR g [.ref h0] H) (QRl dr H) 0 0 NoA := by
  refine Met.R (by decide) (Nat.le_of_ble_eq_true rfl) rfl ?_
  intro p e s m below meth c hx hb hr hml hw hown hlocks hkn hH ls hl
  subst hH
  have hl : lv_has ls 1 [(0, .ref h0)] := hl
  have hS : va_S NoA s.heap s.heap [] := va_S.rf
  refine lv_aload_n hx hb dX4_drawn_0 rfl (lv_at hl 0 rfl) ?_
  refine va_get (D := g.1) (ci := 3) (v := .long dr) (C := RX4) (T := TX4) (N := 4) hx hb hw inlX4 hown hkn.1 hP 0 rfl rfl 3 (by decide) (hw _ mw_50) (fun _ h9 => h9) rfl dX4_drawn_1 ?_
  exact eR_l hx hb hr hlocks (rfl) dX4_drawn_4
set_option maxHeartbeats 4000000 in
set_option maxRecDepth 100000 in
theorem c_X4_add (l : Launch) (g : GG) (sz : Nat) (h0 : Nat) (x0 : Int32) (h1 : Nat) (h2 : Nat) (sn : Nat) (dr : Int64) (fl : Nat → Int32) (hsn : sn ≤ 64) : Met l yX4_add (Cond.code yX4_add cX4_add 2 (some .boolean) :: wsL_law) ({ frames := 0, cells := 0, slots := 0, locals := 0 }) (PM g [.ref h0, .int x0] [(h0, .inr (3, [.ref h1, .ref h2, .int (nI sn), .long dr])), (h1, .inl (gI g, 64, .inl fl))] sz) (QAi g (fun (r : Int32) (u : Unit) => r = b2i (decide (sn < 64))) (fun (u : Unit) => [(h0, .inr (3, [.ref h1, .ref h2, .int (nI (taN sn)), .long dr])), (h1, .inl (gI g, 64, .inl (taF sn fl x0)))]) (va_A [(h0, .inr (3, [.ref h1, .ref h2, .int (nI sn), .long dr])), (h1, .inl (gI g, 64, .inl fl))] sz)) 0 0 (va_A [(h0, .inr (3, [.ref h1, .ref h2, .int (nI sn), .long dr])), (h1, .inl (gI g, 64, .inl fl))] sz) := by
  refine Met.M (Qc := fun A => QAi g (fun (r : Int32) (u : Unit) => r = b2i (decide (sn < 64))) (fun (u : Unit) => [(h0, .inr (3, [.ref h1, .ref h2, .int (nI (taN sn)), .long dr])), (h1, .inl (gI g, 64, .inl (taF sn fl x0)))]) A) (by decide) (Nat.le_of_ble_eq_true rfl) rfl ?_
  intro p e s m below meth c hx hb hr hml hw hown hlocks hin A hA hkn hP hD ls hl
  have hl : lv_has ls 2 [(0, .ref h0), (1, .int x0)] := hl
  have hS : va_S A s.heap s.heap [] := va_S.rf
  obtain ⟨H, hHe⟩ : ∃ H, H = s.heap := ⟨_, rfl⟩
  obtain ⟨locs, hLe⟩ : ∃ locs : List Loc, locs = [] := ⟨_, rfl⟩
  have hP : va_P g.1 vwCl [(h0, .inr (3, [.ref h1, .ref h2, .int (nI sn), .long dr])), (h1, .inl (gI g, 64, .inl fl))] H := by rw [hHe]; exact hP
  have hS : va_S A s.heap H locs := by rw [hHe, hLe]; exact hS
  have hgo : W p l e ({ frames := 0, cells := 0, slots := 0, locals := 0 } : Room) s m ([.ref h0, .int x0] : List Value).toArray below meth c H locs 0 0 (MQ below (QAi g (fun (r : Int32) (u : Unit) => r = b2i (decide (sn < 64))) (fun (u : Unit) => [(h0, .inr (3, [.ref h1, .ref h2, .int (nI (taN sn)), .long dr])), (h1, .inl (gI g, 64, .inl (taF sn fl x0)))]) A) ([.ref h0, .int x0] : List Value).toArray s 0 0 A) (F0 m 0 ls []) := ?_
  · rw [hHe, hLe] at hgo; exact hgo
  clear hHe hLe
  refine lv_aload_n hx hb dX4_add_0 rfl (lv_at hl 0 rfl) ?_
  refine va_get (D := g.1) (ci := 3) (v := .int (nI sn)) (C := RX4) (T := TX4) (N := 4) hx hb hw inlX4 hown hkn.1 hP 0 rfl rfl 2 (by decide) (hw _ mw_49) (fun _ h9 => h9) rfl dX4_add_1 ?_
  refine lv_if_lt (tgt := 16) hx hb dX4_add_4 (by decide) (fun c_1 => ?_) (fun c_1 => ?_)
  · skip
    exact absurd c_1 (nI_pos (by omega))
  · skip
    refine lv_aload_n hx hb dX4_add_7 rfl (lv_at hl 0 rfl) ?_
    refine va_get (D := g.1) (ci := 3) (v := .int (nI sn)) (C := RX4) (T := TX4) (N := 4) hx hb hw inlX4 hown hkn.1 hP 0 rfl rfl 2 (by decide) (hw _ mw_49) (fun _ h9 => h9) rfl dX4_add_8 ?_
    refine lv_bipush (v := 64) hx hb dX4_add_11 (by decide) ?_
    refine ic_lt (a := sn) (d := 64) (tgt := 18) hx hb dX4_add_13 (by decide) rfl rfl (by omega) (by omega) (fun c_2 => ?_) (fun c_2 => ?_)
    · skip
      refine lv_aload_n hx hb dX4_add_18 rfl (lv_at hl 0 rfl) ?_
      refine va_get (D := g.1) (ci := 3) (v := .ref h1) (C := RX4) (T := TX4) (N := 4) hx hb hw inlX4 hown hkn.1 hP 0 rfl rfl 0 (by decide) (hw _ mw_46) (fun _ h9 => h9) rfl dX4_add_19 ?_
      refine lv_aload_n hx hb dX4_add_22 rfl (lv_at hl 0 rfl) ?_
      refine va_get (D := g.1) (ci := 3) (v := .int (nI sn)) (C := RX4) (T := TX4) (N := 4) hx hb hw inlX4 hown hkn.1 hP 0 rfl rfl 2 (by decide) (hw _ mw_49) (fun _ h9 => h9) rfl dX4_add_23 ?_
      refine lv_iload_n hx hb dX4_add_26 rfl (lv_at hl 1 rfl) ?_
      refine va_iast hx hb hkn.1 hP hD hS 1 0 rfl rfl (vp_in_nI (n := sn) (by omega) (by decide)) dX4_add_27 (fun H locs hP hD hS => ?_)
      rw [nI_clamp (n := sn) (by omega)] at hP hD
      have hP : va_P g.1 vwCl [(h0, .inr (3, [.ref h1, .ref h2, .int (nI sn), .long dr])), (h1, .inl (gI g, 64, .inl (upd fl sn x0)))] H := hP
      have hD : va_D A [(h0, .inr (3, [.ref h1, .ref h2, .int (nI sn), .long dr])), (h1, .inl (gI g, 64, .inl (upd fl sn x0)))] := hD
      refine lv_aload_n hx hb dX4_add_28 rfl (lv_at hl 0 rfl) ?_
      refine lv_dup hx hb dX4_add_29 rfl ?_
      refine va_get (D := g.1) (ci := 3) (v := .int (nI sn)) (C := RX4) (T := TX4) (N := 4) hx hb hw inlX4 hown hkn.1 hP 0 rfl rfl 2 (by decide) (hw _ mw_49) (fun _ h9 => h9) rfl dX4_add_30 ?_
      refine lv_iconst (v := 1) hx hb dX4_add_33 (by decide) ?_
      refine lv_iadd hx hb dX4_add_34 ?_
      refine lv_eqi (nI_add sn 1) ?_
      refine va_put (D := g.1) (ci := 3) (v := .int (nI (sn + 1))) (ty := .int) (C := RX4) (T := TX4) (N := 4) hx hb hw inlX4 tyX4 tyX4_ok nmX4 hown hkn.1 hP hD hS 0 rfl rfl 2 (by decide) (hw _ mw_49) (fun _ h9 => h9) rfl (by decide +kernel) rfl rfl (Nat.le_of_ble_eq_true rfl) dX4_add_35 (fun H locs hP hD hS => ?_)
      have hP : va_P g.1 vwCl [(h0, .inr (3, [.ref h1, .ref h2, .int (nI (sn + 1)), .long dr])), (h1, .inl (gI g, 64, .inl (upd fl sn x0)))] H := hP
      have hD : va_D A [(h0, .inr (3, [.ref h1, .ref h2, .int (nI (sn + 1)), .long dr])), (h1, .inl (gI g, 64, .inl (upd fl sn x0)))] := hD
      refine lv_iconst (v := 1) hx hb dX4_add_38 (by decide) ?_
      have eb : decide (sn < 64) = true := by simp; omega
      have e1 : taN sn = sn + 1 := by unfold taN; exact if_pos (by omega)
      have e2 : taF sn fl x0 = (upd fl sn x0) := by unfold taF; exact if_pos (by omega)
      exact eM_z (g := g) (b := decide (sn < 64)) hx hb hr hlocks () (by rw [eb]; rfl) (by rw [eb]; rfl) (show va_P g.1 vwCl [(h0, .inr (3, [.ref h1, .ref h2, .int (nI (taN sn)), .long dr])), (h1, .inl (gI g, 64, .inl (taF sn fl x0)))] H by rw [e1, e2]; exact hP.sub [0, 1] rfl) (show va_D A [(h0, .inr (3, [.ref h1, .ref h2, .int (nI (taN sn)), .long dr])), (h1, .inl (gI g, 64, .inl (taF sn fl x0)))] by rw [e1, e2]; exact hD.sub [0, 1] (by decide) rfl) hS dX4_add_39
    · skip
      refine lv_iconst (v := 0) hx hb dX4_add_16 (by decide) ?_
      have eb : decide (sn < 64) = false := by simp; omega
      have e1 : taN sn = sn := by unfold taN; exact if_neg (by omega)
      have e2 : taF sn fl x0 = fl := by unfold taF; exact if_neg (by omega)
      exact eM_z (g := g) (b := decide (sn < 64)) hx hb hr hlocks () (by rw [eb]; rfl) (by rw [eb]; rfl) (show va_P g.1 vwCl [(h0, .inr (3, [.ref h1, .ref h2, .int (nI (taN sn)), .long dr])), (h1, .inl (gI g, 64, .inl (taF sn fl x0)))] H by rw [e1, e2]; exact hP.sub [0, 1] rfl) (show va_D A [(h0, .inr (3, [.ref h1, .ref h2, .int (nI (taN sn)), .long dr])), (h1, .inl (gI g, 64, .inl (taF sn fl x0)))] by rw [e1, e2]; exact hD.sub [0, 1] (by decide) rfl) hS dX4_add_17
set_option maxHeartbeats 4000000 in
set_option maxRecDepth 100000 in
theorem c_X4_reads (l : Launch) (g : GG) (sz : Nat) (h0 : Nat) (x0 : Int32) (h1 : Nat) (h2 : Nat) (sn : Nat) (dr : Int64) (pl : Nat) (dp : Nat) (hok : okW pl dp) : Met l yX4_reads (Cond.code yX4_reads cX4_reads 2 (some .boolean) :: wsL_law) ({ frames := 2, cells := 0, slots := 0, locals := 43 }) (PM g [.ref h0, .int x0] [(h0, .inr (3, [.ref h1, .ref h2, .int (nI sn), .long dr])), (h2, .inr (4, [.int (nI pl), .int (nI dp)]))] sz) (QAi g (fun (r : Int32) (u : Unit) => r = b2i (rdB x0 pl dp)) (fun (u : Unit) => [(h0, .inr (3, [.ref h1, .ref h2, .int (nI sn), .long (rdR x0 pl dp dr)])), (h2, .inr (4, [.int (nI (rdP x0 pl dp)), .int (nI (rdD x0 pl dp))]))]) (va_A [(h0, .inr (3, [.ref h1, .ref h2, .int (nI sn), .long dr])), (h2, .inr (4, [.int (nI pl), .int (nI dp)]))] sz)) 0 0 (va_A [(h0, .inr (3, [.ref h1, .ref h2, .int (nI sn), .long dr])), (h2, .inr (4, [.int (nI pl), .int (nI dp)]))] sz) := by
  refine Met.M (Qc := fun A => QAi g (fun (r : Int32) (u : Unit) => r = b2i (rdB x0 pl dp)) (fun (u : Unit) => [(h0, .inr (3, [.ref h1, .ref h2, .int (nI sn), .long (rdR x0 pl dp dr)])), (h2, .inr (4, [.int (nI (rdP x0 pl dp)), .int (nI (rdD x0 pl dp))]))]) A) (by decide) (Nat.le_of_ble_eq_true rfl) rfl ?_
  intro p e s m below meth c hx hb hr hml hw hown hlocks hin A hA hkn hP hD ls hl
  have hl : lv_has ls 2 [(0, .ref h0), (1, .int x0)] := hl
  have hS : va_S A s.heap s.heap [] := va_S.rf
  obtain ⟨H, hHe⟩ : ∃ H, H = s.heap := ⟨_, rfl⟩
  obtain ⟨locs, hLe⟩ : ∃ locs : List Loc, locs = [] := ⟨_, rfl⟩
  have hP : va_P g.1 vwCl [(h0, .inr (3, [.ref h1, .ref h2, .int (nI sn), .long dr])), (h2, .inr (4, [.int (nI pl), .int (nI dp)]))] H := by rw [hHe]; exact hP
  have hS : va_S A s.heap H locs := by rw [hHe, hLe]; exact hS
  have hgo : W p l e ({ frames := 2, cells := 0, slots := 0, locals := 43 } : Room) s m ([.ref h0, .int x0] : List Value).toArray below meth c H locs 0 0 (MQ below (QAi g (fun (r : Int32) (u : Unit) => r = b2i (rdB x0 pl dp)) (fun (u : Unit) => [(h0, .inr (3, [.ref h1, .ref h2, .int (nI sn), .long (rdR x0 pl dp dr)])), (h2, .inr (4, [.int (nI (rdP x0 pl dp)), .int (nI (rdD x0 pl dp))]))]) A) ([.ref h0, .int x0] : List Value).toArray s 0 0 A) (F0 m 0 ls []) := ?_
  · rw [hHe, hLe] at hgo; exact hgo
  clear hHe hLe
  have hd3 := hok.1
  have hp64 := hok.2.1
  refine lv_aload_n hx hb dX4_reads_0 rfl (lv_at hl 0 rfl) ?_
  refine va_get (D := g.1) (ci := 3) (v := .ref h2) (C := RX4) (T := TX4) (N := 4) hx hb hw inlX4 hown hkn.1 hP 0 rfl rfl 1 (by decide) (hw _ mw_48) (fun _ h9 => h9) rfl dX4_reads_1 ?_
  refine cV_i (As := []) (rest := []) hx hb hml hown hw hkn hS hl (c_X5_hasEnded l g _ h2 pl dp (by omega) (hP.sub [1] rfl)) vf_X5_hasEnded mw_132 (va_recv hkn.1 hP (ci := 4) (q0 := 1) rfl rfl) ⟨(Nat.le_of_ble_eq_true rfl), (Nat.le_of_ble_eq_true rfl)⟩ rfl rfl rfl rfl (Nat.le_of_ble_eq_true rfl) dX4_reads_4 ⟨(Nat.le_of_ble_eq_true rfl), (Nat.le_of_ble_eq_true rfl)⟩ ?_
  refine lv_ifeqB (b := decide (64 ≤ pl)) (tgt := 12) hx hb dX4_reads_7 (by decide) (fun c_1 => ?_) (fun c_1 => ?_)
  · skip
    have hpl : pl < 64 := Nat.lt_of_not_le (of_decide_eq_false c_1)
    refine lv_iload_n hx hb dX4_reads_12 rfl (lv_at hl 1 rfl) ?_
    refine lv_bipush (v := 113) hx hb dX4_reads_13 (by decide) ?_
    refine lv_icmp_ne (tgt := 26) hx hb dX4_reads_15 (by decide) (fun c_2 => ?_) (fun c_2 => ?_)
    · skip
      refine lv_iload_n hx hb dX4_reads_26 rfl (lv_at hl 1 rfl) ?_
      refine cS_i (As := [.int x0]) (rest := []) hx hb hml hown hw hkn hS hl (c_X2_isLeaf l g _ x0 ) sf_X2_isLeaf mw_140 ⟨(Nat.le_of_ble_eq_true rfl), (Nat.le_of_ble_eq_true rfl)⟩ rfl rfl rfl rfl (Nat.le_of_ble_eq_true rfl) dX4_reads_27 ⟨(Nat.le_of_ble_eq_true rfl), (Nat.le_of_ble_eq_true rfl)⟩ ?_
      refine lv_ifneB (b := isLeafB x0) (tgt := 35) hx hb dX4_reads_30 (by decide) (fun c_3 => ?_) (fun c_3 => ?_)
      · skip
        refine lv_aload_n hx hb dX4_reads_35 rfl (lv_at hl 0 rfl) ?_
        refine lv_dup hx hb dX4_reads_36 rfl ?_
        refine va_get (D := g.1) (ci := 3) (v := .long dr) (C := RX4) (T := TX4) (N := 4) hx hb hw inlX4 hown hkn.1 hP 0 rfl rfl 3 (by decide) (hw _ mw_50) (fun _ h9 => h9) rfl dX4_reads_37 ?_
        refine lv_aload_n hx hb dX4_reads_40 rfl (lv_at hl 0 rfl) ?_
        refine va_get (D := g.1) (ci := 3) (v := .ref h2) (C := RX4) (T := TX4) (N := 4) hx hb hw inlX4 hown hkn.1 hP 0 rfl rfl 1 (by decide) (hw _ mw_48) (fun _ h9 => h9) rfl dX4_reads_41 ?_
        refine cV_l (As := []) (rest := [.long dr, .ref h0]) hx hb hml hown hw hkn hS hl (c_X5_square l g _ h2 pl dp (by omega) (by omega) (hP.sub [1] rfl)) vf_X5_square mw_144 (va_recv hkn.1 hP (ci := 4) (q0 := 1) rfl rfl) ⟨(Nat.le_of_ble_eq_true rfl), (Nat.le_of_ble_eq_true rfl)⟩ rfl rfl rfl rfl (Nat.le_of_ble_eq_true rfl) dX4_reads_44 ⟨(Nat.le_of_ble_eq_true rfl), (Nat.le_of_ble_eq_true rfl)⟩ ?_
        refine lv_iload_n hx hb dX4_reads_47 rfl (lv_at hl 1 rfl) ?_
        refine cS_l (As := [.int x0]) (rest := [.long (sqS (dmN pl) dp), .long dr, .ref h0]) hx hb hml hown hw hkn hS hl (c_X2_pattern l g _ x0 ) sf_X2_pattern mw_156 ⟨(Nat.le_of_ble_eq_true rfl), (Nat.le_of_ble_eq_true rfl)⟩ rfl rfl rfl rfl (Nat.le_of_ble_eq_true rfl) dX4_reads_48 ⟨(Nat.le_of_ble_eq_true rfl), (Nat.le_of_ble_eq_true rfl)⟩ ?_
        refine lv_land hx hb dX4_reads_51 ?_
        refine lv_lor hx hb dX4_reads_52 ?_
        refine va_put (D := g.1) (ci := 3) (v := .long (dr ||| ((sqS (dmN pl) dp) &&& (patS x0)))) (ty := .long) (C := RX4) (T := TX4) (N := 4) hx hb hw inlX4 tyX4 tyX4_ok nmX4 hown hkn.1 hP hD hS 0 rfl rfl 3 (by decide) (hw _ mw_50) (fun _ h9 => h9) rfl (by decide +kernel) rfl rfl (Nat.le_of_ble_eq_true rfl) dX4_reads_53 (fun H locs hP hD hS => ?_)
        have hP : va_P g.1 vwCl [(h0, .inr (3, [.ref h1, .ref h2, .int (nI sn), .long (dr ||| ((sqS (dmN pl) dp) &&& (patS x0)))])), (h2, .inr (4, [.int (nI pl), .int (nI dp)]))] H := hP
        have hD : va_D A [(h0, .inr (3, [.ref h1, .ref h2, .int (nI sn), .long (dr ||| ((sqS (dmN pl) dp) &&& (patS x0)))])), (h2, .inr (4, [.int (nI pl), .int (nI dp)]))] := hD
        refine lv_aload_n hx hb dX4_reads_56 rfl (lv_at hl 0 rfl) ?_
        refine va_get (D := g.1) (ci := 3) (v := .ref h2) (C := RX4) (T := TX4) (N := 4) hx hb hw inlX4 hown hkn.1 hP 0 rfl rfl 1 (by decide) (hw _ mw_48) (fun _ h9 => h9) rfl dX4_reads_57 ?_
        refine cVM_v (As := []) (rest := []) (q0 := 0) (wc := [(h2, .inr (4, [.int (nI pl), .int (nI dp)]))]) (wr := [(h0, .inr (3, [.ref h1, .ref h2, .int (nI sn), .long (dr ||| ((sqS (dmN pl) dp) &&& (patS x0)))]))]) hx hb hml hown hw hkn hS hl hA hP hD [1] [0] rfl rfl (by decide) (by decide) (by decide) (c_X5_pass l g _ h2 pl dp (by omega) (by omega)) vf_X5_pass mw_162 rfl rfl ⟨(Nat.le_of_ble_eq_true rfl), (Nat.le_of_ble_eq_true rfl)⟩ rfl rfl rfl rfl (Nat.le_of_ble_eq_true rfl) dX4_reads_60 ⟨(Nat.le_of_ble_eq_true rfl), (Nat.le_of_ble_eq_true rfl)⟩ (fun u H locs hq hP hD hS => ?_)
        have hP : va_P g.1 vwCl [(h0, .inr (3, [.ref h1, .ref h2, .int (nI sn), .long (dr ||| ((sqS (dmN pl) dp) &&& (patS x0)))])), (h2, .inr (4, [.int (nI (pl + szN dp)), .int (nI (psN (pl + szN dp) dp))]))] H := hP.sub [0, 1] rfl
        have hD : va_D A [(h0, .inr (3, [.ref h1, .ref h2, .int (nI sn), .long (dr ||| ((sqS (dmN pl) dp) &&& (patS x0)))])), (h2, .inr (4, [.int (nI (pl + szN dp)), .int (nI (psN (pl + szN dp) dp))]))] := hD.sub [0, 1] (by decide) rfl
        refine lv_iconst (v := 1) hx hb dX4_reads_63 (by decide) ?_
        have eb : rdB x0 pl dp = true := by unfold rdB; rw [if_neg (of_decide_eq_false c_1), if_neg c_2]; exact c_3
        have e1 : rdR x0 pl dp dr = (dr ||| ((sqS (dmN pl) dp) &&& (patS x0))) := by unfold rdR; rw [if_neg (of_decide_eq_false c_1), if_neg c_2, if_pos c_3]
        have e2 : rdP x0 pl dp = pl + szN dp := by unfold rdP; rw [if_neg (of_decide_eq_false c_1), if_neg c_2, if_pos c_3]
        have e3 : rdD x0 pl dp = psN (pl + szN dp) dp := by unfold rdD; rw [if_neg (of_decide_eq_false c_1), if_neg c_2, if_pos c_3]
        exact eM_z (g := g) (b := rdB x0 pl dp) hx hb hr hlocks () (by rw [eb]; try rfl) (by rw [eb]; try rfl) (show va_P g.1 vwCl [(h0, .inr (3, [.ref h1, .ref h2, .int (nI sn), .long (rdR x0 pl dp dr)])), (h2, .inr (4, [.int (nI (rdP x0 pl dp)), .int (nI (rdD x0 pl dp))]))] H by rw [e1, e2, e3]; exact hP.sub [0, 1] rfl) (show va_D A [(h0, .inr (3, [.ref h1, .ref h2, .int (nI sn), .long (rdR x0 pl dp dr)])), (h2, .inr (4, [.int (nI (rdP x0 pl dp)), .int (nI (rdD x0 pl dp))]))] by rw [e1, e2, e3]; exact hD.sub [0, 1] (by decide) rfl) hS dX4_reads_64
      · skip
        refine lv_iconst (v := 0) hx hb dX4_reads_33 (by decide) ?_
        have eb : rdB x0 pl dp = false := by unfold rdB; rw [if_neg (of_decide_eq_false c_1), if_neg c_2]; exact c_3
        have e1 : rdR x0 pl dp dr = dr := by unfold rdR; rw [if_neg (of_decide_eq_false c_1), if_neg c_2, if_neg (nt_of c_3)]
        have e2 : rdP x0 pl dp = pl := by unfold rdP; rw [if_neg (of_decide_eq_false c_1), if_neg c_2, if_neg (nt_of c_3)]
        have e3 : rdD x0 pl dp = dp := by unfold rdD; rw [if_neg (of_decide_eq_false c_1), if_neg c_2, if_neg (nt_of c_3)]
        exact eM_z (g := g) (b := rdB x0 pl dp) hx hb hr hlocks () (by rw [eb]; try rfl) (by rw [eb]; try rfl) (show va_P g.1 vwCl [(h0, .inr (3, [.ref h1, .ref h2, .int (nI sn), .long (rdR x0 pl dp dr)])), (h2, .inr (4, [.int (nI (rdP x0 pl dp)), .int (nI (rdD x0 pl dp))]))] H by rw [e1, e2, e3]; exact hP.sub [0, 1] rfl) (show va_D A [(h0, .inr (3, [.ref h1, .ref h2, .int (nI sn), .long (rdR x0 pl dp dr)])), (h2, .inr (4, [.int (nI (rdP x0 pl dp)), .int (nI (rdD x0 pl dp))]))] by rw [e1, e2, e3]; exact hD.sub [0, 1] (by decide) rfl) hS dX4_reads_34
    · skip
      refine lv_aload_n hx hb dX4_reads_18 rfl (lv_at hl 0 rfl) ?_
      refine va_get (D := g.1) (ci := 3) (v := .ref h2) (C := RX4) (T := TX4) (N := 4) hx hb hw inlX4 hown hkn.1 hP 0 rfl rfl 1 (by decide) (hw _ mw_48) (fun _ h9 => h9) rfl dX4_reads_19 ?_
      refine cVM_i (As := []) (rest := []) (q0 := 0) (wc := [(h2, .inr (4, [.int (nI pl), .int (nI dp)]))]) (wr := [(h0, .inr (3, [.ref h1, .ref h2, .int (nI sn), .long dr]))]) hx hb hml hown hw hkn hS hl hA hP hD [1] [0] rfl rfl (by decide) (by decide) (by decide) (c_X5_cut l g _ h2 pl dp (by omega)) vf_X5_cut mw_136 rfl rfl ⟨(Nat.le_of_ble_eq_true rfl), (Nat.le_of_ble_eq_true rfl)⟩ rfl rfl rfl rfl (Nat.le_of_ble_eq_true rfl) dX4_reads_22 ⟨(Nat.le_of_ble_eq_true rfl), (Nat.le_of_ble_eq_true rfl)⟩ (fun r u H locs hq hP hD hS => ?_)
      have hq : r = (b2i (decide (dp < 3))) := hq
      subst hq
      have hP : va_P g.1 vwCl [(h0, .inr (3, [.ref h1, .ref h2, .int (nI sn), .long dr])), (h2, .inr (4, [.int (nI pl), .int (nI (ctN dp))]))] H := hP.sub [0, 1] rfl
      have hD : va_D A [(h0, .inr (3, [.ref h1, .ref h2, .int (nI sn), .long dr])), (h2, .inr (4, [.int (nI pl), .int (nI (ctN dp))]))] := hD.sub [0, 1] (by decide) rfl
      have eb : rdB x0 pl dp = decide (dp < 3) := by unfold rdB; rw [if_neg (of_decide_eq_false c_1), if_pos c_2]
      have e1 : rdR x0 pl dp dr = dr := by unfold rdR; rw [if_neg (of_decide_eq_false c_1), if_pos c_2]
      have e2 : rdP x0 pl dp = pl := by unfold rdP; rw [if_neg (of_decide_eq_false c_1), if_pos c_2]
      have e3 : rdD x0 pl dp = ctN dp := by unfold rdD; rw [if_neg (of_decide_eq_false c_1), if_pos c_2]
      exact eM_z (g := g) (b := rdB x0 pl dp) hx hb hr hlocks () (by rw [eb]; try rfl) (by rw [eb]; try rfl) (show va_P g.1 vwCl [(h0, .inr (3, [.ref h1, .ref h2, .int (nI sn), .long (rdR x0 pl dp dr)])), (h2, .inr (4, [.int (nI (rdP x0 pl dp)), .int (nI (rdD x0 pl dp))]))] H by rw [e1, e2, e3]; exact hP.sub [0, 1] rfl) (show va_D A [(h0, .inr (3, [.ref h1, .ref h2, .int (nI sn), .long (rdR x0 pl dp dr)])), (h2, .inr (4, [.int (nI (rdP x0 pl dp)), .int (nI (rdD x0 pl dp))]))] by rw [e1, e2, e3]; exact hD.sub [0, 1] (by decide) rfl) hS dX4_reads_25
  · skip
    refine lv_iconst (v := 0) hx hb dX4_reads_10 (by decide) ?_
    have eb : rdB x0 pl dp = false := by unfold rdB; rw [if_pos (of_decide_eq_true c_1)]
    have e1 : rdR x0 pl dp dr = dr := by unfold rdR; rw [if_pos (of_decide_eq_true c_1)]
    have e2 : rdP x0 pl dp = pl := by unfold rdP; rw [if_pos (of_decide_eq_true c_1)]
    have e3 : rdD x0 pl dp = dp := by unfold rdD; rw [if_pos (of_decide_eq_true c_1)]
    exact eM_z (g := g) (b := rdB x0 pl dp) hx hb hr hlocks () (by rw [eb]; try rfl) (by rw [eb]; try rfl) (show va_P g.1 vwCl [(h0, .inr (3, [.ref h1, .ref h2, .int (nI sn), .long (rdR x0 pl dp dr)])), (h2, .inr (4, [.int (nI (rdP x0 pl dp)), .int (nI (rdD x0 pl dp))]))] H by rw [e1, e2, e3]; exact hP.sub [0, 1] rfl) (show va_D A [(h0, .inr (3, [.ref h1, .ref h2, .int (nI sn), .long (rdR x0 pl dp dr)])), (h2, .inr (4, [.int (nI (rdP x0 pl dp)), .int (nI (rdD x0 pl dp))]))] by rw [e1, e2, e3]; exact hD.sub [0, 1] (by decide) rfl) hS dX4_reads_11
set_option maxHeartbeats 4000000 in
set_option maxRecDepth 100000 in
theorem c_X4_firstFault (l : Launch) (g : GG) (sz : Nat) (h0 : Nat) (h1 : Nat) (h2 : Nat) (sn : Nat) (dr : Int64) (fl : Nat → Int32) (x1 : Int32) (x2 : Int32) (hsn : sn ≤ 64) : Met l yX4_firstFault (Cond.code yX4_firstFault cX4_firstFault 2 (some .int) :: wsL_law) ({ frames := 3, cells := 0, slots := 0, locals := 64 }) (PM g [.ref h0] [(h0, .inr (3, [.ref h1, .ref h2, .int (nI sn), .long dr])), (h1, .inl (gI g, 64, .inl fl)), (h2, .inr (4, [.int x1, .int x2]))] sz) (QAi g (fun (r : Int32) (u : Int64 × Int32 × Int32) => r = (ffG fl sn 0 0 0 0).1 ∧ u.1 = (ffG fl sn 0 0 0 0).2) (fun (u : Int64 × Int32 × Int32) => [(h0, .inr (3, [.ref h1, .ref h2, .int (nI sn), .long u.1])), (h1, .inl (gI g, 64, .inl fl)), (h2, .inr (4, [.int u.2.1, .int u.2.2]))]) (va_A [(h0, .inr (3, [.ref h1, .ref h2, .int (nI sn), .long dr])), (h1, .inl (gI g, 64, .inl fl)), (h2, .inr (4, [.int x1, .int x2]))] sz)) 0 0 (va_A [(h0, .inr (3, [.ref h1, .ref h2, .int (nI sn), .long dr])), (h1, .inl (gI g, 64, .inl fl)), (h2, .inr (4, [.int x1, .int x2]))] sz) := by
  refine Met.M (Qc := fun A => QAi g (fun (r : Int32) (u : Int64 × Int32 × Int32) => r = (ffG fl sn 0 0 0 0).1 ∧ u.1 = (ffG fl sn 0 0 0 0).2) (fun (u : Int64 × Int32 × Int32) => [(h0, .inr (3, [.ref h1, .ref h2, .int (nI sn), .long u.1])), (h1, .inl (gI g, 64, .inl fl)), (h2, .inr (4, [.int u.2.1, .int u.2.2]))]) A) (by decide) (Nat.le_of_ble_eq_true rfl) rfl ?_
  intro p e s m below meth c hx hb hr hml hw hown hlocks hin A hA hkn hP hD ls hl
  have hl : lv_has ls 2 [(0, .ref h0)] := hl
  have hS : va_S A s.heap s.heap [] := va_S.rf
  obtain ⟨H, hHe⟩ : ∃ H, H = s.heap := ⟨_, rfl⟩
  obtain ⟨locs, hLe⟩ : ∃ locs : List Loc, locs = [] := ⟨_, rfl⟩
  have hP : va_P g.1 vwCl [(h0, .inr (3, [.ref h1, .ref h2, .int (nI sn), .long dr])), (h1, .inl (gI g, 64, .inl fl)), (h2, .inr (4, [.int x1, .int x2]))] H := by rw [hHe]; exact hP
  have hS : va_S A s.heap H locs := by rw [hHe, hLe]; exact hS
  have hgo : W p l e ({ frames := 3, cells := 0, slots := 0, locals := 64 } : Room) s m ([.ref h0] : List Value).toArray below meth c H locs 0 0 (MQ below (QAi g (fun (r : Int32) (u : Int64 × Int32 × Int32) => r = (ffG fl sn 0 0 0 0).1 ∧ u.1 = (ffG fl sn 0 0 0 0).2) (fun (u : Int64 × Int32 × Int32) => [(h0, .inr (3, [.ref h1, .ref h2, .int (nI sn), .long u.1])), (h1, .inl (gI g, 64, .inl fl)), (h2, .inr (4, [.int u.2.1, .int u.2.2]))]) A) ([.ref h0] : List Value).toArray s 0 0 A) (F0 m 0 ls []) := ?_
  · rw [hHe, hLe] at hgo; exact hgo
  clear hHe hLe
  refine lv_aload_n hx hb dX4_firstFault_0 rfl (lv_at hl 0 rfl) ?_
  refine va_get (D := g.1) (ci := 3) (v := .ref h2) (C := RX4) (T := TX4) (N := 4) hx hb hw inlX4 hown hkn.1 hP 0 rfl rfl 1 (by decide) (hw _ mw_48) (fun _ h9 => h9) rfl dX4_firstFault_1 ?_
  refine cVM_v (As := []) (rest := []) (q0 := 0) (wc := [(h2, .inr (4, [.int x1, .int x2]))]) (wr := [(h0, .inr (3, [.ref h1, .ref h2, .int (nI sn), .long dr])), (h1, .inl (gI g, 64, .inl fl))]) hx hb hml hown hw hkn hS hl hA hP hD [2] [0, 1] rfl rfl (by decide) (by decide) (by decide) (c_X5_start l g _ h2 x1 x2 ) vf_X5_start mw_124 rfl rfl ⟨(Nat.le_of_ble_eq_true rfl), (Nat.le_of_ble_eq_true rfl)⟩ rfl rfl rfl rfl (Nat.le_of_ble_eq_true rfl) dX4_firstFault_4 ⟨(Nat.le_of_ble_eq_true rfl), (Nat.le_of_ble_eq_true rfl)⟩ (fun u H locs hq hP hD hS => ?_)
  have hP : va_P g.1 vwCl [(h0, .inr (3, [.ref h1, .ref h2, .int (nI sn), .long dr])), (h1, .inl (gI g, 64, .inl fl)), (h2, .inr (4, [.int 0, .int 0]))] H := hP.sub [0, 1, 2] rfl
  have hD : va_D A [(h0, .inr (3, [.ref h1, .ref h2, .int (nI sn), .long dr])), (h1, .inl (gI g, 64, .inl fl)), (h2, .inr (4, [.int 0, .int 0]))] := hD.sub [0, 1, 2] (by decide) rfl
  refine lv_aload_n hx hb dX4_firstFault_7 rfl (lv_at hl 0 rfl) ?_
  refine lv_lconst (v := 0) hx hb dX4_firstFault_8 rfl ?_
  refine va_put (D := g.1) (ci := 3) (v := .long 0) (ty := .long) (C := RX4) (T := TX4) (N := 4) hx hb hw inlX4 tyX4 tyX4_ok nmX4 hown hkn.1 hP hD hS 0 rfl rfl 3 (by decide) (hw _ mw_50) (fun _ h9 => h9) rfl (by decide +kernel) rfl rfl (Nat.le_of_ble_eq_true rfl) dX4_firstFault_9 (fun H locs hP hD hS => ?_)
  have hP : va_P g.1 vwCl [(h0, .inr (3, [.ref h1, .ref h2, .int (nI sn), .long 0])), (h1, .inl (gI g, 64, .inl fl)), (h2, .inr (4, [.int 0, .int 0]))] H := hP
  have hD : va_D A [(h0, .inr (3, [.ref h1, .ref h2, .int (nI sn), .long 0])), (h1, .inl (gI g, 64, .inl fl)), (h2, .inr (4, [.int 0, .int 0]))] := hD
  refine lv_iconst (v := 0) hx hb dX4_firstFault_12 (by decide) ?_
  refine lv_istore_n (lv' := [(1, .int 0), (0, .ref h0)]) hx hb dX4_firstFault_13 rfl hl (by decide) rfl (fun ls hl => ?_)
  have lp_14 : ∀ (n_14 : Nat) (i : Nat) (p1 : Nat) (d1 : Nat) (r1 : Int64), (i ≤ sn) → (okW p1 d1) → (ffG fl (sn - i) i p1 d1 r1 = ffG fl sn 0 0 0 0) → sn < i + n_14 → ∀ (H : Heap) (locs : List Loc), va_P g.1 vwCl [(h0, .inr (3, [.ref h1, .ref h2, .int (nI sn), .long r1])), (h1, .inl (gI g, 64, .inl fl)), (h2, .inr (4, [.int (nI p1), .int (nI d1)]))] H → va_D A [(h0, .inr (3, [.ref h1, .ref h2, .int (nI sn), .long r1])), (h1, .inl (gI g, 64, .inl fl)), (h2, .inr (4, [.int (nI p1), .int (nI d1)]))] → va_S A s.heap H locs → ∀ (ls : Array Slot), lv_has ls 2 [(1, .int (nI i)), (0, .ref h0)] → W p l e ({ frames := 3, cells := 0, slots := 0, locals := 64 } : Room) s m ([.ref h0] : List Value).toArray below meth c H locs 0 0 (MQ below (QAi g (fun (r : Int32) (u : Int64 × Int32 × Int32) => r = (ffG fl sn 0 0 0 0).1 ∧ u.1 = (ffG fl sn 0 0 0 0).2) (fun (u : Int64 × Int32 × Int32) => [(h0, .inr (3, [.ref h1, .ref h2, .int (nI sn), .long u.1])), (h1, .inl (gI g, 64, .inl fl)), (h2, .inr (4, [.int u.2.1, .int u.2.2]))]) A) ([.ref h0] : List Value).toArray s 0 0 A) (F0 m 14 ls []) := by
    intro n_14
    induction n_14 with
    | zero => intro i p1 d1 r1 h_i h_o h_f hfu_14; exact absurd hfu_14 (by omega)
    | succ n_14 ih_14 =>
      intro i p1 d1 r1 h_i h_o h_f hfu_14 H locs hP hD hS ls hl
      have ho2 := h_o.2.1
      have h_s : ∀ k, sn - i = k + 1 → ffG fl sn 0 0 0 0 = if rdB (fl i) p1 d1 = true then ffG fl k (i + 1) (rdP (fl i) p1 d1) (rdD (fl i) p1 d1) (rdR (fl i) p1 d1 r1) else (nI i, rdR (fl i) p1 d1 r1) := fun k hk => by rw [← h_f, hk]; rfl
      have h_e : sn - i = 0 → ffG fl sn 0 0 0 0 = (if 64 ≤ p1 then -9 else nI i, r1) := fun hk => by rw [← h_f, hk]; rfl
      refine lv_iload_n hx hb dX4_firstFault_14 rfl (lv_at hl 0 rfl) ?_
      refine lv_aload_n hx hb dX4_firstFault_15 rfl (lv_at hl 1 rfl) ?_
      refine va_get (D := g.1) (ci := 3) (v := .int (nI sn)) (C := RX4) (T := TX4) (N := 4) hx hb hw inlX4 hown hkn.1 hP 0 rfl rfl 2 (by decide) (hw _ mw_49) (fun _ h9 => h9) rfl dX4_firstFault_16 ?_
      refine ic_ge (a := i) (d := sn) (tgt := 49) hx hb dX4_firstFault_19 (by decide) rfl rfl (by omega) (by omega) (fun c_2 => ?_) (fun c_2 => ?_)
      · skip
        refine lv_aload_n hx hb dX4_firstFault_49 rfl (lv_at hl 1 rfl) ?_
        refine va_get (D := g.1) (ci := 3) (v := .ref h2) (C := RX4) (T := TX4) (N := 4) hx hb hw inlX4 hown hkn.1 hP 0 rfl rfl 1 (by decide) (hw _ mw_48) (fun _ h9 => h9) rfl dX4_firstFault_50 ?_
        refine cV_i (As := []) (rest := []) hx hb hml hown hw hkn hS hl (c_X5_hasEnded l g _ h2 p1 d1 (by omega) (hP.sub [2] rfl)) vf_X5_hasEnded mw_132 (va_recv hkn.1 hP (ci := 4) (q0 := 2) rfl rfl) ⟨(Nat.le_of_ble_eq_true rfl), (Nat.le_of_ble_eq_true rfl)⟩ rfl rfl rfl rfl (Nat.le_of_ble_eq_true rfl) dX4_firstFault_53 ⟨(Nat.le_of_ble_eq_true rfl), (Nat.le_of_ble_eq_true rfl)⟩ ?_
        refine lv_ifeqB (b := decide (64 ≤ p1)) (tgt := 64) hx hb dX4_firstFault_56 (by decide) (fun c_3 => ?_) (fun c_3 => ?_)
        · skip
          refine lv_aload_n hx hb dX4_firstFault_64 rfl (lv_at hl 1 rfl) ?_
          refine va_get (D := g.1) (ci := 3) (v := .int (nI sn)) (C := RX4) (T := TX4) (N := 4) hx hb hw inlX4 hown hkn.1 hP 0 rfl rfl 2 (by decide) (hw _ mw_49) (fun _ h9 => h9) rfl dX4_firstFault_65 ?_
          have e9 := h_e (by omega)
          rw [if_neg (of_decide_eq_false c_3), show i = sn by omega] at e9
          exact eM_i (g := g) hx hb hr hlocks (r1, nI p1, nI d1) (⟨by rw [e9], by rw [e9]⟩) (hP.sub [0, 1, 2] rfl) (hD.sub [0, 1, 2] (by decide) rfl) hS dX4_firstFault_68
        · skip
          refine lv_bipush (v := (-9)) hx hb dX4_firstFault_59 (by decide) ?_
          refine lv_goto (tgt := 68) hx hb dX4_firstFault_61 (by decide) ?_
          have e9 := h_e (by omega)
          rw [if_pos (of_decide_eq_true c_3)] at e9
          exact eM_i (g := g) hx hb hr hlocks (r1, nI p1, nI d1) (⟨by rw [e9], by rw [e9]⟩) (hP.sub [0, 1, 2] rfl) (hD.sub [0, 1, 2] (by decide) rfl) hS dX4_firstFault_68
      · skip
        refine lv_iload_n hx hb dX4_firstFault_22 rfl (lv_at hl 0 rfl) ?_
        refine lv_bipush (v := 64) hx hb dX4_firstFault_23 (by decide) ?_
        refine ic_ge (a := i) (d := 64) (tgt := 49) hx hb dX4_firstFault_25 (by decide) rfl rfl (by omega) (by omega) (fun c_4 => ?_) (fun c_4 => ?_)
        · skip
          omega
        · skip
          refine lv_aload_n hx hb dX4_firstFault_28 rfl (lv_at hl 1 rfl) ?_
          refine lv_aload_n hx hb dX4_firstFault_29 rfl (lv_at hl 1 rfl) ?_
          refine va_get (D := g.1) (ci := 3) (v := .ref h1) (C := RX4) (T := TX4) (N := 4) hx hb hw inlX4 hown hkn.1 hP 0 rfl rfl 0 (by decide) (hw _ mw_46) (fun _ h9 => h9) rfl dX4_firstFault_30 ?_
          refine lv_iload_n hx hb dX4_firstFault_33 rfl (lv_at hl 0 rfl) ?_
          refine va_iald hx hb hkn.1 hP 1 0 rfl rfl (vp_in_nI (n := i) (by omega) (by decide)) dX4_firstFault_34 ?_
          refine lv_eqi (show _ = fl i by rw [nI_clamp (n := i) (by omega)]) ?_
          refine cVM_i (As := [.int (fl i)]) (rest := []) (q0 := 0) (wc := [(h0, .inr (3, [.ref h1, .ref h2, .int (nI sn), .long r1])), (h2, .inr (4, [.int (nI p1), .int (nI d1)]))]) (wr := [(h1, .inl (gI g, 64, .inl fl))]) hx hb hml hown hw hkn hS hl hA hP hD [0, 2] [1] rfl rfl (by decide) (by decide) (by decide) (c_X4_reads l g _ h0 (fl i) h1 h2 sn r1 p1 d1 (h_o)) vf_X4_reads mw_128 rfl rfl ⟨(Nat.le_of_ble_eq_true rfl), (Nat.le_of_ble_eq_true rfl)⟩ rfl rfl rfl rfl (Nat.le_of_ble_eq_true rfl) dX4_firstFault_35 ⟨(Nat.le_of_ble_eq_true rfl), (Nat.le_of_ble_eq_true rfl)⟩ (fun r u H locs hq hP hD hS => ?_)
          have hq : r = (b2i (rdB (fl i) p1 d1)) := hq
          subst hq
          have hP : va_P g.1 vwCl [(h0, .inr (3, [.ref h1, .ref h2, .int (nI sn), .long (rdR (fl i) p1 d1 r1)])), (h1, .inl (gI g, 64, .inl fl)), (h2, .inr (4, [.int (nI (rdP (fl i) p1 d1)), .int (nI (rdD (fl i) p1 d1))]))] H := hP.sub [1, 0, 2] rfl
          have hD : va_D A [(h0, .inr (3, [.ref h1, .ref h2, .int (nI sn), .long (rdR (fl i) p1 d1 r1)])), (h1, .inl (gI g, 64, .inl fl)), (h2, .inr (4, [.int (nI (rdP (fl i) p1 d1)), .int (nI (rdD (fl i) p1 d1))]))] := hD.sub [1, 0, 2] (by decide) rfl
          refine lv_ifneB (b := rdB (fl i) p1 d1) (tgt := 43) hx hb dX4_firstFault_38 (by decide) (fun c_6 => ?_) (fun c_6 => ?_)
          · skip
            refine lv_iinc (v := (nI (i + 1))) (lv' := [(1, .int (nI (i + 1))), (0, .ref h0)]) hx hb dX4_firstFault_43 hl (k := 0) rfl (nI_1 i) (by decide) rfl (fun ls hl => ?_)
            refine lv_goto (tgt := 14) hx hb dX4_firstFault_46 (by decide) ?_
            exact ih_14 (i + 1) (rdP (fl i) p1 d1) (rdD (fl i) p1 d1) (rdR (fl i) p1 d1 r1) (by omega) (okW_rd h_o) (by rw [h_s (sn - (i + 1)) (by omega)]; exact (if_pos c_6).symm) (by omega) _ _ hP hD hS ls (lv_sub hl [0, 1] rfl)
          · skip
            refine lv_iload_n hx hb dX4_firstFault_41 rfl (lv_at hl 0 rfl) ?_
            have e9 := h_s (sn - (i + 1)) (by omega)
            rw [if_neg (nt_of c_6)] at e9
            exact eM_i (g := g) hx hb hr hlocks (rdR (fl i) p1 d1 r1, nI (rdP (fl i) p1 d1), nI (rdD (fl i) p1 d1)) (⟨by rw [e9], by rw [e9]⟩) (hP.sub [0, 1, 2] rfl) (hD.sub [0, 1, 2] (by decide) rfl) hS dX4_firstFault_42
  exact lp_14 (sn + 1) 0 0 0 0 (by omega) (okW_0) (rfl) (by omega) _ _ hP hD hS ls (lv_sub hl [0, 1] rfl)
set_option maxHeartbeats 4000000 in
set_option maxRecDepth 100000 in
theorem c_X3_init (l : Launch) (g : GG) (sz : Nat) (h0 : Nat) (sx : Int32)  : Met l yX3_init (Cond.code yX3_init cX3_init 1 none :: wsL_law) ({ frames := 1, cells := 2, slots := 12, locals := 20 }) (PM g [.ref h0] [(h0, .inr (2, [.null, .null, .int sx]))] sz) (QAv g (fun (u : Nat × Nat) => True) (fun (u : Nat × Nat) => [(h0, .inr (2, [.ref u.1, .ref u.2, .int 0])), (u.1, .inl (gI g, 6, .inl (fun _ => 0))), (u.2, .inl (gZ g, 6, .inl (fun _ => 0)))]) (va_A [(h0, .inr (2, [.null, .null, .int sx]))] sz)) 2 12 (va_A [(h0, .inr (2, [.null, .null, .int sx]))] sz) := by
  refine Met.M (Qc := fun A => QAv g (fun (u : Nat × Nat) => True) (fun (u : Nat × Nat) => [(h0, .inr (2, [.ref u.1, .ref u.2, .int 0])), (u.1, .inl (gI g, 6, .inl (fun _ => 0))), (u.2, .inl (gZ g, 6, .inl (fun _ => 0)))]) A) (by decide) (Nat.le_of_ble_eq_true rfl) rfl ?_
  intro p e s m below meth c hx hb hr hml hw hown hlocks hin A hA hkn hP hD ls hl
  have hl : lv_has ls 1 [(0, .ref h0)] := hl
  have hS : va_S A s.heap s.heap [] := va_S.rf
  obtain ⟨H, hHe⟩ : ∃ H, H = s.heap := ⟨_, rfl⟩
  obtain ⟨locs, hLe⟩ : ∃ locs : List Loc, locs = [] := ⟨_, rfl⟩
  have hP : va_P g.1 vwCl [(h0, .inr (2, [.null, .null, .int sx]))] H := by rw [hHe]; exact hP
  have hS : va_S A s.heap H locs := by rw [hHe, hLe]; exact hS
  have hgo : W p l e ({ frames := 1, cells := 2, slots := 12, locals := 20 } : Room) s m ([.ref h0] : List Value).toArray below meth c H locs 0 0 (MQ below (QAv g (fun (u : Nat × Nat) => True) (fun (u : Nat × Nat) => [(h0, .inr (2, [.ref u.1, .ref u.2, .int 0])), (u.1, .inl (gI g, 6, .inl (fun _ => 0))), (u.2, .inl (gZ g, 6, .inl (fun _ => 0)))]) A) ([.ref h0] : List Value).toArray s 2 12 A) (F0 m 0 ls []) := ?_
  · rw [hHe, hLe] at hgo; exact hgo
  clear hHe hLe
  refine lv_aload_n hx hb dX3_init_0 rfl (lv_at hl 0 rfl) ?_
  refine W.objInit hx hb hown (hw _ mw_64) (hw _ mw_11) (hw _ mw_12) rfl (by rw [hml]; exact hl.1) rfl dX3_init_1 (Nat.le_of_ble_eq_true rfl) (Nat.le_of_ble_eq_true rfl) ?_
  refine W.eq (g2 := F0 m 4 ls []) rfl ?_
  refine lv_aload_n hx hb dX3_init_4 rfl (lv_at hl 0 rfl) ?_
  refine lv_bipush (v := 6) hx hb dX3_init_5 (by decide) ?_
  refine va_newG (t0 := 0) (atype := .int) (a0 := (6, .inl (fun _ => 0))) hx hb (hw _ mw_35) (ty := .int) rfl hkn.1 rfl hP hD hS hA (fun _ => rfl) (by decide) (by decide) (by decide) (Nat.le_of_ble_eq_true rfl) (Nat.le_of_ble_eq_true rfl) dX3_init_7 (fun q7 H hP hD hS => ?_)
  have hP : va_P g.1 vwCl [(h0, .inr (2, [.null, .null, .int sx])), (q7, .inl (gI g, 6, .inl (fun _ => 0)))] H := hP
  have hD : va_D A [(h0, .inr (2, [.null, .null, .int sx])), (q7, .inl (gI g, 6, .inl (fun _ => 0)))] := hD
  refine W.widen (k := 1) (n := 6) (by omega) (by omega) ?_
  refine va_putF (D := g.1) (ci := 2) (v := .ref q7) (ty := (.array .int)) (C := RX3) (T := TX3) (N := 3) hx hb hw inlX3 tyX3 tyX3_ok nmX3 hown hkn.1 hP hD hS 0 rfl rfl 0 (by decide) (hw _ mw_65) (fun _ h9 => h9) rfl hin rfl (by decide +kernel) rfl rfl (Nat.le_of_ble_eq_true rfl) dX3_init_9 (fun H locs hP hD hS => ?_)
  have hP : va_P g.1 vwCl [(h0, .inr (2, [.ref q7, .null, .int sx])), (q7, .inl (gI g, 6, .inl (fun _ => 0)))] H := hP
  have hD : va_D A [(h0, .inr (2, [.ref q7, .null, .int sx])), (q7, .inl (gI g, 6, .inl (fun _ => 0)))] := hD
  refine lv_aload_n hx hb dX3_init_12 rfl (lv_at hl 0 rfl) ?_
  refine lv_bipush (v := 6) hx hb dX3_init_13 (by decide) ?_
  refine va_newG (t0 := 2) (atype := .boolean) (a0 := (6, .inl (fun _ => 0))) hx hb (hw _ mw_66) (ty := .boolean) rfl hkn.1 rfl hP hD hS hA (fun _ => rfl) (by decide) (by decide) (by decide) (Nat.le_of_ble_eq_true rfl) (Nat.le_of_ble_eq_true rfl) dX3_init_15 (fun q15 H hP hD hS => ?_)
  have hP : va_P g.1 vwCl [(h0, .inr (2, [.ref q7, .null, .int sx])), (q7, .inl (gI g, 6, .inl (fun _ => 0))), (q15, .inl (gZ g, 6, .inl (fun _ => 0)))] H := hP
  have hD : va_D A [(h0, .inr (2, [.ref q7, .null, .int sx])), (q7, .inl (gI g, 6, .inl (fun _ => 0))), (q15, .inl (gZ g, 6, .inl (fun _ => 0)))] := hD
  refine W.widen (k := 2) (n := 12) (by omega) (by omega) ?_
  refine va_putF (D := g.1) (ci := 2) (v := .ref q15) (ty := (.array .boolean)) (C := RX3) (T := TX3) (N := 3) hx hb hw inlX3 tyX3 tyX3_ok nmX3 hown hkn.1 hP hD hS 0 rfl rfl 1 (by decide) (hw _ mw_67) (fun _ h9 => h9) rfl hin rfl (by decide +kernel) rfl rfl (Nat.le_of_ble_eq_true rfl) dX3_init_17 (fun H locs hP hD hS => ?_)
  have hP : va_P g.1 vwCl [(h0, .inr (2, [.ref q7, .ref q15, .int sx])), (q7, .inl (gI g, 6, .inl (fun _ => 0))), (q15, .inl (gZ g, 6, .inl (fun _ => 0)))] H := hP
  have hD : va_D A [(h0, .inr (2, [.ref q7, .ref q15, .int sx])), (q7, .inl (gI g, 6, .inl (fun _ => 0))), (q15, .inl (gZ g, 6, .inl (fun _ => 0)))] := hD
  refine lv_aload_n hx hb dX3_init_20 rfl (lv_at hl 0 rfl) ?_
  refine lv_iconst (v := 0) hx hb dX3_init_21 (by decide) ?_
  refine va_put (D := g.1) (ci := 2) (v := .int 0) (ty := .int) (C := RX3) (T := TX3) (N := 3) hx hb hw inlX3 tyX3 tyX3_ok nmX3 hown hkn.1 hP hD hS 0 rfl rfl 2 (by decide) (hw _ mw_68) (fun _ h9 => h9) rfl (by decide +kernel) rfl rfl (Nat.le_of_ble_eq_true rfl) dX3_init_22 (fun H locs hP hD hS => ?_)
  have hP : va_P g.1 vwCl [(h0, .inr (2, [.ref q7, .ref q15, .int 0])), (q7, .inl (gI g, 6, .inl (fun _ => 0))), (q15, .inl (gZ g, 6, .inl (fun _ => 0)))] H := hP
  have hD : va_D A [(h0, .inr (2, [.ref q7, .ref q15, .int 0])), (q7, .inl (gI g, 6, .inl (fun _ => 0))), (q15, .inl (gZ g, 6, .inl (fun _ => 0)))] := hD
  exact eM_v (g := g) hx hb hr hlocks (q7, q15) (trivial) (hP.sub [0, 1, 2] rfl) (hD.sub [0, 1, 2] (by decide) rfl) hS dX3_init_25
set_option maxHeartbeats 4000000 in
set_option maxRecDepth 100000 in
theorem c_X3_size (l : Launch) (g : GG) (H : Heap) (h0 : Nat) (h1 : Nat) (h2 : Nat) (sn : Nat)  (hP : va_P g.1 vwCl [(h0, .inr (2, [.ref h1, .ref h2, .int (nI sn)]))] H) : Met l yX3_size (Cond.code yX3_size cX3_size 1 (some .int) :: wsL_law) ({ frames := 0, cells := 0, slots := 0, locals := 0 }) (PR g [.ref h0] H) (QRi (nI sn) H) 0 0 NoA := by
  refine Met.R (by decide) (Nat.le_of_ble_eq_true rfl) rfl ?_
  intro p e s m below meth c hx hb hr hml hw hown hlocks hkn hH ls hl
  subst hH
  have hl : lv_has ls 1 [(0, .ref h0)] := hl
  have hS : va_S NoA s.heap s.heap [] := va_S.rf
  refine lv_aload_n hx hb dX3_size_0 rfl (lv_at hl 0 rfl) ?_
  refine va_get (D := g.1) (ci := 2) (v := .int (nI sn)) (C := RX3) (T := TX3) (N := 3) hx hb hw inlX3 hown hkn.1 hP 0 rfl rfl 2 (by decide) (hw _ mw_68) (fun _ h9 => h9) rfl dX3_size_1 ?_
  exact eR_i hx hb hr hlocks (rfl) dX3_size_4
set_option maxHeartbeats 4000000 in
set_option maxRecDepth 100000 in
theorem c_X3_clear (l : Launch) (g : GG) (sz : Nat) (h0 : Nat) (h1 : Nat) (h2 : Nat) (sn : Nat)  : Met l yX3_clear (Cond.code yX3_clear cX3_clear 1 none :: wsL_law) ({ frames := 0, cells := 0, slots := 0, locals := 0 }) (PM g [.ref h0] [(h0, .inr (2, [.ref h1, .ref h2, .int (nI sn)]))] sz) (QAv g (fun (u : Unit) => True) (fun (u : Unit) => [(h0, .inr (2, [.ref h1, .ref h2, .int 0]))]) (va_A [(h0, .inr (2, [.ref h1, .ref h2, .int (nI sn)]))] sz)) 0 0 (va_A [(h0, .inr (2, [.ref h1, .ref h2, .int (nI sn)]))] sz) := by
  refine Met.M (Qc := fun A => QAv g (fun (u : Unit) => True) (fun (u : Unit) => [(h0, .inr (2, [.ref h1, .ref h2, .int 0]))]) A) (by decide) (Nat.le_of_ble_eq_true rfl) rfl ?_
  intro p e s m below meth c hx hb hr hml hw hown hlocks hin A hA hkn hP hD ls hl
  have hl : lv_has ls 1 [(0, .ref h0)] := hl
  have hS : va_S A s.heap s.heap [] := va_S.rf
  obtain ⟨H, hHe⟩ : ∃ H, H = s.heap := ⟨_, rfl⟩
  obtain ⟨locs, hLe⟩ : ∃ locs : List Loc, locs = [] := ⟨_, rfl⟩
  have hP : va_P g.1 vwCl [(h0, .inr (2, [.ref h1, .ref h2, .int (nI sn)]))] H := by rw [hHe]; exact hP
  have hS : va_S A s.heap H locs := by rw [hHe, hLe]; exact hS
  have hgo : W p l e ({ frames := 0, cells := 0, slots := 0, locals := 0 } : Room) s m ([.ref h0] : List Value).toArray below meth c H locs 0 0 (MQ below (QAv g (fun (u : Unit) => True) (fun (u : Unit) => [(h0, .inr (2, [.ref h1, .ref h2, .int 0]))]) A) ([.ref h0] : List Value).toArray s 0 0 A) (F0 m 0 ls []) := ?_
  · rw [hHe, hLe] at hgo; exact hgo
  clear hHe hLe
  refine lv_aload_n hx hb dX3_clear_0 rfl (lv_at hl 0 rfl) ?_
  refine lv_iconst (v := 0) hx hb dX3_clear_1 (by decide) ?_
  refine va_put (D := g.1) (ci := 2) (v := .int 0) (ty := .int) (C := RX3) (T := TX3) (N := 3) hx hb hw inlX3 tyX3 tyX3_ok nmX3 hown hkn.1 hP hD hS 0 rfl rfl 2 (by decide) (hw _ mw_68) (fun _ h9 => h9) rfl (by decide +kernel) rfl rfl (Nat.le_of_ble_eq_true rfl) dX3_clear_2 (fun H locs hP hD hS => ?_)
  have hP : va_P g.1 vwCl [(h0, .inr (2, [.ref h1, .ref h2, .int 0]))] H := hP
  have hD : va_D A [(h0, .inr (2, [.ref h1, .ref h2, .int 0]))] := hD
  exact eM_v (g := g) hx hb hr hlocks () (trivial) (hP.sub [0] rfl) (hD.sub [0] (by decide) rfl) hS dX3_clear_5
set_option maxHeartbeats 4000000 in
set_option maxRecDepth 100000 in
theorem c_X3_add (l : Launch) (g : GG) (sz : Nat) (h0 : Nat) (x0 : Int32) (bb : Bool) (h1 : Nat) (h2 : Nat) (sn : Nat) (fc : Nat → Int32) (fz : Nat → Int32) (hsn : sn ≤ 6) : Met l yX3_add (Cond.code yX3_add cX3_add 3 (some .boolean) :: wsL_law) ({ frames := 0, cells := 0, slots := 0, locals := 0 }) (PM g [.ref h0, .int x0, .int (b2i bb)] [(h0, .inr (2, [.ref h1, .ref h2, .int (nI sn)])), (h1, .inl (gI g, 6, .inl fc)), (h2, .inl (gZ g, 6, .inl fz))] sz) (QAi g (fun (r : Int32) (u : Unit) => r = b2i (decide (sn < 6))) (fun (u : Unit) => [(h0, .inr (2, [.ref h1, .ref h2, .int (nI (saN sn))])), (h1, .inl (gI g, 6, .inl (saF sn fc x0))), (h2, .inl (gZ g, 6, .inl (saF sn fz (b2i bb))))]) (va_A [(h0, .inr (2, [.ref h1, .ref h2, .int (nI sn)])), (h1, .inl (gI g, 6, .inl fc)), (h2, .inl (gZ g, 6, .inl fz))] sz)) 0 0 (va_A [(h0, .inr (2, [.ref h1, .ref h2, .int (nI sn)])), (h1, .inl (gI g, 6, .inl fc)), (h2, .inl (gZ g, 6, .inl fz))] sz) := by
  refine Met.M (Qc := fun A => QAi g (fun (r : Int32) (u : Unit) => r = b2i (decide (sn < 6))) (fun (u : Unit) => [(h0, .inr (2, [.ref h1, .ref h2, .int (nI (saN sn))])), (h1, .inl (gI g, 6, .inl (saF sn fc x0))), (h2, .inl (gZ g, 6, .inl (saF sn fz (b2i bb))))]) A) (by decide) (Nat.le_of_ble_eq_true rfl) rfl ?_
  intro p e s m below meth c hx hb hr hml hw hown hlocks hin A hA hkn hP hD ls hl
  have hl : lv_has ls 3 [(0, .ref h0), (1, .int x0), (2, .int (b2i bb))] := hl
  have hS : va_S A s.heap s.heap [] := va_S.rf
  obtain ⟨H, hHe⟩ : ∃ H, H = s.heap := ⟨_, rfl⟩
  obtain ⟨locs, hLe⟩ : ∃ locs : List Loc, locs = [] := ⟨_, rfl⟩
  have hP : va_P g.1 vwCl [(h0, .inr (2, [.ref h1, .ref h2, .int (nI sn)])), (h1, .inl (gI g, 6, .inl fc)), (h2, .inl (gZ g, 6, .inl fz))] H := by rw [hHe]; exact hP
  have hS : va_S A s.heap H locs := by rw [hHe, hLe]; exact hS
  have hgo : W p l e ({ frames := 0, cells := 0, slots := 0, locals := 0 } : Room) s m ([.ref h0, .int x0, .int (b2i bb)] : List Value).toArray below meth c H locs 0 0 (MQ below (QAi g (fun (r : Int32) (u : Unit) => r = b2i (decide (sn < 6))) (fun (u : Unit) => [(h0, .inr (2, [.ref h1, .ref h2, .int (nI (saN sn))])), (h1, .inl (gI g, 6, .inl (saF sn fc x0))), (h2, .inl (gZ g, 6, .inl (saF sn fz (b2i bb))))]) A) ([.ref h0, .int x0, .int (b2i bb)] : List Value).toArray s 0 0 A) (F0 m 0 ls []) := ?_
  · rw [hHe, hLe] at hgo; exact hgo
  clear hHe hLe
  refine lv_aload_n hx hb dX3_add_0 rfl (lv_at hl 0 rfl) ?_
  refine va_get (D := g.1) (ci := 2) (v := .int (nI sn)) (C := RX3) (T := TX3) (N := 3) hx hb hw inlX3 hown hkn.1 hP 0 rfl rfl 2 (by decide) (hw _ mw_68) (fun _ h9 => h9) rfl dX3_add_1 ?_
  refine lv_if_lt (tgt := 16) hx hb dX3_add_4 (by decide) (fun c_1 => ?_) (fun c_1 => ?_)
  · skip
    exact absurd c_1 (nI_pos (by omega))
  · skip
    refine lv_aload_n hx hb dX3_add_7 rfl (lv_at hl 0 rfl) ?_
    refine va_get (D := g.1) (ci := 2) (v := .int (nI sn)) (C := RX3) (T := TX3) (N := 3) hx hb hw inlX3 hown hkn.1 hP 0 rfl rfl 2 (by decide) (hw _ mw_68) (fun _ h9 => h9) rfl dX3_add_8 ?_
    refine lv_bipush (v := 6) hx hb dX3_add_11 (by decide) ?_
    refine ic_lt (a := sn) (d := 6) (tgt := 18) hx hb dX3_add_13 (by decide) rfl rfl (by omega) (by omega) (fun c_2 => ?_) (fun c_2 => ?_)
    · skip
      refine lv_aload_n hx hb dX3_add_18 rfl (lv_at hl 0 rfl) ?_
      refine va_get (D := g.1) (ci := 2) (v := .ref h1) (C := RX3) (T := TX3) (N := 3) hx hb hw inlX3 hown hkn.1 hP 0 rfl rfl 0 (by decide) (hw _ mw_65) (fun _ h9 => h9) rfl dX3_add_19 ?_
      refine lv_aload_n hx hb dX3_add_22 rfl (lv_at hl 0 rfl) ?_
      refine va_get (D := g.1) (ci := 2) (v := .int (nI sn)) (C := RX3) (T := TX3) (N := 3) hx hb hw inlX3 hown hkn.1 hP 0 rfl rfl 2 (by decide) (hw _ mw_68) (fun _ h9 => h9) rfl dX3_add_23 ?_
      refine lv_iload_n hx hb dX3_add_26 rfl (lv_at hl 1 rfl) ?_
      refine va_iast hx hb hkn.1 hP hD hS 1 0 rfl rfl (vp_in_nI (n := sn) (by omega) (by decide)) dX3_add_27 (fun H locs hP hD hS => ?_)
      rw [nI_clamp (n := sn) (by omega)] at hP hD
      have hP : va_P g.1 vwCl [(h0, .inr (2, [.ref h1, .ref h2, .int (nI sn)])), (h1, .inl (gI g, 6, .inl (upd fc sn x0))), (h2, .inl (gZ g, 6, .inl fz))] H := hP
      have hD : va_D A [(h0, .inr (2, [.ref h1, .ref h2, .int (nI sn)])), (h1, .inl (gI g, 6, .inl (upd fc sn x0))), (h2, .inl (gZ g, 6, .inl fz))] := hD
      refine lv_aload_n hx hb dX3_add_28 rfl (lv_at hl 0 rfl) ?_
      refine va_get (D := g.1) (ci := 2) (v := .ref h2) (C := RX3) (T := TX3) (N := 3) hx hb hw inlX3 hown hkn.1 hP 0 rfl rfl 1 (by decide) (hw _ mw_67) (fun _ h9 => h9) rfl dX3_add_29 ?_
      refine lv_aload_n hx hb dX3_add_32 rfl (lv_at hl 0 rfl) ?_
      refine va_get (D := g.1) (ci := 2) (v := .int (nI sn)) (C := RX3) (T := TX3) (N := 3) hx hb hw inlX3 hown hkn.1 hP 0 rfl rfl 2 (by decide) (hw _ mw_68) (fun _ h9 => h9) rfl dX3_add_33 ?_
      refine lv_iload_n hx hb dX3_add_36 rfl (lv_at hl 2 rfl) ?_
      refine va_zast hx hb hkn.1 hP hD hS 2 2 rfl rfl (vp_in_nI (n := sn) (by omega) (by decide)) dX3_add_37 (fun H locs hP hD hS => ?_)
      rw [nI_clamp (n := sn) (by omega)] at hP hD
      rw [vp_nar_b2i] at hP hD
      have hP : va_P g.1 vwCl [(h0, .inr (2, [.ref h1, .ref h2, .int (nI sn)])), (h1, .inl (gI g, 6, .inl (upd fc sn x0))), (h2, .inl (gZ g, 6, .inl (upd fz sn (b2i bb))))] H := hP
      have hD : va_D A [(h0, .inr (2, [.ref h1, .ref h2, .int (nI sn)])), (h1, .inl (gI g, 6, .inl (upd fc sn x0))), (h2, .inl (gZ g, 6, .inl (upd fz sn (b2i bb))))] := hD
      refine lv_aload_n hx hb dX3_add_38 rfl (lv_at hl 0 rfl) ?_
      refine lv_dup hx hb dX3_add_39 rfl ?_
      refine va_get (D := g.1) (ci := 2) (v := .int (nI sn)) (C := RX3) (T := TX3) (N := 3) hx hb hw inlX3 hown hkn.1 hP 0 rfl rfl 2 (by decide) (hw _ mw_68) (fun _ h9 => h9) rfl dX3_add_40 ?_
      refine lv_iconst (v := 1) hx hb dX3_add_43 (by decide) ?_
      refine lv_iadd hx hb dX3_add_44 ?_
      refine lv_eqi (nI_add sn 1) ?_
      refine va_put (D := g.1) (ci := 2) (v := .int (nI (sn + 1))) (ty := .int) (C := RX3) (T := TX3) (N := 3) hx hb hw inlX3 tyX3 tyX3_ok nmX3 hown hkn.1 hP hD hS 0 rfl rfl 2 (by decide) (hw _ mw_68) (fun _ h9 => h9) rfl (by decide +kernel) rfl rfl (Nat.le_of_ble_eq_true rfl) dX3_add_45 (fun H locs hP hD hS => ?_)
      have hP : va_P g.1 vwCl [(h0, .inr (2, [.ref h1, .ref h2, .int (nI (sn + 1))])), (h1, .inl (gI g, 6, .inl (upd fc sn x0))), (h2, .inl (gZ g, 6, .inl (upd fz sn (b2i bb))))] H := hP
      have hD : va_D A [(h0, .inr (2, [.ref h1, .ref h2, .int (nI (sn + 1))])), (h1, .inl (gI g, 6, .inl (upd fc sn x0))), (h2, .inl (gZ g, 6, .inl (upd fz sn (b2i bb))))] := hD
      refine lv_iconst (v := 1) hx hb dX3_add_48 (by decide) ?_
      have eb : decide (sn < 6) = true := by simp; omega
      have e1 : saN sn = sn + 1 := by unfold saN; exact if_pos (by omega)
      have e2 : saF sn fc x0 = (upd fc sn x0) := by unfold saF; exact if_pos (by omega)
      have e3 : saF sn fz (b2i bb) = (upd fz sn (b2i bb)) := by unfold saF; exact if_pos (by omega)
      exact eM_z (g := g) (b := decide (sn < 6)) hx hb hr hlocks () (by rw [eb]; rfl) (by rw [eb]; rfl) (show va_P g.1 vwCl [(h0, .inr (2, [.ref h1, .ref h2, .int (nI (saN sn))])), (h1, .inl (gI g, 6, .inl (saF sn fc x0))), (h2, .inl (gZ g, 6, .inl (saF sn fz (b2i bb))))] H by rw [e1, e2, e3]; exact hP.sub [0, 1, 2] rfl) (show va_D A [(h0, .inr (2, [.ref h1, .ref h2, .int (nI (saN sn))])), (h1, .inl (gI g, 6, .inl (saF sn fc x0))), (h2, .inl (gZ g, 6, .inl (saF sn fz (b2i bb))))] by rw [e1, e2, e3]; exact hD.sub [0, 1, 2] (by decide) rfl) hS dX3_add_49
    · skip
      refine lv_iconst (v := 0) hx hb dX3_add_16 (by decide) ?_
      have eb : decide (sn < 6) = false := by simp; omega
      have e1 : saN sn = sn := by unfold saN; exact if_neg (by omega)
      have e2 : saF sn fc x0 = fc := by unfold saF; exact if_neg (by omega)
      have e3 : saF sn fz (b2i bb) = fz := by unfold saF; exact if_neg (by omega)
      exact eM_z (g := g) (b := decide (sn < 6)) hx hb hr hlocks () (by rw [eb]; rfl) (by rw [eb]; rfl) (show va_P g.1 vwCl [(h0, .inr (2, [.ref h1, .ref h2, .int (nI (saN sn))])), (h1, .inl (gI g, 6, .inl (saF sn fc x0))), (h2, .inl (gZ g, 6, .inl (saF sn fz (b2i bb))))] H by rw [e1, e2, e3]; exact hP.sub [0, 1, 2] rfl) (show va_D A [(h0, .inr (2, [.ref h1, .ref h2, .int (nI (saN sn))])), (h1, .inl (gI g, 6, .inl (saF sn fc x0))), (h2, .inl (gZ g, 6, .inl (saF sn fz (b2i bb))))] by rw [e1, e2, e3]; exact hD.sub [0, 1, 2] (by decide) rfl) hS dX3_add_17
set_option maxHeartbeats 4000000 in
set_option maxRecDepth 100000 in
theorem c_X3_isSo (l : Launch) (g : GG) (H : Heap) (h0 : Nat) (q : Nat) (c0 : Int32) (h1 : Nat) (h2 : Nat) (sn : Nat) (fc : Nat → Int32) (fz : Nat → Int32) (cf : Nat → Nat) (bz : Nat → Bool) (hsn : sn ≤ 6) (hcf : ∀ j, j < sn → fc j = nI (cf j) ∧ cf j < 64) (hbz : ∀ j, j < sn → fz j = b2i (bz j)) (hq : q < 4) (hP : va_P g.1 vwCl [(h0, .inr (2, [.ref h1, .ref h2, .int (nI sn)])), (h1, .inl (gI g, 6, .inl fc)), (h2, .inl (gZ g, 6, .inl fz))] H) : Met l yX3_isSo (Cond.code yX3_isSo cX3_isSo 5 (some .boolean) :: wsL_law) ({ frames := 2, cells := 0, slots := 0, locals := 40 }) (PR g [.ref h0, .int (nI q), .int c0] H) (QRi (b2i (soB cf bz sn q c0)) H) 0 0 NoA := by
  refine Met.R (by decide) (Nat.le_of_ble_eq_true rfl) rfl ?_
  intro p e s m below meth c hx hb hr hml hw hown hlocks hkn hH ls hl
  subst hH
  have hl : lv_has ls 5 [(0, .ref h0), (1, .int (nI q)), (2, .int c0)] := hl
  have hS : va_S NoA s.heap s.heap [] := va_S.rf
  refine lv_iconst (v := 0) hx hb dX3_isSo_0 (by decide) ?_
  refine lv_istore_n (lv' := [(3, .int 0), (0, .ref h0), (1, .int (nI q)), (2, .int c0)]) hx hb dX3_isSo_1 rfl hl (by decide) rfl (fun ls hl => ?_)
  have lp_2 : ∀ (n_2 : Nat) (i : Nat), (i ≤ sn) → (∀ j, j < i → okS cf bz q c0 j = true) → sn < i + n_2 → ∀ (ls : Array Slot), lv_has ls 5 [(3, .int (nI i)), (0, .ref h0), (1, .int (nI q)), (2, .int c0)] → W p l e ({ frames := 2, cells := 0, slots := 0, locals := 40 } : Room) s m ([.ref h0, .int (nI q), .int c0] : List Value).toArray below meth c s.heap [] 0 0 (MQ below (QRi (b2i (soB cf bz sn q c0)) s.heap) ([.ref h0, .int (nI q), .int c0] : List Value).toArray s 0 0 NoA) (F0 m 2 ls []) := by
    intro n_2
    induction n_2 with
    | zero => intro i h_i h_a hfu_2; exact absurd hfu_2 (by omega)
    | succ n_2 ih_2 =>
      intro i h_i h_a hfu_2 ls hl
      refine lv_iload_n hx hb dX3_isSo_2 rfl (lv_at hl 0 rfl) ?_
      refine lv_aload_n hx hb dX3_isSo_3 rfl (lv_at hl 1 rfl) ?_
      refine va_get (D := g.1) (ci := 2) (v := .int (nI sn)) (C := RX3) (T := TX3) (N := 3) hx hb hw inlX3 hown hkn.1 hP 0 rfl rfl 2 (by decide) (hw _ mw_68) (fun _ h9 => h9) rfl dX3_isSo_4 ?_
      refine ic_ge (a := i) (d := sn) (tgt := 66) hx hb dX3_isSo_7 (by decide) rfl rfl (by omega) (by omega) (fun c_1 => ?_) (fun c_1 => ?_)
      · skip
        refine lv_iconst (v := 1) hx hb dX3_isSo_66 (by decide) ?_
        exact eR_z hx hb hr hlocks (by rw [show soB cf bz sn q c0 = true from decide_eq_true (fun j hj => h_a j (by omega))]; rfl) dX3_isSo_67
      · skip
        refine lv_iload_n hx hb dX3_isSo_10 rfl (lv_at hl 0 rfl) ?_
        refine lv_bipush (v := 6) hx hb dX3_isSo_11 (by decide) ?_
        refine ic_ge (a := i) (d := 6) (tgt := 66) hx hb dX3_isSo_13 (by decide) rfl rfl (by omega) (by omega) (fun c_2 => ?_) (fun c_2 => ?_)
        · skip
          omega
        · skip
          have hc9 := (hcf i (by omega)).2
          refine lv_iload_n hx hb dX3_isSo_16 rfl (lv_at hl 2 rfl) ?_
          refine cS_l (As := [.int (nI q)]) (rest := []) hx hb hml hown hw hkn hS hl (c_X2_quarterCells l g _ q (by omega)) sf_X2_quarterCells mw_652 ⟨(Nat.le_of_ble_eq_true rfl), (Nat.le_of_ble_eq_true rfl)⟩ rfl rfl rfl rfl (Nat.le_of_ble_eq_true rfl) dX3_isSo_17 ⟨(Nat.le_of_ble_eq_true rfl), (Nat.le_of_ble_eq_true rfl)⟩ ?_
          refine lv_aload_n hx hb dX3_isSo_20 rfl (lv_at hl 1 rfl) ?_
          refine va_get (D := g.1) (ci := 2) (v := .ref h1) (C := RX3) (T := TX3) (N := 3) hx hb hw inlX3 hown hkn.1 hP 0 rfl rfl 0 (by decide) (hw _ mw_65) (fun _ h9 => h9) rfl dX3_isSo_21 ?_
          refine lv_iload_n hx hb dX3_isSo_24 rfl (lv_at hl 0 rfl) ?_
          refine va_iald hx hb hkn.1 hP 1 0 rfl rfl (vp_in_nI (n := i) (by omega) (by decide)) dX3_isSo_25 ?_
          refine lv_eqi (show _ = fc i by rw [nI_clamp (n := i) (by omega)]) ?_
          refine lv_eqi (show _ = (nI (cf i)) from (hcf i (by omega)).1) ?_
          refine cS_i (As := [.long (qcS q), .int (nI (cf i))]) (rest := []) hx hb hml hown hw hkn hS hl (c_X2_isBlack l g _ (qcS q) (cf i) (by omega)) sf_X2_isBlack mw_655 ⟨(Nat.le_of_ble_eq_true rfl), (Nat.le_of_ble_eq_true rfl)⟩ rfl rfl rfl rfl (Nat.le_of_ble_eq_true rfl) dX3_isSo_26 ⟨(Nat.le_of_ble_eq_true rfl), (Nat.le_of_ble_eq_true rfl)⟩ ?_
          refine lv_istore (lv' := [(4, .int (b2i (bt (qcS q) (cf i)))), (3, .int (nI i)), (0, .ref h0), (1, .int (nI q)), (2, .int c0)]) hx hb dX3_isSo_29 hl (by decide) rfl (fun ls hl => ?_)
          refine lv_iload hx hb dX3_isSo_31 (lv_at hl 0 rfl) ?_
          refine lv_ifeqB (b := bt (qcS q) (cf i)) (tgt := 60) hx hb dX3_isSo_33 (by decide) (fun c_3 => ?_) (fun c_3 => ?_)
          · skip
            refine lv_iinc (v := (nI (i + 1))) (lv' := [(3, .int (nI (i + 1))), (4, .int (b2i (bt (qcS q) (cf i)))), (0, .ref h0), (1, .int (nI q)), (2, .int c0)]) hx hb dX3_isSo_60 hl (k := 1) rfl (nI_1 i) (by decide) rfl (fun ls hl => ?_)
            refine lv_goto (tgt := 2) hx hb dX3_isSo_63 (by decide) ?_
            exact ih_2 (i + 1) (by omega) (lt_s h_a (by unfold okS; first | (simp [c_3]; done) | (rw [b2i_inj c_3]; simp))) (by omega) ls (lv_sub hl [0, 2, 3, 4] rfl)
          · skip
            refine lv_iload_n hx hb dX3_isSo_36 rfl (lv_at hl 4 rfl) ?_
            refine cS_l (As := [.int c0]) (rest := []) hx hb hml hown hw hkn hS hl (c_X2_pattern l g _ c0 ) sf_X2_pattern mw_656 ⟨(Nat.le_of_ble_eq_true rfl), (Nat.le_of_ble_eq_true rfl)⟩ rfl rfl rfl rfl (Nat.le_of_ble_eq_true rfl) dX3_isSo_37 ⟨(Nat.le_of_ble_eq_true rfl), (Nat.le_of_ble_eq_true rfl)⟩ ?_
            refine lv_aload_n hx hb dX3_isSo_40 rfl (lv_at hl 2 rfl) ?_
            refine va_get (D := g.1) (ci := 2) (v := .ref h1) (C := RX3) (T := TX3) (N := 3) hx hb hw inlX3 hown hkn.1 hP 0 rfl rfl 0 (by decide) (hw _ mw_65) (fun _ h9 => h9) rfl dX3_isSo_41 ?_
            refine lv_iload_n hx hb dX3_isSo_44 rfl (lv_at hl 1 rfl) ?_
            refine va_iald hx hb hkn.1 hP 1 0 rfl rfl (vp_in_nI (n := i) (by omega) (by decide)) dX3_isSo_45 ?_
            refine lv_eqi (show _ = fc i by rw [nI_clamp (n := i) (by omega)]) ?_
            refine lv_eqi (show _ = (nI (cf i)) from (hcf i (by omega)).1) ?_
            refine cS_i (As := [.long (patS c0), .int (nI (cf i))]) (rest := []) hx hb hml hown hw hkn hS hl (c_X2_isBlack l g _ (patS c0) (cf i) (by omega)) sf_X2_isBlack mw_655 ⟨(Nat.le_of_ble_eq_true rfl), (Nat.le_of_ble_eq_true rfl)⟩ rfl rfl rfl rfl (Nat.le_of_ble_eq_true rfl) dX3_isSo_46 ⟨(Nat.le_of_ble_eq_true rfl), (Nat.le_of_ble_eq_true rfl)⟩ ?_
            refine lv_aload_n hx hb dX3_isSo_49 rfl (lv_at hl 2 rfl) ?_
            refine va_get (D := g.1) (ci := 2) (v := .ref h2) (C := RX3) (T := TX3) (N := 3) hx hb hw inlX3 hown hkn.1 hP 0 rfl rfl 1 (by decide) (hw _ mw_67) (fun _ h9 => h9) rfl dX3_isSo_50 ?_
            refine lv_iload_n hx hb dX3_isSo_53 rfl (lv_at hl 1 rfl) ?_
            refine va_zald hx hb hkn.1 hP 2 2 rfl rfl (vp_in_nI (n := i) (by omega) (by decide)) dX3_isSo_54 ?_
            refine lv_eqi (show _ = fz i by rw [nI_clamp (n := i) (by omega)]) ?_
            refine lv_eqi (hbz i (by omega)) ?_
            refine lv_icmp_eq (tgt := 60) hx hb dX3_isSo_55 (by decide) (fun c_4 => ?_) (fun c_4 => ?_)
            · skip
              refine lv_iinc (v := (nI (i + 1))) (lv' := [(3, .int (nI (i + 1))), (4, .int (b2i (bt (qcS q) (cf i)))), (0, .ref h0), (1, .int (nI q)), (2, .int c0)]) hx hb dX3_isSo_60 hl (k := 1) rfl (nI_1 i) (by decide) rfl (fun ls hl => ?_)
              refine lv_goto (tgt := 2) hx hb dX3_isSo_63 (by decide) ?_
              exact ih_2 (i + 1) (by omega) (lt_s h_a (by unfold okS; first | (simp [c_3, c_4]; done) | (rw [b2i_inj c_4]; simp))) (by omega) ls (lv_sub hl [0, 2, 3, 4] rfl)
            · skip
              refine lv_iconst (v := 0) hx hb dX3_isSo_58 (by decide) ?_
              exact eR_z hx hb hr hlocks (by rw [show soB cf bz sn q c0 = false from decide_eq_false (fun h9 => by have h8 := h9 i (by omega); unfold okS at h8; simp [c_3] at h8; exact c_4 (congrArg b2i h8))]; rfl) dX3_isSo_59
  exact lp_2 (sn + 1) 0 (by omega) (lt_0) (by omega) ls (lv_sub hl [0, 1, 2, 3] rfl)
set_option maxHeartbeats 4000000 in
set_option maxRecDepth 100000 in
theorem c_X3_fits (l : Launch) (g : GG) (H : Heap) (h0 : Nat) (h1 : Nat) (h2 : Nat) (sn : Nat) (fc : Nat → Int32) (fz : Nat → Int32) (cf : Nat → Nat) (bz : Nat → Bool) (hsn : sn ≤ 6) (hcf : ∀ j, j < sn → fc j = nI (cf j) ∧ cf j < 64) (hbz : ∀ j, j < sn → fz j = b2i (bz j)) (hP : va_P g.1 vwCl [(h0, .inr (2, [.ref h1, .ref h2, .int (nI sn)])), (h1, .inl (gI g, 6, .inl fc)), (h2, .inl (gZ g, 6, .inl fz))] H) : Met l yX3_fits (Cond.code yX3_fits cX3_fits 5 (some .int) :: wsL_law) ({ frames := 3, cells := 0, slots := 0, locals := 64 }) (PR g [.ref h0] H) (QRi (nI (fitN cf bz sn)) H) 0 0 NoA := by
  refine Met.R (by decide) (Nat.le_of_ble_eq_true rfl) rfl ?_
  intro p e s m below meth c hx hb hr hml hw hown hlocks hkn hH ls hl
  subst hH
  have hl : lv_has ls 5 [(0, .ref h0)] := hl
  have hS : va_S NoA s.heap s.heap [] := va_S.rf
  refine lv_iconst (v := 1) hx hb dX3_fits_0 (by decide) ?_
  refine lv_istore_n (lv' := [(1, .int 1), (0, .ref h0)]) hx hb dX3_fits_1 rfl hl (by decide) rfl (fun ls hl => ?_)
  refine lv_iconst (v := 0) hx hb dX3_fits_2 (by decide) ?_
  refine lv_istore_n (lv' := [(2, .int 0), (1, .int 1), (0, .ref h0)]) hx hb dX3_fits_3 rfl hl (by decide) rfl (fun ls hl => ?_)
  have lp_4 : ∀ (n_4 : Nat) (q : Nat) (a : Nat), (q ≤ 4) → (a = it (fun q a => a * fb_ct (fun j => soB cf bz sn q (leafc j)) 4) q 1) → 4 < q + n_4 → ∀ (ls : Array Slot), lv_has ls 5 [(2, .int (nI q)), (1, .int (nI a)), (0, .ref h0)] → W p l e ({ frames := 3, cells := 0, slots := 0, locals := 64 } : Room) s m ([.ref h0] : List Value).toArray below meth c s.heap [] 0 0 (MQ below (QRi (nI (fitN cf bz sn)) s.heap) ([.ref h0] : List Value).toArray s 0 0 NoA) (F0 m 4 ls []) := by
    intro n_4
    induction n_4 with
    | zero => intro q a h_q h_a hfu_4; exact absurd hfu_4 (by omega)
    | succ n_4 ih_4 =>
      intro q a h_q h_a hfu_4 ls hl
      refine lv_iload_n hx hb dX3_fits_4 rfl (lv_at hl 0 rfl) ?_
      refine lv_iconst (v := 4) hx hb dX3_fits_5 (by decide) ?_
      refine ic_ge (a := q) (d := 4) (tgt := 61) hx hb dX3_fits_6 (by decide) rfl rfl (by omega) (by omega) (fun c_1 => ?_) (fun c_1 => ?_)
      · skip
        refine lv_iload_n hx hb dX3_fits_61 rfl (lv_at hl 1 rfl) ?_
        exact eR_i hx hb hr hlocks (by rw [h_a, show q = 4 by omega]; rfl) dX3_fits_62
      · skip
        refine lv_iconst (v := 0) hx hb dX3_fits_9 (by decide) ?_
        refine lv_istore_n (lv' := [(3, .int 0), (2, .int (nI q)), (1, .int (nI a)), (0, .ref h0)]) hx hb dX3_fits_10 rfl hl (by decide) rfl (fun ls hl => ?_)
        refine lv_iconst (v := 0) hx hb dX3_fits_11 (by decide) ?_
        refine lv_istore (lv' := [(4, .int 0), (3, .int 0), (2, .int (nI q)), (1, .int (nI a)), (0, .ref h0)]) hx hb dX3_fits_12 hl (by decide) rfl (fun ls hl => ?_)
        have lp_14 : ∀ (n_14 : Nat) (i : Nat) (k : Nat), (i ≤ 4) → (k = fb_ct (fun j => soB cf bz sn q (leafc j)) i) → 4 < i + n_14 → ∀ (ls : Array Slot), lv_has ls 5 [(4, .int (nI i)), (3, .int (nI k)), (2, .int (nI q)), (1, .int (nI a)), (0, .ref h0)] → W p l e ({ frames := 3, cells := 0, slots := 0, locals := 64 } : Room) s m ([.ref h0] : List Value).toArray below meth c s.heap [] 0 0 (MQ below (QRi (nI (fitN cf bz sn)) s.heap) ([.ref h0] : List Value).toArray s 0 0 NoA) (F0 m 14 ls []) := by
          intro n_14
          induction n_14 with
          | zero => intro i k h_i h_k hfu_14; exact absurd hfu_14 (by omega)
          | succ n_14 ih_14 =>
            intro i k h_i h_k hfu_14 ls hl
            refine lv_iload hx hb dX3_fits_14 (lv_at hl 0 rfl) ?_
            refine va_gets hx hb hkn.2.2.2.2.1 hS hown (hw _ mw_647) (fun _ h => h) dX3_fits_16 ?_
            refine va_tlen (v := 4) hx hb hkn.2.2.2.2.2 hS rfl dX3_fits_19 ?_
            refine ic_ge (a := i) (d := 4) (tgt := 51) hx hb dX3_fits_20 (by decide) rfl rfl (by omega) (by omega) (fun c_2 => ?_) (fun c_2 => ?_)
            · skip
              refine lv_iload_n hx hb dX3_fits_51 rfl (lv_at hl 3 rfl) ?_
              refine lv_iload_n hx hb dX3_fits_52 rfl (lv_at hl 1 rfl) ?_
              refine lv_imul hx hb dX3_fits_53 ?_
              refine lv_eqi (pk_mul a k) ?_
              refine lv_istore_n (lv' := [(1, .int (nI (a * k))), (4, .int (nI i)), (3, .int (nI k)), (2, .int (nI q)), (0, .ref h0)]) hx hb dX3_fits_54 rfl hl (by decide) rfl (fun ls hl => ?_)
              refine lv_iinc (v := (nI (q + 1))) (lv' := [(2, .int (nI (q + 1))), (1, .int (nI (a * k))), (4, .int (nI i)), (3, .int (nI k)), (0, .ref h0)]) hx hb dX3_fits_55 hl (k := 3) rfl (nI_1 q) (by decide) rfl (fun ls hl => ?_)
              refine lv_goto (tgt := 4) hx hb dX3_fits_58 (by decide) ?_
              exact ih_4 (q + 1) (a * k) (by omega) (by rw [h_k, show i = 4 by omega, h_a]; rfl) (by omega) ls (lv_sub hl [0, 1, 4] rfl)
            · skip
              refine lv_iload_n hx hb dX3_fits_23 rfl (lv_at hl 1 rfl) ?_
              refine lv_aload_n hx hb dX3_fits_24 rfl (lv_at hl 4 rfl) ?_
              refine lv_iload_n hx hb dX3_fits_25 rfl (lv_at hl 2 rfl) ?_
              refine va_gets hx hb hkn.2.2.2.2.1 hS hown (hw _ mw_647) (fun _ h => h) dX3_fits_26 ?_
              refine lv_iload hx hb dX3_fits_29 (lv_at hl 0 rfl) ?_
              refine va_ti (v := .int (leafc i)) hx hb hkn.2.2.2.2.2 hS (vp_in_nI (n := i) (by omega) (by decide)) (by rw [nI_clamp (by omega)]; rfl) dX3_fits_31 ?_
              refine cV_i (As := [.int (nI q), .int (leafc i)]) (rest := [.int (nI k)]) hx hb hml hown hw hkn hS hl (c_X3_isSo l g _ h0 q (leafc i) h1 h2 sn fc fz cf bz (by omega) (hcf) (hbz) (by omega) (hP.sub [0, 1, 2] rfl)) vf_X3_isSo mw_648 (va_recv hkn.1 hP (ci := 2) (q0 := 0) rfl rfl) ⟨(Nat.le_of_ble_eq_true rfl), (Nat.le_of_ble_eq_true rfl)⟩ rfl rfl rfl rfl (Nat.le_of_ble_eq_true rfl) dX3_fits_32 ⟨(Nat.le_of_ble_eq_true rfl), (Nat.le_of_ble_eq_true rfl)⟩ ?_
              have mg_43 : W p l e ({ frames := 3, cells := 0, slots := 0, locals := 64 } : Room) s m ([.ref h0] : List Value).toArray below meth c s.heap [] 0 0 (MQ below (QRi (nI (fitN cf bz sn)) s.heap) ([.ref h0] : List Value).toArray s 0 0 NoA) (F0 m 43 ls (.int (if soB cf bz sn q (leafc i) = true then 1 else 0) :: [.int (nI k)])) := by
                refine lv_eqi (show _ = (nI (if soB cf bz sn q (leafc i) = true then 1 else 0)) from ifI rfl rfl) ?_
                refine lv_iadd hx hb dX3_fits_43 ?_
                refine lv_eqi (nI_add k (if soB cf bz sn q (leafc i) = true then 1 else 0)) ?_
                refine lv_istore_n (lv' := [(3, .int (nI (k + ((if soB cf bz sn q (leafc i) = true then 1 else 0))))), (4, .int (nI i)), (2, .int (nI q)), (1, .int (nI a)), (0, .ref h0)]) hx hb dX3_fits_44 rfl hl (by decide) rfl (fun ls hl => ?_)
                refine lv_iinc (v := (nI (i + 1))) (lv' := [(4, .int (nI (i + 1))), (3, .int (nI (k + ((if soB cf bz sn q (leafc i) = true then 1 else 0))))), (2, .int (nI q)), (1, .int (nI a)), (0, .ref h0)]) hx hb dX3_fits_45 hl (k := 1) rfl (nI_1 i) (by decide) rfl (fun ls hl => ?_)
                refine lv_goto (tgt := 14) hx hb dX3_fits_48 (by decide) ?_
                exact ih_14 (i + 1) (k + ((if soB cf bz sn q (leafc i) = true then 1 else 0))) (by omega) (by rw [h_k, fb_ct_succ]) (by omega) ls (lv_sub hl [0, 1, 2, 3, 4] rfl)
              refine lv_ifeqB (b := soB cf bz sn q (leafc i)) (tgt := 42) hx hb dX3_fits_35 (by decide) (fun c_3 => ?_) (fun c_3 => ?_)
              · skip
                refine lv_iconst (v := 0) hx hb dX3_fits_42 (by decide) ?_
                exact lv_eqi (by rw [if_neg (nt_of c_3)]) mg_43
              · skip
                refine lv_iconst (v := 1) hx hb dX3_fits_38 (by decide) ?_
                refine lv_goto (tgt := 43) hx hb dX3_fits_39 (by decide) ?_
                exact lv_eqi (by rw [if_pos c_3]) mg_43
        exact lp_14 5 0 0 (by omega) (rfl) (by omega) ls (lv_sub hl [0, 1, 2, 3, 4] rfl)
  exact lp_4 5 0 1 (by omega) (rfl) (by omega) ls (lv_sub hl [0, 1, 2] rfl)
set_option maxHeartbeats 4000000 in
set_option maxRecDepth 100000 in
theorem c_X3_firstFigure (l : Launch) (g : GG) (H : Heap) (h0 : Nat) (q : Nat) (h1 : Nat) (h2 : Nat) (sn : Nat) (fc : Nat → Int32) (fz : Nat → Int32) (cf : Nat → Nat) (bz : Nat → Bool) (hsn : sn ≤ 6) (hcf : ∀ j, j < sn → fc j = nI (cf j) ∧ cf j < 64) (hbz : ∀ j, j < sn → fz j = b2i (bz j)) (hq : q < 4) (hP : va_P g.1 vwCl [(h0, .inr (2, [.ref h1, .ref h2, .int (nI sn)])), (h1, .inl (gI g, 6, .inl fc)), (h2, .inl (gZ g, 6, .inl fz))] H) : Met l yX3_firstFigure (Cond.code yX3_firstFigure cX3_firstFigure 3 (some .int) :: wsL_law) ({ frames := 3, cells := 0, slots := 0, locals := 64 }) (PR g [.ref h0, .int (nI q)] H) (QRi (fgI cf bz sn q) H) 0 0 NoA := by
  refine Met.R (by decide) (Nat.le_of_ble_eq_true rfl) rfl ?_
  intro p e s m below meth c hx hb hr hml hw hown hlocks hkn hH ls hl
  subst hH
  have hl : lv_has ls 3 [(0, .ref h0), (1, .int (nI q))] := hl
  have hS : va_S NoA s.heap s.heap [] := va_S.rf
  refine lv_iconst (v := 0) hx hb dX3_firstFigure_0 (by decide) ?_
  refine lv_istore_n (lv' := [(2, .int 0), (0, .ref h0), (1, .int (nI q))]) hx hb dX3_firstFigure_1 rfl hl (by decide) rfl (fun ls hl => ?_)
  have lp_2 : ∀ (n_2 : Nat) (i : Nat), (i ≤ 4) → (∀ j, j < i → soB cf bz sn q (leafc j) = false) → 4 < i + n_2 → ∀ (ls : Array Slot), lv_has ls 3 [(2, .int (nI i)), (0, .ref h0), (1, .int (nI q))] → W p l e ({ frames := 3, cells := 0, slots := 0, locals := 64 } : Room) s m ([.ref h0, .int (nI q)] : List Value).toArray below meth c s.heap [] 0 0 (MQ below (QRi (fgI cf bz sn q) s.heap) ([.ref h0, .int (nI q)] : List Value).toArray s 0 0 NoA) (F0 m 2 ls []) := by
    intro n_2
    induction n_2 with
    | zero => intro i h_i h_a hfu_2; exact absurd hfu_2 (by omega)
    | succ n_2 ih_2 =>
      intro i h_i h_a hfu_2 ls hl
      refine lv_iload_n hx hb dX3_firstFigure_2 rfl (lv_at hl 0 rfl) ?_
      refine va_gets hx hb hkn.2.2.2.2.1 hS hown (hw _ mw_647) (fun _ h => h) dX3_firstFigure_3 ?_
      refine va_tlen (v := 4) hx hb hkn.2.2.2.2.2 hS rfl dX3_firstFigure_6 ?_
      refine ic_ge (a := i) (d := 4) (tgt := 33) hx hb dX3_firstFigure_7 (by decide) rfl rfl (by omega) (by omega) (fun c_1 => ?_) (fun c_1 => ?_)
      · skip
        refine lv_bipush (v := (-9)) hx hb dX3_firstFigure_33 (by decide) ?_
        exact eR_i hx hb hr hlocks ((fgI_no (fun j hj => h_a j (by omega))).symm) dX3_firstFigure_35
      · skip
        refine lv_aload_n hx hb dX3_firstFigure_10 rfl (lv_at hl 1 rfl) ?_
        refine lv_iload_n hx hb dX3_firstFigure_11 rfl (lv_at hl 2 rfl) ?_
        refine va_gets hx hb hkn.2.2.2.2.1 hS hown (hw _ mw_647) (fun _ h => h) dX3_firstFigure_12 ?_
        refine lv_iload_n hx hb dX3_firstFigure_15 rfl (lv_at hl 0 rfl) ?_
        refine va_ti (v := .int (leafc i)) hx hb hkn.2.2.2.2.2 hS (vp_in_nI (n := i) (by omega) (by decide)) (by rw [nI_clamp (by omega)]; rfl) dX3_firstFigure_16 ?_
        refine cV_i (As := [.int (nI q), .int (leafc i)]) (rest := []) hx hb hml hown hw hkn hS hl (c_X3_isSo l g _ h0 q (leafc i) h1 h2 sn fc fz cf bz (by omega) (hcf) (hbz) (by omega) (hP.sub [0, 1, 2] rfl)) vf_X3_isSo mw_648 (va_recv hkn.1 hP (ci := 2) (q0 := 0) rfl rfl) ⟨(Nat.le_of_ble_eq_true rfl), (Nat.le_of_ble_eq_true rfl)⟩ rfl rfl rfl rfl (Nat.le_of_ble_eq_true rfl) dX3_firstFigure_17 ⟨(Nat.le_of_ble_eq_true rfl), (Nat.le_of_ble_eq_true rfl)⟩ ?_
        refine lv_ifeqB (b := soB cf bz sn q (leafc i)) (tgt := 27) hx hb dX3_firstFigure_20 (by decide) (fun c_2 => ?_) (fun c_2 => ?_)
        · skip
          refine lv_iinc (v := (nI (i + 1))) (lv' := [(2, .int (nI (i + 1))), (0, .ref h0), (1, .int (nI q))]) hx hb dX3_firstFigure_27 hl (k := 0) rfl (nI_1 i) (by decide) rfl (fun ls hl => ?_)
          refine lv_goto (tgt := 2) hx hb dX3_firstFigure_30 (by decide) ?_
          exact ih_2 (i + 1) (by omega) (lt_s h_a c_2) (by omega) ls (lv_sub hl [0, 1, 2] rfl)
        · skip
          refine lv_iload_n hx hb dX3_firstFigure_23 rfl (lv_at hl 0 rfl) ?_
          refine lv_iconst (v := 1) hx hb dX3_firstFigure_24 (by decide) ?_
          refine lv_iadd hx hb dX3_firstFigure_25 ?_
          refine lv_eqi (nI_add i 1) ?_
          exact eR_i hx hb hr hlocks ((fgI_of (by omega) h_a c_2).symm) dX3_firstFigure_26
  exact lp_2 5 0 (by omega) (lt_0) (by omega) ls (lv_sub hl [0, 1, 2] rfl)
set_option maxHeartbeats 4000000 in
set_option maxRecDepth 100000 in
theorem c_X3_firstFit (l : Launch) (g : GG) (H : Heap) (h0 : Nat) (h1 : Nat) (h2 : Nat) (sn : Nat) (fc : Nat → Int32) (fz : Nat → Int32) (cf : Nat → Nat) (bz : Nat → Bool) (hsn : sn ≤ 6) (hcf : ∀ j, j < sn → fc j = nI (cf j) ∧ cf j < 64) (hbz : ∀ j, j < sn → fz j = b2i (bz j)) (hP : va_P g.1 vwCl [(h0, .inr (2, [.ref h1, .ref h2, .int (nI sn)])), (h1, .inl (gI g, 6, .inl fc)), (h2, .inl (gZ g, 6, .inl fz))] H) : Met l yX3_firstFit (Cond.code yX3_firstFit cX3_firstFit 4 (some .int) :: wsL_law) ({ frames := 4, cells := 0, slots := 0, locals := 86 }) (PR g [.ref h0] H) (QRi (ftS cf bz sn) H) 0 0 NoA := by
  refine Met.R (by decide) (Nat.le_of_ble_eq_true rfl) rfl ?_
  intro p e s m below meth c hx hb hr hml hw hown hlocks hkn hH ls hl
  subst hH
  have hl : lv_has ls 4 [(0, .ref h0)] := hl
  have hS : va_S NoA s.heap s.heap [] := va_S.rf
  refine lv_iconst (v := 0) hx hb dX3_firstFit_0 (by decide) ?_
  refine lv_istore_n (lv' := [(1, .int 0), (0, .ref h0)]) hx hb dX3_firstFit_1 rfl hl (by decide) rfl (fun ls hl => ?_)
  refine lv_iconst (v := 0) hx hb dX3_firstFit_2 (by decide) ?_
  refine lv_istore_n (lv' := [(2, .int 0), (1, .int 0), (0, .ref h0)]) hx hb dX3_firstFit_3 rfl hl (by decide) rfl (fun ls hl => ?_)
  have lp_4 : ∀ (n_4 : Nat) (q : Nat) (a : Int32), (q ≤ 4) → (ftG cf bz sn (4 - q) q a = ftG cf bz sn 4 0 0) → 4 < q + n_4 → ∀ (ls : Array Slot), lv_has ls 4 [(2, .int (nI q)), (1, .int a), (0, .ref h0)] → W p l e ({ frames := 4, cells := 0, slots := 0, locals := 86 } : Room) s m ([.ref h0] : List Value).toArray below meth c s.heap [] 0 0 (MQ below (QRi (ftS cf bz sn) s.heap) ([.ref h0] : List Value).toArray s 0 0 NoA) (F0 m 4 ls []) := by
    intro n_4
    induction n_4 with
    | zero => intro q a h_q h_a hfu_4; exact absurd hfu_4 (by omega)
    | succ n_4 ih_4 =>
      intro q a h_q h_a hfu_4 ls hl
      have h_s : ∀ k, 4 - q = k + 1 → ftG cf bz sn 4 0 0 = if fgI cf bz sn q = -9 then -9 else ftG cf bz sn k (q + 1) (10 * a + fgI cf bz sn q) := fun k hk => by rw [← h_a, hk]; rfl
      refine lv_iload_n hx hb dX3_firstFit_4 rfl (lv_at hl 0 rfl) ?_
      refine lv_iconst (v := 4) hx hb dX3_firstFit_5 (by decide) ?_
      refine ic_ge (a := q) (d := 4) (tgt := 37) hx hb dX3_firstFit_6 (by decide) rfl rfl (by omega) (by omega) (fun c_1 => ?_) (fun c_1 => ?_)
      · skip
        refine lv_iload_n hx hb dX3_firstFit_37 rfl (lv_at hl 1 rfl) ?_
        exact eR_i hx hb hr hlocks (by rw [show 4 - q = 0 by omega] at h_a; exact h_a) dX3_firstFit_38
      · skip
        refine lv_aload_n hx hb dX3_firstFit_9 rfl (lv_at hl 2 rfl) ?_
        refine lv_iload_n hx hb dX3_firstFit_10 rfl (lv_at hl 0 rfl) ?_
        refine cV_i (As := [.int (nI q)]) (rest := []) hx hb hml hown hw hkn hS hl (c_X3_firstFigure l g _ h0 q h1 h2 sn fc fz cf bz (by omega) (hcf) (hbz) (by omega) (hP.sub [0, 1, 2] rfl)) vf_X3_firstFigure mw_661 (va_recv hkn.1 hP (ci := 2) (q0 := 0) rfl rfl) ⟨(Nat.le_of_ble_eq_true rfl), (Nat.le_of_ble_eq_true rfl)⟩ rfl rfl rfl rfl (Nat.le_of_ble_eq_true rfl) dX3_firstFit_11 ⟨(Nat.le_of_ble_eq_true rfl), (Nat.le_of_ble_eq_true rfl)⟩ ?_
        refine lv_istore_n (lv' := [(3, .int (fgI cf bz sn q)), (2, .int (nI q)), (1, .int a), (0, .ref h0)]) hx hb dX3_firstFit_14 rfl hl (by decide) rfl (fun ls hl => ?_)
        refine lv_iload_n hx hb dX3_firstFit_15 rfl (lv_at hl 0 rfl) ?_
        refine lv_bipush (v := (-9)) hx hb dX3_firstFit_16 (by decide) ?_
        refine lv_icmp_ne (tgt := 24) hx hb dX3_firstFit_18 (by decide) (fun c_2 => ?_) (fun c_2 => ?_)
        · skip
          refine lv_bipush (v := 10) hx hb dX3_firstFit_24 (by decide) ?_
          refine lv_iload_n hx hb dX3_firstFit_26 rfl (lv_at hl 2 rfl) ?_
          refine lv_imul hx hb dX3_firstFit_27 ?_
          refine lv_iload_n hx hb dX3_firstFit_28 rfl (lv_at hl 0 rfl) ?_
          refine lv_iadd hx hb dX3_firstFit_29 ?_
          refine lv_istore_n (lv' := [(1, .int ((10 * a) + (fgI cf bz sn q))), (3, .int (fgI cf bz sn q)), (2, .int (nI q)), (0, .ref h0)]) hx hb dX3_firstFit_30 rfl hl (by decide) rfl (fun ls hl => ?_)
          refine lv_iinc (v := (nI (q + 1))) (lv' := [(2, .int (nI (q + 1))), (1, .int ((10 * a) + (fgI cf bz sn q))), (3, .int (fgI cf bz sn q)), (0, .ref h0)]) hx hb dX3_firstFit_31 hl (k := 2) rfl (nI_1 q) (by decide) rfl (fun ls hl => ?_)
          refine lv_goto (tgt := 4) hx hb dX3_firstFit_34 (by decide) ?_
          exact ih_4 (q + 1) ((10 * a) + (fgI cf bz sn q)) (by omega) (by rw [h_s (4 - (q + 1)) (by omega)]; exact (if_neg c_2).symm) (by omega) ls (lv_sub hl [0, 1, 3] rfl)
        · skip
          refine lv_bipush (v := (-9)) hx hb dX3_firstFit_21 (by decide) ?_
          exact eR_i hx hb hr hlocks (by have h9 := h_s (4 - (q + 1)) (by omega); rw [if_pos c_2] at h9; exact h9.symm) dX3_firstFit_23
  exact lp_4 5 0 0 (by omega) (rfl) (by omega) ls (lv_sub hl [0, 1, 2] rfl)
