/-! The law's state: the class's world and the reference's, and what holds of both between two answers. -/
abbrev LST : Type := (Nat × Nat × Nat × Nat × Nat × Nat × Nat × Nat × Nat × Nat × Nat × Nat × Nat × Nat × Nat × Nat × Nat) × (Int64 × (Nat → Int64) × (Nat → Int64) × (Nat → Option Nat) × Nat × Int64 × (Nat → Int32) × Int32 × Int32 × Nat × (Nat → Int32) × (Nat → Int64) × Nat × (Nat → Int32) × (Nat → Int32) × Int32 × Int32 × (Nat → Int32)) × (Nat × Nat × Nat × Nat × Nat × Nat × Nat × Nat × Nat × Nat × Nat) × (Nat × Int64 × Int32 × Int32 × Nat × Nat × Int32 × Nat × Int64 × (Nat → Int32) × (Nat → Int64) × (Nat → Int64) × (Nat → Int32) × (Nat → Int32) × (Nat → Int32) × (Nat → Int32) × (Nat → Int32) × (Nat → Int32) × (Nat → Int64)) × (Nat → Option (Nat × Nat × (Nat → Int64)))
abbrev LST.h0 (S : LST) : Nat := S.1.1
abbrev LST.a1 (S : LST) : Nat := S.1.2.1
abbrev LST.a2 (S : LST) : Nat := S.1.2.2.1
abbrev LST.a3 (S : LST) : Nat := S.1.2.2.2.1
abbrev LST.a4 (S : LST) : Nat := S.1.2.2.2.2.1
abbrev LST.a5 (S : LST) : Nat := S.1.2.2.2.2.2.1
abbrev LST.a6 (S : LST) : Nat := S.1.2.2.2.2.2.2.1
abbrev LST.a7 (S : LST) : Nat := S.1.2.2.2.2.2.2.2.1
abbrev LST.a8 (S : LST) : Nat := S.1.2.2.2.2.2.2.2.2.1
abbrev LST.b1 (S : LST) : Nat := S.1.2.2.2.2.2.2.2.2.2.1
abbrev LST.b2 (S : LST) : Nat := S.1.2.2.2.2.2.2.2.2.2.2.1
abbrev LST.t1 (S : LST) : Nat := S.1.2.2.2.2.2.2.2.2.2.2.2.1
abbrev LST.t2 (S : LST) : Nat := S.1.2.2.2.2.2.2.2.2.2.2.2.2.1
abbrev LST.c1 (S : LST) : Nat := S.1.2.2.2.2.2.2.2.2.2.2.2.2.2.1
abbrev LST.c2 (S : LST) : Nat := S.1.2.2.2.2.2.2.2.2.2.2.2.2.2.2.1
abbrev LST.s1 (S : LST) : Nat := S.1.2.2.2.2.2.2.2.2.2.2.2.2.2.2.2.1
abbrev LST.s2 (S : LST) : Nat := S.1.2.2.2.2.2.2.2.2.2.2.2.2.2.2.2.2
abbrev LST.sd (S : LST) : Int64 := S.2.1.1
abbrev LST.f (S : LST) : Nat → Int64 := S.2.1.2.1
abbrev LST.ft (S : LST) : Nat → Int64 := S.2.1.2.2.1
abbrev LST.sl (S : LST) : Nat → Option Nat := S.2.1.2.2.2.1
abbrev LST.sn (S : LST) : Nat := S.2.1.2.2.2.2.1
abbrev LST.dr (S : LST) : Int64 := S.2.1.2.2.2.2.2.1
abbrev LST.fl (S : LST) : Nat → Int32 := S.2.1.2.2.2.2.2.2.1
abbrev LST.x1 (S : LST) : Int32 := S.2.1.2.2.2.2.2.2.2.1
abbrev LST.x2 (S : LST) : Int32 := S.2.1.2.2.2.2.2.2.2.2.1
abbrev LST.an (S : LST) : Nat := S.2.1.2.2.2.2.2.2.2.2.2.1
abbrev LST.fc (S : LST) : Nat → Int32 := S.2.1.2.2.2.2.2.2.2.2.2.2.1
abbrev LST.fb (S : LST) : Nat → Int64 := S.2.1.2.2.2.2.2.2.2.2.2.2.2.1
abbrev LST.zn (S : LST) : Nat := S.2.1.2.2.2.2.2.2.2.2.2.2.2.2.1
abbrev LST.zc (S : LST) : Nat → Int32 := S.2.1.2.2.2.2.2.2.2.2.2.2.2.2.2.1
abbrev LST.zz (S : LST) : Nat → Int32 := S.2.1.2.2.2.2.2.2.2.2.2.2.2.2.2.2.1
abbrev LST.w1 (S : LST) : Int32 := S.2.1.2.2.2.2.2.2.2.2.2.2.2.2.2.2.2.1
abbrev LST.w2 (S : LST) : Int32 := S.2.1.2.2.2.2.2.2.2.2.2.2.2.2.2.2.2.2.1
abbrev LST.dg (S : LST) : Nat → Int32 := S.2.1.2.2.2.2.2.2.2.2.2.2.2.2.2.2.2.2.2
abbrev LST.m0 (S : LST) : Nat := S.2.2.1.1
abbrev LST.d1 (S : LST) : Nat := S.2.2.1.2.1
abbrev LST.d2 (S : LST) : Nat := S.2.2.1.2.2.1
abbrev LST.d3 (S : LST) : Nat := S.2.2.1.2.2.2.1
abbrev LST.d4 (S : LST) : Nat := S.2.2.1.2.2.2.2.1
abbrev LST.d5 (S : LST) : Nat := S.2.2.1.2.2.2.2.2.1
abbrev LST.d6 (S : LST) : Nat := S.2.2.1.2.2.2.2.2.2.1
abbrev LST.d7 (S : LST) : Nat := S.2.2.1.2.2.2.2.2.2.2.1
abbrev LST.d8 (S : LST) : Nat := S.2.2.1.2.2.2.2.2.2.2.2.1
abbrev LST.d9 (S : LST) : Nat := S.2.2.1.2.2.2.2.2.2.2.2.2.1
abbrev LST.d0 (S : LST) : Nat := S.2.2.1.2.2.2.2.2.2.2.2.2.2
abbrev LST.ln (S : LST) : Nat := S.2.2.2.1.1
abbrev LST.rd (S : LST) : Int64 := S.2.2.2.1.2.1
abbrev LST.xd (S : LST) : Int32 := S.2.2.2.1.2.2.1
abbrev LST.xq (S : LST) : Int32 := S.2.2.2.1.2.2.2.1
abbrev LST.man (S : LST) : Nat := S.2.2.2.1.2.2.2.2.1
abbrev LST.nx (S : LST) : Nat := S.2.2.2.1.2.2.2.2.2.1
abbrev LST.xm (S : LST) : Int32 := S.2.2.2.1.2.2.2.2.2.2.1
abbrev LST.mzn (S : LST) : Nat := S.2.2.2.1.2.2.2.2.2.2.2.1
abbrev LST.msd (S : LST) : Int64 := S.2.2.2.1.2.2.2.2.2.2.2.2.1
abbrev LST.tl (S : LST) : Nat → Int32 := S.2.2.2.1.2.2.2.2.2.2.2.2.2.1
abbrev LST.nw (S : LST) : Nat → Int64 := S.2.2.2.1.2.2.2.2.2.2.2.2.2.2.1
abbrev LST.rw (S : LST) : Nat → Int64 := S.2.2.2.1.2.2.2.2.2.2.2.2.2.2.2.1
abbrev LST.le (S : LST) : Nat → Int32 := S.2.2.2.1.2.2.2.2.2.2.2.2.2.2.2.2.1
abbrev LST.da (S : LST) : Nat → Int32 := S.2.2.2.1.2.2.2.2.2.2.2.2.2.2.2.2.2.1
abbrev LST.la (S : LST) : Nat → Int32 := S.2.2.2.1.2.2.2.2.2.2.2.2.2.2.2.2.2.2.1
abbrev LST.mzc (S : LST) : Nat → Int32 := S.2.2.2.1.2.2.2.2.2.2.2.2.2.2.2.2.2.2.2.1
abbrev LST.mzb (S : LST) : Nat → Int32 := S.2.2.2.1.2.2.2.2.2.2.2.2.2.2.2.2.2.2.2.2.1
abbrev LST.ik (S : LST) : Nat → Int32 := S.2.2.2.1.2.2.2.2.2.2.2.2.2.2.2.2.2.2.2.2.2.1
abbrev LST.kp (S : LST) : Nat → Int64 := S.2.2.2.1.2.2.2.2.2.2.2.2.2.2.2.2.2.2.2.2.2.2
abbrev LST.kk (S : LST) : Nat → Option (Nat × Nat × (Nat → Int64)) := S.2.2.2.2
def wld (g : GG) (S : LST) : va_W := [(S.h0, .inr (5, [.ref S.a1, .ref S.a2, .ref S.a3, .ref S.a4, .ref S.a5, .ref S.a6, .ref S.a7, .ref S.a8, .long S.sd])), (S.a1, .inr (1, [.ref S.b1])), (S.b1, .inl (gJ g, 3, .inr (.inl S.f))), (S.a2, .inr (1, [.ref S.b2])), (S.b2, .inl (gJ g, 3, .inr (.inl S.ft))), (S.a3, .inl (gO g, 2, .inr (.inr (.inr (.inr S.sl))))), (S.a4, .inr (3, [.ref S.t1, .ref S.t2, .int (nI S.sn), .long S.dr])), (S.t1, .inl (gI g, 64, .inl S.fl)), (S.t2, .inr (4, [.int S.x1, .int S.x2])), (S.a5, .inr (0, [.ref S.c1, .ref S.c2, .int (nI S.an)])), (S.c1, .inl (gI g, 14, .inl S.fc)), (S.c2, .inl (gJ g, 14, .inr (.inl S.fb))), (S.a6, .inr (2, [.ref S.s1, .ref S.s2, .int (nI S.zn)])), (S.s1, .inl (gI g, 6, .inl S.zc)), (S.s2, .inl (gZ g, 6, .inl S.zz)), (S.a7, .inr (4, [.int S.w1, .int S.w2])), (S.a8, .inl (gI g, 4, .inl S.dg)), (S.m0, .inr (6, [.ref S.d1, .int (nI S.ln), .long S.rd, .int S.xd, .int S.xq, .ref S.d2, .int (nI S.man), .int (nI S.nx), .ref S.d3, .ref S.d4, .ref S.d5, .ref S.d6, .int S.xm, .int (nI S.mzn), .ref S.d7, .ref S.d8, .long S.msd, .ref S.d9, .ref S.d0])), (S.d1, .inl (gI g, 64, .inl S.tl)), (S.d2, .inl (gJ g, 6, .inr (.inl S.nw))), (S.d3, .inl (gJ g, 42, .inr (.inl S.rw))), (S.d4, .inl (gI g, 85, .inl S.le)), (S.d5, .inl (gI g, 64, .inl S.da)), (S.d6, .inl (gI g, 64, .inl S.la)), (S.d7, .inl (gI g, 6, .inl S.mzc)), (S.d8, .inl (gI g, 6, .inl S.mzb)), (S.d9, .inl (gZ g, 2, .inl S.ik)), (S.d0, .inl (gJ g, 6, .inr (.inl S.kp)))]
def Kc (g : GG) : Option (Nat × Nat × (Nat → Int64)) → va_W
  | none => []
  | some (ka, kb, kf) => [(ka, .inr (1, [.ref kb])), (kb, .inl (gJ g, 3, .inr (.inl kf)))]
def tlK (g : GG) (S : LST) : va_W := Kc g (S.kk 0) ++ Kc g (S.kk 1)
abbrev LST.Inv (S : LST) : Prop := (ag3 S.f S.nw) ∧ (S.sn ≤ 64) ∧ (S.ln = S.sn) ∧ (S.tl = S.fl) ∧ (S.an ≤ 14) ∧ (S.man = S.an) ∧ (S.nx < 14) ∧ (undR S.f S.fc S.fb S.an S.nx S.rw) ∧ (S.zn ≤ 6) ∧ (S.mzn = S.zn) ∧ (S.mzc = S.zc) ∧ (S.mzb = S.zz) ∧ (∀ j, j < S.zn → (∃ c, c < 64 ∧ S.zc j = nI c) ∧ (∃ b : Bool, S.zz j = b2i b)) ∧ (S.msd = S.sd) ∧ (∀ k, k < 2 → (S.kk k = none ∧ S.sl k = none ∧ S.ik k = 0) ∨ (∃ ka kb kf, S.kk k = some (ka, kb, kf) ∧ S.sl k = some ka ∧ S.ik k = 1 ∧ ag3 kf (fun j => S.kp (3 * k + j))))
theorem LST.Inv.ag {S : LST} (h : S.Inv) : ag3 S.f S.nw := h.1
theorem LST.Inv.sn64 {S : LST} (h : S.Inv) : S.sn ≤ 64 := h.2.1
theorem LST.Inv.ln {S : LST} (h : S.Inv) : S.ln = S.sn := h.2.2.1
theorem LST.Inv.tl {S : LST} (h : S.Inv) : S.tl = S.fl := h.2.2.2.1
theorem LST.Inv.an14 {S : LST} (h : S.Inv) : S.an ≤ 14 := h.2.2.2.2.1
theorem LST.Inv.man {S : LST} (h : S.Inv) : S.man = S.an := h.2.2.2.2.2.1
theorem LST.Inv.nx14 {S : LST} (h : S.Inv) : S.nx < 14 := h.2.2.2.2.2.2.1
theorem LST.Inv.und {S : LST} (h : S.Inv) : undR S.f S.fc S.fb S.an S.nx S.rw := h.2.2.2.2.2.2.2.1
theorem LST.Inv.zn6 {S : LST} (h : S.Inv) : S.zn ≤ 6 := h.2.2.2.2.2.2.2.2.1
theorem LST.Inv.mzn {S : LST} (h : S.Inv) : S.mzn = S.zn := h.2.2.2.2.2.2.2.2.2.1
theorem LST.Inv.mzc {S : LST} (h : S.Inv) : S.mzc = S.zc := h.2.2.2.2.2.2.2.2.2.2.1
theorem LST.Inv.mzb {S : LST} (h : S.Inv) : S.mzb = S.zz := h.2.2.2.2.2.2.2.2.2.2.2.1
theorem LST.Inv.sees {S : LST} (h : S.Inv) : ∀ j, j < S.zn → (∃ c, c < 64 ∧ S.zc j = nI c) ∧ (∃ b : Bool, S.zz j = b2i b) := h.2.2.2.2.2.2.2.2.2.2.2.2.1
theorem LST.Inv.msd {S : LST} (h : S.Inv) : S.msd = S.sd := h.2.2.2.2.2.2.2.2.2.2.2.2.2.1
theorem LST.Inv.kept {S : LST} (h : S.Inv) : ∀ k, k < 2 → (S.kk k = none ∧ S.sl k = none ∧ S.ik k = 0) ∨ (∃ ka kb kf, S.kk k = some (ka, kb, kf) ∧ S.sl k = some ka ∧ S.ik k = 1 ∧ ag3 kf (fun j => S.kp (3 * k + j))) := h.2.2.2.2.2.2.2.2.2.2.2.2.2.2
theorem ac_le {n : Nat} (h : n ≤ 14) : acN n ≤ 14 := by unfold acN; split <;> omega
theorem inv_change {S : LST} (hI : S.Inv) (G G2 : Bool) (hGG : G2 = G) (x : Int32) (v w : Int64) (hG : G = true → isPic x = true) (hvw : w = v) : LST.Inv ((S.1, (S.sd, cond G (setS S.f x v) S.f, S.ft, S.sl, S.sn, S.dr, S.fl, S.x1, S.x2, cond G (acN S.an) S.an, cond G (acF S.an S.fc x) S.fc, cond G (acL S.an S.fb (picS S.f x)) S.fb, S.zn, S.zc, S.zz, S.w1, S.w2, S.dg), S.2.2.1, (S.ln, S.rd, S.xd, S.xq, cond G2 (acN S.man) S.man, cond G2 ((S.nx + 1) % 14) S.nx, S.xm, S.mzn, S.msd, S.tl, cond G2 (setS S.nw x w) S.nw, cond G2 (rkF S.nx S.nw S.rw) S.rw, S.le, S.da, S.la, S.mzc, S.mzb, S.ik, S.kp), S.kk) : LST) := by
  subst hGG
  subst hvw
  cases G2 with
  | false => exact ⟨hI.ag, hI.sn64, hI.ln, hI.tl, hI.an14, hI.man, hI.nx14, hI.und, hI.zn6, hI.mzn, hI.mzc, hI.mzb, hI.sees, hI.msd, hI.kept⟩
  | true => exact ⟨set_ag hI.ag x w, hI.sn64, hI.ln, hI.tl, ac_le hI.an14, congrArg acN hI.man, Nat.mod_lt _ (by decide), und_push hI.an14 hI.nx14 hI.ag (hG rfl) hI.und, hI.zn6, hI.mzn, hI.mzc, hI.mzb, hI.sees, hI.msd, hI.kept⟩
theorem cb_pic {a b : Int32} (h : cbB a b = true) : isPic a = true := by unfold cbB at h; simp only [Bool.and_eq_true] at h; exact h.1.1
theorem sc_pic {a b : Int32} (h : scB a b = true) : isPic a = true := by unfold scB at h; simp only [Bool.and_eq_true] at h; exact h.1
theorem pu_pic {f : Nat → Int32} {n : Nat} {x : Int32} (h : qPuB f n x = true) : isPic x = true := by unfold qPuB at h; simp only [Bool.and_eq_true] at h; exact h.1
theorem ta_le {n : Nat} (h : n ≤ 64) : taN n ≤ 64 := by unfold taN; split <;> omega
theorem see_01 {x y : Int32} (h : qSeB x y = true) : b2i (decide (y = 1)) = y := by
  unfold qSeB at h
  simp only [Bool.and_eq_true, Bool.or_eq_true, decide_eq_true_eq] at h
  rcases h.2 with rfl | rfl <;> rfl
theorem sa_get {n j : Nat} (hn : n ≤ 6) (f : Nat → Int32) (x : Int32) {P : Int32 → Prop} (hP : ∀ j, j < n → P (f j)) (hx : P x) (hj : j < saN n) : P (saF n f x j) := by
  unfold saN at hj
  unfold saF
  by_cases q : n < 6
  · rw [if_pos q] at hj ⊢
    unfold upd
    by_cases r : j = n
    · rw [if_pos r]; exact hx
    · rw [if_neg r]; exact hP j (by omega)
  · rw [if_neg q] at hj ⊢; exact hP j hj
theorem sa_le {n : Nat} (h : n ≤ 6) : saN n ≤ 6 := by unfold saN; split <;> omega
def cfS (zc : Nat → Int32) (j : Nat) : Nat := (zc j).toNatClampNeg
def bzS (zz : Nat → Int32) (j : Nat) : Bool := decide (zz j = 1)
theorem cf_S {S : LST} (hI : S.Inv) : ∀ j, j < S.zn → S.zc j = nI (cfS S.zc j) ∧ cfS S.zc j < 64 := fun j hj => by
  obtain ⟨⟨q, hq, e⟩, -⟩ := hI.sees j hj
  unfold cfS
  rw [e, nI_clamp (by omega)]; exact ⟨rfl, hq⟩
theorem bz_S {S : LST} (hI : S.Inv) : ∀ j, j < S.zn → S.zz j = b2i (bzS S.zz j) := fun j hj => by
  obtain ⟨-, q, e⟩ := hI.sees j hj
  unfold bzS
  rw [e]; cases q <;> rfl
def mkL (x y : Int32) : Int64 := (x.toInt64 <<< ((32 : Int32).toInt64 &&& 63)) ||| (y.toInt64 &&& 4294967295)
section LawBits
variable {p : Program} {l : Launch} {e : Env} {R : Room} {s : State} {m : MethodId} {args : Array Value} {below : List Frame} {meth : Method} {c : Code} {H : Heap} {locs : List Loc} {cells slots : Nat} {Q : State → Prop} {A : Nat → Prop} {cc : ByteArray} {pc : Nat} {ls : Array Slot} {rest : List Value}
theorem tern_b {x : Int32} (hx : p.tables.exec = Jvm.exec) (hb : c.code = cc) (d0 : decode cc pc = .ok (.ifCond .eq 7, 3)) (d1 : decode cc (pc + 3) = .ok (.iconst 1, 1)) (d2 : decode cc (pc + 4) = .ok (.goto 4, 3)) (d3 : decode cc (pc + 7) = .ok (.iconst 0, 1)) (kk : W p l e R s m args below meth c H locs cells slots Q (F0 m (pc + 8) ls (.int (b2i (!decide (x = 0))) :: rest))) : W p l e R s m args below meth c H locs cells slots Q (F0 m pc ls (.int x :: rest)) := by
  refine lv_if_eq (tgt := pc + 7) hx hb d0 (by omega) (fun h => ?_) (fun h => ?_)
  · refine lv_iconst (v := 0) hx hb d3 (by decide) ?_
    rw [decide_eq_true h] at kk; exact kk
  · refine lv_iconst (v := 1) hx hb d1 (by decide) ?_
    refine lv_goto (tgt := pc + 8) hx hb d2 (by omega) ?_
    rw [decide_eq_false h] at kk; exact kk
theorem shl_b {x : Int32} (hx : p.tables.exec = Jvm.exec) (hb : c.code = cc) (d0 : decode cc pc = .ok (.i2l, 1)) (d1 : decode cc (pc + 1) = .ok (.bipush 32, 2)) (d2 : decode cc (pc + 3) = .ok (.lshl, 1)) (kk : W p l e R s m args below meth c H locs cells slots Q (F0 m (pc + 4) ls (.long (x.toInt64 <<< ((32 : Int32).toInt64 &&& 63)) :: rest))) : W p l e R s m args below meth c H locs cells slots Q (F0 m pc ls (.int x :: rest)) := by
  refine lv_i2l hx hb d0 rfl ?_
  refine lv_bipush (v := 32) hx hb d1 (by decide) ?_
  exact lv_lshl hx hb d2 rfl kk
theorem low_b {x y : Int32} (hx : p.tables.exec = Jvm.exec) (hb : c.code = cc) (hown : s.vm.findClass RL = some m.cls) (hw : ∀ w ∈ wsL_law, w.before args s = true) (d0 : decode cc pc = .ok (.i2l, 1)) (d1 : decode cc (pc + 1) = .ok (.ldc2_w 90, 3)) (d2 : decode cc (pc + 4) = .ok (.land, 1)) (d3 : decode cc (pc + 5) = .ok (.lor, 1)) (kk : W p l e R s m args below meth c H locs cells slots Q (F0 m (pc + 6) ls (.long (mkL x y) :: rest))) : W p l e R s m args below meth c H locs cells slots Q (F0 m pc ls (.int y :: .long (x.toInt64 <<< ((32 : Int32).toInt64 &&& 63)) :: rest)) := by
  refine lv_i2l hx hb d0 rfl ?_
  refine lv_ldc2 hx hb hown (hw _ mw_6) d1 ?_
  refine lv_land hx hb d2 ?_
  exact lv_lor hx hb d3 kk
end LawBits
theorem inv_undo {S : LST} (hI : S.Inv) : LST.Inv ((S.1, (S.sd, cond (decide (0 < S.an)) (setS S.f (S.fc (S.an - 1)) (S.fb (S.an - 1))) S.f, S.ft, S.sl, S.sn, S.dr, S.fl, S.x1, S.x2, S.an - 1, S.fc, S.fb, S.zn, S.zc, S.zz, S.w1, S.w2, S.dg), S.2.2.1, (S.ln, S.rd, S.xd, S.xq, S.man - 1, cond (decide (0 < S.man)) ((S.nx + 13) % 14) S.nx, S.xm, S.mzn, S.msd, S.tl, cond (decide (0 < S.man)) (unF S.nx S.nw S.rw) S.nw, S.rw, S.le, S.da, S.la, S.mzc, S.mzb, S.ik, S.kp), S.kk) : LST) := by
  by_cases h : 0 < S.an
  · have h2 : 0 < S.man := by rw [hI.man]; exact h
    obtain ⟨u1, u2⟩ := und_pop (nw := S.nw) hI.an14 h hI.nx14 hI.und
    rw [decide_eq_true h, decide_eq_true h2]
    exact ⟨u1, hI.sn64, hI.ln, hI.tl, Nat.le_trans (Nat.sub_le _ _) hI.an14, congrArg (· - 1) hI.man, Nat.mod_lt _ (by decide), u2, hI.zn6, hI.mzn, hI.mzc, hI.mzb, hI.sees, hI.msd, hI.kept⟩
  · have h2 : ¬ 0 < S.man := by rw [hI.man]; exact h
    rw [decide_eq_false h, decide_eq_false h2]
    exact ⟨hI.ag, hI.sn64, hI.ln, hI.tl, Nat.le_trans (Nat.sub_le _ _) hI.an14, congrArg (· - 1) hI.man, hI.nx14, fun d hd => absurd (show d < S.an - 1 from hd) (by omega), hI.zn6, hI.mzn, hI.mzc, hI.mzb, hI.sees, hI.msd, hI.kept⟩
theorem inv_see {S : LST} (hI : S.Inv) {x y : Int32} : LST.Inv ((S.1, (S.sd, S.f, S.ft, S.sl, S.sn, S.dr, S.fl, S.x1, S.x2, S.an, S.fc, S.fb, cond (qSeB x y) (saN S.zn) S.zn, cond (qSeB x y) (saF S.zn S.zc x) S.zc, cond (qSeB x y) (saF S.zn S.zz (b2i (decide (y = 1)))) S.zz, S.w1, S.w2, S.dg), S.2.2.1, (S.ln, S.rd, S.xd, S.xq, S.man, S.nx, S.xm, cond (qSeB x y) (saN S.mzn) S.mzn, S.msd, S.tl, S.nw, S.rw, S.le, S.da, S.la, cond (qSeB x y) (saF S.mzn S.mzc x) S.mzc, cond (qSeB x y) (saF S.mzn S.mzb y) S.mzb, S.ik, S.kp), S.kk) : LST) := by
  cases h : qSeB x y with
  | false => exact ⟨hI.ag, hI.sn64, hI.ln, hI.tl, hI.an14, hI.man, hI.nx14, hI.und, hI.zn6, hI.mzn, hI.mzc, hI.mzb, hI.sees, hI.msd, hI.kept⟩
  | true =>
    have hy := see_01 h
    have hc : isCel x = true := by unfold qSeB at h; simp only [Bool.and_eq_true] at h; exact h.1
    obtain ⟨q, hq, e⟩ := isCel_of hc
    exact ⟨hI.ag, hI.sn64, hI.ln, hI.tl, hI.an14, hI.man, hI.nx14, hI.und, sa_le hI.zn6, congrArg saN hI.mzn, by show saF S.mzn S.mzc x = saF S.zn S.zc x; rw [hI.mzn, hI.mzc], by show saF S.mzn S.mzb y = saF S.zn S.zz (b2i (decide (y = 1))); rw [hI.mzn, hI.mzb, hy], fun j hj => ⟨sa_get (P := fun z => ∃ c, c < 64 ∧ z = nI c) hI.zn6 S.zc x (fun j hj => (hI.sees j hj).1) ⟨q, hq, e⟩ hj, sa_get (P := fun z => ∃ b : Bool, z = b2i b) hI.zn6 S.zz _ (fun j hj => (hI.sees j hj).2) ⟨_, rfl⟩ hj⟩, hI.msd, hI.kept⟩
