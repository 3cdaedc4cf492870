/-! What ties the reference's squares to the class's. -/
def relW (dd qq : Int32) (p d : Nat) : Prop := okW p d ∧ ((p = 64 ∧ dd = -9) ∨ (p < 64 ∧ dd = nI d ∧ qq = nI (p / szN d)))
theorem relW_0 : relW 0 0 0 0 := ⟨okW_0, Or.inr ⟨by decide, rfl, rfl⟩⟩
theorem pq_lt {p d : Nat} (hd : d ≤ 3) (hp : p < 64) : p / szN d < 64 := Nat.lt_of_le_of_lt (Nat.div_le_self _ _) hp
theorem ok_fin {P : Nat → Nat → Prop} [∀ p d, Decidable (P p d)] (h : ∀ (d : Fin 4) (p : Fin 64), p.val % szN d.val = 0 → P p.val d.val) {p d : Nat} (ho : okW p d) (hp : p < 64) : P p d := h ⟨d, by have := ho.1; omega⟩ ⟨p, hp⟩ ho.2.2
theorem pt_eq {p d : Nat} {c : Int32} (ho : okW p d) (hp : p < 64) (hc : isLeafB c = true) : ptM d (p / szN d) c = sqS (dmN p) d &&& patS c := by
  have h : ∀ c : Int32, c = 98 ∨ c = 119 ∨ c = 103 ∨ c = 115 → ptM d (p / szN d) c = sqS (dmN p) d &&& patS c := by
    intro c hc
    rcases hc with rfl | rfl | rfl | rfl
    · exact ok_fin (P := fun p d => ptM d (p / szN d) 98 = sqS (dmN p) d &&& patS 98) (by decide +kernel) ho hp
    · exact ok_fin (P := fun p d => ptM d (p / szN d) 119 = sqS (dmN p) d &&& patS 119) (by decide +kernel) ho hp
    · exact ok_fin (P := fun p d => ptM d (p / szN d) 103 = sqS (dmN p) d &&& patS 103) (by decide +kernel) ho hp
    · exact ok_fin (P := fun p d => ptM d (p / szN d) 115 = sqS (dmN p) d &&& patS 115) (by decide +kernel) ho hp
  apply h
  unfold isLeafB at hc
  simp only [Bool.or_eq_true, decide_eq_true_eq] at hc
  rcases hc with ((h | h) | h) | h
  · exact Or.inl h
  · exact Or.inr (Or.inl h)
  · exact Or.inr (Or.inr (Or.inl h))
  · exact Or.inr (Or.inr (Or.inr h))
theorem mk_eq {p d : Nat} (ho : okW p d) (hp : p < 64) : mkM d (p / szN d) = sqS (dmN p) d := ok_fin (P := fun p d => mkM d (p / szN d) = sqS (dmN p) d) (by decide +kernel) ho hp
def gsM : Nat → Nat → Nat × Nat
  | 0, q => (0, q)
  | d + 1, q => if q % 4 = 3 then gsM d (q / 4) else (d + 1, q)
def gdI (d q : Nat) : Int32 := if (gsM d q).1 = 0 then -9 else nI (gsM d q).1
def gpI (d q : Nat) : Int32 := if (gsM d q).1 = 0 then nI (gsM d q).2 else nI ((gsM d q).2 + 1)
theorem go_fin {p d : Nat} (ho : okW p d) (hp : p < 64) : (p + szN d = 64 ∧ (gsM d (p / szN d)).1 = 0) ∨ (p + szN d < 64 ∧ ¬ (gsM d (p / szN d)).1 = 0 ∧ (gsM d (p / szN d)).1 = psN (p + szN d) d ∧ (gsM d (p / szN d)).2 + 1 = (p + szN d) / szN (psN (p + szN d) d)) :=
  ok_fin (P := fun p d => (p + szN d = 64 ∧ (gsM d (p / szN d)).1 = 0) ∨ (p + szN d < 64 ∧ ¬ (gsM d (p / szN d)).1 = 0 ∧ (gsM d (p / szN d)).1 = psN (p + szN d) d ∧ (gsM d (p / szN d)).2 + 1 = (p + szN d) / szN (psN (p + szN d) d))) (by decide +kernel) ho hp
theorem relW_go {p d : Nat} (ho : okW p d) (hp : p < 64) : relW (gdI d (p / szN d)) (gpI d (p / szN d)) (p + szN d) (psN (p + szN d) d) := by
  refine ⟨okW_pass ho hp, ?_⟩
  unfold gdI gpI
  rcases go_fin ho hp with ⟨h1, h2⟩ | ⟨h1, h2, h3, h4⟩
  · left; rw [if_pos h2]; exact ⟨h1, rfl⟩
  · right; rw [if_neg h2, if_neg h2, h3, h4]; exact ⟨h1, rfl, rfl⟩
theorem relW_cut {dd qq : Int32} {p d : Nat} (h : relW dd qq p d) (hp : p < 64) (hd : d < 3) : relW (dd + 1) (qq * 4) p (d + 1) := by
  obtain ⟨ho, h1 | ⟨h1, h2, h3⟩⟩ := h
  · omega
  · refine ⟨okW_cut ho hd, Or.inr ⟨hp, ?_, ?_⟩⟩
    · rw [h2]; exact nI_1 d
    · rw [h3, show (4 : Int32) = nI 4 from rfl, pk_mul]
      have := ok_fin (P := fun p d => d < 3 → p / szN d * 4 = p / szN (d + 1)) (by decide +kernel) ho hp hd
      rw [this]
theorem relW_in {dd qq : Int32} {p d : Nat} (h : relW dd qq p d) : inL dd.toInt64 0 2 = (decide (p < 64) && decide (d < 3)) := by
  obtain ⟨ho, ⟨h1, h2⟩ | ⟨h1, h2, h3⟩⟩ := h
  · rw [h2, h1]; rfl
  · rw [h2, decide_eq_true h1, Bool.true_and]
    have : ∀ j : Fin 4, inL (nI j.val).toInt64 0 2 = decide (j.val < 3) := by decide +kernel
    exact this ⟨d, by have := ho.1; omega⟩
theorem relW_end {dd qq : Int32} {p d : Nat} (h : relW dd qq p d) : dd = -9 ↔ 64 ≤ p := by
  obtain ⟨ho, ⟨h1, h2⟩ | ⟨h1, h2, h3⟩⟩ := h
  · exact ⟨fun _ => by omega, fun _ => h2⟩
  · refine ⟨fun q => ?_, fun q => by omega⟩
    rw [h2] at q
    have : ∀ j : Fin 4, ¬ nI j.val = -9 := by decide +kernel
    exact absurd q (this ⟨d, by have := ho.1; omega⟩)
theorem relW_nat {dd qq : Int32} {p d : Nat} (h : relW dd qq p d) (hn : ¬ dd = -9) : p < 64 ∧ dd = nI d ∧ qq = nI (p / szN d) := by
  obtain ⟨ho, ⟨h1, h2⟩ | h1⟩ := h
  · exact absurd h2 hn
  · exact h1
/-- what the reference answers of the square at depth d, place q -/
def lfS (v : Int64) (d q : Nat) : Int32 := if v &&& mkM d q = ptM d q 98 then 98 else if v &&& mkM d q = 0 then 119 else if v &&& mkM d q = ptM d q 103 then 103 else if v &&& mkM d q = ptM d q 115 then 115 else 113
theorem andC (a b : Int64) : a &&& b = b &&& a := bt_ext fun k _ => by rw [bt_and, bt_and, Bool.and_comm]
theorem and_m1 (a : Int64) : a &&& (-1) = a := bt_ext fun k hk => by rw [bt_and, bt_m1 hk, Bool.and_true]
theorem lf_eq {v : Int64} {p d : Nat} (ho : okW p d) (hp : p < 64) : lfS v d (p / szN d) = sgW v p d := by
  unfold lfS sgW signS
  rw [mk_eq ho hp, pt_eq ho hp (by decide), pt_eq ho hp (by decide), pt_eq ho hp (by decide), show patS 98 = -1 from rfl, show patS 103 = CHEQ from rfl, show patS 115 = STRI from rfl, and_m1, andC _ CHEQ, andC _ STRI]
/-- at depth 3 a square is one cell -/
theorem sg3 {v : Int64} {p : Nat} (hp : p < 64) : ¬ sgW v p 3 = 113 := by
  have h1 : sqS (dmN p) 3 = sh (dmN p) := by
    have : ∀ i : Fin 64, sqS (dmN i.val) 3 = sh (dmN i.val) := by decide +kernel
    exact this ⟨p, hp⟩
  have hd := dm_lt hp
  unfold sgW signS
  rw [h1]
  by_cases hb : bt v (dmN p) = true
  · rw [if_pos]; · decide
    apply bt_ext; intro k hk
    rw [bt_and, bt_sh hd hk]
    by_cases q : k = dmN p
    · subst q; simp [hb]
    · simp [q]
  · rw [if_neg, if_pos]
    · decide
    · apply bt_ext; intro k hk
      rw [bt_and, bt_sh hd hk, bt_0]
      by_cases q : k = dmN p
      · subst q; simp at hb; simp [hb]
      · simp [q]
    · intro q
      have := congrArg (fun z => bt z (dmN p)) q
      simp only [bt_and, bt_sh hd hd, decide_true, Bool.and_true] at this
      exact hb this
theorem isQua_in (x : Int32) : inL x.toInt64 0 3 = isQua x := by
  unfold inL isQua
  apply decide_eq_decide.mpr
  rw [show (x.toInt64 < 0 ↔ x < 0) from fa_wide_lt x 0, show (3 < x.toInt64 ↔ 3 < x) from fa_wide_lt 3 x, fa_lt 3 x, fa_le 4 x, show (3 : Int32).toInt = 3 from rfl, show (4 : Int32).toInt = 4 from rfl]
  constructor <;> intro h <;> exact ⟨h.1, by omega⟩
theorem isCel_in (x : Int32) : inL x.toInt64 0 63 = isCel x := by
  unfold inL isCel
  apply decide_eq_decide.mpr
  rw [show (x.toInt64 < 0 ↔ x < 0) from fa_wide_lt x 0, show (63 < x.toInt64 ↔ 63 < x) from fa_wide_lt 63 x, fa_lt 63 x, fa_le 64 x, show (63 : Int32).toInt = 63 from rfl, show (64 : Int32).toInt = 64 from rfl]
  constructor <;> intro h <;> exact ⟨h.1, by omega⟩
def is01 (x : Int32) : Bool := decide (x = 0) || decide (x = 1)
theorem is01_in (x : Int32) : inL x.toInt64 0 1 = is01 x := by
  unfold inL is01
  rw [← Bool.decide_or]
  apply decide_eq_decide.mpr
  rw [show (x.toInt64 < 0 ↔ x < 0) from fa_wide_lt x 0, show (1 < x.toInt64 ↔ 1 < x) from fa_wide_lt 1 x, fa_lt x 0, fa_lt 1 x, fa_eq x 0, fa_eq x 1, show (0 : Int32).toInt = 0 from rfl, show (1 : Int32).toInt = 1 from rfl]
  omega
theorem in1_in (x : Int32) (N : Nat) {z : Int32} (hz : z.toInt = N) : inL x.toInt64 1 z.toInt64 = decide (¬ x < 1 ∧ x ≤ z) := by
  unfold inL
  apply decide_eq_decide.mpr
  rw [show (x.toInt64 < 1 ↔ x < 1) from fa_wide_lt x 1, fa_wide_lt z x, fa_lt z x, fa_le x z]
  constructor <;> intro h <;> exact ⟨h.1, by omega⟩
theorem isPic_vp6 {p : Int32} (h : isPic p = true) : vp_in p 6 := by
  obtain ⟨j, hj, e⟩ := isPic_of h
  rw [e]; exact vp_in_nI (by omega) (by decide)
theorem inU {x a b : Int32} : inL x.toInt64 a.toInt64 b.toInt64 = decide (¬ x < a ∧ ¬ b < x) := by
  unfold inL
  apply decide_eq_decide.mpr
  rw [fa_wide_lt x a, fa_wide_lt b x]
