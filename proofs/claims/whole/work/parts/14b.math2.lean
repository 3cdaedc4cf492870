/-! Pure facts of pictures: parts, halving, growing, rims. -/
theorem pcn_or {a b : Int64} (h : ∀ k, k < 64 → ¬ (bt a k = true ∧ bt b k = true)) : pcn (a ||| b) = pcn a + pcn b := by
  unfold pcn
  rw [← fb_ct_or h]
  exact fb_ct_cong fun k _ => bt_or a b k
theorem pcn_split (a b : Int64) : pcn b = pcn (b &&& a) + pcn (b &&& (a ^^^ (-1))) := by
  rw [← pcn_or]
  · congr 1
    apply bt_ext; intro k hk
    rw [bt_or, bt_and, bt_and, bt_not a hk]
    cases bt a k <;> cases bt b k <;> rfl
  · intro k hk
    rw [bt_and, bt_and, bt_not a hk]
    cases bt a k <;> cases bt b k <;> simp
theorem pcn_lt {a b : Int64} (h : ∀ k, k < 64 → bt a k = true → bt b k = true) (hne : ¬ a = b) : pcn a < pcn b := by
  have h1 := pcn_split a b
  have h2 : b &&& a = a := by
    apply bt_ext; intro k hk
    rw [bt_and]
    have := h k hk
    cases hb : bt a k
    · simp
    · simp [this hb]
  rw [h2] at h1
  have h3 : pcn (b &&& (a ^^^ (-1))) ≠ 0 := by
    intro q
    apply hne
    have q2 := pcn_0 q
    apply bt_ext; intro k hk
    have q3 := congrArg (fun z => bt z k) q2
    simp only [bt_and, bt_not a hk, bt_0] at q3
    have h4 := h k hk
    revert q3 h4
    cases bt a k <;> cases bt b k <;> simp
  omega
def subS (p r : Int64) : Prop := p &&& r = p
theorem sub_bt {p r : Int64} (h : subS p r) {k : Nat} (hk : bt p k = true) : bt r k = true := by
  have := congrArg (fun z => bt z k) h
  simp only [bt_and, hk, Bool.true_and] at this
  exact this
theorem sub_of {p r : Int64} (h : ∀ k, k < 64 → bt p k = true → bt r k = true) : subS p r := by
  apply bt_ext; intro k hk
  rw [bt_and]
  have := h k hk
  cases hb : bt p k
  · rfl
  · simp [this hb]
theorem le_bt (p : Int64) {k : Nat} (hk : k < 64) : bt (leS p) k = bt (jushr p 1 &&& 9187201950435737471) k := by
  unfold leS
  rw [bt_ushr _ (by decide), bt_and, bt_and, bt_ushr _ (by decide)]
  by_cases h : k < 63
  · have : ∀ j : Fin 63, bt (-72340172838076674) (1 + j.val) = bt 9187201950435737471 j.val := by decide +kernel
    rw [this ⟨k, h⟩]
  · rw [bt_big (x := p) (k := 1 + k) (by omega)]; rfl
theorem ri_bt (p : Int64) {k : Nat} (hk : k < 64) : bt (riS p) k = bt (jshl p 1 &&& (-72340172838076674)) k := by
  unfold riS
  rw [bt_shl _ (by decide) hk, bt_and, bt_and, bt_shl _ (by decide) hk]
  by_cases h : 1 ≤ k
  · have : ∀ j : Fin 63, bt 9187201950435737471 j.val = bt (-72340172838076674) (j.val + 1) := by decide +kernel
    have h2 := this ⟨k - 1, by omega⟩
    simp only [show k - 1 + 1 = k by omega] at h2
    rw [h2]
    simp [h]
  · simp [h]
theorem nb_eq {r p : Int64} (h : subS p r) : nbM r p = ngS r p := by
  apply bt_ext; intro k hk
  unfold nbM ngS
  rw [bt_or, bt_and, bt_or, bt_or, bt_or, bt_and r, bt_or, bt_or, bt_or, bt_or, le_bt p hk, ri_bt p hk]
  have := @sub_bt p r h k
  revert this
  cases bt p k <;> cases bt r k <;> cases bt (jshl p 8) k <;> cases bt (jushr p 8) k <;> cases bt (jushr p 1 &&& 9187201950435737471) k <;> cases bt (jshl p 1 &&& (-72340172838076674)) k <;> simp
theorem ng_sub {r p : Int64} : subS (ngS r p) r := sub_of fun k _ h => by
  unfold ngS at h
  rw [bt_and] at h
  exact (Bool.and_eq_true _ _).mp h |>.1
theorem ng_ge {r p : Int64} (h : subS p r) : ∀ k, k < 64 → bt p k = true → bt (ngS r p) k = true := fun k hk hp => by
  unfold ngS
  rw [bt_and, bt_or, bt_or, bt_or, bt_or, hp, sub_bt h hp]
  rfl
theorem ng_lt {r p : Int64} (h : subS p r) (hn : ¬ ngS r p = p) : pcn p < pcn (ngS r p) := pcn_lt (ng_ge h) (fun q => hn q.symm)
theorem po_stab {r : Int64} : ∀ n p, subS p r → 64 - pcn p ≤ n → poG r (n + 1) p = poG r n p := by
  intro n
  induction n with
  | zero =>
    intro p hp hn
    show (if ngS r p = p then p else poG r 0 (ngS r p)) = p
    by_cases q : ngS r p = p
    · rw [if_pos q]
    · have h1 := ng_lt hp q
      have h2 := pcn_le (ngS r p)
      omega
  | succ n ih =>
    intro p hp hn
    show (if ngS r p = p then p else poG r (n + 1) (ngS r p)) = (if ngS r p = p then p else poG r n (ngS r p))
    by_cases q : ngS r p = p
    · rw [if_pos q, if_pos q]
    · rw [if_neg q, if_neg q]
      have h1 := ng_lt hp q
      exact ih _ ng_sub (by omega)
theorem po_step {r p : Int64} (h : subS p r) : poS r (ngS r p) = poS r p := by
  unfold poS
  by_cases q : ngS r p = p
  · rw [q]
  · have h1 := ng_lt h q
    rw [po_stab 63 (ngS r p) ng_sub (by omega)]
    show _ = (if ngS r p = p then p else poG r 63 (ngS r p))
    rw [if_neg q]
theorem po_fix {r p : Int64} (h : ngS r p = p) : poS r p = p := if_pos h
theorem po_ge {r : Int64} : ∀ n p, subS p r → ∀ k, k < 64 → bt p k = true → bt (poG r n p) k = true := by
  intro n
  induction n with
  | zero => intro p _ k _ h; exact h
  | succ n ih =>
    intro p hp k hk h
    show bt (if ngS r p = p then p else poG r n (ngS r p)) k = true
    by_cases q : ngS r p = p
    · rw [if_pos q]; exact h
    · rw [if_neg q]; exact ih _ ng_sub k hk (ng_ge hp k hk h)
def muS (p hd : Int64) : Nat := 64 - pcn p + (if p = hd then 0 else 1)
theorem mu_dec {r p hd : Int64} (h : subS p r) (hn : ¬ p = hd) : muS (ngS r p) p < muS p hd := by
  unfold muS
  rw [if_neg hn]
  by_cases q : ngS r p = p
  · rw [if_pos q, q]; omega
  · rw [if_neg q]
    have h1 := ng_lt h q
    have h2 := pcn_le (ngS r p)
    omega
theorem low_sub (r : Int64) : subS (r &&& -r) r := sub_of fun k _ h => by
  rw [bt_and] at h
  exact (Bool.and_eq_true _ _).mp h |>.1
theorem low_ne {r : Int64} (h : ¬ r = 0) : ¬ (r &&& -r) = 0 := by
  intro q
  have hx : ∃ k, k < 64 ∧ bt r k = true := by
    refine Classical.byContradiction fun hn => h ?_
    apply bt_ext; intro k hk
    rw [bt_0]
    cases hb : bt r k
    · rfl
    · exact absurd ⟨k, hk, hb⟩ hn
  obtain ⟨k, ⟨hk, hb⟩, hl⟩ := pk_least (fun k => k < 64 ∧ bt r k = true) hx
  have h1 := congrArg (fun z => bt z k) q
  simp only [bt_and, bt_0, hb, Bool.true_and] at h1
  have h2 : bt (-r) k = (bt r k ^^ (decide (k < 64) && decide (∃ j, j < k ∧ r.toBitVec.getLsbD j = true))) := by
    show (-r).toBitVec.getLsbD k = _
    rw [show (-r).toBitVec = -r.toBitVec from Int64.toBitVec_neg r, BitVec.getLsbD_neg]
    rfl
  have hz : decide (∃ j, j < k ∧ r.toBitVec.getLsbD j = true) = false := decide_eq_false (fun ⟨j, hj, hj2⟩ => hl j hj ⟨by omega, hj2⟩)
  rw [h2, hb, hz] at h1
  simp at h1
theorem pa_dec {r : Int64} (h : ¬ r = 0) : pcn (r &&& (poS r (r &&& -r) ^^^ (-1))) < pcn r := by
  have h1 := pcn_split (poS r (r &&& -r)) r
  have h2 : pcn (r &&& poS r (r &&& -r)) ≠ 0 := by
    intro q
    have q2 := pcn_0 q
    apply low_ne h
    apply bt_ext; intro k hk
    rw [bt_0]
    cases hb : bt (r &&& -r) k
    · rfl
    · have h3 := po_ge 64 _ (low_sub r) k hk hb
      have h4 := sub_bt (low_sub r) hb
      have q3 := congrArg (fun z => bt z k) q2
      simp only [bt_and, bt_0, h4, Bool.true_and] at q3
      rw [← q3]; exact h3.symm
  omega
theorem pa_stab : ∀ f r n, pcn r ≤ f → paG (f + 1) r n = paG f r n := by
  intro f
  induction f with
  | zero =>
    intro r n h
    show (if r = 0 then n else _) = n
    rw [if_pos (pcn_0 (Nat.le_zero.mp h))]
  | succ f ih =>
    intro r n h
    show (if r = 0 then n else paG (f + 1) (r &&& (poS r (r &&& -r) ^^^ (-1))) (n + 1)) = (if r = 0 then n else paG f (r &&& (poS r (r &&& -r) ^^^ (-1))) (n + 1))
    by_cases q : r = 0
    · rw [if_pos q, if_pos q]
    · rw [if_neg q, if_neg q]
      have h1 := pa_dec q
      exact ih _ _ (by omega)
theorem pa_step {r : Int64} {n : Nat} (h : ¬ r = 0) : paG 64 (r &&& (poS r (r &&& -r) ^^^ (-1))) (n + 1) = paG 64 r n := by
  have h1 := pa_dec h
  have h2 := pcn_le r
  rw [pa_stab 63 _ _ (by omega)]
  show _ = (if r = 0 then n else paG 63 (r &&& (poS r (r &&& -r) ^^^ (-1))) (n + 1))
  rw [if_neg h]
/-- one of the first n -/
def anyN (f : Nat → Bool) : Nat → Bool
  | 0 => false
  | n + 1 => anyN f n || f n
theorem any_iff {f : Nat → Bool} : ∀ {n : Nat}, anyN f n = true ↔ ∃ k, k < n ∧ f k = true
  | 0 => ⟨fun h => (by cases h), fun ⟨k, h, _⟩ => absurd h (Nat.not_lt_zero k)⟩
  | n + 1 => by
    show (anyN f n || f n) = true ↔ _
    rw [Bool.or_eq_true, any_iff]
    constructor
    · rintro (⟨k, h1, h2⟩ | h)
      · exact ⟨k, by omega, h2⟩
      · exact ⟨n, by omega, h⟩
    · rintro ⟨k, h1, h2⟩
      by_cases q : k = n
      · rw [q] at h2; exact Or.inr h2
      · exact Or.inl ⟨k, by omega, h2⟩
theorem any_one {f : Nat → Bool} {j n : Nat} (hj : j < n) : anyN (fun k => f k && decide (j = k)) n = f j := by
  rw [Bool.eq_iff_iff, any_iff]
  constructor
  · rintro ⟨k, h1, h2⟩
    obtain ⟨h3, h4⟩ := (Bool.and_eq_true _ _).mp h2
    rw [of_decide_eq_true h4]; exact h3
  · intro h; exact ⟨j, hj, by rw [h, decide_eq_true rfl]; rfl⟩
theorem any_cong {f g : Nat → Bool} {n : Nat} (h : ∀ k, k < n → f k = g k) : anyN f n = anyN g n := by
  rw [Bool.eq_iff_iff, any_iff, any_iff]
  constructor
  · rintro ⟨k, h1, h2⟩; exact ⟨k, h1, by rw [← h k h1]; exact h2⟩
  · rintro ⟨k, h1, h2⟩; exact ⟨k, h1, by rw [h k h1]; exact h2⟩
theorem it_any {g : Nat → Int64 → Int64} {f : Nat → Bool} {b : Nat} (n : Nat) (h : ∀ k a, k < n → bt (g k a) b = (bt a b || f k)) : ∀ m, m ≤ n → ∀ a, bt (it g m a) b = (bt a b || anyN f m)
  | 0, _, a => by show bt a b = _; simp [anyN]
  | m + 1, hm, a => by
    rw [it_s, h m _ (by omega), it_any n h m (by omega) a]
    show _ = (bt a b || (anyN f m || f m))
    rw [Bool.or_assoc]
theorem bif_or {P : Prop} [Decidable P] (a c : Int64) (b : Nat) : bt (if P then a ||| c else a) b = (bt a b || (decide P && bt c b)) := by
  by_cases h : P
  · simp [h, bt_or]
  · simp [h]
theorem or_bif {P : Prop} [Decidable P] (a c : Int64) (b : Nat) : bt (a ||| (if P then c else 0)) b = (bt a b || (decide P && bt c b)) := by
  rw [bt_or]
  by_cases h : P
  · simp [h]
  · simp [h, bt_0]
theorem four_bt {y x b : Nat} (hy : y < 4) (hx : x < 4) (hb : b < 64) : bt (jshl 771 (16 * y + 2 * x)) b = (decide (b / 16 = y) && decide (b % 8 / 2 = x)) := by
  have : ∀ (i : Fin 4) (j : Fin 4) (k : Fin 64), bt (jshl 771 (16 * i.val + 2 * j.val)) k.val = (decide (k.val / 16 = i.val) && decide (k.val % 8 / 2 = j.val)) := by decide +kernel
  exact this ⟨y, hy⟩ ⟨x, hx⟩ ⟨b, hb⟩
theorem gr_bt {v : Int64} {q b : Nat} (hb : b < 64) : bt (grnS v q) b = bt v (qcn q + 8 * (b / 16) + b % 8 / 2) := by
  unfold grnS
  rw [it_any (f := fun y => anyN (fun x => bt v (qcn q + 8 * y + x) && (decide (b / 16 = y) && decide (b % 8 / 2 = x))) 4) 4 ?_ 4 (Nat.le_refl _), bt_0, Bool.false_or]
  · rw [any_cong (g := fun y => bt v (qcn q + 8 * y + b % 8 / 2) && decide (b / 16 = y)) (fun y _ => ?_), any_one (by omega)]
    rw [any_cong (g := fun x => (bt v (qcn q + 8 * y + x) && decide (b / 16 = y)) && decide (b % 8 / 2 = x)) (fun x _ => by rw [Bool.and_assoc]), any_one (f := fun x => bt v (qcn q + 8 * y + x) && decide (b / 16 = y)) (by omega)]
  · intro y a hy
    unfold gyF
    rw [it_any (f := fun x => bt v (qcn q + 8 * y + x) && (decide (b / 16 = y) && decide (b % 8 / 2 = x))) 4 ?_ 4 (Nat.le_refl _)]
    intro x a hx
    unfold gxF
    rw [bif_or, four_bt hy hx hb]
    simp
theorem grM_eq {v : Int64} {q : Nat} (hq : q < 4) : grMS v q = grnS v q := by
  apply bt_ext; intro b hb
  rw [gr_bt hb]
  unfold grMS
  rw [it_any (f := fun k => bt v (8 * (k / 16 + 4 * (q / 2)) + (k % 8 / 2 + 4 * (q % 2))) && decide (b = k)) 64 ?_ 64 (Nat.le_refl _), bt_0, Bool.false_or, any_one hb]
  · congr 1; unfold qcn; omega
  · intro k a hk
    unfold grM
    rw [or_bif, show jshl 1 k = sh k from rfl, bt_sh hk hb]
    simp
theorem ct_one {f : Nat → Bool} {p : Nat} : ∀ n, fb_ct (fun k => f k && decide (k = p)) n = if p < n ∧ f p = true then 1 else 0
  | 0 => by simp [fb_ct]
  | n + 1 => by
    rw [fb_ct_succ, ct_one n]
    by_cases h : n = p
    · subst h
      by_cases q : f n = true
      · simp [q]
      · simp [q]
    · by_cases q : f p = true
      · by_cases r : p < n
        · simp [h, q, r, show p < n + 1 by omega]
        · simp [h, q, r, show ¬ p < n + 1 by omega]
      · simp [h, q]
theorem pcn_sh (v : Int64) {p : Nat} (hp : p < 64) : pcn (v &&& sh p) = if bt v p = true then 1 else 0 := by
  unfold pcn
  rw [fb_ct_cong (q := fun k => bt v k && decide (k = p)) (fun k hk => by rw [bt_and, bt_sh hp hk]), ct_one]
  simp [hp]
theorem and_or (a b c : Int64) : a &&& (b ||| c) = (a &&& b) ||| (a &&& c) := bt_ext fun k _ => by rw [bt_and, bt_or, bt_or, bt_and, bt_and]; cases bt a k <;> rfl
theorem sh_dis {v : Int64} {p q : Nat} (hp : p < 64) (hq : q < 64) (h : p ≠ q) : ∀ k, k < 64 → ¬ (bt (v &&& sh p) k = true ∧ bt (v &&& sh q) k = true) := by
  intro k hk
  rw [bt_and, bt_and, bt_sh hp hk, bt_sh hq hk]
  simp only [Bool.and_eq_true, decide_eq_true_eq]
  omega
theorem pcn_4 {v : Int64} {p0 p1 p2 p3 : Nat} (h0 : p0 < 64) (h1 : p1 < 64) (h2 : p2 < 64) (h3 : p3 < 64) (d1 : p0 ≠ p1) (d2 : p0 ≠ p2) (d3 : p0 ≠ p3) (d4 : p1 ≠ p2) (d5 : p1 ≠ p3) (d6 : p2 ≠ p3) : pcn (v &&& (sh p0 ||| sh p1 ||| sh p2 ||| sh p3)) = (if bt v p0 = true then 1 else 0) + (if bt v p1 = true then 1 else 0) + (if bt v p2 = true then 1 else 0) + (if bt v p3 = true then 1 else 0) := by
  rw [and_or, and_or, and_or, pcn_or, pcn_or, pcn_or, pcn_sh v h0, pcn_sh v h1, pcn_sh v h2, pcn_sh v h3]
  · exact sh_dis h0 h1 d1
  · intro k hk
    have e1 := sh_dis (v := v) h0 h2 d2 k hk
    have e2 := sh_dis (v := v) h1 h2 d4 k hk
    rw [bt_or]
    revert e1 e2
    cases bt (v &&& sh p0) k <;> cases bt (v &&& sh p1) k <;> cases bt (v &&& sh p2) k <;> simp
  · intro k hk
    have e1 := sh_dis (v := v) h0 h3 d3 k hk
    have e2 := sh_dis (v := v) h1 h3 d5 k hk
    have e3 := sh_dis (v := v) h2 h3 d6 k hk
    rw [bt_or, bt_or]
    revert e1 e2 e3
    cases bt (v &&& sh p0) k <;> cases bt (v &&& sh p1) k <;> cases bt (v &&& sh p2) k <;> cases bt (v &&& sh p3) k <;> simp
theorem hc_eq {v : Int64} {i : Nat} (hi : i < 16) : fb_ct (hcM v i) 4 = pcn (v &&& jshl 771 (16 * (i / 4) + 2 * (i % 4))) := by
  have hm : jshl 771 (16 * (i / 4) + 2 * (i % 4)) = sh (8 * (2 * (i / 4)) + 2 * (i % 4)) ||| sh (8 * (2 * (i / 4)) + (2 * (i % 4) + 1)) ||| sh (8 * (2 * (i / 4) + 1) + 2 * (i % 4)) ||| sh (8 * (2 * (i / 4) + 1) + (2 * (i % 4) + 1)) := by
    have : ∀ j : Fin 16, jshl 771 (16 * (j.val / 4) + 2 * (j.val % 4)) = sh (8 * (2 * (j.val / 4)) + 2 * (j.val % 4)) ||| sh (8 * (2 * (j.val / 4)) + (2 * (j.val % 4) + 1)) ||| sh (8 * (2 * (j.val / 4) + 1) + 2 * (j.val % 4)) ||| sh (8 * (2 * (j.val / 4) + 1) + (2 * (j.val % 4) + 1)) := by decide +kernel
    exact this ⟨i, hi⟩
  rw [hm, pcn_4 (by omega) (by omega) (by omega) (by omega) (by omega) (by omega) (by omega) (by omega) (by omega) (by omega)]
  simp only [fb_ct_succ, fb_ct, hcM, Nat.zero_add]
  rfl
theorem haM_eq {v : Int64} {q : Nat} (hq : q < 4) : haMS v q = haS v q := by
  have hs : ∀ y x, y < 4 → x < 4 → jshl (sh (8 * y + x)) (qcn q) = sh (8 * (y + 4 * (q / 2)) + x + 4 * (q % 2)) := by
    have : ∀ (i j k : Fin 4), jshl (sh (8 * i.val + j.val)) (qcn k.val) = sh (8 * (i.val + 4 * (k.val / 2)) + j.val + 4 * (k.val % 2)) := by decide +kernel
    intro y x hy hx; exact this ⟨y, hy⟩ ⟨x, hx⟩ ⟨q, hq⟩
  have hstep : ∀ y x a, y < 4 → x < 4 → haM v q (4 * y + x) a = hxF v q y x a := by
    intro y x a hy hx
    unfold haM hxF
    rw [hc_eq (by omega), hs y x hy hx, show (4 * y + x) / 4 = y by omega, show (4 * y + x) % 4 = x by omega]
    by_cases h : pcn (v &&& jshl 771 (16 * y + 2 * x)) < 2
    · rw [if_pos (by omega), if_pos h, or0]
    · rw [if_neg (by omega), if_neg h]; rfl
  have hrow : ∀ y a, y < 4 → it (haM v q) (4 * y + 4) a = hyF v q y (it (haM v q) (4 * y) a) := by
    intro y a hy
    show haM v q (4 * y + 3) (haM v q (4 * y + 2) (haM v q (4 * y + 1) (haM v q (4 * y) (it (haM v q) (4 * y) a)))) = hxF v q y 3 (hxF v q y 2 (hxF v q y 1 (hxF v q y 0 _)))
    rw [hstep y 3 _ hy (by omega), hstep y 2 _ hy (by omega), hstep y 1 _ hy (by omega), show 4 * y = 4 * y + 0 from rfl, hstep y 0 _ hy (by omega)]
    rfl
  have r3 : it (haM v q) 16 0 = hyF v q 3 (it (haM v q) 12 0) := hrow 3 0 (by omega)
  have r2 : it (haM v q) 12 0 = hyF v q 2 (it (haM v q) 8 0) := hrow 2 0 (by omega)
  have r1 : it (haM v q) 8 0 = hyF v q 1 (it (haM v q) 4 0) := hrow 1 0 (by omega)
  have r0 : it (haM v q) 4 0 = hyF v q 0 (it (haM v q) 0 0) := hrow 0 0 (by omega)
  have e4 : ∀ (F : Nat → Int64 → Int64) (a : Int64), it F 4 a = F 3 (F 2 (F 1 (F 0 a))) := fun _ _ => rfl
  have e0 : ∀ (F : Nat → Int64 → Int64) (a : Int64), it F 0 a = a := fun _ _ => rfl
  unfold haMS haS
  rw [r3, r2, r1, r0, e4, e0]
theorem ct_sm (f : Nat → Bool) : ∀ n, fb_ct f n = fb_sm (fun k => if f k = true then 1 else 0) n
  | 0 => rfl
  | n + 1 => by rw [fb_ct_succ, fb_sm_succ, ct_sm f n]
theorem isR_out {v : Int64} {x y : Int32} (h : inL x.toInt64 0 7 = false ∨ inL y.toInt64 0 7 = false) : isR v x y = false := by
  unfold isR
  rcases h with h | h
  · rw [h]; rfl
  · rw [h, Bool.and_false]; rfl
theorem nI_m1 {n : Nat} (h : 0 < n) : nI n - 1 = nI (n - 1) := pk_sub (a := n) (b := 1) h
theorem rm_1 (v : Int64) {k : Nat} (hk : k < 64) : isR v (nI (k % 8 + 1)) (nI (k / 8)) = bt (leS v) k := by
  rw [le_bt v hk, bt_and, bt_ushr _ (by decide)]
  have hC : ∀ j : Fin 64, bt 9187201950435737471 j.val = decide (j.val % 8 < 7) := by decide +kernel
  rw [hC ⟨k, hk⟩]
  by_cases h : k % 8 < 7
  · rw [isR_nI (by omega) (by omega), decide_eq_true h, Bool.and_true]; congr 1; omega
  · rw [isR_out (Or.inl (by rw [show k % 8 + 1 = 8 by omega]; decide)), decide_eq_false h, Bool.and_false]
theorem rm_2 (v : Int64) {k : Nat} (hk : k < 64) : isR v (nI (k % 8) - 1) (nI (k / 8)) = bt (riS v) k := by
  rw [ri_bt v hk, bt_and, bt_shl _ (by decide) hk]
  have hC : ∀ j : Fin 64, bt (-72340172838076674) j.val = decide (0 < j.val % 8) := by decide +kernel
  rw [hC ⟨k, hk⟩]
  by_cases h : 0 < k % 8
  · rw [nI_m1 h, isR_nI (by omega) (by omega), decide_eq_true h, Bool.and_true, decide_eq_true (show 1 ≤ k by omega), Bool.true_and]; congr 1; omega
  · rw [isR_out (Or.inl (by rw [show k % 8 = 0 by omega]; decide)), decide_eq_false h, Bool.and_false]
theorem rm_3 (v : Int64) {k : Nat} (hk : k < 64) : isR v (nI (k % 8)) (nI (k / 8 + 1)) = bt (jushr v 8) k := by
  rw [bt_ushr _ (by decide)]
  by_cases h : k / 8 < 7
  · rw [isR_nI (by omega) (by omega)]; congr 1; omega
  · rw [isR_out (Or.inr (by rw [show k / 8 + 1 = 8 by omega]; decide)), bt_big (by omega)]
theorem rm_4 (v : Int64) {k : Nat} (hk : k < 64) : isR v (nI (k % 8)) (nI (k / 8) - 1) = bt (jshl v 8) k := by
  rw [bt_shl _ (by decide) hk]
  by_cases h : 0 < k / 8
  · rw [nI_m1 h, isR_nI (by omega) (by omega), decide_eq_true (show 8 ≤ k by omega), Bool.true_and]; congr 1; omega
  · rw [isR_out (Or.inr (by rw [show k / 8 = 0 by omega]; decide)), decide_eq_false (show ¬ 8 ≤ k by omega)]; rfl
theorem rm_eq (v : Int64) : fb_sm (rmF v) 64 = riN v := by
  unfold riN pcn
  rw [ct_sm, ct_sm, ct_sm, ct_sm, ← fb_sm_add, ← fb_sm_add, ← fb_sm_add]
  apply fb_sm_cong
  intro k hk
  unfold rmF
  rw [rm_1 v hk, rm_2 v hk, rm_3 v hk, rm_4 v hk, bt_and, bt_and, bt_and, bt_and, bt_not _ hk, bt_not _ hk, bt_not _ hk, bt_not _ hk]
  cases bt v k <;> cases bt (leS v) k <;> cases bt (riS v) k <;> cases bt (jushr v 8) k <;> cases bt (jshl v 8) k <;> rfl
