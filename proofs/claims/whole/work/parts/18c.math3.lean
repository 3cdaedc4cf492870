/-! Blocks: squares of one depth, in whatever order they come. -/
def stB (m : Int64) (s : Int64 × Nat) : Int64 × Nat := if s.1 &&& m = m then (s.1 &&& (m ^^^ (-1)), s.2 + 1) else s
theorem blM_st {d k : Nat} {s : Int64 × Nat} : blM d k s = stB (mkM d k) s := by
  unfold blM stB
  by_cases h : s.1 &&& mkM d k = mkM d k
  · rw [if_pos h, if_pos (decide_eq_true h), if_pos (decide_eq_true h)]
  · rw [if_neg h, if_neg (by simp [h]), if_neg (by simp [h])]
    have : s.1 &&& (-1) = s.1 := bt_ext fun k hk => by rw [bt_and, bt_m1 hk, Bool.and_true]
    rw [this]; rfl
/-- masks m 0 .. m (N - 1): each cell b lies in just one kind of them, q b; 'fs j': none of those before j is it -/
def famB (m : Nat → Int64) (q : Nat → Int64) (fs : Nat → Bool) (N : Nat) : Prop :=
  (∀ j, j < N → ∀ b, b < 64 → bt (m j) b = decide (m j = q b)) ∧ (∀ j, j < N → ∃ b, b < 64 ∧ m j = q b) ∧ (∀ j, j < N → (fs j = true ↔ ∀ i, i < j → ¬ m i = m j))
def fuB (r m : Int64) : Bool := decide (r &&& m = m)
theorem fu_bt {r m : Int64} (h : fuB r m = true) {b : Nat} (hb : bt m b = true) : bt r b = true := by
  have h1 := of_decide_eq_true h
  have := congrArg (fun z => bt z b) h1
  simp only [bt_and, hb, Bool.and_true] at this
  exact this
theorem fold_B {m q : Nat → Int64} {fs : Nat → Bool} {N : Nat} (hf : famB m q fs N) (r : Int64) (n : Nat) : ∀ i, i ≤ N → (∀ b, b < 64 → bt (it (fun k s => stB (m k) s) i (r, n)).1 b = (bt r b && !anyN (fun j => fuB r (m j) && decide (m j = q b)) i)) ∧ (it (fun k s => stB (m k) s) i (r, n)).2 = n + fb_ct (fun j => fuB r (m j) && fs j) i := by
  obtain ⟨h1, h2, h3⟩ := hf
  intro i
  induction i with
  | zero => intro _; exact ⟨fun b _ => by simp [it, anyN], rfl⟩
  | succ i ih =>
    intro hi
    obtain ⟨ih1, ih2⟩ := ih (by omega)
    obtain ⟨b0, hb0, e0⟩ := h2 i (by omega)
    have hbit : bt (m i) b0 = true := by rw [h1 i (by omega) b0 hb0]; exact decide_eq_true e0
    rw [it_s]
    generalize it (fun k s => stB (m k) s) i (r, n) = s at ih1 ih2 ⊢
    show (∀ b, b < 64 → bt (stB (m i) s).1 b = _) ∧ (stB (m i) s).2 = _
    have key : (s.1 &&& m i = m i) ↔ (fuB r (m i) = true ∧ fs i = true) := by
      constructor
      · intro h
        have hs : ∀ b, bt (m i) b = true → bt s.1 b = true := fun b hb => by
          have := congrArg (fun z => bt z b) h
          simp only [bt_and, hb, Bool.and_true] at this
          exact this
        have hfu : fuB r (m i) = true := by
          apply decide_eq_true
          apply bt_ext; intro b hb
          rw [bt_and]
          cases hm : bt (m i) b
          · simp
          · have h4 := hs b hm
            rw [ih1 b hb] at h4
            rw [(Bool.and_eq_true _ _).mp h4 |>.1]; rfl
        refine ⟨hfu, (h3 i (by omega)).mpr fun j hj he => ?_⟩
        have h4 := hs b0 hbit
        rw [ih1 b0 hb0] at h4
        have h5 := (Bool.and_eq_true _ _).mp h4 |>.2
        have h6 : anyN (fun j => fuB r (m j) && decide (m j = q b0)) i = true := any_iff.mpr ⟨j, hj, by rw [he, hfu, decide_eq_true e0]; rfl⟩
        rw [h6] at h5
        exact absurd h5 (by decide)
      · rintro ⟨hfu, hfs⟩
        have hfirst := (h3 i (by omega)).mp hfs
        apply bt_ext; intro b hb
        rw [bt_and]
        cases hm : bt (m i) b
        · simp
        · rw [ih1 b hb, fu_bt hfu hm]
          have hq : m i = q b := by rw [h1 i (by omega) b hb] at hm; exact of_decide_eq_true hm
          have h6 : anyN (fun j => fuB r (m j) && decide (m j = q b)) i = false := by
            cases hany : anyN (fun j => fuB r (m j) && decide (m j = q b)) i
            · rfl
            · obtain ⟨j, hj, h7⟩ := any_iff.mp hany
              have h8 := of_decide_eq_true ((Bool.and_eq_true _ _).mp h7 |>.2)
              exact absurd (h8.trans hq.symm) (hfirst j hj)
          rw [h6]; rfl
    unfold stB
    by_cases h : s.1 &&& m i = m i
    · rw [if_pos h]
      obtain ⟨hfu, hfs⟩ := key.mp h
      refine ⟨fun b hb => ?_, ?_⟩
      · show bt (s.1 &&& (m i ^^^ (-1))) b = (bt r b && !(anyN (fun j => fuB r (m j) && decide (m j = q b)) i || (fuB r (m i) && decide (m i = q b))))
        rw [bt_and, bt_not _ hb, ih1 b hb, hfu, h1 i (by omega) b hb]
        cases bt r b <;> cases anyN (fun j => fuB r (m j) && decide (m j = q b)) i <;> cases decide (m i = q b) <;> rfl
      · show s.2 + 1 = _
        rw [fb_ct_succ, ih2, hfu, hfs]; rfl
    · rw [if_neg h]
      have hn : (fuB r (m i) && fs i) = false := by
        cases hc : (fuB r (m i) && fs i)
        · rfl
        · exact absurd (key.mpr ((Bool.and_eq_true _ _).mp hc)) h
      refine ⟨fun b hb => ?_, ?_⟩
      · rw [ih1 b hb]
        show _ = (bt r b && !(anyN (fun j => fuB r (m j) && decide (m j = q b)) i || (fuB r (m i) && decide (m i = q b))))
        -- a full mask that isn't first was met before
        cases hfu : fuB r (m i)
        · simp
        · rw [hfu, Bool.true_and] at hn
          have hnf : ¬ ∀ j, j < i → ¬ m j = m i := fun z => by rw [(h3 i (by omega)).mpr z] at hn; exact absurd hn (by decide)
          have hx : ∃ j, j < i ∧ m j = m i := Classical.byContradiction fun z => hnf fun j hj e => z ⟨j, hj, e⟩
          obtain ⟨j, hj, e⟩ := hx
          by_cases hq : m i = q b
          · have h6 : anyN (fun j => fuB r (m j) && decide (m j = q b)) i = true := any_iff.mpr ⟨j, hj, by rw [e, hfu, decide_eq_true hq]; rfl⟩
            rw [h6]; rfl
          · rw [decide_eq_false hq]; simp
      · rw [fb_ct_succ, ih2, hn]; rfl
theorem sm_swap (f : Nat → Nat → Nat) (m : Nat) : ∀ n, fb_sm (fun k => fb_sm (fun c => f k c) m) n = fb_sm (fun c => fb_sm (fun k => f k c) n) m
  | 0 => by
    show 0 = _
    have : ∀ m, fb_sm (fun _ => 0) m = 0 := fun m => by rw [fb_sm_const, Nat.mul_zero]
    exact (this m).symm
  | n + 1 => by
    rw [fb_sm_succ, sm_swap f m n, ← fb_sm_add]
    exact fb_sm_cong fun c _ => rfl
theorem sm_pick (g : Nat → Nat) {c : Nat} : ∀ n, c < n → fb_sm (fun j => if c = j then g j else 0) n = g c := by
  intro n
  induction n with
  | zero => intro h; exact absurd h (Nat.not_lt_zero _)
  | succ n ih =>
    intro h
    rw [fb_sm_succ]
    by_cases q : c = n
    · subst q
      rw [if_pos rfl]
      have : fb_sm (fun j => if c = j then g j else 0) c = fb_sm (fun _ => 0) c := fb_sm_cong fun j hj => if_neg (by omega)
      rw [this, fb_sm_const]; omega
    · rw [if_neg q, ih (by omega)]; rfl
def ck (d k : Nat) : Nat := dmN (k * szN d)
theorem ck_fin : ∀ (d : Fin 4) (k : Fin 64), k.val < p4 d.val → mkM d.val k.val = sqS (ck d.val k.val) d.val ∧ ck d.val k.val < 64 := by decide +kernel
theorem ck_ct : ∀ (d : Fin 4) (c : Fin 64), fb_sm (fun k => if ck d.val k = c.val then 1 else 0) (p4 d.val) = if cor c.val d.val = c.val then 1 else 0 := by decide +kernel
theorem sq_fam : ∀ (d : Fin 4) (c b : Fin 64), bt (sqS c.val d.val) b.val = decide (sqS c.val d.val = sqS b.val d.val) := by decide +kernel
theorem sq_cor : ∀ (d : Fin 4) (c : Fin 64), cor c.val d.val ≤ c.val ∧ sqS (cor c.val d.val) d.val = sqS c.val d.val ∧ cor (cor c.val d.val) d.val = cor c.val d.val := by decide +kernel
theorem sq_inj : ∀ (d : Fin 4) (c i : Fin 64), sqS i.val d.val = sqS c.val d.val → cor i.val d.val = cor c.val d.val := by decide +kernel
theorem ck_inj : ∀ (d : Fin 4) (i j : Fin 64), i.val < p4 d.val → j.val < p4 d.val → mkM d.val i.val = mkM d.val j.val → i.val = j.val := by decide +kernel
theorem famC {d : Nat} (hd : d < 4) : famB (fun c => sqS c d) (fun b => sqS b d) (fun c => decide (cor c d = c)) 64 := by
  refine ⟨fun j hj b hb => sq_fam ⟨d, hd⟩ ⟨j, hj⟩ ⟨b, hb⟩, fun j hj => ⟨j, hj, rfl⟩, fun j hj => ?_⟩
  obtain ⟨h1, h2, h3⟩ := sq_cor ⟨d, hd⟩ ⟨j, hj⟩
  dsimp only at h1 h2 h3
  constructor
  · intro h i hi e
    have h4 := of_decide_eq_true h
    have h5 := sq_inj ⟨d, hd⟩ ⟨j, hj⟩ ⟨i, by omega⟩ e
    dsimp only at h5
    obtain ⟨h6, -, -⟩ := sq_cor ⟨d, hd⟩ ⟨i, by omega⟩
    dsimp only at h6
    omega
  · intro h
    apply decide_eq_true
    refine Classical.byContradiction fun q => h (cor j d) (by omega) h2
theorem famM {d : Nat} (hd : d < 4) : famB (fun k => mkM d k) (fun b => sqS b d) (fun _ => true) (p4 d) := by
  have hp := p4_le hd
  refine ⟨fun j hj b hb => ?_, fun j hj => ?_, fun j hj => ⟨fun _ i hi e => ?_, fun _ => rfl⟩⟩
  · obtain ⟨h1, h2⟩ := ck_fin ⟨d, hd⟩ ⟨j, by omega⟩ hj
    dsimp only at h1 h2
    show bt (mkM d j) b = decide (mkM d j = sqS b d)
    rw [h1]; exact sq_fam ⟨d, hd⟩ ⟨_, h2⟩ ⟨b, hb⟩
  · obtain ⟨h1, h2⟩ := ck_fin ⟨d, hd⟩ ⟨j, by omega⟩ hj
    exact ⟨_, h2, h1⟩
  · have := ck_inj ⟨d, hd⟩ ⟨i, by omega⟩ ⟨j, by omega⟩ (by show i < p4 d; omega) hj e
    dsimp only at this
    omega
theorem bl_depth {d : Nat} (hd : d < 4) (r : Int64) (n : Nat) : it (blF d) 64 (r, n) = it (blM d) (p4 d) (r, n) := by
  have hp := p4_le hd
  have e1 : blF d = fun c s => stB (sqS c d) s := rfl
  have e2 : blM d = fun k s => stB (mkM d k) s := by funext k s; exact blM_st
  rw [e1, e2]
  obtain ⟨a1, a2⟩ := fold_B (famC hd) r n 64 (Nat.le_refl _)
  obtain ⟨c1, c2⟩ := fold_B (famM hd) r n (p4 d) (Nat.le_refl _)
  refine Prod.ext ?_ ?_
  · apply bt_ext; intro b hb
    rw [a1 b hb, c1 b hb]
    congr 2
    rw [Bool.eq_iff_iff, any_iff, any_iff]
    constructor
    · rintro ⟨j, hj, h⟩
      obtain ⟨h1, h2⟩ := (Bool.and_eq_true _ _).mp h
      have h3 := of_decide_eq_true h2
      -- the square of b is one of the reference's
      have hx : ∃ k, k < p4 d ∧ mkM d k = sqS b d := by
        have h4 := ck_ct ⟨d, hd⟩ ⟨cor b d, cor_lt hb hd⟩
        obtain ⟨h5, h6, h7⟩ := sq_cor ⟨d, hd⟩ ⟨b, hb⟩
        dsimp only at h4 h5 h6 h7
        rw [if_pos h7] at h4
        refine Classical.byContradiction fun z => ?_
        have h8 : fb_sm (fun k => if ck d k = cor b d then 1 else 0) (p4 d) = fb_sm (fun _ => 0) (p4 d) := fb_sm_cong fun k hk => if_neg fun q => z ⟨k, hk, by
          obtain ⟨h9, -⟩ := ck_fin ⟨d, hd⟩ ⟨k, by omega⟩ hk
          dsimp only at h9
          rw [h9, q]; exact h6⟩
        rw [h8, fb_sm_const, Nat.mul_zero] at h4
        exact absurd h4 (by decide)
      obtain ⟨k, hk, hk2⟩ := hx
      exact ⟨k, hk, by rw [hk2, ← h3, h1, decide_eq_true rfl]; rfl⟩
    · rintro ⟨k, hk, h⟩
      obtain ⟨h1, h2⟩ := (Bool.and_eq_true _ _).mp h
      have h3 := of_decide_eq_true h2
      exact ⟨b, hb, by rw [← h3, h1, decide_eq_true rfl]; rfl⟩
  · rw [a2, c2]
    congr 1
    rw [ct_sm, ct_sm]
    -- both count the full squares by their corners
    have e3 : fb_sm (fun k => if (fuB r (mkM d k) && true) = true then 1 else 0) (p4 d) = fb_sm (fun k => fb_sm (fun c => if ck d k = c then (if fuB r (sqS c d) = true then 1 else 0) else 0) 64) (p4 d) := fb_sm_cong fun k hk => by
      obtain ⟨h9, h8⟩ := ck_fin ⟨d, hd⟩ ⟨k, by omega⟩ hk
      dsimp only at h9 h8
      rw [sm_pick (fun c => if fuB r (sqS c d) = true then 1 else 0) 64 h8, Bool.and_true, h9]
    rw [e3, sm_swap]
    apply fb_sm_cong
    intro c hc
    have h4 := ck_ct ⟨d, hd⟩ ⟨c, hc⟩
    dsimp only at h4
    have e4 : fb_sm (fun k => if ck d k = c then (if fuB r (sqS c d) = true then 1 else 0) else 0) (p4 d) = (if fuB r (sqS c d) = true then fb_sm (fun k => if ck d k = c then 1 else 0) (p4 d) else 0) := by
      by_cases h : fuB r (sqS c d) = true
      · simp only [if_pos h]
      · simp only [if_neg h]
        rw [show (fun k => if ck d k = c then 0 else 0) = fun _ => 0 from funext fun k => by split <;> rfl, fb_sm_const, Nat.mul_zero]
    rw [e4, h4]
    by_cases h : fuB r (sqS c d) = true
    · rw [h]
      by_cases q : cor c d = c
      · simp [q]
      · simp [q]
    · simp [h]
theorem blM_eq (v : Int64) : (blMS v).2 = (blS v).2 := by
  have h : ∀ i, i ≤ 4 → it (fun d s => it (blF d) 64 s) i (v, 0) = it (fun d s => it (blM d) (p4 d) s) i (v, 0) := by
    intro i
    induction i with
    | zero => intro _; rfl
    | succ i ih =>
      intro hi
      rw [it_s, it_s, ih (by omega)]
      exact bl_depth (by omega) _ _
  unfold blMS blS
  rw [h 4 (Nat.le_refl _)]
