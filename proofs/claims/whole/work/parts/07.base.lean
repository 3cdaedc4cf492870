/-! The known state (Kn), contracts that leave the heap (R) and that change a world (M), and the rules of their calls. -/
abbrev GG : Type := va_G × ClassId × ClassId × ClassId × ClassId × Nat × Nat
abbrev gI (g : GG) : ClassId := g.2.1
abbrev gJ (g : GG) : ClassId := g.2.2.1
abbrev gZ (g : GG) : ClassId := g.2.2.2.1
abbrev gO (g : GG) : ClassId := g.2.2.2.2.1
abbrev gc (g : GG) : Nat := g.2.2.2.2.2.1
abbrev gl (g : GG) : Nat := g.2.2.2.2.2.2
abbrev tysG (g : GG) : List (ClassId × FieldType) := [(gI g, .int), (gJ g, .long), (gZ g, .boolean), (gO g, .object RX1)]
def corn (j : Nat) : Int64 := match j with
  | 0 => -1
  | 1 => 252645135
  | 2 => 771
  | _ => 1
def leafc (j : Nat) : Int32 := match j with
  | 0 => 98
  | 1 => 119
  | 2 => 103
  | _ => 115
def cornF (j : Nat) : Value := .long (corn j)
def leafF (j : Nat) : Value := .int (leafc j)
def nestM : List (String × Nat × MethodName) := [(RX1, 15, yX6_isPicture), (RX1, 68, yX6_isQuarter), (RX6, 9, yX1_init), (RX6, 25, yX4_init), (RX6, 32, yX0_init), (RX6, 39, yX3_init), (RX6, 46, yX5_init), (RX4, 17, yX5_init)]
def Kn (g : GG) (A : Nat → Prop) (U : State) : Prop :=
  va_K g.1 vwCl (tysG g) U ∧ va_AO RX1 U ∧ (∀ q ∈ nestM, va_Nw (.methodLinkNest q.1 q.2.1 q.2.2 RX6) U) ∧ (va_Z RX2 "CORNERS" "[J" (.ref (gc g)) A U U.heap ∧ va_T .long (gc g) 4 cornF A U U.heap) ∧ (va_Z RX3 "LEAVES" "[I" (.ref (gl g)) A U U.heap ∧ va_T .int (gl g) 4 leafF A U U.heap)
theorem Kn.calling {g : GG} {A : Nat → Prop} {U : State} {fr : JFrame} {mk : MethodId} {a : Array Value} (h : Kn g A U) : Kn g A (U.calling fr mk a) := by
  obtain ⟨h1, h2, h3, ⟨h4, h5⟩, h6, h7⟩ := h
  exact ⟨va_K.moved (u := U) (U := U.calling fr mk a) (Vm.Alike.refl U.vm) h1, va_AO.moved (u := U) (U := U.calling fr mk a) (Vm.Alike.refl U.vm) h2, fun q hq => va_Nw.same (u := U) (U := U.calling fr mk a) rfl rfl (h3 q hq), ⟨va_Z.moved (u := U) (U := U.calling fr mk a) (Vm.Alike.refl U.vm) h4, va_T.moved (u := U) (U := U.calling fr mk a) (Vm.Alike.refl U.vm) h5⟩, va_Z.moved (u := U) (U := U.calling fr mk a) (Vm.Alike.refl U.vm) h6, va_T.moved (u := U) (U := U.calling fr mk a) (Vm.Alike.refl U.vm) h7⟩
theorem Kn.call {g : GG} {A B : Nat → Prop} {s U : State} {H : Heap} {locs : List Loc} (h : Kn g A s) (hS : va_S A s.heap H locs) (hB : ∀ q, B q → A q) (hU : U.heap = H) (hW : s.WarmedH U.vm) : Kn g B U := by
  obtain ⟨h1, h2, h3, ⟨h4, h5⟩, h6, h7⟩ := h
  have hk : ∀ a : Nat, a < s.heap.size → ¬ A a → H[a]? = s.heap[a]? := hS.2.1
  refine ⟨va_K.moved hW.alike h1, va_AO.moved hW.alike h2, fun q hq => va_Nw.warmM hW (h3 q hq), ⟨?_, ?_⟩, ?_, ?_⟩
  · rw [hU]; exact va_Z.moved hW.alike ((h4.kept hk).narrow hB)
  · rw [hU]; exact va_T.moved hW.alike ((h5.kept hk).narrow hB)
  · rw [hU]; exact va_Z.moved hW.alike ((h6.kept hk).narrow hB)
  · rw [hU]; exact va_T.moved hW.alike ((h7.kept hk).narrow hB)
theorem Kn.nest {g : GG} {A : Nat → Prop} {U : State} (h : Kn g A U) (i : Nat) {own : String} {ix : Nat} {y : MethodName} (hi : nestM[i]? = some (own, ix, y)) : va_Nw (.methodLinkNest own ix y RX6) U := h.2.2.1 (own, ix, y) (List.mem_of_getElem? hi)
abbrev NoA : Nat → Prop := fun _ => False
/-- the start of a contract that leaves the heap as it is -/
def PR (g : GG) (av : List Value) (H : Heap) : Array Value → State → Prop := va_Pc av (fun U => U.heap = H ∧ Kn g NoA U)
def QRi (v : Int32) (H : Heap) : Array Value → State → Outcome → State → Prop := va_Qi (fun r (_ : Unit) => r = v) (fun _ t => t.heap = H) NoA
def QRl (v : Int64) (H : Heap) : Array Value → State → Outcome → State → Prop := va_Ql (fun r (_ : Unit) => r = v) (fun _ t => t.heap = H) NoA
/-- the start of a contract that changes a world -/
def PM (g : GG) (av : List Value) (w : va_W) (sz : Nat) : Array Value → State → Prop := va_Pc av (fun U => U.heap.size = sz ∧ va_P g.1 vwCl w U.heap ∧ va_D (fun _ => True) w ∧ Kn g (va_A w sz) U)
theorem PR_blind {g : GG} {av : List Value} {H : Heap} : FrameBlind (PR g av H) := fun _ _ _ _ q => ⟨q.1, q.2.1, q.2.2.calling⟩
theorem PM_blind {g : GG} {av : List Value} {w : va_W} {sz : Nat} : FrameBlind (PM g av w sz) := fun _ _ _ _ q => ⟨q.1, q.2.1, q.2.2.1, q.2.2.2.1, q.2.2.2.2.calling⟩
section RC
variable {p : Program} {l : Launch} {e : Env} {R : Room} {s : State} {m : MethodId} {args : Array Value} {below : List Frame} {meth : Method} {c : Code} {H : Heap} {locs : List Loc} {cells slots : Nat} {Q : State → Prop} {g : GG} {A : Nat → Prop}
variable {cc bytes : ByteArray} {nL maxL index n pc mc ms : Nat} {own C : String} {y : MethodName} {ret : Option FieldType} {ws : List Cond} {rm : Room} {As rest st0 : List Value} {ls : Array Slot} {a : Array Value} {b : Nat} {ws0 wc wr : va_W}
theorem PR_at (hk : Kn g A s) (hS : va_S A s.heap H locs) : ∀ U : State, U.heap = H → s.WarmedH U.vm → PR g As H As.toArray U := fun U hU hW => ⟨rfl, hU, hk.call hS (fun _ h => h.elim) hU hW⟩
theorem r_i {v : Int32} (hr : va_Run p l e R s m args below meth c H locs cells slots 0 0 (F0 m pc ls st0) rest (QRi v H a) NoA) (kk : W p l e R s m args below meth c H locs cells slots Q (F0 m (pc + 3) ls (.int v :: rest))) : W p l e R s m args below meth c H locs cells slots Q (F0 m pc ls st0) := by
  intro T hT X
  obtain ⟨v', st₀, t, T', L, h0, X', hL, e1, e2, ⟨⟨r, u, hv, hp, hb⟩, hz, hk⟩, st⟩ := hr T hT X
  cases hv
  have hp : r = v := hp
  have hb : t.heap = H := hb
  subst hp
  have hL0 : L = [] := by
    cases L with
    | nil => rfl
    | cons x L => exact (hL x List.mem_cons_self).elim
  subst hL0
  rw [List.append_nil] at X'
  obtain ⟨t2, a1, b1⟩ := kk T' (e1.trans hb) X'
  exact ⟨t2, st t2 a1, b1⟩
theorem r_l {v : Int64} (hr : va_Run p l e R s m args below meth c H locs cells slots 0 0 (F0 m pc ls st0) rest (QRl v H a) NoA) (kk : W p l e R s m args below meth c H locs cells slots Q (F0 m (pc + 3) ls (.long v :: rest))) : W p l e R s m args below meth c H locs cells slots Q (F0 m pc ls st0) := by
  intro T hT X
  obtain ⟨v', st₀, t, T', L, h0, X', hL, e1, e2, ⟨⟨r, u, hv, hp, hb⟩, hz, hk⟩, st⟩ := hr T hT X
  cases hv
  have hp : r = v := hp
  have hb : t.heap = H := hb
  subst hp
  have hL0 : L = [] := by
    cases L with
    | nil => rfl
    | cons x L => exact (hL x List.mem_cons_self).elim
  subst hL0
  rw [List.append_nil] at X'
  obtain ⟨t2, a1, b1⟩ := kk T' (e1.trans hb) X'
  exact ⟨t2, st t2 a1, b1⟩
/-- what a call by name needs of the tables -/
theorem gV (h1 : Cond.methodLink own index y ∈ wsL_law) (h2 : Cond.instanceMethod y ∈ wsL_law) (h3 : Cond.selects C y y ∈ wsL_law) (h4 : Cond.initialized C ∈ wsL_law) (h5 : Cond.code y bytes maxL ret ∈ wsL_law) : GoodIn wsL_law (wsV own index C y (Cond.code y bytes maxL ret :: wsL_law)) := by
  intro w hw
  have hm : w ∈ wsL_law := by
    unfold wsV at hw
    rcases List.mem_append.mp hw with hw | hw
    · simp only [List.mem_cons, List.not_mem_nil, or_false] at hw
      rcases hw with rfl | rfl | rfl | rfl <;> assumption
    · rcases List.mem_cons.mp hw with rfl | hw
      · exact h5
      · exact hw
  exact wsL_g w hm
theorem gS (h1 : Cond.methodLink own index y ∈ wsL_law) (h2 : Cond.static y ∈ wsL_law) (h4 : Cond.initialized y.cls ∈ wsL_law) (h5 : Cond.code y bytes maxL ret ∈ wsL_law) : GoodIn wsL_law (va_wsS own index y (Cond.code y bytes maxL ret :: wsL_law)) := by
  intro w hw
  have hm : w ∈ wsL_law := by
    unfold va_wsS at hw
    rcases List.mem_append.mp hw with hw | hw
    · simp only [List.mem_cons, List.not_mem_nil, or_false] at hw
      rcases hw with rfl | rfl | rfl <;> assumption
    · rcases List.mem_cons.mp hw with rfl | hw
      · exact h5
      · exact hw
  exact wsL_g w hm
theorem gC (h5 : Cond.code y bytes maxL ret ∈ wsL_law) : GoodIn wsL_law (Cond.code y bytes maxL ret :: wsL_law) := by
  intro w hw
  rcases List.mem_cons.mp hw with rfl | hw
  · exact wsL_g _ h5
  · exact wsL_g _ hw
end RC
