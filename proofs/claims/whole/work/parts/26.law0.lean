/-! Worlds with a tail, undo's relation, the law's state. -/
theorem nd_iff : ∀ l : List Nat, va_nd l = true ↔ l.Nodup
  | [] => by simp [va_nd]
  | a :: l => by simp [va_nd, nd_iff l]
theorem tl_nd {is : List Nat} {n k : Nat} (h : va_nd is = true) (hb : ∀ i ∈ is, i < n) : va_nd (is ++ (List.range k).map (· + n)) = true := by
  rw [nd_iff] at h ⊢
  rw [List.nodup_append]
  refine ⟨h, ?_, ?_⟩
  · unfold List.Nodup
    rw [List.pairwise_map]
    exact List.nodup_range.imp (fun hne q => hne (by omega))
  · intro i hi j hj e
    have h1 := hb i hi
    obtain ⟨q, -, rfl⟩ := List.mem_map.mp hj
    omega
theorem tl_lt {is : List Nat} {w0 w : va_W} (h : is.map (fun i => w0[i]?) = w.map some) : ∀ i ∈ is, i < w0.length := by
  intro i hi
  have h1 : w0[i]? ∈ is.map (fun i => w0[i]?) := List.mem_map.mpr ⟨i, hi, rfl⟩
  rw [h] at h1
  obtain ⟨q, -, e⟩ := List.mem_map.mp h1
  exact (List.getElem?_eq_some_iff.mp e.symm).1
theorem tl_map {is : List Nat} {w0 w : va_W} (K : va_W) (h : is.map (fun i => w0[i]?) = w.map some) : is.map (fun i => (w0 ++ K)[i]?) = w.map some := by
  rw [← h]
  exact List.map_congr_left fun i hi => List.getElem?_append_left (tl_lt h i hi)
theorem tl_all {is : List Nat} {w0 w : va_W} (K : va_W) (h : is.map (fun i => w0[i]?) = w.map some) : (is ++ (List.range K.length).map (· + w0.length)).map (fun i => (w0 ++ K)[i]?) = (w ++ K).map some := by
  rw [List.map_append, List.map_append, tl_map K h]
  congr 1
  apply List.ext_getElem?
  intro j
  simp only [List.getElem?_map]
  by_cases hj : j < K.length
  · rw [List.getElem?_range hj]
    simp only [Option.map_some]
    rw [List.getElem?_append_right (by omega), Nat.add_sub_cancel, List.getElem?_eq_getElem hj]
    rfl
  · rw [List.getElem?_eq_none (by simp; omega), List.getElem?_eq_none (by omega)]
    rfl
theorem tl_perm {A : Nat → Prop} {D : va_G} {cl : List vw_C} {a K c wn : va_W} {H : Heap} (hP : va_P D cl ((a ++ K) ++ c) H) (hD : va_D A ((a ++ K) ++ c)) (isP : List Nat) (hn : va_nd isP = true) (hs : isP.map (fun i => (a ++ c)[i]?) = wn.map some) : va_P D cl (wn ++ K) H ∧ va_D A (wn ++ K) := by
  have hP1 : va_P D cl ((a ++ c) ++ K) H := va_P.by hP _ (fun k q hk => va_swapG k q hk)
  have hD1 : va_D A ((a ++ c) ++ K) := va_D.by hD _ (fun k q hk => va_swapG k q hk) (fun i j hi hj h => by
    simp only [List.length_append] at hi hj
    split at h <;> split at h <;> (try split at h) <;> (try split at h) <;> omega)
  have h1 := tl_all K hs
  have h2 := tl_nd (k := K.length) hn (tl_lt hs)
  refine ⟨?_, hD1.sub _ h2 h1⟩
  refine va_P.by hP1 (fun k => ((isP ++ (List.range K.length).map (· + (a ++ c).length))[k]?).getD 0) (fun k q h => ?_)
  obtain ⟨i, e1, e2⟩ := va_in_of _ h1 h
  simp only [e1, Option.getD_some]; exact e2
section TailRules
variable {p : Program} {l : Launch} {e : Env} {R : Room} {s : State} {m : MethodId} {args : Array Value} {below : List Frame} {meth : Method} {c : Code} {H : Heap} {locs : List Loc} {cells slots : Nat} {Q : State → Prop} {g : GG} {A : Nat → Prop}
variable {cc bytes : ByteArray} {nL maxL index n pc mc ms : Nat} {own C : String} {y : MethodName} {ret : Option FieldType} {rm : Room} {As rest st0 : List Value} {ls : Array Slot} {b : Nat} {w0 K wc wr : va_W} {lv : List (Nat × Value)}
theorem cVMT_i {S : Type} {post : Int32 → S → Prop} {w' wn : S → va_W} {ci q0 N : Nat} {T : u_T} {fs : List Value} (hx : p.tables.exec = Jvm.exec) (hb : c.code = cc) (hml : c.maxLocals = nL) (hown : s.vm.findClass own = some m.cls) (hw : ∀ w ∈ wsL_law, w.before args s = true) (hkn : Kn g A s) (hS : va_S A s.heap H locs) (hl : lv_has ls nL lv) (hA : ∀ q : Nat, s.heap.size ≤ q → A q) (hP : va_P g.1 vwCl (w0 ++ K) H) (hD : va_D A (w0 ++ K)) (isC isR isP : List Nat) (hC : isC.map (fun i => w0[i]?) = wc.map some) (hRr : isR.map (fun i => w0[i]?) = wr.map some) (hn1 : va_nd isR = true) (hdis : ∀ i ∈ isR, i ∉ isC) (hnC : va_nd isC = true) (hnP : va_nd isP = true) (hPp : ∀ u, isP.map (fun i => (wr ++ w' u)[i]?) = (wn u).map some) (hM : Met l y (Cond.code y bytes maxL ret :: wsL_law) rm (PM g (.ref b :: As) wc H.size) (QAi g post w' (va_A wc H.size)) mc ms (va_A wc H.size)) (hF : VF y bytes maxL ret n C) (h1 : Cond.methodLink own index y ∈ wsL_law) (hc : vwCl[ci]? = some (C, T, N)) (he : wc[q0]? = some (b, .inr (ci, fs))) (hR : rm.frames + 1 ≤ R.frames ∧ 8 + (maxL + 11) + rm.locals ≤ R.locals) (hrc : rm.cells = mc) (hrs : rm.slots = ms) (hn : As.length = n) (hst : st0 = As.reverse ++ .ref b :: rest) (h8 : (rest.map fun v => v.category).sum ≤ 8) (hdg : decode cc pc = .ok (.invokevirtual index, 3)) (hcap : cells + mc ≤ R.cells ∧ slots + ms ≤ R.slots) (kk : ∀ (r : Int32) (u : S) (H1 : Heap) (locs1 : List Loc), post r u → va_P g.1 vwCl (wn u ++ K) H1 → va_D A (wn u ++ K) → va_S A s.heap H1 locs1 → W p l e R s m args below meth c H1 locs1 (cells + mc) (slots + ms) Q (F0 m (pc + 3) ls (.int r :: rest))) : W p l e R s m args below meth c H locs cells slots Q (F0 m pc ls st0) := by
  refine cVM_i (wc := wc) (wr := wr ++ K) (As := As) (rest := rest) (q0 := q0) hx hb hml hown hw hkn hS hl hA hP hD isC (isR ++ (List.range K.length).map (· + w0.length)) (tl_map K hC) (tl_all K hRr) (tl_nd hn1 (tl_lt hRr)) (fun i hi => ?_) hnC hM hF h1 hc he hR hrc hrs hn hst h8 hdg hcap (fun r u H1 locs1 hq hP1 hD1 hS1 => ?_)
  · rcases List.mem_append.mp hi with hi | hi
    · exact hdis i hi
    · obtain ⟨j, -, rfl⟩ := List.mem_map.mp hi
      intro q
      have := tl_lt hC _ q
      omega
  · obtain ⟨hP2, hD2⟩ := tl_perm hP1 hD1 isP hnP (hPp u)
    exact kk r u H1 locs1 hq hP2 hD2 hS1
theorem cVMT_l {S : Type} {post : Int64 → S → Prop} {w' wn : S → va_W} {ci q0 N : Nat} {T : u_T} {fs : List Value} (hx : p.tables.exec = Jvm.exec) (hb : c.code = cc) (hml : c.maxLocals = nL) (hown : s.vm.findClass own = some m.cls) (hw : ∀ w ∈ wsL_law, w.before args s = true) (hkn : Kn g A s) (hS : va_S A s.heap H locs) (hl : lv_has ls nL lv) (hA : ∀ q : Nat, s.heap.size ≤ q → A q) (hP : va_P g.1 vwCl (w0 ++ K) H) (hD : va_D A (w0 ++ K)) (isC isR isP : List Nat) (hC : isC.map (fun i => w0[i]?) = wc.map some) (hRr : isR.map (fun i => w0[i]?) = wr.map some) (hn1 : va_nd isR = true) (hdis : ∀ i ∈ isR, i ∉ isC) (hnC : va_nd isC = true) (hnP : va_nd isP = true) (hPp : ∀ u, isP.map (fun i => (wr ++ w' u)[i]?) = (wn u).map some) (hM : Met l y (Cond.code y bytes maxL ret :: wsL_law) rm (PM g (.ref b :: As) wc H.size) (QAl g post w' (va_A wc H.size)) mc ms (va_A wc H.size)) (hF : VF y bytes maxL ret n C) (h1 : Cond.methodLink own index y ∈ wsL_law) (hc : vwCl[ci]? = some (C, T, N)) (he : wc[q0]? = some (b, .inr (ci, fs))) (hR : rm.frames + 1 ≤ R.frames ∧ 8 + (maxL + 11) + rm.locals ≤ R.locals) (hrc : rm.cells = mc) (hrs : rm.slots = ms) (hn : As.length = n) (hst : st0 = As.reverse ++ .ref b :: rest) (h8 : (rest.map fun v => v.category).sum ≤ 8) (hdg : decode cc pc = .ok (.invokevirtual index, 3)) (hcap : cells + mc ≤ R.cells ∧ slots + ms ≤ R.slots) (kk : ∀ (r : Int64) (u : S) (H1 : Heap) (locs1 : List Loc), post r u → va_P g.1 vwCl (wn u ++ K) H1 → va_D A (wn u ++ K) → va_S A s.heap H1 locs1 → W p l e R s m args below meth c H1 locs1 (cells + mc) (slots + ms) Q (F0 m (pc + 3) ls (.long r :: rest))) : W p l e R s m args below meth c H locs cells slots Q (F0 m pc ls st0) := by
  refine cVM_l (wc := wc) (wr := wr ++ K) (As := As) (rest := rest) (q0 := q0) hx hb hml hown hw hkn hS hl hA hP hD isC (isR ++ (List.range K.length).map (· + w0.length)) (tl_map K hC) (tl_all K hRr) (tl_nd hn1 (tl_lt hRr)) (fun i hi => ?_) hnC hM hF h1 hc he hR hrc hrs hn hst h8 hdg hcap (fun r u H1 locs1 hq hP1 hD1 hS1 => ?_)
  · rcases List.mem_append.mp hi with hi | hi
    · exact hdis i hi
    · obtain ⟨j, -, rfl⟩ := List.mem_map.mp hi
      intro q
      have := tl_lt hC _ q
      omega
  · obtain ⟨hP2, hD2⟩ := tl_perm hP1 hD1 isP hnP (hPp u)
    exact kk r u H1 locs1 hq hP2 hD2 hS1
/-- script[i + k] -/
theorem arg_k {b L i k : Nat} {xs : Nat → Int32} {z : Int} {x1 x2 : Nat} (hx : p.tables.exec = Jvm.exec) (hb : c.code = cc) (hX : va_X b L xs s s.heap) (hbl : b < s.heap.size) (hbA : ¬ A b) (hS : va_S A s.heap H locs) (hi : i + 5 ≤ L) (hL : L ≤ 2560) (hl : lv_has ls 4 [(3, .int (nI i)), (2, .ref x2), (1, .ref x1), (0, .ref b)]) (hk : k < 5) (hz : Int32.ofInt z = nI k) (d0 : decode cc pc = .ok (.aload_n 0, 1)) (d1 : decode cc (pc + 1) = .ok (.iload_n 3, 1)) (d2 : decode cc (pc + 2) = .ok (.iconst z, 1)) (d3 : decode cc (pc + 3) = .ok (.iadd, 1)) (d4 : decode cc (pc + 4) = .ok (.iaload, 1)) (kk : W p l e R s m args below meth c H locs cells slots Q (F0 m (pc + 5) ls (.int (xs (i + k)) :: rest))) : W p l e R s m args below meth c H locs cells slots Q (F0 m pc ls rest) := by
  refine lv_aload_n hx hb d0 rfl (lv_at hl 3 rfl) ?_
  refine lv_iload_n hx hb d1 rfl (lv_at hl 0 rfl) ?_
  refine lv_iconst hx hb d2 hz ?_
  refine lv_iadd hx hb d3 ?_
  rw [nI_add]
  refine va_sld hx hb hX hbl hbA hS (vp_in_nI (n := i + k) (by omega) (by omega)) d4 ?_
  rw [nI_clamp (by omega)]
  exact kk
end TailRules
/-- the class's pictures, d steps back -/
def hisF (f : Nat → Int64) (fc : Nat → Int32) (fb : Nat → Int64) (an : Nat) : Nat → Nat → Int64
  | 0 => f
  | d + 1 => setS (hisF f fc fb an d) (fc (an - 1 - d)) (fb (an - 1 - d))
def undR (f : Nat → Int64) (fc : Nat → Int32) (fb : Nat → Int64) (an nx : Nat) (rw : Nat → Int64) : Prop := ∀ d, d < an → ∀ j, j < 3 → rw (3 * ((nx + 13 - d) % 14) + j) = hisF f fc fb an (d + 1) j
theorem set_back {f : Nat → Int64} {x : Int32} {v : Int64} (h : isPic x = true) : setS (setS f x v) x (picS f x) = f := by
  rw [set_i h, set_i h, pic_i h]
  funext j
  unfold vp_updL
  by_cases q : j = x.toNatClampNeg
  · rw [if_pos q, q]
  · rw [if_neg q, if_neg q]
theorem ac_top {an : Nat} (h : an ≤ 14) (fc : Nat → Int32) (fb : Nat → Int64) (x : Int32) (v : Int64) : acF an fc x (acN an - 1) = x ∧ acL an fb v (acN an - 1) = v := by
  unfold acF acL acN
  by_cases q : an < 14
  · rw [if_pos q, if_pos q, if_pos q]; exact ⟨if_pos (by omega), if_pos (by omega)⟩
  · rw [if_neg q, if_neg q, if_neg q]; exact ⟨if_pos (by omega), if_pos (by omega)⟩
theorem ac_low {an d : Nat} (h : an ≤ 14) (hd : d + 1 < acN an) (fc : Nat → Int32) (fb : Nat → Int64) (x : Int32) (v : Int64) : acF an fc x (acN an - 1 - (d + 1)) = fc (an - 1 - d) ∧ acL an fb v (acN an - 1 - (d + 1)) = fb (an - 1 - d) := by
  unfold acN at hd
  unfold acF acL acN
  by_cases q : an < 14
  · rw [if_pos q] at hd
    rw [if_pos q, if_pos q, if_pos q]
    unfold upd vp_updL
    rw [if_neg (by omega), if_neg (by omega), show an + 1 - 1 - (d + 1) = an - 1 - d by omega]
    exact ⟨rfl, rfl⟩
  · rw [if_neg q] at hd
    rw [if_neg q, if_neg q, if_neg q]
    constructor
    · show (if 14 - 1 - (d + 1) = 13 then x else if 14 - 1 - (d + 1) + 1 < 14 then fc (14 - 1 - (d + 1) + 1) else fc (14 - 1 - (d + 1))) = _
      rw [if_neg (by omega), if_pos (by omega)]; congr 1; omega
    · show (if 14 - 1 - (d + 1) = 13 then v else if 14 - 1 - (d + 1) + 1 < 14 then fb (14 - 1 - (d + 1) + 1) else fb (14 - 1 - (d + 1))) = _
      rw [if_neg (by omega), if_pos (by omega)]; congr 1; omega
theorem his_push {f : Nat → Int64} {fc : Nat → Int32} {fb : Nat → Int64} {an : Nat} (h : an ≤ 14) {x : Int32} {v : Int64} (hx : isPic x = true) : ∀ d, d < acN an → hisF (setS f x v) (acF an fc x) (acL an fb (picS f x)) (acN an) (d + 1) = hisF f fc fb an d
  | 0, _ => by
    show setS (setS f x v) (acF an fc x (acN an - 1 - 0)) (acL an fb (picS f x) (acN an - 1 - 0)) = f
    rw [Nat.sub_zero, (ac_top h fc fb x (picS f x)).1, (ac_top h fc fb x (picS f x)).2, set_back hx]
  | d + 1, hd => by
    show setS (hisF (setS f x v) (acF an fc x) (acL an fb (picS f x)) (acN an) (d + 1)) (acF an fc x (acN an - 1 - (d + 1))) (acL an fb (picS f x) (acN an - 1 - (d + 1))) = setS (hisF f fc fb an d) (fc (an - 1 - d)) (fb (an - 1 - d))
    rw [his_push h hx d (by omega), (ac_low h hd fc fb x (picS f x)).1, (ac_low h hd fc fb x (picS f x)).2]
theorem und_push {f nw rw : Nat → Int64} {fc : Nat → Int32} {fb : Nat → Int64} {an nx : Nat} (h : an ≤ 14) (hnx : nx < 14) (hag : ag3 f nw) {x : Int32} {v : Int64} (hx : isPic x = true) (hu : undR f fc fb an nx rw) : undR (setS f x v) (acF an fc x) (acL an fb (picS f x)) (acN an) ((nx + 1) % 14) (rkF nx nw rw) := by
  have hac : acN an ≤ 14 ∧ acN an ≤ an + 1 := by unfold acN; split <;> omega
  intro d hd j hj
  rw [his_push h hx d hd]
  cases d with
  | zero =>
    rw [show ((nx + 1) % 14 + 13 - 0) % 14 = nx by omega]
    show (if 3 * nx ≤ 3 * nx + j ∧ 3 * nx + j < 3 * nx + 3 then nw (3 * nx + j - 3 * nx) else rw (3 * nx + j)) = f j
    rw [if_pos ⟨by omega, by omega⟩, show 3 * nx + j - 3 * nx = j by omega]
    exact (hag j hj).symm
  | succ d =>
    rw [show ((nx + 1) % 14 + 13 - (d + 1)) % 14 = (nx + 13 - d) % 14 by omega]
    have hne : (nx + 13 - d) % 14 ≠ nx := by omega
    show (if 3 * nx ≤ 3 * ((nx + 13 - d) % 14) + j ∧ 3 * ((nx + 13 - d) % 14) + j < 3 * nx + 3 then _ else rw (3 * ((nx + 13 - d) % 14) + j)) = _
    rw [if_neg (by omega)]
    exact hu d (by omega) j hj
theorem his_pop {f : Nat → Int64} {fc : Nat → Int32} {fb : Nat → Int64} {an : Nat} : ∀ d, hisF (setS f (fc (an - 1)) (fb (an - 1))) fc fb (an - 1) d = hisF f fc fb an (d + 1)
  | 0 => rfl
  | d + 1 => by
    show setS (hisF _ fc fb (an - 1) d) (fc (an - 1 - 1 - d)) (fb (an - 1 - 1 - d)) = setS (hisF f fc fb an (d + 1)) (fc (an - 1 - (d + 1))) (fb (an - 1 - (d + 1)))
    rw [his_pop d, show an - 1 - 1 - d = an - 1 - (d + 1) by omega]
theorem und_pop {f nw rw : Nat → Int64} {fc : Nat → Int32} {fb : Nat → Int64} {an nx : Nat} (h : an ≤ 14) (h0 : 0 < an) (hnx : nx < 14) (hu : undR f fc fb an nx rw) : ag3 (setS f (fc (an - 1)) (fb (an - 1))) (unF nx nw rw) ∧ undR (setS f (fc (an - 1)) (fb (an - 1))) fc fb (an - 1) ((nx + 13) % 14) rw := by
  constructor
  · intro j hj
    have h1 := hu 0 h0 j hj
    rw [Nat.sub_zero] at h1
    show _ = if j < 3 then rw (3 * ((nx + 13) % 14) + j) else nw j
    rw [if_pos hj, h1]
    rfl
  · intro d hd j hj
    rw [his_pop (d + 1), show ((nx + 13) % 14 + 13 - d) % 14 = (nx + 13 - (d + 1)) % 14 by omega]
    exact hu (d + 1) (by omega) j hj
