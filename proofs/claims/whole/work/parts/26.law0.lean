/-! Worlds with a tail, undo's relation, the law's state. -/
theorem nd_iff : ∀ l : List Nat, va_nd l = true ↔ l.Nodup
  | [] => by simp [va_nd]
  | a :: l => by simp [va_nd, nd_iff l]
theorem tl_nd {is : List Nat} {n k : Nat} (h : va_nd is = true) (hb : ∀ i ∈ is, i < n) : va_nd (is ++ (List.range k).map (· + n)) = true := by
  rw [nd_iff] at h ⊢
  rw [List.nodup_append]
  refine ⟨h, ?_, ?_⟩
  · unfold List.Nodup
    rw [List.pairwise_map]
    exact List.nodup_range.imp (fun hne q => hne (by omega))
  · intro i hi j hj e
    have h1 := hb i hi
    obtain ⟨q, -, rfl⟩ := List.mem_map.mp hj
    omega
theorem tl_lt {is : List Nat} {w0 w : va_W} (h : is.map (fun i => w0[i]?) = w.map some) : ∀ i ∈ is, i < w0.length := by
  intro i hi
  have h1 : w0[i]? ∈ is.map (fun i => w0[i]?) := List.mem_map.mpr ⟨i, hi, rfl⟩
  rw [h] at h1
  obtain ⟨q, -, e⟩ := List.mem_map.mp h1
  exact (List.getElem?_eq_some_iff.mp e.symm).1
theorem tl_map {is : List Nat} {w0 w : va_W} (K : va_W) (h : is.map (fun i => w0[i]?) = w.map some) : is.map (fun i => (w0 ++ K)[i]?) = w.map some := by
  rw [← h]
  exact List.map_congr_left fun i hi => List.getElem?_append_left (tl_lt h i hi)
theorem tl_all {is : List Nat} {w0 w : va_W} (K : va_W) (h : is.map (fun i => w0[i]?) = w.map some) : (is ++ (List.range K.length).map (· + w0.length)).map (fun i => (w0 ++ K)[i]?) = (w ++ K).map some := by
  rw [List.map_append, List.map_append, tl_map K h]
  congr 1
  apply List.ext_getElem?
  intro j
  simp only [List.getElem?_map]
  by_cases hj : j < K.length
  · rw [List.getElem?_range hj]
    simp only [Option.map_some]
    rw [List.getElem?_append_right (by omega), Nat.add_sub_cancel, List.getElem?_eq_getElem hj]
    rfl
  · rw [List.getElem?_eq_none (by simp; omega), List.getElem?_eq_none (by omega)]
    rfl
theorem tl_perm {A : Nat → Prop} {D : va_G} {cl : List vw_C} {a K c wn : va_W} {H : Heap} (hP : va_P D cl ((a ++ K) ++ c) H) (hD : va_D A ((a ++ K) ++ c)) (isP : List Nat) (hn : va_nd isP = true) (hs : isP.map (fun i => (a ++ c)[i]?) = wn.map some) : va_P D cl (wn ++ K) H ∧ va_D A (wn ++ K) := by
  have hP1 : va_P D cl ((a ++ c) ++ K) H := va_P.by hP _ (fun k q hk => va_swapG k q hk)
  have hD1 : va_D A ((a ++ c) ++ K) := va_D.by hD _ (fun k q hk => va_swapG k q hk) (fun i j hi hj h => by
    simp only [List.length_append] at hi hj
    split at h <;> split at h <;> (try split at h) <;> (try split at h) <;> omega)
  have h1 := tl_all K hs
  have h2 := tl_nd (k := K.length) hn (tl_lt hs)
  refine ⟨?_, hD1.sub _ h2 h1⟩
  refine va_P.by hP1 (fun k => ((isP ++ (List.range K.length).map (· + (a ++ c).length))[k]?).getD 0) (fun k q h => ?_)
  obtain ⟨i, e1, e2⟩ := va_in_of _ h1 h
  simp only [e1, Option.getD_some]; exact e2
