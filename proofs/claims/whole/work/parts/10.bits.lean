/-! Bits of longs. -/
def bt (x : Int64) (k : Nat) : Bool := x.toBitVec.getLsbD k
theorem bt_ext {x y : Int64} (h : ∀ k, k < 64 → bt x k = bt y k) : x = y := Int64.toBitVec_inj.mp (BitVec.eq_of_getLsbD_eq (fun i hi => h i hi))
theorem bt_big {x : Int64} {k : Nat} (h : 64 ≤ k) : bt x k = false := BitVec.getLsbD_of_ge _ _ h
theorem bt_and (x y : Int64) (k : Nat) : bt (x &&& y) k = (bt x k && bt y k) := by simp [bt]
theorem bt_or (x y : Int64) (k : Nat) : bt (x ||| y) k = (bt x k || bt y k) := by simp [bt]
theorem bt_xor (x y : Int64) (k : Nat) : bt (x ^^^ y) k = (bt x k ^^ bt y k) := by simp [bt]
theorem bt_0 (k : Nat) : bt 0 k = false := by simp [bt]
theorem bt_m1 {k : Nat} (h : k < 64) : bt (-1) k = true := by
  have : ∀ j : Fin 64, bt (-1) j.val = true := by decide +kernel
  exact this ⟨k, h⟩
theorem bt_not (x : Int64) {k : Nat} (h : k < 64) : bt (x ^^^ (-1)) k = !bt x k := by rw [bt_xor, bt_m1 h]; cases bt x k <;> rfl
theorem su_k {k : Nat} (h : k < 64) : (((nI k).toInt64.toUInt64 &&& Int64.toUInt64 63).toBitVec % 64).toNat = k := by
  have : ∀ j : Fin 64, (((nI j.val).toInt64.toUInt64 &&& Int64.toUInt64 63).toBitVec % 64).toNat = j.val := by decide +kernel
  exact this ⟨k, h⟩
theorem ss_k {k : Nat} (h : k < 64) : (((nI k).toInt64 &&& 63).toBitVec.smod 64).toNat = k := by
  have : ∀ j : Fin 64, (((nI j.val).toInt64 &&& 63).toBitVec.smod 64).toNat = j.val := by decide +kernel
  exact this ⟨k, h⟩
theorem bt_ushr (x : Int64) {k : Nat} (h : k < 64) (j : Nat) : bt (jushr x k) j = bt x (k + j) := by
  show ((x.toUInt64 >>> ((nI k).toInt64.toUInt64 &&& Int64.toUInt64 63)).toInt64).toBitVec.getLsbD j = _
  rw [show ((x.toUInt64 >>> ((nI k).toInt64.toUInt64 &&& Int64.toUInt64 63)).toInt64).toBitVec = x.toBitVec >>> (((nI k).toInt64.toUInt64 &&& Int64.toUInt64 63).toBitVec % 64) from rfl, BitVec.ushiftRight_eq', su_k h, BitVec.getLsbD_ushiftRight]
  rfl
theorem bt_shl (x : Int64) {k : Nat} (h : k < 64) {j : Nat} (hj : j < 64) : bt (jshl x k) j = (decide (k ≤ j) && bt x (j - k)) := by
  show (x <<< ((nI k).toInt64 &&& 63)).toBitVec.getLsbD j = _
  rw [show (x <<< ((nI k).toInt64 &&& 63)).toBitVec = x.toBitVec <<< (((nI k).toInt64 &&& 63).toBitVec.smod 64) from rfl, BitVec.shiftLeft_eq', ss_k h, BitVec.getLsbD_shiftLeft]
  simp only [hj, decide_true, Bool.true_and, bt]
  by_cases q : j < k
  · simp [q, Nat.not_le.mpr q]
  · simp [q, Nat.le_of_not_lt q]
def sh (k : Nat) : Int64 := jshl 1 k
theorem bt_1 (k : Nat) : bt 1 k = decide (k = 0) := by
  by_cases h : k < 64
  · have : ∀ j : Fin 64, bt 1 j.val = decide (j.val = 0) := by decide +kernel
    exact this ⟨k, h⟩
  · rw [bt_big (by omega)]; exact (decide_eq_false (by omega)).symm
theorem bt_sh {k j : Nat} (h : k < 64) (hj : j < 64) : bt (sh k) j = decide (j = k) := by
  unfold sh
  rw [bt_shl 1 h hj, bt_1]
  by_cases q : j = k
  · subst q; simp
  · by_cases r : k ≤ j
    · simp [q, r]; omega
    · simp [q, r]
theorem bit1 (x : Int64) {k : Nat} (h : k < 64) : jushr x k &&& 1 = if bt x k then 1 else 0 := by
  apply bt_ext
  intro j hj
  rw [bt_and, bt_ushr x h, bt_1]
  by_cases q : j = 0
  · subst q
    cases hx : bt x k
    · simp [hx, bt_0]
    · simp [hx, bt_1]
  · simp only [q, decide_false, Bool.and_false]
    cases bt x k
    · simp [bt_0]
    · simp [bt_1, q]
theorem bit1_iff (x : Int64) {k : Nat} (h : k < 64) : (jushr x k &&& 1 = 1) ↔ bt x k = true := by
  rw [bit1 x h]; cases bt x k <;> simp
