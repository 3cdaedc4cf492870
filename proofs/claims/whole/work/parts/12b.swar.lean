/-! Long.bitCount counts the bits: byte by byte. -/
def Nu (v : Int64) : Nat := v.toBitVec.toNat
theorem Nu_lt (v : Int64) : Nu v < 18446744073709551616 := v.toBitVec.isLt
theorem Nu_and (a b : Int64) : Nu (a &&& b) = Nu a &&& Nu b := by show (a &&& b).toBitVec.toNat = _; rw [Int64.toBitVec_and, BitVec.toNat_and]; rfl
theorem Nu_add {a b : Int64} (h : Nu a + Nu b < 18446744073709551616) : Nu (a + b) = Nu a + Nu b := by
  show (a + b).toBitVec.toNat = _
  rw [Int64.toBitVec_add, BitVec.toNat_add]
  exact Nat.mod_eq_of_lt h
theorem Nu_sub {a b : Int64} (h : Nu b ≤ Nu a) : Nu (a - b) = Nu a - Nu b := by
  show (a - b).toBitVec.toNat = _
  rw [Int64.toBitVec_sub, BitVec.toNat_sub_of_le h]
  rfl
theorem Nu_shr (a : Int64) {k : Nat} (h : k < 64) : Nu (jushr a k) = Nu a / 2 ^ k := by
  show (a.toBitVec >>> (((nI k).toInt64.toUInt64 &&& Int64.toUInt64 63).toBitVec % 64)).toNat = _
  rw [BitVec.ushiftRight_eq', su_k h, BitVec.toNat_ushiftRight, Nat.shiftRight_eq_div_pow]
  rfl
def mk8 (c : Nat) : Nat → Nat
  | 0 => 0
  | n + 1 => c + 256 * mk8 c n
theorem and_sp {a b r s : Nat} (ha : a < 256) (hb : b < 256) : (a + 256 * r) &&& (b + 256 * s) = (a &&& b) + 256 * (r &&& s) := by
  have hab : a &&& b < 2 ^ 8 := Nat.and_lt_two_pow a hb
  apply Nat.eq_of_testBit_eq
  intro i
  rw [Nat.testBit_and, show a + 256 * r = 2 ^ 8 * r + a by omega, show b + 256 * s = 2 ^ 8 * s + b by omega, show (a &&& b) + 256 * (r &&& s) = 2 ^ 8 * (r &&& s) + (a &&& b) by omega]
  rw [Nat.testBit_two_pow_mul_add _ (show a < 2 ^ 8 from ha), Nat.testBit_two_pow_mul_add _ (show b < 2 ^ 8 from hb), Nat.testBit_two_pow_mul_add _ hab]
  by_cases h : i < 8
  · simp [h, Nat.testBit_and]
  · simp [h, Nat.testBit_and]
def f1_ (n x : Nat) : Nat := x - (x / 2 &&& mk8 85 n)
def f2_ (n x : Nat) : Nat := (x &&& mk8 51 n) + (x / 4 &&& mk8 51 n)
def f3_ (n x : Nat) : Nat := (x + x / 16) &&& mk8 15 n
theorem f1_st {n a r : Nat} (ha : a < 256) : f1_ (n + 1) (a + 256 * r) = (a - (a / 2 &&& 85)) + 256 * f1_ n r := by
  unfold f1_
  have h1 : (a / 2 + 128 * (r % 2)) &&& 85 = a / 2 &&& 85 := by
    have : ∀ (i : Fin 256) (t : Fin 2), (i.val / 2 + 128 * t.val) &&& 85 = i.val / 2 &&& 85 := by decide +kernel
    exact this ⟨a, ha⟩ ⟨r % 2, by omega⟩
  rw [show (a + 256 * r) / 2 = (a / 2 + 128 * (r % 2)) + 256 * (r / 2) by omega, show mk8 85 (n + 1) = 85 + 256 * mk8 85 n from rfl, and_sp (by omega) (by decide), h1]
  have h2 : a / 2 &&& 85 ≤ a / 2 := Nat.and_le_left
  have h3 : r / 2 &&& mk8 85 n ≤ r / 2 := Nat.and_le_left
  omega
theorem f2_st {n a r : Nat} (ha : a < 256) : f2_ (n + 1) (a + 256 * r) = ((a &&& 51) + (a / 4 &&& 51)) + 256 * f2_ n r := by
  unfold f2_
  have h1 : (a / 4 + 64 * (r % 4)) &&& 51 = a / 4 &&& 51 := by
    have : ∀ (i : Fin 256) (t : Fin 4), (i.val / 4 + 64 * t.val) &&& 51 = i.val / 4 &&& 51 := by decide +kernel
    exact this ⟨a, ha⟩ ⟨r % 4, by omega⟩
  rw [show (a + 256 * r) / 4 = (a / 4 + 64 * (r % 4)) + 256 * (r / 4) by omega, show mk8 51 (n + 1) = 51 + 256 * mk8 51 n from rfl, and_sp ha (by decide), and_sp (by omega) (by decide), h1]
  omega
theorem f3_st {n a r : Nat} (ha : a ≤ 68) (hr : r % 16 ≤ 4) : f3_ (n + 1) (a + 256 * r) = ((a + a / 16) &&& 15) + 256 * f3_ n r := by
  unfold f3_
  have h1 : (a + a / 16 + 16 * (r % 16)) &&& 15 = (a + a / 16) &&& 15 := by
    have : ∀ (i : Fin 69) (t : Fin 5), (i.val + i.val / 16 + 16 * t.val) &&& 15 = (i.val + i.val / 16) &&& 15 := by decide +kernel
    exact this ⟨a, by omega⟩ ⟨r % 16, by omega⟩
  rw [show (a + 256 * r) + (a + 256 * r) / 16 = (a + a / 16 + 16 * (r % 16)) + 256 * (r + r / 16) by omega, show mk8 15 (n + 1) = 15 + 256 * mk8 15 n from rfl, and_sp (by omega) (by decide), h1]
def pop8 (b : Nat) : Nat := fb_ct (fun j => b.testBit j) 8
def cntB : Nat → Nat → Nat
  | 0, _ => 0
  | n + 1, x => pop8 (x % 256) + 256 * cntB n (x / 256)
theorem swar : ∀ n x, x < 256 ^ n → f3_ n (f2_ n (f1_ n x)) = cntB n x ∧ f2_ n (f1_ n x) % 16 ≤ 4 := by
  intro n
  induction n with
  | zero =>
    intro x hx
    have : x = 0 := by simpa using hx
    subst this
    exact ⟨rfl, by decide⟩
  | succ n ih =>
    intro x hx
    have hx2 : x / 256 < 256 ^ n := Nat.div_lt_of_lt_mul (by rw [Nat.pow_succ, Nat.mul_comm] at hx; exact hx)
    obtain ⟨h1, h2⟩ := ih (x / 256) hx2
    have hb : x % 256 < 256 := Nat.mod_lt _ (by decide)
    have hfin : ∀ i : Fin 256, i.val - (i.val / 2 &&& 85) < 256 ∧ ((i.val - (i.val / 2 &&& 85)) &&& 51) + ((i.val - (i.val / 2 &&& 85)) / 4 &&& 51) ≤ 68 ∧ (((i.val - (i.val / 2 &&& 85)) &&& 51) + ((i.val - (i.val / 2 &&& 85)) / 4 &&& 51)) % 16 ≤ 4 ∧ ((((i.val - (i.val / 2 &&& 85)) &&& 51) + ((i.val - (i.val / 2 &&& 85)) / 4 &&& 51)) + (((i.val - (i.val / 2 &&& 85)) &&& 51) + ((i.val - (i.val / 2 &&& 85)) / 4 &&& 51)) / 16) &&& 15 = pop8 i.val := by decide +kernel
    obtain ⟨k1, k2, k3, k4⟩ := hfin ⟨x % 256, hb⟩
    have hx3 : x = x % 256 + 256 * (x / 256) := by omega
    have e1 : f1_ (n + 1) x = (x % 256 - (x % 256 / 2 &&& 85)) + 256 * f1_ n (x / 256) := by
      conv => lhs; rw [hx3]
      exact f1_st hb
    rw [e1, f2_st k1]
    refine ⟨?_, ?_⟩
    · rw [f3_st k2 h2, h1, k4]; rfl
    · exact (show ∀ X Y : Nat, X % 16 ≤ 4 → (X + 256 * Y) % 16 ≤ 4 from fun X Y h => by omega) _ _ k3
theorem b3_nat (v : Int64) : Nu (b3_ (b2_ (b1_ v))) = cntB 8 (Nu v) := by
  have hc1 : Nu 6148914691236517205 = mk8 85 8 := by decide +kernel
  have hc2 : Nu 3689348814741910323 = mk8 51 8 := by decide +kernel
  have hc3 : Nu 1085102592571150095 = mk8 15 8 := by decide +kernel
  have hm : mk8 51 8 = 3689348814741910323 := by decide +kernel
  have e1 : Nu (b1_ v) = f1_ 8 (Nu v) := by
    unfold b1_ f1_
    have h1 : Nu (jushr v 1 &&& 6148914691236517205) = Nu v / 2 &&& mk8 85 8 := by rw [Nu_and, Nu_shr v (by decide), hc1]
    have h2 : Nu v / 2 &&& mk8 85 8 ≤ Nu v / 2 := Nat.and_le_left
    rw [Nu_sub (by rw [h1]; omega), h1]
  have e2 : Nu (b2_ (b1_ v)) = f2_ 8 (f1_ 8 (Nu v)) := by
    unfold b2_ f2_
    have h1 : Nu (b1_ v &&& 3689348814741910323) = f1_ 8 (Nu v) &&& mk8 51 8 := by rw [Nu_and, hc2, e1]
    have h2 : Nu (jushr (b1_ v) 2 &&& 3689348814741910323) = f1_ 8 (Nu v) / 4 &&& mk8 51 8 := by rw [Nu_and, Nu_shr _ (by decide), hc2, e1]
    have h3 : f1_ 8 (Nu v) &&& mk8 51 8 ≤ mk8 51 8 := Nat.and_le_right
    have h4 : f1_ 8 (Nu v) / 4 &&& mk8 51 8 ≤ mk8 51 8 := Nat.and_le_right
    rw [Nu_add (by rw [h1, h2]; omega), h1, h2]
  have hb : f2_ 8 (f1_ 8 (Nu v)) ≤ 2 * 3689348814741910323 := by
    have h3 : f1_ 8 (Nu v) &&& mk8 51 8 ≤ mk8 51 8 := Nat.and_le_right
    have h4 : f1_ 8 (Nu v) / 4 &&& mk8 51 8 ≤ mk8 51 8 := Nat.and_le_right
    unfold f2_; omega
  have e3 : Nu (b3_ (b2_ (b1_ v))) = f3_ 8 (f2_ 8 (f1_ 8 (Nu v))) := by
    unfold b3_ f3_
    rw [Nu_and, hc3, Nu_add (by rw [Nu_shr _ (by decide), e2]; omega), Nu_shr _ (by decide), e2]
  rw [e3]
  exact (swar 8 (Nu v) (Nat.lt_of_lt_of_le (Nu_lt v) (by decide))).1
theorem pop8_le (b : Nat) : pop8 b ≤ 8 := fb_ct_le _ _
theorem and127 (x : Int64) : x.toInt32 &&& 127 = nI (Nu x % 128) := by
  rw [pk_and x.toInt32 (m := 127) 7 (by decide)]
  congr 1
  have h : x.toInt32.toBitVec.toNat = Nu x % 2 ^ 32 := by
    show (x.toBitVec.signExtend 32).toNat = _
    rw [show x.toBitVec.signExtend 32 = x.toBitVec.setWidth 32 from BitVec.signExtend_eq_setWidth_of_le _ (by decide), BitVec.toNat_setWidth]
    rfl
  rw [h]
  omega
theorem dv1 {a r : Nat} (ha : a < 256) : (a + 256 * r) / 256 = r := by omega
theorem dv2 {a b r : Nat} (ha : a < 256) (hb : b < 256) : (a + 256 * (b + 256 * r)) / 65536 = r := by omega
theorem dv4 {a b c d r : Nat} (ha : a < 256) (hb : b < 256) (hc : c < 256) (hd : d < 256) : (a + 256 * (b + 256 * (c + 256 * (d + 256 * r)))) / 4294967296 = r := by
  rw [show 4294967296 = 65536 * 65536 from rfl, ← Nat.div_div_eq_div_mul, dv2 ha hb, dv2 hc hd]
theorem ad2 (a b x y : Nat) : (a + 256 * x) + (b + 256 * y) = (a + b) + 256 * (x + y) := by omega
theorem bn2 {a r m : Nat} (ha : a ≤ 64) (hr : r ≤ m) : a + 256 * r ≤ 64 + 256 * m := by omega
theorem bn8 {a0 a1 a2 a3 a4 a5 a6 a7 : Nat} (h0 : a0 ≤ 64) (h1 : a1 ≤ 64) (h2 : a2 ≤ 64) (h3 : a3 ≤ 64) (h4 : a4 ≤ 64) (h5 : a5 ≤ 64) (h6 : a6 ≤ 64) (h7 : a7 ≤ 64) : a0 + 256 * (a1 + 256 * (a2 + 256 * (a3 + 256 * (a4 + 256 * (a5 + 256 * (a6 + 256 * a7)))))) < 18446744073709551616 :=
  Nat.lt_of_le_of_lt (bn2 h0 (bn2 h1 (bn2 h2 (bn2 h3 (bn2 h4 (bn2 h5 (bn2 h6 h7))))))) (by decide)
theorem md1 {a r : Nat} (ha : a < 128) : (a + 256 * r) % 128 = a := by omega
theorem fin_sum {y : Int64} {e0 e1 e2 e3 e4 e5 e6 e7 : Nat} (h : Nu y = e0 + 256 * (e1 + 256 * (e2 + 256 * (e3 + 256 * (e4 + 256 * (e5 + 256 * (e6 + 256 * e7))))))) (p0 : e0 ≤ 8) (p1 : e1 ≤ 8) (p2 : e2 ≤ 8) (p3 : e3 ≤ 8) (p4 : e4 ≤ 8) (p5 : e5 ≤ 8) (p6 : e6 ≤ 8) (p7 : e7 ≤ 8) : (b6_ (b5_ (b4_ y))).toInt32 &&& 127 = nI (e0 + e1 + e2 + e3 + e4 + e5 + e6 + e7) := by
  have q3 : Nu (jushr y 8) = e1 + 256 * (e2 + 256 * (e3 + 256 * (e4 + 256 * (e5 + 256 * (e6 + 256 * (e7 + 256 * 0)))))) := by rw [Nu_shr y (by decide), h]; exact dv1 (by omega)
  have s3 : Nu y + Nu (jushr y 8) = (e0 + e1) + 256 * ((e1 + e2) + 256 * ((e2 + e3) + 256 * ((e3 + e4) + 256 * ((e4 + e5) + 256 * ((e5 + e6) + 256 * ((e6 + e7) + 256 * e7)))))) := by
    rw [q3, h, ad2, ad2, ad2, ad2, ad2, ad2, ad2, Nat.add_zero]
  have g4 : Nu (b4_ y) = (e0 + e1) + 256 * ((e1 + e2) + 256 * ((e2 + e3) + 256 * ((e3 + e4) + 256 * ((e4 + e5) + 256 * ((e5 + e6) + 256 * ((e6 + e7) + 256 * e7)))))) := by
    unfold b4_
    rw [Nu_add (by rw [s3]; exact bn8 (by omega) (by omega) (by omega) (by omega) (by omega) (by omega) (by omega) (by omega)), s3]
  have q4 : Nu (jushr (b4_ y) 16) = (e2 + e3) + 256 * ((e3 + e4) + 256 * ((e4 + e5) + 256 * ((e5 + e6) + 256 * ((e6 + e7) + 256 * (e7 + 256 * (0 + 256 * 0)))))) := by rw [Nu_shr _ (by decide), g4]; exact dv2 (by omega) (by omega)
  have s4 : Nu (b4_ y) + Nu (jushr (b4_ y) 16) = ((e0 + e1) + (e2 + e3)) + 256 * (((e1 + e2) + (e3 + e4)) + 256 * (((e2 + e3) + (e4 + e5)) + 256 * (((e3 + e4) + (e5 + e6)) + 256 * (((e4 + e5) + (e6 + e7)) + 256 * (((e5 + e6) + e7) + 256 * (((e6 + e7) + 0) + 256 * (e7 + 0))))))) := by
    rw [q4, g4, ad2, ad2, ad2, ad2, ad2, ad2, ad2]
  have g5 : Nu (b5_ (b4_ y)) = ((e0 + e1) + (e2 + e3)) + 256 * (((e1 + e2) + (e3 + e4)) + 256 * (((e2 + e3) + (e4 + e5)) + 256 * (((e3 + e4) + (e5 + e6)) + 256 * (((e4 + e5) + (e6 + e7)) + 256 * (((e5 + e6) + e7) + 256 * (((e6 + e7) + 0) + 256 * (e7 + 0))))))) := by
    unfold b5_
    rw [Nu_add (by rw [s4]; exact bn8 (by omega) (by omega) (by omega) (by omega) (by omega) (by omega) (by omega) (by omega)), s4]
  have q5 : Nu (jushr (b5_ (b4_ y)) 32) = ((e4 + e5) + (e6 + e7)) + 256 * (((e5 + e6) + e7) + 256 * (((e6 + e7) + 0) + 256 * ((e7 + 0) + 256 * (0 + 256 * (0 + 256 * (0 + 256 * 0)))))) := by rw [Nu_shr _ (by decide), g5]; exact dv4 (by omega) (by omega) (by omega) (by omega)
  have s5 : Nu (b5_ (b4_ y)) + Nu (jushr (b5_ (b4_ y)) 32) = (((e0 + e1) + (e2 + e3)) + ((e4 + e5) + (e6 + e7))) + 256 * ((((e1 + e2) + (e3 + e4)) + ((e5 + e6) + e7)) + 256 * ((((e2 + e3) + (e4 + e5)) + ((e6 + e7) + 0)) + 256 * ((((e3 + e4) + (e5 + e6)) + (e7 + 0)) + 256 * ((((e4 + e5) + (e6 + e7)) + 0) + 256 * ((((e5 + e6) + e7) + 0) + 256 * ((((e6 + e7) + 0) + 0) + 256 * ((e7 + 0) + 0))))))) := by
    rw [q5, g5, ad2, ad2, ad2, ad2, ad2, ad2, ad2]
  have g6 : Nu (b6_ (b5_ (b4_ y))) % 128 = e0 + e1 + e2 + e3 + e4 + e5 + e6 + e7 := by
    unfold b6_
    rw [Nu_add (by rw [s5]; exact bn8 (by omega) (by omega) (by omega) (by omega) (by omega) (by omega) (by omega) (by omega)), s5, md1 (by omega)]
    omega
  rw [and127, g6]
theorem byte_ct (v : Int64) {i p : Nat} (hp : p = 2 ^ (8 * i)) : fb_ct (fun j => bt v (8 * i + j)) 8 = pop8 (Nu v / p % 256) := by
  subst hp
  apply fb_ct_cong
  intro j hj
  show v.toBitVec.getLsbD (8 * i + j) = _
  rw [show (256 : Nat) = 2 ^ 8 from rfl, Nat.testBit_mod_two_pow, Nat.testBit_div_two_pow]
  simp only [hj, decide_true, Bool.true_and]
  rw [Nat.add_comm]
  rfl
theorem pcn8 (v : Int64) : fb_ct (bt v) 64 = pop8 (Nu v % 256) + pop8 (Nu v / 256 % 256) + pop8 (Nu v / 65536 % 256) + pop8 (Nu v / 16777216 % 256) + pop8 (Nu v / 4294967296 % 256) + pop8 (Nu v / 1099511627776 % 256) + pop8 (Nu v / 281474976710656 % 256) + pop8 (Nu v / 72057594037927936 % 256) := by
  have b0 := byte_ct v (i := 0) (p := 1) (by decide)
  have b1 := byte_ct v (i := 1) (p := 256) (by decide)
  have b2 := byte_ct v (i := 2) (p := 65536) (by decide)
  have b3 := byte_ct v (i := 3) (p := 16777216) (by decide)
  have b4 := byte_ct v (i := 4) (p := 4294967296) (by decide)
  have b5 := byte_ct v (i := 5) (p := 1099511627776) (by decide)
  have b6 := byte_ct v (i := 6) (p := 281474976710656) (by decide)
  have b7 := byte_ct v (i := 7) (p := 72057594037927936) (by decide)
  rw [← b1, ← b2, ← b3, ← b4, ← b5, ← b6, ← b7, ← Nat.div_one (Nu v), ← b0]
  rw [show (64 : Nat) = 8 + (8 + (8 + (8 + (8 + (8 + (8 + 8)))))) from rfl, fb_ct_split, fb_ct_split, fb_ct_split, fb_ct_split, fb_ct_split, fb_ct_split, fb_ct_split]
  simp only [Nat.mul_zero, Nat.zero_add, ← Nat.add_assoc]
theorem bcN_eq (v : Int64) : bcS v = nI (fb_ct (bt v) 64) := by
  have h := b3_nat v
  have hx : cntB 8 (Nu v) = pop8 (Nu v % 256) + 256 * (pop8 (Nu v / 256 % 256) + 256 * (pop8 (Nu v / 65536 % 256) + 256 * (pop8 (Nu v / 16777216 % 256) + 256 * (pop8 (Nu v / 4294967296 % 256) + 256 * (pop8 (Nu v / 1099511627776 % 256) + 256 * (pop8 (Nu v / 281474976710656 % 256) + 256 * pop8 (Nu v / 72057594037927936 % 256))))))) := by
    simp only [cntB, Nat.div_div_eq_div_mul]
    rfl
  rw [hx] at h
  unfold bcS
  rw [fin_sum h (pop8_le _) (pop8_le _) (pop8_le _) (pop8_le _) (pop8_le _) (pop8_le _) (pop8_le _) (pop8_le _), pcn8]
