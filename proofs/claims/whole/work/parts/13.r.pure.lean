/-! COUNTING BITS -/
def tn (x : Int32) : Nat := x.toBitVec.toNat
theorem tn_nI {n : Nat} (h : n < 2 ^ 32) : tn (nI n) = n := pk_tn h
theorem nI_tn {x : Int32} {k : Nat} (h : bnd x k) (hk : k ≤ 31) : x = nI (tn x) := by
  obtain ⟨j, hj, rfl⟩ := bnd_nI h hk
  have : 2 ^ k ≤ 2 ^ 31 := Nat.pow_le_pow_right (by omega) hk
  rw [tn_nI (by omega)]
theorem hb_tn (x : Int32) (k : Nat) : hb x k = (tn x).testBit k := rfl
/-- how many of the first n bits are set -/
def bcn (m : Nat) : Nat → Nat
  | 0 => 0
  | n + 1 => bcn m n + (m.testBit n).toNat
def bc (x : Int32) (n : Nat) : Nat := bcn (tn x) n
theorem bcn_cat (b : Nat) {a : Nat} (ha : a < 256) (k : Nat) : bcn (256 * b + a) (8 + k) = bcn a 8 + bcn b k := by
  have h : ∀ j, (256 * b + a).testBit j = if j < 8 then a.testBit j else b.testBit (j - 8) := fun j => Nat.testBit_two_pow_mul_add (i := 8) b ha j
  induction k with
  | zero =>
    show bcn (256 * b + a) 8 = bcn a 8
    simp only [bcn, h]
    rfl
  | succ k ih =>
    show bcn (256 * b + a) (8 + k) + ((256 * b + a).testBit (8 + k)).toNat = bcn a 8 + (bcn b k + (b.testBit k).toNat)
    rw [ih, h, if_neg (by omega), show 8 + k - 8 = k by omega]
    omega
theorem bcn_top {m n : Nat} (h : m < 2 ^ n) (k : Nat) : bcn m (n + k) = bcn m n := by
  induction k with
  | zero => rfl
  | succ k ih =>
    show bcn m (n + k) + (m.testBit (n + k)).toNat = _
    rw [ih, Nat.testBit_lt_two_pow (Nat.lt_of_lt_of_le h (Nat.pow_le_pow_right (by omega) (by omega)))]; rfl
theorem and_cat (b n : Nat) {a m : Nat} (ha : a < 256) (hm : m < 256) : (256 * b + a) &&& (256 * n + m) = 256 * (b &&& n) + (a &&& m) := by
  refine Nat.eq_of_testBit_eq fun j => ?_
  have h1 : (256 * b + a).testBit j = if j < 8 then a.testBit j else b.testBit (j - 8) := Nat.testBit_two_pow_mul_add (i := 8) b ha j
  have h2 : (256 * n + m).testBit j = if j < 8 then m.testBit j else n.testBit (j - 8) := Nat.testBit_two_pow_mul_add (i := 8) n hm j
  have h3 : (256 * (b &&& n) + (a &&& m)).testBit j = if j < 8 then (a &&& m).testBit j else (b &&& n).testBit (j - 8) := Nat.testBit_two_pow_mul_add (i := 8) _ (Nat.lt_of_le_of_lt Nat.and_le_left ha) j
  rw [Nat.testBit_and, h1, h2, h3]
  by_cases h : j < 8
  · rw [if_pos h, if_pos h, if_pos h, Nat.testBit_and]
  · rw [if_neg h, if_neg h, if_neg h, Nat.testBit_and]
def w1 (m n : Nat) : Nat := n - (n / 2 &&& m)
def w2 (m n : Nat) : Nat := (n &&& m) + (n / 4 &&& m)
def w3 (m n : Nat) : Nat := (n + n / 16) &&& m
theorem w1_low : ∀ a, a < 256 → ∀ r, r < 2 → (128 * r + a / 2) &&& 85 = (a / 2) &&& 85 := by decide +kernel
theorem w2_low : ∀ a, a < 256 → ∀ r, r < 4 → (64 * r + a / 4) &&& 51 = (a / 4) &&& 51 := by decide +kernel
theorem w3_low : ∀ a, a < 69 → ∀ r, r < 5 → (a + a / 16 + 16 * r) &&& 15 = (a + a / 16) &&& 15 := by decide +kernel
theorem w1_cat (m b : Nat) {a : Nat} (ha : a < 256) : w1 (256 * m + 85) (256 * b + a) = 256 * w1 m b + w1 85 a := by
  unfold w1
  rw [show (256 * b + a) / 2 = 256 * (b / 2) + (128 * (b % 2) + a / 2) by omega, and_cat _ _ (by omega) (by omega), w1_low a ha _ (by omega)]
  have h1 : b / 2 &&& m ≤ b / 2 := Nat.and_le_left
  have h2 : a / 2 &&& 85 ≤ a / 2 := Nat.and_le_left
  omega
theorem w2_cat (m b : Nat) {a : Nat} (ha : a < 256) : w2 (256 * m + 51) (256 * b + a) = 256 * w2 m b + w2 51 a := by
  unfold w2
  rw [show (256 * b + a) / 4 = 256 * (b / 4) + (64 * (b % 4) + a / 4) by omega, and_cat _ _ ha (by omega), and_cat _ _ (by omega) (by omega), w2_low a ha _ (by omega)]
  omega
theorem w3_cat (m b : Nat) {a : Nat} (ha : a < 69) (hb : b % 16 < 5) : w3 (256 * m + 15) (256 * b + a) = 256 * w3 m b + w3 15 a := by
  unfold w3
  rw [show 256 * b + a + (256 * b + a) / 16 = 256 * (b + b / 16) + (a + a / 16 + 16 * (b % 16)) by omega, and_cat _ _ (by omega) (by omega), w3_low a ha _ hb]
/-- bytes -/
def p1 (a : Nat) : Nat := w1 85 a
def p2 (a : Nat) : Nat := w2 51 (p1 a)
def p3 (a : Nat) : Nat := w3 15 (p2 a)
theorem p_byte : ∀ a, a < 256 → p1 a < 256 ∧ p2 a < 69 ∧ p2 a % 16 < 5 ∧ p3 a = bcn a 8 ∧ p3 a < 9 ∧ w1 21845 a = p1 a ∧ w2 13107 (p1 a) = p2 a ∧ w3 3855 (p2 a) = p3 a := by decide +kernel
def bitN (n : Nat) : Nat :=
  let v3 := w3 252645135 (w2 858993459 (w1 1431655765 n))
  let v4 := v3 + v3 / 256
  (v4 + v4 / 65536) % 64
theorem bitN_eq {n : Nat} (h : n < 2 ^ 24) : bitN n = bcn n 24 ∧ w1 1431655765 n < 2 ^ 24 ∧ w2 858993459 (w1 1431655765 n) < 2 ^ 24 ∧ w3 252645135 (w2 858993459 (w1 1431655765 n)) < 2 ^ 24 := by
  obtain ⟨a, b, c, ha, hb, hc, rfl⟩ : ∃ a b c, a < 256 ∧ b < 256 ∧ c < 256 ∧ n = 256 * (256 * c + b) + a := ⟨n % 256, n / 256 % 256, n / 65536, by omega, by omega, by omega, by omega⟩
  obtain ⟨a1, a2, a3, a4, a5, -, -, -⟩ := p_byte a ha
  obtain ⟨b1, b2, b3, b4, b5, -, -, -⟩ := p_byte b hb
  obtain ⟨c1, c2, c3, c4, c5, c6, c7, c8⟩ := p_byte c hc
  have e1 : w1 1431655765 (256 * (256 * c + b) + a) = 256 * (256 * p1 c + p1 b) + p1 a := by
    rw [show (1431655765 : Nat) = 256 * (256 * 21845 + 85) + 85 from rfl, w1_cat _ _ ha, w1_cat _ _ hb, c6]; rfl
  have e2 : w2 858993459 (256 * (256 * p1 c + p1 b) + p1 a) = 256 * (256 * p2 c + p2 b) + p2 a := by
    rw [show (858993459 : Nat) = 256 * (256 * 13107 + 51) + 51 from rfl, w2_cat _ _ a1, w2_cat _ _ b1, c7]; rfl
  have e3 : w3 252645135 (256 * (256 * p2 c + p2 b) + p2 a) = 256 * (256 * p3 c + p3 b) + p3 a := by
    rw [show (252645135 : Nat) = 256 * (256 * 3855 + 15) + 15 from rfl, w3_cat _ _ a2 (by omega), w3_cat _ _ b2 (by omega), c8]; rfl
  have e4 : bcn (256 * (256 * c + b) + a) 24 = p3 a + (p3 b + p3 c) := by
    rw [show (24 : Nat) = 8 + (8 + 8) from rfl, bcn_cat _ ha, bcn_cat _ hb, a4, b4, c4]
  unfold bitN
  rw [e1, e2, e3, e4]
  dsimp only
  refine ⟨?_, by omega, by omega, by omega⟩
  generalize p3 a = x at *
  generalize p3 b = y at *
  generalize p3 c = z at *
  have h1 : (256 * (256 * z + y) + x) / 256 = 256 * z + y := by omega
  rw [h1]
  have h2 : (256 * (256 * z + y) + x + (256 * z + y)) / 65536 = z := by omega
  rw [h2]
  omega
theorem nI_and {a b : Nat} (ha : a < 2 ^ 31) (hb' : b < 2 ^ 31) : nI a &&& nI b = nI (a &&& b) := hb_ext fun k _ => by
  rw [hb_and, hbn (by omega), hbn (by omega), hbn (Nat.lt_of_le_of_lt Nat.and_le_left (by omega)), Nat.testBit_and]
theorem nI_or {a b : Nat} (ha : a < 2 ^ 31) (hb' : b < 2 ^ 31) : nI a ||| nI b = nI (a ||| b) := hb_ext fun k _ => by
  rw [hb_or, hbn (by omega), hbn (by omega), hbn (Nat.lt_trans (Nat.or_lt_two_pow ha hb') (by decide)), Nat.testBit_or]
theorem us (n : Nat) (hn : n < 2 ^ 32) (s : Int32) (k : Nat) (hs : ((s.toUInt32 &&& Int32.toUInt32 31).toBitVec % 32).toNat = k) : ((nI n).toUInt32 >>> (s.toUInt32 &&& Int32.toUInt32 31)).toInt32 = nI (n / 2 ^ k) := pk_ushrN hn s k hs
def bitX (x0 : Int32) : Int32 :=
  let v1 := x0 - (((x0.toUInt32 >>> ((1 : Int32).toUInt32 &&& Int32.toUInt32 31)).toInt32) &&& (1431655765 : Int32))
  let v2 := (v1 &&& (858993459 : Int32)) + (((v1.toUInt32 >>> ((2 : Int32).toUInt32 &&& Int32.toUInt32 31)).toInt32) &&& (858993459 : Int32))
  let v3 := (v2 + ((v2.toUInt32 >>> ((4 : Int32).toUInt32 &&& Int32.toUInt32 31)).toInt32)) &&& (252645135 : Int32)
  let v4 := v3 + ((v3.toUInt32 >>> ((8 : Int32).toUInt32 &&& Int32.toUInt32 31)).toInt32)
  let v5 := v4 + ((v4.toUInt32 >>> ((16 : Int32).toUInt32 &&& Int32.toUInt32 31)).toInt32)
  v5 &&& (63 : Int32)
theorem bitX_nI {n : Nat} (h : n < 2 ^ 24) : bitX (nI n) = nI (bcn n 24) := by
  obtain ⟨e, h1, h2, h3⟩ := bitN_eq h
  unfold bitX
  dsimp only
  have e1 : nI n - (((nI n).toUInt32 >>> ((1 : Int32).toUInt32 &&& Int32.toUInt32 31)).toInt32 &&& 1431655765) = nI (w1 1431655765 n) := by
    rw [us n (by omega) 1 1 (by decide), show (1431655765 : Int32) = nI 1431655765 from rfl, nI_and (by omega) (by omega)]
    exact pk_sub (Nat.le_trans Nat.and_le_left (Nat.div_le_self _ _))
  rw [e1]
  generalize qa : w1 1431655765 n = a at *
  have e2 : (nI a &&& 858993459) + (((nI a).toUInt32 >>> ((2 : Int32).toUInt32 &&& Int32.toUInt32 31)).toInt32 &&& 858993459) = nI (w2 858993459 a) := by
    rw [us a (by omega) 2 2 (by decide), show (858993459 : Int32) = nI 858993459 from rfl, nI_and (by omega) (by omega), nI_and (by omega) (by omega), nI_add]
    rfl
  rw [e2]
  generalize qb : w2 858993459 a = b at *
  have e3 : (nI b + ((nI b).toUInt32 >>> ((4 : Int32).toUInt32 &&& Int32.toUInt32 31)).toInt32) &&& 252645135 = nI (w3 252645135 b) := by
    rw [us b (by omega) 4 4 (by decide), show (252645135 : Int32) = nI 252645135 from rfl, nI_add, nI_and (by omega) (by omega)]
    rfl
  rw [e3]
  generalize hc : w3 252645135 b = c at *
  have e4 : nI c + ((nI c).toUInt32 >>> ((8 : Int32).toUInt32 &&& Int32.toUInt32 31)).toInt32 = nI (c + c / 256) := by
    rw [us c (by omega) 8 8 (by decide), nI_add]
  rw [e4]
  have e5 : nI (c + c / 256) + ((nI (c + c / 256)).toUInt32 >>> ((16 : Int32).toUInt32 &&& Int32.toUInt32 31)).toInt32 = nI (c + c / 256 + (c + c / 256) / 65536) := by
    rw [us (c + c / 256) (by omega) 16 16 (by decide), nI_add]
  rw [e5, pk_andN (m := 63) (by omega) 6 (by decide), ← e]
  unfold bitN
  rw [qa, qb, hc]
theorem x_bitCount {F : Nat} (S : Zs) {x : Int32} (h : bnd x 24) : n_J6_bitCount_0f7a4_x F S x = some (nI (bc x 32), S) := by
  show some (bitX x, S) = _
  have e := nI_tn h (by omega)
  have h2 : tn x < 2 ^ 24 := h
  have e2 : bitX x = nI (bcn (tn x) 24) := by
    have := bitX_nI h2
    rwa [← e] at this
  rw [e2]
  unfold bc
  rw [show (32 : Nat) = 24 + 8 from rfl, bcn_top h2]
theorem m_bitCount {F : Nat} (S : Zs) {x : Int32} (h : bnd x 24) : n_J6_bitCount_0f7a4_m F S x = some (nI (bc x 32), S) := x_bitCount (F := F) S h
