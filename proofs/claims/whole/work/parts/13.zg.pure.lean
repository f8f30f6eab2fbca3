/-! COUNTING BITS of 64 -/
def tL (x : Int64) : Nat := x.toBitVec.toNat
theorem tL_lt (x : Int64) : tL x < 2 ^ 64 := x.toBitVec.isLt
theorem tL_and (x y : Int64) : tL (x &&& y) = tL x &&& tL y := by
  unfold tL; rw [Int64.toBitVec_and, BitVec.toNat_and]
theorem tL_add {x y : Int64} (h : tL x + tL y < 2 ^ 64) : tL (x + y) = tL x + tL y := by
  unfold tL at *; rw [Int64.toBitVec_add, BitVec.toNat_add, Nat.mod_eq_of_lt h]
theorem tL_sub {x y : Int64} (h : tL y ≤ tL x) : tL (x - y) = tL x - tL y := by
  have h2 := tL_lt x
  unfold tL at *
  rw [Int64.toBitVec_sub, BitVec.toNat_sub]
  omega
theorem tL_shr (x : Int64) (s : UInt64) {k : Nat} (hs : s.toNat % 64 = k) : tL (x.toUInt64 >>> s).toInt64 = tL x / 2 ^ k := by
  show (x.toUInt64 >>> s).toNat = _
  rw [UInt64.toNat_shiftRight, Nat.shiftRight_eq_div_pow, hs]
  rfl
def M5 : Nat → Nat
  | 0 => 0
  | k + 1 => 256 * M5 k + 85
def M3 : Nat → Nat
  | 0 => 0
  | k + 1 => 256 * M3 k + 51
def M15 : Nat → Nat
  | 0 => 0
  | k + 1 => 256 * M15 k + 15
/-- the counts of bytes, byte by byte; their sum -/
def PB : Nat → Nat → Nat
  | 0, _ => 0
  | k + 1, n => 256 * PB k (n / 256) + bcn (n % 256) 8
def BS : Nat → Nat → Nat
  | 0, _ => 0
  | k + 1, n => bcn (n % 256) 8 + BS k (n / 256)
theorem w_PB : ∀ k n, n < 256 ^ k → w3 (M15 k) (w2 (M3 k) (w1 (M5 k) n)) = PB k n ∧ w2 (M3 k) (w1 (M5 k) n) % 16 < 5 := by
  intro k
  induction k with
  | zero =>
    intro n hn
    have : n = 0 := by
      have : n < 1 := hn
      omega
    subst this
    exact ⟨rfl, by decide⟩
  | succ k ih =>
    intro n hn
    obtain ⟨b, a, ha, rfl⟩ : ∃ b a, a < 256 ∧ n = 256 * b + a := ⟨n / 256, n % 256, by omega, by omega⟩
    have hb : b < 256 ^ k := by
      rw [Nat.pow_succ] at hn
      omega
    obtain ⟨a1, a2, a3, a4, a5, -, -, -⟩ := p_byte a ha
    obtain ⟨h1, h2⟩ := ih b hb
    have e0 : PB (k + 1) (256 * b + a) = 256 * PB k b + bcn a 8 := by
      show 256 * PB k ((256 * b + a) / 256) + bcn ((256 * b + a) % 256) 8 = _
      rw [show (256 * b + a) / 256 = b by omega, show (256 * b + a) % 256 = a by omega]
    have e1 : w1 (M5 (k + 1)) (256 * b + a) = 256 * w1 (M5 k) b + p1 a := w1_cat _ _ ha
    have e2 : w2 (M3 (k + 1)) (256 * w1 (M5 k) b + p1 a) = 256 * w2 (M3 k) (w1 (M5 k) b) + p2 a := w2_cat _ _ a1
    have e3 : w3 (M15 (k + 1)) (256 * w2 (M3 k) (w1 (M5 k) b) + p2 a) = 256 * w3 (M15 k) (w2 (M3 k) (w1 (M5 k) b)) + p3 a := w3_cat _ _ a2 h2
    rw [e0, e1, e2, e3, h1, a4]
    exact ⟨rfl, by omega⟩
theorem BS_bcn : ∀ k n, bcn n (8 * k) = BS k n := by
  intro k
  induction k with
  | zero => intro n; rfl
  | succ k ih =>
    intro n
    have e : n = 256 * (n / 256) + n % 256 := by omega
    show bcn n (8 * (k + 1)) = bcn (n % 256) 8 + BS k (n / 256)
    rw [← ih (n / 256), show 8 * (k + 1) = 8 + 8 * k by omega]
    conv => lhs; rw [e]
    exact bcn_cat _ (by omega) _
theorem dvq {a q r d : Nat} (h : a = d * q + r) (hr : r < d) : a / d = q := by
  have hd : 0 < d := by omega
  rw [h, Nat.mul_add_div hd, Nat.div_eq_of_lt hr, Nat.add_zero]
theorem sum8' {x0 x1 x2 x3 x4 x5 x6 x7 A1 A2 A3 A4 A5 A6 : Nat} (h0 : x0 ≤ 8) (h1 : x1 ≤ 8) (h2 : x2 ≤ 8) (h3 : x3 ≤ 8) (h4 : x4 ≤ 8) (h5 : x5 ≤ 8) (h6 : x6 ≤ 8) (h7 : x7 ≤ 8) {a b c : Nat} (e6 : A6 = 256 * x7 + x6) (e5 : A5 = 256 * A6 + x5) (e4 : A4 = 256 * A5 + x4) (e3 : A3 = 256 * A4 + x3) (e2 : A2 = 256 * A3 + x2) (e1 : A1 = 256 * A2 + x1) (ea : a = 256 * A1 + x0) (eb : b = a + a / 256) (ec : c = b + b / 65536) : (c + c / 4294967296) % 128 = x0 + (x1 + (x2 + (x3 + (x4 + (x5 + (x6 + x7)))))) ∧ a < 1152921504606846976 := by
  have q1 : a / 256 = A1 := dvq ea (by omega)
  rw [q1] at eb
  clear q1
  have q2 : b / 65536 = A2 + A3 := dvq (r := 256 * (x1 + x2) + (x0 + x1)) (by omega) (by omega)
  rw [q2] at ec
  clear q2
  have q3 : c / 4294967296 = A4 + A5 + A6 + x7 := dvq (r := 16777216 * (x3 + x4 + x5 + x6) + 65536 * (x2 + x3 + x4 + x5) + 256 * (x1 + x2 + x3 + x4) + (x0 + x1 + x2 + x3)) (by omega) (by omega)
  rw [q3]
  clear q3
  have q4 : c + (A4 + A5 + A6 + x7) = 256 * (A1 + A2 + A3 + A4 + A5 + A6 + x7) + (x0 + (x1 + (x2 + (x3 + (x4 + (x5 + (x6 + x7))))))) := by omega
  have q5 : a < 1152921504606846976 := by omega
  refine ⟨?_, q5⟩
  rw [q4]
  clear q4 q5 ea eb ec e1 e2 e3 e4 e5 e6
  generalize A1 + A2 + A3 + A4 + A5 + A6 + x7 = K
  omega
theorem sum8 {x0 x1 x2 x3 x4 x5 x6 x7 : Nat} (h0 : x0 ≤ 8) (h1 : x1 ≤ 8) (h2 : x2 ≤ 8) (h3 : x3 ≤ 8) (h4 : x4 ≤ 8) (h5 : x5 ≤ 8) (h6 : x6 ≤ 8) (h7 : x7 ≤ 8) {a b c : Nat} (ea : a = 256 * (256 * (256 * (256 * (256 * (256 * (256 * x7 + x6) + x5) + x4) + x3) + x2) + x1) + x0) (eb : b = a + a / 256) (ec : c = b + b / 65536) : (c + c / 4294967296) % 128 = x0 + (x1 + (x2 + (x3 + (x4 + (x5 + (x6 + x7)))))) ∧ a < 1152921504606846976 :=
  sum8' h0 h1 h2 h3 h4 h5 h6 h7 rfl rfl rfl rfl rfl rfl ea eb ec
theorem PB_8 (n : Nat) : PB 8 n = 256 * (256 * (256 * (256 * (256 * (256 * (256 * bcn (n / 256 / 256 / 256 / 256 / 256 / 256 / 256 % 256) 8 + bcn (n / 256 / 256 / 256 / 256 / 256 / 256 % 256) 8) + bcn (n / 256 / 256 / 256 / 256 / 256 % 256) 8) + bcn (n / 256 / 256 / 256 / 256 % 256) 8) + bcn (n / 256 / 256 / 256 % 256) 8) + bcn (n / 256 / 256 % 256) 8) + bcn (n / 256 % 256) 8) + bcn (n % 256) 8 := by
  show 256 * (256 * (256 * (256 * (256 * (256 * (256 * (256 * 0 + bcn (n / 256 / 256 / 256 / 256 / 256 / 256 / 256 % 256) 8) + bcn (n / 256 / 256 / 256 / 256 / 256 / 256 % 256) 8) + bcn (n / 256 / 256 / 256 / 256 / 256 % 256) 8) + bcn (n / 256 / 256 / 256 / 256 % 256) 8) + bcn (n / 256 / 256 / 256 % 256) 8) + bcn (n / 256 / 256 % 256) 8) + bcn (n / 256 % 256) 8) + bcn (n % 256) 8 = _
  rw [Nat.mul_zero, Nat.zero_add]
theorem BS_8 (n : Nat) : BS 8 n = bcn (n % 256) 8 + (bcn (n / 256 % 256) 8 + (bcn (n / 256 / 256 % 256) 8 + (bcn (n / 256 / 256 / 256 % 256) 8 + (bcn (n / 256 / 256 / 256 / 256 % 256) 8 + (bcn (n / 256 / 256 / 256 / 256 / 256 % 256) 8 + (bcn (n / 256 / 256 / 256 / 256 / 256 / 256 % 256) 8 + bcn (n / 256 / 256 / 256 / 256 / 256 / 256 / 256 % 256) 8)))))) := rfl
theorem PB_end {n a b c : Nat} (ea : a = PB 8 n) (eb : b = a + a / 256) (ec : c = b + b / 65536) : (c + c / 4294967296) % 128 = BS 8 n ∧ a < 1152921504606846976 := by
  rw [PB_8] at ea
  rw [BS_8]
  exact sum8 (bcn_le _ 8) (bcn_le _ 8) (bcn_le _ 8) (bcn_le _ 8) (bcn_le _ 8) (bcn_le _ 8) (bcn_le _ 8) (bcn_le _ 8) ea eb ec
theorem M5_8 : M5 8 = 6148914691236517205 := by decide
theorem M3_8 : M3 8 = 3689348814741910323 := by decide
theorem M15_8 : M15 8 = 1085102592571150095 := by decide
theorem i32_127 (x : Int64) : x.toInt32 &&& 127 = nI (tL x % 128) := hb_ext fun k hk => by
  have h1 : hb x.toInt32 k = (tL x).testBit k := by
    show (x.toBitVec.signExtend 32).getLsbD k = x.toBitVec.getLsbD k
    rw [BitVec.getLsbD_signExtend, decide_eq_true hk, if_pos (show k < 64 by omega), Bool.true_and]
  have h2 : hb (127 : Int32) k = decide (k < 7) := (show ∀ k, k < 32 → hb (127 : Int32) k = decide (k < 7) by decide +kernel) k hk
  rw [hb_and, h1, h2, hbn (by omega), show (128 : Nat) = 2 ^ 7 from rfl, Nat.testBit_mod_two_pow, Bool.and_comm]
theorem x_bitL {F : Nat} (S : Zs) (x : Int64) : n_J13_bitCount_95d88_x F S x = some (nI (bcn (tL x) 64), S) := by
  have hx := tL_lt x
  have s1 : ((1 : Int32).toInt64.toUInt64 &&& Int64.toUInt64 63).toNat % 64 = 1 := by decide
  have s2 : ((2 : Int32).toInt64.toUInt64 &&& Int64.toUInt64 63).toNat % 64 = 2 := by decide
  have s4 : ((4 : Int32).toInt64.toUInt64 &&& Int64.toUInt64 63).toNat % 64 = 4 := by decide
  have s8 : ((8 : Int32).toInt64.toUInt64 &&& Int64.toUInt64 63).toNat % 64 = 8 := by decide
  have s16 : ((16 : Int32).toInt64.toUInt64 &&& Int64.toUInt64 63).toNat % 64 = 16 := by decide
  have s32 : ((32 : Int32).toInt64.toUInt64 &&& Int64.toUInt64 63).toNat % 64 = 32 := by decide
  have c5 : tL 6148914691236517205 = M5 8 := by decide
  have c3 : tL 3689348814741910323 = M3 8 := by decide
  have c0 : tL 1085102592571150095 = M15 8 := by decide
  obtain ⟨hw, -⟩ := w_PB 8 (tL x) (by
    have : (256 : Nat) ^ 8 = 2 ^ 64 := by decide
    omega)
  unfold n_J13_bitCount_95d88_x n_J13_bitCount_95d88_x_e zlet
  dsimp only
  have e1 : tL (x - ((x.toUInt64 >>> ((1 : Int32).toInt64.toUInt64 &&& Int64.toUInt64 63)).toInt64 &&& 6148914691236517205)) = w1 (M5 8) (tL x) := by
    have k : tL ((x.toUInt64 >>> ((1 : Int32).toInt64.toUInt64 &&& Int64.toUInt64 63)).toInt64 &&& 6148914691236517205) = (tL x / 2 &&& M5 8) := by
      rw [tL_and, tL_shr _ _ s1, c5]
    rw [tL_sub (by rw [k]; exact Nat.le_trans Nat.and_le_left (Nat.div_le_self _ _)), k]; rfl
  generalize x - ((x.toUInt64 >>> ((1 : Int32).toInt64.toUInt64 &&& Int64.toUInt64 63)).toInt64 &&& 6148914691236517205) = v1 at *
  have e2 : tL ((v1 &&& 3689348814741910323) + ((v1.toUInt64 >>> ((2 : Int32).toInt64.toUInt64 &&& Int64.toUInt64 63)).toInt64 &&& 3689348814741910323)) = w2 (M3 8) (tL v1) ∧ w2 (M3 8) (tL v1) ≤ 2 * M3 8 := by
    have k1 : tL (v1 &&& 3689348814741910323) = (tL v1 &&& M3 8) := by rw [tL_and, c3]
    have k2 : tL ((v1.toUInt64 >>> ((2 : Int32).toInt64.toUInt64 &&& Int64.toUInt64 63)).toInt64 &&& 3689348814741910323) = (tL v1 / 4 &&& M3 8) := by rw [tL_and, tL_shr _ _ s2, c3]
    have b1 : (tL v1 &&& M3 8) ≤ M3 8 := Nat.and_le_right
    have b2 : (tL v1 / 4 &&& M3 8) ≤ M3 8 := Nat.and_le_right
    have b3 := M3_8
    rw [tL_add (by rw [k1, k2]; omega), k1, k2]
    refine ⟨rfl, ?_⟩
    show (tL v1 &&& M3 8) + (tL v1 / 4 &&& M3 8) ≤ _
    omega
  generalize (v1 &&& 3689348814741910323) + ((v1.toUInt64 >>> ((2 : Int32).toInt64.toUInt64 &&& Int64.toUInt64 63)).toInt64 &&& 3689348814741910323) = v2 at *
  have e3 : tL ((v2 + (v2.toUInt64 >>> ((4 : Int32).toInt64.toUInt64 &&& Int64.toUInt64 63)).toInt64) &&& 1085102592571150095) = w3 (M15 8) (tL v2) := by
    have k2 : tL (v2.toUInt64 >>> ((4 : Int32).toInt64.toUInt64 &&& Int64.toUInt64 63)).toInt64 = tL v2 / 16 := tL_shr _ _ s4
    have b3 := M3_8
    rw [tL_and, tL_add (by rw [k2]; omega), k2, c0]; rfl
  rw [e2.1, e1, hw] at e3
  generalize (v2 + (v2.toUInt64 >>> ((4 : Int32).toInt64.toUInt64 &&& Int64.toUInt64 63)).toInt64) &&& 1085102592571150095 = v3 at *
  have e4 : tL v3 < 1152921504606846976 := (PB_end e3 rfl rfl).2
  have k3 : tL (v3.toUInt64 >>> ((8 : Int32).toInt64.toUInt64 &&& Int64.toUInt64 63)).toInt64 = tL v3 / 256 := tL_shr _ _ s8
  have eb : tL (v3 + (v3.toUInt64 >>> ((8 : Int32).toInt64.toUInt64 &&& Int64.toUInt64 63)).toInt64) = tL v3 + tL v3 / 256 := by
    rw [tL_add (by rw [k3]; omega), k3]
  generalize v3 + (v3.toUInt64 >>> ((8 : Int32).toInt64.toUInt64 &&& Int64.toUInt64 63)).toInt64 = v4 at *
  have k4 : tL (v4.toUInt64 >>> ((16 : Int32).toInt64.toUInt64 &&& Int64.toUInt64 63)).toInt64 = tL v4 / 65536 := tL_shr _ _ s16
  have ec : tL (v4 + (v4.toUInt64 >>> ((16 : Int32).toInt64.toUInt64 &&& Int64.toUInt64 63)).toInt64) = tL v4 + tL v4 / 65536 := by
    rw [tL_add (by rw [k4]; omega), k4]
  generalize v4 + (v4.toUInt64 >>> ((16 : Int32).toInt64.toUInt64 &&& Int64.toUInt64 63)).toInt64 = v5 at *
  have k5 : tL (v5.toUInt64 >>> ((32 : Int32).toInt64.toUInt64 &&& Int64.toUInt64 63)).toInt64 = tL v5 / 4294967296 := tL_shr _ _ s32
  have ed : tL (v5 + (v5.toUInt64 >>> ((32 : Int32).toInt64.toUInt64 &&& Int64.toUInt64 63)).toInt64) = tL v5 + tL v5 / 4294967296 := by
    rw [tL_add (by rw [k5]; omega), k5]
  rw [i32_127, ed, (PB_end e3 eb ec).1, ← BS_bcn]
-- bits of a word
def HL (x : Int64) (j : Nat) : Bool := (tL x).testBit j
theorem HL_and (x y : Int64) (j : Nat) : HL (x &&& y) j = (HL x j && HL y j) := by unfold HL; rw [tL_and, Nat.testBit_and]
theorem HL_not (x : Int64) {j : Nat} (hj : j < 64) : HL (x ^^^ (-1)) j = !HL x j := by
  show (x ^^^ (-1)).toBitVec.getLsbD j = !x.toBitVec.getLsbD j
  rw [Int64.toBitVec_xor, BitVec.getLsbD_xor, show (-1 : Int64).toBitVec = BitVec.allOnes 64 by decide, BitVec.getLsbD_allOnes, decide_eq_true hj, Bool.xor_true]
theorem HL_m1 {j : Nat} (hj : j < 64) : HL (-1) j = true := by
  show (-1 : Int64).toBitVec.getLsbD j = true
  rw [show (-1 : Int64).toBitVec = BitVec.allOnes 64 by decide, BitVec.getLsbD_allOnes, decide_eq_true hj]
theorem HL_0 (j : Nat) : HL 0 j = false := by
  show (0 : Int64).toBitVec.getLsbD j = false
  rw [show (0 : Int64).toBitVec = 0#64 from rfl, BitVec.getLsbD_zero]
theorem HL_in : ∀ k, k < 6 → ∀ j, j < 64 → HL (xt_50 k) j = j.testBit k := by decide +kernel
theorem bcn_cnt (m : Nat) : ∀ n, bcn m n = cnt (fun j => m.testBit j = true) n := by
  intro n
  induction n with
  | zero => rfl
  | succ n ih =>
    show bcn m n + (m.testBit n).toNat = _
    by_cases h : m.testBit n = true
    · rw [cnt_t (P := fun j => m.testBit j = true) h, ih, h]; rfl
    · rw [cnt_f (P := fun j => m.testBit j = true) h, ih, Bool.eq_false_iff.mpr h]; rfl
theorem cnt_add (P : Nat → Prop) (n : Nat) : ∀ m, cnt P (n + m) = cnt P n + cnt (fun j => P (n + j)) m := by
  intro m
  induction m with
  | zero => rfl
  | succ m ih =>
    by_cases h : P (n + m)
    · rw [show n + (m + 1) = (n + m) + 1 by omega, cnt_t h, cnt_t (P := fun j => P (n + j)) h, ih]; omega
    · rw [show n + (m + 1) = (n + m) + 1 by omega, cnt_f h, cnt_f (P := fun j => P (n + j)) h, ih]
theorem ofB_w {w j t : Nat} (hj : j < 64) (ht : t < 24) : ofB (64 * w + j) t = ((if t / 2 < 6 then j.testBit (t / 2) else w.testBit (t / 2 - 6)) == (t % 2 == 0)) := by
  unfold ofB
  rw [show (64 * w + j).testBit (t / 2) = if t / 2 < 6 then j.testBit (t / 2) else w.testBit (t / 2 - 6) from Nat.testBit_two_pow_mul_add (i := 6) w hj (t / 2)]
theorem x_members {F : Nat} (S : Zs) {t w : Nat} (ht : t < 24) (hw : w < 64) : ∃ v, (∀ j, j < 64 → HL v j = ofB (64 * w + j) t) ∧ n_X7_members F S (nI t) (nI w) = some (v, S) := by
  have e : n_X7_members F S (nI t) (nI w) = (if 6 ≤ t / 2 then n_X7_members_b28 F S (nI t) (-((nI (w.testBit (t / 2 - 6)).toNat).toInt64)) else n_X7_members_b28 F S (nI t) (xt_50 (t / 2))) := by
    unfold n_X7_members n_X7_members_e zlet
    dsimp only
    rw [pk_shrN (n := t) (by omega) ((1 : Int32) &&& 31) 1 (by decide), show t / 2 ^ 1 = t / 2 from rfl, show (6 : Int32) = nI 6 from rfl]
    by_cases h : 6 ≤ t / 2
    · rw [if_pos (nI_le h (by omega)), if_pos h, pk_sub h, sh_and1 _ (by omega), hbn (by omega)]
    · rw [if_neg (nI_ge (by omega) (by omega)), if_neg h, zlt_nI _ _ (show t / 2 < 6 by omega) (by omega)]
  have b28 : ∀ u : Int64, n_X7_members_b28 F S (nI t) u = if t % 2 = 0 then some (u, S) else some (u ^^^ (-1), S) := by
    intro u
    unfold n_X7_members_b28 n_X7_members_b44
    rw [and1 (by omega)]
    rcases (show t % 2 = 0 ∨ t % 2 = 1 by omega) with h | h <;> rw [h] <;> rfl
  rw [b28, b28] at e
  have key : ∀ u : Int64, (∀ j, j < 64 → HL u j = if t / 2 < 6 then j.testBit (t / 2) else w.testBit (t / 2 - 6)) → (n_X7_members F S (nI t) (nI w) = if t % 2 = 0 then some (u, S) else some (u ^^^ (-1), S)) → ∃ v, (∀ j, j < 64 → HL v j = ofB (64 * w + j) t) ∧ n_X7_members F S (nI t) (nI w) = some (v, S) := by
    intro u hu he
    rcases (show t % 2 = 0 ∨ t % 2 = 1 by omega) with h | h
    · refine ⟨u, fun j hj => ?_, he.trans (if_pos h)⟩
      rw [hu j hj, ofB_w hj ht, h]
      show _ = (_ == true)
      rw [beq_true]
    · refine ⟨u ^^^ (-1), fun j hj => ?_, he.trans (if_neg (by omega))⟩
      rw [HL_not _ hj, hu j hj, ofB_w hj ht, h]
      show _ = (_ == false)
      rw [beq_false]
  by_cases h : 6 ≤ t / 2
  · rw [if_pos h] at e
    refine key _ (fun j hj => ?_) e
    rw [if_neg (show ¬ t / 2 < 6 by omega)]
    cases w.testBit (t / 2 - 6) with
    | false => exact HL_0 j
    | true =>
      rw [show -((nI (true).toNat).toInt64) = -1 by decide]
      exact HL_m1 hj
  · rw [if_neg h] at e
    refine key _ (fun j hj => ?_) e
    rw [if_pos (show t / 2 < 6 by omega), HL_in _ (by omega) j hj]
