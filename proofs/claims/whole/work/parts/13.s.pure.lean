/-! THE SEARCH: sets of bits -/
def sb (x y : Int32) : Prop := ∀ k, hb x k = true → hb y k = true
def dj (x y : Int32) : Prop := ∀ k, ¬ (hb x k = true ∧ hb y k = true)
theorem sb_rf (x : Int32) : sb x x := fun _ h => h
theorem sb_t {x y z : Int32} (h : sb x y) (g : sb y z) : sb x z := fun k q => g k (h k q)
theorem hbo {x y : Int32} {k : Nat} : hb (x ||| y) k = true ↔ hb x k = true ∨ hb y k = true := by rw [hb_or, Bool.or_eq_true]
theorem hba {x y : Int32} {k : Nat} : hb (x &&& y) k = true ↔ hb x k = true ∧ hb y k = true := by rw [hb_and, Bool.and_eq_true]
theorem hbm {x y : Int32} {k : Nat} : hb (x &&& (y ^^^ (-1))) k = true ↔ hb x k = true ∧ ¬ hb y k = true := by
  rw [hb_and, Bool.and_eq_true]
  rcases Nat.lt_or_ge k 32 with h | h
  · rw [hb_not _ h]
    cases hb y k <;> simp
  · rw [hb_ge x h, hb_ge _ h]; simp
theorem hb1 {e : Nat} (h : e < 32) {k : Nat} : hb ((1 : Int32) <<< (nI e &&& 31)) k = true ↔ k = e := by rw [hb_one h, decide_eq_true_iff]
theorem sb_o {x y z : Int32} (h : sb x z) (g : sb y z) : sb (x ||| y) z := fun k q => (hbo.mp q).elim (h k) (g k)
theorem sb_1 {e : Nat} (h : e < 32) {z : Int32} (g : hb z e = true) : sb ((1 : Int32) <<< (nI e &&& 31)) z := fun k q => by rw [hb1 h] at q; rw [q]; exact g
theorem bnd_sb {x y : Int32} {n : Nat} (h : sb x y) (g : bnd y n) : bnd x n := bnd_of_hb fun k hk => by
  cases e : hb x k
  · rfl
  · have := h k e; rw [bnd_hb g hk] at this; exact absurd this (by decide)
theorem bc_s (x : Int32) (n : Nat) : bc x (n + 1) = bc x n + (hb x n).toNat := rfl
theorem bc_0 (x : Int32) : bc x 0 = 0 := rfl
theorem bc_mono {x y : Int32} (h : sb x y) (n : Nat) : bc x n ≤ bc y n := by
  induction n with
  | zero => exact Nat.le_refl 0
  | succ n ih =>
    rw [bc_s, bc_s]
    cases e : hb x n
    · exact Nat.le_trans ih (Nat.le_add_right _ _)
    · rw [h n e]; exact Nat.add_le_add_right ih _
theorem bc_or {x y : Int32} (h : dj x y) (n : Nat) : bc (x ||| y) n = bc x n + bc y n := by
  induction n with
  | zero => rfl
  | succ n ih =>
    rw [bc_s, bc_s, bc_s, ih, hb_or]
    have := h n
    cases e : hb x n <;> cases e2 : hb y n
    · simp
    · simp; omega
    · simp; omega
    · exact absurd ⟨e, e2⟩ this
theorem bc_pos {x : Int32} {k n : Nat} (h : hb x k = true) (hk : k < n) : 1 ≤ bc x n := by
  induction n with
  | zero => omega
  | succ n ih =>
    rw [bc_s]
    by_cases e : k = n
    · rw [← e, h]; exact Nat.le_add_left _ _
    · have := ih (by omega); omega
theorem bc_bit {e : Nat} (he : e < 32) : bc ((1 : Int32) <<< (nI e &&& 31)) 32 = 1 := by
  have key : ∀ n, bc ((1 : Int32) <<< (nI e &&& 31)) n = if e < n then 1 else 0 := by
    intro n
    induction n with
    | zero => rfl
    | succ n ih =>
      rw [bc_s, ih, hb_one he]
      by_cases h : n = e
      · rw [decide_eq_true h, if_neg (by omega), if_pos (by omega)]; rfl
      · rw [decide_eq_false h]
        by_cases h2 : e < n
        · rw [if_pos h2, if_pos (by omega)]; rfl
        · rw [if_neg h2, if_neg (by omega)]; rfl
  rw [key, if_pos he]
theorem bc_le (x : Int32) (n : Nat) : bc x n ≤ n := by
  induction n with
  | zero => exact Nat.le_refl 0
  | succ n ih => rw [bc_s]; cases hb x n <;> simp <;> omega
theorem bc_zero {x : Int32} {n : Nat} (h : bc x n = 0) : ∀ k, k < n → hb x k = false := by
  intro k hk
  cases e : hb x k
  · rfl
  · have := bc_pos e hk; omega
/-- a set with a subset of the same size is that subset -/
theorem bc_eq {x y : Int32} (h : sb x y) (g : bc y 32 ≤ bc x 32) : x = y := by
  have e : y = x ||| (y &&& (x ^^^ (-1))) := hb_ext fun k _ => by
    rw [Bool.eq_iff_iff, hbo, hbm]
    constructor
    · intro q
      by_cases w : hb x k = true
      · exact Or.inl w
      · exact Or.inr ⟨q, w⟩
    · rintro (q | q)
      · exact h k q
      · exact q.1
  have d : dj x (y &&& (x ^^^ (-1))) := fun k q => (hbm.mp q.2).2 q.1
  have e2 := bc_or d 32
  rw [← e] at e2
  have z := bc_zero (x := y &&& (x ^^^ (-1))) (n := 32) (by omega)
  refine hb_ext fun k hk => ?_
  rw [Bool.eq_iff_iff]
  refine ⟨h k, fun q => ?_⟩
  rw [e, hbo] at q
  rcases q with q | q
  · exact q
  · rw [z k hk] at q; exact absurd q (by decide)
theorem tn_or {x y : Int32} (h : dj x y) : tn (x ||| y) = tn x + tn y := by
  have h0 : x.toBitVec &&& y.toBitVec = 0#32 := BitVec.eq_of_getLsbD_eq fun k _ => by
    rw [BitVec.getLsbD_and, BitVec.getLsbD_zero]
    have := h k
    unfold hb at this
    cases e : x.toBitVec.getLsbD k <;> cases e2 : y.toBitVec.getLsbD k <;> simp_all
  unfold tn
  rw [Int32.toBitVec_or, ← BitVec.add_eq_or_of_and_eq_zero _ _ h0, BitVec.toNat_add_of_and_eq_zero h0]
theorem tn_mono {x y : Int32} (h : sb x y) : tn x ≤ tn y := Nat.le_of_testBit fun k q => h k q
theorem tn_0 : tn 0 = 0 := rfl
theorem eq0_hb {x : Int32} : x = 0 ↔ ∀ k, ¬ hb x k = true := by
  constructor
  · rintro rfl k h; rw [hb_0] at h; exact absurd h (by decide)
  · intro h
    refine hb_ext fun k _ => ?_
    rw [hb_0]
    cases e : hb x k
    · rfl
    · exact absurd e (h k)
/-- the least bit -/
theorem low_tb {c m k : Nat} (hc : c = 2 ^ m * (2 * k + 1)) (hl : c < 2 ^ 32) (j : Nat) : (c &&& (2 ^ 32 - c)).testBit j = decide (j = m) := by
  have hm : 0 < 2 ^ m := Nat.two_pow_pos m
  have hc0 : 0 < c := by rw [hc]; exact Nat.mul_pos hm (by omega)
  have e1 : 2 ^ 32 - c = 2 ^ 32 - ((c - 1) + 1) := by omega
  have e2 : c - 1 = 2 ^ m * (2 * k) + (2 ^ m - 1) := by
    rw [hc, Nat.mul_add, Nat.mul_one]; omega
  rw [Nat.testBit_and, e1, Nat.testBit_two_pow_sub_succ (by omega), e2, Nat.testBit_two_pow_mul_add _ (by omega)]
  have e3 : c.testBit j = if j < m then false else (2 * k + 1).testBit (j - m) := by
    have := Nat.testBit_two_pow_mul_add (2 * k + 1) (b := 0) (i := m) hm j
    rw [Nat.add_zero, ← hc, Nat.zero_testBit] at this
    exact this
  rw [e3]
  by_cases h : j < m
  · rw [if_pos h, Bool.false_and, decide_eq_false (show ¬ j = m by omega)]
  · rw [if_neg h, if_neg h]
    by_cases h2 : j = m
    · subst h2
      have h32 : j < 32 := by
        rcases Nat.lt_or_ge j 32 with g | g
        · exact g
        · have h5 : 2 ^ 32 ≤ 2 ^ j := Nat.pow_le_pow_right (by omega) g
          have h6 : 2 ^ j ≤ c := by rw [hc]; exact Nat.le_mul_of_pos_right _ (by omega)
          omega
      rw [Nat.sub_self, Nat.testBit_zero, Nat.testBit_zero, decide_eq_true (show (2 * k + 1) % 2 = 1 by omega), decide_eq_false (show ¬ 2 * k % 2 = 1 by omega), decide_eq_true h32]
      simp
    · obtain ⟨i, hi⟩ : ∃ i, j - m = i + 1 := ⟨j - m - 1, by omega⟩
      rw [hi, Nat.testBit_add_one, Nat.testBit_add_one, show (2 * k + 1) / 2 = k by omega, show 2 * k / 2 = k by omega, decide_eq_false h2]
      cases k.testBit i <;> simp
theorem low_ex (c : Nat) (h : 0 < c) : ∃ m k, c = 2 ^ m * (2 * k + 1) := by
  induction c using Nat.strongRecOn with
  | _ c ih =>
    by_cases h2 : c % 2 = 1
    · exact ⟨0, c / 2, by omega⟩
    · obtain ⟨m, k, e⟩ := ih (c / 2) (by omega) (by omega)
      refine ⟨m + 1, k, ?_⟩
      rw [Nat.pow_succ, Nat.mul_comm (2 ^ m) 2, Nat.mul_assoc, ← e]; omega
theorem low_hb {c : Int32} (h : ¬ c = 0) : ∃ m, hb c m = true ∧ (∀ j, hb c j = true → m ≤ j) ∧ ∀ j, hb (c &&& (-c)) j = true ↔ j = m := by
  have hp : 0 < tn c := by
    rcases Nat.eq_zero_or_pos (tn c) with g | g
    · exact absurd (hb_ext fun k _ => by rw [hb_tn, hb_tn, g]; rfl) h
    · exact g
  obtain ⟨m, k, e⟩ := low_ex (tn c) hp
  have hl : tn c < 2 ^ 32 := c.toBitVec.isLt
  have key : ∀ j, hb (c &&& (-c)) j = decide (j = m) := by
    intro j
    have : tn (c &&& (-c)) = tn c &&& (2 ^ 32 - tn c) := by
      unfold tn at *
      rw [Int32.toBitVec_and, BitVec.toNat_and, Int32.toBitVec_neg, BitVec.toNat_neg, Nat.mod_eq_of_lt (by omega)]
    rw [hb_tn, this, low_tb e hl]
  have hm : hb (c &&& (-c)) m = true := by rw [key]; exact decide_eq_true rfl
  refine ⟨m, (hba.mp hm).1, fun j hj => ?_, fun j => by rw [key, decide_eq_true_iff]⟩
  rcases Nat.lt_or_ge j m with g | g
  · exfalso
    have h1 : (tn c).testBit j = true := hj
    have := Nat.testBit_two_pow_mul_add (2 * k + 1) (b := 0) (i := m) (Nat.two_pow_pos m) j
    rw [Nat.add_zero, ← e, h1, if_pos g, Nat.zero_testBit] at this
    exact absurd this (by decide)
  · exact g
/-- a set that meets another is no less than that one's least bit -/
theorem low_le {c s : Int32} (h : ∃ k, hb s k = true ∧ hb c k = true) : tn (c &&& (-c)) ≤ tn (s &&& c) := by
  obtain ⟨k, h1, h2⟩ := h
  have hc : ¬ c = 0 := fun g => eq0_hb.mp g k h2
  obtain ⟨m, g1, g2, g3⟩ := low_hb hc
  have e1 : tn (c &&& (-c)) = 2 ^ m := by
    refine Nat.eq_of_testBit_eq fun j => ?_
    rw [Nat.testBit_two_pow, Bool.eq_iff_iff, decide_eq_true_iff]
    exact ⟨fun q => ((g3 j).mp q).symm, fun q => (g3 j).mpr q.symm⟩
  have e2 : 2 ^ k ≤ tn (s &&& c) := Nat.ge_two_pow_of_testBit (hba.mpr ⟨h1, h2⟩)
  have e3 : 2 ^ m ≤ 2 ^ k := Nat.pow_le_pow_right (by omega) (g2 k h2)
  omega
/-- the rank of a set -/
def rk (D s : Int32) : Nat := 65536 * bc (s &&& D) 32 + tn s
theorem rk_i {b : Nat} (hb' : b < 256) {s : Int32} (hs : bnd s 16) : ((nI b <<< ((16 : Int32) &&& 31)) ||| s) = nI (65536 * b + tn s) := by
  obtain ⟨t, ht, rfl⟩ := bnd_nI hs (by omega)
  rw [pk_shlN (n := b) ((16 : Int32) &&& 31) 16 (by decide) (by omega), nI_or (by omega) (by omega), tn_nI (by omega)]
  rw [show b * 2 ^ 16 = 2 ^ 16 * b by omega, ← Nat.two_pow_add_eq_or_of_lt ht]
