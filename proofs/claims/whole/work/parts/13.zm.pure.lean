/-! THE TEXT: reading -/
def cX (X : Zs) (a : Nat) : Zs := zp X 0 22 (nI a)
def cM (M : Zs) (a : Nat) : Zs := zp M 0 14 (nI a)
theorem cX_c (X : Zs) (a b : Nat) : zp (cX X a) 0 22 (nI b) = cX X b := zp_zp _ _ _ _ _
theorem cM_c (M : Zs) (a b : Nat) : zp (cM M a) 0 14 (nI b) = cM M b := zp_zp _ _ _ _ _
theorem cX_at (X : Zs) (a : Nat) : (cX X a).1 0 22 = nI a := zp_at _ _ _ _
theorem cM_at (M : Zs) (a : Nat) : (cM M a).1 0 14 = nI a := zp_at _ _ _ _
theorem cX_f (X : Zs) (a : Nat) {k : Nat} (h : k ≠ 22) : (cX X a).1 0 k = X.1 0 k := zp_off _ _ (Or.inr h)
theorem cM_f (M : Zs) (a : Nat) {k : Nat} (h : k ≠ 14) : (cM M a).1 0 k = M.1 0 k := zp_off _ _ (Or.inr h)
theorem cX_r (X : Zs) (a : Nat) {r : Nat} (h : r ≠ 0) : (cX X a).1 r = X.1 r := zp_row _ _ _ h
theorem cM_r (M : Zs) (a : Nat) {r : Nat} (h : r ≠ 0) : (cM M a).1 r = M.1 r := zp_row _ _ _ h
def XB (X : Zs) (sg : Nat → Nat) (L : Nat) : Prop := X.1 0 21 = nI L ∧ L ≤ 80 ∧ ∀ i, i < L → X.1 2 i = nI (sg i) ∧ sg i < 256
def MB (M : Zs) (sg : Nat → Nat) (L : Nat) : Prop := M.1 0 15 = nI (min L 76) ∧ L ≤ 80 ∧ ∀ i, i < L → M.1 5 i = nI (sg i) ∧ sg i < 256
def tkB (sg : Nat → Nat) (T a c : Nat) : Bool := decide (a < T) && decide (sg a = c)
def wiB (sg : Nat → Nat) (T a lo hi : Nat) : Bool := decide (a < T) && (decide (lo ≤ sg a) && decide (sg a ≤ hi))
theorem x_peek {F : Nat} {X : Zs} {sg : Nat → Nat} {L a : Nat} (h : XB X sg L) (ha : a ≤ min L 76) : n_X8_peek_1 F (cX X a) = some (if a < min L 76 then nI (sg a) else -1, cX X a) := by
  obtain ⟨h1, h2, h3⟩ := h
  unfold n_X8_peek_1 n_X8_peek_1_e n_X8_peek_1_b32 n_X8_peek_1_b33
  simp only [zgS]
  rw [cX_at, cX_f X a (by decide), h1]
  by_cases g1 : L ≤ a
  · rw [if_pos (nI_le g1 (by omega)), if_neg (by omega)]
  · rw [if_neg (nI_ge (by omega) (by omega))]
    by_cases g2 : 76 ≤ a
    · rw [if_pos (show (76 : Int32) ≤ nI a from nI_le (a := 76) g2 (by omega)), if_neg (by omega)]
    · rw [if_neg (show ¬ (76 : Int32) ≤ nI a from nI_ge (b := 76) (by omega) (by omega)), zld_nI _ _ _ (show a < 80 by omega) (by omega), cX_r X a (by decide), (h3 a (by omega)).1, if_pos (by omega)]
theorem x_take {F : Nat} {X : Zs} {sg : Nat → Nat} {L a c : Nat} (h : XB X sg L) (ha : a ≤ min L 76) (hc : c < 256) : n_X8_take_1 F (cX X a) (nI c) = some (bI (tkB sg (min L 76) a c = true), cX X (a + (tkB sg (min L 76) a c).toNat)) := by
  unfold n_X8_take_1 n_X8_take_1_e tkB
  rw [x_peek h ha, zcS, zgS, zpS, cX_at, nI_1, cX_c, zrb_0, zrb_1]
  by_cases g : a < min L 76
  · have hs := (h.2.2 a (by omega)).2
    rw [if_pos g, decide_eq_true g, Bool.true_and]
    by_cases g2 : sg a = c
    · rw [if_pos (by rw [g2]), decide_eq_true g2]; rfl
    · rw [if_neg (fun w => g2 ((nI_eq (by omega) (by omega)).mp w)), decide_eq_false g2]; rfl
  · rw [if_neg g, decide_eq_false g, if_neg (fun w => nI_ne_m1 (show c < 2 ^ 31 by omega) w.symm)]; rfl
theorem m_takes {F : Nat} {M : Zs} {sg : Nat → Nat} {L a c : Nat} (h : MB M sg L) (ha : a ≤ min L 76) (hc : c < 256) : n_X12_takes_0 F (cM M a) (nI c) = some (bI (tkB sg (min L 76) a c = true), cM M (a + (tkB sg (min L 76) a c).toNat)) := by
  obtain ⟨h1, h2, h3⟩ := h
  have b29 : ∀ b : Bool, n_X12_takes_0_b29 F (cM M a) (bI (b = true)) = some (bI (b = true), cM M (a + b.toNat)) := by
    intro b
    unfold n_X12_takes_0_b29
    rw [zgS, e_flag_b, zcS, zpS, cM_at, zrb_b]
    cases b
    · rw [show bI (false = true) = nI 0 from rfl, nI_add, cM_c]; rfl
    · rw [show bI (true = true) = nI 1 from rfl, nI_add, cM_c]; rfl
  have b1 : n_X12_takes_0_b29 F (cM M a) 1 = some (1, cM M (a + 1)) := b29 true
  have b0 : n_X12_takes_0_b29 F (cM M a) 0 = some (0, cM M (a + 0)) := b29 false
  unfold n_X12_takes_0 n_X12_takes_0_e n_X12_takes_0_b28 tkB
  simp only [zgS]
  rw [cM_at, cM_f M a (by decide), h1, b1, b0]
  by_cases g : a < min L 76
  · have hs := (h3 a (by omega)).2
    rw [if_neg (nI_ge g (by omega)), zld_nI _ _ _ (show a < 80 by omega) (by omega), cM_r M a (by decide), (h3 a (by omega)).1, decide_eq_true g, Bool.true_and]
    by_cases g2 : sg a = c
    · rw [if_pos (by rw [g2]), decide_eq_true g2]; rfl
    · rw [if_neg (fun w => g2 ((nI_eq (by omega) (by omega)).mp w)), decide_eq_false g2]; rfl
  · rw [if_pos (nI_le (by omega) (by omega)), decide_eq_false g]; rfl
theorem x_within {F : Nat} {X : Zs} {sg : Nat → Nat} {L a lo hi : Nat} (h : XB X sg L) (ha : a ≤ min L 76) (h1 : lo < 256) (h2 : hi < 256) : n_X8_takeWithin_1 F (cX X a) (nI lo) (nI hi) = some (if wiB sg (min L 76) a lo hi = true then nI (sg a - lo) else -1, cX X (a + (wiB sg (min L 76) a lo hi).toNat)) := by
  unfold n_X8_takeWithin_1 n_X8_takeWithin_1_e n_X8_takeWithin_1_b15 wiB
  rw [x_peek h ha, zcS, zgS, zpS, cX_at, nI_1, cX_c]
  by_cases g : a < min L 76
  · have hs := (h.2.2 a (by omega)).2
    rw [if_pos g, decide_eq_true g, Bool.true_and]
    simp (disch := omega) only [nI_lt_iff, nI_le_iff]
    by_cases g1 : sg a < lo
    · rw [if_pos g1, decide_eq_false (show ¬ lo ≤ sg a by omega)]; rfl
    · rw [if_neg g1, decide_eq_true (show lo ≤ sg a by omega), Bool.true_and]
      by_cases g2 : sg a ≤ hi
      · rw [if_pos g2, decide_eq_true g2, pk_sub (by omega)]; rfl
      · rw [if_neg g2, decide_eq_false g2]; rfl
  · have hneg : (-1 : Int32) < nI lo := by
      rw [Int32.lt_iff_toInt_lt, nI_toInt (by omega)]
      exact Int.lt_of_lt_of_le (show (-1 : Int32).toInt < 0 by decide) (Int.natCast_nonneg lo)
    rw [if_neg g, decide_eq_false g, if_pos hneg]; rfl
theorem m_isDigit {F : Nat} {M : Zs} {sg : Nat → Nat} {L a : Nat} (h : MB M sg L) (ha : a ≤ min L 76) : n_X12_isDigit_0 F (cM M a) = some (bI (wiB sg (min L 76) a 48 57 = true), cM M a) := by
  obtain ⟨h1, h2, h3⟩ := h
  have hin : ∀ (S : Zs) (x : Int32), n_X12_in F S x.toInt64 48 57 = some (bI (¬ x < 48 ∧ ¬ 57 < x), S) := fun S x => e_X12_in F S x 48 57
  unfold n_X12_isDigit_0 n_X12_isDigit_0_e n_X12_isDigit_0_b37 n_X12_isDigit_0_b38 wiB
  simp only [zgS]
  rw [cM_at, cM_f M a (by decide), h1]
  by_cases g : a < min L 76
  · have hs := (h3 a (by omega)).2
    rw [if_neg (nI_ge g (by omega)), zld_nI _ _ _ (show a < 80 by omega) (by omega), cM_r M a (by decide), (h3 a (by omega)).1, hin, zcS, decide_eq_true g, Bool.true_and, zrb_0, zrb_1]
    have q1 : nI (sg a) < (48 : Int32) ↔ sg a < 48 := nI_lt_iff (b := 48) (by omega) (by omega)
    have q2 : (57 : Int32) < nI (sg a) ↔ 57 < sg a := nI_lt_iff (a := 57) (by omega) (by omega)
    by_cases g1 : 48 ≤ sg a
    · by_cases g2 : sg a ≤ 57
      · rw [if_neg (show ¬ bI (¬ nI (sg a) < 48 ∧ ¬ 57 < nI (sg a)) = 0 by rw [bI_t ⟨fun w => by have := q1.mp w; omega, fun w => by have := q2.mp w; omega⟩]; decide), decide_eq_true g1, decide_eq_true g2]; rfl
      · rw [if_pos (bI_f (fun w => w.2 (q2.mpr (by omega)))), decide_eq_true g1, decide_eq_false g2]; rfl
    · rw [if_pos (bI_f (fun w => w.1 (q1.mpr (by omega)))), decide_eq_false g1]; rfl
  · rw [if_pos (nI_le (by omega) (by omega)), decide_eq_false g, zrb_0]; rfl
theorem m_digit {F : Nat} {M : Zs} {sg : Nat → Nat} {L a k : Nat} (h : MB M sg L) (ha : a ≤ min L 76) (hk : k ≤ 9) : n_X12_digit_0 F (cM M a) (nI k) = some (if wiB sg (min L 76) a 48 (48 + k) = true then nI (sg a - 48) else -1, cM M (a + (wiB sg (min L 76) a 48 (48 + k)).toNat)) := by
  unfold n_X12_digit_0 n_X12_digit_0_e n_X12_digit_0_b23
  rw [m_isDigit h ha, zcS]
  obtain ⟨h1, h2, h3⟩ := h
  simp only [zgS, zpS]
  rw [cM_at, nI_1, cM_c, cM_at, nI_pred]
  unfold wiB
  by_cases g : a < min L 76
  · have hs := (h3 a (by omega)).2
    rw [decide_eq_true g, Bool.true_and, Bool.true_and, zld_nI _ _ _ (show a < 80 by omega) (by omega), zld_nI _ _ _ (show a < 80 by omega) (by omega), cM_r M _ (by decide), cM_r M _ (by decide), (h3 a (by omega)).1]
    by_cases g1 : 48 ≤ sg a
    · rw [decide_eq_true g1, Bool.true_and, Bool.true_and, show nI (sg a) - 48 = nI (sg a - 48) from pk_sub (b := 48) g1]
      by_cases g2 : sg a ≤ 57
      · rw [decide_eq_true g2, bI_t rfl, if_neg (by decide)]
        by_cases g3 : sg a ≤ 48 + k
        · rw [if_pos (nI_le (by omega) (by omega)), decide_eq_true g3]; rfl
        · rw [if_neg (nI_ge (by omega) (by omega)), decide_eq_false g3]; rfl
      · rw [decide_eq_false g2, bI_f (by decide), if_pos rfl, decide_eq_false (show ¬ sg a ≤ 48 + k by omega)]; rfl
    · rw [decide_eq_false g1]; rfl
  · rw [decide_eq_false g]; rfl
def frV (sg : Nat → Nat) (T a : Nat) : Option Nat := if a < T then (if sg a = 65 then some 0 else if sg a = 69 then some 1 else if sg a = 73 then some 2 else if sg a = 79 then some 3 else none) else none
theorem frV_lt {sg : Nat → Nat} {T a f : Nat} (h : frV sg T a = some f) : f < 4 ∧ a < T := by
  unfold frV at h
  split at h
  · rename_i g
    refine ⟨?_, g⟩
    split at h
    · rw [← Option.some.inj h]; omega
    · split at h
      · rw [← Option.some.inj h]; omega
      · split at h
        · rw [← Option.some.inj h]; omega
        · split at h
          · rw [← Option.some.inj h]; omega
          · exact absurd h (by simp)
  · exact absurd h (by simp)
theorem x_takeForm {F : Nat} {X : Zs} {sg : Nat → Nat} {L a : Nat} (h : XB X sg L) (ha : a ≤ min L 76) : n_X8_takeForm_1 F (cX X a) = some (oN (frV sg (min L 76) a), cX X (a + (frV sg (min L 76) a).isSome.toNat)) := by
  have t := fun c hc => x_take (F := F) (c := c) h ha hc
  have t65 : n_X8_take_1 F (cX X a) 65 = _ := t 65 (by omega)
  have t69 : n_X8_take_1 F (cX X a) 69 = _ := t 69 (by omega)
  have t73 : n_X8_take_1 F (cX X a) 73 = _ := t 73 (by omega)
  have t79 : n_X8_take_1 F (cX X a) 79 = _ := t 79 (by omega)
  unfold n_X8_takeForm_1 n_X8_takeForm_1_e n_X8_takeForm_1_b47 frV
  have z0 : ∀ b : Bool, b = false → cX X (a + b.toNat) = cX X a := fun b hb => by rw [hb]; rfl
  rw [t65, zcS]
  by_cases g : a < min L 76
  · have z : ∀ c, tkB sg (min L 76) a c = decide (sg a = c) := fun c => by unfold tkB; rw [decide_eq_true g, Bool.true_and]
    rw [z] at t69 t73 t79 ⊢
    rw [if_pos g]
    by_cases g1 : sg a = 65
    · rw [if_pos g1, decide_eq_true g1]; rfl
    · rw [if_neg g1, decide_eq_false g1, bI_f (by decide), if_pos rfl, z0 _ rfl, t69, zcS]
      by_cases g2 : sg a = 69
      · rw [if_pos g2, decide_eq_true g2]; rfl
      · rw [if_neg g2, decide_eq_false g2, bI_f (by decide), if_pos rfl, z0 _ rfl, t73, zcS]
        by_cases g3 : sg a = 73
        · rw [if_pos g3, decide_eq_true g3]; rfl
        · rw [if_neg g3, decide_eq_false g3, bI_f (by decide), if_pos rfl, z0 _ rfl, t79, zcS]
          by_cases g4 : sg a = 79
          · rw [if_pos g4, decide_eq_true g4]; rfl
          · rw [if_neg g4, decide_eq_false g4]; rfl
  · have z : ∀ c, tkB sg (min L 76) a c = false := fun c => by unfold tkB; rw [decide_eq_false g, Bool.false_and]
    rw [z] at t69 t73 t79 ⊢
    rw [if_neg g, bI_f (by decide), if_pos rfl, z0 _ rfl, t69, zcS, bI_f (by decide), if_pos rfl, z0 _ rfl, t73, zcS, bI_f (by decide), if_pos rfl, z0 _ rfl, t79, zcS]; rfl
def aev (f : Nat) : Nat := ([65, 69, 73, 79] : List Nat).getD f 0
theorem m_chrF {F : Nat} (S : Zs) {k : Nat} (h : k < 4) : n_J0_charAt_5068e_30_m F S (nI k) = some (nI (aev k), S) := by
  rcases (show k = 0 ∨ k = 1 ∨ k = 2 ∨ k = 3 by omega) with rfl | rfl | rfl | rfl <;> rfl
theorem m_formAt {F : Nat} (hF : 2 ^ 40 < F) {M : Zs} {sg : Nat → Nat} {L a : Nat} (h : MB M sg L) (ha : a ≤ min L 76) : n_X12_formAt_0 F (cM M a) = some (oN (frV sg (min L 76) a), cM M a) := by
  obtain ⟨h1, h2, h3⟩ := h
  obtain ⟨v, hv, ev⟩ : ∃ v, (v = oN (frV sg (min L 76) a)) ∧ n_X12_formAt_0 F (cM M a) = some (v, cM M a) :=
    zfix_for (f := fun (rc : (Zs × Int32) → Option (Int32 × Zs)) (u : (Zs × Int32)) => n_X12_formAt_0_b5_l F  (fun S x2 => rc (S, x2)) u.1 u.2) 4 (fun i s => s = (cM M a, nI i) ∧ (a < min L 76 → ∀ j, j < i → ¬ sg a = aev j)) (fun v : Int32 => v = oN (frV sg (min L 76) a)) (fun v => some (v, cM M a)) (by
      rintro i _ hi ⟨rfl, hI⟩
      have e : ∀ rc : (Zs × Int32) → Option (Int32 × Zs), n_X12_formAt_0_b5_l F (fun S x2 => rc (S, x2)) (cM M a) (nI i) = if a < min L 76 then (if aev i = sg a then some (nI i, cM M a) else rc (cM M a, nI (i + 1))) else some (-1, cM M a) := by
        intro rc
        unfold n_X12_formAt_0_b5_l n_X12_formAt_0_b46
        rw [if_neg (show ¬ (4 : Int32) ≤ nI i from nI_ge (b := 4) hi (by omega))]
        simp only [zgS]
        rw [cM_at, cM_f M a (by decide), h1, m_chrF _ hi, zcS, cM_at]
        by_cases g : a < min L 76
        · have hs := (h3 a (by omega)).2
          have ha' : aev i < 256 := (show ∀ i, i < 4 → aev i < 256 by decide) i hi
          rw [if_neg (nI_ge g (by omega)), zld_nI _ _ _ (show a < 80 by omega) (by omega), cM_r M a (by decide), (h3 a (by omega)).1, if_pos g, zlS, nI_1]
          by_cases g2 : aev i = sg a
          · rw [if_pos (by rw [g2]), if_pos g2]
          · rw [if_neg (fun w => g2 ((nI_eq (by omega) (by omega)).mp w)), if_neg g2]
        · rw [if_pos (nI_le (by omega) (by omega)), if_neg g]
      by_cases g : a < min L 76
      · have hno := hI g
        by_cases g2 : aev i = sg a
        · refine Or.inl ⟨nI i, ?_, fun rc => (e rc).trans (by rw [if_pos g, if_pos g2])⟩
          unfold frV
          rw [if_pos g]
          rcases (show i = 0 ∨ i = 1 ∨ i = 2 ∨ i = 3 by omega) with rfl | rfl | rfl | rfl
          · rw [if_pos (show sg a = 65 from g2.symm)]; rfl
          · rw [if_neg (show ¬ sg a = 65 from hno 0 (by omega)), if_pos (show sg a = 69 from g2.symm)]; rfl
          · rw [if_neg (show ¬ sg a = 65 from hno 0 (by omega)), if_neg (show ¬ sg a = 69 from hno 1 (by omega)), if_pos (show sg a = 73 from g2.symm)]; rfl
          · rw [if_neg (show ¬ sg a = 65 from hno 0 (by omega)), if_neg (show ¬ sg a = 69 from hno 1 (by omega)), if_neg (show ¬ sg a = 73 from hno 2 (by omega)), if_pos (show sg a = 79 from g2.symm)]; rfl
        · refine Or.inr ⟨_, ⟨rfl, fun _ j hj => ?_⟩, fun rc => (e rc).trans (by rw [if_pos g, if_neg g2])⟩
          by_cases q : j = i
          · rw [q]; exact fun w => g2 w.symm
          · exact hno j (by omega)
      · refine Or.inl ⟨-1, ?_, fun rc => (e rc).trans (if_neg g)⟩
        unfold frV
        rw [if_neg g]; rfl) (by
      rintro _ ⟨rfl, hI⟩
      refine ⟨-1, ?_, fun rc => ?_⟩
      · unfold frV
        by_cases g : a < min L 76
        · have hno := hI g
          rw [if_pos g, if_neg (show ¬ sg a = 65 from hno 0 (by omega)), if_neg (show ¬ sg a = 69 from hno 1 (by omega)), if_neg (show ¬ sg a = 73 from hno 2 (by omega)), if_neg (show ¬ sg a = 79 from hno 3 (by omega))]; rfl
        · rw [if_neg g]; rfl
      · show n_X12_formAt_0_b5_l F (fun S x2 => rc (S, x2)) (cM M a) (nI 4) = _
        unfold n_X12_formAt_0_b5_l n_X12_formAt_0_b46
        rw [if_pos (show (4 : Int32) ≤ nI 4 from nI_le (a := 4) (by omega) (by omega))]) F (cM M a, 0) ⟨rfl, fun _ j hj => absurd hj (by omega)⟩ (by omega)
  rw [ev, hv]
/-- a term: what it is, and where one is then -/
def tmV (sg : Nat → Nat) (T a : Nat) : Option Nat × Nat := if wiB sg T (a + (tkB sg T a 45).toNat) 97 108 = true then (some (2 * (sg (a + (tkB sg T a 45).toNat) - 97) + (tkB sg T a 45).toNat), a + (tkB sg T a 45).toNat + 1) else (none, a + (tkB sg T a 45).toNat)
theorem wiB_t {sg : Nat → Nat} {T a lo hi : Nat} (h : wiB sg T a lo hi = true) : a < T ∧ lo ≤ sg a ∧ sg a ≤ hi := by
  unfold wiB at h
  rw [Bool.and_eq_true, Bool.and_eq_true, decide_eq_true_iff, decide_eq_true_iff, decide_eq_true_iff] at h
  exact h
theorem tkB_t {sg : Nat → Nat} {T a c : Nat} (h : tkB sg T a c = true) : a < T ∧ sg a = c := by
  unfold tkB at h
  rw [Bool.and_eq_true, decide_eq_true_iff, decide_eq_true_iff] at h
  exact h
theorem tk_le {sg : Nat → Nat} {T a c : Nat} (h : a ≤ T) : a + (tkB sg T a c).toNat ≤ T := by
  cases e : tkB sg T a c with
  | false => exact h
  | true => exact (tkB_t e).1
theorem wi_le {sg : Nat → Nat} {T a lo hi : Nat} (h : a ≤ T) : a + (wiB sg T a lo hi).toNat ≤ T := by
  cases e : wiB sg T a lo hi with
  | false => exact h
  | true => exact (wiB_t e).1
theorem tmV_le {sg : Nat → Nat} {T a : Nat} (h : a ≤ T) : (tmV sg T a).2 ≤ T ∧ a ≤ (tmV sg T a).2 ∧ ∀ x, (tmV sg T a).1 = some x → x < 24 ∧ a + 1 ≤ (tmV sg T a).2 := by
  have h1 := tk_le (sg := sg) (c := 45) h
  unfold tmV
  have hb : (tkB sg T a 45).toNat ≤ 1 := by cases tkB sg T a 45 <;> decide
  split
  · rename_i g
    obtain ⟨g1, g2, g3⟩ := wiB_t g
    refine ⟨g1, by omega, fun x hx => ?_⟩
    have := Option.some.inj hx
    exact ⟨by omega, by omega⟩
  · exact ⟨h1, by omega, fun x hx => absurd hx (by simp)⟩
theorem x_takeTerm {F : Nat} {X : Zs} {sg : Nat → Nat} {L a : Nat} (h : XB X sg L) (ha : a ≤ min L 76) : n_X8_takeTerm_1 F (cX X a) = some (oN (tmV sg (min L 76) a).1, cX X (tmV sg (min L 76) a).2) := by
  have t45 : n_X8_take_1 F (cX X a) 45 = _ := x_take (F := F) (c := 45) h ha (by omega)
  have h1 := tk_le (sg := sg) (c := 45) ha
  unfold n_X8_takeTerm_1 n_X8_takeTerm_1_e n_X8_takeTerm_1_b14 n_X8_takeTerm_1_b38 tmV
  have w : n_X8_takeWithin_1 F (cX X (a + (tkB sg (min L 76) a 45).toNat)) 97 108 = _ := x_within (F := F) (lo := 97) (hi := 108) h h1 (by omega) (by omega)
  rw [t45, zcS, w, zcS, zcS]
  generalize hp : a + (tkB sg (min L 76) a 45).toNat = p at *
  have e2 : ∀ k : Nat, (2 : Int32) * nI (sg p - 97) + nI k = nI (2 * (sg p - 97) + k) := fun k => by rw [tw, nI_add]
  cases e : wiB sg (min L 76) p 97 108 with
  | true =>
    obtain ⟨g1, g2, g3⟩ := wiB_t e
    rw [if_pos (show true = true from rfl), if_pos (show true = true from rfl)]
    cases eb : tkB sg (min L 76) a 45 with
    | true =>
      rw [if_neg (show ¬ bI (true = true) = 0 by decide), if_neg (nI_ne_m1 (by omega))]
      exact congrArg (fun v => some (v, cX X (p + 1))) (e2 1)
    | false =>
      rw [if_pos (show bI (false = true) = 0 by decide), if_neg (nI_ne_m1 (by omega))]
      exact congrArg (fun v => some (v, cX X (p + 1))) (e2 0)
  | false =>
    rw [if_neg (show ¬ false = true by decide), if_neg (show ¬ false = true by decide)]
    cases tkB sg (min L 76) a 45 <;> rfl
theorem m_term {F : Nat} {M : Zs} {sg : Nat → Nat} {L a : Nat} (h : MB M sg L) (ha : a ≤ min L 76) : n_X12_term_0 F (cM M a) = some (oN (tmV sg (min L 76) a).1, cM M (tmV sg (min L 76) a).2) := by
  have t45 : n_X12_takes_0 F (cM M a) 45 = _ := m_takes (F := F) (c := 45) h ha (by omega)
  have h1 := tk_le (sg := sg) (c := 45) ha
  have hin : ∀ (S : Zs) (x : Int32), n_X12_in F S x.toInt64 97 108 = some (bI (¬ x < 97 ∧ ¬ 108 < x), S) := fun S x => e_X12_in F S x 97 108
  unfold n_X12_term_0 n_X12_term_0_e n_X12_term_0_b43 tmV
  rw [t45, zcS, e_flag_b, zcS]
  simp only [zgS, zpS]
  obtain ⟨m1, m2, m3⟩ := h
  rw [cM_at, cM_f M _ (by decide), m1]
  have hb0 : bI (tkB sg (min L 76) a 45 = true) = nI (tkB sg (min L 76) a 45).toNat := bI_hb _
  rw [hb0]
  generalize hp : a + (tkB sg (min L 76) a 45).toNat = p at *
  unfold wiB
  by_cases g : p < min L 76
  · have hs := (m3 p (by omega)).2
    have q1 : nI (sg p) < (97 : Int32) ↔ sg p < 97 := nI_lt_iff (b := 97) (by omega) (by omega)
    have q2 : (108 : Int32) < nI (sg p) ↔ 108 < sg p := nI_lt_iff (a := 108) (by omega) (by omega)
    rw [if_neg (nI_ge g (by omega)), zld_nI _ _ _ (show p < 80 by omega) (by omega), cM_r M p (by decide), (m3 p (by omega)).1, hin, zcS, cM_at, nI_1, cM_c, cM_at, nI_pred, zld_nI _ _ _ (show p < 80 by omega) (by omega), cM_r M _ (by decide), (m3 p (by omega)).1, decide_eq_true g, Bool.true_and]
    by_cases g1 : 97 ≤ sg p
    · by_cases g2 : sg p ≤ 108
      · rw [if_neg (show ¬ bI (¬ nI (sg p) < 97 ∧ ¬ 108 < nI (sg p)) = 0 by rw [bI_t ⟨fun w => by have := q1.mp w; omega, fun w => by have := q2.mp w; omega⟩]; decide), decide_eq_true g1, decide_eq_true g2, if_pos (show (true && true) = true from rfl), show nI (sg p) - 97 = nI (sg p - 97) from pk_sub (b := 97) g1, tw, nI_add]; rfl
      · rw [if_pos (bI_f (fun w => w.2 (q2.mpr (by omega)))), decide_eq_true g1, decide_eq_false g2, if_neg (show ¬ (true && false) = true by decide)]; rfl
    · rw [if_pos (bI_f (fun w => w.1 (q1.mpr (by omega)))), decide_eq_false g1, if_neg (show ¬ (false && decide (sg p ≤ 108)) = true from fun w => absurd w (by rw [Bool.false_and]; decide))]; rfl
  · rw [if_pos (nI_le (by omega) (by omega)), decide_eq_false g, if_neg (show ¬ (false && (decide (97 ≤ sg p) && decide (sg p ≤ 108))) = true from fun w => absurd w (by rw [Bool.false_and]; decide))]; rfl
/-- a saying -/
def cdV (sg : Nat → Nat) (T a : Nat) : Option Nat × Nat := match frV sg T a with
  | none => (none, a)
  | some f => match tmV sg T (a + 1) with
    | (none, p) => (none, p)
    | (some x, p) => match tmV sg T p with
      | (none, q) => (none, q)
      | (some y, q) => (some (576 * f + 24 * x + y), q)
theorem cdV_le {sg : Nat → Nat} {T a : Nat} (h : a ≤ T) : (cdV sg T a).2 ≤ T ∧ a ≤ (cdV sg T a).2 ∧ ∀ c, (cdV sg T a).1 = some c → c < 2304 ∧ a + 3 ≤ (cdV sg T a).2 := by
  unfold cdV
  cases e1 : frV sg T a with
  | none => exact ⟨h, Nat.le_refl _, fun c hc => absurd hc (by simp)⟩
  | some f =>
    obtain ⟨f1, f2⟩ := frV_lt e1
    have t1 := tmV_le (sg := sg) (show a + 1 ≤ T from f2)
    dsimp only
    generalize tmV sg T (a + 1) = r1 at *
    obtain ⟨x, p⟩ := r1
    cases x with
    | none => exact ⟨t1.1, by have := t1.2.1; dsimp only at this ⊢; omega, fun c hc => absurd hc (by simp)⟩
    | some x =>
      obtain ⟨x1, x2⟩ := t1.2.2 x rfl
      have t2 := tmV_le (sg := sg) (show p ≤ T from t1.1)
      dsimp only at x2 ⊢
      generalize tmV sg T p = r2 at *
      obtain ⟨y, q⟩ := r2
      cases y with
      | none => exact ⟨t2.1, by have := t2.2.1; dsimp only at this ⊢; omega, fun c hc => absurd hc (by simp)⟩
      | some y =>
        obtain ⟨y1, y2⟩ := t2.2.2 y rfl
        dsimp only at y2 ⊢
        refine ⟨t2.1, by omega, fun c hc => ?_⟩
        have := Option.some.inj hc
        exact ⟨by omega, by omega⟩
theorem x_takeCode {F : Nat} {X : Zs} {sg : Nat → Nat} {L a : Nat} (h : XB X sg L) (ha : a ≤ min L 76) : n_X8_takeCode_1 F (cX X a) = some (oN (cdV sg (min L 76) a).1, cX X (cdV sg (min L 76) a).2) := by
  unfold n_X8_takeCode_1 n_X8_takeCode_1_e n_X8_takeCode_1_b18 n_X8_takeCode_1_b32 n_X8_takeCode_1_b48 cdV
  rw [x_takeForm h ha, zcS]
  cases e1 : frV sg (min L 76) a with
  | none =>
    show (if (-1 : Int32) = -1 then _ else _) = _
    rw [if_pos rfl, if_pos rfl, if_pos rfl]; rfl
  | some f =>
    obtain ⟨f1, f2⟩ := frV_lt e1
    have t1 := tmV_le (sg := sg) (show a + 1 ≤ min L 76 from f2)
    have k1 := x_takeTerm (F := F) h (show a + 1 ≤ min L 76 from f2)
    show (if nI f = -1 then _ else zcl (n_X8_takeTerm_1 F (cX X (a + 1))) _) = _
    rw [if_neg (nI_ne_m1 (by omega)), k1, zcS]
    dsimp only
    generalize tmV sg (min L 76) (a + 1) = r1 at *
    obtain ⟨x, p⟩ := r1
    cases x with
    | none =>
      show (if (-1 : Int32) = -1 then _ else _) = _
      rw [if_pos rfl, if_pos rfl]; rfl
    | some x =>
      obtain ⟨x1, x2⟩ := t1.2.2 x rfl
      have t2 := tmV_le (sg := sg) (show p ≤ min L 76 from t1.1)
      have k2 := x_takeTerm (F := F) h (show p ≤ min L 76 from t1.1)
      show (if nI x = -1 then _ else zcl (n_X8_takeTerm_1 F (cX X p)) _) = _
      rw [if_neg (nI_ne_m1 (by omega)), k2, zcS]
      dsimp only
      generalize tmV sg (min L 76) p = r2 at *
      obtain ⟨y, q⟩ := r2
      cases y with
      | none =>
        show (if (-1 : Int32) = -1 then _ else _) = _
        rw [if_pos rfl]; rfl
      | some y =>
        obtain ⟨y1, y2⟩ := t2.2.2 y rfl
        show (if nI y = -1 then _ else zcl (n_X0_make F (cX X q) (nI f) (nI x) (nI y)) _) = _
        rw [if_neg (nI_ne_m1 (by omega)), n_mk, zcS]; rfl
theorem m_readsCode {F : Nat} (hF : 2 ^ 40 < F) {M : Zs} {sg : Nat → Nat} {L a : Nat} (h : MB M sg L) (ha : a ≤ min L 76) : n_X12_readsCode_0 F (cM M a) = some (oN (cdV sg (min L 76) a).1, cM M (cdV sg (min L 76) a).2) := by
  unfold n_X12_readsCode_0 n_X12_readsCode_0_e n_X12_readsCode_0_b38 n_X12_readsCode_0_b53 cdV
  rw [m_formAt hF h ha, zcS]
  simp only [zgS, zpS]
  rw [cM_at, nI_1, cM_c]
  have hm : ¬ (0 : Int32) ≤ -1 := by decide
  have hn : ∀ k : Nat, k < 2 ^ 31 → (0 : Int32) ≤ nI k := fun k hk => Int32.not_lt.mp (nI_pos hk)
  cases e1 : frV sg (min L 76) a with
  | none =>
    show (if (0 : Int32) ≤ -1 then _ else _) = _
    rw [if_neg hm]; rfl
  | some f =>
    obtain ⟨f1, f2⟩ := frV_lt e1
    have t1 := tmV_le (sg := sg) (show a + 1 ≤ min L 76 from f2)
    have k1 := m_term (F := F) h (show a + 1 ≤ min L 76 from f2)
    show (if (0 : Int32) ≤ nI f then zcl (n_X12_term_0 F (cM M (a + 1))) _ else _) = _
    rw [if_pos (hn f (by omega)), k1, zcS]
    dsimp only
    generalize tmV sg (min L 76) (a + 1) = r1 at *
    obtain ⟨x, p⟩ := r1
    cases x with
    | none =>
      show (if (0 : Int32) ≤ -1 then _ else _) = _
      rw [if_neg hm, if_neg hm]; rfl
    | some x =>
      obtain ⟨x1, x2⟩ := t1.2.2 x rfl
      have t2 := tmV_le (sg := sg) (show p ≤ min L 76 from t1.1)
      have k2 := m_term (F := F) h (show p ≤ min L 76 from t1.1)
      show (if (0 : Int32) ≤ nI x then zcl (n_X12_term_0 F (cM M p)) _ else _) = _
      rw [if_pos (hn x (by omega)), k2, zcS]
      dsimp only
      generalize tmV sg (min L 76) p = r2 at *
      obtain ⟨y, q⟩ := r2
      cases y with
      | none =>
        show (if (0 : Int32) ≤ -1 then _ else _) = _
        rw [if_neg hm]; rfl
      | some y =>
        obtain ⟨y1, y2⟩ := t2.2.2 y rfl
        show (if (0 : Int32) ≤ nI y then zcl (n_X12_codeOf F (cM M q) (nI f) (nI x) (nI y)) _ else _) = _
        rw [if_pos (hn y (by omega)), n_mkM, zcS]; rfl
