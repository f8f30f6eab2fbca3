/-! marks -/
theorem bc_cnt (v : Int32) (n : Nat) : bc v n = cnt (fun k => hb v k = true) n := by
  induction n with
  | zero => rfl
  | succ n ih =>
    rw [bc_s, ih]
    cases h : hb v n with
    | false => rw [cnt_f (by rw [h]; decide)]; rfl
    | true => rw [cnt_t h]; rfl
theorem bc_bnd {v : Int32} {p : Nat} (h : bnd v p) (hp : p ≤ 32) : bc v 32 = cnt (fun k => hb v k = true) p := by
  have h1 : tn v < 2 ^ p := h
  rw [← bc_cnt]
  unfold bc
  rw [show (32 : Nat) = p + (32 - p) by omega, bcn_top h1]
def Wn (w : Nat) (wc : Nat → Nat) (c : Nat) : Prop := ∃ i, i < w ∧ wc i = c
def Td (n : Nat) (cd : Nat → Nat) (c : Nat) : Prop := ∃ i, i < n ∧ cd i = c
def Ah (sc : Nat → Nat) (k : Nat) : Prop := ∃ i, i < k ∧ sc i = sc k
theorem Ex_s {P : Nat → Prop} {i : Nat} : (∃ j, j < i + 1 ∧ P j) ↔ (∃ j, j < i ∧ P j) ∨ P i := by
  constructor
  · rintro ⟨j, h1, h2⟩
    by_cases e : j = i
    · exact Or.inr (e ▸ h2)
    · exact Or.inl ⟨j, by omega, h2⟩
  · rintro (⟨j, h1, h2⟩ | h)
    · exact ⟨j, by omega, h2⟩
    · exact ⟨i, by omega, h⟩
theorem x_isWanted {F : Nat} (hF : 2 ^ 40 < F) {X : Zs} {w : Nat} {wc : Nat → Nat} (hW : WC X 6 68 w wc) {c : Nat} (hc : c < 2304) : ∃ r, isB r (Wn w wc c) ∧ n_X2_isWanted_3 F X (nI c) = some (r, X) := by
  obtain ⟨y1, y2, y3⟩ := hW
  exact zfix_for (f := fun (rc : (Zs × Int32 × Int32) → Option (Int32 × Zs)) (u : (Zs × Int32 × Int32)) => n_X2_isWanted_3_b2_l F  (fun S x1 x2 => rc (S, x1, x2)) u.1 u.2.1 u.2.2) w (fun i a => a = (X, nI c, nI i) ∧ ∀ j, j < i → ¬ wc j = c) (fun r : Int32 => isB r (Wn w wc c)) (fun r => some (r, X)) (by
    rintro i _ hi ⟨rfl, ha⟩
    obtain ⟨k1, k2⟩ := y3 i hi
    have e : ∀ rc : (Zs × Int32 × Int32) → Option (Int32 × Zs), n_X2_isWanted_3_b2_l F (fun S x1 x2 => rc (S, x1, x2)) X (nI c) (nI i) = if wc i = c then some (1, X) else rc (X, nI c, nI (i + 1)) := by
      intro rc
      unfold n_X2_isWanted_3_b2_l
      simp (disch := omega) only [zgf, y1, nI_le_iff, zld_nI, k1, nI_eq, zlet, nI_1, zrb_1]
      rw [if_neg (by omega)]
    by_cases h : wc i = c
    · exact Or.inl ⟨1, Or.inl ⟨rfl, i, hi, h⟩, fun rc => (e rc).trans (if_pos h)⟩
    · refine Or.inr ⟨(X, nI c, nI (i + 1)), ⟨rfl, fun j hj => ?_⟩, fun rc => (e rc).trans (if_neg h)⟩
      by_cases v : j = i
      · rw [v]; exact h
      · exact ha j (by omega)) (by
    rintro _ ⟨rfl, ha⟩
    refine ⟨0, Or.inr ⟨rfl, fun ⟨j, h1, h2⟩ => ha j h1 h2⟩, fun rc => ?_⟩
    show n_X2_isWanted_3_b2_l F (fun S x1 x2 => rc (S, x1, x2)) X (nI c) (nI w) = _
    unfold n_X2_isWanted_3_b2_l
    simp (disch := omega) only [zgf, y1, nI_le_iff]
    rw [if_pos (by omega), zrb_0]) F (X, nI c, 0) ⟨rfl, fun j hj => absurd hj (by omega)⟩ (by omega)
theorem x_isTold {F : Nat} (hF : 2 ^ 40 < F) {X : Zs} {n : Nat} {cd : Nat → Nat} (hX : XC X n cd) {c : Nat} (hc : c < 2304) : ∃ r, isB r (Td n cd c) ∧ n_X2_isTold_3 F X (nI c) = some (r, X) := by
  obtain ⟨y1, y2, y3⟩ := hX
  exact zfix_for (f := fun (rc : (Zs × Int32 × Int32) → Option (Int32 × Zs)) (u : (Zs × Int32 × Int32)) => n_X2_isTold_3_b2_l F  (fun S x1 x2 => rc (S, x1, x2)) u.1 u.2.1 u.2.2) n (fun i a => a = (X, nI c, nI i) ∧ ∀ j, j < i → ¬ cd j = c) (fun r : Int32 => isB r (Td n cd c)) (fun r => some (r, X)) (by
    rintro i _ hi ⟨rfl, ha⟩
    obtain ⟨k1, k2⟩ := y3 i hi
    have e : ∀ rc : (Zs × Int32 × Int32) → Option (Int32 × Zs), n_X2_isTold_3_b2_l F (fun S x1 x2 => rc (S, x1, x2)) X (nI c) (nI i) = if cd i = c then some (1, X) else rc (X, nI c, nI (i + 1)) := by
      intro rc
      unfold n_X2_isTold_3_b2_l
      simp (disch := omega) only [zgf, y1, nI_le_iff, zld_nI, k1, nI_eq, zlet, nI_1, zrb_1]
      rw [if_neg (by omega)]
    by_cases h : cd i = c
    · exact Or.inl ⟨1, Or.inl ⟨rfl, i, hi, h⟩, fun rc => (e rc).trans (if_pos h)⟩
    · refine Or.inr ⟨(X, nI c, nI (i + 1)), ⟨rfl, fun j hj => ?_⟩, fun rc => (e rc).trans (if_neg h)⟩
      by_cases v : j = i
      · rw [v]; exact h
      · exact ha j (by omega)) (by
    rintro _ ⟨rfl, ha⟩
    refine ⟨0, Or.inr ⟨rfl, fun ⟨j, h1, h2⟩ => ha j h1 h2⟩, fun rc => ?_⟩
    show n_X2_isTold_3_b2_l F (fun S x1 x2 => rc (S, x1, x2)) X (nI c) (nI n) = _
    unfold n_X2_isTold_3_b2_l
    simp (disch := omega) only [zgf, y1, nI_le_iff]
    rw [if_pos (by omega), zrb_0]) F (X, nI c, 0) ⟨rfl, fun j hj => absurd hj (by omega)⟩ (by omega)
theorem x_ahead {F : Nat} (hF : 2 ^ 40 < F) {X : Zs} {p k : Nat} {sc : Nat → Nat} (hk : k < p) (hp : p ≤ 24) (hT : ∀ i, i < p → X.1 42 i = nI (sc i) ∧ sc i < 2304) : ∃ r, isB r (Ah sc k) ∧ n_X3_isPleadedAhead_41 F X (nI k) = some (r, X) := by
  exact zfix_for (f := fun (rc : (Zs × Int32 × Int32) → Option (Int32 × Zs)) (u : (Zs × Int32 × Int32)) => n_X3_isPleadedAhead_41_b2_l F  (fun S x1 x2 => rc (S, x1, x2)) u.1 u.2.1 u.2.2) k (fun i a => a = (X, nI k, nI i) ∧ ∀ j, j < i → ¬ sc j = sc k) (fun r : Int32 => isB r (Ah sc k)) (fun r => some (r, X)) (by
    rintro i _ hi ⟨rfl, ha⟩
    obtain ⟨k1, k2⟩ := hT i (by omega)
    obtain ⟨k3, k4⟩ := hT k hk
    have e : ∀ rc : (Zs × Int32 × Int32) → Option (Int32 × Zs), n_X3_isPleadedAhead_41_b2_l F (fun S x1 x2 => rc (S, x1, x2)) X (nI k) (nI i) = if sc i = sc k then some (1, X) else rc (X, nI k, nI (i + 1)) := by
      intro rc
      unfold n_X3_isPleadedAhead_41_b2_l
      simp (disch := omega) only [nI_le_iff, zld_nI, k1, k3, nI_eq, zlet, nI_1, zrb_1]
      rw [if_neg (by omega)]
    by_cases h : sc i = sc k
    · exact Or.inl ⟨1, Or.inl ⟨rfl, i, hi, h⟩, fun rc => (e rc).trans (if_pos h)⟩
    · refine Or.inr ⟨(X, nI k, nI (i + 1)), ⟨rfl, fun j hj => ?_⟩, fun rc => (e rc).trans (if_neg h)⟩
      by_cases v : j = i
      · rw [v]; exact h
      · exact ha j (by omega)) (by
    rintro _ ⟨rfl, ha⟩
    refine ⟨0, Or.inr ⟨rfl, fun ⟨j, h1, h2⟩ => ha j h1 h2⟩, fun rc => ?_⟩
    show n_X3_isPleadedAhead_41_b2_l F (fun S x1 x2 => rc (S, x1, x2)) X (nI k) (nI k) = _
    unfold n_X3_isPleadedAhead_41_b2_l
    rw [if_pos (nI_le (by omega) (by omega)), zrb_0]) F (X, nI k, 0) ⟨rfl, fun j hj => absurd hj (by omega)⟩ (by omega)
theorem x_stepsOf {F : Nat} (hF : 2 ^ 40 < F) {X : Zs} {n p : Nat} {sc lw f1 : Nat → Nat} {f2 : Nat → Option Nat} (hP : Pls X 42 43 44 45 826 n p sc lw f1 f2) {l : Nat} (hl : l < 4) : ∃ v, isW v p (fun k => lw k = l) ∧ n_X3_stepsOf_41 F X (nI l) = some (v, X) := by
  obtain ⟨e1, hp, hn, hT⟩ := hP
  exact zfix_for (f := fun (rc : (Zs × Int32 × Int32 × Int32) → Option (Int32 × Zs)) (u : (Zs × Int32 × Int32 × Int32)) => n_X3_stepsOf_41_b4_l F  (fun S x1 x2 x3 => rc (S, x1, x2, x3)) u.1 u.2.1 u.2.2.1 u.2.2.2) p (fun i a => ∃ v, a = (X, nI l, v, nI i) ∧ isW v i (fun k => lw k = l)) (fun v : Int32 => isW v p (fun k => lw k = l)) (fun v => some (v, X)) (by
    rintro i _ hi ⟨v, rfl, hv⟩
    obtain ⟨-, -, k1, k2, -⟩ := hT i hi
    have e : ∀ rc : (Zs × Int32 × Int32 × Int32) → Option (Int32 × Zs), n_X3_stepsOf_41_b4_l F (fun S x1 x2 x3 => rc (S, x1, x2, x3)) X (nI l) v (nI i) = if lw i = l then rc (X, nI l, v ||| ((1 : Int32) <<< (nI i &&& 31)), nI (i + 1)) else rc (X, nI l, v, nI (i + 1)) := by
      intro rc
      unfold n_X3_stepsOf_41_b4_l n_X3_stepsOf_41_b28
      simp (disch := omega) only [zgf, e1, nI_le_iff, zld_nI, k1, nI_eq, zlet, nI_1]
      rw [if_neg (by omega)]
    by_cases h : lw i = l
    · exact Or.inr ⟨_, ⟨_, rfl, isW_t hv (by omega) h⟩, fun rc => (e rc).trans (if_pos h)⟩
    · exact Or.inr ⟨_, ⟨v, rfl, isW_f hv h⟩, fun rc => (e rc).trans (if_neg h)⟩) (by
    rintro _ ⟨v, rfl, hv⟩
    refine ⟨v, hv, fun rc => ?_⟩
    show n_X3_stepsOf_41_b4_l F (fun S x1 x2 x3 => rc (S, x1, x2, x3)) X (nI l) v (nI p) = _
    unfold n_X3_stepsOf_41_b4_l
    simp (disch := omega) only [zgf, e1, nI_le_iff]
    rw [if_pos (by omega)]) F (X, nI l, 0, 0) ⟨0, rfl, isW_0 _⟩ (by omega)
theorem x_cntW {F : Nat} (hF : 2 ^ 40 < F) {X : Zs} {n p w : Nat} {sc lw f1 wc : Nat → Nat} {f2 : Nat → Option Nat} (hP : Pls X 42 43 44 45 826 n p sc lw f1 f2) (hW : WC X 6 68 w wc) (b : Int32) : n_X3_countWanted_41 F X b = some (nI (cnt (fun k => hb b k = true ∧ Wn w wc (sc k)) p), X) := by
  obtain ⟨e1, hp, hn, hT⟩ := hP
  refine zfix_run (f := fun (rc : (Zs × Int32 × Int32 × Int32) → Option (Int32 × Zs)) (u : (Zs × Int32 × Int32 × Int32)) => n_X3_countWanted_41_b4_l F  (fun S x1 x2 x3 => rc (S, x1, x2, x3)) u.1 u.2.1 u.2.2.1 u.2.2.2) (fun i => (X, b, nI (cnt (fun k => hb b k = true ∧ Wn w wc (sc k)) i), nI i)) p (fun i hi rc => ?_) (fun rc => ?_) F (by omega)
  · obtain ⟨k1, k2, -⟩ := hT i hi
    obtain ⟨r, hr, er⟩ := x_isWanted hF hW k2
    have hct := @cnt_t (fun k => hb b k = true ∧ Wn w wc (sc k)) i
    have hcf := @cnt_f (fun k => hb b k = true ∧ Wn w wc (sc k)) i
    show n_X3_countWanted_41_b4_l F (fun S x1 x2 x3 => rc (S, x1, x2, x3)) X b (nI (cnt (fun k => hb b k = true ∧ Wn w wc (sc k)) i)) (nI i) = rc (X, b, nI (cnt (fun k => hb b k = true ∧ Wn w wc (sc k)) (i + 1)), nI (i + 1))
    generalize cnt (fun k => hb b k = true ∧ Wn w wc (sc k)) i = m at *
    unfold n_X3_countWanted_41_b4_l n_X3_countWanted_41_b39
    simp (disch := omega) only [zgf, e1, nI_le_iff, hb_sh0, zld_nI, k1, er, zcS, zlet, nI_1]
    rw [if_neg (by omega)]
    cases hbit : hb b i with
    | false => rw [if_pos rfl, hcf (fun g => by rw [hbit] at g; exact absurd g.1 (by decide))]
    | true =>
      rw [if_neg (by decide)]
      by_cases hw : Wn w wc (sc i)
      · rw [if_neg (fun g => (isB_0 hr).mp g hw), hct ⟨hbit, hw⟩]
      · rw [if_pos ((isB_0 hr).mpr hw), hcf (fun g => hw g.2)]
  · show n_X3_countWanted_41_b4_l F (fun S x1 x2 x3 => rc (S, x1, x2, x3)) X b (nI (cnt (fun k => hb b k = true ∧ Wn w wc (sc k)) p)) (nI p) = _
    unfold n_X3_countWanted_41_b4_l
    simp (disch := omega) only [zgf, e1, nI_le_iff]
    rw [if_pos (by omega)]
theorem x_cntR {F : Nat} (hF : 2 ^ 40 < F) {X : Zs} {n p : Nat} {sc lw f1 cd : Nat → Nat} {f2 : Nat → Option Nat} (hX : XC X n cd) (hP : Pls X 42 43 44 45 826 n p sc lw f1 f2) (b : Int32) : n_X3_countRepeated_41 F X b = some (nI (cnt (fun k => hb b k = true ∧ (Td n cd (sc k) ∨ Ah sc k)) p), X) := by
  obtain ⟨e1, hp, hn, hT⟩ := hP
  refine zfix_run (f := fun (rc : (Zs × Int32 × Int32 × Int32) → Option (Int32 × Zs)) (u : (Zs × Int32 × Int32 × Int32)) => n_X3_countRepeated_41_b4_l F  (fun S x1 x2 x3 => rc (S, x1, x2, x3)) u.1 u.2.1 u.2.2.1 u.2.2.2) (fun i => (X, b, nI (cnt (fun k => hb b k = true ∧ (Td n cd (sc k) ∨ Ah sc k)) i), nI i)) p (fun i hi rc => ?_) (fun rc => ?_) F (by omega)
  · obtain ⟨k1, k2, -⟩ := hT i hi
    obtain ⟨r, hr, er⟩ := x_isTold hF hX k2
    obtain ⟨r2, hr2, er2⟩ := x_ahead hF (sc := sc) hi hp (fun j hj => ⟨(hT j hj).1, (hT j hj).2.1⟩)
    have hct := @cnt_t (fun k => hb b k = true ∧ (Td n cd (sc k) ∨ Ah sc k)) i
    have hcf := @cnt_f (fun k => hb b k = true ∧ (Td n cd (sc k) ∨ Ah sc k)) i
    show n_X3_countRepeated_41_b4_l F (fun S x1 x2 x3 => rc (S, x1, x2, x3)) X b (nI (cnt (fun k => hb b k = true ∧ (Td n cd (sc k) ∨ Ah sc k)) i)) (nI i) = rc (X, b, nI (cnt (fun k => hb b k = true ∧ (Td n cd (sc k) ∨ Ah sc k)) (i + 1)), nI (i + 1))
    generalize cnt (fun k => hb b k = true ∧ (Td n cd (sc k) ∨ Ah sc k)) i = m at *
    unfold n_X3_countRepeated_41_b4_l n_X3_countRepeated_41_b44 n_X3_countRepeated_41_b47
    simp (disch := omega) only [zgf, e1, nI_le_iff, hb_sh0, zld_nI, k1, er, er2, zcS, zlet, nI_1]
    rw [if_neg (by omega)]
    cases hbit : hb b i with
    | false => rw [if_pos rfl, hcf (fun g => by rw [hbit] at g; exact absurd g.1 (by decide))]
    | true =>
      rw [if_neg (by decide)]
      by_cases hw : Td n cd (sc i)
      · rw [if_neg (fun g => (isB_0 hr).mp g hw), hct ⟨hbit, Or.inl hw⟩]
      · rw [if_pos ((isB_0 hr).mpr hw)]
        by_cases hw2 : Ah sc i
        · rw [if_neg (fun g => (isB_0 hr2).mp g hw2), hct ⟨hbit, Or.inr hw2⟩]
        · rw [if_pos ((isB_0 hr2).mpr hw2), hcf (fun g => g.2.elim hw hw2)]
  · show n_X3_countRepeated_41_b4_l F (fun S x1 x2 x3 => rc (S, x1, x2, x3)) X b (nI (cnt (fun k => hb b k = true ∧ (Td n cd (sc k) ∨ Ah sc k)) p)) (nI p) = _
    unfold n_X3_countRepeated_41_b4_l
    simp (disch := omega) only [zgf, e1, nI_le_iff]
    rw [if_pos (by omega)]
-- the reference
theorem m_isWanted {F : Nat} (hF : 2 ^ 40 < F) {M : Zs} {w : Nat} {wc : Nat → Nat} (hW : WC M 4 9 w wc) {c : Nat} (hc : c < 2304) : ∃ r, isB r (Wn w wc c) ∧ n_X12_isWanted_0 F M (nI c) = some (r, M) := by
  obtain ⟨y1, y2, y3⟩ := hW
  exact zfix_for (f := fun (rc : (Zs × Int32 × Int32 × Int32) → Option (Int32 × Zs)) (u : (Zs × Int32 × Int32 × Int32)) => n_X12_isWanted_0_b4_l F  (fun S x1 x2 x3 => rc (S, x1, x2, x3)) u.1 u.2.1 u.2.2.1 u.2.2.2) w (fun i a => ∃ v, a = (M, nI c, v, nI i) ∧ isB v (∃ j, j < i ∧ wc j = c)) (fun r : Int32 => isB r (Wn w wc c)) (fun r => some (r, M)) (by
    rintro i _ hi ⟨v, rfl, hv⟩
    obtain ⟨k1, k2⟩ := y3 i hi
    have e : ∀ rc : (Zs × Int32 × Int32 × Int32) → Option (Int32 × Zs), n_X12_isWanted_0_b4_l F (fun S x1 x2 x3 => rc (S, x1, x2, x3)) M (nI c) v (nI i) = if v = 0 then (if wc i = c then rc (M, nI c, 1, nI (i + 1)) else rc (M, nI c, 0, nI (i + 1))) else rc (M, nI c, 1, nI (i + 1)) := by
      intro rc
      unfold n_X12_isWanted_0_b4_l n_X12_isWanted_0_b26 n_X12_isWanted_0_b31
      simp (disch := omega) only [zgf, y1, nI_le_iff, zld_nI, k1, nI_eq, zlet, nI_1]
      rw [if_neg (by omega)]
    rcases hv with ⟨h1, h2⟩ | ⟨h1, h2⟩
    · exact Or.inr ⟨(M, nI c, 1, nI (i + 1)), ⟨1, rfl, Or.inl ⟨rfl, Ex_s.mpr (Or.inl h2)⟩⟩, fun rc => (e rc).trans (if_neg (by rw [h1]; decide))⟩
    · by_cases h : wc i = c
      · exact Or.inr ⟨(M, nI c, 1, nI (i + 1)), ⟨1, rfl, Or.inl ⟨rfl, Ex_s.mpr (Or.inr h)⟩⟩, fun rc => (e rc).trans (by rw [if_pos h1, if_pos h])⟩
      · exact Or.inr ⟨(M, nI c, 0, nI (i + 1)), ⟨0, rfl, Or.inr ⟨rfl, fun g => (Ex_s.mp g).elim h2 h⟩⟩, fun rc => (e rc).trans (by rw [if_pos h1, if_neg h])⟩) (by
    rintro _ ⟨v, rfl, hv⟩
    refine ⟨v, hv, fun rc => ?_⟩
    show n_X12_isWanted_0_b4_l F (fun S x1 x2 x3 => rc (S, x1, x2, x3)) M (nI c) v (nI w) = _
    unfold n_X12_isWanted_0_b4_l
    simp (disch := omega) only [zgf, y1, nI_le_iff]
    rw [if_pos (by omega)]
    exact isB_rb hv M) F (M, nI c, 0, 0) ⟨0, rfl, Or.inr ⟨rfl, fun ⟨j, h, _⟩ => by omega⟩⟩ (by omega)
theorem m_said {F : Nat} (hF : 2 ^ 40 < F) {M : Zs} {n p k : Nat} {cd sc : Nat → Nat} (hM : MC M n cd) (hk : k < p) (hp : p ≤ 24) (hT : ∀ i, i < p → M.1 16 i = nI (sc i) ∧ sc i < 2304) : ∃ r, isB r (Td n cd (sc k) ∨ Ah sc k) ∧ n_X12_isSaidAhead_0 F M (nI k) = some (r, M) := by
  obtain ⟨y1, y2, y3⟩ := hM
  obtain ⟨q1, q2⟩ := hT k hk
  obtain ⟨v, hv, ev⟩ : ∃ v, isB v (Td n cd (sc k)) ∧ n_X12_isSaidAhead_0 F M (nI k) = n_X12_isSaidAhead_0_b45 F M (nI k) v 0 :=
    zfix_for (f := fun (rc : (Zs × Int32 × Int32 × Int32) → Option (Int32 × Zs)) (u : (Zs × Int32 × Int32 × Int32)) => n_X12_isSaidAhead_0_b4_l F  (fun S x1 x2 x3 => rc (S, x1, x2, x3)) u.1 u.2.1 u.2.2.1 u.2.2.2) n (fun i a => ∃ v, a = (M, nI k, v, nI i) ∧ isB v (∃ j, j < i ∧ cd j = sc k)) (fun r : Int32 => isB r (Td n cd (sc k))) (fun r => n_X12_isSaidAhead_0_b45 F M (nI k) r 0) (by
      rintro i _ hi ⟨v, rfl, hv⟩
      obtain ⟨k1, k2⟩ := y3 i hi
      have e : ∀ rc : (Zs × Int32 × Int32 × Int32) → Option (Int32 × Zs), n_X12_isSaidAhead_0_b4_l F (fun S x1 x2 x3 => rc (S, x1, x2, x3)) M (nI k) v (nI i) = if v = 0 then (if cd i = sc k then rc (M, nI k, 1, nI (i + 1)) else rc (M, nI k, 0, nI (i + 1))) else rc (M, nI k, 1, nI (i + 1)) := by
        intro rc
        unfold n_X12_isSaidAhead_0_b4_l n_X12_isSaidAhead_0_b31 n_X12_isSaidAhead_0_b36
        simp (disch := omega) only [zgf, y1, nI_le_iff, zld_nI, k1, q1, nI_eq, zlet, nI_1]
        rw [if_neg (by omega)]
      rcases hv with ⟨h1, h2⟩ | ⟨h1, h2⟩
      · exact Or.inr ⟨(M, nI k, 1, nI (i + 1)), ⟨1, rfl, Or.inl ⟨rfl, Ex_s.mpr (Or.inl h2)⟩⟩, fun rc => (e rc).trans (if_neg (by rw [h1]; decide))⟩
      · by_cases h : cd i = sc k
        · exact Or.inr ⟨(M, nI k, 1, nI (i + 1)), ⟨1, rfl, Or.inl ⟨rfl, Ex_s.mpr (Or.inr h)⟩⟩, fun rc => (e rc).trans (by rw [if_pos h1, if_pos h])⟩
        · exact Or.inr ⟨(M, nI k, 0, nI (i + 1)), ⟨0, rfl, Or.inr ⟨rfl, fun g => (Ex_s.mp g).elim h2 h⟩⟩, fun rc => (e rc).trans (by rw [if_pos h1, if_neg h])⟩) (by
      rintro _ ⟨v, rfl, hv⟩
      refine ⟨v, hv, fun rc => ?_⟩
      show n_X12_isSaidAhead_0_b4_l F (fun S x1 x2 x3 => rc (S, x1, x2, x3)) M (nI k) v (nI n) = _
      unfold n_X12_isSaidAhead_0_b4_l
      simp (disch := omega) only [zgf, y1, nI_le_iff]
      rw [if_pos (by omega)]) F (M, nI k, 0, 0) ⟨0, rfl, Or.inr ⟨rfl, fun ⟨j, h, _⟩ => by omega⟩⟩ (by omega)
  rw [ev]
  exact zfix_for (f := fun (rc : (Zs × Int32 × Int32 × Int32) → Option (Int32 × Zs)) (u : (Zs × Int32 × Int32 × Int32)) => n_X12_isSaidAhead_0_b45_l F  (fun S x1 x2 x3 => rc (S, x1, x2, x3)) u.1 u.2.1 u.2.2.1 u.2.2.2) k (fun i a => ∃ v, a = (M, nI k, v, nI i) ∧ isB v (Td n cd (sc k) ∨ ∃ j, j < i ∧ sc j = sc k)) (fun r : Int32 => isB r (Td n cd (sc k) ∨ Ah sc k)) (fun r => some (r, M)) (by
    rintro i _ hi ⟨v, rfl, hv⟩
    obtain ⟨k1, k2⟩ := hT i (by omega)
    have e : ∀ rc : (Zs × Int32 × Int32 × Int32) → Option (Int32 × Zs), n_X12_isSaidAhead_0_b45_l F (fun S x1 x2 x3 => rc (S, x1, x2, x3)) M (nI k) v (nI i) = if v = 0 then (if sc i = sc k then rc (M, nI k, 1, nI (i + 1)) else rc (M, nI k, 0, nI (i + 1))) else rc (M, nI k, 1, nI (i + 1)) := by
      intro rc
      unfold n_X12_isSaidAhead_0_b45_l n_X12_isSaidAhead_0_b69 n_X12_isSaidAhead_0_b74
      simp (disch := omega) only [nI_le_iff, zld_nI, k1, q1, nI_eq, zlet, nI_1]
      rw [if_neg (by omega)]
    rcases hv with ⟨h1, h2⟩ | ⟨h1, h2⟩
    · exact Or.inr ⟨(M, nI k, 1, nI (i + 1)), ⟨1, rfl, Or.inl ⟨rfl, h2.imp id (fun g => Ex_s.mpr (Or.inl g))⟩⟩, fun rc => (e rc).trans (if_neg (by rw [h1]; decide))⟩
    · by_cases h : sc i = sc k
      · exact Or.inr ⟨(M, nI k, 1, nI (i + 1)), ⟨1, rfl, Or.inl ⟨rfl, Or.inr (Ex_s.mpr (Or.inr h))⟩⟩, fun rc => (e rc).trans (by rw [if_pos h1, if_pos h])⟩
      · exact Or.inr ⟨(M, nI k, 0, nI (i + 1)), ⟨0, rfl, Or.inr ⟨rfl, fun g => g.elim (fun g => h2 (Or.inl g)) (fun g => (Ex_s.mp g).elim (fun g => h2 (Or.inr g)) h)⟩⟩, fun rc => (e rc).trans (by rw [if_pos h1, if_neg h])⟩) (by
    rintro _ ⟨v, rfl, hv⟩
    refine ⟨v, hv, fun rc => ?_⟩
    show n_X12_isSaidAhead_0_b45_l F (fun S x1 x2 x3 => rc (S, x1, x2, x3)) M (nI k) v (nI k) = _
    unfold n_X12_isSaidAhead_0_b45_l
    rw [if_pos (nI_le (by omega) (by omega))]
    exact isB_rb hv M) F (M, nI k, v, 0) ⟨v, rfl, isB_iff hv ⟨Or.inl, fun g => g.elim id fun ⟨j, h, _⟩ => by omega⟩⟩ (by omega)
theorem m_marks {F : Nat} (hF : 2 ^ 40 < F) {M : Zs} {n p w : Nat} {cd sc lw f1 wc : Nat → Nat} {f2 : Nat → Option Nat} (hM : MC M n cd) (hP : Pls M 16 17 18 19 35 n p sc lw f1 f2) (hW : WC M 4 9 w wc) {l : Nat} (hl : l < 4) (b : Int32) : n_X12_marks_0_b35 F M (nI l) b 0 0 0 0 = some (nI (cnt (fun k => hb b k = true ∧ lw k = l) p), mTwo M (nI (cnt (fun k => (hb b k = true ∧ lw k = l) ∧ Wn w wc (sc k)) p)) (nI (cnt (fun k => (hb b k = true ∧ lw k = l) ∧ (Td n cd (sc k) ∨ Ah sc k)) p))) := by
  obtain ⟨e1, hp, hn, hT⟩ := hP
  refine zfix_run (f := fun (rc : (Zs × Int32 × Int32 × Int32 × Int32 × Int32 × Int32) → Option (Int32 × Zs)) (u : (Zs × Int32 × Int32 × Int32 × Int32 × Int32 × Int32)) => n_X12_marks_0_b35_l F  (fun S x1 x2 x3 x4 x5 x6 => rc (S, x1, x2, x3, x4, x5, x6)) u.1 u.2.1 u.2.2.1 u.2.2.2.1 u.2.2.2.2.1 u.2.2.2.2.2.1 u.2.2.2.2.2.2) (fun i => (M, nI l, b, nI (cnt (fun k => hb b k = true ∧ lw k = l) i), nI (cnt (fun k => (hb b k = true ∧ lw k = l) ∧ Wn w wc (sc k)) i), nI (cnt (fun k => (hb b k = true ∧ lw k = l) ∧ (Td n cd (sc k) ∨ Ah sc k)) i), nI i)) p (fun i hi rc => ?_) (fun rc => ?_) F (by omega)
  · obtain ⟨k1, k2, k3, k4, -⟩ := hT i hi
    obtain ⟨r, hr, er⟩ := m_isWanted hF hW k2
    obtain ⟨r2, hr2, er2⟩ := m_said hF (sc := sc) hM hi hp (fun j hj => ⟨(hT j hj).1, (hT j hj).2.1⟩)
    have t1 := @cnt_t (fun k => hb b k = true ∧ lw k = l) i
    have u1 := @cnt_f (fun k => hb b k = true ∧ lw k = l) i
    have t2 := @cnt_t (fun k => (hb b k = true ∧ lw k = l) ∧ Wn w wc (sc k)) i
    have u2 := @cnt_f (fun k => (hb b k = true ∧ lw k = l) ∧ Wn w wc (sc k)) i
    have t3 := @cnt_t (fun k => (hb b k = true ∧ lw k = l) ∧ (Td n cd (sc k) ∨ Ah sc k)) i
    have u3 := @cnt_f (fun k => (hb b k = true ∧ lw k = l) ∧ (Td n cd (sc k) ∨ Ah sc k)) i
    show n_X12_marks_0_b35_l F (fun S x1 x2 x3 x4 x5 x6 => rc (S, x1, x2, x3, x4, x5, x6)) M (nI l) b (nI (cnt (fun k => hb b k = true ∧ lw k = l) i)) (nI (cnt (fun k => (hb b k = true ∧ lw k = l) ∧ Wn w wc (sc k)) i)) (nI (cnt (fun k => (hb b k = true ∧ lw k = l) ∧ (Td n cd (sc k) ∨ Ah sc k)) i)) (nI i) = rc (M, nI l, b, nI (cnt (fun k => hb b k = true ∧ lw k = l) (i + 1)), nI (cnt (fun k => (hb b k = true ∧ lw k = l) ∧ Wn w wc (sc k)) (i + 1)), nI (cnt (fun k => (hb b k = true ∧ lw k = l) ∧ (Td n cd (sc k) ∨ Ah sc k)) (i + 1)), nI (i + 1))
    generalize cnt (fun k => hb b k = true ∧ lw k = l) i = m1 at *
    generalize cnt (fun k => (hb b k = true ∧ lw k = l) ∧ Wn w wc (sc k)) i = m2 at *
    generalize cnt (fun k => (hb b k = true ∧ lw k = l) ∧ (Td n cd (sc k) ∨ Ah sc k)) i = m3 at *
    unfold n_X12_marks_0_b35_l n_X12_marks_0_b100
    simp (disch := omega) only [zgf, e1, nI_le_iff, e_has, zcS, bI_eq0, zld_nI, k1, k3, nI_eq, er, er2, isB_flag hr, isB_flag hr2, zlet, nI_1]
    rw [if_neg (by omega)]
    by_cases hb1 : hb b i = true
    · rw [if_neg (fun g => g hb1)]
      by_cases h2 : lw i = l
      · rw [if_pos h2, t1 ⟨hb1, h2⟩]
        have a2 : nI m2 + r = nI (cnt (fun k => (hb b k = true ∧ lw k = l) ∧ Wn w wc (sc k)) (i + 1)) := by
          rcases hr with ⟨w1, g⟩ | ⟨w1, g⟩
          · rw [w1, t2 ⟨⟨hb1, h2⟩, g⟩, nI_1]
          · rw [w1, u2 (fun k => g k.2)]; exact nI_add m2 0
        have a3 : nI m3 + r2 = nI (cnt (fun k => (hb b k = true ∧ lw k = l) ∧ (Td n cd (sc k) ∨ Ah sc k)) (i + 1)) := by
          rcases hr2 with ⟨w1, g⟩ | ⟨w1, g⟩
          · rw [w1, t3 ⟨⟨hb1, h2⟩, g⟩, nI_1]
          · rw [w1, u3 (fun k => g k.2)]; exact nI_add m3 0
        rw [a2, a3]
      · rw [if_neg h2, u1 (fun g => h2 g.2), u2 (fun g => h2 g.1.2), u3 (fun g => h2 g.1.2)]
    · rw [if_pos hb1, u1 (fun g => hb1 g.1), u2 (fun g => hb1 g.1.1), u3 (fun g => hb1 g.1.1)]
  · generalize cnt (fun k => hb b k = true ∧ lw k = l) p = m1
    generalize cnt (fun k => (hb b k = true ∧ lw k = l) ∧ Wn w wc (sc k)) p = m2
    generalize cnt (fun k => (hb b k = true ∧ lw k = l) ∧ (Td n cd (sc k) ∨ Ah sc k)) p = m3
    show n_X12_marks_0_b35_l F (fun S x1 x2 x3 x4 x5 x6 => rc (S, x1, x2, x3, x4, x5, x6)) M (nI l) b (nI m1) (nI m2) (nI m3) (nI p) = _
    unfold n_X12_marks_0_b35_l
    simp (disch := omega) only [zgf, zpf, e1, nI_le_iff]
    rw [if_pos (by omega), m_enterOne, zcS, m_enterTwo, zcS]
/-- marks(lawyer) -/
theorem p_marks {Q : Zs → Nat → (Nat → Nat) → Prop} (hQ : QOK Q) {F : Nat} (hF : 2 ^ 40 < F) : S_marks F (Rel (Kq Q)) := by
  intro X M hR a
  have hin : ∀ S, n_X12_in F S a.toInt64 0 3 = some (bI (¬ a < 0 ∧ ¬ 3 < a), S) := fun S => e_X12_in F S a 0 3
  have l3 : (3 : Int32) < a ↔ 4 ≤ a := nI_lt_le a (n := 3) (by decide)
  by_cases h : a < 0 ∨ 3 < a
  · refine ⟨-1, X, zp M 0 0 0, ?_, ?_, hR.thrown 0⟩
    · unfold n_X11_marks_0 n_X11_marks_0_e n_X11_marks_0_b9
      by_cases h1 : a < 0
      · rw [if_pos h1]
      · rw [if_neg h1, if_neg (fun g => Int32.not_lt.mpr g (h.resolve_left h1))]
    · unfold n_X12_marks_0 n_X12_marks_0_e zpf
      dsimp only
      rw [hin, zcS, if_pos (bI_f (fun g => h.elim g.1 g.2))]
  obtain ⟨l, hl, rfl⟩ := in_nI (n := 4) (x := a) (by decide) (fun g => h (Or.inl g)) (fun g => h (Or.inr (l3.mpr g)))
  obtain ⟨n, cd, hX, hB, q, hM, el, ed, bd, ew, bw⟩ := Rel_ctx hR
  obtain ⟨p, sc, lw, f1, f2, hP1, hP2⟩ := Rel_pleas hR hX
  obtain ⟨w, wc, hW1, hW2⟩ := Rel_want hR
  obtain ⟨v, hv, ev⟩ := x_stepsOf hF hP1 hl
  have hp := hP1.2.1
  have bS := sdB_bnd (M.1 0 7) f1 f2 hp
  have bO : bnd (sdB (M.1 0 7) f1 f2 p &&& v) p := bnd_and _ bS
  have ko : ∀ k, k < p → (hb (sdB (M.1 0 7) f1 f2 p &&& v) k = true ↔ hb (sdB (M.1 0 7) f1 f2 p) k = true ∧ lw k = l) := by
    intro k hk
    rw [hba, hv k]
    exact ⟨fun g => ⟨g.1, g.2.2⟩, fun g => ⟨g.1, hk, g.2⟩⟩
  refine ⟨nI (bc (sdB (M.1 0 7) f1 f2 p &&& v) 32), xTwo X _ _, mTwo (zp M 0 0 0) _ _, ?_, ?_, Rel_two (Kq_ok hQ) (hR.thrown 0) (nI (cnt (fun k => (hb (sdB (M.1 0 7) f1 f2 p) k = true ∧ lw k = l) ∧ Wn w wc (sc k)) p)) (nI (cnt (fun k => (hb (sdB (M.1 0 7) f1 f2 p) k = true ∧ lw k = l) ∧ (Td n cd (sc k) ∨ Ah sc k)) p))⟩
  · unfold n_X11_marks_0 n_X11_marks_0_e
    rw [if_neg (fun g => h (Or.inl g)), if_pos (Int32.not_lt.mp (fun g => h (Or.inr g))), x_stand hF hX.1 hP1, zcS, ew, ev, zcS]
    unfold zlet
    dsimp only
    rw [x_cntW hF hP1 hW1, zcS, x_cntR hF hX hP1, zcS, x_tellTwo, zcS, x_bitCount _ (bnd_le bO hp), zcS]
    rw [cnt_c (P := fun k => hb (sdB (M.1 0 7) f1 f2 p &&& v) k = true ∧ Wn w wc (sc k)) (R := fun k => (hb (sdB (M.1 0 7) f1 f2 p) k = true ∧ lw k = l) ∧ Wn w wc (sc k)) (fun k hk => and_congr_left fun _ => ko k hk), cnt_c (P := fun k => hb (sdB (M.1 0 7) f1 f2 p &&& v) k = true ∧ (Td n cd (sc k) ∨ Ah sc k)) (R := fun k => (hb (sdB (M.1 0 7) f1 f2 p) k = true ∧ lw k = l) ∧ (Td n cd (sc k) ∨ Ah sc k)) (fun k hk => and_congr_left fun _ => ko k hk)]
  · unfold n_X12_marks_0 n_X12_marks_0_e zpf
    dsimp only
    rw [hin, zcS, bI_t ⟨fun g => h (Or.inl g), fun g => h (Or.inr g)⟩, if_neg (by decide), m_stand hF (M := zp M 0 0 0) hP2, zcS]
    show n_X12_marks_0_b35 F (zp M 0 0 0) (nI l) (sdB (M.1 0 7) f1 f2 p) 0 0 0 0 = _
    rw [m_marks hF (M := zp M 0 0 0) hM hP2 hW2 hl, bc_bnd bO (by omega), cnt_c (P := fun k => hb (sdB (M.1 0 7) f1 f2 p &&& v) k = true) ko]
