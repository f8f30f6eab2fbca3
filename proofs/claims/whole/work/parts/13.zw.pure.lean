/-! towns: the class studies -/
def Shr (P : Nat → Prop) (p q : Nat × Nat) : Prop := Can P p.1 q.1 ∧ Can P p.1 q.2 ∧ Can P p.2 q.1 ∧ Can P p.2 q.2
def ShI (P : Nat → Prop) (N : List (Nat × Nat)) (i j : Nat) : Prop := ∃ p q, N[i]? = some p ∧ N[j]? = some q ∧ Shr P p q
theorem isW_nat {v : Int32} {n : Nat} {Q : Nat → Prop} (h : isW v n Q) : ∃ m, m < 2 ^ n ∧ v = nI m ∧ ∀ i, m.testBit i = true ↔ i < n ∧ Q i := by
  have hb1 : v.toBitVec.toNat < 2 ^ 32 := v.toBitVec.isLt
  refine ⟨v.toBitVec.toNat, isW_bnd h, hb_ext fun k _ => ?_, fun i => h i⟩
  rw [hbn hb1]; rfl
theorem th_at {rb rx ry fh fb : Nat} {S : Zs} {P : Nat → Prop} {N : List (Nat × Nat)} (h : Th rb rx ry fh fb S P N) {i : Nat} (hi : i < N.length) : ∃ p, N[i]? = some p ∧ S.1 rx i = nI p.1 ∧ S.1 ry i = nI p.2 ∧ p.1 < 24 ∧ p.2 < 24 := ⟨N[i], List.getElem?_eq_getElem hi, h.2.2.2.2 i _ (List.getElem?_eq_getElem hi)⟩
theorem x_share {F : Nat} {S : Zs} {P : Nat → Prop} {N : List (Nat × Nat)} (h : Th 19 20 21 363 364 S P N) {i j : Nat} (hi : i < N.length) (hj : j < N.length) : ∃ r, isB r (ShI P N i j) ∧ n_X9_canShare_18 F S (nI i) (nI j) = some (r, S) := by
  have h29 := h.2.2.2.1
  obtain ⟨p, p0, p1, p2, p3, p4⟩ := th_at h hi
  obtain ⟨q, q0, q1, q2, q3, q4⟩ := th_at h hj
  obtain ⟨r1, b1, e1⟩ := th_can_18 (F := F) h p3 q3
  obtain ⟨r2, b2, e2⟩ := th_can_18 (F := F) h p3 q4
  obtain ⟨r3, b3, e3⟩ := th_can_18 (F := F) h p4 q3
  obtain ⟨r4, b4, e4⟩ := th_can_18 (F := F) h p4 q4
  have key : ShI P N i j ↔ Shr P p q := ⟨fun ⟨p', q', a, b, c⟩ => by rw [p0] at a; rw [q0] at b; rw [Option.some.inj a, Option.some.inj b]; exact c, fun w => ⟨p, q, p0, q0, w⟩⟩
  unfold n_X9_canShare_18 n_X9_canShare_18_e n_X9_canShare_18_b80 n_X9_canShare_18_b81
  rw [zld_nI _ _ _ (show i < 29 by omega) (by omega), zld_nI _ _ _ (show j < 29 by omega) (by omega), p1, q1, e1, zcS, zld_nI _ _ _ (show i < 29 by omega) (by omega), zld_nI _ _ _ (show j < 29 by omega) (by omega), p1, q2, e2, zcS, zld_nI _ _ _ (show i < 29 by omega) (by omega), zld_nI _ _ _ (show j < 29 by omega) (by omega), p2, q1, e3, zcS, zld_nI _ _ _ (show i < 29 by omega) (by omega), zld_nI _ _ _ (show j < 29 by omega) (by omega), p2, q2, e4, zcS, zrb_0, zrb_1]
  by_cases g1 : Can P p.1 q.1
  · rw [if_neg (fun w => (isB_0 b1).mp w g1)]
    by_cases g2 : Can P p.1 q.2
    · rw [if_neg (fun w => (isB_0 b2).mp w g2)]
      by_cases g3 : Can P p.2 q.1
      · rw [if_neg (fun w => (isB_0 b3).mp w g3)]
        by_cases g4 : Can P p.2 q.2
        · rw [if_neg (fun w => (isB_0 b4).mp w g4)]
          exact ⟨1, Or.inl ⟨rfl, key.mpr ⟨g1, g2, g3, g4⟩⟩, rfl⟩
        · rw [if_pos ((isB_0 b4).mpr g4)]
          exact ⟨0, Or.inr ⟨rfl, fun w => g4 (key.mp w).2.2.2⟩, rfl⟩
      · rw [if_pos ((isB_0 b3).mpr g3)]
        exact ⟨0, Or.inr ⟨rfl, fun w => g3 (key.mp w).2.2.1⟩, rfl⟩
    · rw [if_pos ((isB_0 b2).mpr g2)]
      exact ⟨0, Or.inr ⟨rfl, fun w => g2 (key.mp w).2.1⟩, rfl⟩
  · rw [if_pos ((isB_0 b1).mpr g1)]
    exact ⟨0, Or.inr ⟨rfl, fun w => g1 (key.mp w).1⟩, rfl⟩
def Ap (P : Nat → Prop) (N : List (Nat × Nat)) (S : Zs) (m : Nat) : Prop := ∀ i, i < m → isW (S.1 28 i) N.length (fun j => ¬ ShI P N i j)
theorem Th_28 {S S2 : Zs} {P : Nat → Prop} {N : List (Nat × Nat)} (h : Th 19 20 21 363 364 S P N) {R : List Nat} (f : fr R [] S S2) (h1 : 19 ∉ R ∧ 20 ∉ R ∧ 21 ∉ R) : Th 19 20 21 363 364 S2 P N := Th_fr h f ⟨by decide, h1.1⟩ ⟨by decide, h1.2.1⟩ ⟨by decide, h1.2.2⟩ (by simp) (by simp)
theorem pow_I {f : Nat} (h : f < 13) : (1 : Int32) <<< (nI f &&& 31) = nI (2 ^ f) := (show ∀ f, f < 13 → (1 : Int32) <<< (nI f &&& 31) = nI (2 ^ f) by decide) f h
theorem x_study {F : Nat} (hF : 2 ^ 40 < F) {S : Zs} {P : Nat → Prop} {N : List (Nat × Nat)} (h : Th 19 20 21 363 364 S P N) (h12 : N.length ≤ 12) : ∃ S2, n_X10_study_26_18 F S = some (0, S2) ∧ fr [28, 29] [] S S2 ∧ Ap P N S2 N.length ∧ ∀ b, b < 2 ^ N.length → S2.1 29 b = 0 := by
  have hp12 : 2 ^ N.length ≤ 2 ^ 12 := Nat.pow_le_pow_right (by omega) h12
  have last : ∀ S', fr [28, 29] [] S S' → Ap P N S' N.length → ∃ S2, (fr [28, 29] [] S S2 ∧ Ap P N S2 N.length ∧ ∀ b, b < 2 ^ N.length → S2.1 29 b = 0) ∧ n_X10_study_26_18_b62 F S' 0 = some (0, S2) := by
    intro S' hf ha
    exact zfix_for (f := fun (rc : (Zs × Int32) → Option (Int32 × Zs)) (u : (Zs × Int32)) => n_X10_study_26_18_b62_l F  (fun S x2 => rc (S, x2)) u.1 u.2) (2 ^ N.length) (fun i s => ∃ T, s = (T, nI i) ∧ fr [28, 29] [] S T ∧ Ap P N T N.length ∧ ∀ b, b < i → T.1 29 b = 0) (fun S2 : Zs => fr [28, 29] [] S S2 ∧ Ap P N S2 N.length ∧ ∀ b, b < 2 ^ N.length → S2.1 29 b = 0) (fun S2 => some (0, S2)) (by
      rintro i _ hi ⟨T, rfl, f1, f2, f3⟩
      refine Or.inr ⟨_, ⟨zp T 29 i 0, rfl, fr_t f1 (fr_r _ _ (by decide) (by decide)), fun j hj => ?_, fun b hb' => ?_⟩, fun rc => ?_⟩
      · rw [zp_off _ _ (Or.inl (by decide))]; exact f2 j hj
      · by_cases q : b = i
        · rw [q, zp_at]
        · rw [zp_off _ _ (Or.inr q)]; exact f3 b (by omega)
      · show n_X10_study_26_18_b62_l F (fun S x2 => rc (S, x2)) T (nI i) = _
        unfold n_X10_study_26_18_b62_l
        rw [zgS, f1.1 363 (by simp), h.2.2.1, pow_I (by omega), if_neg (nI_ge hi (by omega)), zst_nI _ _ _ _ (show i < 4096 by omega) (by omega), zlS, nI_1]
        rfl) (by
      rintro _ ⟨T, rfl, f1, f2, f3⟩
      refine ⟨T, ⟨f1, f2, f3⟩, fun rc => ?_⟩
      show n_X10_study_26_18_b62_l F (fun S x2 => rc (S, x2)) T (nI (2 ^ N.length)) = _
      unfold n_X10_study_26_18_b62_l
      rw [zgS, f1.1 363 (by simp), h.2.2.1, pow_I (by omega), if_pos (nI_le (Nat.le_refl _) (by omega))]) F (S', 0) ⟨S', rfl, hf, ha, fun b hb' => absurd hb' (by omega)⟩ (by omega)
  have key : ∃ S2, (fr [28, 29] [] S S2 ∧ Ap P N S2 N.length ∧ ∀ b, b < 2 ^ N.length → S2.1 29 b = 0) ∧ n_X10_study_26_18_b2 F S 0 = some (0, S2) := zfix_for (f := fun (rc : (Zs × Int32) → Option (Int32 × Zs)) (u : (Zs × Int32)) => n_X10_study_26_18_b2_l F  (fun S x2 => rc (S, x2)) u.1 u.2) N.length (fun i s => ∃ T, s = (T, nI i) ∧ fr [28, 29] [] S T ∧ Ap P N T i) (fun S2 : Zs => fr [28, 29] [] S S2 ∧ Ap P N S2 N.length ∧ ∀ b, b < 2 ^ N.length → S2.1 29 b = 0) (fun S2 => some (0, S2)) (by
    rintro i _ hi ⟨T, rfl, f1, f2⟩
    -- the inner row
    have inner : ∃ T2, (fr [28] [] T T2 ∧ (∀ j, j ≠ i → T2.1 28 j = T.1 28 j) ∧ isW (T2.1 28 i) N.length (fun j => ¬ ShI P N i j)) ∧ ∀ rc : (Zs × Int32) → Option (Int32 × Zs), n_X10_study_26_18_b19 F (fun S x2 => rc (S, x2)) (zp T 28 i 0) (nI i) 0 = rc (T2, nI (i + 1)) := by
      obtain ⟨T2, q1, q2⟩ := zfix_forP (π := (Zs × Int32) → Option (Int32 × Zs)) (f := fun rc2 (rc : (Zs × Int32 × Int32) → Option (Int32 × Zs)) (u : (Zs × Int32 × Int32)) => n_X10_study_26_18_b19_l F (fun S x2 => rc2 (S, x2)) (fun S x2 x3 => rc (S, x2, x3)) u.1 u.2.1 u.2.2) N.length (fun j s => ∃ U, s = (U, nI i, nI j) ∧ fr [28] [] T U ∧ (∀ j, j ≠ i → U.1 28 j = T.1 28 j) ∧ isW (U.1 28 i) j (fun j => ¬ ShI P N i j)) (fun T2 : Zs => fr [28] [] T T2 ∧ (∀ j, j ≠ i → T2.1 28 j = T.1 28 j) ∧ isW (T2.1 28 i) N.length (fun j => ¬ ShI P N i j)) (fun rc2 T2 => rc2 (T2, nI (i + 1))) (by
        rintro j _ hj ⟨U, rfl, g1, g2, g3⟩
        have hTh : Th 19 20 21 363 364 U P N := Th_28 (Th_28 h f1 (by decide)) g1 (by decide)
        obtain ⟨r, hr, er⟩ := x_share (F := F) hTh hi hj
        have e1 : ∀ (rc2 : (Zs × Int32) → Option (Int32 × Zs)) (rc : (Zs × Int32 × Int32) → Option (Int32 × Zs)), n_X10_study_26_18_b19_l F (fun S x2 => rc2 (S, x2)) (fun S x2 x3 => rc (S, x2, x3)) U (nI i) (nI j) = if r = 0 then rc (zp U 28 i (U.1 28 i ||| ((1 : Int32) <<< (nI j &&& 31))), nI i, nI (j + 1)) else rc (U, nI i, nI (j + 1)) := by
          intro rc2 rc
          unfold n_X10_study_26_18_b19_l n_X10_study_26_18_b48
          rw [zgS, hTh.2.2.1, if_neg (nI_ge hj (by omega)), er, zcS, zld_nI _ _ _ (show i < 12 by omega) (by omega), zst_nI _ _ _ _ (show i < 12 by omega) (by omega), zlS, zlS, nI_1]
        by_cases g : ShI P N i j
        · exact Or.inr ⟨_, ⟨U, rfl, g1, g2, isW_f g3 (fun w => w g)⟩, fun rc2 rc => (e1 rc2 rc).trans (if_neg (fun w => (isB_0 hr).mp w g))⟩
        · refine Or.inr ⟨_, ⟨_, rfl, fr_t g1 (fr_r _ _ (by decide) (by decide)), fun k hk => ?_, ?_⟩, fun rc2 rc => (e1 rc2 rc).trans (if_pos ((isB_0 hr).mpr g))⟩
          · rw [zp_off _ _ (Or.inr hk)]; exact g2 k hk
          · rw [zp_at]; exact isW_t g3 (by omega) g) (by
        rintro _ ⟨U, rfl, g1, g2, g3⟩
        have hTh : Th 19 20 21 363 364 U P N := Th_28 (Th_28 h f1 (by decide)) g1 (by decide)
        refine ⟨U, ⟨g1, g2, g3⟩, fun rc2 rc => ?_⟩
        show n_X10_study_26_18_b19_l F (fun S x2 => rc2 (S, x2)) (fun S x2 x3 => rc (S, x2, x3)) U (nI i) (nI N.length) = _
        unfold n_X10_study_26_18_b19_l
        rw [zgS, hTh.2.2.1, if_pos (nI_le (Nat.le_refl _) (by omega)), zlS, nI_1]) F (zp T 28 i 0, nI i, 0) ⟨_, rfl, fr_r _ _ (by decide) (by decide), fun j hj => zp_off _ _ (Or.inr hj), by rw [zp_at]; exact isW_0 _⟩ (by omega)
      exact ⟨T2, q1, fun rc => q2 rc⟩
    obtain ⟨T2, ⟨g1, g2, g3⟩, g4⟩ := inner
    refine Or.inr ⟨_, ⟨T2, rfl, fr_t f1 (fr_w g1 (by decide) (by decide)), fun j hj => ?_⟩, fun rc => ?_⟩
    · by_cases q : j = i
      · rw [q]; exact g3
      · rw [g2 j q]; exact f2 j (by omega)
    · show n_X10_study_26_18_b2_l F (fun S x2 => rc (S, x2)) T (nI i) = _
      unfold n_X10_study_26_18_b2_l
      rw [zgS, f1.1 363 (by simp), h.2.2.1, if_neg (nI_ge hi (by omega)), zst_nI _ _ _ _ (show i < 12 by omega) (by omega), g4 rc]) (by
    rintro _ ⟨T, rfl, f1, f2⟩
    obtain ⟨S2, q1, q2⟩ := last T f1 f2
    refine ⟨S2, q1, fun rc => ?_⟩
    show n_X10_study_26_18_b2_l F (fun S x2 => rc (S, x2)) T (nI N.length) = _
    unfold n_X10_study_26_18_b2_l
    rw [zgS, f1.1 363 (by simp), h.2.2.1, if_pos (nI_le (Nat.le_refl _) (by omega)), q2]) F (S, 0) ⟨S, rfl, fr_rf _ _ _, fun i hi => absurd hi (by omega)⟩ (by omega)
  obtain ⟨S2, q1, q2⟩ := key
  exact ⟨S2, q2, q1⟩
/-- all of a set share one sort -/
def AllS (P : Nat → Prop) (N : List (Nat × Nat)) (b : Nat) : Prop := ∀ i j, b.testBit i = true → b.testBit j = true → ShI P N i j
theorem x_allShare {F : Nat} (hF : 2 ^ 40 < F) {S : Zs} {P : Nat → Prop} {N : List (Nat × Nat)} (ha : Ap P N S N.length) (h12 : N.length ≤ 12) {b : Nat} (hb' : ∀ i, b.testBit i = true → i < N.length) (h31 : b < 4096) : ∃ r, isB r (AllS P N b) ∧ n_X10_canAllShare_26 F S (nI b) = some (r, S) := by
  refine zfix_for (f := fun (rc : (Zs × Int32 × Int32) → Option (Int32 × Zs)) (u : (Zs × Int32 × Int32)) => n_X10_canAllShare_26_b2_l F  (fun S x1 x2 => rc (S, x1, x2)) u.1 u.2.1 u.2.2) 12 (fun i s => s = (S, nI b, nI i) ∧ ∀ k j, k < i → b.testBit k = true → b.testBit j = true → ShI P N k j) (fun r : Int32 => isB r (AllS P N b)) (fun r => some (r, S)) (by
    rintro i _ hi ⟨rfl, hno⟩
    have e1 : ∀ rc : (Zs × Int32 × Int32) → Option (Int32 × Zs), n_X10_canAllShare_26_b2_l F (fun S x1 x2 => rc (S, x1, x2)) S (nI b) (nI i) = if b.testBit i = false ∨ nI b &&& S.1 28 i = 0 then rc (S, nI b, nI (i + 1)) else some (0, S) := by
      intro rc
      unfold n_X10_canAllShare_26_b2_l n_X10_canAllShare_26_b29
      rw [if_neg (show ¬ (12 : Int32) ≤ nI i from nI_ge (b := 12) hi (by omega)), zlS, nI_1, zld_nI _ _ _ hi (by omega), zrb_0]
      by_cases q : b.testBit i = false
      · rw [if_pos ((hb_sh0 _ (by omega)).mpr (by rw [hbn (by omega)]; exact q)), if_pos (Or.inl q)]
      · rw [if_neg (fun w => q (by rw [hb_sh0 _ (by omega), hbn (by omega)] at w; exact w))]
        by_cases q2 : nI b &&& S.1 28 i = 0
        · rw [if_pos q2, if_pos (Or.inr q2)]
        · rw [if_neg q2, if_neg (fun w => w.elim q q2)]
    by_cases q : b.testBit i = false ∨ nI b &&& S.1 28 i = 0
    · refine Or.inr ⟨_, ⟨rfl, fun k j hk k1 k2 => ?_⟩, fun rc => (e1 rc).trans (if_pos q)⟩
      by_cases e : k = i
      · subst e
        rcases q with q | q
        · rw [q] at k1; exact absurd k1 (by decide)
        · refine Classical.byContradiction fun w => ?_
          have := (ha k (hb' k k1) j).mpr ⟨hb' j k2, w⟩
          have z : hb (nI b &&& S.1 28 k) j = true := by rw [hb_and, hbn (by omega), k2, this]; rfl
          rw [q, hb_0] at z
          exact absurd z (by decide)
      · exact hno k j (by omega) k1 k2
    · refine Or.inl ⟨0, Or.inr ⟨rfl, fun w => q ?_⟩, fun rc => (e1 rc).trans (if_neg q)⟩
      cases e : b.testBit i with
      | false => exact Or.inl rfl
      | true =>
        refine Or.inr (hb_ext fun j _ => ?_)
        rw [hb_and, hb_0, hbn (by omega)]
        cases e2 : b.testBit j with
        | false => rfl
        | true =>
          rw [Bool.true_and]
          cases e3 : hb (S.1 28 i) j with
          | false => rfl
          | true => exact absurd (w i j e e2) ((ha i (hb' i e) j).mp e3).2) (by
    rintro _ ⟨rfl, hno⟩
    refine ⟨1, Or.inl ⟨rfl, fun i j h1 h2 => hno i j (by have := hb' i h1; omega) h1 h2⟩, fun rc => ?_⟩
    show n_X10_canAllShare_26_b2_l F (fun S x1 x2 => rc (S, x1, x2)) S (nI b) (nI 12) = _
    unfold n_X10_canAllShare_26_b2_l
    rw [if_pos (show (12 : Int32) ≤ nI 12 by decide), zrb_1]) F (S, nI b, 0) ⟨rfl, fun k j hk => absurd hk (by omega)⟩ (by omega)
def Cs (P : Nat → Prop) (s : Nat) : Prop := s < 4096 ∧ OkS P s
theorem one_sort {P : Nat → Prop} {N : List (Nat × Nat)} (hB : ¬ Br P) (h24 : ∀ p ∈ N, p.1 < 24 ∧ p.2 < 24) {I : Nat → Prop} (h : ∀ i j, I i → I j → ShI P N i j) : ∃ s, Cs P s ∧ ∀ i p, I i → N[i]? = some p → Mt s p := by
  obtain ⟨s, s1, s2, s3⟩ := sat hB (fun t => ∃ i p, I i ∧ N[i]? = some p ∧ (t = p.1 ∨ t = p.2)) (by
    rintro x y ⟨i, p, i1, i2, i3⟩ ⟨j, q, j1, j2, j3⟩
    obtain ⟨p', q', a, b, c1, c2, c3, c4⟩ := h i j i1 j1
    rw [i2] at a; rw [j2] at b
    rw [← Option.some.inj a, ← Option.some.inj b] at c1 c2 c3 c4
    rcases i3 with rfl | rfl <;> rcases j3 with rfl | rfl
    · exact c1
    · exact c2
    · exact c3
    · exact c4) (by
    rintro x ⟨i, p, i1, i2, i3⟩
    have := h24 p (List.mem_of_getElem? i2)
    rcases i3 with rfl | rfl
    · exact this.1
    · exact this.2)
  exact ⟨s, ⟨s1, s2⟩, fun i p i1 i2 => ⟨s3 _ ⟨i, p, i1, i2, Or.inl rfl⟩, s3 _ ⟨i, p, i1, i2, Or.inr rfl⟩⟩⟩
theorem sort_one {P : Nat → Prop} {N : List (Nat × Nat)} {s i j : Nat} {p q : Nat × Nat} (hs : Cs P s) (hi : N[i]? = some p) (hj : N[j]? = some q) (h1 : Mt s p) (h2 : Mt s q) : ShI P N i j := ⟨p, q, hi, hj, OkS_can hs.2 h1.1 h2.1, OkS_can hs.2 h1.1 h2.2, OkS_can hs.2 h1.2 h2.1, OkS_can hs.2 h1.2 h2.2⟩
theorem and_2 (a b : Nat) : (a &&& b) / 2 = (a / 2) &&& (b / 2) ∧ (a &&& b) % 2 = (a % 2) * (b % 2) := by
  constructor
  · refine Nat.eq_of_testBit_eq fun i => ?_
    rw [Nat.testBit_div_two, Nat.testBit_and, Nat.testBit_and, Nat.testBit_div_two, Nat.testBit_div_two]
  · have e : (a &&& b).testBit 0 = (a.testBit 0 && b.testBit 0) := Nat.testBit_and a b 0
    rw [Nat.testBit_zero, Nat.testBit_zero, Nat.testBit_zero] at e
    have h1 := Nat.mod_two_eq_zero_or_one a
    have h2 := Nat.mod_two_eq_zero_or_one b
    have h3 := Nat.mod_two_eq_zero_or_one (a &&& b)
    rcases h1 with h1 | h1 <;> rcases h2 with h2 | h2 <;> rcases h3 with h3 | h3 <;> rw [h1, h2, h3] at e <;> simp at e <;> rw [h1, h2, h3]
/-- the next smaller part of a set -/
theorem sub_next : ∀ n m x s : Nat, x < n → x &&& m = x → s &&& m = s → s < x → s ≤ (x - 1) &&& m := by
  intro n
  induction n with
  | zero => intro m x s h; omega
  | succ n ih =>
    intro m x s hn hx hs hlt
    obtain ⟨x1, x2⟩ := and_2 x m
    obtain ⟨s1, s2⟩ := and_2 s m
    rw [hx] at x1 x2
    rw [hs] at s1 s2
    obtain ⟨y1, y2⟩ := and_2 (x - 1) m
    have hm := Nat.mod_two_eq_zero_or_one m
    have hs2 := Nat.mod_two_eq_zero_or_one s
    rcases Nat.mod_two_eq_zero_or_one x with q | q
    · have e : (x - 1) / 2 = x / 2 - 1 := by omega
      have e2 : (x - 1) % 2 = 1 := by omega
      have := ih (m / 2) (x / 2) (s / 2) (by omega) x1.symm s1.symm (by omega)
      rw [e] at y1
      rw [e2, Nat.one_mul] at y2
      rw [← y1] at this
      have h3 : s % 2 ≤ m % 2 := by rcases hm with w | w <;> rw [w] at s2 ⊢ <;> omega
      omega
    · have e : (x - 1) / 2 = x / 2 := by omega
      rw [e, ← x1] at y1
      omega
theorem sub_and {a b : Nat} : a &&& b = a ↔ ∀ i, a.testBit i = true → b.testBit i = true := by
  constructor
  · intro h i hi
    rw [← h, Nat.testBit_and, Bool.and_eq_true] at hi
    exact hi.2
  · intro h
    refine Nat.eq_of_testBit_eq fun i => ?_
    rw [Nat.testBit_and]
    cases e : a.testBit i with
    | false => rfl
    | true => rw [h i e]; rfl
