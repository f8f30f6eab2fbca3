/-! towns: the reference's needs, masks, least sorts, cover -/
theorem m_holdsLaidT {F : Nat} (hF : 2 ^ 40 < F) {M : Zs} {L : List Nat} (hL : Ld M L) : ∃ r M2, n_X12_holdsLaid_0 F M = some (r, M2) ∧ fr [7] [20] M M2 ∧ isB r (Con L (M.1 0 8)) ∧ TB M2 7 (· ∈ L) := by
  obtain ⟨M1, e1, f1, t1, b1⟩ := m_closes hF hL
  obtain ⟨r, hr, er⟩ := m_are1 hF (Ld_fr hL f1 (by decide) (by decide)) t1 b1
  obtain ⟨r2, hr2, er2⟩ := m_are2 (A := fun _ => True) hF hr t1 b1
  rw [f1.1 8 (by decide)] at hr2
  refine ⟨r2, M1, ?_, f1, hr2, t1⟩
  unfold n_X12_holdsLaid_0 n_X12_holdsLaid_0_e
  rw [e1, zcS, er, er2, zcS, isB_rb hr2]
def Nd (M : Zs) (N : List (Nat × Nat)) : Prop := M.1 0 24 = nI N.length ∧ N.length ≤ 29 ∧ ∀ i p, N[i]? = some p → M.1 9 i = nI p.1 ∧ M.1 10 i = nI p.2 ∧ p.1 < 24 ∧ p.2 < 24
theorem Nd_fr {R K : List Nat} {M M2 : Zs} {N : List (Nat × Nat)} (h : Nd M N) (f : fr R K M M2) (h1 : 24 ∉ K) (h2 : 9 ∉ R) (h3 : 10 ∉ R) : Nd M2 N := ⟨(f.1 24 h1).trans h.1, h.2.1, fun i p hp => by rw [f.2.1 9 (by decide) h2, f.2.1 10 (by decide) h3]; exact h.2.2 i p hp⟩
theorem m_asks {F : Nat} {M : Zs} {N : List (Nat × Nat)} (h : Nd M N) (hl : N.length < 29) {x y : Nat} (hx : x < 24) (hy : y < 24) : ∃ M2, n_X12_asksFor_0 F M (nI x) (nI y) = some (0, M2) ∧ fr [9, 10] [24] M M2 ∧ Nd M2 (N ++ [(x, y)]) := by
  refine ⟨zp (zp (zp M 9 N.length (nI x)) 10 N.length (nI y)) 0 24 (nI (N.length + 1)), ?_, fr_t (fr_r _ _ (by decide) (by decide)) (fr_t (fr_r _ _ (by decide) (by decide)) (fr_p _ (by decide))), ?_, ?_, fun i p hp => ?_⟩
  · unfold n_X12_asksFor_0 n_X12_asksFor_0_e
    rw [zgS, h.1, zst_nI _ _ _ _ hl (by omega), zgS, zp_off _ _ (Or.inl (by decide)), h.1, zst_nI _ _ _ _ hl (by omega), zgS, zp_off _ _ (Or.inl (by decide)), zp_off _ _ (Or.inl (by decide)), h.1, zpS, nI_1]
  · rw [zp_at, List.length_append]; rfl
  · rw [List.length_append]; show N.length + 1 ≤ 29; omega
  · have r9 : (zp (zp (zp M 9 N.length (nI x)) 10 N.length (nI y)) 0 24 (nI (N.length + 1))).1 9 i = (zp M 9 N.length (nI x)).1 9 i := by rw [zp_off _ _ (Or.inl (by decide)), zp_off _ _ (Or.inl (by decide))]
    have r10 : (zp (zp (zp M 9 N.length (nI x)) 10 N.length (nI y)) 0 24 (nI (N.length + 1))).1 10 i = (zp (zp M 9 N.length (nI x)) 10 N.length (nI y)).1 10 i := by rw [zp_off _ _ (Or.inl (by decide))]
    rw [r9, r10]
    by_cases e : i < N.length
    · rw [List.getElem?_append_left e] at hp
      rw [zp_off M _ (Or.inr (show i ≠ N.length by omega)), zp_off _ _ (Or.inr (show i ≠ N.length by omega)), zp_off M _ (Or.inl (by decide))]
      exact h.2.2 i p hp
    · rw [List.getElem?_append_right (by omega)] at hp
      have e2 : i - N.length = 0 := by
        refine Classical.byContradiction fun w => ?_
        rw [List.getElem?_eq_none (by show 1 ≤ i - N.length; omega)] at hp
        exact absurd hp (by simp)
      rw [e2] at hp
      rw [show i = N.length by omega, zp_at, zp_at, ← Option.some.inj (show some (x, y) = some p from hp)]
      exact ⟨rfl, rfl, hx, hy⟩
def mN (lv : Int32) (L : List Nat) : List (Nat × Nat) := L.flatMap nd ++ lvN lv 12
theorem m_needs' {F : Nat} (hF : 2 ^ 40 < F) {M : Zs} {L : List Nat} (hL : Ld M L) (hl : L.length ≤ 17) : ∃ M2, n_X12_findsNeeds_0 F M = some (0, M2) ∧ fr [9, 10] [24] M M2 ∧ Nd M2 (mN (M.1 0 8) L) := by
  have nl : ∀ k, (List.flatMap nd (L.take k)).length ≤ 17 := fun k => by
    have := nd_len (L.take k)
    rw [List.length_take] at this
    omega
  have last : ∀ T, fr [9, 10] [24] M T → Nd T (L.flatMap nd) → ∃ M2, (fr [9, 10] [24] M M2 ∧ Nd M2 (mN (M.1 0 8) L)) ∧ n_X12_findsNeeds_0_b78 F T 0 = some (0, M2) := by
    intro T0 hf0 hN0
    have hl0 := nd_len L
    exact zfix_for (f := fun (rc : (Zs × Int32) → Option (Int32 × Zs)) (u : (Zs × Int32)) => n_X12_findsNeeds_0_b78_l F  (fun S x1 => rc (S, x1)) u.1 u.2) 12 (fun i u => ∃ T, u = (T, nI i) ∧ fr [9, 10] [24] M T ∧ Nd T (L.flatMap nd ++ lvN (M.1 0 8) i)) (fun M2 : Zs => fr [9, 10] [24] M M2 ∧ Nd M2 (mN (M.1 0 8) L)) (fun M2 => some (0, M2)) (by
      rintro i _ hi ⟨T, rfl, hf, hN⟩
      have hll := lvN_len (M.1 0 8) i
      by_cases g : hb (M.1 0 8) i = true
      · obtain ⟨T2, t1, t2, t3⟩ := m_asks (F := F) hN (by rw [List.length_append]; omega) (show 2 * i < 24 by omega) (show 2 * i < 24 by omega)
        refine Or.inr ⟨_, ⟨T2, rfl, fr_t hf t2, by rw [lvN_t g, ← List.append_assoc]; exact t3⟩, fun rc => ?_⟩
        show n_X12_findsNeeds_0_b78_l F (fun S x1 => rc (S, x1)) T (nI i) = _
        unfold n_X12_findsNeeds_0_b78_l n_X12_findsNeeds_0_b105
        rw [if_neg (show ¬ (12 : Int32) ≤ nI i from nI_ge (b := 12) hi (by omega)), zgS, hf.1 8 (by decide), e_has F _ _ (show i < 32 by omega), zcS, bI_t g, if_neg (by decide), show (2 : Int32) * nI i = nI (2 * i) from pk_mul 2 i, t1, zcS, zlS, nI_1]
      · refine Or.inr ⟨_, ⟨T, rfl, hf, by rw [lvN_f (by simpa using g)]; exact hN⟩, fun rc => ?_⟩
        show n_X12_findsNeeds_0_b78_l F (fun S x1 => rc (S, x1)) T (nI i) = _
        unfold n_X12_findsNeeds_0_b78_l n_X12_findsNeeds_0_b105
        rw [if_neg (show ¬ (12 : Int32) ≤ nI i from nI_ge (b := 12) hi (by omega)), zgS, hf.1 8 (by decide), e_has F _ _ (show i < 32 by omega), zcS, bI_f g, if_pos rfl, zlS, nI_1]) (by
      rintro _ ⟨T, rfl, hf, hN⟩
      refine ⟨T, ⟨hf, hN⟩, fun rc => ?_⟩
      show n_X12_findsNeeds_0_b78_l F (fun S x1 => rc (S, x1)) T (nI 12) = _
      unfold n_X12_findsNeeds_0_b78_l
      rw [if_pos (show (12 : Int32) ≤ nI 12 by decide)]) F (T0, 0) ⟨T0, rfl, hf0, by rw [show lvN (M.1 0 8) 0 = [] from rfl, List.append_nil]; exact hN0⟩ (by omega)
  obtain ⟨M2, q1, q2⟩ : ∃ M2, (fr [9, 10] [24] M M2 ∧ Nd M2 (mN (M.1 0 8) L)) ∧ n_X12_findsNeeds_0_b7 F (zp M 0 24 0) 0 = some (0, M2) := zfix_for (f := fun (rc : (Zs × Int32) → Option (Int32 × Zs)) (u : (Zs × Int32)) => n_X12_findsNeeds_0_b7_l F  (fun S x1 => rc (S, x1)) u.1 u.2) L.length (fun i u => ∃ T, u = (T, nI i) ∧ fr [9, 10] [24] M T ∧ Nd T (List.flatMap nd (L.take i))) (fun M2 : Zs => fr [9, 10] [24] M M2 ∧ Nd M2 (mN (M.1 0 8) L)) (fun M2 => some (0, M2)) (by
    rintro i _ hi ⟨T, rfl, hf, hN⟩
    obtain ⟨c, hc⟩ : ∃ c, L[i]? = some c := ⟨_, List.getElem?_eq_getElem hi⟩
    obtain ⟨c6, cl⟩ := hL.2.2 i c hc
    have t6 : T.1 6 i = nI c := by rw [hf.2.1 6 (by decide) (by decide)]; exact c6
    have tk : L.take (i + 1) = L.take i ++ [c] := by
      rw [List.take_succ, hc]; rfl
    have tn : List.flatMap nd (L.take (i + 1)) = List.flatMap nd (L.take i) ++ nd c := by
      rw [tk, List.flatMap_append, List.flatMap_cons, List.flatMap_nil, List.append_nil]
    have e18 : T.1 0 18 = nI L.length := by rw [hf.1 18 (by decide)]; exact hL.1
    have hpd := pd_lt c
    by_cases g : c < 1152
    · refine Or.inr ⟨_, ⟨T, rfl, hf, by rw [tn, nd_u g, List.append_nil]; exact hN⟩, fun rc => ?_⟩
      show n_X12_findsNeeds_0_b7_l F (fun S x1 => rc (S, x1)) T (nI i) = _
      unfold n_X12_findsNeeds_0_b7_l n_X12_findsNeeds_0_b70
      rw [zgS, e18, if_neg (nI_ge hi (by omega)), zld_nI _ _ _ (show i < 18 by omega) (by omega), t6, n_sndM F T cl, zcS, zld_nI _ _ _ (show i < 18 by omega) (by omega), t6, n_uniMT F T g, zcS, if_neg (by decide), zlS, nI_1]
    · have htg : (fm c = 2 → tg c = pd c) ∧ (¬ fm c = 2 → tg c = pd c ^^^ 1) := by
        have : fm c = 2 ∨ fm c = 3 := by unfold fm; omega
        refine ⟨fun w => tg_0 (by omega), fun w => tg_1 (by omega)⟩
      have htl : tg c < 24 := by
        rcases Nat.decEq (fm c) 2 with w | w
        · rw [htg.2 w]; exact x1_24 hpd
        · rw [htg.1 w]; exact hpd
      obtain ⟨T2, t1, t2, t3⟩ := m_asks (F := F) hN (by have := nl i; omega) (sj_lt c) htl
      refine Or.inr ⟨_, ⟨T2, rfl, fr_t hf t2, by rw [tn, nd_p (by omega)]; exact t3⟩, fun rc => ?_⟩
      show n_X12_findsNeeds_0_b7_l F (fun S x1 => rc (S, x1)) T (nI i) = _
      unfold n_X12_findsNeeds_0_b7_l n_X12_findsNeeds_0_b67 n_X12_findsNeeds_0_b70
      rw [zgS, e18, if_neg (nI_ge hi (by omega)), zld_nI _ _ _ (show i < 18 by omega) (by omega), t6, n_sndM F T cl, zcS, zld_nI _ _ _ (show i < 18 by omega) (by omega), t6, n_uniMF F T cl (by omega), zcS, if_pos rfl, zld_nI _ _ _ (show i < 18 by omega) (by omega), t6, n_fstM F T cl, zcS, zld_nI _ _ _ (show i < 18 by omega) (by omega), t6, n_frmM F T cl, zcS, nI_x1 (by omega)]
      by_cases w : fm c = 2
      · rw [if_pos (by rw [w]; rfl), ← htg.1 w, t1, zcS, zlS, nI_1]
      · have : fm c < 4 := by unfold fm; omega
        rw [if_neg (show ¬ nI (fm c) = 2 from fun z => w ((nI_eq (b := 2) (by omega) (by omega)).mp z)), ← htg.2 w, t1, zcS, zlS, nI_1]) (by
    rintro _ ⟨T, rfl, hf, hN⟩
    rw [List.take_length] at hN
    obtain ⟨M2, q1, q2⟩ := last T hf hN
    refine ⟨M2, q1, fun rc => ?_⟩
    show n_X12_findsNeeds_0_b7_l F (fun S x1 => rc (S, x1)) T (nI L.length) = _
    unfold n_X12_findsNeeds_0_b7_l
    rw [zgS, hf.1 18 (by decide), hL.1, if_pos (nI_le (Nat.le_refl _) (by omega)), q2]) F (zp M 0 24 0, 0) ⟨_, rfl, fr_p _ (by decide), zp_at _ _ _ _, by simp, fun i p hp => absurd hp (by simp)⟩ (by omega)
  refine ⟨M2, ?_, q1⟩
  unfold n_X12_findsNeeds_0 n_X12_findsNeeds_0_e
  rw [zpS, q2]
theorem m_mask {F : Nat} (hF : 2 ^ 40 < F) {M : Zs} {N : List (Nat × Nat)} (h : Nd M N) (h12 : N.length ≤ 12) {s : Nat} (hs : s < 4096) : ∃ m, (m < 2 ^ N.length ∧ MB' N s m) ∧ n_X12_maskOf_0 F M (nI s) = some (nI m, M) := by
  obtain ⟨v, hv, ev⟩ : ∃ v, isW v N.length (fun i => ∃ p, N[i]? = some p ∧ Mt s p) ∧ n_X12_maskOf_0_b4 F M (nI s) 0 0 = some (v, M) := zfix_for (f := fun (rc : (Zs × Int32 × Int32 × Int32) → Option (Int32 × Zs)) (u : (Zs × Int32 × Int32 × Int32)) => n_X12_maskOf_0_b4_l F  (fun S x1 x2 x3 => rc (S, x1, x2, x3)) u.1 u.2.1 u.2.2.1 u.2.2.2) N.length (fun i u => ∃ v, u = (M, nI s, v, nI i) ∧ isW v i (fun i => ∃ p, N[i]? = some p ∧ Mt s p)) (fun v : Int32 => isW v N.length (fun i => ∃ p, N[i]? = some p ∧ Mt s p)) (fun v => some (v, M)) (by
    rintro i _ hi ⟨v, rfl, hv⟩
    obtain ⟨p, p0⟩ : ∃ p, N[i]? = some p := ⟨_, List.getElem?_eq_getElem hi⟩
    obtain ⟨p1, p2, p3, p4⟩ := h.2.2 i p p0
    have e1 : ∀ rc : (Zs × Int32 × Int32 × Int32) → Option (Int32 × Zs), n_X12_maskOf_0_b4_l F (fun S x1 x2 x3 => rc (S, x1, x2, x3)) M (nI s) v (nI i) = if ofB s p.1 = true ∧ ofB s p.2 = true then rc (M, nI s, v ||| ((1 : Int32) <<< (nI i &&& 31)), nI (i + 1)) else rc (M, nI s, v, nI (i + 1)) := by
      intro rc
      unfold n_X12_maskOf_0_b4_l n_X12_maskOf_0_b45 n_X12_maskOf_0_b46
      rw [zgS, h.1, if_neg (nI_ge hi (by omega)), zld_nI _ _ _ (show i < 29 by omega) (by omega), p1, m_isOf M (by omega) p3, zcS, zld_nI _ _ _ (show i < 29 by omega) (by omega), p2, m_isOf M (by omega) p4, zcS, zlS, zlS, zlS, zlS, nI_1, show v ||| 0 = v from Int32.or_zero]
      by_cases g1 : ofB s p.1 = true
      · rw [bI_t g1, if_neg (by decide)]
        by_cases g2 : ofB s p.2 = true
        · rw [bI_t g2, if_neg (by decide), if_pos ⟨g1, g2⟩]
        · rw [bI_f g2, if_pos rfl, if_neg (fun w => g2 w.2)]
      · rw [bI_f g1, if_pos rfl, if_neg (fun w => g1 w.1)]
    by_cases g : Mt s p
    · exact Or.inr ⟨_, ⟨_, rfl, isW_t hv (by omega) ⟨p, p0, g⟩⟩, fun rc => (e1 rc).trans (if_pos g)⟩
    · refine Or.inr ⟨_, ⟨_, rfl, isW_f hv ?_⟩, fun rc => (e1 rc).trans (if_neg g)⟩
      rintro ⟨q, q1, q2⟩
      rw [p0] at q1
      rw [← Option.some.inj q1] at q2
      exact g q2) (by
    rintro _ ⟨v, rfl, hv⟩
    refine ⟨v, hv, fun rc => ?_⟩
    show n_X12_maskOf_0_b4_l F (fun S x1 x2 x3 => rc (S, x1, x2, x3)) M (nI s) v (nI N.length) = _
    unfold n_X12_maskOf_0_b4_l
    rw [zgS, h.1, if_pos (nI_le (Nat.le_refl _) (by omega))]) F (M, nI s, 0, 0) ⟨0, rfl, isW_0 _⟩ (by omega)
  obtain ⟨m, m1, m2, m3⟩ := isW_nat hv
  refine ⟨m, ⟨m1, fun i => ⟨fun w => ((m3 i).mp w).2, fun w => (m3 i).mpr ⟨?_, w⟩⟩⟩, by rw [← m2]; exact ev⟩
  obtain ⟨p, hp, -⟩ := w
  exact (List.getElem?_eq_some_iff.mp hp).1
theorem MB_u {N : List (Nat × Nat)} {s m m2 : Nat} (h : MB' N s m) (g : MB' N s m2) : m = m2 := Nat.eq_of_testBit_eq fun i => Bool.eq_iff_iff.mpr ((h i).trans (g i).symm)
/-- the least sort of each mask, of those below i -/
def Lf (P : Nat → Prop) (N : List (Nat × Nat)) (M : Zs) (i : Nat) : Prop := ∀ m, m < 2 ^ N.length → (M.1 11 m = -1 ∧ ∀ s, s < i → Cs P s → ¬ MB' N s m) ∨ ∃ s, M.1 11 m = nI s ∧ s < i ∧ Cs P s ∧ MB' N s m ∧ ∀ t, t < s → Cs P t → ¬ MB' N t m
theorem m_least {F : Nat} (hF : 2 ^ 40 < F) {M : Zs} {P : Nat → Prop} {N : List (Nat × Nat)} (h : Nd M N) (h12 : N.length ≤ 12) (hT : TB M 7 P) : ∃ M2, (fr [11] [] M M2 ∧ Lf P N M2 4096) ∧ n_X12_towns_0_b37 F M (nI (2 ^ N.length - 1)) 0 = n_X12_towns_0_b118 F (zp M2 12 0 0) (nI (2 ^ N.length - 1)) 1 := by
  have hp12 : 2 ^ N.length ≤ 2 ^ 12 := Nat.pow_le_pow_right (by omega) h12
  have hpos : 0 < 2 ^ N.length := Nat.two_pow_pos _
  have second : ∀ T0, fr [11] [] M T0 → (∀ m, m < 2 ^ N.length → T0.1 11 m = -1) → ∃ M2, (fr [11] [] M M2 ∧ Lf P N M2 4096) ∧ n_X12_towns_0_b57 F T0 (nI (2 ^ N.length - 1)) 0 = n_X12_towns_0_b118 F (zp M2 12 0 0) (nI (2 ^ N.length - 1)) 1 := by
    intro T0 hf0 h0
    exact zfix_for (f := fun (rc : (Zs × Int32 × Int32) → Option (Int32 × Zs)) (u : (Zs × Int32 × Int32)) => n_X12_towns_0_b57_l F  (fun S x1 x2 => rc (S, x1, x2)) u.1 u.2.1 u.2.2) 4096 (fun i u => ∃ T, u = (T, nI (2 ^ N.length - 1), nI i) ∧ fr [11] [] M T ∧ Lf P N T i) (fun M2 : Zs => fr [11] [] M M2 ∧ Lf P N M2 4096) (fun M2 => n_X12_towns_0_b118 F (zp M2 12 0 0) (nI (2 ^ N.length - 1)) 1) (by
      rintro i _ hi ⟨T, rfl, hf, hl⟩
      have hTT : TB T 7 P := fun t ht u => by rw [hf.2.1 7 (by decide) (by decide)]; exact hT t ht u
      obtain ⟨r, hr, er⟩ := m_canBe hF hTT hi
      obtain ⟨m, ⟨m1, m2⟩, em⟩ := m_mask hF (Nd_fr h hf (by decide) (by decide) (by decide)) h12 hi
      by_cases g : OkS P i
      · have hCi : Cs P i := ⟨hi, g⟩
        have e1 : ∀ rc : (Zs × Int32 × Int32) → Option (Int32 × Zs), n_X12_towns_0_b57_l F (fun S x1 x2 => rc (S, x1, x2)) T (nI (2 ^ N.length - 1)) (nI i) = if 0 ≤ T.1 11 m then rc (zp T 11 m (T.1 11 m), nI (2 ^ N.length - 1), nI (i + 1)) else rc (zp T 11 m (nI i), nI (2 ^ N.length - 1), nI (i + 1)) := by
          intro rc
          unfold n_X12_towns_0_b57_l n_X12_towns_0_b102 n_X12_towns_0_b103
          rw [if_neg (show ¬ (4096 : Int32) ≤ nI i from nI_ge (b := 4096) hi (by omega)), er, zcS, if_neg (fun w => (isB_0 hr).mp w g), em, zcS, zld_nI _ _ _ (show m < 4096 by omega) (by omega), zld_nI _ _ _ (show m < 4096 by omega) (by omega), zst_nI _ _ _ _ (show m < 4096 by omega) (by omega), zst_nI _ _ _ _ (show m < 4096 by omega) (by omega), zlS, zlS, nI_1]
        have other : ∀ v m', m' < 2 ^ N.length → m' ≠ m → ((zp T 11 m v).1 11 m' = -1 ∧ ∀ s, s < i + 1 → Cs P s → ¬ MB' N s m') ∨ ∃ s, (zp T 11 m v).1 11 m' = nI s ∧ s < i + 1 ∧ Cs P s ∧ MB' N s m' ∧ ∀ t, t < s → Cs P t → ¬ MB' N t m' := by
          intro v m' hm' hne
          rw [zp_off _ _ (Or.inr hne)]
          rcases hl m' hm' with ⟨a, b⟩ | ⟨s, a, b, c, d⟩
          · refine Or.inl ⟨a, fun s hs hC z => ?_⟩
            by_cases e : s = i
            · rw [e] at z; exact hne (MB_u z m2)
            · exact b s (by omega) hC z
          · exact Or.inr ⟨s, a, by omega, c, d⟩
        rcases hl m m1 with ⟨a, b⟩ | ⟨s, a, b, c, d⟩
        · refine Or.inr ⟨_, ⟨zp T 11 m (nI i), rfl, fr_t hf (fr_r _ _ (by decide) (by decide)), fun m' hm' => ?_⟩, fun rc => (e1 rc).trans (if_neg (by rw [a]; decide))⟩
          by_cases e : m' = m
          · rw [e, zp_at]
            exact Or.inr ⟨i, rfl, by omega, hCi, m2, fun t ht hC => b t ht hC⟩
          · exact other _ m' hm' e
        · refine Or.inr ⟨_, ⟨zp T 11 m (T.1 11 m), rfl, fr_t hf (fr_r _ _ (by decide) (by decide)), fun m' hm' => ?_⟩, fun rc => (e1 rc).trans (if_pos (by rw [a]; exact Int32.not_lt.mp (nI_pos (by omega))))⟩
          by_cases e : m' = m
          · rw [e, zp_at]
            exact Or.inr ⟨s, a, by omega, c, d⟩
          · exact other _ m' hm' e
      · refine Or.inr ⟨_, ⟨T, rfl, hf, fun m' hm' => ?_⟩, fun rc => ?_⟩
        · rcases hl m' hm' with ⟨a, b⟩ | ⟨s, a, b, c, d⟩
          · refine Or.inl ⟨a, fun s hs hC z => ?_⟩
            by_cases e : s = i
            · rw [e] at hC; exact g hC.2
            · exact b s (by omega) hC z
          · exact Or.inr ⟨s, a, by omega, c, d⟩
        · show n_X12_towns_0_b57_l F (fun S x1 x2 => rc (S, x1, x2)) T (nI (2 ^ N.length - 1)) (nI i) = _
          unfold n_X12_towns_0_b57_l n_X12_towns_0_b103
          rw [if_neg (show ¬ (4096 : Int32) ≤ nI i from nI_ge (b := 4096) hi (by omega)), er, zcS, if_pos ((isB_0 hr).mpr g), zlS, nI_1]) (by
      rintro _ ⟨T, rfl, hf, hl⟩
      refine ⟨T, ⟨hf, hl⟩, fun rc => ?_⟩
      show n_X12_towns_0_b57_l F (fun S x1 x2 => rc (S, x1, x2)) T (nI (2 ^ N.length - 1)) (nI 4096) = _
      unfold n_X12_towns_0_b57_l
      rw [if_pos (show (4096 : Int32) ≤ nI 4096 by decide), show zst T 12 4096 0 0 _ = _ from zst_nI T 12 0 _ (show 0 < 4096 by omega) (by omega)]) F (T0, nI (2 ^ N.length - 1), 0) ⟨T0, rfl, hf0, fun m hm => Or.inl ⟨h0 m hm, fun s hs => absurd hs (by omega)⟩⟩ (by omega)
  exact zfix_for (f := fun (rc : (Zs × Int32 × Int32) → Option (Int32 × Zs)) (u : (Zs × Int32 × Int32)) => n_X12_towns_0_b37_l F  (fun S x1 x2 => rc (S, x1, x2)) u.1 u.2.1 u.2.2) (2 ^ N.length) (fun i u => ∃ T, u = (T, nI (2 ^ N.length - 1), nI i) ∧ fr [11] [] M T ∧ ∀ m, m < i → T.1 11 m = -1) (fun M2 : Zs => fr [11] [] M M2 ∧ Lf P N M2 4096) (fun M2 => n_X12_towns_0_b118 F (zp M2 12 0 0) (nI (2 ^ N.length - 1)) 1) (by
    rintro i _ hi ⟨T, rfl, hf, hj⟩
    refine Or.inr ⟨_, ⟨zp T 11 i (-1), rfl, fr_t hf (fr_r _ _ (by decide) (by decide)), fun m hm => ?_⟩, fun rc => ?_⟩
    · by_cases e : m = i
      · rw [e, zp_at]
      · rw [zp_off _ _ (Or.inr e)]; exact hj m (by omega)
    · show n_X12_towns_0_b37_l F (fun S x1 x2 => rc (S, x1, x2)) T (nI (2 ^ N.length - 1)) (nI i) = _
      unfold n_X12_towns_0_b37_l
      rw [if_neg (fun w => by rw [nI_lt_iff (by omega) (by omega)] at w; omega), zst_nI _ _ _ _ (show i < 4096 by omega) (by omega), zlS, nI_1]) (by
    rintro _ ⟨T, rfl, hf, hj⟩
    obtain ⟨M2, q1, q2⟩ := second T hf hj
    refine ⟨M2, q1, fun rc => ?_⟩
    show n_X12_towns_0_b37_l F (fun S x1 x2 => rc (S, x1, x2)) T (nI (2 ^ N.length - 1)) (nI (2 ^ N.length)) = _
    unfold n_X12_towns_0_b37_l
    rw [if_pos (nI_lt (by omega) (by omega)), q2]) F (M, nI (2 ^ N.length - 1), 0) ⟨M, rfl, fr_rf _ _ _, fun m hm => absurd hm (by omega)⟩ (by omega)
