/-! ROWS that are told; truth -/
theorem Rel_row {K : Zs → Prop} (hK : KOK K) {X M X2 M2 : Zs} (h : Rel K X M) (fx : fr [47] [10] X X2) (fm : fr [1] [1] M M2) (hr : RRow X2 M2) : Rel K X2 M2 := by
  obtain ⟨h1, h2, h3, h4, h5, -, h7, h8, h9⟩ := h
  have xf := fun k (hk : k ∉ [10]) => (fx.1 k hk).symm
  have xr := fun r (h0 : r ≠ 0) (hr : r ∉ [47]) => (fx.2.1 r h0 hr).symm
  have mf := fun k (hk : k ∉ [1]) => (fm.1 k hk).symm
  have mr := fun r (h0 : r ≠ 0) (hr : r ∉ [1]) => (fm.2.1 r h0 hr).symm
  unfold RText at h1
  unfold RSay at h2
  unfold RLife at h3
  unfold RMood at h4
  unfold RWant at h5
  unfold RPlea at h7
  unfold RKept at h8
  rw [xf 21 (by decide), xr 2 (by decide) (by decide), mf 13 (by decide), mr 5 (by decide) (by decide)] at h1
  rw [xf 62 (by decide), xf 63 (by decide), xf 64 (by decide), xr 4 (by decide) (by decide), xr 5 (by decide) (by decide), mf 3 (by decide), mf 6 (by decide), mf 7 (by decide), mr 2 (by decide) (by decide), mr 3 (by decide) (by decide)] at h2
  rw [xf 65 (by decide), mf 8 (by decide)] at h3
  rw [xf 66 (by decide), mf 11 (by decide)] at h4
  rw [xf 68 (by decide), xr 6 (by decide) (by decide), mf 9 (by decide), mr 4 (by decide) (by decide)] at h5
  rw [xf 62 (by decide), xf 826 (by decide), xr 42 (by decide) (by decide), xr 43 (by decide) (by decide), xr 44 (by decide) (by decide), xr 45 (by decide) (by decide), xr 46 (by decide) (by decide), mf 35 (by decide), mr 16 (by decide) (by decide), mr 17 (by decide) (by decide), mr 18 (by decide) (by decide), mr 19 (by decide) (by decide), mr 20 (by decide) (by decide)] at h7
  rw [xf 62 (by decide), xr 7 (by decide) (by decide), xr 8 (by decide) (by decide), xr 9 (by decide) (by decide), xr 10 (by decide) (by decide), xr 11 (by decide) (by decide), xr 12 (by decide) (by decide), mr 21 (by decide) (by decide), mr 22 (by decide) (by decide)] at h8
  exact ⟨h1, h2, h3, h4, h5, hr, h7, h8, hK X X2 (fr_k fx (by decide) (by decide)) h9⟩
/-- one number is told -/
def xOne (X : Zs) (v : Int32) : Zs := zp (zp X 47 0 v) 0 10 1
def mOne (M : Zs) (v : Int32) : Zs := zp (zp (zp M 0 1 0) 1 0 v) 0 1 1
theorem x_tellOne (F : Nat) (X : Zs) (v : Int32) : n_X11_tellOne_0 F X v = some (0, xOne X v) := by
  show zst X 47 24 (nI 0) v (fun S1 => zpf S1 10 1 (fun S2 => some (0, S2))) = _
  rw [zst_nI _ _ _ _ (by omega) (by omega)]; rfl
theorem m_enterOne (F : Nat) (M : Zs) (v : Int32) : n_X12_enters_0 F (zp M 0 1 0) v = some (0, mOne M v) := by
  show zst (zp M 0 1 0) 1 32 (nI 0) v (fun S2 => zgf S2 1 (fun v3 => zpf S2 1 (v3 + 1) (fun S4 => some (0, S4)))) = _
  rw [zst_nI _ _ _ _ (by omega) (by omega)]; rfl
theorem fx_one (X : Zs) (v : Int32) : fr [47] [10] X (xOne X v) := fr_t (fr_r _ _ (by decide) (by decide)) (fr_p _ (by decide))
theorem fm_one (M : Zs) (v : Int32) : fr [1] [1] M (mOne M v) := fr_t (fr_p _ (by decide)) (fr_t (fr_r _ _ (by decide) (by decide)) (fr_p _ (by decide)))
theorem Rel_one {K : Zs → Prop} (hK : KOK K) {X M : Zs} (h : Rel K X M) (v : Int32) : Rel K (xOne X v) (mOne M v) := by
  refine Rel_row hK h (fx_one X v) (fm_one M v) ⟨1, by omega, rfl, rfl, fun i hi => ?_⟩
  rw [show i = 0 by omega]
  show (zp (zp X 47 0 v) 0 10 1).1 47 0 = (zp (zp (zp M 0 1 0) 1 0 v) 0 1 1).1 1 0
  rw [zp_off _ _ (Or.inl (by decide)), zp_at, zp_off _ _ (Or.inl (by decide)), zp_at]
/-- two numbers are told -/
def xTwo (X : Zs) (v w : Int32) : Zs := zp (zp (zp X 47 0 v) 47 1 w) 0 10 2
def mTwo (M : Zs) (v w : Int32) : Zs := zp (zp (mOne M v) 1 1 w) 0 1 2
theorem x_tellTwo (F : Nat) (X : Zs) (v w : Int32) : n_X11_tellTwo_0 F X v w = some (0, xTwo X v w) := by
  show zst X 47 24 (nI 0) v (fun S1 => zst S1 47 24 (nI 1) w (fun S2 => zpf S2 10 2 (fun S3 => some (0, S3)))) = _
  rw [zst_nI _ _ _ _ (by omega) (by omega), zst_nI _ _ _ _ (by omega) (by omega)]; rfl
theorem m_enterTwo (F : Nat) (M : Zs) (v w : Int32) : n_X12_enters_0 F (mOne M v) w = some (0, mTwo M v w) := by
  show zst (mOne M v) 1 32 (nI 1) w (fun S2 => zgf S2 1 (fun v3 => zpf S2 1 (v3 + 1) (fun S4 => some (0, S4)))) = _
  rw [zst_nI _ _ _ _ (by omega) (by omega)]; rfl
theorem fx_two (X : Zs) (v w : Int32) : fr [47] [10] X (xTwo X v w) := fr_t (fr_r _ _ (by decide) (by decide)) (fr_t (fr_r _ _ (by decide) (by decide)) (fr_p _ (by decide)))
theorem fm_two (M : Zs) (v w : Int32) : fr [1] [1] M (mTwo M v w) := fr_t (fm_one M v) (fr_t (fr_r _ _ (by decide) (by decide)) (fr_p _ (by decide)))
theorem Rel_two {K : Zs → Prop} (hK : KOK K) {X M : Zs} (h : Rel K X M) (v w : Int32) : Rel K (xTwo X v w) (mTwo M v w) := by
  refine Rel_row hK h (fx_two X v w) (fm_two M v w) ⟨2, by omega, rfl, rfl, fun i hi => ?_⟩
  rcases (show i = 0 ∨ i = 1 by omega) with rfl | rfl
  · show (zp (zp (zp X 47 0 v) 47 1 w) 0 10 2).1 47 0 = (zp (zp (mOne M v) 1 1 w) 0 1 2).1 1 0
    rw [zp_off _ _ (Or.inl (by decide)), zp_off _ _ (Or.inr (by decide)), zp_at, zp_off _ _ (Or.inl (by decide)), zp_off _ _ (Or.inr (by decide))]
    show v = (zp (zp (zp M 0 1 0) 1 0 v) 0 1 1).1 1 0
    rw [zp_off _ _ (Or.inl (by decide)), zp_at]
  · show (zp (zp (zp X 47 0 v) 47 1 w) 0 10 2).1 47 1 = (zp (zp (mOne M v) 1 1 w) 0 1 2).1 1 1
    rw [zp_off _ _ (Or.inl (by decide)), zp_at, zp_off _ _ (Or.inl (by decide)), zp_at]
-- counting
noncomputable def cnt (P : Nat → Prop) : Nat → Nat
  | 0 => 0
  | n + 1 => cnt P n + @ite Nat (P n) (Classical.propDecidable (P n)) 1 0
theorem cnt_t {P : Nat → Prop} {n : Nat} (h : P n) : cnt P (n + 1) = cnt P n + 1 := by
  show cnt P n + @ite Nat (P n) (Classical.propDecidable (P n)) 1 0 = _
  rw [if_pos h]
theorem cnt_f {P : Nat → Prop} {n : Nat} (h : ¬ P n) : cnt P (n + 1) = cnt P n := by
  show cnt P n + @ite Nat (P n) (Classical.propDecidable (P n)) 1 0 = _
  rw [if_neg h]; rfl
theorem cnt_le (P : Nat → Prop) (n : Nat) : cnt P n ≤ n := by
  induction n with
  | zero => exact Nat.le_refl 0
  | succ n ih =>
    by_cases h : P n
    · rw [cnt_t h]; omega
    · rw [cnt_f h]; omega
theorem cnt_c {P R : Nat → Prop} {n : Nat} (h : ∀ k, k < n → (P k ↔ R k)) : cnt P n = cnt R n := by
  induction n with
  | zero => rfl
  | succ n ih =>
    have := ih fun k hk => h k (by omega)
    by_cases g : P n
    · rw [cnt_t g, cnt_t ((h n (by omega)).mp g), this]
    · rw [cnt_f g, cnt_f (fun k => g ((h n (by omega)).mpr k)), this]
def cdx (t : Int32) (cd : Nat → Nat) (i : Nat) : Nat := if t = 0 then cd i else ct (cd i)
theorem x_countE {F : Nat} (hF : 2 ^ 40 < F) {X : Zs} {n : Nat} {cd : Nat → Nat} (hX : XC X n cd) (hK : KB X n cd) {A : Int32} (bA : bnd A n) (B t : Int32) : ∃ q : Int32 × Zs, (fr cR cK X q.2 ∧ KB q.2 n cd ∧ q.1 = nI (cnt (fun i => hb B i = true ∧ ¬ Con (sel cd A n ++ [ct (cdx t cd i)]) (X.1 0 65)) n)) ∧ n_X1_countEntailed_13 F X A B t = some q := by
  exact zfix_for (f := fun (rc : (Zs × Int32 × Int32 × Int32 × Int32 × Int32) → Option (Int32 × Zs)) (u : (Zs × Int32 × Int32 × Int32 × Int32 × Int32)) => n_X1_countEntailed_13_b6_l F  (fun S x1 x2 x3 x4 x5 => rc (S, x1, x2, x3, x4, x5)) u.1 u.2.1 u.2.2.1 u.2.2.2.1 u.2.2.2.2.1 u.2.2.2.2.2) n (fun i a => ∃ S, a = (S, A, B, t, nI (cnt (fun i => hb B i = true ∧ ¬ Con (sel cd A n ++ [ct (cdx t cd i)]) (X.1 0 65)) i), nI i) ∧ fr cR cK X S ∧ KB S n cd) (fun q : Int32 × Zs => fr cR cK X q.2 ∧ KB q.2 n cd ∧ q.1 = nI (cnt (fun i => hb B i = true ∧ ¬ Con (sel cd A n ++ [ct (cdx t cd i)]) (X.1 0 65)) n)) (fun q => some q) (by
    rintro i _ hi ⟨S', rfl, hf, hk⟩
    have hX' := XC_fr hX hf (by decide) (by decide)
    have hn := hX.2.1
    obtain ⟨y1, y2, y3⟩ := id hX'
    obtain ⟨k1, k2⟩ := y3 i hi
    have kx : cdx t cd i < 2304 := by
      unfold cdx
      split
      · exact k2
      · exact ct_lt k2
    have hcl := cnt_le (fun i => hb B i = true ∧ ¬ Con (sel cd A n ++ [ct (cdx t cd i)]) (X.1 0 65)) i
    have hct := @cnt_t (fun i => hb B i = true ∧ ¬ Con (sel cd A n ++ [ct (cdx t cd i)]) (X.1 0 65)) i
    have hcf := @cnt_f (fun i => hb B i = true ∧ ¬ Con (sel cd A n ++ [ct (cdx t cd i)]) (X.1 0 65)) i
    generalize cnt (fun i => hb B i = true ∧ ¬ Con (sel cd A n ++ [ct (cdx t cd i)]) (X.1 0 65)) i = m at *
    have e0 : ∀ rc : (Zs × Int32 × Int32 × Int32 × Int32 × Int32) → Option (Int32 × Zs), n_X1_countEntailed_13_b6_l F (fun S x1 x2 x3 x4 x5 => rc (S, x1, x2, x3, x4, x5)) S' A B t (nI m) (nI i) = n_X1_countEntailed_13_b48 F (fun S x1 x2 x3 x4 x5 => rc (S, x1, x2, x3, x4, x5)) S' A B t (nI m) (nI i) (nI (cdx t cd i)) := by
      intro rc
      unfold n_X1_countEntailed_13_b6_l
      simp (disch := omega) only [zgf, y1, nI_le_iff, zld_nI, k1]
      rw [if_neg (by omega)]
      unfold cdx
      by_cases h : t = 0
      · rw [if_pos h, if_pos h]
      · rw [if_neg h, if_neg h, n_ctr F _ k2, zcS]
    have e : ∀ rc : (Zs × Int32 × Int32 × Int32 × Int32 × Int32) → Option (Int32 × Zs), n_X1_countEntailed_13_b6_l F (fun S x1 x2 x3 x4 x5 => rc (S, x1, x2, x3, x4, x5)) S' A B t (nI m) (nI i) = if hb B i = false then rc (S', A, B, t, nI m, nI (i + 1)) else zcl (n_X1_entails_13 F S' A (nI (cdx t cd i))) (fun v3 S2 => if v3 = 0 then rc (S2, A, B, t, nI m, nI (i + 1)) else rc (S2, A, B, t, nI (m + 1), nI (i + 1))) := by
      intro rc
      rw [e0]
      unfold n_X1_countEntailed_13_b48 n_X1_countEntailed_13_b72
      simp (disch := omega) only [hb_sh0, zlet, nI_1]
    cases hbit : hb B i with
    | false =>
      refine Or.inr ⟨(S', A, B, t, nI m, nI (i + 1)), ⟨S', by rw [hcf (fun g => by rw [hbit] at g; exact absurd g.1 (by decide))], hf, hk⟩, fun rc => ?_⟩
      exact (e rc).trans (if_pos hbit)
    | true =>
      obtain ⟨r, X1, e1, f1, h1, kb1⟩ := x_entails hF hX' hk bA kx
      rw [hf.1 65 (by decide)] at h1
      by_cases hcon : Con (sel cd A n ++ [ct (cdx t cd i)]) (X.1 0 65)
      · refine Or.inr ⟨(X1, A, B, t, nI m, nI (i + 1)), ⟨X1, by rw [hcf (fun g => g.2 hcon)], fr_t hf f1, kb1⟩, fun rc => ?_⟩
        refine (e rc).trans ?_
        rw [if_neg (by rw [hbit]; decide), e1, zcS, if_pos ((isB_0 h1).mpr (fun g => g hcon))]
      · refine Or.inr ⟨(X1, A, B, t, nI (m + 1), nI (i + 1)), ⟨X1, by rw [hct ⟨hbit, hcon⟩], fr_t hf f1, kb1⟩, fun rc => ?_⟩
        refine (e rc).trans ?_
        rw [if_neg (by rw [hbit]; decide), e1, zcS, if_neg (fun g => (isB_0 h1).mp g hcon)]) (by
    rintro _ ⟨S', rfl, hf, hk⟩
    have y1 := (XC_fr hX hf (by decide) (by decide)).1
    have hn := hX.2.1
    refine ⟨(_, S'), ⟨hf, hk, rfl⟩, fun rc => ?_⟩
    generalize cnt (fun i => hb B i = true ∧ ¬ Con (sel cd A n ++ [ct (cdx t cd i)]) (X.1 0 65)) n = m
    show n_X1_countEntailed_13_b6_l F (fun S x1 x2 x3 x4 x5 => rc (S, x1, x2, x3, x4, x5)) S' A B t (nI m) (nI n) = _
    unfold n_X1_countEntailed_13_b6_l
    simp (disch := omega) only [zgf, y1, nI_le_iff]
    rw [if_pos (by omega)]; rfl) F (X, A, B, t, 0, 0) ⟨X, rfl, fr_rf _ _ _, hK⟩ (by have := hX.2.1; omega)
theorem m_truth {F : Nat} (hF : 2 ^ 40 < F) {M : Zs} {n : Nat} {cd : Nat → Nat} (hM : MC M n cd) (A B : Int32) : ∃ M2, fr mR mK M M2 ∧ n_X12_truth_0_b50 F M B A 0 0 0 = some (nI (cnt (fun i => hb B i = true ∧ ¬ Con (sel cd A n ++ [ct (cdx 0 cd i)]) (M.1 0 8)) n), mOne M2 (nI (cnt (fun i => hb B i = true ∧ ¬ Con (sel cd A n ++ [ct (cdx 1 cd i)]) (M.1 0 8)) n))) := by
  exact zfix_for (f := fun (rc : (Zs × Int32 × Int32 × Int32 × Int32 × Int32) → Option (Int32 × Zs)) (u : (Zs × Int32 × Int32 × Int32 × Int32 × Int32)) => n_X12_truth_0_b50_l F  (fun S x2 x3 x4 x5 x6 => rc (S, x2, x3, x4, x5, x6)) u.1 u.2.1 u.2.2.1 u.2.2.2.1 u.2.2.2.2.1 u.2.2.2.2.2) n (fun i a => ∃ S, a = (S, B, A, nI (cnt (fun i => hb B i = true ∧ ¬ Con (sel cd A n ++ [ct (cdx 0 cd i)]) (M.1 0 8)) i), nI (cnt (fun i => hb B i = true ∧ ¬ Con (sel cd A n ++ [ct (cdx 1 cd i)]) (M.1 0 8)) i), nI i) ∧ fr mR mK M S) (fun S : Zs => fr mR mK M S) (fun S => some (nI (cnt (fun i => hb B i = true ∧ ¬ Con (sel cd A n ++ [ct (cdx 0 cd i)]) (M.1 0 8)) n), mOne S (nI (cnt (fun i => hb B i = true ∧ ¬ Con (sel cd A n ++ [ct (cdx 1 cd i)]) (M.1 0 8)) n)))) (by
    rintro i _ hi ⟨S', rfl, hf⟩
    have hM' := MC_fr hM hf (by decide) (by decide)
    have hn := hM.2.1
    obtain ⟨y1, y2, y3⟩ := id hM'
    obtain ⟨k1, k2⟩ := y3 i hi
    have hct := @cnt_t (fun i => hb B i = true ∧ ¬ Con (sel cd A n ++ [ct (cdx 0 cd i)]) (M.1 0 8)) i
    have hcf := @cnt_f (fun i => hb B i = true ∧ ¬ Con (sel cd A n ++ [ct (cdx 0 cd i)]) (M.1 0 8)) i
    have hct' := @cnt_t (fun i => hb B i = true ∧ ¬ Con (sel cd A n ++ [ct (cdx 1 cd i)]) (M.1 0 8)) i
    have hcf' := @cnt_f (fun i => hb B i = true ∧ ¬ Con (sel cd A n ++ [ct (cdx 1 cd i)]) (M.1 0 8)) i
    generalize cnt (fun i => hb B i = true ∧ ¬ Con (sel cd A n ++ [ct (cdx 0 cd i)]) (M.1 0 8)) i = m at *
    generalize cnt (fun i => hb B i = true ∧ ¬ Con (sel cd A n ++ [ct (cdx 1 cd i)]) (M.1 0 8)) i = m' at *
    by_cases hbit : hb B i = true
    · obtain ⟨r, M1, e1, f1, h1⟩ := m_followsFrom hF hM' A k2
      have f1' := fr_t hf (fw f1)
      obtain ⟨r2, M2, e2, f2, h2⟩ := m_followsFrom hF (MC_fr hM f1' (by decide) (by decide)) A (ct_lt k2)
      rw [hf.1 8 (by decide)] at h1
      rw [f1'.1 8 (by decide)] at h2
      have h1 : isB r (¬ Con (sel cd A n ++ [ct (cdx 0 cd i)]) (M.1 0 8)) := h1
      have h2 : isB r2 (¬ Con (sel cd A n ++ [ct (cdx 1 cd i)]) (M.1 0 8)) := h2
      have kM : M1.1 2 i = nI (cd i) := (MC_fr hM f1' (by decide) (by decide)).2.2 i hi |>.1
      have e : ∀ rc : (Zs × Int32 × Int32 × Int32 × Int32 × Int32) → Option (Int32 × Zs), n_X12_truth_0_b50_l F (fun S x2 x3 x4 x5 x6 => rc (S, x2, x3, x4, x5, x6)) S' B A (nI m) (nI m') (nI i) = rc (M2, B, A, nI m + r, nI m' + r2, nI (i + 1)) := by
        intro rc
        unfold n_X12_truth_0_b50_l n_X12_truth_0_b111
        simp (disch := omega) only [zgf, y1, nI_le_iff, e_has, zcS, bI_eq0, zld_nI, k1, e1, isB_flag h1, zlet, kM, nI_1]
        rw [if_neg (by omega), if_neg (fun g => g hbit), n_ctrM F _ k2, zcS, e2, zcS, isB_flag h2, zcS]
      refine Or.inr ⟨(M2, B, A, nI m + r, nI m' + r2, nI (i + 1)), ⟨M2, ?_, fr_t f1' (fw f2)⟩, e⟩
      have a1 : nI m + r = nI (cnt (fun i => hb B i = true ∧ ¬ Con (sel cd A n ++ [ct (cdx 0 cd i)]) (M.1 0 8)) (i + 1)) := by
        rcases h1 with ⟨w, g⟩ | ⟨w, g⟩
        · rw [w, hct ⟨hbit, g⟩, nI_1]
        · rw [w, hcf (fun k => g k.2)]; exact nI_add m 0
      have a2 : nI m' + r2 = nI (cnt (fun i => hb B i = true ∧ ¬ Con (sel cd A n ++ [ct (cdx 1 cd i)]) (M.1 0 8)) (i + 1)) := by
        rcases h2 with ⟨w, g⟩ | ⟨w, g⟩
        · rw [w, hct' ⟨hbit, g⟩, nI_1]
        · rw [w, hcf' (fun k => g k.2)]; exact nI_add m' 0
      rw [a1, a2]
    · refine Or.inr ⟨(S', B, A, nI m, nI m', nI (i + 1)), ⟨S', by rw [hcf (fun g => hbit g.1), hcf' (fun g => hbit g.1)], hf⟩, fun rc => ?_⟩
      show n_X12_truth_0_b50_l F (fun S x2 x3 x4 x5 x6 => rc (S, x2, x3, x4, x5, x6)) S' B A (nI m) (nI m') (nI i) = _
      unfold n_X12_truth_0_b50_l n_X12_truth_0_b111
      simp (disch := omega) only [zgf, y1, nI_le_iff, e_has, zcS, bI_eq0, zlet, nI_1]
      rw [if_neg (by omega), if_pos hbit]) (by
    rintro _ ⟨S', rfl, hf⟩
    have y1 := (MC_fr hM hf (by decide) (by decide)).1
    have hn := hM.2.1
    refine ⟨S', hf, fun rc => ?_⟩
    generalize cnt (fun i => hb B i = true ∧ ¬ Con (sel cd A n ++ [ct (cdx 0 cd i)]) (M.1 0 8)) n = m
    generalize cnt (fun i => hb B i = true ∧ ¬ Con (sel cd A n ++ [ct (cdx 1 cd i)]) (M.1 0 8)) n = m'
    show n_X12_truth_0_b50_l F (fun S x2 x3 x4 x5 x6 => rc (S, x2, x3, x4, x5, x6)) S' B A (nI m) (nI m') (nI n) = _
    unfold n_X12_truth_0_b50_l
    simp (disch := omega) only [zgf, zpf, y1, nI_le_iff]
    rw [if_pos (by omega), m_enterOne, zcS]) F (M, B, A, 0, 0, 0) ⟨M, rfl, fr_rf _ _ _⟩ (by have := hM.2.1; omega)
/-- truth(witness) -/
theorem p_truth {Q : Zs → Nat → (Nat → Nat) → Prop} (hQ : QOK Q) {F : Nat} (hF : 2 ^ 40 < F) : S_truth F (Rel (Kq Q)) := by
  intro X M hR a
  have hin : ∀ S, n_X12_in F S a.toInt64 0 7 = some (bI (¬ a < 0 ∧ ¬ 7 < a), S) := fun S => e_X12_in F S a 0 7
  have l7 : (7 : Int32) < a ↔ 8 ≤ a := nI_lt_le a (n := 7) (by decide)
  by_cases h : a < 0 ∨ 7 < a
  · refine ⟨-1, X, zp M 0 0 0, ?_, ?_, hR.thrown 0⟩
    · unfold n_X11_truth_0 n_X11_truth_0_e n_X11_truth_0_b10
      by_cases h1 : a < 0
      · rw [if_pos h1]
      · rw [if_neg h1, if_neg (fun g => Int32.not_le.mpr g (l7.mp (h.resolve_left h1)))]
    · unfold n_X12_truth_0 n_X12_truth_0_e zpf
      dsimp only
      rw [hin, zcS, if_pos (bI_f (fun g => h.elim g.1 g.2))]
  obtain ⟨n, cd, hX, hB, q, hM, el, ed, bd, ew, bw⟩ := Rel_ctx hR
  obtain ⟨wt, hw1, hw2⟩ := Rel_wit hR hX
  obtain ⟨v, hv, ev⟩ := x_activeOf hF hX.1 hX.2.1 hw1 ((1 : Int32) <<< (a &&& 31))
  obtain ⟨v', hv', ev'⟩ := m_saidBy hF (M := zp M 0 0 0) hM.1 hM.2.1 hw2 ((1 : Int32) <<< (a &&& 31))
  have e : v = v' := isW_eq hv hv' (fun _ _ => Iff.rfl)
  subst e
  have bA : bnd (actv n (X.1 0 64) &&& ((v &&& actv n (X.1 0 64)) ^^^ (-1))) n := bnd_and _ (bnd_actv hX.2.1 _)
  obtain ⟨⟨c1, X1⟩, ⟨f1, kb1, hc1⟩, e1⟩ := x_countE hF hX hB bA (v &&& actv n (X.1 0 64)) 1
  have f1 : fr cR cK X X1 := f1
  have kb1 : KB X1 n cd := kb1
  have kS : kSame X1 (xOne X1 c1) := fr_k (fx_one X1 c1) (by decide) (by decide)
  have hX2 := XC_fr (XC_fr hX f1 (by decide) (by decide)) (fx_one X1 c1) (by decide) (by decide)
  have q1 := hQ X X1 n n cd cd (fr_q f1 (by decide) (by decide)) (Nat.le_refl _) (fun _ _ => rfl) q
  have q2 := hQ X1 _ n n cd cd (qSame_k kS) (Nat.le_refl _) (fun _ _ => rfl) q1
  obtain ⟨⟨c2, X3⟩, ⟨f3, kb3, hc2⟩, e3⟩ := x_countE hF hX2 (KB_same kS kb1) bA (v &&& actv n (X.1 0 64)) 0
  have e65 : (xOne X1 c1).1 0 65 = X.1 0 65 := by rw [(fx_one X1 c1).1 65 (by decide), f1.1 65 (by decide)]
  rw [e65] at hc2
  obtain ⟨M1, fm, em⟩ := m_truth hF (MC_fr hM (f0 M) (by decide) (by decide)) (actv n (M.1 0 7) &&& ((actv n (M.1 0 7) &&& v) ^^^ (-1))) (actv n (M.1 0 7) &&& v)
  have em : n_X12_truth_0_b50 F (zp M 0 0 0) (actv n (M.1 0 7) &&& v) (actv n (M.1 0 7) &&& ((actv n (M.1 0 7) &&& v) ^^^ (-1))) 0 0 0 = some (c2, mOne M1 c1) := by
    rw [em]
    have k1 : c1 = _ := hc1
    have k2 : c2 = _ := hc2
    rw [k1, k2, ew, el, Int32.and_comm v]
    rfl
  have R1 := Rel_court hQ hR hX q f1 kb1 (fr_t (f0 M) fm)
  have R2 := Rel_one (Kq_ok hQ) R1 c1
  have R3 := Rel_court hQ R2 hX2 q2 f3 kb3 (fr_rf _ _ _)
  refine ⟨c2, X3, mOne M1 c1, ?_, ?_, R3⟩
  · unfold n_X11_truth_0 n_X11_truth_0_e
    rw [if_neg (fun g => h (Or.inl g)), if_pos (Int32.not_le.mp (fun g => h (Or.inr (l7.mpr g)))), ev, zcS, x_active hX.1, zcS]
    unfold zlet
    dsimp only
    rw [e1, zcS, x_tellOne, zcS, e3, zcS]
  · unfold n_X12_truth_0 n_X12_truth_0_e zpf
    dsimp only
    rw [hin, zcS, bI_t ⟨fun g => h (Or.inl g), fun g => h (Or.inr g)⟩, if_neg (by decide), m_standing (M := zp M 0 0 0) hM.1, zcS, ev', zcS]
    unfold zlet
    dsimp only
    rw [m_standing (M := zp M 0 0 0) hM.1, zcS]
    exact em
