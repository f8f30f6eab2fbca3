/-! chain: the reference, the row, the call -/
theorem m_isStep {F : Nat} {M : Zs} {n i t u : Nat} {cd : Nat → Nat} (hM : MC M n cd) (hi : i < n) (ht : t < 24) (hu : u < 24) : ∃ r, isB r (¬ hb (M.1 0 7) i = true ∧ nx (cd i) t = some u) ∧ n_X12_isStep_0 F M (nI i) (nI t) (nI u) = some (r, M) := by
  obtain ⟨y1, y2, y3⟩ := hM
  obtain ⟨k1, k2⟩ := y3 i hi
  have h1 := sj_lt (cd i)
  have h2 := pd_lt (cd i)
  have h3 := tg_lt (cd i)
  have h4 := x1_lt h3
  have h5 := x1_lt h1
  have b71 : n_X12_isStep_0_b71 F M (nI t) (nI u) (nI (sj (cd i))) (nI (tg (cd i))) = if (t = sj (cd i) ∧ u = tg (cd i)) ∨ (t = tg (cd i) ^^^ 1 ∧ u = sj (cd i) ^^^ 1) then some (1, M) else some (0, M) := by
    unfold n_X12_isStep_0_b71 n_X12_isStep_0_b85 n_X12_isStep_0_b101 n_X12_isStep_0_b105 n_X12_isStep_0_b106
    rw [zrb_0, zrb_1, nI_x1 (by omega), nI_x1 (by omega)]
    simp (disch := omega) only [nI_eq]
    by_cases g1 : t = sj (cd i)
    · rw [if_pos g1]
      by_cases g2 : u = tg (cd i)
      · rw [if_pos g2, if_pos (Or.inl ⟨g1, g2⟩)]
      · rw [if_neg g2]
        by_cases g3 : t = tg (cd i) ^^^ 1
        · rw [if_pos g3]
          by_cases g4 : u = sj (cd i) ^^^ 1
          · rw [if_pos g4, if_pos (Or.inr ⟨g3, g4⟩)]
          · rw [if_neg g4, if_neg (fun k => k.elim (fun k => g2 k.2) (fun k => g4 k.2))]
        · rw [if_neg g3, if_neg (fun k => k.elim (fun k => g2 k.2) (fun k => g3 k.1))]
    · rw [if_neg g1]
      by_cases g3 : t = tg (cd i) ^^^ 1
      · rw [if_pos g3]
        by_cases g4 : u = sj (cd i) ^^^ 1
        · rw [if_pos g4, if_pos (Or.inr ⟨g3, g4⟩)]
        · rw [if_neg g4, if_neg (fun k => k.elim (fun k => g1 k.1) (fun k => g4 k.2))]
      · rw [if_neg g3, if_neg (fun k => k.elim (fun k => g1 k.1) (fun k => g3 k.1))]
  have e : n_X12_isStep_0 F M (nI i) (nI t) (nI u) = if hb (M.1 0 7) i = true then some (0, M) else if cd i < 1152 then n_X12_isStep_0_b71 F M (nI t) (nI u) (nI (sj (cd i))) (nI (tg (cd i))) else some (0, M) := by
    unfold n_X12_isStep_0 n_X12_isStep_0_e n_X12_isStep_0_b23
    rw [zgS, e_has F _ _ (show i < 32 by omega), zcS, zld_nI _ _ _ (show i < 16 by omega) (by omega), zrb_0, k1]
    by_cases g : hb (M.1 0 7) i = true
    · rw [bI_t g, if_neg (by decide), if_pos g]
    · rw [bI_f g, if_pos rfl, if_neg g]
      rcases Nat.lt_or_ge (cd i) 1152 with hu' | hu'
      · rw [n_uniMT F M hu', zcS, if_neg (by decide), zld_nI _ _ _ (show i < 16 by omega) (by omega), k1, n_fstM F M k2, zcS, zld_nI _ _ _ (show i < 16 by omega) (by omega), k1, n_frmM F M k2, zcS, zld_nI _ _ _ (show i < 16 by omega) (by omega), k1, n_sndM F M k2, zcS, zld_nI _ _ _ (show i < 16 by omega) (by omega), k1, n_sndM F M k2, zcS, if_pos hu', nI_x1 (by omega)]
        rcases (show fm (cd i) = 0 ∨ fm (cd i) = 1 by unfold fm; omega) with w | w
        · rw [w, if_pos (show nI 0 = 0 from rfl), tg_0 (by omega)]
        · rw [w, if_neg (show ¬ nI 1 = 0 by decide), tg_1 (by omega)]
      · rw [n_uniMF F M k2 hu', zcS, if_pos rfl, if_neg (show ¬ cd i < 1152 by omega), zrb_0]
  by_cases h : ¬ hb (M.1 0 7) i = true ∧ nx (cd i) t = some u
  · obtain ⟨q1, q2⟩ := nx_iff.mp h.2
    exact ⟨1, Or.inl ⟨rfl, h⟩, by rw [e, if_neg h.1, if_pos q1, b71, if_pos q2]⟩
  · refine ⟨0, Or.inr ⟨rfl, h⟩, ?_⟩
    rw [e]
    by_cases g : hb (M.1 0 7) i = true
    · rw [if_pos g]
    · rw [if_neg g]
      by_cases g2 : cd i < 1152
      · rw [if_pos g2, b71, if_neg (fun k => h ⟨g, nx_iff.mpr ⟨g2, k⟩⟩)]
      · rw [if_neg g2]
theorem m_isLed {F : Nat} (hF : 2 ^ 40 < F) {M : Zs} {n t u : Nat} {cd : Nat → Nat} (hM : MC M n cd) (ht : t < 24) (hu : u < 24) : ∃ r, isB r (Lk cd (M.1 0 7) n t u) ∧ n_X12_isLed_0 F M (nI t) (nI u) = some (r, M) := by
  obtain ⟨y1, y2, y3⟩ := id hM
  exact zfix_for (f := fun (rc : (Zs × Int32 × Int32 × Int32) → Option (Int32 × Zs)) (u : (Zs × Int32 × Int32 × Int32)) => n_X12_isLed_0_b2_l F  (fun S x1 x2 x3 => rc (S, x1, x2, x3)) u.1 u.2.1 u.2.2.1 u.2.2.2) n (fun i a => a = (M, nI t, nI u, nI i) ∧ ¬ Lk cd (M.1 0 7) i t u) (fun r : Int32 => isB r (Lk cd (M.1 0 7) n t u)) (fun r => some (r, M)) (by
    rintro i _ hi ⟨rfl, hI⟩
    obtain ⟨r, hr, er⟩ := m_isStep (F := F) hM hi ht hu
    have e : ∀ rc : (Zs × Int32 × Int32 × Int32) → Option (Int32 × Zs), n_X12_isLed_0_b2_l F (fun S x1 x2 x3 => rc (S, x1, x2, x3)) M (nI t) (nI u) (nI i) = if r = 0 then rc (M, nI t, nI u, nI (i + 1)) else some (1, M) := by
      intro rc
      unfold n_X12_isLed_0_b2_l
      rw [zgS, y1, if_neg (nI_ge hi (by omega)), er, zcS, zlS, nI_1, zrb_1]
    by_cases g : ¬ hb (M.1 0 7) i = true ∧ nx (cd i) t = some u
    · exact Or.inl ⟨1, Or.inl ⟨rfl, i, hi, g⟩, fun rc => (e rc).trans (if_neg (fun k => (isB_0 hr).mp k g))⟩
    · refine Or.inr ⟨_, ⟨rfl, ?_⟩, fun rc => (e rc).trans (if_pos ((isB_0 hr).mpr g))⟩
      rintro ⟨j, j1, j2⟩
      by_cases q : j = i
      · rw [q] at j2; exact g j2
      · exact hI ⟨j, by omega, j2⟩) (by
    rintro _ ⟨rfl, hI⟩
    refine ⟨0, Or.inr ⟨rfl, hI⟩, fun rc => ?_⟩
    show n_X12_isLed_0_b2_l F (fun S x1 x2 x3 => rc (S, x1, x2, x3)) M (nI t) (nI u) (nI n) = _
    unfold n_X12_isLed_0_b2_l
    rw [zgS, y1, if_pos (nI_le (by omega) (by omega)), zrb_0]) F (M, nI t, nI u, 0) ⟨rfl, fun ⟨j, hj, _⟩ => absurd hj (by omega)⟩ (by omega)
def FR : Nat := 1000000
theorem FR_v : FR = 1000000 := rfl
theorem m_row {F : Nat} (hF : 2 ^ 40 < F) {M S : Zs} {n L x t : Nat} {cd ds : Nat → Nat} {E : Nat → Prop} (hM : MC M n cd) (hL : L + 1 < 25) (hv : ∀ t, t < 24 → ds t ≤ L ∨ ds t = FR) (hf : fr [8] [] M S) (hw : RW S 8 ds (L + 1) FR E) (ht : t < 24) (hE : ∀ k, E k → k < t) : ∃ S2, (fr [8] [] M S2 ∧ RW S2 8 ds (L + 1) FR (fun k => E k ∨ (k = t ∧ ds t = FR ∧ ∃ u, u < 24 ∧ Lk cd (M.1 0 7) n t u ∧ ds u = L))) ∧ ∀ p : (Zs → Int32 → Int32 → Option (Int32 × Zs)) × (Zs → Int32 → Int32 → Int32 → Option (Int32 × Zs)), n_X12_chain_0_b73 F p.1 p.2 S (nI x) (nI (L + 1)) (nI t) 0 = p.2 S2 (nI x) (nI (L + 1)) (nI (t + 1)) := by
  have hFR := FR_v
  exact zfix_forP (f := fun (p : (Zs → Int32 → Int32 → Option (Int32 × Zs)) × (Zs → Int32 → Int32 → Int32 → Option (Int32 × Zs))) (rc : (Zs × Int32 × Int32 × Int32 × Int32) → Option (Int32 × Zs)) (u : (Zs × Int32 × Int32 × Int32 × Int32)) => n_X12_chain_0_b73_l F p.1 p.2 (fun S x1 x3 x4 x5 => rc (S, x1, x3, x4, x5)) u.1 u.2.1 u.2.2.1 u.2.2.2.1 u.2.2.2.2) 24 (fun j a => ∃ S', a = (S', nI x, nI (L + 1), nI t, nI j) ∧ fr [8] [] M S' ∧ RW S' 8 ds (L + 1) FR (fun k => E k ∨ (k = t ∧ ds t = FR ∧ ∃ u, u < j ∧ Lk cd (M.1 0 7) n t u ∧ ds u = L))) (fun S2 : Zs => fr [8] [] M S2 ∧ RW S2 8 ds (L + 1) FR (fun k => E k ∨ (k = t ∧ ds t = FR ∧ ∃ u, u < 24 ∧ Lk cd (M.1 0 7) n t u ∧ ds u = L))) (fun p S2 => p.2 S2 (nI x) (nI (L + 1)) (nI (t + 1))) (by
    rintro j _ hj ⟨S', rfl, hf', hw'⟩
    have hM' := MC_fr hM hf' (by decide) (by decide)
    obtain ⟨r, hr, er⟩ := m_isLed hF hM' ht hj
    rw [hf'.1 7 (by decide)] at hr
    have hu0 : S'.1 8 j = nI L ↔ ds j = L := by
      have b := hv j hj
      rcases hw' j hj with ⟨q1, q2, q3⟩ | ⟨q1, q2⟩
      · rw [q2, nI_eq (by omega) (by omega)]; omega
      · rw [q2, nI_eq (by omega) (by omega)]
    have e : ∀ (p : (Zs → Int32 → Int32 → Option (Int32 × Zs)) × (Zs → Int32 → Int32 → Int32 → Option (Int32 × Zs))) (rc : (Zs × Int32 × Int32 × Int32 × Int32) → Option (Int32 × Zs)), n_X12_chain_0_b73_l F p.1 p.2 (fun S x1 x3 x4 x5 => rc (S, x1, x3, x4, x5)) S' (nI x) (nI (L + 1)) (nI t) (nI j) = if S'.1 8 j = nI L then (if r = 0 then rc (zp S' 8 t (S'.1 8 t), nI x, nI (L + 1), nI t, nI (j + 1)) else rc (zp S' 8 t (if nI (L + 1) < S'.1 8 t then nI (L + 1) else S'.1 8 t), nI x, nI (L + 1), nI t, nI (j + 1))) else rc (zp S' 8 t (S'.1 8 t), nI x, nI (L + 1), nI t, nI (j + 1)) := by
      intro p rc
      unfold n_X12_chain_0_b73_l n_X12_chain_0_b124 n_X12_chain_0_b131
      rw [if_neg (show ¬ (24 : Int32) ≤ nI j from nI_ge (b := 24) hj (by omega)), zld_nI _ _ _ hj (by omega), nI_pred, er, zcS]
      simp (disch := omega) only [zld_nI, zst_nI, zlS, nI_1]
    have keep : RW (zp S' 8 t (S'.1 8 t)) 8 ds (L + 1) FR (fun k => E k ∨ (k = t ∧ ds t = FR ∧ ∃ u, u < j ∧ Lk cd (M.1 0 7) n t u ∧ ds u = L)) := by
      intro k hk
      have : (zp S' 8 t (S'.1 8 t)).1 8 k = S'.1 8 k := by
        rw [zp_get]
        by_cases q : k = t
        · rw [if_pos ⟨rfl, q⟩, q]
        · rw [if_neg (fun w => q w.2)]
      rw [this]; exact hw' k hk
    have f2 : ∀ v, fr [8] [] M (zp S' 8 t v) := fun v => fr_t hf' (fr_r _ _ (by decide) (by decide))
    have same : ¬ (Lk cd (M.1 0 7) n t j ∧ ds j = L) → ∀ k, k < 24 → ((E k ∨ (k = t ∧ ds t = FR ∧ ∃ u, u < j ∧ Lk cd (M.1 0 7) n t u ∧ ds u = L)) ↔ (E k ∨ (k = t ∧ ds t = FR ∧ ∃ u, u < j + 1 ∧ Lk cd (M.1 0 7) n t u ∧ ds u = L))) := by
      intro g k _
      refine or_congr Iff.rfl (and_congr Iff.rfl (and_congr Iff.rfl ⟨fun ⟨u, h1, h2⟩ => ⟨u, by omega, h2⟩, fun ⟨u, h1, h2⟩ => ⟨u, ?_, h2⟩⟩))
      by_cases q : u = j
      · rw [q] at h2; exact absurd h2 g
      · omega
    by_cases g1 : ds j = L
    · by_cases g2 : Lk cd (M.1 0 7) n t j
      · refine Or.inr ⟨_, ⟨_, rfl, f2 _, ?_⟩, fun p rc => (e p rc).trans (by rw [if_pos (hu0.mpr g1), if_neg (fun k => (isB_0 hr).mp k g2)])⟩
        intro k hk
        by_cases q : k = t
        · rw [q, zp_at]
          have b := hv t ht
          by_cases q2 : ds t = FR
          · refine Or.inl ⟨Or.inr ⟨rfl, q2, j, by omega, g2, g1⟩, ?_, q2⟩
            rcases hw' t ht with ⟨w1, w2, -⟩ | ⟨w1, w2⟩
            · rw [w2, ite_self]
            · rw [w2, q2, if_pos (nI_lt (by omega) (by omega))]
          · refine Or.inr ⟨fun w => w.elim (fun w => by have := hE t w; omega) (fun w => q2 w.2.1), ?_⟩
            rcases hw' t ht with ⟨w1, w2, w3⟩ | ⟨w1, w2⟩
            · exact absurd w3 q2
            · rw [w2, if_neg (fun w => by rw [nI_lt_iff (by omega) (by omega)] at w; omega)]
        · rw [zp_off _ _ (Or.inr q)]
          have hEk : (E k ∨ (k = t ∧ ds t = FR ∧ ∃ u, u < j + 1 ∧ Lk cd (M.1 0 7) n t u ∧ ds u = L)) ↔ (E k ∨ (k = t ∧ ds t = FR ∧ ∃ u, u < j ∧ Lk cd (M.1 0 7) n t u ∧ ds u = L)) := ⟨fun w => w.elim Or.inl fun w => absurd w.1 q, fun w => w.elim Or.inl fun w => absurd w.1 q⟩
          rcases hw' k hk with ⟨w1, w2⟩ | ⟨w1, w2⟩
          · exact Or.inl ⟨hEk.mpr w1, w2⟩
          · exact Or.inr ⟨fun w => w1 (hEk.mp w), w2⟩
      · exact Or.inr ⟨_, ⟨_, rfl, f2 _, RW_c keep (same fun w => g2 w.1)⟩, fun p rc => (e p rc).trans (by rw [if_pos (hu0.mpr g1), if_pos ((isB_0 hr).mpr g2)])⟩
    · exact Or.inr ⟨_, ⟨_, rfl, f2 _, RW_c keep (same fun w => g1 w.2)⟩, fun p rc => (e p rc).trans (if_neg (fun k => g1 (hu0.mp k)))⟩) (by
    rintro _ ⟨S', rfl, hf', hw'⟩
    refine ⟨S', ⟨hf', hw'⟩, fun p rc => ?_⟩
    show n_X12_chain_0_b73_l F p.1 p.2 (fun S x1 x3 x4 x5 => rc (S, x1, x3, x4, x5)) S' (nI x) (nI (L + 1)) (nI t) (nI 24) = _
    unfold n_X12_chain_0_b73_l
    rw [if_pos (show (24 : Int32) ≤ nI 24 from nI_le (a := 24) (by omega) (by omega)), zlS, nI_1]) F (S, nI x, nI (L + 1), nI t, 0) ⟨S, rfl, hf, RW_c hw fun k _ => ⟨Or.inl, fun w => w.elim id fun ⟨_, _, u, h, _⟩ => absurd h (by omega)⟩⟩ (by omega)
theorem m_pass {F : Nat} (hF : 2 ^ 40 < F) {M S : Zs} {n L x : Nat} {cd ds : Nat → Nat} (hM : MC M n cd) (hL : L + 1 < 25) (hv : ∀ t, t < 24 → ds t ≤ L ∨ ds t = FR) (hf : fr [8] [] M S) (hr : Rd S 8 ds) : ∃ S2, (fr [8] [] M S2 ∧ RW S2 8 ds (L + 1) FR (fun k => ds k = FR ∧ ∃ u, Lk cd (M.1 0 7) n k u ∧ ds u = L)) ∧ ∀ p, n_X12_chain_0_b63 F p S (nI x) (nI (L + 1)) 0 = p S2 (nI x) (nI (L + 1 + 1)) := by
  exact zfix_forP (f := fun (p : Zs → Int32 → Int32 → Option (Int32 × Zs)) (rc : (Zs × Int32 × Int32 × Int32) → Option (Int32 × Zs)) (u : (Zs × Int32 × Int32 × Int32)) => n_X12_chain_0_b63_l F p (fun S x1 x3 x4 => rc (S, x1, x3, x4)) u.1 u.2.1 u.2.2.1 u.2.2.2) 24 (fun t a => ∃ S', a = (S', nI x, nI (L + 1), nI t) ∧ fr [8] [] M S' ∧ RW S' 8 ds (L + 1) FR (fun k => k < t ∧ ds k = FR ∧ ∃ u, u < 24 ∧ Lk cd (M.1 0 7) n k u ∧ ds u = L)) (fun S2 : Zs => fr [8] [] M S2 ∧ RW S2 8 ds (L + 1) FR (fun k => ds k = FR ∧ ∃ u, Lk cd (M.1 0 7) n k u ∧ ds u = L)) (fun p S2 => p S2 (nI x) (nI (L + 1 + 1))) (by
    rintro t _ ht ⟨S', rfl, hf', hw'⟩
    obtain ⟨S2, ⟨f2, w2⟩, e2⟩ := m_row (x := x) hF hM hL hv hf' hw' ht (fun k hk => hk.1)
    refine Or.inr ⟨(S2, nI x, nI (L + 1), nI (t + 1)), ⟨S2, rfl, f2, RW_c w2 fun k hk => ?_⟩, fun p rc => ?_⟩
    · constructor
      · rintro (⟨h1, h2⟩ | ⟨rfl, h2⟩)
        · exact ⟨by omega, h2⟩
        · exact ⟨by omega, h2⟩
      · rintro ⟨h1, h2⟩
        by_cases q : k = t
        · rw [q] at h2; exact Or.inr ⟨q, h2⟩
        · exact Or.inl ⟨by omega, h2⟩
    · show n_X12_chain_0_b63_l F p (fun S x1 x3 x4 => rc (S, x1, x3, x4)) S' (nI x) (nI (L + 1)) (nI t) = _
      unfold n_X12_chain_0_b63_l
      rw [if_neg (show ¬ (24 : Int32) ≤ nI t from nI_ge (b := 24) ht (by omega))]
      exact e2 (p, fun S x1 x3 x4 => rc (S, x1, x3, x4))) (by
    rintro _ ⟨S', rfl, hf', hw'⟩
    refine ⟨S', ⟨hf', RW_c hw' fun k hk => ⟨fun ⟨_, h2, u, _, h4⟩ => ⟨h2, u, h4⟩, fun ⟨h2, u, h4⟩ => ⟨hk, h2, u, (Lk_lt k u h4.1).2, h4⟩⟩⟩, fun p rc => ?_⟩
    show n_X12_chain_0_b63_l F p (fun S x1 x3 x4 => rc (S, x1, x3, x4)) S' (nI x) (nI (L + 1)) (nI 24) = _
    unfold n_X12_chain_0_b63_l
    rw [if_pos (show (24 : Int32) ≤ nI 24 from nI_le (a := 24) (by omega) (by omega)), zlS, nI_1]) F (S, nI x, nI (L + 1), 0) ⟨S, rfl, hf, fun t ht => Or.inr ⟨fun w => absurd w.1 (by omega), hr t ht⟩⟩ (by omega)
theorem m_dist0 {F : Nat} (hF : 2 ^ 40 < F) (M : Zs) {x y : Nat} (hy : y < 24) : ∃ M2, (fr [8] [] M M2 ∧ Rd M2 8 (fun t => if t = y then 0 else FR)) ∧ n_X12_chain_0_b23 F M (nI x) (nI y) 0 = n_X12_chain_0_b54 F M2 (nI x) 1 := by
  exact zfix_for (f := fun (rc : (Zs × Int32 × Int32 × Int32) → Option (Int32 × Zs)) (u : (Zs × Int32 × Int32 × Int32)) => n_X12_chain_0_b23_l F  (fun S x1 x2 x3 => rc (S, x1, x2, x3)) u.1 u.2.1 u.2.2.1 u.2.2.2) 24 (fun i a => ∃ S, a = (S, nI x, nI y, nI i) ∧ fr [8] [] M S ∧ ∀ t, t < i → S.1 8 t = nI (if t = y then 0 else FR)) (fun M2 : Zs => fr [8] [] M M2 ∧ Rd M2 8 (fun t => if t = y then 0 else FR)) (fun M2 => n_X12_chain_0_b54 F M2 (nI x) 1) (by
    rintro i _ hi ⟨S', rfl, hf, hd⟩
    refine Or.inr ⟨(zp S' 8 i (nI (if i = y then 0 else FR)), nI x, nI y, nI (i + 1)), ⟨_, rfl, fr_t hf (fr_r _ _ (by decide) (by decide)), fun t ht => ?_⟩, fun rc => ?_⟩
    · by_cases q : t = i
      · rw [q, zp_at]
      · rw [zp_off _ _ (Or.inr q)]; exact hd t (by omega)
    · show n_X12_chain_0_b23_l F (fun S x1 x2 x3 => rc (S, x1, x2, x3)) S' (nI x) (nI y) (nI i) = _
      unfold n_X12_chain_0_b23_l n_X12_chain_0_b45
      rw [if_neg (show ¬ (24 : Int32) ≤ nI i from nI_ge (b := 24) hi (by omega)), zst_nI _ _ _ _ hi (by omega), zst_nI _ _ _ _ hi (by omega), zlS, zlS, nI_1]
      by_cases q : i = y
      · rw [if_pos (show nI i = nI y by rw [q]), if_pos q]; rfl
      · rw [if_neg (show ¬ nI i = nI y from fun k => q ((nI_eq (by omega) (by omega)).mp k)), if_neg q]; rfl) (by
    rintro _ ⟨S', rfl, hf, hd⟩
    refine ⟨S', ⟨hf, hd⟩, fun rc => ?_⟩
    show n_X12_chain_0_b23_l F (fun S x1 x2 x3 => rc (S, x1, x2, x3)) S' (nI x) (nI y) (nI 24) = _
    unfold n_X12_chain_0_b23_l
    rw [if_pos (show (24 : Int32) ≤ nI 24 from nI_le (a := 24) (by omega) (by omega))]) F (M, nI x, nI y, 0) ⟨M, rfl, fr_rf _ _ _, fun t ht => absurd ht (by omega)⟩ (by omega)
theorem m_dist {F : Nat} (hF : 2 ^ 40 < F) {M : Zs} {n x y : Nat} {cd : Nat → Nat} (hM : MC M n cd) (hy : y < 24) : ∃ M2, (fr [8] [] M M2 ∧ ∃ ds, Rd M2 8 ds ∧ Ds (Lk cd (M.1 0 7) n) y ds 23 FR) ∧ n_X12_chain_0_b23 F M (nI x) (nI y) 0 = n_X12_chain_0_b54_l F (fun _ _ _ => none) M2 (nI x) (nI 24) := by
  obtain ⟨M1, ⟨f1, d1⟩, e1⟩ := m_dist0 (x := x) hF M hy
  have hFR := FR_v
  rw [e1]
  exact zfix_for (f := fun (rc : (Zs × Int32 × Int32) → Option (Int32 × Zs)) (u : (Zs × Int32 × Int32)) => n_X12_chain_0_b54_l F  (fun S x1 x3 => rc (S, x1, x3)) u.1 u.2.1 u.2.2) 23 (fun i a => ∃ S ds, a = (S, nI x, nI (i + 1)) ∧ fr [8] [] M S ∧ Rd S 8 ds ∧ Ds (Lk cd (M.1 0 7) n) y ds i FR) (fun M2 : Zs => fr [8] [] M M2 ∧ ∃ ds, Rd M2 8 ds ∧ Ds (Lk cd (M.1 0 7) n) y ds 23 FR) (fun M2 => n_X12_chain_0_b54_l F (fun _ _ _ => none) M2 (nI x) (nI 24)) (by
    rintro i _ hi ⟨S', ds, rfl, hf, hd, hD⟩
    obtain ⟨S2, ⟨f2, w2⟩, e2⟩ := m_pass (x := x) hF hM (show i + 1 < 25 by omega) (fun t ht => Ds_val hD ht) hf hd
    obtain ⟨ds2, hd2, hD2⟩ := Ds_next hD (by omega) Lk_lt w2 (fun t _ => Iff.rfl)
    refine Or.inr ⟨(S2, nI x, nI (i + 1 + 1)), ⟨S2, ds2, rfl, f2, hd2, hD2⟩, fun rc => ?_⟩
    show n_X12_chain_0_b54_l F (fun S x1 x3 => rc (S, x1, x3)) S' (nI x) (nI (i + 1)) = _
    unfold n_X12_chain_0_b54_l
    rw [if_neg (show ¬ (24 : Int32) ≤ nI (i + 1) from nI_ge (b := 24) (by omega) (by omega)), e2]) (by
    rintro _ ⟨S', ds, rfl, hf, hd, hD⟩
    refine ⟨S', ⟨hf, ds, hd, hD⟩, fun rc => ?_⟩
    show n_X12_chain_0_b54_l F (fun S x1 x3 => rc (S, x1, x3)) S' (nI x) (nI 24) = n_X12_chain_0_b54_l F (fun _ _ _ => none) S' (nI x) (nI 24)
    unfold n_X12_chain_0_b54_l
    rw [if_pos (show (24 : Int32) ≤ nI 24 from nI_le (a := 24) (by omega) (by omega)), if_pos (show (24 : Int32) ≤ nI 24 from nI_le (a := 24) (by omega) (by omega))]) F (M1, nI x, 1) ⟨M1, _, rfl, f1, d1, Ds_0⟩ (by omega)
