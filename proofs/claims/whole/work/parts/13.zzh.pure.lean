/-! proofs: the reference looks through all moods -/
def sM (k c : Nat) : Option Nat := if k = 19 then some (576 * fm c + 24 * pd c + sj c) else if k = 20 then some (576 * (fm c ^^^ 1) + 24 * sj c + (pd c ^^^ 1)) else if fm c < 2 then none else some (576 * (fm c - 2) + 24 * sj c + pd c)
theorem sP_sM {k c a : Nat} (h : sP k c = some a) : sM k c = some a := by
  unfold sP at h
  unfold sM
  by_cases g : k = 19
  · rw [if_pos g] at h ⊢
    split at h
    · exact h
    · exact absurd h (by simp)
  · rw [if_neg g] at h ⊢
    exact h
theorem sM_lt {k c a : Nat} (hc : c < 2304) (h : sM k c = some a) : a < 2304 := by
  have h1 := fm_lt hc
  have h2 := x14 _ h1
  have h3 := sj_lt c
  have h4 := pd_lt c
  have h5 := x1_24 h4
  unfold sM at h
  split at h
  · have e := Option.some.inj h; omega
  · split at h
    · have e := Option.some.inj h; omega
    · split at h
      · exact absurd h (by simp)
      · have e := Option.some.inj h; omega
theorem m_lookOne {F : Nat} (S : Zs) {c k : Nat} (hc : c < 2304) (h1 : 19 ≤ k) (h2 : k < 22) (rc : Zs → Int32 → Int32 → Int32 → Int32 → Option (Int32 × Zs)) : n_X12_looks_0_b171_l F rc S (nI c) (nI (sj c)) (nI (pd c)) (nI k) = n_X12_looks_0_b268 F rc S (nI c) (nI (sj c)) (nI (pd c)) (nI k) (oN (sM k c)) := by
  have hf := fm_lt hc
  have h4 := pd_lt c
  unfold n_X12_looks_0_b171_l n_X12_looks_0_b214 sM
  rw [if_neg (show ¬ (22 : Int32) ≤ nI k from nI_ge (b := 22) h2 (by omega)), n_frmM F S hc, zcS, zcS, zcS, nI_x1 (by omega), nI_x1 (by omega), n_mkM]
  rcases (show k = 19 ∨ k = 20 ∨ k = 21 by omega) with rfl | rfl | rfl
  · rw [if_pos (show nI 19 = 19 from rfl), if_pos (show (0 : Int32) ≤ nI (fm c) from Int32.not_lt.mp (nI_pos (by omega))), if_pos rfl, zcS]; rfl
  · rw [if_neg (show ¬ nI 20 = 19 by decide), if_pos (show nI 20 = 20 from rfl), if_pos (show (0 : Int32) ≤ nI (fm c ^^^ 1) from Int32.not_lt.mp (nI_pos (by have := x14 _ hf; omega))), if_neg (show ¬ nI 20 = 19 by decide), if_pos rfl, n_mkM, zcS]; rfl
  · rw [if_neg (show ¬ nI 21 = 19 by decide), if_neg (show ¬ nI 21 = 20 by decide), if_neg (show ¬ nI 21 = 19 by decide), if_neg (show ¬ nI 21 = 20 by decide), if_neg (show ¬ (21 : Nat) = 19 by decide), if_neg (show ¬ (21 : Nat) = 20 by decide)]
    by_cases w : fm c < 2
    · rw [if_pos w]
      rcases (show fm c = 0 ∨ fm c = 1 by omega) with e | e <;> rw [e] <;> rfl
    · rw [if_neg w, show nI (fm c) - 2 = nI (fm c - 2) from pk_sub (b := 2) (by omega), if_pos (show (0 : Int32) ≤ nI (fm c - 2) from Int32.not_lt.mp (nI_pos (by omega))), n_mkM, zcS]; rfl
theorem m_looks {F : Nat} (hF : 2 ^ 40 < F) {S : Zs} {st : Nat → Nat} {c : Nat} (hc : c < 2304) (h14 : StpM S st) : ∃ S2, n_X12_looks_0 F S (nI c) = some (0, S2) ∧ fr [] [29, 30, 31, 32] S S2 ∧ Bst (S.1 0 11) (S.1 0 8) st c (fun _ _ => True) S2 := by
  have hst : ∀ T, fr [] [29, 30, 31, 32] S T → StpM T st := fun T f b hb' => by rw [f.2.1 14 (by decide) (by decide)]; exact h14 b hb'
  -- moods of one premise
  have last : ∀ T0, fr [] [29, 30, 31, 32] S T0 → Bst (S.1 0 11) (S.1 0 8) st c (fun k' _ => k' < 19) T0 → ∃ S2, (fr [] [29, 30, 31, 32] S S2 ∧ Bst (S.1 0 11) (S.1 0 8) st c (fun _ _ => True) S2) ∧ n_X12_looks_0_b171 F T0 (nI c) (nI (sj c)) (nI (pd c)) 19 = some (0, S2) := by
    intro T0 hf0 hb0
    exact zfix_for (f := fun (rc : (Zs × Int32 × Int32 × Int32 × Int32) → Option (Int32 × Zs)) (u : (Zs × Int32 × Int32 × Int32 × Int32)) => n_X12_looks_0_b171_l F  (fun S x1 x2 x3 x4 => rc (S, x1, x2, x3, x4)) u.1 u.2.1 u.2.2.1 u.2.2.2.1 u.2.2.2.2) 3 (fun i u => ∃ T, u = (T, nI c, nI (sj c), nI (pd c), nI (19 + i)) ∧ fr [] [29, 30, 31, 32] S T ∧ Bst (S.1 0 11) (S.1 0 8) st c (fun k' _ => k' < 19 + i) T) (fun S2 : Zs => fr [] [29, 30, 31, 32] S S2 ∧ Bst (S.1 0 11) (S.1 0 8) st c (fun _ _ => True) S2) (fun S2 => some (0, S2)) (by
      rintro i _ hi ⟨T, rfl, hf, hb'⟩
      generalize hk : 19 + i = k at *
      have k1 : 19 ≤ k := by omega
      have k2 : k < 22 := by omega
      have e1 : ∀ rc : (Zs × Int32 × Int32 × Int32 × Int32) → Option (Int32 × Zs), n_X12_looks_0_b171_l F (fun S x1 x2 x3 x4 => rc (S, x1, x2, x3, x4)) T (nI c) (nI (sj c)) (nI (pd c)) (nI k) = _ := fun rc => m_lookOne T hc k1 k2 _
      have cds : ∀ a og v, Cd (S.1 0 11) (S.1 0 8) st c k a og v → og = none ∧ sM k c = some a ∧ hb (S.1 0 11) k = true ∧ alB k a (S.1 0 8) = true ∧ cn k a 0 = some c ∧ st a < 1000000 ∧ v = 1 + st a ∧ v < 1000000 := by
        intro a og v hcd
        have hr := hcd.1
        cases og with
        | some d => exact absurd hr.2.2.1 (by omega)
        | none => exact ⟨rfl, sP_sM ((cn_single k1 k2 hcd.2.1 hc).mp hr.2.2.2.2), hr.1, hr.2.1, hr.2.2.2.2, hcd.2.2.1, hcd.2.2.2.2, hcd.2.2.2.1⟩
      have skip : (∀ a og v, ¬ Cd (S.1 0 11) (S.1 0 8) st c k a og v) → Bst (S.1 0 11) (S.1 0 8) st c (fun k' _ => k' < 19 + (i + 1)) T := fun w => Bst_c hb' fun k' a og v hcd => ⟨fun z => by omega, fun z => by
        by_cases e : k' = k
        · rw [e] at hcd; exact absurd hcd (w a og v)
        · omega⟩
      have nx : nI k + 1 = nI (19 + (i + 1)) := by rw [nI_1, ← hk, Nat.add_assoc]
      unfold n_X12_looks_0_b268 n_X12_looks_0_b331 at e1
      simp only [zgS, zlS, nx] at e1
      simp only [hf.1 11 (by decide), e_has F _ _ (show k < 32 by omega), zcS] at e1
      by_cases g1 : hb (S.1 0 11) k = true
      · simp only [bI_t g1, if_neg (show ¬ (1 : Int32) = 0 by decide)] at e1
        cases hsm : sM k c with
        | none =>
          rw [hsm] at e1
          exact Or.inr ⟨_, ⟨T, rfl, hf, skip fun a og v z => by have := (cds a og v z).2.1; rw [hsm] at this; exact absurd this (by simp)⟩, fun rc => (e1 rc).trans (if_pos (by decide))⟩
        | some a =>
          have ha := sM_lt hc hsm
          obtain ⟨s1, s2⟩ := h14 a ha
          have r14 : T.1 14 = S.1 14 := hf.2.1 14 (by decide) (by decide)
          have mp : n_X12_proves_0 F T (nI k) (nI a) (-1) 1 = some (oM 1 (alB k a (S.1 0 8)) (cn k a 0), T) := by
            rw [m_proves hF T k2 ha (d := 0) (fun w => absurd w (by omega)), hf.1 8 (by decide)]
          have e2 : ∀ rc : (Zs × Int32 × Int32 × Int32 × Int32) → Option (Int32 × Zs), n_X12_looks_0_b171_l F (fun S x1 x2 x3 x4 => rc (S, x1, x2, x3, x4)) T (nI c) (nI (sj c)) (nI (pd c)) (nI k) = if 1000000 ≤ st a then rc (T, nI c, nI (sj c), nI (pd c), nI (19 + (i + 1))) else if oM 1 (alB k a (S.1 0 8)) (cn k a 0) = nI c then zcl (n_X12_keepsBest_0 F T (nI k) (nI (1 + st a)) (nI a) (-1)) (fun v9 S8 => rc (S8, nI c, nI (sj c), nI (pd c), nI (19 + (i + 1)))) else rc (T, nI c, nI (sj c), nI (pd c), nI (19 + (i + 1))) := by
            intro rc
            rw [e1 rc, hsm, if_neg (show ¬ oN (some a) < 0 from nI_pos (by omega)), show oN (some a) = nI a from rfl, zld_nI _ _ _ ha (by omega), r14, s1, mp, zcS, zld_nI _ _ _ ha (by omega), r14, s1, show (1 : Int32) + nI (st a) = nI (1 + st a) from nI_add 1 _]
            by_cases w : 1000000 ≤ st a
            · rw [if_pos w, if_pos (show (1000000 : Int32) ≤ nI (st a) from nI_le (a := 1000000) w (by omega))]
            · rw [if_neg w, if_neg (show ¬ (1000000 : Int32) ≤ nI (st a) from nI_ge (b := 1000000) (by omega) (by omega))]
          have one : ∀ a' og v, Cd (S.1 0 11) (S.1 0 8) st c k a' og v → a' = a := fun a' og v z => by
            have := (cds a' og v z).2.1
            rw [hsm] at this
            exact (Option.some.inj this).symm
          by_cases w : 1000000 ≤ st a
          · exact Or.inr ⟨_, ⟨T, rfl, hf, skip fun a' og v z => by
              have e := one a' og v z
              rw [e] at z
              have := (cds a og v z).2.2.2.2.2.1
              omega⟩, fun rc => (e2 rc).trans (if_pos w)⟩
          · have q := oM_eq (wl := 1) (al := alB k a (S.1 0 8)) (o := cn k a 0) hc (fun v hv' => cn_lt ha hv')
            by_cases w2 : oM 1 (alB k a (S.1 0 8)) (cn k a 0) = nI c
            · obtain ⟨w3, w4⟩ := q.mp w2
              have w4 := w4.resolve_left (by decide)
              obtain ⟨S2, e3, f2, b2⟩ := m_keep (F := F) hb' (k := k) (a := a) (v0 := 1 + st a) (og := none) k2 ha (by omega) (fun og' v' => ⟨fun z => ⟨(cds a og' v' z).1, (cds a og' v' z).2.2.2.2.2.2.1, by have := (cds a og' v' z).2.2.2.2.2.2; omega⟩, fun ⟨z1, z2, z3⟩ => by rw [z1, z2]; exact ⟨⟨g1, w4, k1, k2, w3⟩, ha, by omega, z3, rfl⟩⟩) (fun k' a' z => Or.inl z)
              have e3 : n_X12_keepsBest_0 F T (nI k) (nI (1 + st a)) (nI a) (-1) = some (0, S2) := e3
              refine Or.inr ⟨_, ⟨S2, rfl, fr_t hf f2, Bst_c b2 fun k' a' og v hcd => ⟨fun z => z.elim (fun z => by omega) (fun z => by have := z.1; omega), fun z => ?_⟩⟩, fun rc => (e2 rc).trans ((if_neg w).trans ((if_pos w2).trans (by rw [e3, zcS])))⟩
              by_cases e : k' = k
              · rw [e] at hcd
                exact Or.inr ⟨e, one a' og v hcd⟩
              · exact Or.inl (by omega)
            · exact Or.inr ⟨_, ⟨T, rfl, hf, skip fun a' og v z => by
                have e := one a' og v z
                rw [e] at z
                have z' := cds a og v z
                exact w2 (q.mpr ⟨z'.2.2.2.2.1, Or.inr z'.2.2.2.1⟩)⟩, fun rc => (e2 rc).trans ((if_neg w).trans (if_neg w2))⟩
      · simp only [bI_f g1, if_true] at e1
        exact Or.inr ⟨_, ⟨T, rfl, hf, skip fun a og v z => g1 (cds a og v z).2.2.1⟩, fun rc => e1 rc⟩) (by
      rintro _ ⟨T, rfl, hf, hb'⟩
      refine ⟨T, ⟨hf, Bst_c hb' fun k' a og v hcd => ⟨fun _ => trivial, fun _ => ?_⟩⟩, fun rc => ?_⟩
      · have hr := hcd.1
        cases og with
        | some d => have := hr.2.2.1; omega
        | none => have := hr.2.2.2.1; omega
      · show n_X12_looks_0_b171_l F (fun S x1 x2 x3 x4 => rc (S, x1, x2, x3, x4)) T (nI c) (nI (sj c)) (nI (pd c)) (nI 22) = _
        unfold n_X12_looks_0_b171_l
        rw [if_pos (show (22 : Int32) ≤ nI 22 by decide)]) F (T0, nI c, nI (sj c), nI (pd c), 19) ⟨T0, rfl, hf0, hb0⟩ (by omega)
  have f0' : fr [] [29, 30, 31, 32] S (zp (zp S 0 29 1000000) 0 30 (-1)) := fr_t (fr_p _ (by decide)) (fr_p _ (by decide))
  obtain ⟨S2, q1, q2⟩ : ∃ S2, (fr [] [29, 30, 31, 32] S S2 ∧ Bst (S.1 0 11) (S.1 0 8) st c (fun _ _ => True) S2) ∧ n_X12_looks_0_b24 F (zp (zp S 0 29 1000000) 0 30 (-1)) (nI c) (nI (sj c)) (nI (pd c)) 0 = some (0, S2) := zfix_for (f := fun (rc : (Zs × Int32 × Int32 × Int32 × Int32) → Option (Int32 × Zs)) (u : (Zs × Int32 × Int32 × Int32 × Int32)) => n_X12_looks_0_b24_l F  (fun S x1 x2 x3 x4 => rc (S, x1, x2, x3, x4)) u.1 u.2.1 u.2.2.1 u.2.2.2.1 u.2.2.2.2) 19 (fun k u => ∃ T, u = (T, nI c, nI (sj c), nI (pd c), nI k) ∧ fr [] [29, 30, 31, 32] S T ∧ Bst (S.1 0 11) (S.1 0 8) st c (fun k' _ => k' < k) T) (fun S2 : Zs => fr [] [29, 30, 31, 32] S S2 ∧ Bst (S.1 0 11) (S.1 0 8) st c (fun _ _ => True) S2) (fun S2 => some (0, S2)) (by
    rintro k _ hk ⟨T, rfl, hf, hb'⟩
    have skip : (∀ a og v, ¬ Cd (S.1 0 11) (S.1 0 8) st c k a og v) → Bst (S.1 0 11) (S.1 0 8) st c (fun k' _ => k' < k + 1) T := fun w => Bst_c hb' fun k' a og v hcd => ⟨fun z => by omega, fun z => by
      by_cases e : k' = k
      · rw [e] at hcd; exact absurd hcd (w a og v)
      · omega⟩
    have e1 : ∀ rc : (Zs × Int32 × Int32 × Int32 × Int32) → Option (Int32 × Zs), n_X12_looks_0_b24_l F (fun S x1 x2 x3 x4 => rc (S, x1, x2, x3, x4)) T (nI c) (nI (sj c)) (nI (pd c)) (nI k) = if hb (S.1 0 11) k = true then (if fm c = gC k then n_X12_looks_0_b62 F (fun S x1 x2 x3 x4 => rc (S, x1, x2, x3, x4)) T (nI c) (nI (sj c)) (nI (pd c)) (nI k) 0 else rc (T, nI c, nI (sj c), nI (pd c), nI (k + 1))) else rc (T, nI c, nI (sj c), nI (pd c), nI (k + 1)) := by
      intro rc
      have hfc := fm_lt hc
      have hg := gC_b k hk
      unfold n_X12_looks_0_b24_l n_X12_looks_0_b161
      rw [if_neg (show ¬ (19 : Int32) ≤ nI k from nI_ge (b := 19) hk (by omega)), zgS, hf.1 11 (by decide), e_has F _ _ (show k < 32 by omega), zcS, m_fo3 hF T hk, zcS, n_frmM F T hc, zcS, zlS, nI_1]
      by_cases g1 : hb (S.1 0 11) k = true
      · rw [bI_t g1, if_neg (by decide), if_pos g1]
        by_cases g2 : fm c = gC k
        · rw [if_pos g2, if_pos (by rw [g2])]
        · rw [if_neg g2, if_neg (fun w => g2 ((nI_eq (by omega) (by omega)).mp w).symm)]
      · rw [bI_f g1, if_pos rfl, if_neg g1]
    by_cases g1 : hb (S.1 0 11) k = true
    · by_cases g2 : fm c = gC k
      · obtain ⟨S2, ⟨f2, b2⟩, e2⟩ := m_lookPair hF hc hk (hst T hf) (by rw [hf.1 11 (by decide)]; exact g1) g2 (by rw [hf.1 11 (by decide), hf.1 8 (by decide)]; exact hb')
        rw [hf.1 11 (by decide), hf.1 8 (by decide)] at b2
        exact Or.inr ⟨_, ⟨S2, rfl, fr_t hf f2, b2⟩, fun rc => (e1 rc).trans ((if_pos g1).trans ((if_pos g2).trans (e2 rc)))⟩
      · exact Or.inr ⟨_, ⟨T, rfl, hf, skip fun a og v z => by
          have hr := z.1
          cases og with
          | none => exact absurd hr.2.2.1 (by omega)
          | some d => exact g2 ((cn_pair hk hc).mp hr.2.2.2).1⟩, fun rc => (e1 rc).trans ((if_pos g1).trans (if_neg g2))⟩
    · exact Or.inr ⟨_, ⟨T, rfl, hf, skip fun a og v z => g1 z.1.1⟩, fun rc => (e1 rc).trans (if_neg g1)⟩) (by
    rintro _ ⟨T, rfl, hf, hb'⟩
    obtain ⟨S2, q1, q2⟩ := last T hf hb'
    refine ⟨S2, q1, fun rc => ?_⟩
    show n_X12_looks_0_b24_l F (fun S x1 x2 x3 x4 => rc (S, x1, x2, x3, x4)) T (nI c) (nI (sj c)) (nI (pd c)) (nI 19) = _
    unfold n_X12_looks_0_b24_l
    rw [if_pos (show (19 : Int32) ≤ nI 19 by decide), q2]) F (zp (zp S 0 29 1000000) 0 30 (-1), nI c, nI (sj c), nI (pd c), 0) ⟨_, rfl, f0', Or.inl ⟨by rw [zp_off _ _ (Or.inr (by decide)), zp_at]; rfl, zp_at _ _ _ _, fun k a og v z => absurd z (by omega)⟩⟩ (by omega)
  refine ⟨S2, ?_, q1⟩
  unfold n_X12_looks_0 n_X12_looks_0_e
  rw [zpS, zpS, n_fstM F _ hc, zcS, n_sndM F _ hc, zcS, q2]
