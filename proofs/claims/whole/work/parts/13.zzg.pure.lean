/-! proofs: the reference looks through the moods of two premises -/
def StpM (S : Zs) (st : Nat → Nat) : Prop := ∀ b, b < 2304 → S.1 14 b = nI (st b) ∧ st b ≤ 1000000
def sn (c k m k' a' : Nat) : Prop := k' < k ∨ (k' = k ∧ ∃ m', m' < m ∧ a' = pA k (pd c) m')
theorem sn_s (c k m k' a' : Nat) : sn c k (m + 1) k' a' ↔ sn c k m k' a' ∨ (k' = k ∧ a' = pA k (pd c) m) := by
  unfold sn
  constructor
  · rintro (h | ⟨h, m', h1, h2⟩)
    · exact Or.inl (Or.inl h)
    · by_cases e : m' = m
      · exact Or.inr ⟨h, by rw [h2, e]⟩
      · exact Or.inl (Or.inr ⟨h, m', by omega, h2⟩)
  · rintro ((h | ⟨h, m', h1, h2⟩) | ⟨h, h2⟩)
    · exact Or.inl h
    · exact Or.inr ⟨h, m', by omega, h2⟩
    · exact Or.inr ⟨h, m, by omega, h2⟩
theorem Bst_skip {al lv : Int32} {st : Nat → Nat} {c : Nat} {seen seen2 : Nat → Nat → Prop} {S : Zs} {k a : Nat} (h : Bst al lv st c seen S) (g : ∀ k' a', seen2 k' a' ↔ seen k' a' ∨ (k' = k ∧ a' = a)) (hn : ∀ og v, ¬ Cd al lv st c k a og v) : Bst al lv st c seen2 S := Bst_c h fun k' a' og v hcd => by
  rw [g]
  refine ⟨Or.inl, fun w => w.elim id fun ⟨e1, e2⟩ => ?_⟩
  rw [e1, e2] at hcd
  exact absurd hcd (hn og v)
theorem m_lookPair {F : Nat} (hF : 2 ^ 40 < F) {S : Zs} {st : Nat → Nat} {c k : Nat} (hc : c < 2304) (hk : k < 19) (h14 : StpM S st) (hal : hb (S.1 0 11) k = true) (hC : fm c = gC k) (hB : Bst (S.1 0 11) (S.1 0 8) st c (fun k' _ => k' < k) S) : ∃ S2, (fr [] [29, 30, 31, 32] S S2 ∧ Bst (S.1 0 11) (S.1 0 8) st c (fun k' _ => k' < k + 1) S2) ∧ ∀ rc : (Zs × Int32 × Int32 × Int32 × Int32) → Option (Int32 × Zs), n_X12_looks_0_b62 F (fun S x1 x2 x3 x4 => rc (S, x1, x2, x3, x4)) S (nI c) (nI (sj c)) (nI (pd c)) (nI k) 0 = rc (S2, nI c, nI (sj c), nI (pd c), nI (k + 1)) := by
  have hpd := pd_lt c
  have hsj := sj_lt c
  exact zfix_forP (π := (Zs × Int32 × Int32 × Int32 × Int32) → Option (Int32 × Zs)) (f := fun rc2 (rc : (Zs × Int32 × Int32 × Int32 × Int32 × Int32) → Option (Int32 × Zs)) (u : (Zs × Int32 × Int32 × Int32 × Int32 × Int32)) => n_X12_looks_0_b62_l F (fun S x1 x2 x3 x4 => rc2 (S, x1, x2, x3, x4)) (fun S x1 x2 x3 x4 x5 => rc (S, x1, x2, x3, x4, x5)) u.1 u.2.1 u.2.2.1 u.2.2.2.1 u.2.2.2.2.1 u.2.2.2.2.2) 24 (fun m u => ∃ T, u = (T, nI c, nI (sj c), nI (pd c), nI k, nI m) ∧ fr [] [29, 30, 31, 32] S T ∧ Bst (S.1 0 11) (S.1 0 8) st c (sn c k m) T) (fun S2 : Zs => fr [] [29, 30, 31, 32] S S2 ∧ Bst (S.1 0 11) (S.1 0 8) st c (fun k' _ => k' < k + 1) S2) (fun rc S2 => rc (S2, nI c, nI (sj c), nI (pd c), nI (k + 1))) (by
    rintro m _ hm ⟨T, rfl, hf, hb'⟩
    have ha := pA_lt hk hpd hm
    have hd := pB_lt hk hsj hm
    have hcn : cn k (pA k (pd c) m) (pB k (sj c) m) = some c := (cn_pair hk hc).mpr ⟨hC, m, hm, rfl, rfl⟩
    obtain ⟨s1, s2⟩ := h14 _ ha
    obtain ⟨s3, s4⟩ := h14 _ hd
    have r14 : T.1 14 = S.1 14 := hf.2.1 14 (by decide) (by decide)
    generalize hA : pA k (pd c) m = a at *
    generalize hD : pB k (sj c) m = d at *
    have gs : ∀ k' a', sn c k (m + 1) k' a' ↔ sn c k m k' a' ∨ (k' = k ∧ a' = a) := fun k' a' => by rw [sn_s, hA]
    have ogd : ∀ og v, Cd (S.1 0 11) (S.1 0 8) st c k a og v → og = some d ∧ alB k a (S.1 0 8) = true ∧ st a < 1000000 ∧ st d < 1000000 ∧ v = 1 + st a + st d ∧ v < 1000000 := by
      intro og v hcd
      have e : og = some d := by
        have hr := hcd.1
        cases og with
        | none => exact absurd hr.2.2.1 (by omega)
        | some d' =>
          obtain ⟨-, m', -, e1, e2⟩ := (cn_pair hk hc).mp hr.2.2.2
          rw [← hA] at e1
          rw [← pA_inj e1] at e2
          rw [e2, hD]
      subst e
      exact ⟨rfl, hcd.1.2.1, hcd.2.2.1, hcd.2.2.2.2.2.1, hcd.2.2.2.2.2.2, hcd.2.2.2.1⟩
    have eb : ∀ (rc2 : (Zs × Int32 × Int32 × Int32 × Int32) → Option (Int32 × Zs)) (rc : (Zs × Int32 × Int32 × Int32 × Int32 × Int32) → Option (Int32 × Zs)), n_X12_looks_0_b62_l F (fun S x1 x2 x3 x4 => rc2 (S, x1, x2, x3, x4)) (fun S x1 x2 x3 x4 x5 => rc (S, x1, x2, x3, x4, x5)) T (nI c) (nI (sj c)) (nI (pd c)) (nI k) (nI m) = if 1000000 ≤ st a then rc (T, nI c, nI (sj c), nI (pd c), nI k, nI (m + 1)) else if 1000000 ≤ st d then rc (T, nI c, nI (sj c), nI (pd c), nI k, nI (m + 1)) else if alB k a (S.1 0 8) = true then zcl (n_X12_keepsBest_0 F T (nI k) (nI (1 + st a + st d)) (nI a) (nI d)) (fun v12 S11 => rc (S11, nI c, nI (sj c), nI (pd c), nI k, nI (m + 1))) else rc (T, nI c, nI (sj c), nI (pd c), nI k, nI (m + 1)) := by
      intro rc2 rc
      unfold n_X12_looks_0_b62_l n_X12_looks_0_b155
      rw [if_neg (show ¬ (24 : Int32) ≤ nI m from nI_ge (b := 24) hm (by omega)), m_majorC hF T hk, zcS, m_minorC hF T hk, zcS, hA, hD, zld_nI _ _ _ ha (by omega), r14, s1, zld_nI _ _ _ hd (by omega), r14, s3, m_proves hF T (show k < 22 by omega) ha (fun _ => ⟨rfl, hd⟩), zcS, hcn, hf.1 8 (by decide), zld_nI _ _ _ ha (by omega), zld_nI _ _ _ hd (by omega), r14, s1, s3, show (1 : Int32) + nI (st a) = nI (1 + st a) from nI_add 1 _, nI_add]
      simp only [zlS, nI_1]
      by_cases w : 1000000 ≤ st a
      · rw [if_pos w, if_pos (show (1000000 : Int32) ≤ nI (st a) from nI_le (a := 1000000) w (by omega))]
      · rw [if_neg w, if_neg (show ¬ (1000000 : Int32) ≤ nI (st a) from nI_ge (b := 1000000) (by omega) (by omega))]
        by_cases w2 : 1000000 ≤ st d
        · rw [if_pos w2, if_pos (show (1000000 : Int32) ≤ nI (st d) from nI_le (a := 1000000) w2 (by omega))]
        · rw [if_neg w2, if_neg (show ¬ (1000000 : Int32) ≤ nI (st d) from nI_ge (b := 1000000) (by omega) (by omega))]
          by_cases w3 : alB k a (S.1 0 8) = true
          · rw [if_pos w3, if_pos (oM_t (Or.inr w3))]
          · rw [if_neg w3, if_neg (fun z => by rw [oM_f (fun y => y.elim (by decide) w3)] at z; exact nI_ne_m1 (show c < 2 ^ 31 by omega) z.symm)]
    by_cases w : 1000000 ≤ st a
    · exact Or.inr ⟨_, ⟨T, rfl, hf, Bst_skip hb' gs fun og v z => by have := (ogd og v z).2.2.1; omega⟩, fun rc2 rc => (eb rc2 rc).trans (if_pos w)⟩
    · by_cases w2 : 1000000 ≤ st d
      · exact Or.inr ⟨_, ⟨T, rfl, hf, Bst_skip hb' gs fun og v z => by have := (ogd og v z).2.2.2.1; omega⟩, fun rc2 rc => (eb rc2 rc).trans ((if_neg w).trans (if_pos w2))⟩
      · by_cases w3 : alB k a (S.1 0 8) = true
        · obtain ⟨S2, e2, f2, b2⟩ := m_keep (F := F) hb' (k := k) (a := a) (v0 := 1 + st a + st d) (og := some d) (by omega) ha (by omega) (fun og' v' => ⟨fun z => ⟨(ogd og' v' z).1, (ogd og' v' z).2.2.2.2.1, by have := (ogd og' v' z).2.2.2.2; omega⟩, fun ⟨z1, z2, z3⟩ => by rw [z1, z2]; exact ⟨⟨hal, w3, hk, hcn⟩, ha, by omega, z3, hd, by omega, rfl⟩⟩) (fun k' a' z => by
            rcases z with z | ⟨z1, m', z2, z3⟩
            · exact Or.inl z
            · refine Or.inr ⟨z1, ?_⟩
              rw [z3, ← hA]
              exact pA_mono z2)
          have e2 : n_X12_keepsBest_0 F T (nI k) (nI (1 + st a + st d)) (nI a) (nI d) = some (0, S2) := e2
          exact Or.inr ⟨_, ⟨S2, rfl, fr_t hf f2, Bst_c b2 fun k' a' og v _ => (gs k' a').symm⟩, fun rc2 rc => (eb rc2 rc).trans ((if_neg w).trans ((if_neg w2).trans ((if_pos w3).trans (by rw [e2, zcS]))))⟩
        · exact Or.inr ⟨_, ⟨T, rfl, hf, Bst_skip hb' gs fun og v z => w3 (ogd og v z).2.1⟩, fun rc2 rc => (eb rc2 rc).trans ((if_neg w).trans ((if_neg w2).trans (if_neg w3)))⟩) (by
    rintro _ ⟨T, rfl, hf, hb'⟩
    refine ⟨T, ⟨hf, Bst_c hb' fun k' a' og v hcd => ?_⟩, fun rc2 rc => ?_⟩
    · refine ⟨fun z => z.elim (fun z => by omega) (fun z => by have := z.1; omega), fun z => ?_⟩
      by_cases e : k' = k
      · refine Or.inr ⟨e, ?_⟩
        rw [e] at hcd
        have hr := hcd.1
        cases og with
        | none => exact absurd hr.2.2.1 (by omega)
        | some d' =>
          obtain ⟨-, m', h1, e1, -⟩ := (cn_pair hk hc).mp hr.2.2.2
          exact ⟨m', h1, e1⟩
      · exact Or.inl (by omega)
    · show n_X12_looks_0_b62_l F (fun S x1 x2 x3 x4 => rc2 (S, x1, x2, x3, x4)) (fun S x1 x2 x3 x4 x5 => rc (S, x1, x2, x3, x4, x5)) T (nI c) (nI (sj c)) (nI (pd c)) (nI k) (nI 24) = _
      unfold n_X12_looks_0_b62_l n_X12_looks_0_b161
      rw [if_pos (show (24 : Int32) ≤ nI 24 by decide), zlS, nI_1]) F (S, nI c, nI (sj c), nI (pd c), nI k, 0) ⟨S, rfl, fr_rf _ _ _, Bst_c hB fun k' a' og v _ => ⟨Or.inl, fun z => z.elim id fun ⟨_, m', z, _⟩ => absurd z (by omega)⟩⟩ (by omega)
