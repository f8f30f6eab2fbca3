/-! proofs: the reference looks for the last step -/
def Cd (al lv : Int32) (st : Nat → Nat) (c k a : Nat) (og : Option Nat) (v : Nat) : Prop := Ru al lv k a og c ∧ a < 2304 ∧ st a < 1000000 ∧ v < 1000000 ∧ match og with
  | none => v = 1 + st a
  | some d => d < 2304 ∧ st d < 1000000 ∧ v = 1 + st a + st d
theorem pA_inj {k p m m2 : Nat} (h : pA k p m = pA k p m2) : m = m2 := by
  rcases Nat.lt_trichotomy m m2 with q | q | q
  · have := pA_mono (k := k) (p := p) q; omega
  · exact q
  · have := pA_mono (k := k) (p := p) q; omega
theorem Cd_u {al lv : Int32} {st : Nat → Nat} {c k a : Nat} {og og2 : Option Nat} {v v2 : Nat} (hc : c < 2304) (h : Cd al lv st c k a og v) (g : Cd al lv st c k a og2 v2) : og = og2 ∧ v = v2 := by
  obtain ⟨⟨-, -, h1⟩, -, -, -, h2⟩ := h
  obtain ⟨⟨-, -, g1⟩, -, -, -, g2⟩ := g
  cases og with
  | none => cases og2 with
    | none => exact ⟨rfl, h2.trans g2.symm⟩
    | some d => exact absurd g1.1 (by have := h1.1; omega)
  | some d => cases og2 with
    | none => exact absurd h1.1 (by have := g1.1; omega)
    | some d2 =>
      obtain ⟨-, m, -, e1, e2⟩ := (cn_pair h1.1 hc).mp h1.2
      obtain ⟨-, m2, -, e3, e4⟩ := (cn_pair g1.1 hc).mp g1.2
      have := pA_inj (e1.symm.trans e3)
      subst this
      have e : d = d2 := e2.trans e4.symm
      subst e
      exact ⟨rfl, h2.2.2.trans g2.2.2.symm⟩
def Bst (al lv : Int32) (st : Nat → Nat) (c : Nat) (seen : Nat → Nat → Prop) (S : Zs) : Prop := (S.1 0 29 = nI 1000000 ∧ S.1 0 30 = -1 ∧ ∀ k a og v, seen k a → ¬ Cd al lv st c k a og v) ∨ ∃ k a og v, S.1 0 29 = nI v ∧ S.1 0 30 = nI k ∧ S.1 0 31 = nI a ∧ S.1 0 32 = oN og ∧ Cd al lv st c k a og v ∧ seen k a ∧ ∀ k' a' og' v', seen k' a' → Cd al lv st c k' a' og' v' → v ≤ v' ∧ (v = v' → k < k' ∨ (k = k' ∧ a ≤ a'))
theorem Bst_c {al lv : Int32} {st : Nat → Nat} {c : Nat} {seen seen2 : Nat → Nat → Prop} {S : Zs} (h : Bst al lv st c seen S) (g : ∀ k a og v, Cd al lv st c k a og v → (seen k a ↔ seen2 k a)) : Bst al lv st c seen2 S := by
  rcases h with ⟨h1, h2, h3⟩ | ⟨k, a, og, v, h1, h2, h3, h4, h5, h6, h7⟩
  · exact Or.inl ⟨h1, h2, fun k a og v hs hc => h3 k a og v ((g k a og v hc).mpr hs) hc⟩
  · exact Or.inr ⟨k, a, og, v, h1, h2, h3, h4, h5, (g k a og v h5).mp h6, fun k' a' og' v' hs hc => h7 k' a' og' v' ((g k' a' og' v' hc).mpr hs) hc⟩
theorem Bst_fr {al lv : Int32} {st : Nat → Nat} {c : Nat} {seen : Nat → Nat → Prop} {S S2 : Zs} (h : Bst al lv st c seen S) (e : S2.1 0 = S.1 0) : Bst al lv st c seen S2 := by unfold Bst; rw [e]; exact h
theorem Ru_u {al lv : Int32} {c k a : Nat} {og og2 : Option Nat} (hc : c < 2304) (h : Ru al lv k a og c) (g : Ru al lv k a og2 c) : og = og2 := by
  obtain ⟨-, -, h1⟩ := h
  obtain ⟨-, -, g1⟩ := g
  cases og with
  | none => cases og2 with
    | none => rfl
    | some d => exact absurd g1.1 (by have := h1.1; omega)
  | some d => cases og2 with
    | none => exact absurd h1.1 (by have := g1.1; omega)
    | some d2 =>
      obtain ⟨-, m, -, e1, e2⟩ := (cn_pair h1.1 hc).mp h1.2
      obtain ⟨-, m2, -, e3, e4⟩ := (cn_pair g1.1 hc).mp g1.2
      have := pA_inj (e1.symm.trans e3)
      subst this
      rw [e2, e4]
theorem m_keep {F : Nat} {al lv : Int32} {st : Nat → Nat} {c : Nat} {seen : Nat → Nat → Prop} {S : Zs} (h : Bst al lv st c seen S) {k a v0 : Nat} {og : Option Nat} (hk : k < 22) (ha : a < 2304) (hv : v0 < 3000000) (hd : ∀ og' v', Cd al lv st c k a og' v' ↔ og' = og ∧ v' = v0 ∧ v0 < 1000000) (hlt : ∀ k' a', seen k' a' → k' < k ∨ (k' = k ∧ a' < a)) : ∃ S2, n_X12_keepsBest_0 F S (nI k) (nI v0) (nI a) (oN og) = some (0, S2) ∧ fr [] [29, 30, 31, 32] S S2 ∧ Bst al lv st c (fun k' a' => seen k' a' ∨ (k' = k ∧ a' = a)) S2 := by
  have setq : v0 < 1000000 → (∀ k' a' og' v', seen k' a' → Cd al lv st c k' a' og' v' → v0 < v') → ∃ S2, n_X12_keepsBest_0_b49 F S (nI k) (nI v0) (nI a) (oN og) = some (0, S2) ∧ fr [] [29, 30, 31, 32] S S2 ∧ Bst al lv st c (fun k' a' => seen k' a' ∨ (k' = k ∧ a' = a)) S2 := by
    intro w1 w2
    refine ⟨zp (zp (zp (zp S 0 29 (nI v0)) 0 30 (nI k)) 0 31 (nI a)) 0 32 (oN og), ?_, fr_t (fr_p _ (by decide)) (fr_t (fr_p _ (by decide)) (fr_t (fr_p _ (by decide)) (fr_p _ (by decide)))), Or.inr ⟨k, a, og, v0, ?_, ?_, ?_, zp_at _ _ _ _, (hd og v0).mpr ⟨rfl, rfl, w1⟩, Or.inr ⟨rfl, rfl⟩, ?_⟩⟩
    · unfold n_X12_keepsBest_0_b49 n_X12_keepsBest_0_b54 n_X12_keepsBest_0_b88
      rw [if_neg (show ¬ (1000000 : Int32) ≤ nI v0 from nI_ge (b := 1000000) w1 (by omega)), if_neg (by decide), zpS, zpS, zpS, zpS]
    · rw [zp_off _ _ (Or.inr (by decide)), zp_off _ _ (Or.inr (by decide)), zp_off _ _ (Or.inr (by decide)), zp_at]
    · rw [zp_off _ _ (Or.inr (by decide)), zp_off _ _ (Or.inr (by decide)), zp_at]
    · rw [zp_off _ _ (Or.inr (by decide)), zp_at]
    · intro k' a' og' v' hs hcd
      rcases hs with hs | ⟨rfl, rfl⟩
      · have := w2 k' a' og' v' hs hcd
        exact ⟨by omega, fun w => by omega⟩
      · have := ((hd og' v').mp hcd).2.1
        exact ⟨by omega, fun _ => Or.inr ⟨rfl, Nat.le_refl _⟩⟩
  have b53 : n_X12_keepsBest_0_b53 F S (nI k) (nI v0) (nI a) (oN og) = some (0, S) := by
    unfold n_X12_keepsBest_0_b53 n_X12_keepsBest_0_b54 n_X12_keepsBest_0_b88
    rw [if_pos rfl, ite_self]
  unfold n_X12_keepsBest_0 n_X12_keepsBest_0_e
  rcases h with ⟨h1, h2, h3⟩ | ⟨k0, a0, og0, v, h1, h2, h3, h4, h5, h6, h7⟩
  · rw [zgS, h1]
    by_cases w : v0 < 1000000
    · rw [if_pos (nI_lt w (by omega))]
      exact setq w fun k' a' og' v' hs hcd => absurd hcd (h3 k' a' og' v' hs)
    · rw [if_neg (fun z => by rw [nI_lt_iff (by omega) (by omega)] at z; exact w z), zgS, h1, zgS, h2, if_neg (fun z => nI_ne_m1 (show k < 2 ^ 31 by omega) z), b53, ite_self]
      refine ⟨S, rfl, fr_rf _ _ _, Or.inl ⟨h1, h2, fun k' a' og' v' hs hcd => ?_⟩⟩
      rcases hs with hs | ⟨rfl, rfl⟩
      · exact h3 k' a' og' v' hs hcd
      · exact w ((hd og' v').mp hcd).2.2
  · have hv0 := h5.2.2.2.1
    have ha0 := h5.2.1
    have hk0 : k0 < 22 := by
      obtain ⟨⟨-, -, z⟩, -⟩ := h5
      cases og0 with
      | none => exact z.2.1
      | some d => have := z.1; omega
    have stay : ¬ v0 < v → ∃ S2, (some ((0 : Int32), S) : Option (Int32 × Zs)) = some (0, S2) ∧ fr [] [29, 30, 31, 32] S S2 ∧ Bst al lv st c (fun k' a' => seen k' a' ∨ (k' = k ∧ a' = a)) S2 := by
      intro w
      refine ⟨S, rfl, fr_rf _ _ _, Or.inr ⟨k0, a0, og0, v, h1, h2, h3, h4, h5, Or.inl h6, fun k' a' og' v' hs hcd => ?_⟩⟩
      rcases hs with hs | ⟨rfl, rfl⟩
      · exact h7 k' a' og' v' hs hcd
      · have := ((hd og' v').mp hcd).2.1
        refine ⟨by omega, fun _ => ?_⟩
        rcases hlt k0 a0 h6 with z | z
        · exact Or.inl z
        · exact Or.inr ⟨z.1, by omega⟩
    rw [zgS, h1]
    by_cases w : v0 < v
    · rw [if_pos (nI_lt w (by omega))]
      exact setq (by omega) fun k' a' og' v' hs hcd => by
        have := (h7 k' a' og' v' hs hcd).1
        omega
    · rw [if_neg (fun z => by rw [nI_lt_iff (by omega) (by omega)] at z; exact w z), zgS, h1, zgS, h2, zgS, h3, zgS, h3, b53]
      by_cases w2 : nI v0 = nI v
      · rw [if_pos w2]
        by_cases w3 : nI k = nI k0
        · have e : k = k0 := (nI_eq (by omega) (by omega)).mp w3
          have hl : a0 < a := by
            rcases hlt k0 a0 h6 with z | z
            · omega
            · exact z.2
          rw [if_pos w3, if_neg (fun z => by rw [nI_lt_iff (by omega) (by omega)] at z; omega), if_neg (fun z => by have := (nI_eq (by omega) (by omega)).mp z; omega)]
          exact stay w
        · rw [if_neg w3]
          exact stay w
      · rw [if_neg w2]
        exact stay w
