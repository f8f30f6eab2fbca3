/-! proofs: the reference proves all -/
def smS (st : Nat → Nat) : Nat → Nat
  | 0 => 0
  | n + 1 => smS st n + st n
def updN (st : Nat → Nat) (j v : Nat) : Nat → Nat := fun i => if i = j then v else st i
theorem smS_off {st : Nat → Nat} {j v : Nat} : ∀ n, n ≤ j → smS (updN st j v) n = smS st n := by
  intro n
  induction n with
  | zero => intro _; rfl
  | succ n ih =>
    intro h
    show smS (updN st j v) n + updN st j v n = smS st n + st n
    rw [ih (by omega), show updN st j v n = st n from if_neg (by omega)]
theorem smS_upd {st : Nat → Nat} {j v : Nat} (h : v < st j) : ∀ n, j < n → smS (updN st j v) n < smS st n := by
  intro n
  induction n with
  | zero => intro h; omega
  | succ n ih =>
    intro hj
    show smS (updN st j v) n + updN st j v n < smS st n + st n
    by_cases e : j = n
    · rw [smS_off n (by omega), e, show updN st n v n = v from if_pos rfl]
      rw [e] at h
      omega
    · have := ih (by omega)
      rw [show updN st j v n = st n from if_neg (by omega)]
      omega
theorem smS_le {st : Nat → Nat} (h : ∀ i, st i ≤ 1000000) : ∀ n, smS st n ≤ n * 1000000 := by
  intro n
  induction n with
  | zero => exact Nat.zero_le _
  | succ n ih =>
    have := h n
    show smS st n + st n ≤ _
    omega
/-- no step makes it less -/
def ClP (al lv : Int32) (st : Nat → Nat) (c : Nat) : Prop := ∀ k a og v, Cd al lv st c k a og v → st c ≤ v
def SoP (al lv : Int32) (T : Nat → Prop) (st : Nat → Nat) : Prop := ∀ c, c < 2304 → st c < 1000000 → Cost al lv T c (st c)
theorem Cd_cost {al lv : Int32} {T : Nat → Prop} {st : Nat → Nat} (h : SoP al lv T st) {c k a v : Nat} {og : Option Nat} (g : Cd al lv st c k a og v) : Cost al lv T c v := by
  obtain ⟨hr, h1, h2, -, h3⟩ := g
  cases og with
  | none => rw [h3, Nat.add_comm]; exact Cost_1 ⟨h1, k, hr⟩ (h a h1 h2)
  | some d => rw [h3.2.2, show 1 + st a + st d = st a + st d + 1 by omega]; exact Cost_2 ⟨h1, h3.1, k, hr⟩ (h a h1 h2) (h d h3.1 h3.2.1)
theorem m_provePass {F : Nat} (hF : 2 ^ 40 < F) {S : Zs} {st : Nat → Nat} {T : Nat → Prop} (h14 : StpM S st) (hso : SoP (S.1 0 11) (S.1 0 8) T st) (hz : ∀ c, T c → st c = 0) (hb1 : ∀ i, st i ≤ 1000000) : ∃ q : Zs × (Nat → Nat) × Nat, (fr [14] [29, 30, 31, 32] S q.1 ∧ StpM q.1 q.2.1 ∧ SoP (S.1 0 11) (S.1 0 8) T q.2.1 ∧ (∀ c, T c → q.2.1 c = 0) ∧ (∀ i, q.2.1 i ≤ 1000000) ∧ ((q.2.2 = 0 ∧ q.2.1 = st ∧ ∀ c, c < 2304 → ClP (S.1 0 11) (S.1 0 8) st c) ∨ (q.2.2 = 1 ∧ smS q.2.1 2304 < smS st 2304))) ∧ ∀ rc : (Zs × Int32) → Option (Int32 × Zs), n_X12_provesAll_0_b86 F (fun S x1 => rc (S, x1)) S 0 0 = rc (q.1, nI q.2.2) := by
  exact zfix_forP (π := (Zs × Int32) → Option (Int32 × Zs)) (f := fun rc2 (rc : (Zs × Int32 × Int32) → Option (Int32 × Zs)) (u : (Zs × Int32 × Int32)) => n_X12_provesAll_0_b86_l F (fun S x1 => rc2 (S, x1)) (fun S x1 x2 => rc (S, x1, x2)) u.1 u.2.1 u.2.2) 2304 (fun c u => ∃ X st' m, u = (X, nI m, nI c) ∧ fr [14] [29, 30, 31, 32] S X ∧ StpM X st' ∧ SoP (S.1 0 11) (S.1 0 8) T st' ∧ (∀ c, T c → st' c = 0) ∧ (∀ i, st' i ≤ 1000000) ∧ ((m = 0 ∧ st' = st ∧ ∀ j, j < c → ClP (S.1 0 11) (S.1 0 8) st j) ∨ (m = 1 ∧ smS st' 2304 < smS st 2304))) (fun q : Zs × (Nat → Nat) × Nat => fr [14] [29, 30, 31, 32] S q.1 ∧ StpM q.1 q.2.1 ∧ SoP (S.1 0 11) (S.1 0 8) T q.2.1 ∧ (∀ c, T c → q.2.1 c = 0) ∧ (∀ i, q.2.1 i ≤ 1000000) ∧ ((q.2.2 = 0 ∧ q.2.1 = st ∧ ∀ c, c < 2304 → ClP (S.1 0 11) (S.1 0 8) st c) ∨ (q.2.2 = 1 ∧ smS q.2.1 2304 < smS st 2304))) (fun rc q => rc (q.1, nI q.2.2)) (by
    rintro c _ hc ⟨X, st', m, rfl, hf, hs, hso', hz', hb', hm⟩
    obtain ⟨X2, e2, f2, b2⟩ := m_looks hF hc hs
    rw [hf.1 11 (by decide), hf.1 8 (by decide)] at b2
    have hs2 : StpM X2 st' := fun b hb2 => by rw [f2.2.1 14 (by decide) (by decide)]; exact hs b hb2
    obtain ⟨s1, s2⟩ := hs2 c hc
    have hf2 : fr [14] [29, 30, 31, 32] S X2 := fr_t hf (fr_w f2 (by decide) (by decide))
    have e1 : ∀ (rc2 : (Zs × Int32) → Option (Int32 × Zs)) (rc : (Zs × Int32 × Int32) → Option (Int32 × Zs)), n_X12_provesAll_0_b86_l F (fun S x1 => rc2 (S, x1)) (fun S x1 x2 => rc (S, x1, x2)) X (nI m) (nI c) = if nI (st' c) ≤ X2.1 0 29 then rc (X2, nI m, nI (c + 1)) else rc (zp X2 14 c (X2.1 0 29), 1, nI (c + 1)) := by
      intro rc2 rc
      unfold n_X12_provesAll_0_b86_l n_X12_provesAll_0_b123
      rw [if_neg (show ¬ (2304 : Int32) ≤ nI c from nI_ge (b := 2304) hc (by omega)), e2, zcS, zgS, zld_nI _ _ _ hc (by omega), s1, zgS, zst_nI _ _ _ _ hc (by omega), zlS, zlS, nI_1]
    -- nothing less
    have same : (∀ k a og v, Cd (S.1 0 11) (S.1 0 8) st' c k a og v → st' c ≤ v) → ∃ X' st'' m', (X2, nI m, nI (c + 1)) = (X', nI m', nI (c + 1)) ∧ fr [14] [29, 30, 31, 32] S X' ∧ StpM X' st'' ∧ SoP (S.1 0 11) (S.1 0 8) T st'' ∧ (∀ c, T c → st'' c = 0) ∧ (∀ i, st'' i ≤ 1000000) ∧ ((m' = 0 ∧ st'' = st ∧ ∀ j, j < c + 1 → ClP (S.1 0 11) (S.1 0 8) st j) ∨ (m' = 1 ∧ smS st'' 2304 < smS st 2304)) := by
      intro w
      refine ⟨X2, st', m, rfl, hf2, hs2, hso', hz', hb', hm.imp (fun ⟨z1, z2, z3⟩ => ⟨z1, z2, fun j hj => ?_⟩) id⟩
      by_cases e : j = c
      · rw [e]; rw [z2] at w; exact w
      · exact z3 j (by omega)
    rcases b2 with ⟨b1, -, b3⟩ | ⟨k, a, og, v, b1, -, -, -, b5, -, b7⟩
    · exact Or.inr ⟨_, same fun k a og v z => absurd z (b3 k a og v trivial), fun rc2 rc => (e1 rc2 rc).trans (if_pos (by rw [b1]; exact nI_le s2 (by omega)))⟩
    · have hv := b5.2.2.2.1
      by_cases w : st' c ≤ v
      · exact Or.inr ⟨_, same fun k' a' og' v' z => by have := (b7 k' a' og' v' trivial z).1; omega, fun rc2 rc => (e1 rc2 rc).trans (if_pos (by rw [b1]; exact nI_le w (by omega)))⟩
      · have hlt := smS_upd (st := st') (j := c) (v := v) (by omega) 2304 hc
        refine Or.inr ⟨_, ⟨zp X2 14 c (nI v), updN st' c v, 1, rfl, fr_t hf2 (fr_r _ _ (by decide) (by decide)), fun b hb2 => ?_, fun b hb2 hlt2 => ?_, fun b hT => ?_, fun b => ?_, Or.inr ⟨rfl, ?_⟩⟩, fun rc2 rc => (e1 rc2 rc).trans ((if_neg (by rw [b1]; exact nI_ge (by omega) (by omega))).trans (by rw [b1]; rfl))⟩
        · unfold updN
          by_cases e : b = c
          · rw [e, zp_at, if_pos rfl]; exact ⟨rfl, by omega⟩
          · rw [zp_off _ _ (Or.inr e), if_neg e]; exact hs2 b hb2
        · unfold updN at hlt2 ⊢
          by_cases e : b = c
          · rw [if_pos e, e]; exact Cd_cost hso' b5
          · rw [if_neg e] at hlt2 ⊢; exact hso' b hb2 hlt2
        · unfold updN
          by_cases e : b = c
          · have := hz' b hT
            rw [e] at this
            omega
          · rw [if_neg e]; exact hz' b hT
        · unfold updN
          by_cases e : b = c
          · rw [if_pos e]; omega
          · rw [if_neg e]; exact hb' b
        · rcases hm with ⟨-, z, -⟩ | ⟨-, z⟩
          · rw [z] at hlt ⊢; exact hlt
          · omega) (by
    rintro _ ⟨X, st', m, rfl, hf, hs, hso', hz', hb', hm⟩
    refine ⟨(X, st', m), ⟨hf, hs, hso', hz', hb', hm⟩, fun rc2 rc => ?_⟩
    show n_X12_provesAll_0_b86_l F (fun S x1 => rc2 (S, x1)) (fun S x1 x2 => rc (S, x1, x2)) X (nI m) (nI 2304) = _
    unfold n_X12_provesAll_0_b86_l
    rw [if_pos (show (2304 : Int32) ≤ nI 2304 by decide)]) F (S, 0, 0) ⟨S, st, 0, rfl, fr_rf _ _ _, h14, hso, hz, hb1, Or.inl ⟨rfl, rfl, fun j hj => absurd hj (by omega)⟩⟩ (by omega)
