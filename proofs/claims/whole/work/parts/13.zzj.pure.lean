/-! proofs: the reference's steps are least -/
def Tld (n : Nat) (wd : Int32) (cd : Nat → Nat) (c : Nat) : Prop := ∃ i, i < n ∧ ¬ hb wd i = true ∧ cd i = c
theorem m_provesAll {F : Nat} (hF : 2 ^ 40 < F) {M : Zs} {n : Nat} {cd : Nat → Nat} (hM : MC M n cd) : ∃ M2 st, n_X12_provesAll_0 F M = some (0, M2) ∧ fr [14] [29, 30, 31, 32] M M2 ∧ StpM M2 st ∧ (∀ c v, Cost (M.1 0 11) (M.1 0 8) (Tld n (M.1 0 7) cd) c v → v < 1000000 → st c ≤ v) ∧ ∀ c, c < 2304 → st c < 1000000 → Ls (M.1 0 11) (M.1 0 8) (Tld n (M.1 0 7) cd) c (st c) := by
  have hn := hM.2.1
  generalize hT : Tld n (M.1 0 7) cd = T
  have hTl : ∀ c, T c → c < 2304 := fun c h => by
    rw [← hT] at h
    obtain ⟨i, h1, -, h3⟩ := h
    rw [← h3]; exact (hM.2.2 i h1).2
  -- what the end says
  have fin : ∀ X st, fr [14] [29, 30, 31, 32] M X → StpM X st → SoP (M.1 0 11) (M.1 0 8) T st → (∀ c, T c → st c = 0) → (∀ c, c < 2304 → ClP (M.1 0 11) (M.1 0 8) st c) → (∀ c v, Cost (M.1 0 11) (M.1 0 8) T c v → v < 1000000 → st c ≤ v) ∧ ∀ c, c < 2304 → st c < 1000000 → Ls (M.1 0 11) (M.1 0 8) T c (st c) := by
    intro X st _ _ h1 h2 h3
    refine Ls_of (B := 1000000) h1 (fun c hc => ⟨hTl c hc, h2 c hc⟩) (fun k a c og hr ha => Ru_lt hr ha) (fun a c hr hB => ?_) (fun a d c hr hB => ?_)
    · obtain ⟨g1, k, g2⟩ := hr
      have := h3 c (Ru_lt g2 g1) k a none (1 + st a) ⟨g2, g1, by omega, by omega, rfl⟩
      omega
    · obtain ⟨g1, g2, k, g3⟩ := hr
      have := h3 c (Ru_lt g3 g1) k a (some d) (1 + st a + st d) ⟨g3, g1, by omega, by omega, g2, by omega, rfl⟩
      omega
  -- the rounds
  have rounds : ∀ X0 st0, fr [14] [29, 30, 31, 32] M X0 → StpM X0 st0 → SoP (M.1 0 11) (M.1 0 8) T st0 → (∀ c, T c → st0 c = 0) → (∀ i, st0 i ≤ 1000000) → ∃ q : Zs × (Nat → Nat), (fr [14] [29, 30, 31, 32] M q.1 ∧ StpM q.1 q.2 ∧ SoP (M.1 0 11) (M.1 0 8) T q.2 ∧ (∀ c, T c → q.2 c = 0) ∧ ∀ c, c < 2304 → ClP (M.1 0 11) (M.1 0 8) q.2 c) ∧ n_X12_provesAll_0_b78 F X0 1 = some (0, q.1) := by
    intro X0 st0 h1 h2 h3 h4 h5
    exact zfix_for (f := fun (rc : (Zs × Int32) → Option (Int32 × Zs)) (u : (Zs × Int32)) => n_X12_provesAll_0_b78_l F  (fun S x1 => rc (S, x1)) u.1 u.2) (2304 * 1000000 + 2) (fun i u => ∃ X st m, u = (X, nI m) ∧ fr [14] [29, 30, 31, 32] M X ∧ StpM X st ∧ SoP (M.1 0 11) (M.1 0 8) T st ∧ (∀ c, T c → st c = 0) ∧ (∀ i, st i ≤ 1000000) ∧ ((m = 0 ∧ ∀ c, c < 2304 → ClP (M.1 0 11) (M.1 0 8) st c) ∨ (m = 1 ∧ smS st 2304 + i ≤ 2304 * 1000000))) (fun q : Zs × (Nat → Nat) => fr [14] [29, 30, 31, 32] M q.1 ∧ StpM q.1 q.2 ∧ SoP (M.1 0 11) (M.1 0 8) T q.2 ∧ (∀ c, T c → q.2 c = 0) ∧ ∀ c, c < 2304 → ClP (M.1 0 11) (M.1 0 8) q.2 c) (fun q => some (0, q.1)) (by
      rintro i _ hi ⟨X, st, m, rfl, f1, f2, f3, f4, f5, f6⟩
      rcases f6 with ⟨rfl, f6⟩ | ⟨rfl, f6⟩
      · refine Or.inl ⟨(X, st), ⟨f1, f2, f3, f4, f6⟩, fun rc => ?_⟩
        show n_X12_provesAll_0_b78_l F (fun S x1 => rc (S, x1)) X (nI 0) = _
        unfold n_X12_provesAll_0_b78_l
        rw [if_pos (show nI 0 = 0 from rfl)]
      · obtain ⟨⟨X2, st2, m2⟩, ⟨g1, g2, g3, g4, g5, g6⟩, e⟩ := m_provePass hF f2 (T := T) (by rw [f1.1 11 (by decide), f1.1 8 (by decide)]; exact f3) f4 f5
        dsimp only at g1 g2 g3 g4 g5 g6 e
        rw [f1.1 11 (by decide), f1.1 8 (by decide)] at g3 g6
        refine Or.inr ⟨_, ⟨X2, st2, m2, rfl, fr_t f1 g1, g2, g3, g4, g5, ?_⟩, fun rc => ?_⟩
        · rcases g6 with ⟨z1, z2, z3⟩ | ⟨z1, z2⟩
          · exact Or.inl ⟨z1, by rw [z2]; exact z3⟩
          · exact Or.inr ⟨z1, by omega⟩
        · show n_X12_provesAll_0_b78_l F (fun S x1 => rc (S, x1)) X (nI 1) = _
          unfold n_X12_provesAll_0_b78_l
          rw [if_neg (show ¬ nI 1 = 0 by decide)]
          exact e rc) (by
      rintro _ ⟨X, st, m, rfl, f1, f2, f3, f4, f5, f6⟩
      rcases f6 with ⟨rfl, f6⟩ | ⟨rfl, f6⟩
      · refine ⟨(X, st), ⟨f1, f2, f3, f4, f6⟩, fun rc => ?_⟩
        show n_X12_provesAll_0_b78_l F (fun S x1 => rc (S, x1)) X (nI 0) = _
        unfold n_X12_provesAll_0_b78_l
        rw [if_pos (show nI 0 = 0 from rfl)]
      · omega) F (X0, 1) ⟨X0, st0, 1, rfl, h1, h2, h3, h4, h5, Or.inr ⟨rfl, by have := smS_le h5 2304; omega⟩⟩ (by omega)
  -- what is told
  have told : ∀ X0, fr [14] [29, 30, 31, 32] M X0 → (∀ b, b < 2304 → X0.1 14 b = nI 1000000) → ∃ q : Zs × (Nat → Nat), (fr [14] [29, 30, 31, 32] M q.1 ∧ StpM q.1 q.2 ∧ SoP (M.1 0 11) (M.1 0 8) T q.2 ∧ (∀ c, T c → q.2 c = 0) ∧ ∀ c, c < 2304 → ClP (M.1 0 11) (M.1 0 8) q.2 c) ∧ n_X12_provesAll_0_b25 F X0 0 = some (0, q.1) := by
    intro X0 h1 h2
    exact zfix_for (f := fun (rc : (Zs × Int32) → Option (Int32 × Zs)) (u : (Zs × Int32)) => n_X12_provesAll_0_b25_l F  (fun S x1 => rc (S, x1)) u.1 u.2) n (fun i u => ∃ X st, u = (X, nI i) ∧ fr [14] [29, 30, 31, 32] M X ∧ StpM X st ∧ (∀ c, st c ≤ 1000000) ∧ (∀ c, st c < 1000000 → st c = 0 ∧ T c) ∧ ∀ j, j < i → ¬ hb (M.1 0 7) j = true → st (cd j) = 0) (fun q : Zs × (Nat → Nat) => fr [14] [29, 30, 31, 32] M q.1 ∧ StpM q.1 q.2 ∧ SoP (M.1 0 11) (M.1 0 8) T q.2 ∧ (∀ c, T c → q.2 c = 0) ∧ ∀ c, c < 2304 → ClP (M.1 0 11) (M.1 0 8) q.2 c) (fun q => some (0, q.1)) (by
      rintro i _ hi ⟨X, st, rfl, f1, f2, f3, f4, f5⟩
      obtain ⟨c1, c2⟩ := hM.2.2 i hi
      obtain ⟨s1, s2⟩ := f2 _ c2
      have r2 : X.1 2 i = nI (cd i) := by rw [f1.2.1 2 (by decide) (by decide)]; exact c1
      have e1 : ∀ rc : (Zs × Int32) → Option (Int32 × Zs), n_X12_provesAll_0_b25_l F (fun S x1 => rc (S, x1)) X (nI i) = if hb (M.1 0 7) i = true then rc (zp X 14 (cd i) (nI (st (cd i))), nI (i + 1)) else rc (zp X 14 (cd i) 0, nI (i + 1)) := by
        intro rc
        unfold n_X12_provesAll_0_b25_l n_X12_provesAll_0_b69
        rw [zgS, f1.1 3 (by decide), hM.1, if_neg (nI_ge hi (by omega)), zld_nI _ _ _ (show i < 16 by omega) (by omega), r2, zgS, f1.1 7 (by decide), e_has F _ _ (show i < 32 by omega), zcS, zst_nI _ _ _ _ c2 (by omega), zlS, zld_nI _ _ _ (show i < 16 by omega) (by omega), r2, zld_nI _ _ _ c2 (by omega), s1, zst_nI _ _ _ _ c2 (by omega), zlS, nI_1]
        by_cases g : hb (M.1 0 7) i = true
        · rw [bI_t g, if_neg (by decide), if_pos g]
        · rw [bI_f g, if_pos rfl, if_neg g]
      by_cases g : hb (M.1 0 7) i = true
      · refine Or.inr ⟨_, ⟨_, st, rfl, fr_t f1 (fr_r _ _ (by decide) (by decide)), fun b hb' => ?_, f3, f4, fun j hj hw => ?_⟩, fun rc => (e1 rc).trans (if_pos g)⟩
        · by_cases e : b = cd i
          · rw [e, zp_at]; exact ⟨rfl, s2⟩
          · rw [zp_off _ _ (Or.inr e)]; exact f2 b hb'
        · by_cases e : j = i
          · rw [e] at hw; exact absurd g hw
          · exact f5 j (by omega) hw
      · refine Or.inr ⟨_, ⟨_, updN st (cd i) 0, rfl, fr_t f1 (fr_r _ _ (by decide) (by decide)), fun b hb' => ?_, fun b => ?_, fun b hlt => ?_, fun j hj hw => ?_⟩, fun rc => (e1 rc).trans (if_neg g)⟩
        · unfold updN
          by_cases e : b = cd i
          · rw [e, zp_at, if_pos rfl]; exact ⟨rfl, by omega⟩
          · rw [zp_off _ _ (Or.inr e), if_neg e]; exact f2 b hb'
        · unfold updN
          by_cases e : b = cd i
          · rw [if_pos e]; omega
          · rw [if_neg e]; exact f3 b
        · unfold updN at hlt ⊢
          by_cases e : b = cd i
          · rw [if_pos e]; exact ⟨rfl, by rw [← hT]; exact ⟨i, hi, g, e.symm⟩⟩
          · rw [if_neg e] at hlt ⊢; exact f4 b hlt
        · unfold updN
          by_cases e : cd j = cd i
          · rw [if_pos e]
          · rw [if_neg e]
            by_cases e2 : j = i
            · rw [e2] at e; exact absurd rfl e
            · exact f5 j (by omega) hw) (by
      rintro _ ⟨X, st, rfl, f1, f2, f3, f4, f5⟩
      obtain ⟨q, q1, q2⟩ := rounds X st f1 f2 (fun c hc hlt => by rw [(f4 c hlt).1]; exact Cost_t (f4 c hlt).2) (fun c hc => by
        rw [← hT] at hc
        obtain ⟨i, h1, h2, h3⟩ := hc
        rw [← h3]; exact f5 i h1 h2) f3
      refine ⟨q, q1, fun rc => ?_⟩
      show n_X12_provesAll_0_b25_l F (fun S x1 => rc (S, x1)) X (nI n) = _
      unfold n_X12_provesAll_0_b25_l
      rw [zgS, f1.1 3 (by decide), hM.1, if_pos (nI_le (Nat.le_refl _) (by omega)), q2]) F (X0, 0) ⟨X0, fun _ => 1000000, rfl, h1, fun b hb' => ⟨h2 b hb', Nat.le_refl _⟩, fun _ => Nat.le_refl _, fun c h => absurd h (Nat.lt_irrefl 1000000), fun j hj => absurd hj (by omega)⟩ (by omega)
  obtain ⟨q, ⟨g1, g2, g3, g4, g5⟩, e⟩ : ∃ q : Zs × (Nat → Nat), (fr [14] [29, 30, 31, 32] M q.1 ∧ StpM q.1 q.2 ∧ SoP (M.1 0 11) (M.1 0 8) T q.2 ∧ (∀ c, T c → q.2 c = 0) ∧ ∀ c, c < 2304 → ClP (M.1 0 11) (M.1 0 8) q.2 c) ∧ n_X12_provesAll_0_b2 F M 0 = some (0, q.1) := zfix_for (f := fun (rc : (Zs × Int32) → Option (Int32 × Zs)) (u : (Zs × Int32)) => n_X12_provesAll_0_b2_l F  (fun S x1 => rc (S, x1)) u.1 u.2) 2304 (fun i u => ∃ X, u = (X, nI i) ∧ fr [14] [29, 30, 31, 32] M X ∧ ∀ b, b < i → X.1 14 b = nI 1000000) (fun q : Zs × (Nat → Nat) => fr [14] [29, 30, 31, 32] M q.1 ∧ StpM q.1 q.2 ∧ SoP (M.1 0 11) (M.1 0 8) T q.2 ∧ (∀ c, T c → q.2 c = 0) ∧ ∀ c, c < 2304 → ClP (M.1 0 11) (M.1 0 8) q.2 c) (fun q => some (0, q.1)) (by
    rintro i _ hi ⟨X, rfl, f1, f2⟩
    refine Or.inr ⟨_, ⟨zp X 14 i 1000000, rfl, fr_t f1 (fr_r _ _ (by decide) (by decide)), fun b hb' => ?_⟩, fun rc => ?_⟩
    · by_cases e : b = i
      · rw [e, zp_at]; rfl
      · rw [zp_off _ _ (Or.inr e)]; exact f2 b (by omega)
    · show n_X12_provesAll_0_b2_l F (fun S x1 => rc (S, x1)) X (nI i) = _
      unfold n_X12_provesAll_0_b2_l
      rw [if_neg (show ¬ (2304 : Int32) ≤ nI i from nI_ge (b := 2304) hi (by omega)), zst_nI _ _ _ _ hi (by omega), zlS, nI_1]) (by
    rintro _ ⟨X, rfl, f1, f2⟩
    obtain ⟨q, q1, q2⟩ := told X f1 f2
    refine ⟨q, q1, fun rc => ?_⟩
    show n_X12_provesAll_0_b2_l F (fun S x1 => rc (S, x1)) X (nI 2304) = _
    unfold n_X12_provesAll_0_b2_l
    rw [if_pos (show (2304 : Int32) ≤ nI 2304 by decide), q2]) F (M, 0) ⟨M, rfl, fr_rf _ _ _, fun b hb' => absurd hb' (by omega)⟩ (by omega)
  have := fin q.1 q.2 g1 g2 g3 g4 g5
  exact ⟨q.1, q.2, e, g1, g2, this.1, this.2⟩
