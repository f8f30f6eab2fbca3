/-! plead: a line is weighed -/
def Kn (n : Nat) (wd : Int32) (e f : Nat) : Prop := (f < n ∧ ¬ hb wd f = true) ∨ (16 ≤ f ∧ f - 16 < e)
def cv (cd sc : Nat → Nat) (f : Nat) : Nat := if 16 ≤ f then sc (f - 16) else cd f
theorem x_known {F : Nat} {X : Zs} {n e f : Nat} (h62 : X.1 0 62 = nI n) (hn : n ≤ 16) (hf : f < 100) (he : e < 40) : ∃ r, isB r (Kn n (X.1 0 64) e f) ∧ n_X3_isKnown_41 F X (nI f) (nI e) = some (r, X) := by
  unfold n_X3_isKnown_41 n_X3_isKnown_41_e n_X3_isKnown_41_b30 Kn
  by_cases g : 16 ≤ f
  · rw [if_pos (show (16 : Int32) ≤ nI f from nI_le (a := 16) g (by omega)), show nI f - 16 = nI (f - 16) from pk_sub (b := 16) g]
    by_cases w : e ≤ f - 16
    · rw [if_pos (nI_le w (by omega)), zrb_0]
      exact ⟨0, Or.inr ⟨rfl, fun z => by rcases z with z | z <;> omega⟩, rfl⟩
    · rw [if_neg (nI_ge (by omega) (by omega)), zrb_1]
      exact ⟨1, Or.inl ⟨rfl, Or.inr ⟨g, by omega⟩⟩, rfl⟩
  · rw [if_neg (show ¬ (16 : Int32) ≤ nI f from nI_ge (b := 16) (by omega) (by omega))]
    by_cases w : f < n
    · rw [x_isActive h62 hn w, zcS, zrb_b]
      refine ⟨_, isB_iff isB_bI ⟨fun z => Or.inl ⟨w, z⟩, fun z => z.elim (fun z => z.2) (fun z => absurd z.1 g)⟩, rfl⟩
    · have e1 : n_X2_isActive_3 F X (nI f) = some (0, X) := by
        unfold n_X2_isActive_3 n_X2_isActive_3_e n_X2_isActive_3_b27 n_X2_isActive_3_b28
        rw [if_neg (nI_pos (by omega)), zgS, h62, if_pos (nI_le (by omega) (by omega)), zrb_0]
      rw [e1, zcS, zrb_0]
      exact ⟨0, Or.inr ⟨rfl, fun z => by rcases z with z | z <;> omega⟩, rfl⟩
theorem Kn_lt {n : Nat} {wd : Int32} {e f : Nat} (h : Kn n wd e f) : f < n ∨ (16 ≤ f ∧ f < 16 + e) := h.imp (fun g => g.1) (fun g => ⟨g.1, by omega⟩)
theorem x_codeOf {F : Nat} {X : Zs} {n e f : Nat} {cd sc : Nat → Nat} {wd : Int32} (hX : XC X n cd) (he : e < 40) (hs : ∀ i, i ≤ e → X.1 42 i = nI (sc i) ∧ sc i < 2304) (h : Kn n wd e f) : n_X3_codeOf_41 F X (nI f) = some (nI (cv cd sc f), X) ∧ cv cd sc f < 2304 := by
  have hn := hX.2.1
  unfold n_X3_codeOf_41 n_X3_codeOf_41_e n_X3_codeOf_41_b27 cv
  rcases Kn_lt h with g | g
  · rw [if_neg (show ¬ (16 : Int32) ≤ nI f from nI_ge (b := 16) (by omega) (by omega)), zld_nI _ _ _ (show f < 16 by omega) (by omega), (hX.2.2 f g).1, if_neg (show ¬ 16 ≤ f by omega)]
    exact ⟨rfl, (hX.2.2 f g).2⟩
  · rw [if_pos (show (16 : Int32) ≤ nI f from nI_le (a := 16) g.1 (by omega)), show nI f - 16 = nI (f - 16) from pk_sub (b := 16) g.1, zld_nI _ _ _ (show f - 16 < 40 by omega) (by omega), (hs _ (by omega)).1, if_pos g.1]
    exact ⟨rfl, (hs _ (by omega)).2⟩
theorem m_codeNo {F : Nat} {M : Zs} {n e f : Nat} {cd sc : Nat → Nat} (hM : MC M n cd) (he : e < 40) (hf : f < 100) (hs : ∀ i, i ≤ e → M.1 16 i = nI (sc i) ∧ sc i < 2304) : ∃ o, ((Kn n (M.1 0 7) e f ∧ o = nI (cv cd sc f) ∧ cv cd sc f < 2304) ∨ (¬ Kn n (M.1 0 7) e f ∧ o = -1)) ∧ n_X12_codeOfNumber_0 F M (nI f) (nI e) = some (o, M) := by
  have hn := hM.2.1
  unfold n_X12_codeOfNumber_0 n_X12_codeOfNumber_0_e n_X12_codeOfNumber_0_b57 n_X12_codeOfNumber_0_b34 n_X12_codeOfNumber_0_b35 cv Kn
  by_cases g : 16 ≤ f
  · rw [if_pos (show (16 : Int32) ≤ nI f from nI_le (a := 16) g (by omega)), show nI f - 16 = nI (f - 16) from pk_sub (b := 16) g, if_pos g]
    by_cases w : e ≤ f - 16
    · rw [if_pos (nI_le w (by omega))]
      exact ⟨-1, Or.inr ⟨fun z => by rcases z with z | z <;> omega, rfl⟩, rfl⟩
    · rw [if_neg (nI_ge (by omega) (by omega)), zld_nI _ _ _ (show f - 16 < 40 by omega) (by omega), (hs _ (by omega)).1]
      exact ⟨_, Or.inl ⟨Or.inr ⟨g, by omega⟩, rfl, (hs _ (by omega)).2⟩, rfl⟩
  · rw [if_neg (show ¬ (16 : Int32) ≤ nI f from nI_ge (b := 16) (by omega) (by omega)), zgS, hM.1, if_neg g]
    by_cases w : n ≤ f
    · rw [if_pos (nI_le w (by omega))]
      exact ⟨-1, Or.inr ⟨fun z => by rcases z with z | z <;> omega, rfl⟩, rfl⟩
    · rw [if_neg (nI_ge (by omega) (by omega)), zgS, e_has F _ _ (show f < 32 by omega), zcS]
      by_cases q : hb (M.1 0 7) f = true
      · rw [bI_t q, if_neg (by decide)]
        exact ⟨-1, Or.inr ⟨fun z => z.elim (fun z => z.2 q) (fun z => g z.1), rfl⟩, rfl⟩
      · rw [bI_f q, if_pos rfl, zld_nI _ _ _ (show f < 16 by omega) (by omega), (hM.2.2 f (by omega)).1]
        exact ⟨_, Or.inl ⟨Or.inl ⟨by omega, q⟩, rfl, (hM.2.2 f (by omega)).2⟩, rfl⟩
theorem ifI {α : Type} {a b : Nat} (ha : a < 2 ^ 31) (hb' : b < 2 ^ 31) (x y : α) : (if nI a = nI b then x else y) = if a = b then x else y := by
  by_cases g : a = b
  · rw [if_pos g, if_pos (by rw [g])]
  · rw [if_neg g, if_neg (fun w => g ((nI_eq ha hb').mp w))]
-- the terms
def T1 (p c : Nat) : Prop := (sj c = pd p ∧ pd c = sj p) ∨ (sj c = sj p ∧ (pd c = pd p ∨ pd c = pd p ^^^ 1))
def T2 (p o c : Nat) : Prop := ∃ f, F4 f ∧ d1 f p = d2 f o ∧ mj f p = pd c ∧ mn f o = sj c
def Ft (og : Option Nat) (p c : Nat) : Prop := match og with
  | none => T1 p c
  | some o => T2 p o c ∨ T2 o p c
theorem x1_24 {a : Nat} (h : a < 24) : a ^^^ 1 < 24 := (show ∀ a, a < 24 → a ^^^ 1 < 24 by decide) a h
theorem x_terms1 {F : Nat} (X : Zs) {p c : Nat} (hp : p < 2304) (hc : c < 2304) : ∃ r, isB r (T1 p c) ∧ n_X3_hasTermsOfOne F X (nI p) (nI c) = some (r, X) := by
  have a1 := sj_lt p
  have a2 := pd_lt p
  have a3 := sj_lt c
  have a4 := pd_lt c
  have a5 := x1_24 a2
  unfold n_X3_hasTermsOfOne n_X3_hasTermsOfOne_e n_X3_hasTermsOfOne_b34 n_X3_hasTermsOfOne_b54 n_X3_hasTermsOfOne_b58 n_X3_hasTermsOfOne_b59 T1
  rw [n_subj F X hp, zcS, n_pred F X hp, zcS, n_subj F X hc, zcS, n_pred F X hc, zcS, nI_x1 (by omega), zrb_0, zrb_1]
  rw [ifI (by omega) (by omega), ifI (by omega) (by omega), ifI (by omega) (by omega), ifI (by omega) (by omega), ifI (by omega) (by omega)]
  by_cases h1 : sj c = pd p ∧ pd c = sj p
  · rw [if_pos h1.1, if_pos h1.2]
    exact ⟨1, Or.inl ⟨rfl, Or.inl h1⟩, rfl⟩
  · by_cases h2 : sj c = sj p
    · by_cases h3 : pd c = pd p
      · refine ⟨1, Or.inl ⟨rfl, Or.inr ⟨h2, Or.inl h3⟩⟩, ?_⟩
        rw [if_pos h2, if_pos h3, ite_self, ite_self]
      · by_cases h4 : pd c = pd p ^^^ 1
        · refine ⟨1, Or.inl ⟨rfl, Or.inr ⟨h2, Or.inr h4⟩⟩, ?_⟩
          rw [if_pos h2, if_neg h3, if_pos h4, ite_self, ite_self]
        · refine ⟨0, Or.inr ⟨rfl, fun z => z.elim h1 fun z => z.2.elim h3 h4⟩, ?_⟩
          rw [if_pos h2, if_neg h3, if_neg h4]
          by_cases q : sj c = pd p
          · rw [if_pos q, if_neg (fun z => h1 ⟨q, z⟩)]
          · rw [if_neg q]
    · refine ⟨0, Or.inr ⟨rfl, fun z => z.elim h1 fun z => h2 z.1⟩, ?_⟩
      rw [if_neg h2]
      by_cases q : sj c = pd p
      · rw [if_pos q, if_neg (fun z => h1 ⟨q, z⟩)]
      · rw [if_neg q]
theorem F4_i {i : Nat} (h : i < 4) : F4 (1 + i) := by unfold F4; omega
theorem F4_n {f : Nat} (h : F4 f) : ∃ i, i < 4 ∧ f = 1 + i := ⟨f - 1, by unfold F4 at h; omega, by unfold F4 at h; omega⟩
theorem x_terms2 {F : Nat} (hF : 2 ^ 40 < F) (X : Zs) {p o c : Nat} (hp : p < 2304) (ho : o < 2304) (hc : c < 2304) : ∃ r, isB r (T2 p o c) ∧ n_X3_hasTermsOfTwo F X (nI p) (nI o) (nI c) = some (r, X) := by
  have a3 := sj_lt c
  have a4 := pd_lt c
  exact zfix_for (f := fun (rc : (Zs × Int32 × Int32 × Int32 × Int32) → Option (Int32 × Zs)) (u : (Zs × Int32 × Int32 × Int32 × Int32)) => n_X3_hasTermsOfTwo_b2_l F  (fun S x0 x1 x2 x3 => rc (S, x0, x1, x2, x3)) u.1 u.2.1 u.2.2.1 u.2.2.2.1 u.2.2.2.2) 4 (fun i s => s = (X, nI p, nI o, nI c, nI (1 + i)) ∧ ∀ j, j < i → ¬ (d1 (1 + j) p = d2 (1 + j) o ∧ mj (1 + j) p = pd c ∧ mn (1 + j) o = sj c)) (fun r : Int32 => isB r (T2 p o c)) (fun r => some (r, X)) (by
    rintro i _ hi' ⟨rfl, hno⟩
    have h4 := F4_i hi'
    have b1 := d1_lt (1 + i) p
    have b2 := d2_lt (1 + i) o
    have b3 := mj_lt (1 + i) p
    have b4 := mn_lt (1 + i) o
    have e1 : ∀ rc : (Zs × Int32 × Int32 × Int32 × Int32) → Option (Int32 × Zs), n_X3_hasTermsOfTwo_b2_l F (fun S x0 x1 x2 x3 => rc (S, x0, x1, x2, x3)) X (nI p) (nI o) (nI c) (nI (1 + i)) = if d1 (1 + i) p = d2 (1 + i) o ∧ mj (1 + i) p = pd c ∧ mn (1 + i) o = sj c then some (1, X) else rc (X, nI p, nI o, nI c, nI (1 + (i + 1))) := by
      intro rc
      unfold n_X3_hasTermsOfTwo_b2_l n_X3_hasTermsOfTwo_b46
      rw [if_neg (show ¬ (4 : Int32) < nI (1 + i) from fun w => by rw [show (4 : Int32) = nI 4 from rfl, nI_lt_iff (by omega) (by omega)] at w; omega), x_d1 X h4 hp, zcS, x_d2 X h4 ho, zcS, x_mj X h4 hp, zcS, n_pred F X hc, zcS, x_mn X h4 ho, zcS, n_subj F X hc, zcS, zlS, nI_1, zrb_1, show 1 + i + 1 = 1 + (i + 1) by omega]
      rw [ifI (by omega) (by omega), ifI (by omega) (by omega), ifI (by omega) (by omega)]
      by_cases g1 : d1 (1 + i) p = d2 (1 + i) o
      · rw [if_pos g1]
        by_cases g2 : mj (1 + i) p = pd c
        · rw [if_pos g2]
          by_cases g3 : mn (1 + i) o = sj c
          · rw [if_pos g3, if_pos ⟨g1, g2, g3⟩]
          · rw [if_neg g3, if_neg (fun z => g3 z.2.2)]
        · rw [if_neg g2, if_neg (fun z => g2 z.2.1)]
      · rw [if_neg g1, if_neg (fun z => g1 z.1)]
    by_cases g : d1 (1 + i) p = d2 (1 + i) o ∧ mj (1 + i) p = pd c ∧ mn (1 + i) o = sj c
    · exact Or.inl ⟨1, Or.inl ⟨rfl, _, h4, g⟩, fun rc => (e1 rc).trans (if_pos g)⟩
    · refine Or.inr ⟨_, ⟨rfl, fun j hj => ?_⟩, fun rc => (e1 rc).trans (if_neg g)⟩
      by_cases q : j = i
      · rw [q]; exact g
      · exact hno j (by omega)) (by
    rintro _ ⟨rfl, hno⟩
    refine ⟨0, Or.inr ⟨rfl, ?_⟩, fun rc => ?_⟩
    · rintro ⟨f, hf, g⟩
      obtain ⟨i, hi, rfl⟩ := F4_n hf
      exact hno i hi g
    · show n_X3_hasTermsOfTwo_b2_l F (fun S x0 x1 x2 x3 => rc (S, x0, x1, x2, x3)) X (nI p) (nI o) (nI c) 5 = _
      unfold n_X3_hasTermsOfTwo_b2_l
      rw [if_pos (by decide), zrb_0]) F (X, nI p, nI o, nI c, 1) ⟨rfl, fun j hj => absurd hj (by omega)⟩ (by omega)
theorem e_tm {c : Nat} (h : c < 2304) : nI c - nI c / 576 * 576 = nI (24 * sj c + pd c) := by
  rw [e_fm h, show nI (c / 576) * 576 = nI (576 * (c / 576)) by rw [Int32.mul_comm]; exact pk_mul 576 _, pk_sub (by omega)]
  congr 1
  unfold sj pd
  omega
theorem m_fits {F : Nat} (hF : 2 ^ 40 < F) (M : Zs) {p c : Nat} {og : Option Nat} (hp : p < 2304) (ho : ∀ o, og = some o → o < 2304) (hc : c < 2304) : ∃ r, isB r (Ft og p c) ∧ n_X12_fits_0 F M (nI p) (oN og) (nI c) = some (r, M) := by
  have a1 := sj_lt p
  have a2 := pd_lt p
  have a3 := sj_lt c
  have a4 := pd_lt c
  have a5 := x1_24 a2
  unfold n_X12_fits_0 n_X12_fits_0_e
  rw [zlS, e_tm hc]
  cases og with
  | none =>
    rw [if_neg (show ¬ (0 : Int32) ≤ oN none by decide), n_fstM F M hp, zcS, n_sndM F M hp, zcS, nI_x1 (by omega)]
    unfold n_X12_fits_0_b64 n_X12_fits_0_b69
    rw [show (24 : Int32) * nI (pd p) = nI (24 * pd p) from pk_mul 24 _, show (24 : Int32) * nI (sj p) = nI (24 * sj p) from pk_mul 24 _, nI_add, nI_add, nI_add, ifI (by omega) (by omega), ifI (by omega) (by omega), ifI (by omega) (by omega), zrb_0, zrb_1]
    show ∃ r, isB r (T1 p c) ∧ _
    unfold T1
    by_cases h1 : 24 * sj c + pd c = 24 * pd p + sj p
    · rw [if_pos h1]
      exact ⟨1, Or.inl ⟨rfl, Or.inl ⟨by omega, by omega⟩⟩, rfl⟩
    · rw [if_neg h1]
      by_cases h2 : 24 * sj c + pd c = 24 * sj p + (pd p ^^^ 1)
      · rw [if_pos h2]
        exact ⟨1, Or.inl ⟨rfl, Or.inr ⟨by omega, Or.inr (by omega)⟩⟩, rfl⟩
      · rw [if_neg h2]
        by_cases h3 : 24 * sj c + pd c = 24 * sj p + pd p
        · rw [if_pos h3]
          exact ⟨1, Or.inl ⟨rfl, Or.inr ⟨by omega, Or.inl (by omega)⟩⟩, rfl⟩
        · rw [if_neg h3]
          refine ⟨0, Or.inr ⟨rfl, fun z => ?_⟩, rfl⟩
          rcases z with ⟨z1, z2⟩ | ⟨z1, z2 | z2⟩
          · exact h1 (by rw [z1, z2])
          · exact h3 (by rw [z1, z2])
          · exact h2 (by rw [z1, z2])
  | some o =>
    have ho' := ho o rfl
    rw [if_pos (show (0 : Int32) ≤ oN (some o) from Int32.not_lt.mp (nI_pos (by omega)))]
    exact zfix_for (f := fun (rc : (Zs × Int32 × Int32 × Int32 × Int32) → Option (Int32 × Zs)) (u : (Zs × Int32 × Int32 × Int32 × Int32)) => n_X12_fits_0_b73_l F  (fun S x1 x2 x4 x5 => rc (S, x1, x2, x4, x5)) u.1 u.2.1 u.2.2.1 u.2.2.2.1 u.2.2.2.2) 4 (fun i s => s = (M, nI p, nI o, nI (24 * sj c + pd c), nI (1 + i)) ∧ ∀ j, j < i → ¬ ((d1 (1 + j) p = d2 (1 + j) o ∧ mj (1 + j) p = pd c ∧ mn (1 + j) o = sj c) ∨ (d1 (1 + j) o = d2 (1 + j) p ∧ mj (1 + j) o = pd c ∧ mn (1 + j) p = sj c))) (fun r : Int32 => isB r (Ft (some o) p c)) (fun r => some (r, M)) (by
      rintro i _ hi' ⟨rfl, hno⟩
      have h4 := F4_i hi'
      have cnc : ∀ x y : Nat, ((if d2 (1 + i) y = d1 (1 + i) x then nI (24 * mn (1 + i) y + mj (1 + i) x) else -1) = nI (24 * sj c + pd c)) ↔ (d1 (1 + i) x = d2 (1 + i) y ∧ mj (1 + i) x = pd c ∧ mn (1 + i) y = sj c) := by
        intro x y
        have b3 := mj_lt (1 + i) x
        have b4 := mn_lt (1 + i) y
        by_cases q : d2 (1 + i) y = d1 (1 + i) x
        · rw [if_pos q, nI_eq (by omega) (by omega)]
          exact ⟨fun w => ⟨q.symm, by omega, by omega⟩, fun w => by omega⟩
        · rw [if_neg q]
          exact ⟨fun w => absurd w.symm (nI_ne_m1 (by omega)), fun w => absurd w.1.symm q⟩
      have e1 : ∀ rc : (Zs × Int32 × Int32 × Int32 × Int32) → Option (Int32 × Zs), n_X12_fits_0_b73_l F (fun S x1 x2 x4 x5 => rc (S, x1, x2, x4, x5)) M (nI p) (nI o) (nI (24 * sj c + pd c)) (nI (1 + i)) = if ((d1 (1 + i) p = d2 (1 + i) o ∧ mj (1 + i) p = pd c ∧ mn (1 + i) o = sj c) ∨ (d1 (1 + i) o = d2 (1 + i) p ∧ mj (1 + i) o = pd c ∧ mn (1 + i) p = sj c)) then some (1, M) else rc (M, nI p, nI o, nI (24 * sj c + pd c), nI (1 + (i + 1))) := by
        intro rc
        unfold n_X12_fits_0_b73_l n_X12_fits_0_b103
        rw [if_neg (show ¬ (4 : Int32) < nI (1 + i) from fun w => by rw [show (4 : Int32) = nI 4 from rfl, nI_lt_iff (by omega) (by omega)] at w; omega), m_conc M h4 hp ho', zcS, m_conc M h4 ho' hp, zcS, zlS, nI_1, zrb_1, show 1 + i + 1 = 1 + (i + 1) by omega]
        by_cases g1 : d1 (1 + i) p = d2 (1 + i) o ∧ mj (1 + i) p = pd c ∧ mn (1 + i) o = sj c
        · rw [if_pos ((cnc p o).mpr g1), if_pos (Or.inl g1)]
        · rw [if_neg (fun w => g1 ((cnc p o).mp w))]
          by_cases g2 : d1 (1 + i) o = d2 (1 + i) p ∧ mj (1 + i) o = pd c ∧ mn (1 + i) p = sj c
          · rw [if_pos ((cnc o p).mpr g2), if_pos (Or.inr g2)]
          · rw [if_neg (fun w => g2 ((cnc o p).mp w)), if_neg (fun z => z.elim g1 g2)]
      by_cases g : ((d1 (1 + i) p = d2 (1 + i) o ∧ mj (1 + i) p = pd c ∧ mn (1 + i) o = sj c) ∨ (d1 (1 + i) o = d2 (1 + i) p ∧ mj (1 + i) o = pd c ∧ mn (1 + i) p = sj c))
      · exact Or.inl ⟨1, Or.inl ⟨rfl, g.imp (fun g => ⟨_, h4, g⟩) (fun g => ⟨_, h4, g⟩)⟩, fun rc => (e1 rc).trans (if_pos g)⟩
      · refine Or.inr ⟨_, ⟨rfl, fun j hj => ?_⟩, fun rc => (e1 rc).trans (if_neg g)⟩
        by_cases q : j = i
        · rw [q]; exact g
        · exact hno j (by omega)) (by
      rintro _ ⟨rfl, hno⟩
      refine ⟨0, Or.inr ⟨rfl, ?_⟩, fun rc => ?_⟩
      · rintro (⟨f, hf, g⟩ | ⟨f, hf, g⟩)
        · obtain ⟨i, hi, rfl⟩ := F4_n hf
          exact hno i hi (Or.inl g)
        · obtain ⟨i, hi, rfl⟩ := F4_n hf
          exact hno i hi (Or.inr g)
      · show n_X12_fits_0_b73_l F (fun S x1 x2 x4 x5 => rc (S, x1, x2, x4, x5)) M (nI p) (nI o) (nI (24 * sj c + pd c)) 5 = _
        unfold n_X12_fits_0_b73_l
        rw [if_pos (by decide), zrb_0]) F (M, nI p, nI o, nI (24 * sj c + pd c), 1) ⟨rfl, fun j hj => absurd hj (by omega)⟩ (by omega)
-- why a line does not go
def KA (n : Nat) (wd : Int32) (e f : Nat) (g : Option Nat) : Prop := Kn n wd e f ∧ ∀ x, g = some x → Kn n wd e x
def WS (n : Nat) (wd : Int32) (cw : Nat → Nat) (al lv : Int32) (e f : Nat) (g : Option Nat) (c v k : Nat) : Prop := (¬ KA n wd e f g ∧ v = 1) ∨ (KA n wd e f g ∧ ((24 ≤ e ∧ v = 2) ∨ (e < 24 ∧ ((¬ Ft (g.map cw) (cw f) c ∧ v = 3) ∨ (Ft (g.map cw) (cw f) c ∧ MS (g.map cw) (cw f) c al lv v k)))))
theorem WS_eq {n : Nat} {wd : Int32} {cw : Nat → Nat} {al lv : Int32} {e f : Nat} {g : Option Nat} {c v k v2 k2 : Nat} (h : WS n wd cw al lv e f g c v k) (h2 : WS n wd cw al lv e f g c v2 k2) : v = v2 ∧ (v = 0 → k = k2) := by
  rcases h with ⟨a, b⟩ | ⟨a, h⟩ <;> rcases h2 with ⟨a2, b2⟩ | ⟨a2, h2⟩
  · exact ⟨by rw [b, b2], fun w => by omega⟩
  · exact absurd a2 a
  · exact absurd a a2
  · rcases h with ⟨a, b⟩ | ⟨a, h⟩ <;> rcases h2 with ⟨a2, b2⟩ | ⟨a2, h2⟩
    · exact ⟨by rw [b, b2], fun w => by omega⟩
    · omega
    · omega
    · rcases h with ⟨a, b⟩ | ⟨a, h⟩ <;> rcases h2 with ⟨a2, b2⟩ | ⟨a2, h2⟩
      · exact ⟨by rw [b, b2], fun w => by omega⟩
      · exact absurd a2 a
      · exact absurd a a2
      · exact MS_eq h h2
theorem x_weigh {F : Nat} (hF : 2 ^ 40 < F) {X : Zs} {n e f c : Nat} {cd sc : Nat → Nat} {g : Option Nat} (hX : XC X n cd) (he : e < 40) (hs : ∀ i, i ≤ e → X.1 42 i = nI (sc i) ∧ sc i < 2304) (h44 : X.1 44 e = nI f) (hf : f < 100) (h45 : X.1 45 e = oN g) (hg : ∀ x, g = some x → x < 100) (hc : sc e = c) : ∃ q : Nat × Nat, WS n (X.1 0 64) (cv cd sc) (X.1 0 66) (X.1 0 65) e f g c q.1 q.2 ∧ n_X3_weigh_41 F X (nI e) = some (nI q.1, if q.1 = 0 then zp X 46 e (nI q.2) else X) := by
  obtain ⟨h42, hc'⟩ := hs e (Nat.le_refl _)
  rw [hc] at h42 hc'
  unfold n_X3_weigh_41 n_X3_weigh_41_e n_X3_weigh_41_b38
  rw [zld_nI _ _ _ he (by omega), h44]
  obtain ⟨r, hr, er⟩ := x_known (F := F) (e := e) hX.1 hX.2.1 hf he
  rw [er, zcS]
  by_cases k1 : Kn n (X.1 0 64) e f
  · rw [if_neg (fun w => (isB_0 hr).mp w k1), zld_nI _ _ _ he (by omega), h45]
    have b40 : KA n (X.1 0 64) e f g → ∃ q : Nat × Nat, WS n (X.1 0 64) (cv cd sc) (X.1 0 66) (X.1 0 65) e f g c q.1 q.2 ∧ n_X3_weigh_41_b40 F X (nI e) = some (nI q.1, if q.1 = 0 then zp X 46 e (nI q.2) else X) := by
      intro ka
      unfold n_X3_weigh_41_b40 n_X3_weigh_41_b93 n_X3_weigh_41_b135
      by_cases w : e < 24
      · obtain ⟨c1, p1⟩ := x_codeOf (F := F) hX he hs k1
        rw [if_pos (show nI e < 24 from nI_lt (b := 24) w (by omega)), zld_nI _ _ _ he (by omega), h44, c1, zcS, zld_nI _ _ _ he (by omega), h45]
        cases g with
        | none =>
          obtain ⟨r3, h3, e3⟩ := x_terms1 (F := F) X p1 hc'
          rw [if_pos (show oN none = -1 from rfl), zld_nI _ _ _ he (by omega), h42, e3, zcS]
          by_cases q : T1 (cv cd sc f) c
          · obtain ⟨s, hs1, hs2⟩ := x_tryMoods hF (og := none) he p1 (fun o w => absurd w (by simp)) h42 hc'
            rw [if_neg (fun w => (isB_0 h3).mp w q), show (-1 : Int32) = oN none from rfl, hs2, zcS]
            exact ⟨s, Or.inr ⟨ka, Or.inr ⟨w, Or.inr ⟨q, hs1⟩⟩⟩, rfl⟩
          · rw [if_pos ((isB_0 h3).mpr q)]
            exact ⟨(3, 0), Or.inr ⟨ka, Or.inr ⟨w, Or.inl ⟨q, rfl⟩⟩⟩, rfl⟩
        | some x =>
          have hx := hg x rfl
          obtain ⟨c2, p2⟩ := x_codeOf (F := F) hX he hs (ka.2 x rfl)
          obtain ⟨r3, h3, e3⟩ := x_terms2 hF X p1 p2 hc'
          obtain ⟨r4, h4, e4⟩ := x_terms2 hF X p2 p1 hc'
          obtain ⟨s, hs1, hs2⟩ := x_tryMoods hF (og := some (cv cd sc x)) he p1 (fun o w => by rw [← Option.some.inj w]; exact p2) h42 hc'
          have hs2 : n_X3_tryMoods_41 F X (nI e) (nI (cv cd sc f)) (nI (cv cd sc x)) = _ := hs2
          rw [if_neg (show ¬ oN (some x) = -1 from nI_ne_m1 (by omega)), zld_nI _ _ _ he (by omega), h45, show oN (some x) = nI x from rfl, c2, zcS, zld_nI _ _ _ he (by omega), h42, e3, zcS, zld_nI _ _ _ he (by omega), h42, e4, zcS, hs2, zcS]
          by_cases q : T2 (cv cd sc f) (cv cd sc x) c
          · rw [if_neg (fun w => (isB_0 h3).mp w q)]
            exact ⟨s, Or.inr ⟨ka, Or.inr ⟨w, Or.inr ⟨Or.inl q, hs1⟩⟩⟩, rfl⟩
          · rw [if_pos ((isB_0 h3).mpr q)]
            by_cases q2 : T2 (cv cd sc x) (cv cd sc f) c
            · rw [if_neg (fun w => (isB_0 h4).mp w q2)]
              exact ⟨s, Or.inr ⟨ka, Or.inr ⟨w, Or.inr ⟨Or.inr q2, hs1⟩⟩⟩, rfl⟩
            · rw [if_pos ((isB_0 h4).mpr q2)]
              exact ⟨(3, 0), Or.inr ⟨ka, Or.inr ⟨w, Or.inl ⟨fun z => z.elim q q2, rfl⟩⟩⟩, rfl⟩
      · rw [if_neg (show ¬ nI e < 24 from fun z => by rw [show (24 : Int32) = nI 24 from rfl, nI_lt_iff (by omega) (by omega)] at z; omega)]
        exact ⟨(2, 0), Or.inr ⟨ka, Or.inl ⟨by omega, rfl⟩⟩, rfl⟩
    cases g with
    | none =>
      rw [if_pos (show oN none = -1 from rfl)]
      exact b40 ⟨k1, fun x w => absurd w (by simp)⟩
    | some x =>
      have hx := hg x rfl
      obtain ⟨r2, hr2, er2⟩ := x_known (F := F) (e := e) hX.1 hX.2.1 hx he
      rw [if_neg (show ¬ oN (some x) = -1 from nI_ne_m1 (by omega)), zld_nI _ _ _ he (by omega), h45, show oN (some x) = nI x from rfl, er2, zcS]
      by_cases k2 : Kn n (X.1 0 64) e x
      · rw [if_neg (fun w => (isB_0 hr2).mp w k2)]
        exact b40 ⟨k1, fun y w => by rw [← Option.some.inj w]; exact k2⟩
      · rw [if_pos ((isB_0 hr2).mpr k2)]
        exact ⟨(1, 0), Or.inl ⟨fun w => k2 (w.2 x rfl), rfl⟩, rfl⟩
  · rw [if_pos ((isB_0 hr).mpr k1)]
    exact ⟨(1, 0), Or.inl ⟨fun w => k1 w.1, rfl⟩, rfl⟩
theorem hb_all {k : Nat} (h : k < 32) : hb (-1) k = true := (show ∀ k, k < 32 → hb (-1) k = true by decide) k h
theorem Pm_0 {og : Option Nat} {p c k : Nat} {lv : Int32} : Pm og p c 0 lv k ↔ Cm og p c k := by
  unfold Pm Cm
  cases og with
  | none => exact ⟨fun w => w.1, fun w => ⟨w, Or.inl rfl⟩⟩
  | some o => exact ⟨fun w => w.imp (fun w => w.1) (fun w => w.1), fun w => w.imp (fun w => ⟨w, Or.inl rfl⟩) (fun w => ⟨w, Or.inl rfl⟩)⟩
theorem Pm_1 {og : Option Nat} {p c k : Nat} {al lv : Int32} : (hb al k = true ∧ Pm og p c 1 lv k) ↔ Gm og p c al lv k := by
  have n1 : ¬ (1 : Int32) = 0 := by decide
  unfold Pm Gm
  cases og with
  | none => exact ⟨fun w => ⟨w.1, w.2.1, w.2.2.elim (fun z => absurd z n1) id⟩, fun w => ⟨w.1, w.2.1, Or.inr w.2.2⟩⟩
  | some o => exact ⟨fun w => ⟨w.1, w.2.imp (fun w => ⟨w.1, w.2.elim (fun z => absurd z n1) id⟩) (fun w => ⟨w.1, w.2.elim (fun z => absurd z n1) id⟩)⟩, fun w => ⟨w.1, w.2.imp (fun w => ⟨w.1, Or.inr w.2⟩) (fun w => ⟨w.1, Or.inr w.2⟩)⟩⟩
theorem m_why {F : Nat} (hF : 2 ^ 40 < F) {M : Zs} {n e f c : Nat} {cd sc : Nat → Nat} {g : Option Nat} (hM : MC M n cd) (he : e < 40) (hs : ∀ i, i ≤ e → M.1 16 i = nI (sc i) ∧ sc i < 2304) (h18 : M.1 18 e = nI f) (hf : f < 100) (h19 : M.1 19 e = oN g) (hg : ∀ x, g = some x → x < 100) (hc : sc e = c) : ∃ v k M2, WS n (M.1 0 7) (cv cd sc) (M.1 0 11) (M.1 0 8) e f g c v k ∧ n_X12_whyNot_0 F M (nI e) = some (nI v, M2) ∧ fr [20] [] M M2 ∧ (∀ i, i ≠ e → M2.1 20 i = M.1 20 i) ∧ (v = 0 → M2.1 20 e = nI k) := by
  obtain ⟨h16, hc'⟩ := hs e (Nat.le_refl _)
  rw [hc] at h16 hc'
  unfold n_X12_whyNot_0 n_X12_whyNot_0_e
  rw [zld_nI _ _ _ he (by omega), h18]
  obtain ⟨o1, ho1, eo1⟩ := m_codeNo (F := F) hM he hf hs
  rw [eo1, zcS, zld_nI _ _ _ he (by omega), h19]
  have one : ¬ KA n (M.1 0 7) e f g → ∃ v k M2, WS n (M.1 0 7) (cv cd sc) (M.1 0 11) (M.1 0 8) e f g c v k ∧ (some ((1 : Int32), M) : Option (Int32 × Zs)) = some (nI v, M2) ∧ fr [20] [] M M2 ∧ (∀ i, i ≠ e → M2.1 20 i = M.1 20 i) ∧ (v = 0 → M2.1 20 e = nI k) := fun w => ⟨1, 0, M, Or.inl ⟨w, rfl⟩, rfl, fr_rf _ _ _, fun _ _ => rfl, fun w => by omega⟩
  have b56 : KA n (M.1 0 7) e f g → cv cd sc f < 2304 → (∀ o, g.map (cv cd sc) = some o → o < 2304) → ∃ v k M2, WS n (M.1 0 7) (cv cd sc) (M.1 0 11) (M.1 0 8) e f g c v k ∧ n_X12_whyNot_0_b56 F M (nI e) (nI (cv cd sc f)) (oN (g.map (cv cd sc))) = some (nI v, M2) ∧ fr [20] [] M M2 ∧ (∀ i, i ≠ e → M2.1 20 i = M.1 20 i) ∧ (v = 0 → M2.1 20 e = nI k) := by
    intro ka p1 p2
    unfold n_X12_whyNot_0_b56 n_X12_whyNot_0_b160
    by_cases w : e < 24
    · obtain ⟨r3, h3, e3⟩ := m_fits hF M p1 p2 hc'
      rw [if_pos (show nI e < 24 from nI_lt (b := 24) w (by omega)), zld_nI _ _ _ he (by omega), h16, e3, zcS]
      by_cases q : Ft (g.map (cv cd sc)) (cv cd sc f) c
      · have h22 := (lo_hi (g.map (cv cd sc))).2
        obtain ⟨v1, hv1, ev1⟩ := m_moodFor hF M p1 p2 hc' (-1) 0
        obtain ⟨v2, hv2, ev2⟩ := m_moodFor hF M p1 p2 hc' (M.1 0 11) 0
        obtain ⟨v3, hv3, ev3⟩ := m_moodFor hF M p1 p2 hc' (M.1 0 11) 1
        rw [if_neg (fun w => (isB_0 h3).mp w q), zld_nI _ _ _ he (by omega), h16, ev1, zcS, zgS, zld_nI _ _ _ he (by omega), h16, ev2, zcS, zgS, zld_nI _ _ _ he (by omega), h16, ev3, zcS, zst_nI _ _ _ _ he (by omega), zld_nI _ _ _ he (by omega), zp_at]
        have no4 : (∀ j, lo (g.map (cv cd sc)) ≤ j → j < hi (g.map (cv cd sc)) → ¬ Cm (g.map (cv cd sc)) (cv cd sc f) c j) → ∀ j, lo (g.map (cv cd sc)) ≤ j → j < hi (g.map (cv cd sc)) → ¬ Gm (g.map (cv cd sc)) (cv cd sc f) c (M.1 0 11) (M.1 0 8) j := fun z j j1 j2 y => z j j1 j2 (Gm_Cm y).1
        rcases hv1 with ⟨rfl, n1⟩ | ⟨k1, rfl, l1, l2, ⟨-, l3⟩, -⟩
        · have n1' : ∀ j, lo (g.map (cv cd sc)) ≤ j → j < hi (g.map (cv cd sc)) → ¬ Cm (g.map (cv cd sc)) (cv cd sc f) c j := fun j j1 j2 z => n1 j j1 j2 ⟨hb_all (by omega), Pm_0.mpr z⟩
          rw [if_neg (by decide)]
          exact ⟨4, 0, M, Or.inr ⟨ka, Or.inr ⟨w, Or.inr ⟨q, Or.inr ⟨no4 n1', Or.inr ⟨fun j j1 j2 z => n1' j j1 j2 z.1, Or.inr ⟨rfl, n1'⟩⟩⟩⟩⟩⟩, rfl, fr_rf _ _ _, fun _ _ => rfl, fun w => by omega⟩
        · rw [if_pos (show (0 : Int32) ≤ nI k1 from Int32.not_lt.mp (nI_pos (by omega)))]
          rcases hv2 with ⟨rfl, n2⟩ | ⟨k2, rfl, m1, m2, ⟨m0, m3⟩, -⟩
          · have n2' : ∀ j, lo (g.map (cv cd sc)) ≤ j → j < hi (g.map (cv cd sc)) → ¬ (Cm (g.map (cv cd sc)) (cv cd sc f) c j ∧ hb (M.1 0 11) j = true) := fun j j1 j2 z => n2 j j1 j2 ⟨z.2, Pm_0.mpr z.1⟩
            rw [if_neg (by decide)]
            exact ⟨5, 0, M, Or.inr ⟨ka, Or.inr ⟨w, Or.inr ⟨q, Or.inr ⟨fun j j1 j2 y => n2' j j1 j2 (Gm_Cm y), Or.inr ⟨n2', Or.inl ⟨rfl, k1, l1, l2, Pm_0.mp l3⟩⟩⟩⟩⟩⟩, rfl, fr_rf _ _ _, fun _ _ => rfl, fun w => by omega⟩
          · rw [if_pos (show (0 : Int32) ≤ nI k2 from Int32.not_lt.mp (nI_pos (by omega)))]
            have fz : ∀ v : Int32, fr [20] [] M (zp M 20 e v) := fun v => fr_r _ _ (by decide) (by decide)
            have fo : ∀ v : Int32, ∀ i, i ≠ e → (zp M 20 e v).1 20 i = M.1 20 i := fun v i hi' => zp_off _ _ (Or.inr hi')
            rcases hv3 with ⟨rfl, n3⟩ | ⟨k3, rfl, q1, q2, q3, q4⟩
            · rw [if_neg (by decide)]
              exact ⟨6, 0, _, Or.inr ⟨ka, Or.inr ⟨w, Or.inr ⟨q, Or.inr ⟨fun j j1 j2 y => n3 j j1 j2 (Pm_1.mpr y), Or.inl ⟨rfl, k2, m1, m2, Pm_0.mp m3, m0⟩⟩⟩⟩⟩, rfl, fz _, fo _, fun w => by omega⟩
            · rw [if_pos (show (0 : Int32) ≤ nI k3 from Int32.not_lt.mp (nI_pos (by omega)))]
              exact ⟨0, k3, _, Or.inr ⟨ka, Or.inr ⟨w, Or.inr ⟨q, Or.inl ⟨rfl, q1, q2, Pm_1.mp q3, fun j j1 j2 y => q4 j j1 j2 (Pm_1.mpr y)⟩⟩⟩⟩, rfl, fz _, fo _, fun _ => zp_at _ _ _ _⟩
      · rw [if_pos ((isB_0 h3).mpr q)]
        exact ⟨3, 0, M, Or.inr ⟨ka, Or.inr ⟨w, Or.inl ⟨q, rfl⟩⟩⟩, rfl, fr_rf _ _ _, fun _ _ => rfl, fun w => by omega⟩
    · rw [if_neg (show ¬ nI e < 24 from fun z => by rw [show (24 : Int32) = nI 24 from rfl, nI_lt_iff (by omega) (by omega)] at z; omega)]
      exact ⟨2, 0, M, Or.inr ⟨ka, Or.inl ⟨by omega, rfl⟩⟩, rfl, fr_rf _ _ _, fun _ _ => rfl, fun w => by omega⟩
  unfold n_X12_whyNot_0_b36 n_X12_whyNot_0_b54
  cases g with
  | none =>
    rw [if_neg (show ¬ (0 : Int32) ≤ oN none by decide)]
    rcases ho1 with ⟨k1, rfl, p1⟩ | ⟨k1, rfl⟩
    · rw [if_neg (nI_pos (by omega)), zld_nI _ _ _ he (by omega), h19, if_pos (show oN none < 0 by decide)]
      exact b56 ⟨k1, fun x w => absurd w (by simp)⟩ p1 (fun o w => absurd w (by simp))
    · rw [if_pos (by decide)]
      exact one fun w => k1 w.1
  | some x =>
    have hx := hg x rfl
    obtain ⟨o2, ho2, eo2⟩ := m_codeNo (F := F) hM he hx hs
    rw [if_pos (show (0 : Int32) ≤ oN (some x) from Int32.not_lt.mp (nI_pos (by omega))), zld_nI _ _ _ he (by omega), h19, show oN (some x) = nI x from rfl, eo2, zcS]
    rcases ho1 with ⟨k1, rfl, p1⟩ | ⟨k1, rfl⟩
    · rw [if_neg (nI_pos (by omega)), zld_nI _ _ _ he (by omega), h19, show oN (some x) = nI x from rfl, if_neg (nI_pos (by omega))]
      rcases ho2 with ⟨k2, rfl, p2⟩ | ⟨k2, rfl⟩
      · rw [if_pos (show (0 : Int32) ≤ nI (cv cd sc x) from Int32.not_lt.mp (nI_pos (by omega)))]
        exact b56 ⟨k1, fun y w => by rw [← Option.some.inj w]; exact k2⟩ p1 (fun o w => by rw [← Option.some.inj w]; exact p2)
      · rw [if_neg (by decide)]
        exact one fun w => k2 (w.2 x rfl)
    · rw [if_pos (by decide)]
      exact one fun w => k1 w.1
