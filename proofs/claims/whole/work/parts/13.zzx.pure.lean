/-! proofs: the last step -/
/-- a last step of a shortest proof -/
def Lx (al lv : Int32) (T : Nat → Prop) (c k a : Nat) (og : Option Nat) : Prop := Ru al lv k a og c ∧ a < 2304 ∧ match og with
  | none => ∃ m, Ls al lv T a m ∧ Ls al lv T c (m + 1)
  | some d => d < 2304 ∧ ∃ s t, Ls al lv T a s ∧ Ls al lv T d t ∧ Ls al lv T c (s + t + 1)
/-- the one that is told -/
def Pick (al lv : Int32) (T : Nat → Prop) (c k a : Nat) (og : Option Nat) : Prop := Lx al lv T c k a og ∧ ∀ k' a' og', Lx al lv T c k' a' og' → k < k' ∨ (k = k' ∧ a ≤ a')
theorem Pick_u {al lv : Int32} {T : Nat → Prop} {c k a k' a' : Nat} {og og' : Option Nat} (hc : c < 2304) (h : Pick al lv T c k a og) (g : Pick al lv T c k' a' og') : k = k' ∧ a = a' ∧ og = og' := by
  have h1 := h.2 _ _ _ g.1
  have h2 := g.2 _ _ _ h.1
  have e1 : k = k' := by omega
  have e2 : a = a' := by omega
  subst e1
  subst e2
  exact ⟨rfl, rfl, Ru_u hc h.1.1 g.1.1⟩
theorem Ru_k {al lv : Int32} {k a c : Nat} {og : Option Nat} (h : Ru al lv k a og c) : k < 22 := by
  obtain ⟨-, -, h⟩ := h
  cases og with
  | none => exact h.2.1
  | some d => have := h.1; omega
/-- by costs -/
def Cx (al lv : Int32) (st : Nat → Nat) (c k a : Nat) (og : Option Nat) : Prop := Ru al lv k a og c ∧ a < 2304 ∧ match og with
  | none => st a + 1 = st c
  | some d => d < 2304 ∧ st a + st d + 1 = st c
theorem Cx_Lx {al lv : Int32} {T : Nat → Prop} {st : Nat → Nat} {B : Nat} (h1 : ∀ c, c < 2304 → st c < B → Ls al lv T c (st c)) (h2 : ∀ c n, Cost al lv T c n → st c < B) {c : Nat} (hc : c < 2304) (hB : st c < B) {k a : Nat} {og : Option Nat} : Cx al lv st c k a og ↔ Lx al lv T c k a og := by
  unfold Cx Lx
  refine and_congr_right fun _ => and_congr_right fun ha => ?_
  cases og with
  | none =>
    constructor
    · intro e
      have e : st a + 1 = st c := e
      exact ⟨st a, h1 a ha (by omega), by rw [e]; exact h1 c hc hB⟩
    · rintro ⟨m, m1, m2⟩
      have := Ls_eq m1 (h1 a ha (h2 a m m1.1))
      have := Ls_eq m2 (h1 c hc hB)
      show st a + 1 = st c
      omega
  | some d =>
    refine and_congr_right fun hd => ?_
    constructor
    · intro e
      exact ⟨st a, st d, h1 a ha (by omega), h1 d hd (by omega), by rw [e]; exact h1 c hc hB⟩
    · rintro ⟨s, t, m1, m2, m3⟩
      have := Ls_eq m1 (h1 a ha (h2 a s m1.1))
      have := Ls_eq m2 (h1 d hd (h2 d t m2.1))
      have := Ls_eq m3 (h1 c hc hB)
      omega
theorem x_findPair {F : Nat} (hF : 2 ^ 40 < F) {S : Zs} {st : Nat → Nat} (hst : ∀ b, b < 2304 → S.1 36 b = nI (st b) ∧ st b ≤ 268435456) {c k : Nat} (hc : c < 2304) (hk : k < 19) (hal : hb (S.1 0 711) k = true) : ∃ S2, n_X5_findPair_35 F S (nI k) (nI c) = some (0, S2) ∧ fr [] [712, 713, 714] S S2 ∧ ((S2 = S ∧ ∀ a og, ¬ Cx (S.1 0 711) (S.1 0 710) st c k a og) ∨ ∃ a og, S2.1 0 712 = nI k ∧ S2.1 0 713 = nI a ∧ S2.1 0 714 = oN og ∧ Cx (S.1 0 711) (S.1 0 710) st c k a og ∧ ∀ a' og', Cx (S.1 0 711) (S.1 0 710) st c k a' og' → a ≤ a') := by
  have ch : ∀ a og, Cx (S.1 0 711) (S.1 0 710) st c k a og ↔ fm c = gC k ∧ ∃ m, m < 24 ∧ a = pA k (pd c) m ∧ og = some (pB k (sj c) m) ∧ alB k a (S.1 0 710) = true ∧ st (pA k (pd c) m) + st (pB k (sj c) m) + 1 = st c := by
    intro a og
    constructor
    · rintro ⟨h1, h2, h3⟩
      cases og with
      | none => have := h1.2.2.1; omega
      | some d =>
        obtain ⟨q, m, m1, m2, m3⟩ := (cn_pair hk hc).mp h1.2.2.2
        exact ⟨q, m, m1, m2, by rw [m3], h1.2.1, by rw [← m2, ← m3]; exact h3.2⟩
    · rintro ⟨q, m, m1, m2, m3, m4, m5⟩
      rw [m3]
      refine ⟨⟨hal, m4, hk, (cn_pair hk hc).mpr ⟨q, m, m1, m2, rfl⟩⟩, by rw [m2]; exact pA_lt hk (pd_lt c) m1, pB_lt hk (sj_lt c) m1, by rw [m2]; exact m5⟩
  unfold n_X5_findPair_35 n_X5_findPair_35_e
  rw [n_frm F S hc, zcS, zlt_nI _ _ hk (by omega), xt54 k hk]
  have hCk := gC_b k hk
  have hfl := fm_lt hc
  by_cases g : fm c = gC k
  · rw [if_pos (by rw [g]), zlt_nI _ _ hk (by omega), xt51 k hk]
    obtain ⟨q, hq, e⟩ := zfix_for (f := fun (rc : (Zs × Int32 × Int32 × Int32 × Int32) → Option (Int32 × Zs)) (u : (Zs × Int32 × Int32 × Int32 × Int32)) => n_X5_findPair_35_b22_l F  (fun S x1 x2 x3 x4 => rc (S, x1, x2, x3, x4)) u.1 u.2.1 u.2.2.1 u.2.2.2.1 u.2.2.2.2) 24 (fun i u => u = (S, nI k, nI c, nI (gF k), nI i) ∧ ∀ m, m < i → ¬ (alB k (pA k (pd c) m) (S.1 0 710) = true ∧ st (pA k (pd c) m) + st (pB k (sj c) m) + 1 = st c)) (fun S2 : Zs => fr [] [712, 713, 714] S S2 ∧ ((S2 = S ∧ ∀ a og, ¬ Cx (S.1 0 711) (S.1 0 710) st c k a og) ∨ ∃ a og, S2.1 0 712 = nI k ∧ S2.1 0 713 = nI a ∧ S2.1 0 714 = oN og ∧ Cx (S.1 0 711) (S.1 0 710) st c k a og ∧ ∀ a' og', Cx (S.1 0 711) (S.1 0 710) st c k a' og' → a ≤ a')) (fun S2 => some (0, S2)) (by
      rintro i _ hi ⟨rfl, f1⟩
      have hA := pA_lt (k := k) hk (pd_lt c) hi
      have hBb := pB_lt (k := k) hk (sj_lt c) hi
      obtain ⟨s1, s2⟩ := hst _ hA
      obtain ⟨s3, s4⟩ := hst _ hBb
      obtain ⟨s5, s6⟩ := hst c hc
      have pre : ∀ rc : (Zs × Int32 × Int32 × Int32 × Int32) → Option (Int32 × Zs), n_X5_findPair_35_b22_l F (fun S x1 x2 x3 x4 => rc (S, x1, x2, x3, x4)) S (nI k) (nI c) (nI (gF k)) (nI i) = if st (pA k (pd c) i) + st (pB k (sj c) i) + 1 = st c then (if alB k (pA k (pd c) i) (S.1 0 710) = true then some (0, zp (zp (zp S 0 712 (nI k)) 0 713 (nI (pA k (pd c) i))) 0 714 (nI (pB k (sj c) i))) else rc (S, nI k, nI c, nI (gF k), nI (i + 1))) else rc (S, nI k, nI c, nI (gF k), nI (i + 1)) := by
        intro rc
        unfold n_X5_findPair_35_b22_l n_X5_findPair_35_b120
        rw [if_neg (show ¬ (24 : Int32) ≤ nI i from nI_ge (b := 24) hi (by omega)), zlt_nI _ _ hk (by omega), xt52 k hk, n_pred F S hc, zcS, x_firstP S hk, zcS, zlt_nI _ _ hk (by omega), xt53 k hk, n_subj F S hc, zcS, x_secondP S hk, zcS, zld_nI _ _ _ hA (by omega), zld_nI _ _ _ hBb (by omega), zld_nI _ _ _ hc (by omega), s1, s3, s5, nI_add, nI_1]
        by_cases w : st (pA k (pd c) i) + st (pB k (sj c) i) + 1 = st c
        · rw [if_pos w, if_pos (by rw [w]), zgS, x_alive S _ (by omega) hA, zcS]
          by_cases w2 : alB k (pA k (pd c) i) (S.1 0 710) = true
          · rw [if_pos w2, bI_t w2, if_neg (by decide), zpS, zpS, zpS]
          · rw [if_neg w2, bI_f w2, if_pos rfl, zlS, nI_1]
        · rw [if_neg w, if_neg (fun z => w ((nI_eq (by omega) (by omega)).mp z)), zlS, nI_1]
      by_cases w : alB k (pA k (pd c) i) (S.1 0 710) = true ∧ st (pA k (pd c) i) + st (pB k (sj c) i) + 1 = st c
      · refine Or.inl ⟨zp (zp (zp S 0 712 (nI k)) 0 713 (nI (pA k (pd c) i))) 0 714 (nI (pB k (sj c) i)), ⟨fr_t (fr_p _ (by decide)) (fr_t (fr_p _ (by decide)) (fr_p _ (by decide))), Or.inr ⟨pA k (pd c) i, some (pB k (sj c) i), ?_, ?_, ?_, (ch _ _).mpr ⟨g, i, hi, rfl, rfl, w.1, w.2⟩, fun a' og' ha' => ?_⟩⟩, fun rc => (pre rc).trans (by rw [if_pos w.2, if_pos w.1])⟩
        · rw [zp_off _ _ (Or.inr (by decide)), zp_off _ _ (Or.inr (by decide)), zp_at]
        · rw [zp_off _ _ (Or.inr (by decide)), zp_at]
        · rw [zp_at]; rfl
        · obtain ⟨-, m, m1, m2, m3, m4, m5⟩ := (ch a' og').mp ha'
          rw [m2] at m4 ⊢
          rcases Nat.lt_trichotomy m i with z | z | z
          · exact absurd ⟨m4, m5⟩ (f1 m z)
          · rw [z]; exact Nat.le_refl _
          · exact Nat.le_of_lt (pA_mono z)
      · refine Or.inr ⟨_, ⟨rfl, fun m hm => ?_⟩, fun rc => (pre rc).trans ?_⟩
        · by_cases em : m = i
          · rw [em]; exact w
          · exact f1 m (by omega)
        · by_cases w2 : st (pA k (pd c) i) + st (pB k (sj c) i) + 1 = st c
          · rw [if_pos w2, if_neg (fun z => w ⟨z, w2⟩)]
          · rw [if_neg w2]) (by
      rintro _ ⟨rfl, f1⟩
      refine ⟨S, ⟨fr_rf _ _ _, Or.inl ⟨rfl, fun a og ha => ?_⟩⟩, fun rc => ?_⟩
      · obtain ⟨-, m, m1, m2, m3, m4, m5⟩ := (ch a og).mp ha
        rw [m2] at m4
        exact f1 m m1 ⟨m4, m5⟩
      · show n_X5_findPair_35_b22_l F (fun S x1 x2 x3 x4 => rc (S, x1, x2, x3, x4)) S (nI k) (nI c) (nI (gF k)) (nI 24) = _
        unfold n_X5_findPair_35_b22_l
        rw [if_pos (show (24 : Int32) ≤ nI 24 by decide)]) F (S, nI k, nI c, nI (gF k), 0) ⟨rfl, fun m hm => by omega⟩ (by omega)
    exact ⟨q, e, hq⟩
  · rw [if_neg (fun z => g ((nI_eq (by omega) (by omega)).mp z))]
    exact ⟨S, rfl, fr_rf _ _ _, Or.inl ⟨rfl, fun a og ha => g ((ch a og).mp ha).1⟩⟩
theorem x_singleP {F : Nat} (S : Zs) {k c : Nat} (hk : 19 ≤ k) (hk2 : k < 22) (hc : c < 2304) : n_X4_singlePremise F S (nI k) (nI c) = some (oX (sP k c), S) := by
  have h1 := fm_lt hc
  unfold n_X4_singlePremise n_X4_singlePremise_e n_X4_singlePremise_b35
  rw [n_frm F S hc, zcS]
  by_cases g : k = 21
  · rw [g, if_pos (by decide)]
    have e21 : sP 21 c = if fm c < 2 then none else some (576 * (fm c - 2) + 24 * sj c + pd c) := rfl
    rw [e21]
    by_cases w : fm c < 2
    · rw [if_pos w, if_pos (show nI (fm c) < 2 from nI_lt (b := 2) w (by omega))]; rfl
    · rw [if_neg w, if_neg (fun z => by rw [show (2 : Int32) = nI 2 from rfl, nI_lt_iff (by omega) (by omega)] at z; omega), n_subj F S hc, zcS, n_pred F S hc, zcS, show nI (fm c) - 2 = nI (fm c - 2) from pk_sub (b := 2) (by omega), n_mk, zcS]
      rfl
  · rw [if_neg (show ¬ nI k = (21 : Int32) from fun z => g ((nI_eq (b := 21) (by omega) (by omega)).mp z)), x_single S hk hk2 hc 0, zcS]
    unfold cn sP
    rw [if_neg (by omega)]
    by_cases g19 : k = 19
    · rw [if_pos g19, if_pos g19]
    · rw [if_neg g19, if_neg g19, if_pos (by omega), if_pos (by omega)]
theorem x_findSingle {F : Nat} {S : Zs} {st : Nat → Nat} (hst : ∀ b, b < 2304 → S.1 36 b = nI (st b) ∧ st b ≤ 268435456) {c k : Nat} (hc : c < 2304) (hk : 19 ≤ k) (hk2 : k < 22) (hal : hb (S.1 0 711) k = true) (h14 : S.1 0 714 = -1) : ∃ S2, n_X5_findSingle_35 F S (nI k) (nI c) = some (0, S2) ∧ fr [] [712, 713, 714] S S2 ∧ ((S2 = S ∧ ∀ a og, ¬ Cx (S.1 0 711) (S.1 0 710) st c k a og) ∨ ∃ a og, S2.1 0 712 = nI k ∧ S2.1 0 713 = nI a ∧ S2.1 0 714 = oN og ∧ Cx (S.1 0 711) (S.1 0 710) st c k a og ∧ ∀ a' og', Cx (S.1 0 711) (S.1 0 710) st c k a' og' → a ≤ a') := by
  have ch : ∀ a og, Cx (S.1 0 711) (S.1 0 710) st c k a og ↔ sP k c = some a ∧ og = none ∧ alB k a (S.1 0 710) = true ∧ st a + 1 = st c := by
    intro a og
    constructor
    · rintro ⟨h1, h2, h3⟩
      cases og with
      | none => exact ⟨(cn_single hk hk2 h2 hc).mp h1.2.2.2.2, rfl, h1.2.1, h3⟩
      | some d => have := h1.2.2.1; omega
    · rintro ⟨h1, rfl, h2, h3⟩
      have ha := sP_lt hc h1
      exact ⟨⟨hal, h2, hk, hk2, (cn_single hk hk2 ha hc).mpr h1⟩, ha, h3⟩
  unfold n_X5_findSingle_35 n_X5_findSingle_35_e n_X5_findSingle_35_b49
  rw [x_singleP S hk hk2 hc, zcS]
  cases e : sP k c with
  | none =>
    rw [if_pos (by decide)]
    exact ⟨S, rfl, fr_rf _ _ _, Or.inl ⟨rfl, fun a og ha => by rw [ch, e] at ha; exact absurd ha.1 (by simp)⟩⟩
  | some a =>
    have ha := sP_lt hc e
    obtain ⟨s1, s2⟩ := hst a ha
    obtain ⟨s5, s6⟩ := hst c hc
    rw [show oX (some a) = nI a from rfl, if_neg (nI_pos (by omega)), zld_nI _ _ _ ha (by omega), zld_nI _ _ _ hc (by omega), s1, s5, nI_1]
    by_cases w : st a + 1 = st c
    · rw [if_pos (by rw [w]), zgS, x_alive S _ hk2 ha, zcS]
      by_cases w2 : alB k a (S.1 0 710) = true
      · rw [bI_t w2, if_neg (by decide), zpS, zpS]
        refine ⟨_, rfl, fr_t (fr_p _ (by decide)) (fr_p _ (by decide)), Or.inr ⟨a, none, ?_, ?_, ?_, (ch _ _).mpr ⟨e, rfl, w2, w⟩, fun a' og' ha' => ?_⟩⟩
        · rw [zp_off _ _ (Or.inr (by decide)), zp_at]
        · rw [zp_at]
        · rw [zp_off _ _ (Or.inr (by decide)), zp_off _ _ (Or.inr (by decide)), h14]; rfl
        · rw [ch, e] at ha'
          rw [Option.some.inj ha'.1]; exact Nat.le_refl _
      · rw [bI_f w2, if_pos rfl]
        exact ⟨S, rfl, fr_rf _ _ _, Or.inl ⟨rfl, fun a' og ha' => by
          rw [ch, e] at ha'
          rw [← Option.some.inj ha'.1] at ha'
          exact w2 ha'.2.2.1⟩⟩
    · rw [if_neg (fun z => w ((nI_eq (by omega) (by omega)).mp z))]
      exact ⟨S, rfl, fr_rf _ _ _, Or.inl ⟨rfl, fun a' og ha' => by
        rw [ch, e] at ha'
        rw [← Option.some.inj ha'.1] at ha'
        exact w ha'.2.2.2⟩⟩
/-- the class's last step -/
theorem x_findLast {F : Nat} (hF : 2 ^ 40 < F) {S : Zs} {st : Nat → Nat} (hst : ∀ b, b < 2304 → S.1 36 b = nI (st b) ∧ st b ≤ 268435456) {c : Nat} (hc : c < 2304) : ∃ S2, n_X5_findLast_35 F S (nI c) = some (0, S2) ∧ fr [] [712, 713, 714] S S2 ∧ ((S2.1 0 712 = -1 ∧ S2.1 0 713 = -1 ∧ S2.1 0 714 = -1 ∧ (0 < st c → ∀ k a og, ¬ Cx (S.1 0 711) (S.1 0 710) st c k a og)) ∨ ∃ k a og, S2.1 0 712 = nI k ∧ S2.1 0 713 = nI a ∧ S2.1 0 714 = oN og ∧ 0 < st c ∧ Cx (S.1 0 711) (S.1 0 710) st c k a og ∧ ∀ k' a' og', Cx (S.1 0 711) (S.1 0 710) st c k' a' og' → k < k' ∨ (k = k' ∧ a ≤ a')) := by
  obtain ⟨s5, s6⟩ := hst c hc
  let S0 := zp (zp (zp S 0 712 (-1)) 0 713 (-1)) 0 714 (-1)
  have f0' : fr [] [712, 713, 714] S S0 := fr_t (fr_p _ (by decide)) (fr_t (fr_p _ (by decide)) (fr_p _ (by decide)))
  obtain ⟨q, hq, e⟩ := zfix_for (f := fun (rc : (Zs × Int32 × Int32) → Option (Int32 × Zs)) (u : (Zs × Int32 × Int32)) => n_X5_findLast_35_b17_l F  (fun S x1 x2 => rc (S, x1, x2)) u.1 u.2.1 u.2.2) 22 (fun i u => ∃ X, u = (X, nI c, nI i) ∧ fr [] [712, 713, 714] S X ∧ ((X.1 0 712 = -1 ∧ X.1 0 713 = -1 ∧ X.1 0 714 = -1 ∧ (0 < st c → ∀ k a og, k < i → ¬ Cx (S.1 0 711) (S.1 0 710) st c k a og)) ∨ ∃ k a og, X.1 0 712 = nI k ∧ X.1 0 713 = nI a ∧ X.1 0 714 = oN og ∧ 0 < st c ∧ Cx (S.1 0 711) (S.1 0 710) st c k a og ∧ ∀ k' a' og', Cx (S.1 0 711) (S.1 0 710) st c k' a' og' → k < k' ∨ (k = k' ∧ a ≤ a'))) (fun S2 : Zs => fr [] [712, 713, 714] S S2 ∧ ((S2.1 0 712 = -1 ∧ S2.1 0 713 = -1 ∧ S2.1 0 714 = -1 ∧ (0 < st c → ∀ k a og, ¬ Cx (S.1 0 711) (S.1 0 710) st c k a og)) ∨ ∃ k a og, S2.1 0 712 = nI k ∧ S2.1 0 713 = nI a ∧ S2.1 0 714 = oN og ∧ 0 < st c ∧ Cx (S.1 0 711) (S.1 0 710) st c k a og ∧ ∀ k' a' og', Cx (S.1 0 711) (S.1 0 710) st c k' a' og' → k < k' ∨ (k = k' ∧ a ≤ a'))) (fun S2 => some (0, S2)) (by
    rintro i _ hi ⟨X, rfl, f1, f2⟩
    have e36 : X.1 36 = S.1 36 := f1.2.1 36 (by decide) (by decide)
    have e711 : X.1 0 711 = S.1 0 711 := f1.1 711 (by decide)
    have e710 : X.1 0 710 = S.1 0 710 := f1.1 710 (by decide)
    have pre : ∀ rc : (Zs × Int32 × Int32) → Option (Int32 × Zs), n_X5_findLast_35_b17_l F (fun S x1 x2 => rc (S, x1, x2)) X (nI c) (nI i) = if nI (st c) ≤ 0 then some (0, X) else (if X.1 0 712 = (-1 : Int32) then (if hb (S.1 0 711) i = true then (if (19 : Int32) ≤ nI i then (zcl (n_X5_findSingle_35 F X (nI i) (nI c)) (fun _ S5 => rc (S5, nI c, nI (i + 1)))) else (zcl (n_X5_findPair_35 F X (nI i) (nI c)) (fun _ S7 => rc (S7, nI c, nI (i + 1))))) else rc (X, nI c, nI (i + 1))) else some (0, X)) := by
      intro rc
      unfold n_X5_findLast_35_b17_l n_X5_findLast_35_b75 n_X5_findLast_35_b69
      rw [if_neg (show ¬ (22 : Int32) ≤ nI i from nI_ge (b := 22) hi (by omega)), zld_nI _ _ _ hc (by omega), e36, s5, zgS, x_allowedP X (by omega), zcS, e711]
      simp only [zlS, nI_1]
      by_cases w : nI (st c) ≤ 0
      · rw [if_pos w, if_pos w]
      · rw [if_neg w, if_neg w]
        by_cases w2 : X.1 0 712 = -1
        · rw [if_pos w2, if_pos w2]
          by_cases w3 : hb (S.1 0 711) i = true
          · rw [bI_t w3, if_neg (by decide), if_pos w3]
          · rw [bI_f w3, if_pos rfl, if_neg w3]
        · rw [if_neg w2, if_neg w2]
    by_cases z0 : st c = 0
    · refine Or.inl ⟨X, ⟨f1, ?_⟩, fun rc => (pre rc).trans (by rw [z0, if_pos (by decide)])⟩
      rcases f2 with ⟨a1, a2, a3, -⟩ | ⟨k, a, og, a1, a2, a3, a4, -⟩
      · exact Or.inl ⟨a1, a2, a3, fun z => by omega⟩
      · omega
    · have zn : ¬ nI (st c) ≤ 0 := fun z => by rw [show (0 : Int32) = nI 0 from rfl, nI_le_iff (by omega) (by omega)] at z; omega
      rcases f2 with ⟨a1, a2, a3, a4⟩ | ⟨k, a, og, a1, a2, a3, a4, a5, a6⟩
      · by_cases w3 : hb (S.1 0 711) i = true
        · have call : ∃ S2, (∀ rc : (Zs × Int32 × Int32) → Option (Int32 × Zs), n_X5_findLast_35_b17_l F (fun S x1 x2 => rc (S, x1, x2)) X (nI c) (nI i) = rc (S2, nI c, nI (i + 1))) ∧ fr [] [712, 713, 714] X S2 ∧ ((S2 = X ∧ ∀ a og, ¬ Cx (S.1 0 711) (S.1 0 710) st c i a og) ∨ ∃ a og, S2.1 0 712 = nI i ∧ S2.1 0 713 = nI a ∧ S2.1 0 714 = oN og ∧ Cx (S.1 0 711) (S.1 0 710) st c i a og ∧ ∀ a' og', Cx (S.1 0 711) (S.1 0 710) st c i a' og' → a ≤ a') := by
            by_cases w4 : 19 ≤ i
            · obtain ⟨S2, y1, y2, y3⟩ := x_findSingle (F := F) (S := X) (st := st) (by rw [e36]; exact hst) hc w4 hi (by rw [e711]; exact w3) a3
              rw [e711, e710] at y3
              exact ⟨S2, fun rc => (pre rc).trans (by rw [if_neg zn, if_pos a1, if_pos w3, if_pos (show (19 : Int32) ≤ nI i from nI_le (a := 19) w4 (by omega)), y1, zcS]), y2, y3⟩
            · obtain ⟨S2, y1, y2, y3⟩ := x_findPair hF (S := X) (st := st) (by rw [e36]; exact hst) hc (show i < 19 by omega) (by rw [e711]; exact w3)
              rw [e711, e710] at y3
              exact ⟨S2, fun rc => (pre rc).trans (by rw [if_neg zn, if_pos a1, if_pos w3, if_neg (show ¬ (19 : Int32) ≤ nI i from nI_ge (b := 19) (by omega) (by omega)), y1, zcS]), y2, y3⟩
          obtain ⟨S2, y1, y2, y3⟩ := call
          refine Or.inr ⟨(S2, nI c, nI (i + 1)), ⟨S2, rfl, fr_t f1 y2, ?_⟩, y1⟩
          rcases y3 with ⟨rfl, y3⟩ | ⟨a, og, y3, y4, y5, y6, y7⟩
          · refine Or.inl ⟨a1, a2, a3, fun z k a og hk => ?_⟩
            by_cases ek : k = i
            · rw [ek]; exact y3 a og
            · exact a4 z k a og (by omega)
          · refine Or.inr ⟨i, a, og, y3, y4, y5, by omega, y6, fun k' a' og' h' => ?_⟩
            rcases Nat.lt_trichotomy i k' with z | z | z
            · exact Or.inl z
            · rw [← z] at h'; exact Or.inr ⟨z, y7 a' og' h'⟩
            · exact absurd h' (a4 (by omega) k' a' og' z)
        · refine Or.inr ⟨(X, nI c, nI (i + 1)), ⟨X, rfl, f1, Or.inl ⟨a1, a2, a3, fun z k a og hk => ?_⟩⟩, fun rc => (pre rc).trans (by rw [if_neg zn, if_pos a1, if_neg w3])⟩
          by_cases ek : k = i
          · rw [ek]; exact fun y => w3 y.1.1
          · exact a4 z k a og (by omega)
      · have hk22 := Ru_k a5.1
        exact Or.inl ⟨X, ⟨f1, Or.inr ⟨k, a, og, a1, a2, a3, a4, a5, a6⟩⟩, fun rc => (pre rc).trans (by rw [if_neg zn, if_neg (by rw [a1]; exact nI_ne_m1 (by omega))])⟩) (by
    rintro _ ⟨X, rfl, f1, f2⟩
    refine ⟨X, ⟨f1, ?_⟩, fun rc => ?_⟩
    · rcases f2 with ⟨a1, a2, a3, a4⟩ | f2
      · exact Or.inl ⟨a1, a2, a3, fun z k a og y => a4 z k a og (Ru_k y.1) y⟩
      · exact Or.inr f2
    · show n_X5_findLast_35_b17_l F (fun S x1 x2 => rc (S, x1, x2)) X (nI c) (nI 22) = _
      unfold n_X5_findLast_35_b17_l n_X5_findLast_35_b75
      rw [if_pos (show (22 : Int32) ≤ nI 22 by decide)]) F (S0, nI c, 0) ⟨S0, rfl, f0', Or.inl ⟨rfl, rfl, rfl, fun _ k a og hk => by omega⟩⟩ (by omega)
  refine ⟨q, ?_, hq⟩
  unfold n_X5_findLast_35 n_X5_findLast_35_e
  rw [zpS, zpS, zpS]
  exact e
/-- both pick the same -/
theorem x_last {F : Nat} (hF : 2 ^ 40 < F) {S : Zs} {al lv : Int32} {T : Nat → Prop} {st : Nat → Nat} {l : List Nat} (h : Pk al lv T S st l) (ea : S.1 0 711 = al) (el : S.1 0 710 = lv) {c : Nat} (hc : c < 2304) (hB : st c < 268435456) : ∃ S2, n_X5_findLast_35 F S (nI c) = some (0, S2) ∧ fr [] [712, 713, 714] S S2 ∧ ((st c = 0 ∧ S2.1 0 712 = -1 ∧ S2.1 0 713 = -1 ∧ S2.1 0 714 = -1) ∨ ∃ k a og, 0 < st c ∧ S2.1 0 712 = nI k ∧ S2.1 0 713 = nI a ∧ S2.1 0 714 = oN og ∧ Pick al lv T c k a og) := by
  obtain ⟨S2, e, f, g⟩ := x_findLast hF (S := S) (st := st) h.1.1 hc
  rw [ea, el] at g
  have cx := fun {k a og} => Cx_Lx (al := al) (lv := lv) (T := T) (st := st) (B := 268435456) (fun c hc hB => (h.2.2.2.2.1 c hc hB).2) h.2.2.2.2.2 hc hB (k := k) (a := a) (og := og)
  refine ⟨S2, e, f, ?_⟩
  rcases g with ⟨g1, g2, g3, g4⟩ | ⟨k, a, og, g1, g2, g3, g4, g5, g6⟩
  · by_cases z : st c = 0
    · exact Or.inl ⟨z, g1, g2, g3⟩
    · exfalso
      have hl := (h.2.2.2.2.1 c hc hB).2
      have z2 : st c = st c - 1 + 1 := by omega
      rw [z2] at hl
      rcases Ls_inv hl with ⟨a, ⟨ha, k, r⟩, l1⟩ | ⟨a, d, s, t, ⟨ha, hd, k, r⟩, l1, l2, e⟩
      · exact g4 (by omega) k a none (cx.mpr ⟨r, ha, _, l1, hl⟩)
      · exact g4 (by omega) k a (some d) (cx.mpr ⟨r, ha, hd, s, t, l1, l2, by rw [← e]; exact hl⟩)
  · exact Or.inr ⟨k, a, og, g4, g1, g2, g3, cx.mp g5, fun k' a' og' h' => g6 k' a' og' (cx.mpr h')⟩
/-- the reference's steps are least -/
def Mk (al lv : Int32) (T : Nat → Prop) (S : Zs) (st : Nat → Nat) : Prop := StpM S st ∧ (∀ c n, Cost al lv T c n → st c < 1000000) ∧ ∀ c, c < 2304 → st c < 1000000 → Ls al lv T c (st c)
theorem m_last {F : Nat} (hF : 2 ^ 40 < F) {S : Zs} {al lv : Int32} {T : Nat → Prop} {st : Nat → Nat} (h : Mk al lv T S st) (ea : S.1 0 11 = al) (el : S.1 0 8 = lv) {c : Nat} (hc : c < 2304) (h0 : 0 < st c) (hB : st c < 1000000) : ∃ S2 k a og, n_X12_looks_0 F S (nI c) = some (0, S2) ∧ fr [] [29, 30, 31, 32] S S2 ∧ S2.1 0 30 = nI k ∧ S2.1 0 31 = nI a ∧ S2.1 0 32 = oN og ∧ Pick al lv T c k a og := by
  obtain ⟨h1, h2, h3⟩ := h
  obtain ⟨S2, e, f, g⟩ := m_looks hF hc h1
  rw [ea, el] at g
  have cx := fun {k a og} => Cx_Lx (al := al) (lv := lv) (T := T) (st := st) (B := 1000000) h3 h2 hc hB (k := k) (a := a) (og := og)
  have hl := h3 c hc hB
  -- candidates cost no less
  have cd_ge : ∀ k a og v, Cd al lv st c k a og v → st c ≤ v := fun k a og v w => Ls_le hl (Cd_cost (T := T) (fun c hc hb' => (h3 c hc hb').1) w)
  have cd_cx : ∀ k a og, Cd al lv st c k a og (st c) ↔ Cx al lv st c k a og := by
    intro k a og
    unfold Cd Cx
    refine and_congr_right fun r => and_congr_right fun ha => ?_
    cases og with
    | none => exact ⟨fun z => by have := z.2.2; omega, fun z => ⟨by omega, by omega, by omega⟩⟩
    | some d => exact ⟨fun z => ⟨z.2.2.1, by have := z.2.2.2.2; omega⟩, fun z => ⟨by omega, by omega, z.1, by omega, by omega⟩⟩
  have ex : ∃ k a og, Cd al lv st c k a og (st c) := by
    have z2 : st c = st c - 1 + 1 := by omega
    have hl2 := hl
    rw [z2] at hl2
    rcases Ls_inv hl2 with ⟨a, ⟨ha, k, r⟩, l1⟩ | ⟨a, d, s, t, ⟨ha, hd, k, r⟩, l1, l2, e⟩
    · exact ⟨k, a, none, (cd_cx _ _ _).mpr (cx.mpr ⟨r, ha, _, l1, hl2⟩)⟩
    · exact ⟨k, a, some d, (cd_cx _ _ _).mpr (cx.mpr ⟨r, ha, hd, s, t, l1, l2, by rw [← e]; exact hl2⟩)⟩
  obtain ⟨k0, a0, og0, w0⟩ := ex
  rcases g with ⟨-, -, g⟩ | ⟨k, a, og, v, g1, g2, g3, g4, g5, -, g6⟩
  · exact absurd w0 (g k0 a0 og0 _ trivial)
  · have hv : v = st c := by
      have := (g6 k0 a0 og0 _ trivial w0).1
      have := cd_ge _ _ _ _ g5
      omega
    rw [hv] at g5 g6
    refine ⟨S2, k, a, og, e, f, g2, g3, g4, cx.mp ((cd_cx _ _ _).mp g5), fun k' a' og' h' => ?_⟩
    exact (g6 k' a' og' (st c) trivial ((cd_cx _ _ _).mpr (cx.mpr h'))).2 rfl
theorem m_provesM {F : Nat} (hF : 2 ^ 40 < F) {M : Zs} {n : Nat} {cd : Nat → Nat} (hM : MC M n cd) : ∃ M2 st, n_X12_provesAll_0 F M = some (0, M2) ∧ fr [14] [29, 30, 31, 32] M M2 ∧ Mk (M.1 0 11) (M.1 0 8) (Tld n (M.1 0 7) cd) M2 st := by
  obtain ⟨M2, st, e, f, h1, h2, h3⟩ := m_provesAll hF hM
  refine ⟨M2, st, e, f, h1, fun c v g => ?_, h3⟩
  obtain ⟨m, m1, -, m3⟩ := Cost_bnd (fun c ⟨i, i1, _, i3⟩ => by rw [← i3]; exact (hM.2.2 i i1).2) g
  have := h2 c m m3.1 m1
  omega
/-- the costs of both -/
theorem st_both {al lv : Int32} {T : Nat → Prop} {X M : Zs} {sx sm : Nat → Nat} {l : List Nat} (h : Pk al lv T X sx l) (g : Mk al lv T M sm) {c : Nat} (hc : c < 2304) : (sx c = sm c ∧ sm c < 1000000 ∧ c ∈ l) ∨ (sx c = 268435456 ∧ sm c = 1000000 ∧ c ∉ l) := by
  have b1 := (h.1.1 c hc).2
  have b2 := (g.1 c hc).2
  by_cases w : sm c < 1000000
  · have l1 := g.2.2 c hc w
    have w2 := h.2.2.2.2.2 c _ l1.1
    exact Or.inl ⟨Ls_eq (h.2.2.2.2.1 c hc w2).2 l1, w, (h.1.2.2.2.2 c).mpr ⟨hc, w2⟩⟩
  · have w2 : ¬ sx c < 268435456 := fun z => w (g.2.1 c _ (h.2.2.2.2.1 c hc z).2.1)
    exact Or.inr ⟨by omega, by omega, fun z => w2 ((h.1.2.2.2.2 c).mp z).2⟩
