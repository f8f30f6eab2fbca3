/-! THE CALLS on what follows, with rows of bits -/
def isW (v : Int32) (n : Nat) (P : Nat → Prop) : Prop := ∀ k, hb v k = true ↔ k < n ∧ P k
theorem isW_0 (P : Nat → Prop) : isW 0 0 P := fun k => by rw [hb_0]; exact ⟨fun g => absurd g (by decide), fun g => absurd g.1 (by omega)⟩
theorem isW_t {v : Int32} {n : Nat} {P : Nat → Prop} (h : isW v n P) (hn : n < 32) (p : P n) : isW (v ||| ((1 : Int32) <<< (nI n &&& 31))) (n + 1) P := by
  intro k
  rw [hb_or, Bool.or_eq_true, hb_one hn, decide_eq_true_iff, h k]
  constructor
  · rintro (g | rfl)
    · exact ⟨by omega, g.2⟩
    · exact ⟨by omega, p⟩
  · rintro ⟨g1, g2⟩
    by_cases e : k = n
    · exact Or.inr e
    · exact Or.inl ⟨by omega, g2⟩
theorem isW_f {v : Int32} {n : Nat} {P : Nat → Prop} (h : isW v n P) (p : ¬ P n) : isW v (n + 1) P := by
  intro k
  rw [h k]
  constructor
  · rintro ⟨g1, g2⟩; exact ⟨by omega, g2⟩
  · rintro ⟨g1, g2⟩
    by_cases e : k = n
    · exact absurd (e ▸ g2) p
    · exact ⟨by omega, g2⟩
theorem or_0 (x : Int32) : x ||| 0 = x := hb_ext fun k _ => by rw [hb_or, hb_0, Bool.or_false]
theorem isW_eq {v w : Int32} {n : Nat} {P R : Nat → Prop} (h : isW v n P) (g : isW w n R) (e : ∀ k, k < n → (P k ↔ R k)) : v = w := hb_ext fun k _ => by
  rw [Bool.eq_iff_iff, h k, g k]
  exact ⟨fun q => ⟨q.1, (e k q.1).mp q.2⟩, fun q => ⟨q.1, (e k q.1).mpr q.2⟩⟩
theorem isW_bnd {v : Int32} {n : Nat} {P : Nat → Prop} (h : isW v n P) : bnd v n := bnd_of_hb fun k hk => by
  cases e : hb v k
  · rfl
  · have := ((h k).mp e).1; omega
def offB (A : Int32) (i : Nat) : Int32 := A &&& (((1 : Int32) <<< (nI i &&& 31)) ^^^ (-1))
theorem x_indisp {F : Nat} (hF : 2 ^ 40 < F) {X : Zs} {n : Nat} {cd : Nat → Nat} (hX : XC X n cd) (hK : KB X n cd) {c : Nat} (hc : c < 2304) : ∃ q : Int32 × Zs, (fr cR cK X q.2 ∧ KB q.2 n cd ∧ isW q.1 n (fun i => hb (actv n (X.1 0 64)) i = true ∧ Con (sel cd (offB (actv n (X.1 0 64)) i) n ++ [ct c]) (X.1 0 65))) ∧ n_X1_indispensable_13 F X (nI c) = some q := by
  have e0 : n_X1_indispensable_13 F X (nI c) = n_X1_indispensable_13_b13 F X (nI c) (actv n (X.1 0 64)) 0 0 := by
    unfold n_X1_indispensable_13 n_X1_indispensable_13_e
    rw [x_active hX.1, zcS]
  have bA := bnd_actv hX.2.1 (X.1 0 64)
  generalize actv n (X.1 0 64) = A at *
  rw [e0]
  exact zfix_for (f := fun (rc : (Zs × Int32 × Int32 × Int32 × Int32) → Option (Int32 × Zs)) (u : (Zs × Int32 × Int32 × Int32 × Int32)) => n_X1_indispensable_13_b13_l F  (fun S x1 x2 x3 x4 => rc (S, x1, x2, x3, x4)) u.1 u.2.1 u.2.2.1 u.2.2.2.1 u.2.2.2.2) n (fun i a => ∃ S v, a = (S, nI c, A, v, nI i) ∧ fr cR cK X S ∧ KB S n cd ∧ isW v i (fun i => hb A i = true ∧ Con (sel cd (offB A i) n ++ [ct c]) (X.1 0 65))) (fun q : Int32 × Zs => fr cR cK X q.2 ∧ KB q.2 n cd ∧ isW q.1 n (fun i => hb A i = true ∧ Con (sel cd (offB A i) n ++ [ct c]) (X.1 0 65))) (fun q => some q) (by
    rintro i _ hi ⟨S', v, rfl, hf, hk, hw⟩
    have hX' := XC_fr hX hf (by decide) (by decide)
    have hn := hX.2.1
    have y1 := hX'.1
    have e : ∀ rc : (Zs × Int32 × Int32 × Int32 × Int32) → Option (Int32 × Zs), n_X1_indispensable_13_b13_l F (fun S x1 x2 x3 x4 => rc (S, x1, x2, x3, x4)) S' (nI c) A v (nI i) = if hb A i = false then rc (S', nI c, A, v, nI (i + 1)) else zcl (n_X1_entails_13 F S' (offB A i) (nI c)) (fun v3 S2 => if v3 = 0 then rc (S2, nI c, A, v ||| ((1 : Int32) <<< (nI i &&& 31)), nI (i + 1)) else rc (S2, nI c, A, v, nI (i + 1))) := by
      intro rc
      unfold n_X1_indispensable_13_b13_l n_X1_indispensable_13_b57
      simp (disch := omega) only [zgf, y1, nI_le_iff, hb_sh0, zlet, nI_1]
      rw [if_neg (by omega)]
      rfl
    cases hbit : hb A i with
    | false =>
      refine Or.inr ⟨(S', nI c, A, v, nI (i + 1)), ⟨S', v, rfl, hf, hk, isW_f hw (fun g => by rw [hbit] at g; exact absurd g.1 (by decide))⟩, fun rc => ?_⟩
      exact (e rc).trans (if_pos hbit)
    | true =>
      obtain ⟨r, X1, e1, f1, h1, kb1⟩ := x_entails hF hX' hk (show bnd (offB A i) n from bnd_and _ bA) hc
      rw [hf.1 65 (by decide)] at h1
      by_cases hcon : Con (sel cd (offB A i) n ++ [ct c]) (X.1 0 65)
      · refine Or.inr ⟨(X1, nI c, A, v ||| ((1 : Int32) <<< (nI i &&& 31)), nI (i + 1)), ⟨X1, _, rfl, fr_t hf f1, kb1, isW_t hw (by omega) ⟨hbit, hcon⟩⟩, fun rc => ?_⟩
        refine (e rc).trans ?_
        rw [if_neg (by rw [hbit]; decide), e1, zcS, if_pos ((isB_0 h1).mpr (fun g => g hcon))]
      · refine Or.inr ⟨(X1, nI c, A, v, nI (i + 1)), ⟨X1, v, rfl, fr_t hf f1, kb1, isW_f hw (fun g => hcon g.2)⟩, fun rc => ?_⟩
        refine (e rc).trans ?_
        rw [if_neg (by rw [hbit]; decide), e1, zcS, if_neg (fun g => (isB_0 h1).mp g hcon)]) (by
    rintro _ ⟨S', v, rfl, hf, hk, hw⟩
    have y1 := (XC_fr hX hf (by decide) (by decide)).1
    have hn := hX.2.1
    refine ⟨(v, S'), ⟨hf, hk, hw⟩, fun rc => ?_⟩
    show n_X1_indispensable_13_b13_l F (fun S x1 x2 x3 x4 => rc (S, x1, x2, x3, x4)) S' (nI c) A v (nI n) = _
    unfold n_X1_indispensable_13_b13_l
    simp (disch := omega) only [zgf, y1, nI_le_iff]
    rw [if_pos (by omega)]) F (X, nI c, A, 0, 0) ⟨X, 0, rfl, fr_rf _ _ _, hK, isW_0 _⟩ (by have := hX.2.1; omega)
theorem m_needs {F : Nat} (hF : 2 ^ 40 < F) {M : Zs} {n : Nat} {cd : Nat → Nat} (hM : MC M n cd) (A : Int32) {c : Nat} (hc : c < 2304) : ∃ q : Int32 × Zs, (fr mR mK M q.2 ∧ isW q.1 n (fun i => hb A i = true ∧ Con (sel cd (offB A i) n ++ [ct c]) (M.1 0 8))) ∧ n_X12_needs_0_b36 F M (nI c) A 0 0 = some q := by
  exact zfix_for (f := fun (rc : (Zs × Int32 × Int32 × Int32 × Int32) → Option (Int32 × Zs)) (u : (Zs × Int32 × Int32 × Int32 × Int32)) => n_X12_needs_0_b36_l F  (fun S x1 x2 x3 x4 => rc (S, x1, x2, x3, x4)) u.1 u.2.1 u.2.2.1 u.2.2.2.1 u.2.2.2.2) n (fun i a => ∃ S v, a = (S, nI c, A, v, nI i) ∧ fr mR mK M S ∧ isW v i (fun i => hb A i = true ∧ Con (sel cd (offB A i) n ++ [ct c]) (M.1 0 8))) (fun q : Int32 × Zs => fr mR mK M q.2 ∧ isW q.1 n (fun i => hb A i = true ∧ Con (sel cd (offB A i) n ++ [ct c]) (M.1 0 8))) (fun q => some q) (by
    rintro i _ hi ⟨S', v, rfl, hf, hw⟩
    have hM' := MC_fr hM hf (by decide) (by decide)
    have hn := hM.2.1
    have y1 := hM'.1
    have e : ∀ rc : (Zs × Int32 × Int32 × Int32 × Int32) → Option (Int32 × Zs), n_X12_needs_0_b36_l F (fun S x1 x2 x3 x4 => rc (S, x1, x2, x3, x4)) S' (nI c) A v (nI i) = if ¬ hb A i = true then rc (S', nI c, A, v, nI (i + 1)) else zcl (n_X12_followsFrom_0 F S' (offB A i) (nI c)) (fun v3 S2 => if v3 = 0 then rc (S2, nI c, A, v ||| ((1 : Int32) <<< (nI i &&& 31)), nI (i + 1)) else rc (S2, nI c, A, v, nI (i + 1))) := by
      intro rc
      unfold n_X12_needs_0_b36_l n_X12_needs_0_b78 n_X12_needs_0_b79
      simp (disch := omega) only [zgf, y1, nI_le_iff, e_has, zcS, bI_eq0, zlet, nI_1, or_0]
      rw [if_neg (by omega)]
      rfl
    by_cases hbit : hb A i = true
    · obtain ⟨r, M1, e1, f1, h1⟩ := m_followsFrom hF hM' (offB A i) hc
      rw [hf.1 8 (by decide)] at h1
      by_cases hcon : Con (sel cd (offB A i) n ++ [ct c]) (M.1 0 8)
      · refine Or.inr ⟨(M1, nI c, A, v ||| ((1 : Int32) <<< (nI i &&& 31)), nI (i + 1)), ⟨M1, _, rfl, fr_t hf (fw f1), isW_t hw (by omega) ⟨hbit, hcon⟩⟩, fun rc => ?_⟩
        refine (e rc).trans ?_
        rw [if_neg (fun g => g hbit), e1, zcS, if_pos ((isB_0 h1).mpr (fun g => g hcon))]
      · refine Or.inr ⟨(M1, nI c, A, v, nI (i + 1)), ⟨M1, v, rfl, fr_t hf (fw f1), isW_f hw (fun g => hcon g.2)⟩, fun rc => ?_⟩
        refine (e rc).trans ?_
        rw [if_neg (fun g => g hbit), e1, zcS, if_neg (fun g => (isB_0 h1).mp g hcon)]
    · refine Or.inr ⟨(S', nI c, A, v, nI (i + 1)), ⟨S', v, rfl, hf, isW_f hw (fun g => hbit g.1)⟩, fun rc => ?_⟩
      exact (e rc).trans (if_pos hbit)) (by
    rintro _ ⟨S', v, rfl, hf, hw⟩
    have y1 := (MC_fr hM hf (by decide) (by decide)).1
    have hn := hM.2.1
    refine ⟨(v, S'), ⟨hf, hw⟩, fun rc => ?_⟩
    show n_X12_needs_0_b36_l F (fun S x1 x2 x3 x4 => rc (S, x1, x2, x3, x4)) S' (nI c) A v (nI n) = _
    unfold n_X12_needs_0_b36_l
    simp (disch := omega) only [zgf, y1, nI_le_iff]
    rw [if_pos (by omega)]) F (M, nI c, A, 0, 0) ⟨M, 0, rfl, fr_rf _ _ _, isW_0 _⟩ (by have := hM.2.1; omega)
/-- needs(code) -/
theorem p_needs {Q : Zs → Nat → (Nat → Nat) → Prop} (hQ : QOK Q) {F : Nat} (hF : 2 ^ 40 < F) : S_needs F (Rel (Kq Q)) := by
  intro X M hR a
  by_cases h : a < 0 ∨ 2303 < a
  · refine ⟨-1, X, zp M 0 0 0, ?_, ?_, hR.thrown 0⟩
    · unfold n_X11_needs_0 n_X11_needs_0_e
      rw [x_code0 h, zcS, if_pos rfl]
    · unfold n_X12_needs_0 n_X12_needs_0_e zpf
      dsimp only
      rw [m_code0 h, zcS, if_pos rfl]
  obtain ⟨c, hc, rfl⟩ := code_of h
  obtain ⟨n, cd, hX, hB, q, hM, el, ed, bd, ew, bw⟩ := Rel_ctx hR
  have bA := bnd_actv hX.2.1 (X.1 0 64)
  obtain ⟨r, X1, e1, f1, h1, kb1⟩ := x_entails hF hX hB bA hc
  obtain ⟨⟨v, X2⟩, ⟨f2, kb2, w2⟩, e2⟩ := x_indisp hF (XC_fr hX f1 (by decide) (by decide)) kb1 hc
  obtain ⟨s, M1, g1, k1, i1⟩ := m_followsFrom hF (MC_fr hM (f0 M) (by decide) (by decide)) (actv n (M.1 0 7)) hc
  have k1' := fr_t (f0 M) (fw k1)
  obtain ⟨⟨v', M2⟩, ⟨k2, w2'⟩, g2⟩ := m_needs hF (MC_fr hM k1' (by decide) (by decide)) (actv n (M.1 0 7)) hc
  have i1 : isB s (¬ Con (sel cd (actv n (M.1 0 7)) n ++ [ct c]) (M.1 0 8)) := i1
  rw [ew, el] at h1
  have er : r = s := isB_eq h1 i1
  subst er
  rw [k1'.1 8 (by decide)] at w2'
  rw [f1.1 64 (by decide), f1.1 65 (by decide), ew, el] at w2
  have ev : v = v' := isW_eq w2 w2' (fun _ _ => Iff.rfl)
  subst ev
  have ex : n_X11_needs_0 F X (nI c) = if r = 0 then some (-2, X1) else some (v, X2) := by
    unfold n_X11_needs_0 n_X11_needs_0_e n_X11_needs_0_b40
    rw [x_code1 h, zcS, if_neg (by decide), x_active hX.1, zcS, e1, zcS, e2, zcS]
  have em : n_X12_needs_0 F M (nI c) = if r = 0 then some (-2, M1) else some (v, M2) := by
    unfold n_X12_needs_0 n_X12_needs_0_e zpf
    dsimp only
    rw [m_code1 h, zcS, if_neg (by decide), m_standing (M := zp M 0 0 0) hM.1, zcS]
    show zcl (n_X12_followsFrom_0 F (zp M 0 0 0) (actv n (M.1 0 7)) (nI c)) (fun v7 S6 => if v7 = 0 then some (-2, S6) else n_X12_needs_0_b36 F S6 (nI c) (actv n (M.1 0 7)) 0 0) = _
    rw [g1, zcS, g2]
  by_cases h0 : r = 0
  · exact ⟨-2, X1, M1, by rw [ex, if_pos h0], by rw [em, if_pos h0], Rel_court hQ hR hX q f1 kb1 k1'⟩
  · exact ⟨v, X2, M2, by rw [ex, if_neg h0], by rw [em, if_neg h0], Rel_court hQ hR hX q (fr_t f1 f2) kb2 (fr_t k1' k2)⟩
theorem x_super {F : Nat} (hF : 2 ^ 40 < F) {X : Zs} {n : Nat} {cd : Nat → Nat} (hX : XC X n cd) (hK : KB X n cd) : ∃ q : Int32 × Zs, (fr cR cK X q.2 ∧ KB q.2 n cd ∧ isW q.1 n (fun i => hb (actv n (X.1 0 64)) i = true ∧ ¬ Con (sel cd (offB (actv n (X.1 0 64)) i) n ++ [ct (cd i)]) (X.1 0 65))) ∧ n_X1_superfluous_13 F X = some q := by
  have e0 : n_X1_superfluous_13 F X = n_X1_superfluous_13_b12 F X (actv n (X.1 0 64)) 0 0 := by
    unfold n_X1_superfluous_13 n_X1_superfluous_13_e
    rw [x_active hX.1, zcS]
  have bA := bnd_actv hX.2.1 (X.1 0 64)
  generalize actv n (X.1 0 64) = A at *
  rw [e0]
  exact zfix_for (f := fun (rc : (Zs × Int32 × Int32 × Int32) → Option (Int32 × Zs)) (u : (Zs × Int32 × Int32 × Int32)) => n_X1_superfluous_13_b12_l F  (fun S x1 x2 x3 => rc (S, x1, x2, x3)) u.1 u.2.1 u.2.2.1 u.2.2.2) n (fun i a => ∃ S v, a = (S, A, v, nI i) ∧ fr cR cK X S ∧ KB S n cd ∧ isW v i (fun i => hb A i = true ∧ ¬ Con (sel cd (offB A i) n ++ [ct (cd i)]) (X.1 0 65))) (fun q : Int32 × Zs => fr cR cK X q.2 ∧ KB q.2 n cd ∧ isW q.1 n (fun i => hb A i = true ∧ ¬ Con (sel cd (offB A i) n ++ [ct (cd i)]) (X.1 0 65))) (fun q => some q) (by
    rintro i _ hi ⟨S', v, rfl, hf, hk, hw⟩
    have hX' := XC_fr hX hf (by decide) (by decide)
    have hn := hX.2.1
    obtain ⟨y1, y2, y3⟩ := id hX'
    obtain ⟨k1, k2⟩ := y3 i hi
    have e : ∀ rc : (Zs × Int32 × Int32 × Int32) → Option (Int32 × Zs), n_X1_superfluous_13_b12_l F (fun S x1 x2 x3 => rc (S, x1, x2, x3)) S' A v (nI i) = if hb A i = false then rc (S', A, v, nI (i + 1)) else zcl (n_X1_entails_13 F S' (offB A i) (nI (cd i))) (fun v3 S2 => if v3 = 0 then rc (S2, A, v, nI (i + 1)) else rc (S2, A, v ||| ((1 : Int32) <<< (nI i &&& 31)), nI (i + 1))) := by
      intro rc
      unfold n_X1_superfluous_13_b12_l n_X1_superfluous_13_b60
      simp (disch := omega) only [zgf, y1, nI_le_iff, zld_nI, k1, hb_sh0, zlet, nI_1]
      rw [if_neg (by omega)]
      rfl
    cases hbit : hb A i with
    | false =>
      refine Or.inr ⟨(S', A, v, nI (i + 1)), ⟨S', v, rfl, hf, hk, isW_f hw (fun g => by rw [hbit] at g; exact absurd g.1 (by decide))⟩, fun rc => ?_⟩
      exact (e rc).trans (if_pos hbit)
    | true =>
      obtain ⟨r, X1, e1, f1, h1, kb1⟩ := x_entails hF hX' hk (show bnd (offB A i) n from bnd_and _ bA) k2
      rw [hf.1 65 (by decide)] at h1
      by_cases hcon : Con (sel cd (offB A i) n ++ [ct (cd i)]) (X.1 0 65)
      · refine Or.inr ⟨(X1, A, v, nI (i + 1)), ⟨X1, v, rfl, fr_t hf f1, kb1, isW_f hw (fun g => g.2 hcon)⟩, fun rc => ?_⟩
        refine (e rc).trans ?_
        rw [if_neg (by rw [hbit]; decide), e1, zcS, if_pos ((isB_0 h1).mpr (fun g => g hcon))]
      · refine Or.inr ⟨(X1, A, v ||| ((1 : Int32) <<< (nI i &&& 31)), nI (i + 1)), ⟨X1, _, rfl, fr_t hf f1, kb1, isW_t hw (by omega) ⟨hbit, hcon⟩⟩, fun rc => ?_⟩
        refine (e rc).trans ?_
        rw [if_neg (by rw [hbit]; decide), e1, zcS, if_neg (fun g => (isB_0 h1).mp g hcon)]) (by
    rintro _ ⟨S', v, rfl, hf, hk, hw⟩
    have y1 := (XC_fr hX hf (by decide) (by decide)).1
    have hn := hX.2.1
    refine ⟨(v, S'), ⟨hf, hk, hw⟩, fun rc => ?_⟩
    show n_X1_superfluous_13_b12_l F (fun S x1 x2 x3 => rc (S, x1, x2, x3)) S' A v (nI n) = _
    unfold n_X1_superfluous_13_b12_l
    simp (disch := omega) only [zgf, y1, nI_le_iff]
    rw [if_pos (by omega)]) F (X, A, 0, 0) ⟨X, 0, rfl, fr_rf _ _ _, hK, isW_0 _⟩ (by have := hX.2.1; omega)
theorem m_idle {F : Nat} (hF : 2 ^ 40 < F) {M : Zs} {n : Nat} {cd : Nat → Nat} (hM : MC M n cd) (A : Int32) : ∃ q : Int32 × Zs, (fr mR mK M q.2 ∧ isW q.1 n (fun i => hb A i = true ∧ ¬ Con (sel cd (offB A i) n ++ [ct (cd i)]) (M.1 0 8))) ∧ n_X12_idle_0_b14 F M A 0 0 = some q := by
  exact zfix_for (f := fun (rc : (Zs × Int32 × Int32 × Int32) → Option (Int32 × Zs)) (u : (Zs × Int32 × Int32 × Int32)) => n_X12_idle_0_b14_l F  (fun S x1 x2 x3 => rc (S, x1, x2, x3)) u.1 u.2.1 u.2.2.1 u.2.2.2) n (fun i a => ∃ S v, a = (S, A, v, nI i) ∧ fr mR mK M S ∧ isW v i (fun i => hb A i = true ∧ ¬ Con (sel cd (offB A i) n ++ [ct (cd i)]) (M.1 0 8))) (fun q : Int32 × Zs => fr mR mK M q.2 ∧ isW q.1 n (fun i => hb A i = true ∧ ¬ Con (sel cd (offB A i) n ++ [ct (cd i)]) (M.1 0 8))) (fun q => some q) (by
    rintro i _ hi ⟨S', v, rfl, hf, hw⟩
    have hM' := MC_fr hM hf (by decide) (by decide)
    have hn := hM.2.1
    obtain ⟨y1, y2, y3⟩ := id hM'
    obtain ⟨k1, k2⟩ := y3 i hi
    have e : ∀ rc : (Zs × Int32 × Int32 × Int32) → Option (Int32 × Zs), n_X12_idle_0_b14_l F (fun S x1 x2 x3 => rc (S, x1, x2, x3)) S' A v (nI i) = if ¬ hb A i = true then rc (S', A, v, nI (i + 1)) else zcl (n_X12_followsFrom_0 F S' (offB A i) (nI (cd i))) (fun v3 S2 => if v3 = 0 then rc (S2, A, v, nI (i + 1)) else rc (S2, A, v ||| ((1 : Int32) <<< (nI i &&& 31)), nI (i + 1))) := by
      intro rc
      unfold n_X12_idle_0_b14_l n_X12_idle_0_b57 n_X12_idle_0_b58
      simp (disch := omega) only [zgf, y1, nI_le_iff, e_has, zcS, bI_eq0, zld_nI, k1, zlet, nI_1, or_0]
      rw [if_neg (by omega)]
      rfl
    by_cases hbit : hb A i = true
    · obtain ⟨r, M1, e1, f1, h1⟩ := m_followsFrom hF hM' (offB A i) k2
      rw [hf.1 8 (by decide)] at h1
      by_cases hcon : Con (sel cd (offB A i) n ++ [ct (cd i)]) (M.1 0 8)
      · refine Or.inr ⟨(M1, A, v, nI (i + 1)), ⟨M1, v, rfl, fr_t hf (fw f1), isW_f hw (fun g => g.2 hcon)⟩, fun rc => ?_⟩
        refine (e rc).trans ?_
        rw [if_neg (fun g => g hbit), e1, zcS, if_pos ((isB_0 h1).mpr (fun g => g hcon))]
      · refine Or.inr ⟨(M1, A, v ||| ((1 : Int32) <<< (nI i &&& 31)), nI (i + 1)), ⟨M1, _, rfl, fr_t hf (fw f1), isW_t hw (by omega) ⟨hbit, hcon⟩⟩, fun rc => ?_⟩
        refine (e rc).trans ?_
        rw [if_neg (fun g => g hbit), e1, zcS, if_neg (fun g => (isB_0 h1).mp g hcon)]
    · refine Or.inr ⟨(S', A, v, nI (i + 1)), ⟨S', v, rfl, hf, isW_f hw (fun g => hbit g.1)⟩, fun rc => ?_⟩
      exact (e rc).trans (if_pos hbit)) (by
    rintro _ ⟨S', v, rfl, hf, hw⟩
    have y1 := (MC_fr hM hf (by decide) (by decide)).1
    have hn := hM.2.1
    refine ⟨(v, S'), ⟨hf, hw⟩, fun rc => ?_⟩
    show n_X12_idle_0_b14_l F (fun S x1 x2 x3 => rc (S, x1, x2, x3)) S' A v (nI n) = _
    unfold n_X12_idle_0_b14_l
    simp (disch := omega) only [zgf, y1, nI_le_iff]
    rw [if_pos (by omega)]) F (M, A, 0, 0) ⟨M, 0, rfl, fr_rf _ _ _, isW_0 _⟩ (by have := hM.2.1; omega)
/-- idle() -/
theorem p_idle {Q : Zs → Nat → (Nat → Nat) → Prop} (hQ : QOK Q) {F : Nat} (hF : 2 ^ 40 < F) : S_idle F (Rel (Kq Q)) := by
  intro X M hR
  obtain ⟨n, cd, hX, hB, q, hM, el, ed, bd, ew, bw⟩ := Rel_ctx hR
  obtain ⟨⟨v, X2⟩, ⟨f2, kb2, w2⟩, e2⟩ := x_super hF hX hB
  obtain ⟨⟨v', M2⟩, ⟨k2, w2'⟩, g2⟩ := m_idle hF (MC_fr hM (f0 M) (by decide) (by decide)) (actv n (M.1 0 7))
  rw [ew, el] at w2
  have ev : v = v' := isW_eq w2 w2' (fun _ _ => Iff.rfl)
  subst ev
  refine ⟨v, X2, M2, ?_, ?_, Rel_court hQ hR hX q f2 kb2 (fr_t (f0 M) k2)⟩
  · unfold n_X11_idle_0 n_X11_idle_0_e
    rw [e2, zcS]
  · unfold n_X12_idle_0 n_X12_idle_0_e zpf
    dsimp only
    rw [m_standing (M := zp M 0 0 0) hM.1, zcS]
    exact g2
