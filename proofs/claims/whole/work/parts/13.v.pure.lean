/-! fewest, clash, liars, convicts: what is enough -/
def WC (S : Zs) (r f w : Nat) (wc : Nat → Nat) : Prop := S.1 0 f = nI w ∧ w ≤ 6 ∧ ∀ i, i < w → S.1 r i = nI (wc i) ∧ wc i < 2304
theorem Rel_want {K : Zs → Prop} {X M : Zs} (h : Rel K X M) : ∃ w wc, WC X 6 68 w wc ∧ WC M 4 9 w wc := by
  obtain ⟨w, hw, e1, e2, hT⟩ := h.2.2.2.2.1
  have k : ∀ i, i < w → M.1 4 i = nI (M.1 4 i).toNatClampNeg ∧ (M.1 4 i).toNatClampNeg < 2304 := by
    intro i hi
    obtain ⟨-, c, hc, ec⟩ := hT i hi
    rw [ec, nI_clamp (show c < 2 ^ 31 by omega)]; exact ⟨rfl, hc⟩
  exact ⟨w, fun i => (M.1 4 i).toNatClampNeg, ⟨e1, hw, fun i hi => by rw [(hT i hi).1]; exact k i hi⟩, e2, hw, k⟩
theorem WC_fr {R K : List Nat} {S S2 : Zs} {r f w : Nat} {wc : Nat → Nat} (h : WC S r f w wc) (g : fr R K S S2) (h0 : r ≠ 0) (h1 : r ∉ R) (h2 : f ∉ K) : WC S2 r f w wc := by
  obtain ⟨k1, k2, k3⟩ := h
  refine ⟨by rw [g.1 f h2]; exact k1, k2, fun i hi => ?_⟩
  rw [g.2.1 r h0 h1]; exact k3 i hi
def EnF (cd : Nat → Nat) (n : Nat) (lv : Int32) (w : Nat) (wc : Nat → Nat) (s : Int32) : Prop := ∀ i, i < w → ¬ Con (sel cd s n ++ [ct (wc i)]) lv
def EnC (cd : Nat → Nat) (n : Nat) (lv A s : Int32) : Prop := Con (sel cd (A &&& (s ^^^ (-1))) n) lv
def EnL (cd wt : Nat → Nat) (n : Nat) (lv A s : Int32) : Prop := ∃ v, isW v n (fun k => hb s (wt k) = true) ∧ Con (sel cd (A &&& (v ^^^ (-1))) n) lv
def EnV (cd wt : Nat → Nat) (n : Nat) (lv A : Int32) (c : Nat) (s : Int32) : Prop := ∃ v, isW v n (fun k => hb s (wt k) = true) ∧ ¬ Con (sel cd (A &&& v) n ++ [ct c]) lv
theorem EnF_m {cd : Nat → Nat} {n : Nat} {lv : Int32} {w : Nat} {wc : Nat → Nat} {s t : Int32} (h : sb s t) (g : EnF cd n lv w wc s) : EnF cd n lv w wc t := fun i hi k => g i hi (Con_mono (snoc_mono (sel_mono fun j _ q => h j q)) k)
theorem EnC_m {cd : Nat → Nat} {n : Nat} {lv A s t : Int32} (h : sb s t) (g : EnC cd n lv A s) : EnC cd n lv A t := Con_mono (sel_mono fun j _ q => hbm.mpr ⟨(hbm.mp q).1, fun w => (hbm.mp q).2 (h j w)⟩) g
theorem isW_sub {cd wt : Nat → Nat} {n : Nat} {s t v v2 : Int32} (h : sb s t) (h1 : isW v n (fun k => hb s (wt k) = true)) (h2 : isW v2 n (fun k => hb t (wt k) = true)) : sb v v2 := fun k q => (h2 k).mpr ⟨((h1 k).mp q).1, h _ ((h1 k).mp q).2⟩
/-- the bits of the sayings of witnesses -/
theorem isW_ex (P : Nat → Prop) {n : Nat} (hn : n ≤ 31) : ∃ v, isW v n P := by
  induction n with
  | zero => exact ⟨0, isW_0 P⟩
  | succ n ih =>
    obtain ⟨v, hv⟩ := ih (by omega)
    by_cases h : P n
    · exact ⟨_, isW_t hv (by omega) h⟩
    · exact ⟨v, isW_f hv h⟩
theorem EnL_m {cd wt : Nat → Nat} {n : Nat} (hn : n ≤ 16) {lv A s t : Int32} (h : sb s t) (g : EnL cd wt n lv A s) : EnL cd wt n lv A t := by
  obtain ⟨v, hv, hc⟩ := g
  obtain ⟨v2, hv2⟩ := isW_ex (fun k => hb t (wt k) = true) (show n ≤ 31 by omega)
  have hs := isW_sub (cd := cd) h hv hv2
  exact ⟨v2, hv2, Con_mono (sel_mono fun j _ q => hbm.mpr ⟨(hbm.mp q).1, fun w => (hbm.mp q).2 (hs j w)⟩) hc⟩
theorem EnV_m {cd wt : Nat → Nat} {n : Nat} (hn : n ≤ 16) {lv A : Int32} {c : Nat} {s t : Int32} (h : sb s t) (g : EnV cd wt n lv A c s) : EnV cd wt n lv A c t := by
  obtain ⟨v, hv, hc⟩ := g
  obtain ⟨v2, hv2⟩ := isW_ex (fun k => hb t (wt k) = true) (show n ≤ 31 by omega)
  have hs := isW_sub (cd := cd) h hv hv2
  exact ⟨v2, hv2, fun k => hc (Con_mono (snoc_mono (sel_mono fun j _ q => hba.mpr ⟨(hba.mp q).1, hs j (hba.mp q).2⟩)) k)⟩
theorem Con_nil (lv : Int32) : Con [] lv := by
  have h : ∀ c, c < 1152 → ((c ∈ ([] : List Nat)) ↔ False) := fun c _ => ⟨fun g => absurd g List.not_mem_nil, fun g => g.elim⟩
  refine ⟨fun c hc => absurd hc List.not_mem_nil, fun k hk _ => ?_⟩
  rw [Can_c (Q := fun _ => False) h]
  refine ⟨Br_none, fun z hz g => ?_⟩
  have e1 : 2 * k = z := g.1.elim (fun q => (Rc_none.mp q).2) (fun q => (Rc_none.mp q).2)
  have e2 : 2 * k = z ^^^ 1 := g.2.elim (fun q => (Rc_none.mp q).2) (fun q => (Rc_none.mp q).2)
  exact x1_ne z hz (e2.symm.trans e1)
theorem sel_none {cd : Nat → Nat} {b : Int32} {n : Nat} (h : ∀ k, k < n → ¬ hb b k = true) : sel cd b n = [] := by
  refine List.eq_nil_iff_forall_not_mem.mpr fun c hc => ?_
  obtain ⟨k, h1, h2, -⟩ := sel_mem.mp hc
  exact h k h1 h2
-- the class
theorem x_en0 {F : Nat} (hF : 2 ^ 40 < F) {X : Zs} {n w : Nat} {cd wc : Nat → Nat} (hX : XC X n cd) (hK : KB X n cd) (hW : WC X 6 68 w wc) (hq : X.1 0 462 = 0) {s : Int32} (hs : bnd s n) : ∃ q : Int32 × Zs, (fr cR cK X q.2 ∧ KB q.2 n cd ∧ isB q.1 (EnF cd n (X.1 0 65) w wc s)) ∧ n_X6_enough_23 F X s = some q := by
  have e0 : n_X6_enough_23 F X s = n_X6_enough_23_b34 F X s 0 := by
    unfold n_X6_enough_23 n_X6_enough_23_e zgf
    dsimp only
    rw [hq, if_pos rfl]
  rw [e0]
  exact zfix_for (f := fun (rc : (Zs × Int32 × Int32) → Option (Int32 × Zs)) (u : (Zs × Int32 × Int32)) => n_X6_enough_23_b34_l F  (fun S x1 x2 => rc (S, x1, x2)) u.1 u.2.1 u.2.2) w (fun i a => ∃ S, a = (S, s, nI i) ∧ fr cR cK X S ∧ KB S n cd ∧ ∀ j, j < i → ¬ Con (sel cd s n ++ [ct (wc j)]) (X.1 0 65)) (fun q : Int32 × Zs => fr cR cK X q.2 ∧ KB q.2 n cd ∧ isB q.1 (EnF cd n (X.1 0 65) w wc s)) (fun q => some q) (by
    rintro i _ hi ⟨S', rfl, hf, hk, ha⟩
    obtain ⟨y1, y2, y3⟩ := WC_fr hW hf (by decide) (by decide) (by decide)
    obtain ⟨k1, k2⟩ := y3 i hi
    obtain ⟨r, X1, e1, f1, h1, kb1⟩ := x_entails hF (XC_fr hX hf (by decide) (by decide)) hk hs k2
    rw [hf.1 65 (by decide)] at h1
    have e : ∀ rc : (Zs × Int32 × Int32) → Option (Int32 × Zs), n_X6_enough_23_b34_l F (fun S x1 x2 => rc (S, x1, x2)) S' s (nI i) = if r = 0 then some (0, X1) else rc (X1, s, nI (i + 1)) := by
      intro rc
      unfold n_X6_enough_23_b34_l
      simp (disch := omega) only [zgf, y1, nI_le_iff, zld_nI, k1, e1, zcS, zlet, nI_1, zrb_0]
      rw [if_neg (by omega)]
    by_cases hc : Con (sel cd s n ++ [ct (wc i)]) (X.1 0 65)
    · refine Or.inl ⟨(0, X1), ⟨fr_t hf f1, kb1, Or.inr ⟨rfl, fun g => g i hi hc⟩⟩, fun rc => (e rc).trans ?_⟩
      rw [if_pos ((isB_0 h1).mpr (fun g => g hc))]
    · refine Or.inr ⟨(X1, s, nI (i + 1)), ⟨X1, rfl, fr_t hf f1, kb1, fun j hj => ?_⟩, fun rc => (e rc).trans ?_⟩
      · by_cases v : j = i
        · rw [v]; exact hc
        · exact ha j (by omega)
      · rw [if_neg (fun g => (isB_0 h1).mp g hc)]) (by
    rintro _ ⟨S', rfl, hf, hk, ha⟩
    obtain ⟨y1, y2, y3⟩ := WC_fr hW hf (by decide) (by decide) (by decide)
    refine ⟨(1, S'), ⟨hf, hk, Or.inl ⟨rfl, ha⟩⟩, fun rc => ?_⟩
    show n_X6_enough_23_b34_l F (fun S x1 x2 => rc (S, x1, x2)) S' s (nI w) = _
    unfold n_X6_enough_23_b34_l
    simp (disch := omega) only [zgf, y1, nI_le_iff]
    rw [if_pos (by omega), zrb_1]) F (X, s, 0) ⟨X, rfl, fr_rf _ _ _, hK, fun j hj => absurd hj (by omega)⟩ (by have := hW.2.1; omega)
theorem x_en1 {F : Nat} (hF : 2 ^ 40 < F) {X : Zs} {n : Nat} {cd : Nat → Nat} (hX : XC X n cd) (hK : KB X n cd) (hq : X.1 0 462 = 1) (s : Int32) : ∃ r X2, n_X6_enough_23 F X s = some (r, X2) ∧ fr cR cK X X2 ∧ KB X2 n cd ∧ isB r (EnC cd n (X.1 0 65) (actv n (X.1 0 64)) s) := by
  obtain ⟨r, X2, e1, f1, h1, kb⟩ := x_cons hF hX hK (show bnd (actv n (X.1 0 64) &&& (s ^^^ (-1))) n from bnd_and _ (bnd_actv hX.2.1 _))
  refine ⟨r, X2, ?_, f1, kb, h1⟩
  unfold n_X6_enough_23 n_X6_enough_23_e zgf
  dsimp only
  rw [hq, if_neg (by decide), if_pos rfl, x_active hX.1, zcS, e1, zcS, isB_rb h1]
theorem and_minus (A v : Int32) : A &&& ((v &&& A) ^^^ (-1)) = A &&& (v ^^^ (-1)) := hb_ext fun k _ => by
  rw [Bool.eq_iff_iff, hbm, hbm, hba]
  exact ⟨fun q => ⟨q.1, fun w => q.2 ⟨w, q.1⟩⟩, fun q => ⟨q.1, fun w => q.2 w.1⟩⟩
theorem x_en2 {F : Nat} (hF : 2 ^ 40 < F) {X : Zs} {n : Nat} {cd wt : Nat → Nat} (hX : XC X n cd) (hw : Wit X 5 n wt) (hK : KB X n cd) (hq : X.1 0 462 = 2) (s : Int32) : ∃ r X2, n_X6_enough_23 F X s = some (r, X2) ∧ fr cR cK X X2 ∧ KB X2 n cd ∧ isB r (EnL cd wt n (X.1 0 65) (actv n (X.1 0 64)) s) := by
  obtain ⟨v, hv, ev⟩ := x_activeOf hF hX.1 hX.2.1 hw s
  obtain ⟨r, X2, e1, f1, h1, kb⟩ := x_cons hF hX hK (show bnd (actv n (X.1 0 64) &&& (v ^^^ (-1))) n from bnd_and _ (bnd_actv hX.2.1 _))
  have h2 : isB r (EnL cd wt n (X.1 0 65) (actv n (X.1 0 64)) s) := isB_iff h1 ⟨fun g => ⟨v, hv, g⟩, fun ⟨v2, g1, g2⟩ => by rw [isW_eq hv g1 (fun _ _ => Iff.rfl)]; exact g2⟩
  refine ⟨r, X2, ?_, f1, kb, h2⟩
  unfold n_X6_enough_23 n_X6_enough_23_e zgf
  dsimp only
  rw [hq, if_neg (by decide), if_neg (by decide), if_pos rfl, x_active hX.1, zcS, ev, zcS, and_minus, e1, zcS, isB_rb h1]
theorem x_en3 {F : Nat} (hF : 2 ^ 40 < F) {X : Zs} {n : Nat} {cd wt : Nat → Nat} (hX : XC X n cd) (hw : Wit X 5 n wt) (hK : KB X n cd) (hq : X.1 0 462 = 3) {c : Nat} (hc : c < 2304) (hq2 : X.1 0 463 = nI c) (s : Int32) : ∃ r X2, n_X6_enough_23 F X s = some (r, X2) ∧ fr cR cK X X2 ∧ KB X2 n cd ∧ isB r (EnV cd wt n (X.1 0 65) (actv n (X.1 0 64)) c s) := by
  obtain ⟨v, hv, ev⟩ := x_activeOf hF hX.1 hX.2.1 hw s
  obtain ⟨r, X2, e1, f1, h1, kb⟩ := x_entails hF hX hK (show bnd (v &&& actv n (X.1 0 64)) n from bnd_and _ (isW_bnd hv)) hc
  have h2 : isB r (EnV cd wt n (X.1 0 65) (actv n (X.1 0 64)) c s) := isB_iff h1 ⟨fun g => ⟨v, hv, by rw [Int32.and_comm]; exact g⟩, fun ⟨v2, g1, g2⟩ => by rw [isW_eq hv g1 (fun _ _ => Iff.rfl), Int32.and_comm]; exact g2⟩
  refine ⟨r, X2, ?_, f1, kb, h2⟩
  unfold n_X6_enough_23 n_X6_enough_23_e zgf
  dsimp only
  rw [hq, if_neg (by decide), if_neg (by decide), if_neg (by decide), ev, zcS]
  rw [hq2, e1, zcS, isB_rb h1]
-- the reference
theorem m_followAll {F : Nat} (hF : 2 ^ 40 < F) {M : Zs} {n w : Nat} {cd wc : Nat → Nat} (hM : MC M n cd) (hW : WC M 4 9 w wc) (s : Int32) : ∃ q : Int32 × Zs, (fr mR mK M q.2 ∧ isB q.1 (EnF cd n (M.1 0 8) w wc s)) ∧ n_X12_followAll_0 F M s = some q := by
  exact zfix_for (f := fun (rc : (Zs × Int32 × Int32) → Option (Int32 × Zs)) (u : (Zs × Int32 × Int32)) => n_X12_followAll_0_b2_l F  (fun S x1 x2 => rc (S, x1, x2)) u.1 u.2.1 u.2.2) w (fun i a => ∃ S, a = (S, s, nI i) ∧ fr mR mK M S ∧ ∀ j, j < i → ¬ Con (sel cd s n ++ [ct (wc j)]) (M.1 0 8)) (fun q : Int32 × Zs => fr mR mK M q.2 ∧ isB q.1 (EnF cd n (M.1 0 8) w wc s)) (fun q => some q) (by
    rintro i _ hi ⟨S', rfl, hf, ha⟩
    obtain ⟨y1, y2, y3⟩ := WC_fr hW hf (by decide) (by decide) (by decide)
    obtain ⟨k1, k2⟩ := y3 i hi
    obtain ⟨r, X1, e1, f1, h1⟩ := m_followsFrom hF (MC_fr hM hf (by decide) (by decide)) s k2
    rw [hf.1 8 (by decide)] at h1
    have e : ∀ rc : (Zs × Int32 × Int32) → Option (Int32 × Zs), n_X12_followAll_0_b2_l F (fun S x1 x2 => rc (S, x1, x2)) S' s (nI i) = if r = 0 then some (0, X1) else rc (X1, s, nI (i + 1)) := by
      intro rc
      unfold n_X12_followAll_0_b2_l
      simp (disch := omega) only [zgf, y1, nI_le_iff, zld_nI, k1, e1, zcS, zlet, nI_1, zrb_0]
      rw [if_neg (by omega)]
    by_cases hc : Con (sel cd s n ++ [ct (wc i)]) (M.1 0 8)
    · refine Or.inl ⟨(0, X1), ⟨fr_t hf (fw f1), Or.inr ⟨rfl, fun g => g i hi hc⟩⟩, fun rc => (e rc).trans ?_⟩
      rw [if_pos ((isB_0 h1).mpr (fun g => g hc))]
    · refine Or.inr ⟨(X1, s, nI (i + 1)), ⟨X1, rfl, fr_t hf (fw f1), fun j hj => ?_⟩, fun rc => (e rc).trans ?_⟩
      · by_cases v : j = i
        · rw [v]; exact hc
        · exact ha j (by omega)
      · rw [if_neg (fun g => (isB_0 h1).mp g hc)]) (by
    rintro _ ⟨S', rfl, hf, ha⟩
    obtain ⟨y1, y2, y3⟩ := WC_fr hW hf (by decide) (by decide) (by decide)
    refine ⟨(1, S'), ⟨hf, Or.inl ⟨rfl, ha⟩⟩, fun rc => ?_⟩
    show n_X12_followAll_0_b2_l F (fun S x1 x2 => rc (S, x1, x2)) S' s (nI w) = _
    unfold n_X12_followAll_0_b2_l
    simp (disch := omega) only [zgf, y1, nI_le_iff]
    rw [if_pos (by omega), zrb_1]) F (M, s, 0) ⟨M, rfl, fr_rf _ _ _, fun j hj => absurd hj (by omega)⟩ (by have := hW.2.1; omega)
theorem and_z (x : Int32) : x &&& 0 = 0 := hb_ext fun k _ => by rw [hb_and, hb_0, Bool.and_false]
theorem rk_0 (x : Int32) : rk 0 x = tn x := by
  unfold rk
  rw [and_z, show bc 0 32 = 0 from rfl]
  omega
theorem sub_iff {x A : Int32} : x &&& (A ^^^ (-1)) = 0 ↔ sb x A := by
  rw [eq0_hb]
  constructor
  · intro h k q
    by_cases w : hb A k = true
    · exact w
    · exact absurd (hbm.mpr ⟨q, w⟩) (h k)
  · intro h k q
    exact (hbm.mp q).2 (h k (hbm.mp q).1)
theorem m_few1 {F : Nat} (hF : 2 ^ 40 < F) {M : Zs} {n w : Nat} {cd wc : Nat → Nat} (hM : MC M n cd) (hW : WC M 4 9 w wc) {A : Int32} (hA : bnd A 16) {m : Nat} (hm : m ≤ 16) (hmin : ∀ T, EnF cd n (M.1 0 8) w wc T → sb T A → m ≤ bc T 32) : ∃ q : Zs × Option Int32, (fr mR mK M q.1 ∧ ((q.2 = none ∧ ∀ T, EnF cd n (M.1 0 8) w wc T → sb T A → m + 1 ≤ bc T 32) ∨ ∃ T, q.2 = some T ∧ bc T 32 = m ∧ Best A 0 (EnF cd n (M.1 0 8) w wc) T)) ∧ ∀ rc23 : Zs → Int32 → Int32 → Option (Int32 × Zs), n_X12_fewest_0_b31 F rc23 M A (nI m) 0 = (match q.2 with | none => rc23 q.1 A (nI (m + 1)) | some T => some (nI m, mOne q.1 T)) := by
  have htn : tn A < 2 ^ 16 := hA
  have eA := nI_tn hA (by omega)
  exact zfix_forP (f := fun (rc23 : Zs → Int32 → Int32 → Option (Int32 × Zs)) (rc : (Zs × Int32 × Int32 × Int32) → Option (Int32 × Zs)) (u : (Zs × Int32 × Int32 × Int32)) => n_X12_fewest_0_b31_l F rc23 (fun S x1 x2 x3 => rc (S, x1, x2, x3)) u.1 u.2.1 u.2.2.1 u.2.2.2) (tn A + 1) (fun i a => ∃ S, a = (S, A, nI m, nI i) ∧ fr mR mK M S ∧ ∀ T, EnF cd n (M.1 0 8) w wc T → sb T A → bc T 32 = m → i ≤ tn T) (fun q : Zs × Option Int32 => fr mR mK M q.1 ∧ ((q.2 = none ∧ ∀ T, EnF cd n (M.1 0 8) w wc T → sb T A → m + 1 ≤ bc T 32) ∨ ∃ T, q.2 = some T ∧ bc T 32 = m ∧ Best A 0 (EnF cd n (M.1 0 8) w wc) T)) (fun rc23 q => match q.2 with | none => rc23 q.1 A (nI (m + 1)) | some T => some (nI m, mOne q.1 T)) (by
    rintro i _ hi ⟨S', rfl, hf, ha⟩
    have hlt : ¬ A < nI i := by
      rw [eA, nI_lt_iff (by omega) (by omega)]; omega
    have hb24 : bnd (nI i) 24 := bnd_of (by omega) (by omega)
    have hbc := bc_le (nI i) 32
    obtain ⟨⟨r, M1⟩, ⟨f1, h1⟩, e1⟩ := m_followAll hF (MC_fr hM hf (by decide) (by decide)) (WC_fr hW hf (by decide) (by decide) (by decide)) (nI i)
    have f1 : fr mR mK S' M1 := f1
    have h1 : isB r (EnF cd n (S'.1 0 8) w wc (nI i)) := h1
    rw [hf.1 8 (by decide)] at h1
    have e : ∀ (rc23 : Zs → Int32 → Int32 → Option (Int32 × Zs)) (rc : (Zs × Int32 × Int32 × Int32) → Option (Int32 × Zs)), n_X12_fewest_0_b31_l F rc23 (fun S x1 x2 x3 => rc (S, x1, x2, x3)) S' A (nI m) (nI i) = if (nI i &&& (A ^^^ (-1))) = 0 then (if nI (bc (nI i) 32) = nI m then (if r = 0 then rc (M1, A, nI m, nI (i + 1)) else some (nI m, mOne M1 (nI i))) else rc (S', A, nI m, nI (i + 1))) else rc (S', A, nI m, nI (i + 1)) := by
      intro rc23 rc
      unfold n_X12_fewest_0_b31_l n_X12_fewest_0_b72
      rw [if_neg hlt, m_bitCount _ hb24, zcS, e1, zcS]
      simp only [zpf, zlet, nI_1]
      rw [m_enterOne, zcS]
    have step : ∀ S2, fr mR mK M S2 → (∀ T, EnF cd n (M.1 0 8) w wc T → sb T A → bc T 32 = m → ¬ T = nI i) → ∃ S, (S2, A, nI m, nI (i + 1)) = (S, A, nI m, nI (i + 1)) ∧ fr mR mK M S ∧ ∀ T, EnF cd n (M.1 0 8) w wc T → sb T A → bc T 32 = m → i + 1 ≤ tn T := by
      intro S2 g1 g2
      refine ⟨S2, rfl, g1, fun T t1 t2 t3 => ?_⟩
      have h5 := ha T t1 t2 t3
      by_cases v : tn T = i
      · exact absurd (tn_inj (by rw [tn_nI (by omega), v])) (g2 T t1 t2 t3)
      · omega
    by_cases hs : nI i &&& (A ^^^ (-1)) = 0
    · by_cases hbm : bc (nI i) 32 = m
      · by_cases hen : EnF cd n (M.1 0 8) w wc (nI i)
        · refine Or.inl ⟨(M1, some (nI i)), ⟨fr_t hf f1, Or.inr ⟨nI i, rfl, hbm, hen, sub_iff.mp hs, fun T t1 t2 => ?_⟩⟩, fun rc23 rc => (e rc23 rc).trans ?_⟩
          · have := hmin T t1 t2
            rcases Nat.lt_or_ge m (bc T 32) with g | g
            · exact Or.inl (by omega)
            · refine Or.inr ⟨by omega, ?_⟩
              rw [rk_0, rk_0, tn_nI (by omega)]
              exact ha T t1 t2 (by omega)
          · rw [if_pos hs, if_pos (by rw [hbm]), if_neg (fun g => (isB_0 h1).mp g hen)]
        · refine Or.inr ⟨(M1, A, nI m, nI (i + 1)), step M1 (fr_t hf f1) (fun T t1 _ _ g => hen (g ▸ t1)), fun rc23 rc => (e rc23 rc).trans ?_⟩
          rw [if_pos hs, if_pos (by rw [hbm]), if_pos ((isB_0 h1).mpr hen)]
      · refine Or.inr ⟨(S', A, nI m, nI (i + 1)), step S' hf (fun T _ _ t3 g => hbm (by rw [← g]; exact t3)), fun rc23 rc => (e rc23 rc).trans ?_⟩
        rw [if_pos hs, if_neg (fun g => hbm (nI_inj (by omega) (by omega) g))]
    · refine Or.inr ⟨(S', A, nI m, nI (i + 1)), step S' hf (fun T _ t2 _ g => hs (by rw [← g]; exact sub_iff.mpr t2)), fun rc23 rc => (e rc23 rc).trans (if_neg hs)⟩) (by
    rintro _ ⟨S', rfl, hf, ha⟩
    refine ⟨(S', none), ⟨hf, Or.inl ⟨rfl, fun T t1 t2 => ?_⟩⟩, fun rc23 rc => ?_⟩
    · have h5 := hmin T t1 t2
      rcases Nat.lt_or_ge m (bc T 32) with g | g
      · omega
      · have h6 := ha T t1 t2 (by omega)
        have h7 := tn_mono t2
        omega
    · show n_X12_fewest_0_b31_l F rc23 (fun S x1 x2 x3 => rc (S, x1, x2, x3)) S' A (nI m) (nI (tn A + 1)) = _
      unfold n_X12_fewest_0_b31_l
      have hlt : A < nI (tn A + 1) := by
        have := nI_lt (a := tn A) (b := tn A + 1) (by omega) (by omega)
        rwa [← eA] at this
      rw [if_pos hlt]
      simp only [zlet, nI_1]) F (M, A, nI m, 0) ⟨M, rfl, fr_rf _ _ _, fun T _ _ _ => Nat.zero_le _⟩ (by omega)
theorem m_fewest {F : Nat} (hF : 2 ^ 40 < F) {M : Zs} {n w : Nat} {cd wc : Nat → Nat} (hM : MC M n cd) (hW : WC M 4 9 w wc) {A : Int32} (hA : bnd A 16) (hEn : EnF cd n (M.1 0 8) w wc A) : ∃ q : Zs × Int32, (fr mR mK M q.1 ∧ Best A 0 (EnF cd n (M.1 0 8) w wc) q.2) ∧ n_X12_fewest_0_b23 F M A 0 = some (nI (bc q.2 32), mOne q.1 q.2) := by
  exact zfix_for (f := fun (rc : (Zs × Int32 × Int32) → Option (Int32 × Zs)) (u : (Zs × Int32 × Int32)) => n_X12_fewest_0_b23_l F  (fun S x1 x2 => rc (S, x1, x2)) u.1 u.2.1 u.2.2) 17 (fun i a => ∃ S, a = (S, A, nI i) ∧ fr mR mK M S ∧ ∀ T, EnF cd n (M.1 0 8) w wc T → sb T A → i ≤ bc T 32) (fun q : Zs × Int32 => fr mR mK M q.1 ∧ Best A 0 (EnF cd n (M.1 0 8) w wc) q.2) (fun q => some (nI (bc q.2 32), mOne q.1 q.2)) (by
    rintro i _ hi ⟨S', rfl, hf, ha⟩
    have e8 : S'.1 0 8 = M.1 0 8 := hf.1 8 (by decide)
    obtain ⟨⟨S2, o⟩, ⟨f2, ho⟩, e2⟩ := m_few1 hF (MC_fr hM hf (by decide) (by decide)) (WC_fr hW hf (by decide) (by decide) (by decide)) hA (show i ≤ 16 by omega) (by rw [e8]; exact ha)
    rw [e8] at ho
    have e : ∀ rc : (Zs × Int32 × Int32) → Option (Int32 × Zs), n_X12_fewest_0_b23_l F (fun S x1 x2 => rc (S, x1, x2)) S' A (nI i) = n_X12_fewest_0_b31 F (fun S x1 x2 => rc (S, x1, x2)) S' A (nI i) 0 := by
      intro rc
      unfold n_X12_fewest_0_b23_l
      rw [if_neg (show ¬ (16 : Int32) < nI i from fun g => by rw [c16, nI_lt_iff (by omega) (by omega)] at g; omega)]
    rcases ho with ⟨ho, hal⟩ | ⟨T, ho, hb, hB⟩
    · have ho : o = none := ho
      subst ho
      exact Or.inr ⟨(S2, A, nI (i + 1)), ⟨S2, rfl, fr_t hf f2, hal⟩, fun rc => (e rc).trans (e2 _)⟩
    · have ho : o = some T := ho
      subst ho
      refine Or.inl ⟨(S2, T), ⟨fr_t hf f2, hB⟩, fun rc => ((e rc).trans (e2 _)).trans ?_⟩
      show some (nI i, mOne S2 T) = some (nI (bc T 32), mOne S2 T)
      rw [hb]) (by
    rintro _ ⟨S', rfl, hf, ha⟩
    have h1 := ha A hEn (sb_rf _)
    have h2 := bc16 hA
    omega) F (M, A, 0) ⟨M, rfl, fr_rf _ _ _, fun T _ _ => Nat.zero_le _⟩ (by omega)
/-- fewest() -/
theorem p_fewest {Q : Zs → Nat → (Nat → Nat) → Prop} (hQ : QOK Q) {F : Nat} (hF : 2 ^ 40 < F) : S_fewest F (Rel (Kq Q)) := by
  intro X M hR
  obtain ⟨n, cd, hX, hB, q, hM, el, ed, bd, ew, bw⟩ := Rel_ctx hR
  obtain ⟨w, wc, hW1, hW2⟩ := Rel_want hR
  have hA : bnd (actv n (X.1 0 64)) n := bnd_actv hX.2.1 _
  have hA16 : bnd (actv n (X.1 0 64)) 16 := bnd_le hA hX.2.1
  have hS : SC F (s0 X 0 (-1) 0) n cd (actv n (X.1 0 64)) 0 (EnF cd n (X.1 0 65) w wc) := by
    refine ⟨fun X' f k s hs => ?_, fun s t h1 _ h2 => EnF_m h1 h2, hA16, rfl⟩
    have f' : fr cR sF X X' := fr_t (fr_s0 X 0 (-1) 0) (fr_w f (by decide) (by decide))
    obtain ⟨⟨r, X2⟩, ⟨g1, g2, g3⟩, e⟩ := x_en0 hF (XC_fr hX f' (by decide) (by decide)) k (WC_fr hW1 f' (by decide) (by decide) (by decide)) (by rw [f.1 462 (by decide)]; rfl) (bnd_sb hs hA)
    rw [f'.1 65 (by decide)] at g3
    exact ⟨r, X2, e, g1, g2, g3⟩
  obtain ⟨X2, fx, kb, hres⟩ := x_smallest hF hB hS
  obtain ⟨⟨r, M1⟩, ⟨f1, h1⟩, e1⟩ := m_followAll hF (M := zp M 0 0 0) (MC_fr hM (f0 M) (by decide) (by decide)) (WC_fr hW2 (f0 M) (by decide) (by decide) (by decide)) (actv n (M.1 0 7))
  have f1' : fr mR mK M M1 := fr_t (f0 M) f1
  have h1 : isB r (EnF cd n (M.1 0 8) w wc (actv n (M.1 0 7))) := h1
  have em : n_X12_fewest_0 F M = if r = 0 then some (-2, M1) else n_X12_fewest_0_b23 F M1 (actv n (M.1 0 7)) 0 := by
    unfold n_X12_fewest_0 n_X12_fewest_0_e zpf
    dsimp only
    rw [m_standing (M := zp M 0 0 0) hM.1, zcS]
    show zcl (n_X12_followAll_0 F (zp M 0 0 0) (actv n (M.1 0 7))) (fun v5 S4 => if v5 = 0 then some (-2, S4) else n_X12_fewest_0_b23 F S4 (actv n (M.1 0 7)) 0) = _
    rw [e1, zcS]
  rw [ew, el] at hres
  rw [ew] at hA16
  rcases hres with ⟨hno, ex⟩ | ⟨S, hbest, ex⟩
  · refine ⟨-2, X2, M1, ?_, by rw [em, if_pos ((isB_0 h1).mpr hno)], Rel_search hQ hR hX q fx kb f1'⟩
    unfold n_X11_fewest_0 n_X11_fewest_0_e
    rw [x_active hX.1, zcS, ew, ex, zcS, x_tellNone, zcS]
  · have hen : EnF cd n (M.1 0 8) w wc (actv n (M.1 0 7)) := EnF_m hbest.2.1 hbest.1
    obtain ⟨⟨M2, T⟩, ⟨f2, hB2⟩, e2⟩ := m_fewest hF (MC_fr hM f1' (by decide) (by decide)) (WC_fr hW2 f1' (by decide) (by decide) (by decide)) hA16 (by rw [f1'.1 8 (by decide)]; exact hen)
    rw [f1'.1 8 (by decide)] at hB2
    have eST : S = T := Best_eq hA16 hbest hB2
    subst eST
    have bS : bnd S 16 := bnd_sb hbest.2.1 hA16
    refine ⟨nI (bc S 32), xOne X2 S, mOne M2 S, ?_, ?_, Rel_one (Kq_ok hQ) (Rel_search hQ hR hX q fx kb (fr_t f1' f2)) S⟩
    · unfold n_X11_fewest_0 n_X11_fewest_0_e
      rw [x_active hX.1, zcS, ew, ex, zcS, x_tellSmallest X2 bS, zcS]
    · rw [em, if_neg (fun g => (isB_0 h1).mp g hen), e2]
