/-! THE CALLS alike, trusts, truth, all, empty -/
theorem x_alone {F : Nat} (hF : 2 ^ 40 < F) {X : Zs} (n : Nat) (cd : Nat → Nat) {p c : Nat} (hp : p < 2304) (hc : c < 2304) : ∃ r X2, n_X1_entailsAlone_13 F X (nI p) (nI c) = some (r, X2) ∧ fr cR cK X X2 ∧ isB r (¬ Con ([p] ++ [ct c]) (X.1 0 65)) ∧ KB X2 n cd := by
  obtain ⟨X1, e1, f1, t1⟩ := th_clear_14 hF X
  obtain ⟨X2, e2, f2, t2⟩ := th_live_14 hF t1 (by show 0 ≤ 17; omega) (X.1 0 65)
  have hl := lvN_len (X.1 0 65) 12
  obtain ⟨X3, e3, f3, t3⟩ := th_add_14 hF t2 (by rw [List.nil_append]; omega) hp
  have f4 : fr [] [264] X3 (zp X3 0 264 (-1)) := fr_p _ (by decide)
  have t4 := Th_fr t3 f4 (by decide) (by decide) (by decide) (by decide) (by decide)
  have eN : ([] ++ lvN (X.1 0 65) 12) ++ nd p = bN (X.1 0 65) [p] := by
    rw [show [p] = [] ++ [p] from rfl, bN_snoc, show bN (X.1 0 65) [] = lvN (X.1 0 65) 12 from List.append_nil _]; rfl
  rw [eN] at t4
  have hl2 := bN_len (X.1 0 65) [p]
  have hl3 : [p].length = 1 := rfl
  obtain ⟨X5, e5, f5, t5⟩ := x_against hF t4 (by omega) (ct_lt hc)
  rw [← bN_snoc] at t5
  have t5 := Th_same (Q := (· ∈ [p] ++ [ct c])) (fun d _ => by
    rw [mem_snoc]; unfold add1; show ((False ∨ d = p) ∨ d = ct c) ↔ (d ∈ [p] ∨ d = ct c); rw [List.mem_singleton]; exact ⟨fun g => g.imp (fun g => g.elim False.elim id) id, fun g => g.imp Or.inr id⟩) t5
  obtain ⟨r, hr, er⟩ := th_cons_18 hF t5
  have hr := isB_iff hr (bN_con _ _)
  have f : fr cR cK X X5 := fr_t (fr_w f1 (by decide) (by decide)) (fr_t (fr_w f2 (by decide) (by decide)) (fr_t (fr_w f3 (by decide) (by decide)) (fr_t (fr_w f4 (by decide) (by decide)) (fr_w f5 (by decide) (by decide)))))
  have kb : KB X5 n cd := Or.inl (by rw [f5.1 264 (by decide)]; rfl)
  have e : n_X1_entailsAlone_13 F X (nI p) (nI c) = if r = 0 then n_X1_entailsAlone_13_b53 F X5 1 else n_X1_entailsAlone_13_b53 F X5 0 := by
    unfold n_X1_entailsAlone_13 n_X1_entailsAlone_13_e
    rw [e1, zcS]
    unfold zgf zpf
    dsimp only
    rw [f1.1 65 (by decide), e2, zcS, e3, zcS, n_ctr F _ hc, zcS, e5, zcS, er, zcS]
  by_cases h : Con ([p] ++ [ct c]) (X.1 0 65)
  · refine ⟨0, X5, ?_, f, Or.inr ⟨rfl, fun g => g h⟩, kb⟩
    rw [e, if_neg (fun g => (isB_0 hr).mp g h)]; exact zrb_0 _
  · refine ⟨1, X5, ?_, f, Or.inl ⟨rfl, h⟩, kb⟩
    rw [e, if_pos ((isB_0 hr).mpr h)]; exact zrb_1 _
theorem m_one {F : Nat} (hF : 2 ^ 40 < F) (M : Zs) {p c : Nat} (hp : p < 2304) (hc : c < 2304) : ∃ r M2, n_X12_followsOne_0 F M (nI c) (nI p) = some (r, M2) ∧ fr mR mK M M2 ∧ isB r (¬ Con ([p] ++ [ct c]) (M.1 0 8)) := by
  have l0 : Ld (zp M 0 18 0) [] := ⟨rfl, by show 0 ≤ 18; omega, fun i c h => absurd h (by simp)⟩
  have l1 := Ld_more l0 (by show 0 < 18; omega) hp
  obtain ⟨r, M2, e2, f2, hr⟩ := m_followsLaid hF l1 (by show 1 < 18; omega) hc
  have hr : isB r (¬ Con ([p] ++ [ct c]) (M.1 0 8)) := hr
  have f : fr mR mK M (zp (zp (zp M 0 18 0) 6 0 (nI p)) 0 18 (nI 1)) := fr_t (fr_p _ (by decide)) (fr_t (fr_r _ _ (by decide) (by decide)) (fr_p _ (by decide)))
  refine ⟨r, M2, ?_, fr_t f (fw f2), hr⟩
  unfold n_X12_followsOne_0 n_X12_followsOne_0_e zpf
  dsimp only
  rw [m_laysMore l0 (by show 0 < 18; omega) hp, zcS]
  show zcl (n_X12_followsLaid_0 F (zp (zp (zp M 0 18 0) 6 ([] : List Nat).length (nI p)) 0 18 (nI (([] : List Nat).length + 1))) (nI c)) (fun v5 S4 => zrb v5 S4) = _
  rw [e2, zcS, isB_rb hr]
/-- alike(code, other) -/
theorem p_alike {Q : Zs → Nat → (Nat → Nat) → Prop} (hQ : QOK Q) {F : Nat} (hF : 2 ^ 40 < F) : S_alike F (Rel (Kq Q)) := by
  intro X M hR a b
  by_cases h : a < 0 ∨ 2303 < a
  · refine ⟨-1, X, zp M 0 0 0, ?_, ?_, hR.thrown 0⟩
    · unfold n_X11_alike_0 n_X11_alike_0_e n_X11_alike_0_b14
      rw [x_code0 h, zcS, if_pos rfl]
    · unfold n_X12_alike_0 n_X12_alike_0_e n_X12_alike_0_b19 zpf
      dsimp only
      rw [m_code0 h, zcS, if_pos rfl]
  by_cases h' : b < 0 ∨ 2303 < b
  · refine ⟨-1, X, zp M 0 0 0, ?_, ?_, hR.thrown 0⟩
    · unfold n_X11_alike_0 n_X11_alike_0_e n_X11_alike_0_b14
      rw [x_code1 h, zcS, if_neg (by decide), x_code0 h', zcS, if_pos rfl]
    · unfold n_X12_alike_0 n_X12_alike_0_e n_X12_alike_0_b19 zpf
      dsimp only
      rw [m_code1 h, zcS, if_neg (by decide), m_code0 h', zcS, if_pos rfl]
  obtain ⟨c, hc, rfl⟩ := code_of h
  obtain ⟨d, hd, rfl⟩ := code_of h'
  obtain ⟨n, cd, hX, hB, q, hM, el, -⟩ := Rel_ctx hR
  obtain ⟨r, X1, e1, f1, h1, kb1⟩ := x_alone hF (X := X) n cd hc hd
  obtain ⟨r2, X2, e2, f2, h2, kb2⟩ := x_alone hF (X := X1) n cd hd hc
  obtain ⟨s, M1, g1, k1, i1⟩ := m_one hF (zp M 0 0 0) hc hd
  obtain ⟨s2, M2, g2, k2, i2⟩ := m_one hF M1 hd hc
  have k1' := fr_t (f0 M) k1
  have i1 : isB s (¬ Con ([c] ++ [ct d]) (M.1 0 8)) := i1
  rw [k1'.1 8 (by decide)] at i2
  rw [f1.1 65 (by decide)] at h2
  rw [el] at h1 h2
  have er : r = s := isB_eq h1 i1
  have er2 : r2 = s2 := isB_eq h2 i2
  subst er er2
  have ex : n_X11_alike_0 F X (nI c) (nI d) = if r = 0 then n_X11_alike_0_b48 F X2 r r2 else (if r2 = 0 then n_X11_alike_0_b48 F X2 r r2 else some (1, X2)) := by
    unfold n_X11_alike_0 n_X11_alike_0_e
    rw [x_code1 h, zcS, if_neg (by decide), x_code1 h', zcS, if_neg (by decide), e1, zcS, e2, zcS]
  have em : n_X12_alike_0 F M (nI c) (nI d) = if r = 0 then n_X12_alike_0_b49 F M2 r r2 else (if r2 = 0 then n_X12_alike_0_b49 F M2 r r2 else some (1, M2)) := by
    unfold n_X12_alike_0 n_X12_alike_0_e zpf
    dsimp only
    rw [m_code1 h, zcS, if_neg (by decide), m_code1 h', zcS, if_neg (by decide), g1, zcS, g2, zcS]
    rfl
  have c3 := Rel_court hQ hR hX q (fr_t f1 f2) kb2 (fr_t k1' k2)
  rcases i1 with ⟨w, -⟩ | ⟨w, -⟩ <;> rcases i2 with ⟨w2, -⟩ | ⟨w2, -⟩ <;> subst w w2
  · exact ⟨1, X2, M2, by rw [ex]; rfl, by rw [em]; rfl, c3⟩
  · exact ⟨2, X2, M2, by rw [ex]; rfl, by rw [em]; rfl, c3⟩
  · exact ⟨3, X2, M2, by rw [ex]; rfl, by rw [em]; rfl, c3⟩
  · exact ⟨0, X2, M2, by rw [ex]; rfl, by rw [em]; rfl, c3⟩
-- witnesses
def Wit (S : Zs) (r n : Nat) (wt : Nat → Nat) : Prop := ∀ i, i < n → S.1 r i = nI (wt i) ∧ wt i < 8
theorem Rel_wit {K : Zs → Prop} {X M : Zs} {n : Nat} {cd : Nat → Nat} (h : Rel K X M) (hX : XC X n cd) : ∃ wt, Wit X 5 n wt ∧ Wit M 3 n wt := by
  obtain ⟨m, hm, e1, e2, hT, -⟩ := h.2.1
  have hn := hX.2.1
  have e : m = n := nI_inj (by omega) (by omega) (e1.symm.trans hX.1)
  subst e
  have k : Wit M 3 m (fun i => (M.1 3 i).toNatClampNeg) := by
    intro i hi
    obtain ⟨-, -, -, w, hw, ew⟩ := hT i hi
    show M.1 3 i = nI (M.1 3 i).toNatClampNeg ∧ (M.1 3 i).toNatClampNeg < 8
    rw [ew, nI_clamp (show w < 2 ^ 31 by omega)]; exact ⟨rfl, hw⟩
  exact ⟨_, fun i hi => by rw [(hT i hi).2.1]; exact k i hi, k⟩
theorem Wit_fr {R K : List Nat} {S S2 : Zs} {r n : Nat} {wt : Nat → Nat} (h : Wit S r n wt) (f : fr R K S S2) (h0 : r ≠ 0) (h1 : r ∉ R) : Wit S2 r n wt := fun i hi => by rw [f.2.1 r h0 h1]; exact h i hi
theorem x_activeOf {F : Nat} (hF : 2 ^ 40 < F) {X : Zs} {n : Nat} {wt : Nat → Nat} (hx : X.1 0 62 = nI n) (hn : n ≤ 16) (hw : Wit X 5 n wt) (W : Int32) : ∃ v, isW v n (fun k => hb W (wt k) = true) ∧ n_X2_activeOf_3 F X W = some (v &&& actv n (X.1 0 64), X) := by
  exact zfix_for (f := fun (rc : (Zs × Int32 × Int32 × Int32) → Option (Int32 × Zs)) (u : (Zs × Int32 × Int32 × Int32)) => n_X2_activeOf_3_b4_l F  (fun S x1 x2 x3 => rc (S, x1, x2, x3)) u.1 u.2.1 u.2.2.1 u.2.2.2) n (fun i a => ∃ v, a = (X, W, v, nI i) ∧ isW v i (fun k => hb W (wt k) = true)) (fun v : Int32 => isW v n (fun k => hb W (wt k) = true)) (fun v => some (v &&& actv n (X.1 0 64), X)) (by
    rintro i _ hi ⟨v, rfl, hv⟩
    obtain ⟨k1, k2⟩ := hw i hi
    have e : ∀ rc : (Zs × Int32 × Int32 × Int32) → Option (Int32 × Zs), n_X2_activeOf_3_b4_l F (fun S x1 x2 x3 => rc (S, x1, x2, x3)) X W v (nI i) = if hb W (wt i) = false then rc (X, W, v, nI (i + 1)) else rc (X, W, v ||| ((1 : Int32) <<< (nI i &&& 31)), nI (i + 1)) := by
      intro rc
      unfold n_X2_activeOf_3_b4_l n_X2_activeOf_3_b31
      simp (disch := omega) only [zgf, hx, nI_le_iff, zld_nI, k1, hb_sh0, zlet, nI_1]
      rw [if_neg (by omega)]
    cases hbit : hb W (wt i) with
    | false => exact Or.inr ⟨(X, W, v, nI (i + 1)), ⟨v, rfl, isW_f hv (by rw [hbit]; decide)⟩, fun rc => (e rc).trans (if_pos hbit)⟩
    | true => exact Or.inr ⟨(X, W, v ||| ((1 : Int32) <<< (nI i &&& 31)), nI (i + 1)), ⟨_, rfl, isW_t hv (by omega) hbit⟩, fun rc => (e rc).trans (if_neg (by rw [hbit]; decide))⟩) (by
    rintro _ ⟨v, rfl, hv⟩
    refine ⟨v, hv, fun rc => ?_⟩
    show n_X2_activeOf_3_b4_l F (fun S x1 x2 x3 => rc (S, x1, x2, x3)) X W v (nI n) = _
    unfold n_X2_activeOf_3_b4_l
    simp (disch := omega) only [zgf, hx, nI_le_iff]
    rw [if_pos (by omega), x_active hx, zcS]) F (X, W, 0, 0) ⟨0, rfl, isW_0 _⟩ (by omega)
theorem m_saidBy {F : Nat} (hF : 2 ^ 40 < F) {M : Zs} {n : Nat} {wt : Nat → Nat} (hx : M.1 0 3 = nI n) (hn : n ≤ 16) (hw : Wit M 3 n wt) (W : Int32) : ∃ v, isW v n (fun k => hb W (wt k) = true) ∧ n_X12_saidBy_0 F M W = some (v, M) := by
  exact zfix_for (f := fun (rc : (Zs × Int32 × Int32 × Int32) → Option (Int32 × Zs)) (u : (Zs × Int32 × Int32 × Int32)) => n_X12_saidBy_0_b4_l F  (fun S x1 x2 x3 => rc (S, x1, x2, x3)) u.1 u.2.1 u.2.2.1 u.2.2.2) n (fun i a => ∃ v, a = (M, W, v, nI i) ∧ isW v i (fun k => hb W (wt k) = true)) (fun v : Int32 => isW v n (fun k => hb W (wt k) = true)) (fun v => some (v, M)) (by
    rintro i _ hi ⟨v, rfl, hv⟩
    obtain ⟨k1, k2⟩ := hw i hi
    have e : ∀ rc : (Zs × Int32 × Int32 × Int32) → Option (Int32 × Zs), n_X12_saidBy_0_b4_l F (fun S x1 x2 x3 => rc (S, x1, x2, x3)) M W v (nI i) = if ¬ hb W (wt i) = true then rc (M, W, v, nI (i + 1)) else rc (M, W, v ||| ((1 : Int32) <<< (nI i &&& 31)), nI (i + 1)) := by
      intro rc
      unfold n_X12_saidBy_0_b4_l n_X12_saidBy_0_b33
      simp (disch := omega) only [zgf, hx, nI_le_iff, zld_nI, k1, e_has, zcS, bI_eq0, zlet, nI_1, or_0]
      rw [if_neg (by omega)]
    by_cases hbit : hb W (wt i) = true
    · exact Or.inr ⟨(M, W, v ||| ((1 : Int32) <<< (nI i &&& 31)), nI (i + 1)), ⟨_, rfl, isW_t hv (by omega) hbit⟩, fun rc => (e rc).trans (if_neg (fun g => g hbit))⟩
    · exact Or.inr ⟨(M, W, v, nI (i + 1)), ⟨v, rfl, isW_f hv hbit⟩, fun rc => (e rc).trans (if_pos hbit)⟩) (by
    rintro _ ⟨v, rfl, hv⟩
    refine ⟨v, hv, fun rc => ?_⟩
    show n_X12_saidBy_0_b4_l F (fun S x1 x2 x3 => rc (S, x1, x2, x3)) M W v (nI n) = _
    unfold n_X12_saidBy_0_b4_l
    simp (disch := omega) only [zgf, hx, nI_le_iff]
    rw [if_pos (by omega)]) F (M, W, 0, 0) ⟨0, rfl, isW_0 _⟩ (by omega)
/-- trusts(witnesses, code) -/
theorem p_trusts {Q : Zs → Nat → (Nat → Nat) → Prop} (hQ : QOK Q) {F : Nat} (hF : 2 ^ 40 < F) : S_trusts F (Rel (Kq Q)) := by
  intro X M hR b a
  have hin : ∀ S, n_X12_in F S b.toInt64 0 255 = some (bI (¬ b < 0 ∧ ¬ 255 < b), S) := fun S => e_X12_in F S b 0 255
  by_cases hb : b < 0 ∨ 255 < b
  · refine ⟨-1, X, zp M 0 0 0, ?_, ?_, hR.thrown 0⟩
    · unfold n_X11_trusts_0 n_X11_trusts_0_e n_X11_trusts_0_b18
      by_cases h1 : b < 0
      · rw [if_pos h1]
      · rw [if_neg h1, if_pos (hb.resolve_left h1)]
    · unfold n_X12_trusts_0 n_X12_trusts_0_e n_X12_trusts_0_b24 zpf
      dsimp only
      rw [hin, zcS, if_pos (bI_f (fun g => hb.elim g.1 g.2))]
  by_cases h : a < 0 ∨ 2303 < a
  · refine ⟨-1, X, zp M 0 0 0, ?_, ?_, hR.thrown 0⟩
    · unfold n_X11_trusts_0 n_X11_trusts_0_e n_X11_trusts_0_b18
      rw [if_neg (fun g => hb (Or.inl g)), if_neg (fun g => hb (Or.inr g)), x_code0 h, zcS, if_pos rfl]
    · unfold n_X12_trusts_0 n_X12_trusts_0_e n_X12_trusts_0_b24 zpf
      dsimp only
      rw [hin, zcS, bI_t ⟨fun g => hb (Or.inl g), fun g => hb (Or.inr g)⟩, if_neg (by decide), m_code0 h, zcS, if_pos rfl]
  obtain ⟨c, hc, rfl⟩ := code_of h
  obtain ⟨n, cd, hX, hB, q, hM, el, ed, bd, ew, bw⟩ := Rel_ctx hR
  obtain ⟨wt, hw1, hw2⟩ := Rel_wit hR hX
  obtain ⟨v, hv, ev⟩ := x_activeOf hF hX.1 hX.2.1 hw1 b
  obtain ⟨v', hv', ev'⟩ := m_saidBy hF (M := zp M 0 0 0) hM.1 hM.2.1 hw2 b
  have e : v = v' := isW_eq hv hv' (fun _ _ => Iff.rfl)
  subst e
  obtain ⟨r, X1, e1, f1, h1, kb1⟩ := x_entails hF hX hB (show bnd (v &&& actv n (X.1 0 64)) n from bnd_and _ (isW_bnd hv)) hc
  obtain ⟨s, M1, g1, k1, i1⟩ := m_followsFrom hF (MC_fr hM (f0 M) (by decide) (by decide)) (actv n (M.1 0 7) &&& v) hc
  have i1 : isB s (¬ Con (sel cd (actv n (M.1 0 7) &&& v) n ++ [ct c]) (M.1 0 8)) := i1
  rw [ew, el, Int32.and_comm] at h1
  have er : r = s := isB_eq h1 i1
  subst er
  refine ⟨r, X1, M1, ?_, ?_, Rel_court hQ hR hX q f1 kb1 (fr_t (f0 M) (fw k1))⟩
  · unfold n_X11_trusts_0 n_X11_trusts_0_e n_X11_trusts_0_b44
    rw [if_neg (fun g => hb (Or.inl g)), if_neg (fun g => hb (Or.inr g)), x_code1 h, zcS, if_neg (by decide), ev, zcS, e1, zcS]
    rcases i1 with ⟨w, -⟩ | ⟨w, -⟩ <;> rw [w] <;> rfl
  · unfold n_X12_trusts_0 n_X12_trusts_0_e zpf
    dsimp only
    rw [hin, zcS, bI_t ⟨fun g => hb (Or.inl g), fun g => hb (Or.inr g)⟩, if_neg (by decide), m_code1 h, zcS, if_neg (by decide), m_standing (M := zp M 0 0 0) hM.1, zcS, ev', zcS]
    show zcl (n_X12_followsFrom_0 F (zp M 0 0 0) (actv n (M.1 0 7) &&& v) (nI c)) _ = _
    rw [g1, zcS, isB_flag i1, zcS]
-- all, empty
theorem x_all {F : Nat} (hF : 2 ^ 40 < F) {X : Zs} {P : Nat → Prop} {N : List (Nat × Nat)} (hT : Th 15 16 17 283 284 X P N) {x : Nat} (hx : x < 24) : ∃ v, isW v 24 (fun y => ¬ Can P x (y ^^^ 1)) ∧ n_X1_allThatAre_13_b17 F X (nI x) 0 0 = some (v, X) := by
  exact zfix_for (f := fun (rc : (Zs × Int32 × Int32 × Int32) → Option (Int32 × Zs)) (u : (Zs × Int32 × Int32 × Int32)) => n_X1_allThatAre_13_b17_l F  (fun S x1 x2 x3 => rc (S, x1, x2, x3)) u.1 u.2.1 u.2.2.1 u.2.2.2) 24 (fun i a => ∃ v, a = (X, nI x, v, nI i) ∧ isW v i (fun y => ¬ Can P x (y ^^^ 1))) (fun v : Int32 => isW v 24 (fun y => ¬ Can P x (y ^^^ 1))) (fun v => some (v, X)) (by
    rintro i _ hi ⟨v, rfl, hv⟩
    have hi1 := x1_lt hi
    obtain ⟨r, hr, er⟩ := th_can_14 (F := F) hT hx hi1
    have e : ∀ rc : (Zs × Int32 × Int32 × Int32) → Option (Int32 × Zs), n_X1_allThatAre_13_b17_l F (fun S x1 x2 x3 => rc (S, x1, x2, x3)) X (nI x) v (nI i) = if r = 0 then rc (X, nI x, v ||| ((1 : Int32) <<< (nI i &&& 31)), nI (i + 1)) else rc (X, nI x, v, nI (i + 1)) := by
      intro rc
      unfold n_X1_allThatAre_13_b17_l n_X1_allThatAre_13_b43
      simp (disch := omega) only [c24, nI_le_iff, nI_x1, er, zcS, zlet, nI_1]
      rw [if_neg (by omega)]
    by_cases hcan : Can P x (i ^^^ 1)
    · exact Or.inr ⟨(X, nI x, v, nI (i + 1)), ⟨v, rfl, isW_f hv (fun g => g hcan)⟩, fun rc => (e rc).trans (if_neg (fun g => (isB_0 hr).mp g hcan))⟩
    · exact Or.inr ⟨(X, nI x, v ||| ((1 : Int32) <<< (nI i &&& 31)), nI (i + 1)), ⟨_, rfl, isW_t hv (by omega) hcan⟩, fun rc => (e rc).trans (if_pos ((isB_0 hr).mpr hcan))⟩) (by
    rintro _ ⟨v, rfl, hv⟩
    refine ⟨v, hv, fun rc => ?_⟩
    show n_X1_allThatAre_13_b17_l F (fun S x1 x2 x3 => rc (S, x1, x2, x3)) X (nI x) v (nI 24) = _
    unfold n_X1_allThatAre_13_b17_l
    rw [c24, if_pos (nI_le (by omega) (by omega))]) F (X, nI x, 0, 0) ⟨0, rfl, isW_0 _⟩ (by omega)
theorem m_all {F : Nat} (hF : 2 ^ 40 < F) {M : Zs} {P : Nat → Prop} (hT : TB M 7 P) (hB : isB (M.1 0 20) (¬ Br P)) {x : Nat} (hx : x < 24) : ∃ v, isW v 24 (fun y => ¬ Can P x (y ^^^ 1)) ∧ n_X12_all_0_b22 F M (nI x) 0 0 = some (v, M) := by
  exact zfix_for (f := fun (rc : (Zs × Int32 × Int32 × Int32) → Option (Int32 × Zs)) (u : (Zs × Int32 × Int32 × Int32)) => n_X12_all_0_b22_l F  (fun S x1 x2 x3 => rc (S, x1, x2, x3)) u.1 u.2.1 u.2.2.1 u.2.2.2) 24 (fun i a => ∃ v, a = (M, nI x, v, nI i) ∧ isW v i (fun y => ¬ Can P x (y ^^^ 1))) (fun v : Int32 => isW v 24 (fun y => ¬ Can P x (y ^^^ 1))) (fun v => some (v, M)) (by
    rintro i _ hi ⟨v, rfl, hv⟩
    have hi1 := x1_lt hi
    obtain ⟨r, hr, er⟩ := m_can (F := F) hT hB hx hi1
    have e : ∀ rc : (Zs × Int32 × Int32 × Int32) → Option (Int32 × Zs), n_X12_all_0_b22_l F (fun S x1 x2 x3 => rc (S, x1, x2, x3)) M (nI x) v (nI i) = if r = 0 then rc (M, nI x, v ||| ((1 : Int32) <<< (nI i &&& 31)), nI (i + 1)) else rc (M, nI x, v, nI (i + 1)) := by
      intro rc
      unfold n_X12_all_0_b22_l n_X12_all_0_b47
      simp (disch := omega) only [c24, nI_le_iff, nI_x1, er, zcS, zlet, nI_1, or_0]
      rw [if_neg (by omega)]
    by_cases hcan : Can P x (i ^^^ 1)
    · exact Or.inr ⟨(M, nI x, v, nI (i + 1)), ⟨v, rfl, isW_f hv (fun g => g hcan)⟩, fun rc => (e rc).trans (if_neg (fun g => (isB_0 hr).mp g hcan))⟩
    · exact Or.inr ⟨(M, nI x, v ||| ((1 : Int32) <<< (nI i &&& 31)), nI (i + 1)), ⟨_, rfl, isW_t hv (by omega) hcan⟩, fun rc => (e rc).trans (if_pos ((isB_0 hr).mpr hcan))⟩) (by
    rintro _ ⟨v, rfl, hv⟩
    refine ⟨v, hv, fun rc => ?_⟩
    show n_X12_all_0_b22_l F (fun S x1 x2 x3 => rc (S, x1, x2, x3)) M (nI x) v (nI 24) = _
    unfold n_X12_all_0_b22_l
    rw [c24, if_pos (nI_le (by omega) (by omega))]) F (M, nI x, 0, 0) ⟨0, rfl, isW_0 _⟩ (by omega)
theorem m_closesStanding {F : Nat} (hF : 2 ^ 40 < F) {M : Zs} {n : Nat} {cd : Nat → Nat} (hM : MC M n cd) : ∃ M2, n_X12_closesStanding_0 F M = some (0, M2) ∧ fr [6, 7] [18, 20] M M2 ∧ TB M2 7 (· ∈ sel cd (actv n (M.1 0 7)) n) ∧ isB (M2.1 0 20) (¬ Br (· ∈ sel cd (actv n (M.1 0 7)) n)) ∧ Ld M2 (sel cd (actv n (M.1 0 7)) n) := by
  obtain ⟨M1, e1, f1, l1⟩ := m_lays hF hM.1 hM.2.1 hM.2.2 (actv n (M.1 0 7))
  obtain ⟨M2, e2, f2, t2, b2⟩ := m_closes hF l1
  refine ⟨M2, ?_, fr_t (fr_w f1 (by decide) (by decide)) (fr_w f2 (by decide) (by decide)), t2, b2, Ld_fr l1 f2 (by decide) (by decide)⟩
  unfold n_X12_closesStanding_0 n_X12_closesStanding_0_e
  rw [m_standing hM.1, zcS, e1, zcS, e2, zcS]
theorem l23 (x : Int32) : (23 : Int32) < x ↔ 24 ≤ x := nI_lt_le x (n := 23) (by decide)
theorem term_of {a : Int32} (h : ¬ (a < 0 ∨ 23 < a)) : ∃ c, c < 24 ∧ a = nI c := in_nI (n := 24) (by decide) (fun g => h (Or.inl g)) (fun g => h (Or.inr ((l23 a).mpr g)))
theorem x_term0 {F : Nat} {X : Zs} {a : Int32} (h : a < 0 ∨ 23 < a) : n_X0_isTerm F X a = some (0, X) := by
  rw [e_X0_isTerm, bI_f (fun g => h.elim g.1 (fun q => g.2 ((l23 a).mp q)))]
theorem x_term1 {F : Nat} {X : Zs} {a : Int32} (h : ¬ (a < 0 ∨ 23 < a)) : n_X0_isTerm F X a = some (1, X) := by
  rw [e_X0_isTerm, bI_t ⟨fun g => h (Or.inl g), fun g => h (Or.inr ((l23 a).mpr g))⟩]
theorem m_term0 {F : Nat} {M : Zs} {a : Int32} (h : a < 0 ∨ 23 < a) : n_X12_isTerm F M a = some (0, M) := by
  rw [e_X12_isTerm, bI_f (fun g => h.elim g.1 g.2)]
theorem m_term1 {F : Nat} {M : Zs} {a : Int32} (h : ¬ (a < 0 ∨ 23 < a)) : n_X12_isTerm F M a = some (1, M) := by
  rw [e_X12_isTerm, bI_t ⟨fun g => h (Or.inl g), fun g => h (Or.inr g)⟩]
/-- all(term) -/
theorem p_all {Q : Zs → Nat → (Nat → Nat) → Prop} (hQ : QOK Q) {F : Nat} (hF : 2 ^ 40 < F) : S_all F (Rel (Kq Q)) := by
  intro X M hR a
  by_cases h : a < 0 ∨ 23 < a
  · refine ⟨-1, X, zp M 0 0 0, ?_, ?_, hR.thrown 0⟩
    · unfold n_X11_all_0 n_X11_all_0_e n_X11_all_0_b19
      rw [x_term0 h, zcS, if_pos rfl]
    · unfold n_X12_all_0 n_X12_all_0_e zpf
      dsimp only
      rw [m_term0 h, zcS, if_pos rfl]
  obtain ⟨x, hx, rfl⟩ := term_of h
  obtain ⟨n, cd, hX, hB, q, hM, el, ed, bd, ew, bw⟩ := Rel_ctx hR
  have bA := bnd_actv hX.2.1 (X.1 0 64)
  obtain ⟨X1, e1, f1, t1, k1, k2⟩ := x_prep hF hX hB bA
  obtain ⟨v, hv, ev⟩ := x_all hF t1 hx
  obtain ⟨M1, g1, f2, t2, b2, -⟩ := m_closesStanding hF (MC_fr hM (f0 M) (by decide) (by decide))
  obtain ⟨v', hv', ev'⟩ := m_all hF t2 b2 hx
  rw [ew] at hv
  have e : v = v' := isW_eq hv hv' (fun _ _ => Iff.rfl)
  subst e
  refine ⟨v, X1, M1, ?_, ?_, Rel_court hQ hR hX q (fr_w f1 (by decide) (by decide)) (KB_of bA k1 k2 t1 (fr_rf _ _ _)) (fr_t (f0 M) (fw f2))⟩
  · unfold n_X11_all_0 n_X11_all_0_e n_X11_all_0_b19 n_X1_allThatAre_13 n_X1_allThatAre_13_e
    rw [x_term1 h, zcS, if_neg (by decide), x_active hX.1, zcS, e1, zcS, ev, zcS]
  · unfold n_X12_all_0 n_X12_all_0_e zpf
    dsimp only
    rw [m_term1 h, zcS, if_neg (by decide), g1, zcS, ev']
theorem x_empty {F : Nat} (hF : 2 ^ 40 < F) {X : Zs} {P : Nat → Prop} {N : List (Nat × Nat)} (hT : Th 15 16 17 283 284 X P N) : ∃ v, isW v 24 (fun y => ¬ Can P y y) ∧ n_X1_nobodyIs_13_b16 F X 0 0 = some (v, X) := by
  exact zfix_for (f := fun (rc : (Zs × Int32 × Int32) → Option (Int32 × Zs)) (u : (Zs × Int32 × Int32)) => n_X1_nobodyIs_13_b16_l F  (fun S x2 x3 => rc (S, x2, x3)) u.1 u.2.1 u.2.2) 24 (fun i a => ∃ v, a = (X, v, nI i) ∧ isW v i (fun y => ¬ Can P y y)) (fun v : Int32 => isW v 24 (fun y => ¬ Can P y y)) (fun v => some (v, X)) (by
    rintro i _ hi ⟨v, rfl, hv⟩
    obtain ⟨r, hr, er⟩ := th_can_14 (F := F) hT hi hi
    have e : ∀ rc : (Zs × Int32 × Int32) → Option (Int32 × Zs), n_X1_nobodyIs_13_b16_l F (fun S x2 x3 => rc (S, x2, x3)) X v (nI i) = if r = 0 then rc (X, v ||| ((1 : Int32) <<< (nI i &&& 31)), nI (i + 1)) else rc (X, v, nI (i + 1)) := by
      intro rc
      unfold n_X1_nobodyIs_13_b16_l n_X1_nobodyIs_13_b37
      simp (disch := omega) only [c24, nI_le_iff, er, zcS, zlet, nI_1]
      rw [if_neg (by omega)]
    by_cases hcan : Can P i i
    · exact Or.inr ⟨(X, v, nI (i + 1)), ⟨v, rfl, isW_f hv (fun g => g hcan)⟩, fun rc => (e rc).trans (if_neg (fun g => (isB_0 hr).mp g hcan))⟩
    · exact Or.inr ⟨(X, v ||| ((1 : Int32) <<< (nI i &&& 31)), nI (i + 1)), ⟨_, rfl, isW_t hv (by omega) hcan⟩, fun rc => (e rc).trans (if_pos ((isB_0 hr).mpr hcan))⟩) (by
    rintro _ ⟨v, rfl, hv⟩
    refine ⟨v, hv, fun rc => ?_⟩
    show n_X1_nobodyIs_13_b16_l F (fun S x2 x3 => rc (S, x2, x3)) X v (nI 24) = _
    unfold n_X1_nobodyIs_13_b16_l
    rw [c24, if_pos (nI_le (by omega) (by omega))]) F (X, 0, 0) ⟨0, rfl, isW_0 _⟩ (by omega)
theorem m_empty {F : Nat} (hF : 2 ^ 40 < F) {M : Zs} {P : Nat → Prop} (hT : TB M 7 P) (hB : isB (M.1 0 20) (¬ Br P)) : ∃ v, isW v 24 (fun y => ¬ Can P y y) ∧ n_X12_empty_0_b13 F M 0 0 = some (v, M) := by
  exact zfix_for (f := fun (rc : (Zs × Int32 × Int32) → Option (Int32 × Zs)) (u : (Zs × Int32 × Int32)) => n_X12_empty_0_b13_l F  (fun S x2 x3 => rc (S, x2, x3)) u.1 u.2.1 u.2.2) 24 (fun i a => ∃ v, a = (M, v, nI i) ∧ isW v i (fun y => ¬ Can P y y)) (fun v : Int32 => isW v 24 (fun y => ¬ Can P y y)) (fun v => some (v, M)) (by
    rintro i _ hi ⟨v, rfl, hv⟩
    obtain ⟨r, hr, er⟩ := m_can (F := F) hT hB hi hi
    have e : ∀ rc : (Zs × Int32 × Int32) → Option (Int32 × Zs), n_X12_empty_0_b13_l F (fun S x2 x3 => rc (S, x2, x3)) M v (nI i) = if r = 0 then rc (M, v ||| ((1 : Int32) <<< (nI i &&& 31)), nI (i + 1)) else rc (M, v, nI (i + 1)) := by
      intro rc
      unfold n_X12_empty_0_b13_l n_X12_empty_0_b36
      simp (disch := omega) only [c24, nI_le_iff, er, zcS, zlet, nI_1, or_0]
      rw [if_neg (by omega)]
    by_cases hcan : Can P i i
    · exact Or.inr ⟨(M, v, nI (i + 1)), ⟨v, rfl, isW_f hv (fun g => g hcan)⟩, fun rc => (e rc).trans (if_neg (fun g => (isB_0 hr).mp g hcan))⟩
    · exact Or.inr ⟨(M, v ||| ((1 : Int32) <<< (nI i &&& 31)), nI (i + 1)), ⟨_, rfl, isW_t hv (by omega) hcan⟩, fun rc => (e rc).trans (if_pos ((isB_0 hr).mpr hcan))⟩) (by
    rintro _ ⟨v, rfl, hv⟩
    refine ⟨v, hv, fun rc => ?_⟩
    show n_X12_empty_0_b13_l F (fun S x2 x3 => rc (S, x2, x3)) M v (nI 24) = _
    unfold n_X12_empty_0_b13_l
    rw [c24, if_pos (nI_le (by omega) (by omega))]) F (M, 0, 0) ⟨0, rfl, isW_0 _⟩ (by omega)
/-- empty() -/
theorem p_empty {Q : Zs → Nat → (Nat → Nat) → Prop} (hQ : QOK Q) {F : Nat} (hF : 2 ^ 40 < F) : S_empty F (Rel (Kq Q)) := by
  intro X M hR
  obtain ⟨n, cd, hX, hB, q, hM, el, ed, bd, ew, bw⟩ := Rel_ctx hR
  have bA := bnd_actv hX.2.1 (X.1 0 64)
  obtain ⟨X1, e1, f1, t1, k1, k2⟩ := x_prep hF hX hB bA
  obtain ⟨v, hv, ev⟩ := x_empty hF t1
  obtain ⟨M1, g1, f2, t2, b2, -⟩ := m_closesStanding hF (MC_fr hM (f0 M) (by decide) (by decide))
  obtain ⟨v', hv', ev'⟩ := m_empty hF t2 b2
  rw [ew] at hv
  have e : v = v' := isW_eq hv hv' (fun _ _ => Iff.rfl)
  subst e
  refine ⟨v, X1, M1, ?_, ?_, Rel_court hQ hR hX q (fr_w f1 (by decide) (by decide)) (KB_of bA k1 k2 t1 (fr_rf _ _ _)) (fr_t (f0 M) (fw f2))⟩
  · unfold n_X11_empty_0 n_X11_empty_0_e n_X1_nobodyIs_13 n_X1_nobodyIs_13_e
    rw [x_active hX.1, zcS, e1, zcS, ev, zcS]
  · unfold n_X12_empty_0 n_X12_empty_0_e zpf
    dsimp only
    rw [g1, zcS, ev']
