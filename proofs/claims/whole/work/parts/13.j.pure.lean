-- theory 18
theorem th_req_18 {F : Nat} {S : Zs} {P : Nat → Prop} {N : List (Nat × Nat)} (h : Th 19 20 21 363 364 S P N) (hn : N.length < 29) {x y : Nat} (hx : x < 24) (hy : y < 24) : ∃ S2, n_X9_require_18 F S (nI x) (nI y) = some (0, S2) ∧ fr [20, 21] [363] S S2 ∧ Th 19 20 21 363 364 S2 P (N ++ [(x, y)]) := by
  refine ⟨zp (zp (zp S 20 N.length (nI x)) 21 N.length (nI y)) 0 363 (nI (N.length + 1)), ?_, fr_t (fr_r _ _ (by decide) (by decide)) (fr_t (fr_r _ _ (by decide) (by decide)) (fr_p _ (by decide))), Th_req h hn hx hy (by decide) (by decide) (by decide) (by decide) (by decide) (by decide) (by decide)⟩
  unfold n_X9_require_18 n_X9_require_18_e n_X9_require_18_b39
  obtain ⟨-, -, h3, -, -⟩ := h
  have e1 : (zp S 20 N.length (nI x)).1 0 363 = nI N.length := h3
  have e2 : (zp (zp S 20 N.length (nI x)) 21 N.length (nI y)).1 0 363 = nI N.length := h3
  simp (disch := omega) only [zgf, zpf, h3, c29, nI_le_iff, zst_nI, e1, e2, nI_1]
  rw [if_neg (by omega)]
theorem th_l16_18 {F : Nat} (hF : 2 ^ 40 < F) (S : Zs) {x y : Nat} (hx : x < 24) (hy : y < 24) : ∃ S2, (fr [19] [364] S S2 ∧ S2.1 0 364 = S.1 0 364 ∧ ∀ t, t < 24 → S2.1 19 t = upR (S.1 19) x y t) ∧ n_X9_imply_18_b16 F S (nI x) (nI y) 0 = n_X9_imply_18_b58 F S2 (nI x) (nI y) 0 := by
  have key := zfix_for (f := fun (rc : (Zs × Int32 × Int32 × Int32) → Option (Int32 × Zs)) (u : (Zs × Int32 × Int32 × Int32)) => n_X9_imply_18_b16_l F  (fun S x1 x2 x3 => rc (S, x1, x2, x3)) u.1 u.2.1 u.2.2.1 u.2.2.2) 24 (fun i a => a.2.1 = nI x ∧ a.2.2.1 = nI y ∧ a.2.2.2 = nI i ∧ fr [19] [364] S a.1 ∧ a.1.1 0 364 = S.1 0 364 ∧ ∀ t, t < 24 → a.1.1 19 t = if t < i then upR (S.1 19) x y t else S.1 19 t) (fun c : Zs => fr [19] [364] S c ∧ c.1 0 364 = S.1 0 364 ∧ ∀ t, t < 24 → c.1 19 t = upR (S.1 19) x y t) (fun c => n_X9_imply_18_b58 F c (nI x) (nI y) 0) (by
    rintro i ⟨S', a, b, c⟩ hi ⟨ha, hb', hc, hf, hz, hT⟩
    have ha : a = nI x := ha
    have hb' : b = nI y := hb'
    have hc : c = nI i := hc
    subst ha hb' hc
    have hf : fr [19] [364] S S' := hf
    have hz : S'.1 0 364 = S.1 0 364 := hz
    have hT : ∀ t, t < 24 → S'.1 19 t = if t < i then upR (S.1 19) x y t else S.1 19 t := hT
    have ri : S'.1 19 i = S.1 19 i := by rw [hT i hi, if_neg (by omega)]
    have ry : S'.1 19 y = S.1 19 y := by
      rw [hT y hy]
      split
      · exact upR_y _ _ _
      · rfl
    cases hbit : hb (S.1 19 i) x with
    | false =>
      refine Or.inr ⟨(S', nI x, nI y, nI (i + 1)), ⟨rfl, rfl, rfl, hf, hz, fun t ht => ?_⟩, fun rc => ?_⟩
      · show S'.1 19 t = _
        rw [hT t ht]
        by_cases e : t = i
        · subst e; rw [if_neg (by omega), if_pos (by omega)]; unfold upR; rw [if_neg (by rw [hbit]; decide)]
        · by_cases e2 : t < i
          · rw [if_pos e2, if_pos (by omega)]
          · rw [if_neg e2, if_neg (by omega)]
      · show n_X9_imply_18_b16_l F (fun S x1 x2 x3 => rc (S, x1, x2, x3)) S' (nI x) (nI y) (nI i) = _
        unfold n_X9_imply_18_b16_l n_X9_imply_18_b50
        simp (disch := omega) only [c24, nI_le_iff, zld_nI, zlet, nI_1, hb_sh0, ri]
        rw [if_neg (by omega), if_pos hbit]
    | true =>
      refine Or.inr ⟨(zp S' 19 i (S.1 19 i ||| S.1 19 y), nI x, nI y, nI (i + 1)), ⟨rfl, rfl, rfl, fr_t hf (fr_r _ _ (by decide) (by decide)), hz, fun t ht => ?_⟩, fun rc => ?_⟩
      · show (zp S' 19 i (S.1 19 i ||| S.1 19 y)).1 19 t = _
        by_cases e : t = i
        · subst e; rw [zp_at, if_pos (by omega)]; unfold upR; rw [if_pos hbit]
        · rw [zp_off _ _ (Or.inr e), hT t ht]
          by_cases e2 : t < i
          · rw [if_pos e2, if_pos (by omega)]
          · rw [if_neg e2, if_neg (by omega)]
      · show n_X9_imply_18_b16_l F (fun S x1 x2 x3 => rc (S, x1, x2, x3)) S' (nI x) (nI y) (nI i) = _
        unfold n_X9_imply_18_b16_l n_X9_imply_18_b50
        simp (disch := omega) only [c24, nI_le_iff, zld_nI, zst_nI, zlet, nI_1, hb_sh0, ri, ry]
        rw [if_neg (by omega), if_neg (by rw [hbit]; decide)]) (by
    rintro ⟨S', a, b, c⟩ ⟨ha, hb', hc, hf, hz, hT⟩
    have ha : a = nI x := ha
    have hb' : b = nI y := hb'
    have hc : c = nI 24 := hc
    subst ha hb' hc
    refine ⟨S', ⟨hf, hz, fun t ht => by rw [show S'.1 19 t = _ from hT t ht, if_pos ht]⟩, fun rc => ?_⟩
    show n_X9_imply_18_b16_l F (fun S x1 x2 x3 => rc (S, x1, x2, x3)) S' (nI x) (nI y) (nI 24) = _
    unfold n_X9_imply_18_b16_l
    simp (disch := omega) only [c24, nI_le_iff]
    rw [if_pos (by omega)]) F (S, nI x, nI y, 0) ⟨rfl, rfl, rfl, fr_rf _ _ _, rfl, fun t _ => by rw [if_neg (by omega)]⟩ (by omega)
  exact key
theorem th_l58_18 {F : Nat} (hF : 2 ^ 40 < F) (S : Zs) {x y : Nat} (hx : x < 24) (hy : y < 24) : ∃ S2, (fr [19] [364] S S2 ∧ (∀ t, t < 24 → S2.1 19 t = upR (S.1 19) (y ^^^ 1) (x ^^^ 1) t) ∧ S2.1 0 364 = if hb (S2.1 19 x) (x ^^^ 1) = true ∧ hb (S2.1 19 (x ^^^ 1)) x = true then 1 else S.1 0 364) ∧ n_X9_imply_18_b58 F S (nI x) (nI y) 0 = some (0, S2) := by
  have hx1 := x1_lt hx
  have hy1 := x1_lt hy
  have key := zfix_for (f := fun (rc : (Zs × Int32 × Int32 × Int32) → Option (Int32 × Zs)) (u : (Zs × Int32 × Int32 × Int32)) => n_X9_imply_18_b58_l F  (fun S x1 x2 x3 => rc (S, x1, x2, x3)) u.1 u.2.1 u.2.2.1 u.2.2.2) 24 (fun i a => a.2.1 = nI x ∧ a.2.2.1 = nI y ∧ a.2.2.2 = nI i ∧ fr [19] [364] S a.1 ∧ a.1.1 0 364 = S.1 0 364 ∧ ∀ t, t < 24 → a.1.1 19 t = if t < i then upR (S.1 19) (y ^^^ 1) (x ^^^ 1) t else S.1 19 t) (fun c : Zs => fr [19] [364] S c ∧ (∀ t, t < 24 → c.1 19 t = upR (S.1 19) (y ^^^ 1) (x ^^^ 1) t) ∧ c.1 0 364 = if hb (c.1 19 x) (x ^^^ 1) = true ∧ hb (c.1 19 (x ^^^ 1)) x = true then 1 else S.1 0 364) (fun c => some (0, c)) (by
    rintro i ⟨S', a, b, c⟩ hi ⟨ha, hb', hc, hf, hz, hT⟩
    have ha : a = nI x := ha
    have hb' : b = nI y := hb'
    have hc : c = nI i := hc
    subst ha hb' hc
    have hf : fr [19] [364] S S' := hf
    have hz : S'.1 0 364 = S.1 0 364 := hz
    have hT : ∀ t, t < 24 → S'.1 19 t = if t < i then upR (S.1 19) (y ^^^ 1) (x ^^^ 1) t else S.1 19 t := hT
    have ri : S'.1 19 i = S.1 19 i := by rw [hT i hi, if_neg (by omega)]
    have ry : S'.1 19 (x ^^^ 1) = S.1 19 (x ^^^ 1) := by
      rw [hT _ hx1]
      split
      · exact upR_y _ _ _
      · rfl
    cases hbit : hb (S.1 19 i) (y ^^^ 1) with
    | false =>
      refine Or.inr ⟨(S', nI x, nI y, nI (i + 1)), ⟨rfl, rfl, rfl, hf, hz, fun t ht => ?_⟩, fun rc => ?_⟩
      · show S'.1 19 t = _
        rw [hT t ht]
        by_cases e : t = i
        · subst e; rw [if_neg (by omega), if_pos (by omega)]; unfold upR; rw [if_neg (by rw [hbit]; decide)]
        · by_cases e2 : t < i
          · rw [if_pos e2, if_pos (by omega)]
          · rw [if_neg e2, if_neg (by omega)]
      · show n_X9_imply_18_b58_l F (fun S x1 x2 x3 => rc (S, x1, x2, x3)) S' (nI x) (nI y) (nI i) = _
        unfold n_X9_imply_18_b58_l n_X9_imply_18_b96
        simp (disch := omega) only [c24, nI_le_iff, nI_x1, zld_nI, zlet, nI_1, hb_sh0, ri]
        rw [if_neg (by omega), if_pos hbit]
    | true =>
      refine Or.inr ⟨(zp S' 19 i (S.1 19 i ||| S.1 19 (x ^^^ 1)), nI x, nI y, nI (i + 1)), ⟨rfl, rfl, rfl, fr_t hf (fr_r _ _ (by decide) (by decide)), hz, fun t ht => ?_⟩, fun rc => ?_⟩
      · show (zp S' 19 i (S.1 19 i ||| S.1 19 (x ^^^ 1))).1 19 t = _
        by_cases e : t = i
        · subst e; rw [zp_at, if_pos (by omega)]; unfold upR; rw [if_pos hbit]
        · rw [zp_off _ _ (Or.inr e), hT t ht]
          by_cases e2 : t < i
          · rw [if_pos e2, if_pos (by omega)]
          · rw [if_neg e2, if_neg (by omega)]
      · show n_X9_imply_18_b58_l F (fun S x1 x2 x3 => rc (S, x1, x2, x3)) S' (nI x) (nI y) (nI i) = _
        unfold n_X9_imply_18_b58_l n_X9_imply_18_b96
        simp (disch := omega) only [c24, nI_le_iff, nI_x1, zld_nI, zst_nI, zlet, nI_1, hb_sh0, ri, ry]
        rw [if_neg (by omega), if_neg (by rw [hbit]; decide)]) (by
    rintro ⟨S', a, b, c⟩ ⟨ha, hb', hc, hf, hz, hT⟩
    have ha : a = nI x := ha
    have hb' : b = nI y := hb'
    have hc : c = nI 24 := hc
    subst ha hb' hc
    have hz : S'.1 0 364 = S.1 0 364 := hz
    have hT2 : ∀ t, t < 24 → S'.1 19 t = upR (S.1 19) (y ^^^ 1) (x ^^^ 1) t := fun t ht => by rw [show S'.1 19 t = _ from hT t ht, if_pos ht]
    by_cases h : hb (S'.1 19 x) (x ^^^ 1) = true ∧ hb (S'.1 19 (x ^^^ 1)) x = true
    · refine ⟨zp S' 0 364 1, ⟨fr_t hf (fr_p _ (by decide)), hT2, ?_⟩, fun rc => ?_⟩
      · show (1 : Int32) = if hb (S'.1 19 x) (x ^^^ 1) = true ∧ hb (S'.1 19 (x ^^^ 1)) x = true then 1 else S.1 0 364
        rw [if_pos h]
      · show n_X9_imply_18_b58_l F (fun S x1 x2 x3 => rc (S, x1, x2, x3)) S' (nI x) (nI y) (nI 24) = _
        unfold n_X9_imply_18_b58_l n_X9_imply_18_b137
        simp (disch := omega) only [c24, nI_le_iff, nI_x1, zld_nI, hb_sh0, zpb_1]
        rw [if_pos (by omega), if_neg (by rw [h.1]; decide), if_neg (by rw [h.2]; decide)]
    · refine ⟨S', ⟨hf, hT2, ?_⟩, fun rc => ?_⟩
      · rw [if_neg h]; exact hz
      · show n_X9_imply_18_b58_l F (fun S x1 x2 x3 => rc (S, x1, x2, x3)) S' (nI x) (nI y) (nI 24) = _
        unfold n_X9_imply_18_b58_l n_X9_imply_18_b137
        simp (disch := omega) only [c24, nI_le_iff, nI_x1, zld_nI, hb_sh0, zpb_1]
        rw [if_pos (by omega)]
        cases h1 : hb (S'.1 19 x) (x ^^^ 1)
        · rw [if_pos rfl]
        · rw [if_neg (by decide)]
          cases h2 : hb (S'.1 19 (x ^^^ 1)) x
          · rw [if_pos rfl]
          · exact absurd ⟨h1, h2⟩ h) F (S, nI x, nI y, 0) ⟨rfl, rfl, rfl, fr_rf _ _ _, rfl, fun t _ => by rw [if_neg (by omega)]⟩ (by omega)
  exact key
theorem th_imply_18 {F : Nat} (hF : 2 ^ 40 < F) {S : Zs} {P : Nat → Prop} {N : List (Nat × Nat)} (h : Th 19 20 21 363 364 S P N) {c : Nat} (hc : c < 1152) : ∃ S2, n_X9_imply_18 F S (nI (sj c)) (nI (tg c)) = some (0, S2) ∧ fr [19] [364] S S2 ∧ Th 19 20 21 363 364 S2 (add1 P c) N := by
  obtain ⟨h1, h2, h3, h4, h5⟩ := h
  have hx := sj_lt c
  have hy := tg_lt c
  have e : n_X9_imply_18 F S (nI (sj c)) (nI (tg c)) = if hb (S.1 19 (sj c)) (tg c) = false then n_X9_imply_18_b16 F S (nI (sj c)) (nI (tg c)) 0 else some (0, S) := by
    unfold n_X9_imply_18 n_X9_imply_18_e
    simp (disch := omega) only [zld_nI, hb_sh0]
  cases hbit : hb (S.1 19 (sj c)) (tg c) with
  | true =>
    have g := (h1 _ hx _).mp hbit
    refine ⟨S, by rw [e, if_neg (by rw [hbit]; decide)], fr_rf _ _ _, fun t ht u => ?_, isB_iff h2 (Br_old hc g).symm, h3, h4, h5⟩
    rw [Rc_old hc g]; exact h1 t ht u
  | false =>
    obtain ⟨S1, ⟨f1, z1, r1⟩, e1⟩ := th_l16_18 hF S hx hy
    obtain ⟨S2, ⟨f2, r2, z2⟩, e2⟩ := th_l58_18 hF S1 hx hy
    have t1 : ∀ t, t < 24 → ∀ u, (hb (S1.1 19 t) u = true ↔ (Rc P t u ∨ Rc P t (sj c) ∧ Rc P (tg c) u)) := by
      intro t ht u
      rw [r1 t ht, hb_upR, h1 t ht, h1 t ht, h1 _ hy]
    have t2 : TB S2 19 (add1 P c) := by
      intro t ht u
      rw [r2 t ht, hb_upR, t1 t ht, t1 t ht, t1 _ (x1_lt hx), Rc_ins hc]
    have f3 := fr_t f1 f2
    refine ⟨S2, by rw [e, if_pos hbit, e1, e2], f3, t2, ?_, ?_, h4, fun i p hp => ?_⟩
    · have g' : (hb (S2.1 19 (sj c)) (sj c ^^^ 1) = true ∧ hb (S2.1 19 (sj c ^^^ 1)) (sj c) = true) ↔ (Rc (add1 P c) (sj c) (sj c ^^^ 1) ∧ Rc (add1 P c) (sj c ^^^ 1) (sj c)) := by rw [t2 _ hx, t2 _ (x1_lt hx)]
      rw [z2]
      by_cases g : Rc (add1 P c) (sj c) (sj c ^^^ 1) ∧ Rc (add1 P c) (sj c ^^^ 1) (sj c)
      · rw [if_pos (g'.mpr g)]; exact Or.inl ⟨rfl, (Br_ins hc).mpr (Or.inr g)⟩
      · rw [if_neg (fun k => g (g'.mp k)), z1]
        refine isB_iff h2 ⟨fun k => (Br_ins hc).mpr (Or.inl k), fun k => ((Br_ins hc).mp k).resolve_right g⟩
    · rw [f3.1 363 (by decide)]; exact h3
    · rw [f3.2.1 20 (by decide) (by decide), f3.2.1 21 (by decide) (by decide)]; exact h5 i p hp
theorem th_cons_18 {F : Nat} (hF : 2 ^ 40 < F) {S : Zs} {P : Nat → Prop} {N : List (Nat × Nat)} (h : Th 19 20 21 363 364 S P N) : ∃ r, isB r (∀ p ∈ N, Can P p.1 p.2) ∧ n_X9_consistent_18 F S = some (r, S) := by
  obtain ⟨h1, h2, h3, h4, h5⟩ := h
  have key := zfix_for (f := fun (rc : (Zs × Int32) → Option (Int32 × Zs)) (u : (Zs × Int32)) => n_X9_consistent_18_b2_l F  (fun S x1 => rc (S, x1)) u.1 u.2) N.length (fun i a => a.1 = S ∧ a.2 = nI i ∧ ∀ j p, j < i → N[j]? = some p → Can P p.1 p.2) (fun r : Int32 => isB r (∀ p ∈ N, Can P p.1 p.2)) (fun r => some (r, S)) (by
    rintro i ⟨S', x⟩ hi ⟨hs, hx, hT⟩
    have hs : S' = S := hs
    have hx : x = nI i := hx
    subst hs hx
    obtain ⟨p, hp⟩ : ∃ p, N[i]? = some p := ⟨N[i], List.getElem?_eq_getElem hi⟩
    obtain ⟨k1, k2, k3, k4⟩ := h5 i p hp
    by_cases hcan : Can P p.1 p.2
    · refine Or.inr ⟨(S', nI (i + 1)), ⟨rfl, rfl, fun j q hj hq => ?_⟩, fun rc => ?_⟩
      · by_cases e : j = i
        · subst e; rw [hp] at hq; rw [← Option.some.inj hq]; exact hcan
        · exact hT j q (by omega) hq
      · show n_X9_consistent_18_b2_l F (fun S x1 => rc (S, x1)) S' (nI i) = _
        unfold n_X9_consistent_18_b2_l n_X9_consistent_18_b52
        simp (disch := omega) only [zgf, h3, nI_le_iff, zld_nI, k1, k2, zlet, nI_1]
        rw [if_neg (by omega), if_pos ((isB_0 h2).mpr hcan.1), if_pos ((torn_u _).mpr ((TB_torn h1 k3 k4).mpr hcan.2))]
    · refine Or.inl ⟨0, Or.inr ⟨rfl, fun g => hcan (g p (List.mem_of_getElem? hp))⟩, fun rc => ?_⟩
      show n_X9_consistent_18_b2_l F (fun S x1 => rc (S, x1)) S' (nI i) = _
      unfold n_X9_consistent_18_b2_l n_X9_consistent_18_b52
      simp (disch := omega) only [zgf, h3, nI_le_iff, zld_nI, k1, k2, zlet, nI_1]
      rw [if_neg (by omega)]
      by_cases hbr : Br P
      · rw [if_neg (fun g => (isB_0 h2).mp g hbr), zrb_0]
      · rw [if_pos ((isB_0 h2).mpr hbr), if_neg (fun g => hcan ⟨hbr, (TB_torn h1 k3 k4).mp ((torn_u _).mp g)⟩), zrb_0]) (by
    rintro ⟨S', x⟩ ⟨hs, hx, hT⟩
    have hs : S' = S := hs
    have hx : x = nI N.length := hx
    subst hs hx
    refine ⟨1, Or.inl ⟨rfl, fun p hp => ?_⟩, fun rc => ?_⟩
    · obtain ⟨j, hj⟩ := List.mem_iff_getElem?.mp hp
      obtain ⟨hj2, -⟩ := List.getElem?_eq_some_iff.mp hj
      exact hT j p hj2 hj
    · show n_X9_consistent_18_b2_l F (fun S x1 => rc (S, x1)) S' (nI N.length) = _
      unfold n_X9_consistent_18_b2_l
      simp (disch := omega) only [zgf, h3, nI_le_iff]
      rw [if_pos (by omega), zrb_1]) F (S, 0) ⟨rfl, rfl, fun j p hj => absurd hj (by omega)⟩ (by omega)
  exact key
-- theory 31
theorem th_clear_31 {F : Nat} (hF : 2 ^ 40 < F) (S : Zs) : ∃ S2, n_X9_clear_31 F S = some (0, S2) ∧ fr [32] [623, 624] S S2 ∧ Th 32 33 34 623 624 S2 (fun _ => False) [] := by
  have key := zfix_for (f := fun (rc : (Zs × Int32) → Option (Int32 × Zs)) (u : (Zs × Int32)) => n_X9_clear_31_b2_l F (fun S x1 => rc (S, x1)) u.1 u.2) 24 (fun i a => a.2 = nI i ∧ fr [32] [623, 624] S a.1 ∧ ∀ t, t < i → a.1.1 32 t = (1 : Int32) <<< (nI t &&& 31)) (fun c : Zs => fr [32] [623, 624] S c ∧ c.1 0 623 = 0 ∧ c.1 0 624 = 0 ∧ ∀ t, t < 24 → c.1 32 t = (1 : Int32) <<< (nI t &&& 31)) (fun c => some (0, c)) (by
    rintro i ⟨S', x⟩ hi ⟨hx, hf, hT⟩
    have hx : x = nI i := hx
    subst hx
    refine Or.inr ⟨(zp S' 32 i ((1 : Int32) <<< (nI i &&& 31)), nI (i + 1)), ⟨rfl, fr_t hf (fr_r _ _ (by decide) (by decide)), ?_⟩, fun rc => ?_⟩
    · intro t ht
      show (zp S' 32 i _).1 32 t = _
      by_cases e : t = i
      · subst e; rw [zp_at]
      · rw [zp_off _ _ (Or.inr e)]; exact hT t (by omega)
    · show n_X9_clear_31_b2_l F (fun S x1 => rc (S, x1)) S' (nI i) = _
      unfold n_X9_clear_31_b2_l
      simp (disch := omega) only [c24, nI_le_iff, zst_nI, zlet, nI_1]
      rw [if_neg (by omega)]) (by
    rintro ⟨S', x⟩ ⟨hx, hf, hT⟩
    have hx : x = nI 24 := hx
    subst hx
    refine ⟨zp (zp S' 0 623 0) 0 624 0, ⟨fr_t hf (fr_t (fr_p _ (by decide)) (fr_p _ (by decide))), rfl, rfl, hT⟩, fun rc => ?_⟩
    show n_X9_clear_31_b2_l F (fun S x1 => rc (S, x1)) S' (nI 24) = _
    unfold n_X9_clear_31_b2_l
    simp (disch := omega) only [c24, nI_le_iff, zpf, zpb_0]
    rw [if_pos (by omega)]) F (S, 0) ⟨rfl, fr_rf _ _ _, fun t ht => absurd ht (by omega)⟩ (by omega)
  obtain ⟨q, ⟨h1, h2, h3, h4⟩, e⟩ := key
  refine ⟨q, e, h1, TB_1 h4, Or.inr ⟨h3, Br_none⟩, h2, by decide, ?_⟩
  intro i p hp
  exact absurd hp (by simp)
theorem th_req_31 {F : Nat} {S : Zs} {P : Nat → Prop} {N : List (Nat × Nat)} (h : Th 32 33 34 623 624 S P N) (hn : N.length < 29) {x y : Nat} (hx : x < 24) (hy : y < 24) : ∃ S2, n_X9_require_31 F S (nI x) (nI y) = some (0, S2) ∧ fr [33, 34] [623] S S2 ∧ Th 32 33 34 623 624 S2 P (N ++ [(x, y)]) := by
  refine ⟨zp (zp (zp S 33 N.length (nI x)) 34 N.length (nI y)) 0 623 (nI (N.length + 1)), ?_, fr_t (fr_r _ _ (by decide) (by decide)) (fr_t (fr_r _ _ (by decide) (by decide)) (fr_p _ (by decide))), Th_req h hn hx hy (by decide) (by decide) (by decide) (by decide) (by decide) (by decide) (by decide)⟩
  unfold n_X9_require_31 n_X9_require_31_e n_X9_require_31_b39
  obtain ⟨-, -, h3, -, -⟩ := h
  have e1 : (zp S 33 N.length (nI x)).1 0 623 = nI N.length := h3
  have e2 : (zp (zp S 33 N.length (nI x)) 34 N.length (nI y)).1 0 623 = nI N.length := h3
  simp (disch := omega) only [zgf, zpf, h3, c29, nI_le_iff, zst_nI, e1, e2, nI_1]
  rw [if_neg (by omega)]
theorem th_live_31 {F : Nat} (hF : 2 ^ 40 < F) {S : Zs} {P : Nat → Prop} {N : List (Nat × Nat)} (h : Th 32 33 34 623 624 S P N) (hn : N.length ≤ 17) (lv : Int32) : ∃ S2, n_X9_addLiving_31 F S lv = some (0, S2) ∧ fr [33, 34] [623] S S2 ∧ Th 32 33 34 623 624 S2 P (N ++ lvN lv 12) := by
  have key := zfix_for (f := fun (rc : (Zs × Int32 × Int32) → Option (Int32 × Zs)) (u : (Zs × Int32 × Int32)) => n_X9_addLiving_31_b2_l F  (fun S x1 x2 => rc (S, x1, x2)) u.1 u.2.1 u.2.2) 12 (fun i a => a.2.1 = lv ∧ a.2.2 = nI i ∧ fr [33, 34] [623] S a.1 ∧ Th 32 33 34 623 624 a.1 P (N ++ lvN lv i)) (fun c : Zs => fr [33, 34] [623] S c ∧ Th 32 33 34 623 624 c P (N ++ lvN lv 12)) (fun c => some (0, c)) (by
    rintro i ⟨S', x, y⟩ hi ⟨hx, hy, hf, hT⟩
    have hx : x = lv := hx
    have hy : y = nI i := hy
    subst hx hy
    have hl := lvN_len x i
    have hL : (N ++ lvN x i).length ≤ N.length + i := by rw [List.length_append]; omega
    have h3 : S'.1 0 623 = nI (N ++ lvN x i).length := hT.2.2.1
    cases hbit : hb x i with
    | false =>
      refine Or.inr ⟨(S', x, nI (i + 1)), ⟨rfl, rfl, hf, by rw [lvN_f hbit]; exact hT⟩, fun rc => ?_⟩
      show n_X9_addLiving_31_b2_l F (fun S x1 x2 => rc (S, x1, x2)) S' x (nI i) = _
      unfold n_X9_addLiving_31_b2_l n_X9_addLiving_31_b59
      simp (disch := omega) only [c12, nI_le_iff, zlet, nI_1, hb_sh0]
      rw [if_neg (by omega), if_pos hbit]
    | true =>
      refine Or.inr ⟨(zp (zp (zp S' 33 (N ++ lvN x i).length (nI (2 * i))) 34 (N ++ lvN x i).length (nI (2 * i))) 0 623 (nI ((N ++ lvN x i).length + 1)), x, nI (i + 1)), ⟨rfl, rfl, fr_t hf (fr_t (fr_r _ _ (by decide) (by decide)) (fr_t (fr_r _ _ (by decide) (by decide)) (fr_p _ (by decide)))), ?_⟩, fun rc => ?_⟩
      · rw [lvN_t hbit, ← List.append_assoc]
        exact Th_req hT (by omega) (by omega) (by omega) (by decide) (by decide) (by decide) (by decide) (by decide) (by decide) (by decide)
      · show n_X9_addLiving_31_b2_l F (fun S x1 x2 => rc (S, x1, x2)) S' x (nI i) = _
        generalize (N ++ lvN x i).length = n at *
        have e1 : (zp S' 33 n (nI (2 * i))).1 0 623 = nI n := h3
        have e2 : (zp (zp S' 33 n (nI (2 * i))) 34 n (nI (2 * i))).1 0 623 = nI n := h3
        unfold n_X9_addLiving_31_b2_l n_X9_addLiving_31_b59
        simp (disch := omega) only [zgf, zpf, tw, h3, e1, e2, c12, c29, nI_le_iff, zlet, zst_nI, nI_1, hb_sh0]
        rw [if_neg (by omega), if_neg (by rw [hbit]; decide), if_neg (by omega)]) (by
    rintro ⟨S', x, y⟩ ⟨hx, hy, hf, hT⟩
    have hx : x = lv := hx
    have hy : y = nI 12 := hy
    subst hx hy
    refine ⟨S', ⟨hf, hT⟩, fun rc => ?_⟩
    show n_X9_addLiving_31_b2_l F (fun S x1 x2 => rc (S, x1, x2)) S' x (nI 12) = _
    unfold n_X9_addLiving_31_b2_l
    simp (disch := omega) only [c12, nI_le_iff]
    rw [if_pos (by omega)]) F (S, lv, 0) ⟨rfl, rfl, fr_rf _ _ _, by rw [show lvN lv 0 = [] from rfl, List.append_nil]; exact h⟩ (by omega)
  obtain ⟨q, ⟨h1, h2⟩, e⟩ := key
  exact ⟨q, e, h1, h2⟩
theorem th_l16_31 {F : Nat} (hF : 2 ^ 40 < F) (S : Zs) {x y : Nat} (hx : x < 24) (hy : y < 24) : ∃ S2, (fr [32] [624] S S2 ∧ S2.1 0 624 = S.1 0 624 ∧ ∀ t, t < 24 → S2.1 32 t = upR (S.1 32) x y t) ∧ n_X9_imply_31_b16 F S (nI x) (nI y) 0 = n_X9_imply_31_b58 F S2 (nI x) (nI y) 0 := by
  have key := zfix_for (f := fun (rc : (Zs × Int32 × Int32 × Int32) → Option (Int32 × Zs)) (u : (Zs × Int32 × Int32 × Int32)) => n_X9_imply_31_b16_l F  (fun S x1 x2 x3 => rc (S, x1, x2, x3)) u.1 u.2.1 u.2.2.1 u.2.2.2) 24 (fun i a => a.2.1 = nI x ∧ a.2.2.1 = nI y ∧ a.2.2.2 = nI i ∧ fr [32] [624] S a.1 ∧ a.1.1 0 624 = S.1 0 624 ∧ ∀ t, t < 24 → a.1.1 32 t = if t < i then upR (S.1 32) x y t else S.1 32 t) (fun c : Zs => fr [32] [624] S c ∧ c.1 0 624 = S.1 0 624 ∧ ∀ t, t < 24 → c.1 32 t = upR (S.1 32) x y t) (fun c => n_X9_imply_31_b58 F c (nI x) (nI y) 0) (by
    rintro i ⟨S', a, b, c⟩ hi ⟨ha, hb', hc, hf, hz, hT⟩
    have ha : a = nI x := ha
    have hb' : b = nI y := hb'
    have hc : c = nI i := hc
    subst ha hb' hc
    have hf : fr [32] [624] S S' := hf
    have hz : S'.1 0 624 = S.1 0 624 := hz
    have hT : ∀ t, t < 24 → S'.1 32 t = if t < i then upR (S.1 32) x y t else S.1 32 t := hT
    have ri : S'.1 32 i = S.1 32 i := by rw [hT i hi, if_neg (by omega)]
    have ry : S'.1 32 y = S.1 32 y := by
      rw [hT y hy]
      split
      · exact upR_y _ _ _
      · rfl
    cases hbit : hb (S.1 32 i) x with
    | false =>
      refine Or.inr ⟨(S', nI x, nI y, nI (i + 1)), ⟨rfl, rfl, rfl, hf, hz, fun t ht => ?_⟩, fun rc => ?_⟩
      · show S'.1 32 t = _
        rw [hT t ht]
        by_cases e : t = i
        · subst e; rw [if_neg (by omega), if_pos (by omega)]; unfold upR; rw [if_neg (by rw [hbit]; decide)]
        · by_cases e2 : t < i
          · rw [if_pos e2, if_pos (by omega)]
          · rw [if_neg e2, if_neg (by omega)]
      · show n_X9_imply_31_b16_l F (fun S x1 x2 x3 => rc (S, x1, x2, x3)) S' (nI x) (nI y) (nI i) = _
        unfold n_X9_imply_31_b16_l n_X9_imply_31_b50
        simp (disch := omega) only [c24, nI_le_iff, zld_nI, zlet, nI_1, hb_sh0, ri]
        rw [if_neg (by omega), if_pos hbit]
    | true =>
      refine Or.inr ⟨(zp S' 32 i (S.1 32 i ||| S.1 32 y), nI x, nI y, nI (i + 1)), ⟨rfl, rfl, rfl, fr_t hf (fr_r _ _ (by decide) (by decide)), hz, fun t ht => ?_⟩, fun rc => ?_⟩
      · show (zp S' 32 i (S.1 32 i ||| S.1 32 y)).1 32 t = _
        by_cases e : t = i
        · subst e; rw [zp_at, if_pos (by omega)]; unfold upR; rw [if_pos hbit]
        · rw [zp_off _ _ (Or.inr e), hT t ht]
          by_cases e2 : t < i
          · rw [if_pos e2, if_pos (by omega)]
          · rw [if_neg e2, if_neg (by omega)]
      · show n_X9_imply_31_b16_l F (fun S x1 x2 x3 => rc (S, x1, x2, x3)) S' (nI x) (nI y) (nI i) = _
        unfold n_X9_imply_31_b16_l n_X9_imply_31_b50
        simp (disch := omega) only [c24, nI_le_iff, zld_nI, zst_nI, zlet, nI_1, hb_sh0, ri, ry]
        rw [if_neg (by omega), if_neg (by rw [hbit]; decide)]) (by
    rintro ⟨S', a, b, c⟩ ⟨ha, hb', hc, hf, hz, hT⟩
    have ha : a = nI x := ha
    have hb' : b = nI y := hb'
    have hc : c = nI 24 := hc
    subst ha hb' hc
    refine ⟨S', ⟨hf, hz, fun t ht => by rw [show S'.1 32 t = _ from hT t ht, if_pos ht]⟩, fun rc => ?_⟩
    show n_X9_imply_31_b16_l F (fun S x1 x2 x3 => rc (S, x1, x2, x3)) S' (nI x) (nI y) (nI 24) = _
    unfold n_X9_imply_31_b16_l
    simp (disch := omega) only [c24, nI_le_iff]
    rw [if_pos (by omega)]) F (S, nI x, nI y, 0) ⟨rfl, rfl, rfl, fr_rf _ _ _, rfl, fun t _ => by rw [if_neg (by omega)]⟩ (by omega)
  exact key
theorem th_l58_31 {F : Nat} (hF : 2 ^ 40 < F) (S : Zs) {x y : Nat} (hx : x < 24) (hy : y < 24) : ∃ S2, (fr [32] [624] S S2 ∧ (∀ t, t < 24 → S2.1 32 t = upR (S.1 32) (y ^^^ 1) (x ^^^ 1) t) ∧ S2.1 0 624 = if hb (S2.1 32 x) (x ^^^ 1) = true ∧ hb (S2.1 32 (x ^^^ 1)) x = true then 1 else S.1 0 624) ∧ n_X9_imply_31_b58 F S (nI x) (nI y) 0 = some (0, S2) := by
  have hx1 := x1_lt hx
  have hy1 := x1_lt hy
  have key := zfix_for (f := fun (rc : (Zs × Int32 × Int32 × Int32) → Option (Int32 × Zs)) (u : (Zs × Int32 × Int32 × Int32)) => n_X9_imply_31_b58_l F  (fun S x1 x2 x3 => rc (S, x1, x2, x3)) u.1 u.2.1 u.2.2.1 u.2.2.2) 24 (fun i a => a.2.1 = nI x ∧ a.2.2.1 = nI y ∧ a.2.2.2 = nI i ∧ fr [32] [624] S a.1 ∧ a.1.1 0 624 = S.1 0 624 ∧ ∀ t, t < 24 → a.1.1 32 t = if t < i then upR (S.1 32) (y ^^^ 1) (x ^^^ 1) t else S.1 32 t) (fun c : Zs => fr [32] [624] S c ∧ (∀ t, t < 24 → c.1 32 t = upR (S.1 32) (y ^^^ 1) (x ^^^ 1) t) ∧ c.1 0 624 = if hb (c.1 32 x) (x ^^^ 1) = true ∧ hb (c.1 32 (x ^^^ 1)) x = true then 1 else S.1 0 624) (fun c => some (0, c)) (by
    rintro i ⟨S', a, b, c⟩ hi ⟨ha, hb', hc, hf, hz, hT⟩
    have ha : a = nI x := ha
    have hb' : b = nI y := hb'
    have hc : c = nI i := hc
    subst ha hb' hc
    have hf : fr [32] [624] S S' := hf
    have hz : S'.1 0 624 = S.1 0 624 := hz
    have hT : ∀ t, t < 24 → S'.1 32 t = if t < i then upR (S.1 32) (y ^^^ 1) (x ^^^ 1) t else S.1 32 t := hT
    have ri : S'.1 32 i = S.1 32 i := by rw [hT i hi, if_neg (by omega)]
    have ry : S'.1 32 (x ^^^ 1) = S.1 32 (x ^^^ 1) := by
      rw [hT _ hx1]
      split
      · exact upR_y _ _ _
      · rfl
    cases hbit : hb (S.1 32 i) (y ^^^ 1) with
    | false =>
      refine Or.inr ⟨(S', nI x, nI y, nI (i + 1)), ⟨rfl, rfl, rfl, hf, hz, fun t ht => ?_⟩, fun rc => ?_⟩
      · show S'.1 32 t = _
        rw [hT t ht]
        by_cases e : t = i
        · subst e; rw [if_neg (by omega), if_pos (by omega)]; unfold upR; rw [if_neg (by rw [hbit]; decide)]
        · by_cases e2 : t < i
          · rw [if_pos e2, if_pos (by omega)]
          · rw [if_neg e2, if_neg (by omega)]
      · show n_X9_imply_31_b58_l F (fun S x1 x2 x3 => rc (S, x1, x2, x3)) S' (nI x) (nI y) (nI i) = _
        unfold n_X9_imply_31_b58_l n_X9_imply_31_b96
        simp (disch := omega) only [c24, nI_le_iff, nI_x1, zld_nI, zlet, nI_1, hb_sh0, ri]
        rw [if_neg (by omega), if_pos hbit]
    | true =>
      refine Or.inr ⟨(zp S' 32 i (S.1 32 i ||| S.1 32 (x ^^^ 1)), nI x, nI y, nI (i + 1)), ⟨rfl, rfl, rfl, fr_t hf (fr_r _ _ (by decide) (by decide)), hz, fun t ht => ?_⟩, fun rc => ?_⟩
      · show (zp S' 32 i (S.1 32 i ||| S.1 32 (x ^^^ 1))).1 32 t = _
        by_cases e : t = i
        · subst e; rw [zp_at, if_pos (by omega)]; unfold upR; rw [if_pos hbit]
        · rw [zp_off _ _ (Or.inr e), hT t ht]
          by_cases e2 : t < i
          · rw [if_pos e2, if_pos (by omega)]
          · rw [if_neg e2, if_neg (by omega)]
      · show n_X9_imply_31_b58_l F (fun S x1 x2 x3 => rc (S, x1, x2, x3)) S' (nI x) (nI y) (nI i) = _
        unfold n_X9_imply_31_b58_l n_X9_imply_31_b96
        simp (disch := omega) only [c24, nI_le_iff, nI_x1, zld_nI, zst_nI, zlet, nI_1, hb_sh0, ri, ry]
        rw [if_neg (by omega), if_neg (by rw [hbit]; decide)]) (by
    rintro ⟨S', a, b, c⟩ ⟨ha, hb', hc, hf, hz, hT⟩
    have ha : a = nI x := ha
    have hb' : b = nI y := hb'
    have hc : c = nI 24 := hc
    subst ha hb' hc
    have hz : S'.1 0 624 = S.1 0 624 := hz
    have hT2 : ∀ t, t < 24 → S'.1 32 t = upR (S.1 32) (y ^^^ 1) (x ^^^ 1) t := fun t ht => by rw [show S'.1 32 t = _ from hT t ht, if_pos ht]
    by_cases h : hb (S'.1 32 x) (x ^^^ 1) = true ∧ hb (S'.1 32 (x ^^^ 1)) x = true
    · refine ⟨zp S' 0 624 1, ⟨fr_t hf (fr_p _ (by decide)), hT2, ?_⟩, fun rc => ?_⟩
      · show (1 : Int32) = if hb (S'.1 32 x) (x ^^^ 1) = true ∧ hb (S'.1 32 (x ^^^ 1)) x = true then 1 else S.1 0 624
        rw [if_pos h]
      · show n_X9_imply_31_b58_l F (fun S x1 x2 x3 => rc (S, x1, x2, x3)) S' (nI x) (nI y) (nI 24) = _
        unfold n_X9_imply_31_b58_l n_X9_imply_31_b137
        simp (disch := omega) only [c24, nI_le_iff, nI_x1, zld_nI, hb_sh0, zpb_1]
        rw [if_pos (by omega), if_neg (by rw [h.1]; decide), if_neg (by rw [h.2]; decide)]
    · refine ⟨S', ⟨hf, hT2, ?_⟩, fun rc => ?_⟩
      · rw [if_neg h]; exact hz
      · show n_X9_imply_31_b58_l F (fun S x1 x2 x3 => rc (S, x1, x2, x3)) S' (nI x) (nI y) (nI 24) = _
        unfold n_X9_imply_31_b58_l n_X9_imply_31_b137
        simp (disch := omega) only [c24, nI_le_iff, nI_x1, zld_nI, hb_sh0, zpb_1]
        rw [if_pos (by omega)]
        cases h1 : hb (S'.1 32 x) (x ^^^ 1)
        · rw [if_pos rfl]
        · rw [if_neg (by decide)]
          cases h2 : hb (S'.1 32 (x ^^^ 1)) x
          · rw [if_pos rfl]
          · exact absurd ⟨h1, h2⟩ h) F (S, nI x, nI y, 0) ⟨rfl, rfl, rfl, fr_rf _ _ _, rfl, fun t _ => by rw [if_neg (by omega)]⟩ (by omega)
  exact key
theorem th_imply_31 {F : Nat} (hF : 2 ^ 40 < F) {S : Zs} {P : Nat → Prop} {N : List (Nat × Nat)} (h : Th 32 33 34 623 624 S P N) {c : Nat} (hc : c < 1152) : ∃ S2, n_X9_imply_31 F S (nI (sj c)) (nI (tg c)) = some (0, S2) ∧ fr [32] [624] S S2 ∧ Th 32 33 34 623 624 S2 (add1 P c) N := by
  obtain ⟨h1, h2, h3, h4, h5⟩ := h
  have hx := sj_lt c
  have hy := tg_lt c
  have e : n_X9_imply_31 F S (nI (sj c)) (nI (tg c)) = if hb (S.1 32 (sj c)) (tg c) = false then n_X9_imply_31_b16 F S (nI (sj c)) (nI (tg c)) 0 else some (0, S) := by
    unfold n_X9_imply_31 n_X9_imply_31_e
    simp (disch := omega) only [zld_nI, hb_sh0]
  cases hbit : hb (S.1 32 (sj c)) (tg c) with
  | true =>
    have g := (h1 _ hx _).mp hbit
    refine ⟨S, by rw [e, if_neg (by rw [hbit]; decide)], fr_rf _ _ _, fun t ht u => ?_, isB_iff h2 (Br_old hc g).symm, h3, h4, h5⟩
    rw [Rc_old hc g]; exact h1 t ht u
  | false =>
    obtain ⟨S1, ⟨f1, z1, r1⟩, e1⟩ := th_l16_31 hF S hx hy
    obtain ⟨S2, ⟨f2, r2, z2⟩, e2⟩ := th_l58_31 hF S1 hx hy
    have t1 : ∀ t, t < 24 → ∀ u, (hb (S1.1 32 t) u = true ↔ (Rc P t u ∨ Rc P t (sj c) ∧ Rc P (tg c) u)) := by
      intro t ht u
      rw [r1 t ht, hb_upR, h1 t ht, h1 t ht, h1 _ hy]
    have t2 : TB S2 32 (add1 P c) := by
      intro t ht u
      rw [r2 t ht, hb_upR, t1 t ht, t1 t ht, t1 _ (x1_lt hx), Rc_ins hc]
    have f3 := fr_t f1 f2
    refine ⟨S2, by rw [e, if_pos hbit, e1, e2], f3, t2, ?_, ?_, h4, fun i p hp => ?_⟩
    · have g' : (hb (S2.1 32 (sj c)) (sj c ^^^ 1) = true ∧ hb (S2.1 32 (sj c ^^^ 1)) (sj c) = true) ↔ (Rc (add1 P c) (sj c) (sj c ^^^ 1) ∧ Rc (add1 P c) (sj c ^^^ 1) (sj c)) := by rw [t2 _ hx, t2 _ (x1_lt hx)]
      rw [z2]
      by_cases g : Rc (add1 P c) (sj c) (sj c ^^^ 1) ∧ Rc (add1 P c) (sj c ^^^ 1) (sj c)
      · rw [if_pos (g'.mpr g)]; exact Or.inl ⟨rfl, (Br_ins hc).mpr (Or.inr g)⟩
      · rw [if_neg (fun k => g (g'.mp k)), z1]
        refine isB_iff h2 ⟨fun k => (Br_ins hc).mpr (Or.inl k), fun k => ((Br_ins hc).mp k).resolve_right g⟩
    · rw [f3.1 623 (by decide)]; exact h3
    · rw [f3.2.1 33 (by decide) (by decide), f3.2.1 34 (by decide) (by decide)]; exact h5 i p hp
theorem th_cons_31 {F : Nat} (hF : 2 ^ 40 < F) {S : Zs} {P : Nat → Prop} {N : List (Nat × Nat)} (h : Th 32 33 34 623 624 S P N) : ∃ r, isB r (∀ p ∈ N, Can P p.1 p.2) ∧ n_X9_consistent_31 F S = some (r, S) := by
  obtain ⟨h1, h2, h3, h4, h5⟩ := h
  have key := zfix_for (f := fun (rc : (Zs × Int32) → Option (Int32 × Zs)) (u : (Zs × Int32)) => n_X9_consistent_31_b2_l F  (fun S x1 => rc (S, x1)) u.1 u.2) N.length (fun i a => a.1 = S ∧ a.2 = nI i ∧ ∀ j p, j < i → N[j]? = some p → Can P p.1 p.2) (fun r : Int32 => isB r (∀ p ∈ N, Can P p.1 p.2)) (fun r => some (r, S)) (by
    rintro i ⟨S', x⟩ hi ⟨hs, hx, hT⟩
    have hs : S' = S := hs
    have hx : x = nI i := hx
    subst hs hx
    obtain ⟨p, hp⟩ : ∃ p, N[i]? = some p := ⟨N[i], List.getElem?_eq_getElem hi⟩
    obtain ⟨k1, k2, k3, k4⟩ := h5 i p hp
    by_cases hcan : Can P p.1 p.2
    · refine Or.inr ⟨(S', nI (i + 1)), ⟨rfl, rfl, fun j q hj hq => ?_⟩, fun rc => ?_⟩
      · by_cases e : j = i
        · subst e; rw [hp] at hq; rw [← Option.some.inj hq]; exact hcan
        · exact hT j q (by omega) hq
      · show n_X9_consistent_31_b2_l F (fun S x1 => rc (S, x1)) S' (nI i) = _
        unfold n_X9_consistent_31_b2_l n_X9_consistent_31_b52
        simp (disch := omega) only [zgf, h3, nI_le_iff, zld_nI, k1, k2, zlet, nI_1]
        rw [if_neg (by omega), if_pos ((isB_0 h2).mpr hcan.1), if_pos ((torn_u _).mpr ((TB_torn h1 k3 k4).mpr hcan.2))]
    · refine Or.inl ⟨0, Or.inr ⟨rfl, fun g => hcan (g p (List.mem_of_getElem? hp))⟩, fun rc => ?_⟩
      show n_X9_consistent_31_b2_l F (fun S x1 => rc (S, x1)) S' (nI i) = _
      unfold n_X9_consistent_31_b2_l n_X9_consistent_31_b52
      simp (disch := omega) only [zgf, h3, nI_le_iff, zld_nI, k1, k2, zlet, nI_1]
      rw [if_neg (by omega)]
      by_cases hbr : Br P
      · rw [if_neg (fun g => (isB_0 h2).mp g hbr), zrb_0]
      · rw [if_pos ((isB_0 h2).mpr hbr), if_neg (fun g => hcan ⟨hbr, (TB_torn h1 k3 k4).mp ((torn_u _).mp g)⟩), zrb_0]) (by
    rintro ⟨S', x⟩ ⟨hs, hx, hT⟩
    have hs : S' = S := hs
    have hx : x = nI N.length := hx
    subst hs hx
    refine ⟨1, Or.inl ⟨rfl, fun p hp => ?_⟩, fun rc => ?_⟩
    · obtain ⟨j, hj⟩ := List.mem_iff_getElem?.mp hp
      obtain ⟨hj2, -⟩ := List.getElem?_eq_some_iff.mp hj
      exact hT j p hj2 hj
    · show n_X9_consistent_31_b2_l F (fun S x1 => rc (S, x1)) S' (nI N.length) = _
      unfold n_X9_consistent_31_b2_l
      simp (disch := omega) only [zgf, h3, nI_le_iff]
      rw [if_pos (by omega), zrb_1]) F (S, 0) ⟨rfl, rfl, fun j p hj => absurd hj (by omega)⟩ (by omega)
  exact key
theorem th_can_14 {F : Nat} {S : Zs} {P : Nat → Prop} {N : List (Nat × Nat)} (h : Th 15 16 17 283 284 S P N) {x y : Nat} (hx : x < 24) (hy : y < 24) : ∃ r, isB r (Can P x y) ∧ n_X9_canBe_14 F S (nI x) (nI y) = some (r, S) := by
  obtain ⟨h1, h2, -, -, -⟩ := h
  unfold n_X9_canBe_14 n_X9_canBe_14_e n_X9_canBe_14_b36 n_X9_canBe_14_b37
  simp (disch := omega) only [zgf, zld_nI, zlet]
  by_cases hcan : Can P x y
  · refine ⟨1, Or.inl ⟨rfl, hcan⟩, ?_⟩
    rw [if_pos ((isB_0 h2).mpr hcan.1), if_pos ((torn_u _).mpr ((TB_torn h1 hx hy).mpr hcan.2)), zrb_1]
  · refine ⟨0, Or.inr ⟨rfl, hcan⟩, ?_⟩
    by_cases hbr : Br P
    · rw [if_neg (fun g => (isB_0 h2).mp g hbr), zrb_0]
    · rw [if_pos ((isB_0 h2).mpr hbr), if_neg (fun g => hcan ⟨hbr, (TB_torn h1 hx hy).mp ((torn_u _).mp g)⟩), zrb_0]
theorem th_can_18 {F : Nat} {S : Zs} {P : Nat → Prop} {N : List (Nat × Nat)} (h : Th 19 20 21 363 364 S P N) {x y : Nat} (hx : x < 24) (hy : y < 24) : ∃ r, isB r (Can P x y) ∧ n_X9_canBe_18 F S (nI x) (nI y) = some (r, S) := by
  obtain ⟨h1, h2, -, -, -⟩ := h
  unfold n_X9_canBe_18 n_X9_canBe_18_e n_X9_canBe_18_b36 n_X9_canBe_18_b37
  simp (disch := omega) only [zgf, zld_nI, zlet]
  by_cases hcan : Can P x y
  · refine ⟨1, Or.inl ⟨rfl, hcan⟩, ?_⟩
    rw [if_pos ((isB_0 h2).mpr hcan.1), if_pos ((torn_u _).mpr ((TB_torn h1 hx hy).mpr hcan.2)), zrb_1]
  · refine ⟨0, Or.inr ⟨rfl, hcan⟩, ?_⟩
    by_cases hbr : Br P
    · rw [if_neg (fun g => (isB_0 h2).mp g hbr), zrb_0]
    · rw [if_pos ((isB_0 h2).mpr hbr), if_neg (fun g => hcan ⟨hbr, (TB_torn h1 hx hy).mp ((torn_u _).mp g)⟩), zrb_0]
theorem th_add_14 {F : Nat} (hF : 2 ^ 40 < F) {S : Zs} {P : Nat → Prop} {N : List (Nat × Nat)} (h : Th 15 16 17 283 284 S P N) (hn : N.length < 29) {c : Nat} (hc : c < 2304) : ∃ S2, n_X9_add_14 F S (nI c) = some (0, S2) ∧ fr [15, 16, 17] [283, 284] S S2 ∧ Th 15 16 17 283 284 S2 (add1 P c) (N ++ nd c) := by
  unfold n_X9_add_14 n_X9_add_14_e n_X9_add_14_b34
  rcases Nat.lt_or_ge c 1152 with h1 | h1
  · obtain ⟨S2, e, f, g⟩ := th_imply_14 hF h h1
    refine ⟨S2, ?_, fr_w f (fun r hr => by simp at hr ⊢; omega) (fun r hr => by simp at hr ⊢; omega), ?_⟩
    · rw [n_uniT F S h1, zcl_some, if_neg (by decide), n_subj F S hc, zcl_some, n_tgt F S hc, zcl_some, e, zcl_some]
    · rw [nd_u h1, List.append_nil]; exact g
  · obtain ⟨S2, e, f, g⟩ := th_req_14 (F := F) h hn (sj_lt c) (tg_lt c)
    refine ⟨S2, ?_, fr_w f (fun r hr => by simp at hr ⊢; omega) (fun r hr => by simp at hr ⊢; omega), ?_⟩
    · rw [n_uniF F S hc h1, zcl_some, if_pos rfl, n_subj F S hc, zcl_some, n_tgt F S hc, zcl_some, e, zcl_some]
    · rw [nd_p h1]; exact Th_same (fun d hd => ⟨Or.inl, fun k => k.elim id fun k => by omega⟩) g
theorem th_add_31 {F : Nat} (hF : 2 ^ 40 < F) {S : Zs} {P : Nat → Prop} {N : List (Nat × Nat)} (h : Th 32 33 34 623 624 S P N) (hn : N.length < 29) {c : Nat} (hc : c < 2304) : ∃ S2, n_X9_add_31 F S (nI c) = some (0, S2) ∧ fr [32, 33, 34] [623, 624] S S2 ∧ Th 32 33 34 623 624 S2 (add1 P c) (N ++ nd c) := by
  unfold n_X9_add_31 n_X9_add_31_e n_X9_add_31_b34
  rcases Nat.lt_or_ge c 1152 with h1 | h1
  · obtain ⟨S2, e, f, g⟩ := th_imply_31 hF h h1
    refine ⟨S2, ?_, fr_w f (fun r hr => by simp at hr ⊢; omega) (fun r hr => by simp at hr ⊢; omega), ?_⟩
    · rw [n_uniT F S h1, zcl_some, if_neg (by decide), n_subj F S hc, zcl_some, n_tgt F S hc, zcl_some, e, zcl_some]
    · rw [nd_u h1, List.append_nil]; exact g
  · obtain ⟨S2, e, f, g⟩ := th_req_31 (F := F) h hn (sj_lt c) (tg_lt c)
    refine ⟨S2, ?_, fr_w f (fun r hr => by simp at hr ⊢; omega) (fun r hr => by simp at hr ⊢; omega), ?_⟩
    · rw [n_uniF F S hc h1, zcl_some, if_pos rfl, n_subj F S hc, zcl_some, n_tgt F S hc, zcl_some, e, zcl_some]
    · rw [nd_p h1]; exact Th_same (fun d hd => ⟨Or.inl, fun k => k.elim id fun k => by omega⟩) g
