/-! THE COURT of the class -/
theorem Th_fr {rb rx ry fh fb : Nat} {R K : List Nat} {S S2 : Zs} {P : Nat → Prop} {N : List (Nat × Nat)} (h : Th rb rx ry fh fb S P N) (f : fr R K S S2) (h1 : rb ≠ 0 ∧ rb ∉ R) (h2 : rx ≠ 0 ∧ rx ∉ R) (h3 : ry ≠ 0 ∧ ry ∉ R) (h4 : fh ∉ K) (h5 : fb ∉ K) : Th rb rx ry fh fb S2 P N := by
  obtain ⟨g1, g2, g3, g4, g5⟩ := h
  refine ⟨fun t ht u => ?_, ?_, ?_, g4, fun i p hp => ?_⟩
  · rw [f.2.1 rb h1.1 h1.2]; exact g1 t ht u
  · rw [f.1 fb h5]; exact g2
  · rw [f.1 fh h4]; exact g3
  · rw [f.2.1 rx h2.1 h2.2, f.2.1 ry h3.1 h3.2]; exact g5 i p hp
theorem th_copy {F : Nat} (hF : 2 ^ 40 < F) {S : Zs} {P : Nat → Prop} {N : List (Nat × Nat)} (h : Th 15 16 17 283 284 S P N) : ∃ S2, n_X9_copyFrom_18_14 F S = some (0, S2) ∧ fr [19, 20, 21] [363, 364] S S2 ∧ Th 19 20 21 363 364 S2 P N := by
  obtain ⟨g1, g2, g3, g4, g5⟩ := id h
  obtain ⟨S1, ⟨f1, r1⟩, e1⟩ : ∃ S1, (fr [19, 20, 21] [363, 364] S S1 ∧ ∀ t, t < 24 → S1.1 19 t = S.1 15 t) ∧ n_X9_copyFrom_18_14 F S = n_X9_copyFrom_18_14_b28 F S1 0 :=
    zfix_for (f := fun (rc : (Zs × Int32) → Option (Int32 × Zs)) (u : (Zs × Int32)) => n_X9_copyFrom_18_14_b2_l F (fun S x1 => rc (S, x1)) u.1 u.2) 24 (fun i a => a.2 = nI i ∧ fr [19, 20, 21] [363, 364] S a.1 ∧ ∀ t, t < i → a.1.1 19 t = S.1 15 t) (fun c : Zs => fr [19, 20, 21] [363, 364] S c ∧ ∀ t, t < 24 → c.1 19 t = S.1 15 t) (fun c => n_X9_copyFrom_18_14_b28 F c 0) (by
      rintro i ⟨S', x⟩ hi ⟨hx, hf, hT⟩
      have hx : x = nI i := hx
      subst hx
      have hf : fr [19, 20, 21] [363, 364] S S' := hf
      have k : S'.1 15 i = S.1 15 i := by rw [hf.2.1 15 (by decide) (by decide)]
      refine Or.inr ⟨(zp S' 19 i (S.1 15 i), nI (i + 1)), ⟨rfl, fr_t hf (fr_r _ _ (by decide) (by decide)), ?_⟩, fun rc => ?_⟩
      · intro t ht
        show (zp S' 19 i _).1 19 t = _
        by_cases e : t = i
        · subst e; rw [zp_at]
        · rw [zp_off _ _ (Or.inr e)]; exact hT t (by omega)
      · show n_X9_copyFrom_18_14_b2_l F (fun S x1 => rc (S, x1)) S' (nI i) = _
        unfold n_X9_copyFrom_18_14_b2_l
        simp (disch := omega) only [c24, nI_le_iff, zld_nI, k, zst_nI, zlet, nI_1]
        rw [if_neg (by omega)]) (by
      rintro ⟨S', x⟩ ⟨hx, hf, hT⟩
      have hx : x = nI 24 := hx
      subst hx
      refine ⟨S', ⟨hf, hT⟩, fun rc => ?_⟩
      show n_X9_copyFrom_18_14_b2_l F (fun S x1 => rc (S, x1)) S' (nI 24) = _
      unfold n_X9_copyFrom_18_14_b2_l
      rw [c24, if_pos (nI_le (by omega) (by omega))]) F (S, 0) ⟨rfl, fr_rf _ _ _, fun t ht => absurd ht (by omega)⟩ (by omega)
  obtain ⟨S2, ⟨f2, r2, z2, h2, n2⟩, e2⟩ : ∃ S2, (fr [19, 20, 21] [363, 364] S S2 ∧ (∀ t, t < 24 → S2.1 19 t = S.1 15 t) ∧ S2.1 0 364 = S.1 0 284 ∧ S2.1 0 363 = S.1 0 283 ∧ ∀ j, j < N.length → S2.1 20 j = S.1 16 j ∧ S2.1 21 j = S.1 17 j) ∧ n_X9_copyFrom_18_14_b28 F S1 0 = some (0, S2) :=
    zfix_for (f := fun (rc : (Zs × Int32) → Option (Int32 × Zs)) (u : (Zs × Int32)) => n_X9_copyFrom_18_14_b28_l F (fun S x1 => rc (S, x1)) u.1 u.2) N.length (fun i a => a.2 = nI i ∧ fr [19, 20, 21] [363, 364] S a.1 ∧ (∀ t, t < 24 → a.1.1 19 t = S.1 15 t) ∧ ∀ j, j < i → a.1.1 20 j = S.1 16 j ∧ a.1.1 21 j = S.1 17 j) (fun c : Zs => fr [19, 20, 21] [363, 364] S c ∧ (∀ t, t < 24 → c.1 19 t = S.1 15 t) ∧ c.1 0 364 = S.1 0 284 ∧ c.1 0 363 = S.1 0 283 ∧ ∀ j, j < N.length → c.1 20 j = S.1 16 j ∧ c.1 21 j = S.1 17 j) (fun c => some (0, c)) (by
      rintro i ⟨S', x⟩ hi ⟨hx, hf, hR, hT⟩
      have hx : x = nI i := hx
      subst hx
      have hf : fr [19, 20, 21] [363, 364] S S' := hf
      have k1 : S'.1 16 i = S.1 16 i := by rw [hf.2.1 16 (by decide) (by decide)]
      have k2 : (zp S' 20 i (S.1 16 i)).1 17 i = S.1 17 i := by rw [zp_off _ _ (Or.inl (by decide)), hf.2.1 17 (by decide) (by decide)]
      have k3 : S'.1 0 283 = nI N.length := by rw [hf.1 283 (by decide)]; exact g3
      refine Or.inr ⟨(zp (zp S' 20 i (S.1 16 i)) 21 i (S.1 17 i), nI (i + 1)), ⟨rfl, fr_t hf (fr_t (fr_r _ _ (by decide) (by decide)) (fr_r _ _ (by decide) (by decide))), hR, ?_⟩, fun rc => ?_⟩
      · intro j hj
        show (zp (zp S' 20 i (S.1 16 i)) 21 i (S.1 17 i)).1 20 j = _ ∧ (zp (zp S' 20 i (S.1 16 i)) 21 i (S.1 17 i)).1 21 j = _
        by_cases e : j = i
        · subst e; rw [zp_off _ _ (Or.inl (by decide)), zp_at, zp_at]; exact ⟨rfl, rfl⟩
        · rw [zp_off _ _ (Or.inl (by decide)), zp_off _ _ (Or.inr e), zp_off _ _ (Or.inr e), zp_off _ _ (Or.inl (by decide))]; exact hT j (by omega)
      · show n_X9_copyFrom_18_14_b28_l F (fun S x1 => rc (S, x1)) S' (nI i) = _
        unfold n_X9_copyFrom_18_14_b28_l
        simp (disch := omega) only [zgf, k3, nI_le_iff, zld_nI, k1, zst_nI, k2, zlet, nI_1]
        rw [if_neg (by omega)]) (by
      rintro ⟨S', x⟩ ⟨hx, hf, hR, hT⟩
      have hx : x = nI N.length := hx
      subst hx
      have hf : fr [19, 20, 21] [363, 364] S S' := hf
      have k3 : S'.1 0 283 = S.1 0 283 := by rw [hf.1 283 (by decide)]
      have k4 : (zp S' 0 363 (S.1 0 283)).1 0 284 = S.1 0 284 := by rw [zp_off _ _ (Or.inr (by decide)), hf.1 284 (by decide)]
      refine ⟨zp (zp S' 0 363 (S.1 0 283)) 0 364 (S.1 0 284), ⟨fr_t hf (fr_t (fr_p _ (by decide)) (fr_p _ (by decide))), hR, rfl, rfl, hT⟩, fun rc => ?_⟩
      show n_X9_copyFrom_18_14_b28_l F (fun S x1 => rc (S, x1)) S' (nI N.length) = _
      unfold n_X9_copyFrom_18_14_b28_l
      simp only [zgf, zpf, k3]
      rw [k4, isB_pb g2, if_pos (by rw [g3]; exact nI_le (by omega) (by omega))]) F (S1, 0) ⟨rfl, f1, r1, fun j hj => absurd hj (by omega)⟩ (by omega)
  refine ⟨S2, by rw [e1, e2], f2, fun t ht u => by rw [r2 t ht]; exact g1 t ht u, by rw [z2]; exact g2, by rw [h2]; exact g3, g4, fun i p hp => ?_⟩
  obtain ⟨hi, -⟩ := List.getElem?_eq_some_iff.mp hp
  rw [(n2 i hi).1, (n2 i hi).2]; exact g5 i p hp
def XC (X : Zs) (n : Nat) (cd : Nat → Nat) : Prop := X.1 0 62 = nI n ∧ n ≤ 16 ∧ ∀ i, i < n → X.1 4 i = nI (cd i) ∧ cd i < 2304
theorem XC_fr {R K : List Nat} {X X2 : Zs} {n : Nat} {cd : Nat → Nat} (h : XC X n cd) (f : fr R K X X2) (h1 : 62 ∉ K) (h2 : 4 ∉ R) : XC X2 n cd := by
  obtain ⟨g1, g2, g3⟩ := h
  refine ⟨by rw [f.1 62 h1]; exact g1, g2, fun i hi => ?_⟩
  rw [f.2.1 4 (by decide) h2]; exact g3 i hi
def bN (lv : Int32) (L : List Nat) : List (Nat × Nat) := lvN lv 12 ++ L.flatMap nd
theorem nd_len (L : List Nat) : (L.flatMap nd).length ≤ L.length := by
  induction L with
  | nil => exact Nat.le_refl 0
  | cons c L ih =>
    rw [List.flatMap_cons, List.length_append, List.length_cons]
    have : (nd c).length ≤ 1 := by
      unfold nd
      split
      · exact Nat.zero_le 1
      · exact Nat.le_refl 1
    omega
theorem bN_len (lv : Int32) (L : List Nat) : (bN lv L).length ≤ 12 + L.length := by
  unfold bN
  rw [List.length_append]
  have := lvN_len lv 12
  have := nd_len L
  omega
theorem bN_snoc (lv : Int32) (L : List Nat) (c : Nat) : bN lv (L ++ [c]) = bN lv L ++ nd c := by
  unfold bN
  rw [List.flatMap_append, List.flatMap_cons, List.flatMap_nil, List.append_nil, List.append_assoc]
theorem nd_mem {c : Nat} {p : Nat × Nat} : p ∈ nd c ↔ 1152 ≤ c ∧ p = (sj c, tg c) := by
  rcases Nat.lt_or_ge c 1152 with h | h
  · rw [nd_u h]
    constructor
    · intro g; exact absurd g List.not_mem_nil
    · intro g; omega
  · rw [nd_p h, List.mem_singleton]
    exact ⟨fun g => ⟨h, g⟩, fun g => g.2⟩
theorem bN_con (lv : Int32) (L : List Nat) : (∀ p ∈ bN lv L, Can (· ∈ L) p.1 p.2) ↔ Con L lv := by
  unfold bN Con
  constructor
  · intro h
    refine ⟨fun c hc hu => ?_, fun k hk hl => ?_⟩
    · exact h (sj c, tg c) (List.mem_append.mpr (Or.inr (List.mem_flatMap.mpr ⟨c, hc, nd_mem.mpr ⟨hu, rfl⟩⟩)))
    · exact h (2 * k, 2 * k) (List.mem_append.mpr (Or.inl (lvN_mem.mpr ⟨k, hk, hl, rfl⟩)))
  · rintro ⟨h1, h2⟩ p hp
    rcases List.mem_append.mp hp with hp | hp
    · obtain ⟨k, hk, hl, rfl⟩ := lvN_mem.mp hp
      exact h2 k hk hl
    · obtain ⟨c, hc, hp⟩ := List.mem_flatMap.mp hp
      obtain ⟨hu, rfl⟩ := nd_mem.mp hp
      exact h1 c hc hu
theorem mem_snoc {L : List Nat} {c d : Nat} : d ∈ L ++ [c] ↔ add1 (· ∈ L) c d := by
  unfold add1
  rw [List.mem_append, List.mem_singleton]
/-- the prepared theory is that of some sayings -/
def KB (X : Zs) (n : Nat) (cd : Nat → Nat) : Prop := X.1 0 264 = -1 ∨ (bnd (X.1 0 264) n ∧ Th 15 16 17 283 284 X (· ∈ sel cd (X.1 0 264) n) (bN (X.1 0 265) (sel cd (X.1 0 264) n)))
theorem th_prepl {F : Nat} (hF : 2 ^ 40 < F) {X : Zs} {n : Nat} {cd : Nat → Nat} (hX : XC X n cd) (b lv : Int32) (h0 : Th 15 16 17 283 284 X (fun _ => False) (lvN lv 12)) : ∃ X2, (fr [15, 16, 17] [264, 265, 283, 284] X X2 ∧ Th 15 16 17 283 284 X2 (· ∈ sel cd b n) (bN lv (sel cd b n)) ∧ X2.1 0 264 = b ∧ X2.1 0 265 = X.1 0 65) ∧ n_X1_prepare_13_b50 F X b 0 = some (0, X2) := by
  obtain ⟨x1, x2, x3⟩ := id hX
  exact zfix_for (f := fun (rc : (Zs × Int32 × Int32) → Option (Int32 × Zs)) (u : (Zs × Int32 × Int32)) => n_X1_prepare_13_b50_l F  (fun S x1 x2 => rc (S, x1, x2)) u.1 u.2.1 u.2.2) n (fun i a => a.2.1 = b ∧ a.2.2 = nI i ∧ fr [15, 16, 17] [264, 265, 283, 284] X a.1 ∧ Th 15 16 17 283 284 a.1 (· ∈ sel cd b i) (bN lv (sel cd b i))) (fun c : Zs => fr [15, 16, 17] [264, 265, 283, 284] X c ∧ Th 15 16 17 283 284 c (· ∈ sel cd b n) (bN lv (sel cd b n)) ∧ c.1 0 264 = b ∧ c.1 0 265 = X.1 0 65) (fun c => some (0, c)) (by
    rintro i ⟨S', x, y⟩ hi ⟨hx, hy, hf, hT⟩
    have hx : x = b := hx
    have hy : y = nI i := hy
    subst hx hy
    have hf : fr [15, 16, 17] [264, 265, 283, 284] X S' := hf
    have hT : Th 15 16 17 283 284 S' (· ∈ sel cd x i) (bN lv (sel cd x i)) := hT
    obtain ⟨y1, y2, y3⟩ := XC_fr hX hf (by decide) (by decide)
    obtain ⟨k1, k2⟩ := y3 i hi
    have hl := bN_len lv (sel cd x i)
    have hl2 := sel_len cd x i
    have e : ∀ rc : (Zs × Int32 × Int32) → Option (Int32 × Zs), n_X1_prepare_13_b50_l F (fun S x1 x2 => rc (S, x1, x2)) S' x (nI i) = if hb x i = false then rc (S', x, nI (i + 1)) else zcl (n_X0_isUniversal F S' (nI (cd i))) (fun v7 S6 => if v7 = 0 then (zcl (n_X0_subject F S6 (nI (cd i))) (fun v9 S8 => zcl (n_X0_target F S8 (nI (cd i))) (fun v11 S10 => zcl (n_X9_require_14 F S10 v9 v11) (fun v13 S12 => rc (S12, x, nI (i + 1)))))) else (zcl (n_X0_subject F S6 (nI (cd i))) (fun v15 S14 => zcl (n_X0_target F S14 (nI (cd i))) (fun v17 S16 => zcl (n_X9_imply_14 F S16 v15 v17) (fun v19 S18 => rc (S18, x, nI (i + 1))))))) := by
      intro rc
      unfold n_X1_prepare_13_b50_l n_X1_prepare_13_b122
      simp (disch := omega) only [zgf, y1, nI_le_iff, zld_nI, k1, hb_sh0, zlet, nI_1]
      rw [if_neg (by omega)]
    cases hbit : hb x i with
    | false =>
      refine Or.inr ⟨(S', x, nI (i + 1)), ⟨rfl, rfl, hf, by rw [sel_f hbit]; exact hT⟩, fun rc => ?_⟩
      show n_X1_prepare_13_b50_l F (fun S x1 x2 => rc (S, x1, x2)) S' x (nI i) = _
      rw [e, if_pos hbit]
    | true =>
      have hh : ∀ d, d < 1152 → (add1 (· ∈ sel cd x i) (cd i) d ↔ d ∈ sel cd x (i + 1)) := fun d _ => by rw [sel_t hbit, mem_snoc]
      rcases Nat.lt_or_ge (cd i) 1152 with hu | hu
      · obtain ⟨S2, e2, f2, t2⟩ := th_imply_14 hF hT hu
        refine Or.inr ⟨(S2, x, nI (i + 1)), ⟨rfl, rfl, fr_t hf (fr_w f2 (by decide) (by decide)), ?_⟩, fun rc => ?_⟩
        · have := Th_same hh t2
          rw [sel_t hbit, bN_snoc, nd_u hu, List.append_nil, ← sel_t hbit]
          exact this
        · show n_X1_prepare_13_b50_l F (fun S x1 x2 => rc (S, x1, x2)) S' x (nI i) = _
          rw [e, if_neg (by rw [hbit]; decide), n_uniT F _ hu, zcS, if_neg (by decide), n_subj F _ k2, zcS, n_tgt F _ k2, zcS, e2, zcS]
      · obtain ⟨S2, e2, f2, t2⟩ := th_req_14 (F := F) hT (by omega) (sj_lt (cd i)) (tg_lt (cd i))
        refine Or.inr ⟨(S2, x, nI (i + 1)), ⟨rfl, rfl, fr_t hf (fr_w f2 (by decide) (by decide)), ?_⟩, fun rc => ?_⟩
        · have := Th_same (Q := (· ∈ sel cd x (i + 1))) (fun d hd => (show d ∈ sel cd x i ↔ d ∈ sel cd x (i + 1) by
            rw [← hh d hd]; exact ⟨Or.inl, fun g => g.elim id fun g => by omega⟩)) t2
          rw [sel_t hbit, bN_snoc, nd_p hu, ← sel_t hbit]
          exact this
        · show n_X1_prepare_13_b50_l F (fun S x1 x2 => rc (S, x1, x2)) S' x (nI i) = _
          rw [e, if_neg (by rw [hbit]; decide), n_uniF F _ k2 hu, zcS, if_pos rfl, n_subj F _ k2, zcS, n_tgt F _ k2, zcS, e2, zcS]) (by
    rintro ⟨S', x, y⟩ ⟨hx, hy, hf, hT⟩
    have hx : x = b := hx
    have hy : y = nI n := hy
    subst hx hy
    have hf : fr [15, 16, 17] [264, 265, 283, 284] X S' := hf
    have hT : Th 15 16 17 283 284 S' (· ∈ sel cd x n) (bN lv (sel cd x n)) := hT
    obtain ⟨y1, y2, y3⟩ := XC_fr hX hf (by decide) (by decide)
    have k65 : (zp S' 0 264 x).1 0 65 = X.1 0 65 := by rw [zp_off _ _ (Or.inr (by decide)), hf.1 65 (by decide)]
    have f2 : fr [] [264, 265] S' (zp (zp S' 0 264 x) 0 265 (X.1 0 65)) := fr_t (fr_p _ (by decide)) (fr_p _ (by decide))
    refine ⟨zp (zp S' 0 264 x) 0 265 (X.1 0 65), ⟨fr_t hf (fr_w f2 (by decide) (by decide)), Th_fr hT f2 (by decide) (by decide) (by decide) (by decide) (by decide), rfl, rfl⟩, fun rc => ?_⟩
    show n_X1_prepare_13_b50_l F (fun S x1 x2 => rc (S, x1, x2)) S' x (nI n) = _
    unfold n_X1_prepare_13_b50_l
    simp (disch := omega) only [zgf, zpf, y1, nI_le_iff, k65]
    rw [if_pos (by omega)]) F (X, b, 0) ⟨rfl, rfl, fr_rf _ _ _, by
      have e : sel cd b 0 = [] := rfl
      rw [e, show bN lv [] = lvN lv 12 from List.append_nil _]
      exact Th_same (fun c _ => ⟨fun g => g.elim, fun g => absurd g List.not_mem_nil⟩) h0⟩ (by omega)
theorem x_prep {F : Nat} (hF : 2 ^ 40 < F) {X : Zs} {n : Nat} {cd : Nat → Nat} (hX : XC X n cd) (hK : KB X n cd) {b : Int32} (hb : bnd b n) : ∃ X2, n_X1_prepare_13 F X b = some (0, X2) ∧ fr [15, 16, 17] [264, 265, 283, 284] X X2 ∧ Th 15 16 17 283 284 X2 (· ∈ sel cd b n) (bN (X.1 0 65) (sel cd b n)) ∧ X2.1 0 264 = b ∧ X2.1 0 265 = X.1 0 65 := by
  have e : n_X1_prepare_13 F X b = if X.1 0 264 = b then (if X.1 0 265 = X.1 0 65 then some (0, X) else n_X1_prepare_13_b27 F X b) else n_X1_prepare_13_b27 F X b := rfl
  by_cases h : X.1 0 264 = b ∧ X.1 0 265 = X.1 0 65
  · rcases hK with hK | ⟨hK, hT⟩
    · exfalso
      have hn := hX.2.1
      rw [← h.1, hK] at hb
      have h1 : (4294967295 : Nat) < 2 ^ n := hb
      have h2 : 2 ^ n ≤ 2 ^ 16 := Nat.pow_le_pow_right (by omega) hn
      omega
    · refine ⟨X, by rw [e, if_pos h.1, if_pos h.2], fr_rf _ _ _, ?_, h.1, h.2⟩
      rw [h.1, h.2] at hT
      exact hT
  · have e2 : n_X1_prepare_13 F X b = n_X1_prepare_13_b27 F X b := by
      rw [e]
      by_cases h1 : X.1 0 264 = b
      · rw [if_pos h1, if_neg (fun g => h ⟨h1, g⟩)]
      · rw [if_neg h1]
    obtain ⟨X1, e1, f1, t1⟩ := th_clear_14 hF X
    obtain ⟨X2, e3, f2, t2⟩ := th_live_14 hF t1 (by show 0 ≤ 17; omega) (X.1 0 65)
    have f12 : fr [15, 16, 17] [264, 265, 283, 284] X X2 := fr_t (fr_w f1 (by decide) (by decide)) (fr_w f2 (by decide) (by decide))
    obtain ⟨X3, ⟨f3, t3, k1, k2⟩, e4⟩ := th_prepl hF (XC_fr hX f12 (by decide) (by decide)) b (X.1 0 65) t2
    refine ⟨X3, ?_, fr_t f12 f3, t3, k1, by rw [k2, f12.1 65 (by decide)]⟩
    rw [e2]
    unfold n_X1_prepare_13_b27
    rw [e1, zcS]
    simp only [zgf]
    rw [f1.1 65 (by decide), e3, zcS, e4]
theorem x_against {F : Nat} (hF : 2 ^ 40 < F) {X : Zs} {P : Nat → Prop} {N : List (Nat × Nat)} (h : Th 15 16 17 283 284 X P N) (hn : N.length < 29) {c : Nat} (hc : c < 2304) : ∃ X2, n_X1_against_13 F X (nI c) = some (0, X2) ∧ fr [19, 20, 21] [363, 364] X X2 ∧ Th 19 20 21 363 364 X2 (add1 P c) (N ++ nd c) := by
  obtain ⟨X1, e1, f1, t1⟩ := th_copy hF h
  have hne : ¬ nI c = (-1 : Int32) := fun g => by
    have h1 := nI_pos (n := c) (by omega)
    rw [g] at h1
    exact h1 (by decide)
  unfold n_X1_against_13 n_X1_against_13_e n_X1_against_13_b61
  rw [e1, zcS, if_neg hne]
  rcases Nat.lt_or_ge c 1152 with hu | hu
  · obtain ⟨X2, e2, f2, t2⟩ := th_imply_18 hF t1 hu
    refine ⟨X2, ?_, fr_t f1 (fr_w f2 (by decide) (by decide)), ?_⟩
    · rw [n_uniT F _ hu, zcS, if_neg (by decide), n_subj F _ hc, zcS, n_tgt F _ hc, zcS, e2, zcS]
    · rw [nd_u hu, List.append_nil]; exact t2
  · obtain ⟨X2, e2, f2, t2⟩ := th_req_18 (F := F) t1 hn (sj_lt c) (tg_lt c)
    refine ⟨X2, ?_, fr_t f1 (fr_w f2 (by decide) (by decide)), ?_⟩
    · rw [n_uniF F _ hc hu, zcS, if_pos rfl, n_subj F _ hc, zcS, n_tgt F _ hc, zcS, e2, zcS]
    · rw [nd_p hu]; exact Th_same (fun d hd => ⟨Or.inl, fun k => k.elim id fun k => by omega⟩) t2
theorem x_against0 {F : Nat} (hF : 2 ^ 40 < F) {X : Zs} {P : Nat → Prop} {N : List (Nat × Nat)} (h : Th 15 16 17 283 284 X P N) : ∃ X2, n_X1_against_13 F X (-1) = some (0, X2) ∧ fr [19, 20, 21] [363, 364] X X2 ∧ Th 19 20 21 363 364 X2 P N := by
  obtain ⟨X1, e1, f1, t1⟩ := th_copy hF h
  refine ⟨X1, ?_, f1, t1⟩
  unfold n_X1_against_13 n_X1_against_13_e
  rw [e1, zcS, if_pos rfl]
/-- what the court writes on -/
def cR : List Nat := [15, 16, 17, 19, 20, 21]
def cK : List Nat := [264, 265, 283, 284, 363, 364]
theorem KB_of {X X2 X3 : Zs} {n : Nat} {cd : Nat → Nat} {b : Int32} (hb : bnd b n) (h1 : X2.1 0 264 = b) (h2 : X2.1 0 265 = X.1 0 65) (hT : Th 15 16 17 283 284 X2 (· ∈ sel cd b n) (bN (X.1 0 65) (sel cd b n))) (f : fr [19, 20, 21] [363, 364] X2 X3) : KB X3 n cd := by
  refine Or.inr ?_
  rw [f.1 264 (by decide), f.1 265 (by decide), h1, h2]
  exact ⟨hb, Th_fr hT f (by decide) (by decide) (by decide) (by decide) (by decide)⟩
theorem x_cons {F : Nat} (hF : 2 ^ 40 < F) {X : Zs} {n : Nat} {cd : Nat → Nat} (hX : XC X n cd) (hK : KB X n cd) {b : Int32} (hb : bnd b n) : ∃ r X2, n_X1_consistent_13 F X b = some (r, X2) ∧ fr cR cK X X2 ∧ isB r (Con (sel cd b n) (X.1 0 65)) ∧ KB X2 n cd := by
  obtain ⟨X1, e1, f1, t1, k1, k2⟩ := x_prep hF hX hK hb
  obtain ⟨r, hr, er⟩ := th_cons_14 hF t1
  have hr := isB_iff hr (bN_con _ _)
  refine ⟨r, X1, ?_, fr_w f1 (by decide) (by decide), hr, KB_of hb k1 k2 t1 (fr_rf _ _ _)⟩
  unfold n_X1_consistent_13 n_X1_consistent_13_e
  rw [e1, zcS, er, zcS, isB_rb hr]
theorem x_entails {F : Nat} (hF : 2 ^ 40 < F) {X : Zs} {n : Nat} {cd : Nat → Nat} (hX : XC X n cd) (hK : KB X n cd) {b : Int32} (hb : bnd b n) {c : Nat} (hc : c < 2304) : ∃ r X2, n_X1_entails_13 F X b (nI c) = some (r, X2) ∧ fr cR cK X X2 ∧ isB r (¬ Con (sel cd b n ++ [ct c]) (X.1 0 65)) ∧ KB X2 n cd := by
  obtain ⟨X1, e1, f1, t1, k1, k2⟩ := x_prep hF hX hK hb
  have hl := bN_len (X.1 0 65) (sel cd b n)
  have hl2 := sel_len cd b n
  have hn := hX.2.1
  obtain ⟨X2, e2, f2, t2⟩ := x_against hF t1 (by omega) (ct_lt hc)
  rw [← bN_snoc] at t2
  have t2 := Th_same (Q := (· ∈ sel cd b n ++ [ct c])) (fun d _ => mem_snoc.symm) t2
  obtain ⟨r, hr, er⟩ := th_cons_18 hF t2
  have hr := isB_iff hr (bN_con _ _)
  have f3 : fr cR cK X X2 := fr_t (fr_w f1 (by decide) (by decide)) (fr_w f2 (by decide) (by decide))
  have e : n_X1_entails_13 F X b (nI c) = if r = 0 then n_X1_entails_13_b25 F X2 1 else n_X1_entails_13_b25 F X2 0 := by
    unfold n_X1_entails_13 n_X1_entails_13_e
    rw [e1, zcS, n_ctr F _ hc, zcS, e2, zcS, er, zcS]
  by_cases h : Con (sel cd b n ++ [ct c]) (X.1 0 65)
  · refine ⟨0, X2, ?_, f3, Or.inr ⟨rfl, fun g => g h⟩, KB_of hb k1 k2 t1 f2⟩
    rw [e, if_neg (fun g => (isB_0 hr).mp g h)]; exact zrb_0 _
  · refine ⟨1, X2, ?_, f3, Or.inl ⟨rfl, h⟩, KB_of hb k1 k2 t1 f2⟩
    rw [e, if_pos ((isB_0 hr).mpr h)]; exact zrb_1 _
