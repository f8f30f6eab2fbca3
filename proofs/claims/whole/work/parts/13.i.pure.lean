/-! THE CLASS'S THEORIES -/
theorem c24 : (24 : Int32) = nI 24 := rfl
theorem c12 : (12 : Int32) = nI 12 := rfl
theorem c29 : (29 : Int32) = nI 29 := rfl
theorem c16 : (16 : Int32) = nI 16 := rfl
theorem tw (k : Nat) : (2 : Int32) * nI k = nI (2 * k) := pk_mul 2 k
theorem zpb_0 {β : Type} (S : Zs) (k : Nat) (f : Zs → Option β) : zpb S k 0 f = f (zp S 0 k 0) := by unfold zpb; rw [if_pos (Or.inl rfl)]
theorem zpb_1 {β : Type} (S : Zs) (k : Nat) (f : Zs → Option β) : zpb S k 1 f = f (zp S 0 k 1) := by unfold zpb; rw [if_pos (Or.inr rfl)]
def Th (rb rx ry fh fb : Nat) (S : Zs) (P : Nat → Prop) (N : List (Nat × Nat)) : Prop := TB S rb P ∧ isB (S.1 0 fb) (Br P) ∧ S.1 0 fh = nI N.length ∧ N.length ≤ 29 ∧ ∀ i p, N[i]? = some p → S.1 rx i = nI p.1 ∧ S.1 ry i = nI p.2 ∧ p.1 < 24 ∧ p.2 < 24
theorem Rc_none {t u : Nat} : Rc (fun _ => False) t u ↔ t < 24 ∧ t = u := by
  refine ⟨fun h => ⟨(Rc_lt h).1, h (fun a b => a = b) (fun _ _ => rfl) (fun _ _ _ h g => h.trans g) (fun _ _ ⟨_, h, _⟩ => h.elim)⟩, fun h => ?_⟩
  rw [← h.2]; exact Rc_rf _ h.1
theorem x1_ne : ∀ t, t < 24 → ¬ t ^^^ 1 = t := by decide
theorem Br_none : ¬ Br (fun _ => False) := by
  rintro ⟨t, h0, h1, h2⟩
  exact x1_ne t h0 (Rc_none.mp h2).2
theorem TB_1 {S : Zs} {r : Nat} (h : ∀ t, t < 24 → S.1 r t = (1 : Int32) <<< (nI t &&& 31)) : TB S r (fun _ => False) := by
  intro t ht u
  rw [h t ht, hb_one (by omega), decide_eq_true_iff, Rc_none]
  exact ⟨fun g => ⟨ht, g.symm⟩, fun g => g.2.symm⟩
def lvN (lv : Int32) (n : Nat) : List (Nat × Nat) := ((List.range n).filter (fun k => hb lv k)).map (fun k => (2 * k, 2 * k))
theorem lvN_t {lv : Int32} {n : Nat} (h : hb lv n = true) : lvN lv (n + 1) = lvN lv n ++ [(2 * n, 2 * n)] := by
  unfold lvN
  rw [List.range_succ, List.filter_append, List.map_append, List.filter_cons, if_pos h]; rfl
theorem lvN_f {lv : Int32} {n : Nat} (h : hb lv n = false) : lvN lv (n + 1) = lvN lv n := by
  unfold lvN
  rw [List.range_succ, List.filter_append, List.map_append, List.filter_cons, if_neg (by rw [h]; decide)]
  exact List.append_nil _
theorem lvN_len (lv : Int32) (n : Nat) : (lvN lv n).length ≤ n := by
  unfold lvN
  rw [List.length_map]
  exact Nat.le_trans (List.length_filter_le _ _) (by rw [List.length_range]; omega)
theorem lvN_mem {lv : Int32} {n : Nat} {p : Nat × Nat} : p ∈ lvN lv n ↔ ∃ k, k < n ∧ hb lv k = true ∧ p = (2 * k, 2 * k) := by
  unfold lvN
  rw [List.mem_map]
  constructor
  · rintro ⟨k, hk, e⟩
    rw [List.mem_filter, List.mem_range] at hk
    exact ⟨k, hk.1, hk.2, e.symm⟩
  · rintro ⟨k, h1, h2, e⟩
    exact ⟨k, List.mem_filter.mpr ⟨List.mem_range.mpr h1, h2⟩, e.symm⟩
theorem get_snoc {α : Type} {N : List α} {q p : α} {i : Nat} (h : (N ++ [q])[i]? = some p) : (i < N.length ∧ N[i]? = some p) ∨ (i = N.length ∧ p = q) := by
  rcases Nat.lt_or_ge i N.length with g | g
  · rw [List.getElem?_append_left g] at h; exact Or.inl ⟨g, h⟩
  · rw [List.getElem?_append_right g] at h
    rcases Nat.eq_zero_or_pos (i - N.length) with k | k
    · rw [k] at h; exact Or.inr ⟨by omega, (Option.some.inj h).symm⟩
    · rw [List.getElem?_eq_none (by show 1 ≤ _; omega)] at h; exact absurd h (by simp)
/-- one more need -/
theorem Th_req {rb rx ry fh fb : Nat} {S : Zs} {P : Nat → Prop} {N : List (Nat × Nat)} (h : Th rb rx ry fh fb S P N) (hn : N.length < 29) {x y : Nat} (hx : x < 24) (hy : y < 24) (d1 : rb ≠ rx) (d2 : rb ≠ ry) (d3 : rx ≠ ry) (d4 : fh ≠ fb) (d5 : rx ≠ 0) (d6 : ry ≠ 0) (d7 : rb ≠ 0) : Th rb rx ry fh fb (zp (zp (zp S rx N.length (nI x)) ry N.length (nI y)) 0 fh (nI (N.length + 1))) P (N ++ [(x, y)]) := by
  obtain ⟨h1, h2, h3, h4, h5⟩ := h
  refine ⟨?_, ?_, ?_, ?_, ?_⟩
  · intro t ht u
    rw [zp_off _ _ (Or.inl d7), zp_off _ _ (Or.inl d2), zp_off _ _ (Or.inl d1)]
    exact h1 t ht u
  · rw [zp_off _ _ (Or.inr (Ne.symm d4)), zp_off _ _ (Or.inl (Ne.symm d6)), zp_off _ _ (Or.inl (Ne.symm d5))]
    exact h2
  · rw [zp_at, List.length_append]; rfl
  · rw [List.length_append]; exact hn
  · intro i p hp
    rcases get_snoc hp with ⟨hi, hp⟩ | ⟨rfl, rfl⟩
    · obtain ⟨k1, k2, k3⟩ := h5 i p hp
      rw [zp_off _ _ (Or.inl d5), zp_off _ _ (Or.inl d3), zp_off _ _ (Or.inr (by omega)), zp_off _ _ (Or.inl d6), zp_off _ _ (Or.inr (by omega)), zp_off _ _ (Or.inl (Ne.symm d3))]
      exact ⟨k1, k2, k3⟩
    · rw [zp_off _ _ (Or.inl d5), zp_off _ _ (Or.inl d3), zp_at, zp_off _ _ (Or.inl d6), zp_at]
      exact ⟨rfl, rfl, hx, hy⟩
-- theory 14
theorem th_clear_14 {F : Nat} (hF : 2 ^ 40 < F) (S : Zs) : ∃ S2, n_X9_clear_14 F S = some (0, S2) ∧ fr [15] [283, 284] S S2 ∧ Th 15 16 17 283 284 S2 (fun _ => False) [] := by
  have key := zfix_for (f := fun (rc : (Zs × Int32) → Option (Int32 × Zs)) (u : (Zs × Int32)) => n_X9_clear_14_b2_l F (fun S x1 => rc (S, x1)) u.1 u.2) 24 (fun i a => a.2 = nI i ∧ fr [15] [283, 284] S a.1 ∧ ∀ t, t < i → a.1.1 15 t = (1 : Int32) <<< (nI t &&& 31)) (fun c : Zs => fr [15] [283, 284] S c ∧ c.1 0 283 = 0 ∧ c.1 0 284 = 0 ∧ ∀ t, t < 24 → c.1 15 t = (1 : Int32) <<< (nI t &&& 31)) (fun c => some (0, c)) (by
    rintro i ⟨S', x⟩ hi ⟨hx, hf, hT⟩
    have hx : x = nI i := hx
    subst hx
    refine Or.inr ⟨(zp S' 15 i ((1 : Int32) <<< (nI i &&& 31)), nI (i + 1)), ⟨rfl, fr_t hf (fr_r _ _ (by decide) (by decide)), ?_⟩, fun rc => ?_⟩
    · intro t ht
      show (zp S' 15 i _).1 15 t = _
      by_cases e : t = i
      · subst e; rw [zp_at]
      · rw [zp_off _ _ (Or.inr e)]; exact hT t (by omega)
    · show n_X9_clear_14_b2_l F (fun S x1 => rc (S, x1)) S' (nI i) = _
      unfold n_X9_clear_14_b2_l
      simp (disch := omega) only [c24, nI_le_iff, zst_nI, zlet, nI_1]
      rw [if_neg (by omega)]) (by
    rintro ⟨S', x⟩ ⟨hx, hf, hT⟩
    have hx : x = nI 24 := hx
    subst hx
    refine ⟨zp (zp S' 0 283 0) 0 284 0, ⟨fr_t hf (fr_t (fr_p _ (by decide)) (fr_p _ (by decide))), rfl, rfl, hT⟩, fun rc => ?_⟩
    show n_X9_clear_14_b2_l F (fun S x1 => rc (S, x1)) S' (nI 24) = _
    unfold n_X9_clear_14_b2_l
    simp (disch := omega) only [c24, nI_le_iff, zpf, zpb_0]
    rw [if_pos (by omega)]) F (S, 0) ⟨rfl, fr_rf _ _ _, fun t ht => absurd ht (by omega)⟩ (by omega)
  obtain ⟨q, ⟨h1, h2, h3, h4⟩, e⟩ := key
  refine ⟨q, e, h1, TB_1 h4, Or.inr ⟨h3, Br_none⟩, h2, by decide, ?_⟩
  intro i p hp
  exact absurd hp (by simp)
theorem th_req_14 {F : Nat} {S : Zs} {P : Nat → Prop} {N : List (Nat × Nat)} (h : Th 15 16 17 283 284 S P N) (hn : N.length < 29) {x y : Nat} (hx : x < 24) (hy : y < 24) : ∃ S2, n_X9_require_14 F S (nI x) (nI y) = some (0, S2) ∧ fr [16, 17] [283] S S2 ∧ Th 15 16 17 283 284 S2 P (N ++ [(x, y)]) := by
  refine ⟨zp (zp (zp S 16 N.length (nI x)) 17 N.length (nI y)) 0 283 (nI (N.length + 1)), ?_, fr_t (fr_r _ _ (by decide) (by decide)) (fr_t (fr_r _ _ (by decide) (by decide)) (fr_p _ (by decide))), Th_req h hn hx hy (by decide) (by decide) (by decide) (by decide) (by decide) (by decide) (by decide)⟩
  unfold n_X9_require_14 n_X9_require_14_e n_X9_require_14_b39
  obtain ⟨-, -, h3, -, -⟩ := h
  have e1 : (zp S 16 N.length (nI x)).1 0 283 = nI N.length := h3
  have e2 : (zp (zp S 16 N.length (nI x)) 17 N.length (nI y)).1 0 283 = nI N.length := h3
  simp (disch := omega) only [zgf, zpf, h3, c29, nI_le_iff, zst_nI, e1, e2, nI_1]
  rw [if_neg (by omega)]
theorem th_live_14 {F : Nat} (hF : 2 ^ 40 < F) {S : Zs} {P : Nat → Prop} {N : List (Nat × Nat)} (h : Th 15 16 17 283 284 S P N) (hn : N.length ≤ 17) (lv : Int32) : ∃ S2, n_X9_addLiving_14 F S lv = some (0, S2) ∧ fr [16, 17] [283] S S2 ∧ Th 15 16 17 283 284 S2 P (N ++ lvN lv 12) := by
  have key := zfix_for (f := fun (rc : (Zs × Int32 × Int32) → Option (Int32 × Zs)) (u : (Zs × Int32 × Int32)) => n_X9_addLiving_14_b2_l F  (fun S x1 x2 => rc (S, x1, x2)) u.1 u.2.1 u.2.2) 12 (fun i a => a.2.1 = lv ∧ a.2.2 = nI i ∧ fr [16, 17] [283] S a.1 ∧ Th 15 16 17 283 284 a.1 P (N ++ lvN lv i)) (fun c : Zs => fr [16, 17] [283] S c ∧ Th 15 16 17 283 284 c P (N ++ lvN lv 12)) (fun c => some (0, c)) (by
    rintro i ⟨S', x, y⟩ hi ⟨hx, hy, hf, hT⟩
    have hx : x = lv := hx
    have hy : y = nI i := hy
    subst hx hy
    have hl := lvN_len x i
    have hL : (N ++ lvN x i).length ≤ N.length + i := by rw [List.length_append]; omega
    have h3 : S'.1 0 283 = nI (N ++ lvN x i).length := hT.2.2.1
    cases hbit : hb x i with
    | false =>
      refine Or.inr ⟨(S', x, nI (i + 1)), ⟨rfl, rfl, hf, by rw [lvN_f hbit]; exact hT⟩, fun rc => ?_⟩
      show n_X9_addLiving_14_b2_l F (fun S x1 x2 => rc (S, x1, x2)) S' x (nI i) = _
      unfold n_X9_addLiving_14_b2_l n_X9_addLiving_14_b59
      simp (disch := omega) only [c12, nI_le_iff, zlet, nI_1, hb_sh0]
      rw [if_neg (by omega), if_pos hbit]
    | true =>
      refine Or.inr ⟨(zp (zp (zp S' 16 (N ++ lvN x i).length (nI (2 * i))) 17 (N ++ lvN x i).length (nI (2 * i))) 0 283 (nI ((N ++ lvN x i).length + 1)), x, nI (i + 1)), ⟨rfl, rfl, fr_t hf (fr_t (fr_r _ _ (by decide) (by decide)) (fr_t (fr_r _ _ (by decide) (by decide)) (fr_p _ (by decide)))), ?_⟩, fun rc => ?_⟩
      · rw [lvN_t hbit, ← List.append_assoc]
        exact Th_req hT (by omega) (by omega) (by omega) (by decide) (by decide) (by decide) (by decide) (by decide) (by decide) (by decide)
      · show n_X9_addLiving_14_b2_l F (fun S x1 x2 => rc (S, x1, x2)) S' x (nI i) = _
        generalize (N ++ lvN x i).length = n at *
        have e1 : (zp S' 16 n (nI (2 * i))).1 0 283 = nI n := h3
        have e2 : (zp (zp S' 16 n (nI (2 * i))) 17 n (nI (2 * i))).1 0 283 = nI n := h3
        unfold n_X9_addLiving_14_b2_l n_X9_addLiving_14_b59
        simp (disch := omega) only [zgf, zpf, tw, h3, e1, e2, c12, c29, nI_le_iff, zlet, zst_nI, nI_1, hb_sh0]
        rw [if_neg (by omega), if_neg (by rw [hbit]; decide), if_neg (by omega)]) (by
    rintro ⟨S', x, y⟩ ⟨hx, hy, hf, hT⟩
    have hx : x = lv := hx
    have hy : y = nI 12 := hy
    subst hx hy
    refine ⟨S', ⟨hf, hT⟩, fun rc => ?_⟩
    show n_X9_addLiving_14_b2_l F (fun S x1 x2 => rc (S, x1, x2)) S' x (nI 12) = _
    unfold n_X9_addLiving_14_b2_l
    simp (disch := omega) only [c12, nI_le_iff]
    rw [if_pos (by omega)]) F (S, lv, 0) ⟨rfl, rfl, fr_rf _ _ _, by rw [show lvN lv 0 = [] from rfl, List.append_nil]; exact h⟩ (by omega)
  obtain ⟨q, ⟨h1, h2⟩, e⟩ := key
  exact ⟨q, e, h1, h2⟩
theorem th_l16_14 {F : Nat} (hF : 2 ^ 40 < F) (S : Zs) {x y : Nat} (hx : x < 24) (hy : y < 24) : ∃ S2, (fr [15] [284] S S2 ∧ S2.1 0 284 = S.1 0 284 ∧ ∀ t, t < 24 → S2.1 15 t = upR (S.1 15) x y t) ∧ n_X9_imply_14_b16 F S (nI x) (nI y) 0 = n_X9_imply_14_b58 F S2 (nI x) (nI y) 0 := by
  have key := zfix_for (f := fun (rc : (Zs × Int32 × Int32 × Int32) → Option (Int32 × Zs)) (u : (Zs × Int32 × Int32 × Int32)) => n_X9_imply_14_b16_l F  (fun S x1 x2 x3 => rc (S, x1, x2, x3)) u.1 u.2.1 u.2.2.1 u.2.2.2) 24 (fun i a => a.2.1 = nI x ∧ a.2.2.1 = nI y ∧ a.2.2.2 = nI i ∧ fr [15] [284] S a.1 ∧ a.1.1 0 284 = S.1 0 284 ∧ ∀ t, t < 24 → a.1.1 15 t = if t < i then upR (S.1 15) x y t else S.1 15 t) (fun c : Zs => fr [15] [284] S c ∧ c.1 0 284 = S.1 0 284 ∧ ∀ t, t < 24 → c.1 15 t = upR (S.1 15) x y t) (fun c => n_X9_imply_14_b58 F c (nI x) (nI y) 0) (by
    rintro i ⟨S', a, b, c⟩ hi ⟨ha, hb', hc, hf, hz, hT⟩
    have ha : a = nI x := ha
    have hb' : b = nI y := hb'
    have hc : c = nI i := hc
    subst ha hb' hc
    have hf : fr [15] [284] S S' := hf
    have hz : S'.1 0 284 = S.1 0 284 := hz
    have hT : ∀ t, t < 24 → S'.1 15 t = if t < i then upR (S.1 15) x y t else S.1 15 t := hT
    have ri : S'.1 15 i = S.1 15 i := by rw [hT i hi, if_neg (by omega)]
    have ry : S'.1 15 y = S.1 15 y := by
      rw [hT y hy]
      split
      · exact upR_y _ _ _
      · rfl
    cases hbit : hb (S.1 15 i) x with
    | false =>
      refine Or.inr ⟨(S', nI x, nI y, nI (i + 1)), ⟨rfl, rfl, rfl, hf, hz, fun t ht => ?_⟩, fun rc => ?_⟩
      · show S'.1 15 t = _
        rw [hT t ht]
        by_cases e : t = i
        · subst e; rw [if_neg (by omega), if_pos (by omega)]; unfold upR; rw [if_neg (by rw [hbit]; decide)]
        · by_cases e2 : t < i
          · rw [if_pos e2, if_pos (by omega)]
          · rw [if_neg e2, if_neg (by omega)]
      · show n_X9_imply_14_b16_l F (fun S x1 x2 x3 => rc (S, x1, x2, x3)) S' (nI x) (nI y) (nI i) = _
        unfold n_X9_imply_14_b16_l n_X9_imply_14_b50
        simp (disch := omega) only [c24, nI_le_iff, zld_nI, zlet, nI_1, hb_sh0, ri]
        rw [if_neg (by omega), if_pos hbit]
    | true =>
      refine Or.inr ⟨(zp S' 15 i (S.1 15 i ||| S.1 15 y), nI x, nI y, nI (i + 1)), ⟨rfl, rfl, rfl, fr_t hf (fr_r _ _ (by decide) (by decide)), hz, fun t ht => ?_⟩, fun rc => ?_⟩
      · show (zp S' 15 i (S.1 15 i ||| S.1 15 y)).1 15 t = _
        by_cases e : t = i
        · subst e; rw [zp_at, if_pos (by omega)]; unfold upR; rw [if_pos hbit]
        · rw [zp_off _ _ (Or.inr e), hT t ht]
          by_cases e2 : t < i
          · rw [if_pos e2, if_pos (by omega)]
          · rw [if_neg e2, if_neg (by omega)]
      · show n_X9_imply_14_b16_l F (fun S x1 x2 x3 => rc (S, x1, x2, x3)) S' (nI x) (nI y) (nI i) = _
        unfold n_X9_imply_14_b16_l n_X9_imply_14_b50
        simp (disch := omega) only [c24, nI_le_iff, zld_nI, zst_nI, zlet, nI_1, hb_sh0, ri, ry]
        rw [if_neg (by omega), if_neg (by rw [hbit]; decide)]) (by
    rintro ⟨S', a, b, c⟩ ⟨ha, hb', hc, hf, hz, hT⟩
    have ha : a = nI x := ha
    have hb' : b = nI y := hb'
    have hc : c = nI 24 := hc
    subst ha hb' hc
    refine ⟨S', ⟨hf, hz, fun t ht => by rw [show S'.1 15 t = _ from hT t ht, if_pos ht]⟩, fun rc => ?_⟩
    show n_X9_imply_14_b16_l F (fun S x1 x2 x3 => rc (S, x1, x2, x3)) S' (nI x) (nI y) (nI 24) = _
    unfold n_X9_imply_14_b16_l
    simp (disch := omega) only [c24, nI_le_iff]
    rw [if_pos (by omega)]) F (S, nI x, nI y, 0) ⟨rfl, rfl, rfl, fr_rf _ _ _, rfl, fun t _ => by rw [if_neg (by omega)]⟩ (by omega)
  exact key
theorem th_l58_14 {F : Nat} (hF : 2 ^ 40 < F) (S : Zs) {x y : Nat} (hx : x < 24) (hy : y < 24) : ∃ S2, (fr [15] [284] S S2 ∧ (∀ t, t < 24 → S2.1 15 t = upR (S.1 15) (y ^^^ 1) (x ^^^ 1) t) ∧ S2.1 0 284 = if hb (S2.1 15 x) (x ^^^ 1) = true ∧ hb (S2.1 15 (x ^^^ 1)) x = true then 1 else S.1 0 284) ∧ n_X9_imply_14_b58 F S (nI x) (nI y) 0 = some (0, S2) := by
  have hx1 := x1_lt hx
  have hy1 := x1_lt hy
  have key := zfix_for (f := fun (rc : (Zs × Int32 × Int32 × Int32) → Option (Int32 × Zs)) (u : (Zs × Int32 × Int32 × Int32)) => n_X9_imply_14_b58_l F  (fun S x1 x2 x3 => rc (S, x1, x2, x3)) u.1 u.2.1 u.2.2.1 u.2.2.2) 24 (fun i a => a.2.1 = nI x ∧ a.2.2.1 = nI y ∧ a.2.2.2 = nI i ∧ fr [15] [284] S a.1 ∧ a.1.1 0 284 = S.1 0 284 ∧ ∀ t, t < 24 → a.1.1 15 t = if t < i then upR (S.1 15) (y ^^^ 1) (x ^^^ 1) t else S.1 15 t) (fun c : Zs => fr [15] [284] S c ∧ (∀ t, t < 24 → c.1 15 t = upR (S.1 15) (y ^^^ 1) (x ^^^ 1) t) ∧ c.1 0 284 = if hb (c.1 15 x) (x ^^^ 1) = true ∧ hb (c.1 15 (x ^^^ 1)) x = true then 1 else S.1 0 284) (fun c => some (0, c)) (by
    rintro i ⟨S', a, b, c⟩ hi ⟨ha, hb', hc, hf, hz, hT⟩
    have ha : a = nI x := ha
    have hb' : b = nI y := hb'
    have hc : c = nI i := hc
    subst ha hb' hc
    have hf : fr [15] [284] S S' := hf
    have hz : S'.1 0 284 = S.1 0 284 := hz
    have hT : ∀ t, t < 24 → S'.1 15 t = if t < i then upR (S.1 15) (y ^^^ 1) (x ^^^ 1) t else S.1 15 t := hT
    have ri : S'.1 15 i = S.1 15 i := by rw [hT i hi, if_neg (by omega)]
    have ry : S'.1 15 (x ^^^ 1) = S.1 15 (x ^^^ 1) := by
      rw [hT _ hx1]
      split
      · exact upR_y _ _ _
      · rfl
    cases hbit : hb (S.1 15 i) (y ^^^ 1) with
    | false =>
      refine Or.inr ⟨(S', nI x, nI y, nI (i + 1)), ⟨rfl, rfl, rfl, hf, hz, fun t ht => ?_⟩, fun rc => ?_⟩
      · show S'.1 15 t = _
        rw [hT t ht]
        by_cases e : t = i
        · subst e; rw [if_neg (by omega), if_pos (by omega)]; unfold upR; rw [if_neg (by rw [hbit]; decide)]
        · by_cases e2 : t < i
          · rw [if_pos e2, if_pos (by omega)]
          · rw [if_neg e2, if_neg (by omega)]
      · show n_X9_imply_14_b58_l F (fun S x1 x2 x3 => rc (S, x1, x2, x3)) S' (nI x) (nI y) (nI i) = _
        unfold n_X9_imply_14_b58_l n_X9_imply_14_b96
        simp (disch := omega) only [c24, nI_le_iff, nI_x1, zld_nI, zlet, nI_1, hb_sh0, ri]
        rw [if_neg (by omega), if_pos hbit]
    | true =>
      refine Or.inr ⟨(zp S' 15 i (S.1 15 i ||| S.1 15 (x ^^^ 1)), nI x, nI y, nI (i + 1)), ⟨rfl, rfl, rfl, fr_t hf (fr_r _ _ (by decide) (by decide)), hz, fun t ht => ?_⟩, fun rc => ?_⟩
      · show (zp S' 15 i (S.1 15 i ||| S.1 15 (x ^^^ 1))).1 15 t = _
        by_cases e : t = i
        · subst e; rw [zp_at, if_pos (by omega)]; unfold upR; rw [if_pos hbit]
        · rw [zp_off _ _ (Or.inr e), hT t ht]
          by_cases e2 : t < i
          · rw [if_pos e2, if_pos (by omega)]
          · rw [if_neg e2, if_neg (by omega)]
      · show n_X9_imply_14_b58_l F (fun S x1 x2 x3 => rc (S, x1, x2, x3)) S' (nI x) (nI y) (nI i) = _
        unfold n_X9_imply_14_b58_l n_X9_imply_14_b96
        simp (disch := omega) only [c24, nI_le_iff, nI_x1, zld_nI, zst_nI, zlet, nI_1, hb_sh0, ri, ry]
        rw [if_neg (by omega), if_neg (by rw [hbit]; decide)]) (by
    rintro ⟨S', a, b, c⟩ ⟨ha, hb', hc, hf, hz, hT⟩
    have ha : a = nI x := ha
    have hb' : b = nI y := hb'
    have hc : c = nI 24 := hc
    subst ha hb' hc
    have hz : S'.1 0 284 = S.1 0 284 := hz
    have hT2 : ∀ t, t < 24 → S'.1 15 t = upR (S.1 15) (y ^^^ 1) (x ^^^ 1) t := fun t ht => by rw [show S'.1 15 t = _ from hT t ht, if_pos ht]
    by_cases h : hb (S'.1 15 x) (x ^^^ 1) = true ∧ hb (S'.1 15 (x ^^^ 1)) x = true
    · refine ⟨zp S' 0 284 1, ⟨fr_t hf (fr_p _ (by decide)), hT2, ?_⟩, fun rc => ?_⟩
      · show (1 : Int32) = if hb (S'.1 15 x) (x ^^^ 1) = true ∧ hb (S'.1 15 (x ^^^ 1)) x = true then 1 else S.1 0 284
        rw [if_pos h]
      · show n_X9_imply_14_b58_l F (fun S x1 x2 x3 => rc (S, x1, x2, x3)) S' (nI x) (nI y) (nI 24) = _
        unfold n_X9_imply_14_b58_l n_X9_imply_14_b137
        simp (disch := omega) only [c24, nI_le_iff, nI_x1, zld_nI, hb_sh0, zpb_1]
        rw [if_pos (by omega), if_neg (by rw [h.1]; decide), if_neg (by rw [h.2]; decide)]
    · refine ⟨S', ⟨hf, hT2, ?_⟩, fun rc => ?_⟩
      · rw [if_neg h]; exact hz
      · show n_X9_imply_14_b58_l F (fun S x1 x2 x3 => rc (S, x1, x2, x3)) S' (nI x) (nI y) (nI 24) = _
        unfold n_X9_imply_14_b58_l n_X9_imply_14_b137
        simp (disch := omega) only [c24, nI_le_iff, nI_x1, zld_nI, hb_sh0, zpb_1]
        rw [if_pos (by omega)]
        cases h1 : hb (S'.1 15 x) (x ^^^ 1)
        · rw [if_pos rfl]
        · rw [if_neg (by decide)]
          cases h2 : hb (S'.1 15 (x ^^^ 1)) x
          · rw [if_pos rfl]
          · exact absurd ⟨h1, h2⟩ h) F (S, nI x, nI y, 0) ⟨rfl, rfl, rfl, fr_rf _ _ _, rfl, fun t _ => by rw [if_neg (by omega)]⟩ (by omega)
  exact key
theorem th_imply_14 {F : Nat} (hF : 2 ^ 40 < F) {S : Zs} {P : Nat → Prop} {N : List (Nat × Nat)} (h : Th 15 16 17 283 284 S P N) {c : Nat} (hc : c < 1152) : ∃ S2, n_X9_imply_14 F S (nI (sj c)) (nI (tg c)) = some (0, S2) ∧ fr [15] [284] S S2 ∧ Th 15 16 17 283 284 S2 (add1 P c) N := by
  obtain ⟨h1, h2, h3, h4, h5⟩ := h
  have hx := sj_lt c
  have hy := tg_lt c
  have e : n_X9_imply_14 F S (nI (sj c)) (nI (tg c)) = if hb (S.1 15 (sj c)) (tg c) = false then n_X9_imply_14_b16 F S (nI (sj c)) (nI (tg c)) 0 else some (0, S) := by
    unfold n_X9_imply_14 n_X9_imply_14_e
    simp (disch := omega) only [zld_nI, hb_sh0]
  cases hbit : hb (S.1 15 (sj c)) (tg c) with
  | true =>
    have g := (h1 _ hx _).mp hbit
    refine ⟨S, by rw [e, if_neg (by rw [hbit]; decide)], fr_rf _ _ _, fun t ht u => ?_, isB_iff h2 (Br_old hc g).symm, h3, h4, h5⟩
    rw [Rc_old hc g]; exact h1 t ht u
  | false =>
    obtain ⟨S1, ⟨f1, z1, r1⟩, e1⟩ := th_l16_14 hF S hx hy
    obtain ⟨S2, ⟨f2, r2, z2⟩, e2⟩ := th_l58_14 hF S1 hx hy
    have t1 : ∀ t, t < 24 → ∀ u, (hb (S1.1 15 t) u = true ↔ (Rc P t u ∨ Rc P t (sj c) ∧ Rc P (tg c) u)) := by
      intro t ht u
      rw [r1 t ht, hb_upR, h1 t ht, h1 t ht, h1 _ hy]
    have t2 : TB S2 15 (add1 P c) := by
      intro t ht u
      rw [r2 t ht, hb_upR, t1 t ht, t1 t ht, t1 _ (x1_lt hx), Rc_ins hc]
    have f3 := fr_t f1 f2
    refine ⟨S2, by rw [e, if_pos hbit, e1, e2], f3, t2, ?_, ?_, h4, fun i p hp => ?_⟩
    · have g' : (hb (S2.1 15 (sj c)) (sj c ^^^ 1) = true ∧ hb (S2.1 15 (sj c ^^^ 1)) (sj c) = true) ↔ (Rc (add1 P c) (sj c) (sj c ^^^ 1) ∧ Rc (add1 P c) (sj c ^^^ 1) (sj c)) := by rw [t2 _ hx, t2 _ (x1_lt hx)]
      rw [z2]
      by_cases g : Rc (add1 P c) (sj c) (sj c ^^^ 1) ∧ Rc (add1 P c) (sj c ^^^ 1) (sj c)
      · rw [if_pos (g'.mpr g)]; exact Or.inl ⟨rfl, (Br_ins hc).mpr (Or.inr g)⟩
      · rw [if_neg (fun k => g (g'.mp k)), z1]
        refine isB_iff h2 ⟨fun k => (Br_ins hc).mpr (Or.inl k), fun k => ((Br_ins hc).mp k).resolve_right g⟩
    · rw [f3.1 283 (by decide)]; exact h3
    · rw [f3.2.1 16 (by decide) (by decide), f3.2.1 17 (by decide) (by decide)]; exact h5 i p hp
theorem th_cons_14 {F : Nat} (hF : 2 ^ 40 < F) {S : Zs} {P : Nat → Prop} {N : List (Nat × Nat)} (h : Th 15 16 17 283 284 S P N) : ∃ r, isB r (∀ p ∈ N, Can P p.1 p.2) ∧ n_X9_consistent_14 F S = some (r, S) := by
  obtain ⟨h1, h2, h3, h4, h5⟩ := h
  have key := zfix_for (f := fun (rc : (Zs × Int32) → Option (Int32 × Zs)) (u : (Zs × Int32)) => n_X9_consistent_14_b2_l F  (fun S x1 => rc (S, x1)) u.1 u.2) N.length (fun i a => a.1 = S ∧ a.2 = nI i ∧ ∀ j p, j < i → N[j]? = some p → Can P p.1 p.2) (fun r : Int32 => isB r (∀ p ∈ N, Can P p.1 p.2)) (fun r => some (r, S)) (by
    rintro i ⟨S', x⟩ hi ⟨hs, hx, hT⟩
    have hs : S' = S := hs
    have hx : x = nI i := hx
    subst hs hx
    obtain ⟨p, hp⟩ : ∃ p, N[i]? = some p := ⟨N[i], List.getElem?_eq_getElem hi⟩
    obtain ⟨k1, k2, k3, k4⟩ := h5 i p hp
    by_cases hcan : Can P p.1 p.2
    · refine Or.inr ⟨(S', nI (i + 1)), ⟨rfl, rfl, fun j q hj hq => ?_⟩, fun rc => ?_⟩
      · by_cases e : j = i
        · subst e; rw [hp] at hq; rw [← Option.some.inj hq]; exact hcan
        · exact hT j q (by omega) hq
      · show n_X9_consistent_14_b2_l F (fun S x1 => rc (S, x1)) S' (nI i) = _
        unfold n_X9_consistent_14_b2_l n_X9_consistent_14_b52
        simp (disch := omega) only [zgf, h3, nI_le_iff, zld_nI, k1, k2, zlet, nI_1]
        rw [if_neg (by omega), if_pos ((isB_0 h2).mpr hcan.1), if_pos ((torn_u _).mpr ((TB_torn h1 k3 k4).mpr hcan.2))]
    · refine Or.inl ⟨0, Or.inr ⟨rfl, fun g => hcan (g p (List.mem_of_getElem? hp))⟩, fun rc => ?_⟩
      show n_X9_consistent_14_b2_l F (fun S x1 => rc (S, x1)) S' (nI i) = _
      unfold n_X9_consistent_14_b2_l n_X9_consistent_14_b52
      simp (disch := omega) only [zgf, h3, nI_le_iff, zld_nI, k1, k2, zlet, nI_1]
      rw [if_neg (by omega)]
      by_cases hbr : Br P
      · rw [if_neg (fun g => (isB_0 h2).mp g hbr), zrb_0]
      · rw [if_pos ((isB_0 h2).mpr hbr), if_neg (fun g => hcan ⟨hbr, (TB_torn h1 k3 k4).mp ((torn_u _).mp g)⟩), zrb_0]) (by
    rintro ⟨S', x⟩ ⟨hs, hx, hT⟩
    have hs : S' = S := hs
    have hx : x = nI N.length := hx
    subst hs hx
    refine ⟨1, Or.inl ⟨rfl, fun p hp => ?_⟩, fun rc => ?_⟩
    · obtain ⟨j, hj⟩ := List.mem_iff_getElem?.mp hp
      obtain ⟨hj2, -⟩ := List.getElem?_eq_some_iff.mp hj
      exact hT j p hj2 hj
    · show n_X9_consistent_14_b2_l F (fun S x1 => rc (S, x1)) S' (nI N.length) = _
      unfold n_X9_consistent_14_b2_l
      simp (disch := omega) only [zgf, h3, nI_le_iff]
      rw [if_pos (by omega), zrb_1]) F (S, 0) ⟨rfl, rfl, fun j p hj => absurd hj (by omega)⟩ (by omega)
  exact key
theorem n_uniT (F : Nat) (S : Zs) {c : Nat} (h : c < 1152) : n_X0_isUniversal F S (nI c) = some (1, S) := by rw [n_uni F S (by omega), bI_t h]
theorem n_uniF (F : Nat) (S : Zs) {c : Nat} (h : c < 2304) (g : 1152 ≤ c) : n_X0_isUniversal F S (nI c) = some (0, S) := by rw [n_uni F S h, bI_f (by omega)]
theorem n_uniMT (F : Nat) (S : Zs) {c : Nat} (h : c < 1152) : n_X12_isOfAll F S (nI c) = some (1, S) := by rw [n_uniM F S (by omega), bI_t h]
theorem n_uniMF (F : Nat) (S : Zs) {c : Nat} (h : c < 2304) (g : 1152 ≤ c) : n_X12_isOfAll F S (nI c) = some (0, S) := by rw [n_uniM F S h, bI_f (by omega)]
/-- what a saying needs -/
def nd (c : Nat) : List (Nat × Nat) := if c < 1152 then [] else [(sj c, tg c)]
theorem nd_u {c : Nat} (h : c < 1152) : nd c = [] := if_pos h
theorem nd_p {c : Nat} (h : 1152 ≤ c) : nd c = [(sj c, tg c)] := if_neg (by omega)
theorem Th_same {rb rx ry fh fb : Nat} {S : Zs} {P Q : Nat → Prop} {N : List (Nat × Nat)} (e : ∀ c, c < 1152 → (P c ↔ Q c)) (h : Th rb rx ry fh fb S P N) : Th rb rx ry fh fb S Q N := by
  obtain ⟨h1, h2, h3⟩ := h
  exact ⟨fun t ht u => by rw [h1 t ht u, Rc_c e], isB_iff h2 (Br_c e), h3⟩
