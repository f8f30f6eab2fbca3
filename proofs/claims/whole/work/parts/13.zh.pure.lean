/-! SORTS of the class and of the reference -/
def HW (S : Zs) (s : Nat) : Prop := HL (S.2 (s / 64)) (s % 64) = true
theorem zpL_at (S : Zs) (i : Nat) (v : Int64) : (zpL S i v).2 i = v := by simp [zpL, vp_updL]
theorem zpL_off (S : Zs) {i j : Nat} (v : Int64) (h : j ≠ i) : (zpL S i v).2 j = S.2 j := by simp [zpL, vp_updL, h]
theorem zpL_1 (S : Zs) (i : Nat) (v : Int64) : (zpL S i v).1 = S.1 := rfl
theorem HW_wj (S : Zs) {w j : Nat} (hj : j < 64) : HW S (64 * w + j) ↔ HL (S.2 w) j = true := by
  unfold HW
  rw [show (64 * w + j) / 64 = w by omega, show (64 * w + j) % 64 = j by omega]
theorem c64 : (64 : Int32) = nI 64 := rfl
theorem OkS_add {P : Nat → Prop} {c s : Nat} : OkS (add1 P c) s ↔ OkS P s ∧ ¬ (c < 1152 ∧ ofB s (sj c) = true ∧ ofB s (tg c ^^^ 1) = true) := by
  constructor
  · intro h
    exact ⟨fun d hd hu => h d (Or.inl hd) hu, fun g => h c (Or.inr rfl) g.1 g.2⟩
  · rintro ⟨h1, h2⟩ d (hd | rfl) hu
    · exact h1 d hd hu
    · exact fun g => h2 ⟨hu, g⟩
theorem x_excl {F : Nat} (hF : 2 ^ 40 < F) (S : Zs) {c : Nat} (hc : c < 2304) : ∃ S2, (S2.1 = S.1 ∧ ∀ s, s < 4096 → (HW S2 s ↔ HW S s ∧ ¬ (c < 1152 ∧ ofB s (sj c) = true ∧ ofB s (tg c ^^^ 1) = true))) ∧ n_X7_exclude_24 F S (nI c) = some (0, S2) := by
  unfold n_X7_exclude_24 n_X7_exclude_24_e
  rcases Nat.lt_or_ge c 1152 with hu | hu
  · have hx := sj_lt c
    have hy := x1_lt (tg_lt c)
    have ht := tg_lt c
    rw [n_uniT F S hu, zcS, if_neg (by decide), n_subj F S hc, zcS, n_tgt F S hc, zcS]
    unfold zlet
    rw [nI_x1 (by omega)]
    generalize sj c = x at *
    generalize tg c ^^^ 1 = y at *
    obtain ⟨S2, ⟨g1, g2⟩, e⟩ : ∃ S2, (S2.1 = S.1 ∧ ∀ w, w < 64 → ∀ j, j < 64 → HL (S2.2 w) j = (HL (S.2 w) j && !(ofB (64 * w + j) x && ofB (64 * w + j) y))) ∧ n_X7_exclude_24_b23 F S (nI x) (nI y) 0 = some (0, S2) :=
      zfix_for (f := fun (rc : (Zs × Int32 × Int32 × Int32) → Option (Int32 × Zs)) (u : (Zs × Int32 × Int32 × Int32)) => n_X7_exclude_24_b23_l F  (fun S x2 x3 x4 => rc (S, x2, x3, x4)) u.1 u.2.1 u.2.2.1 u.2.2.2) 64 (fun i a => ∃ S', a = (S', nI x, nI y, nI i) ∧ S'.1 = S.1 ∧ (∀ w, w < i → ∀ j, j < 64 → HL (S'.2 w) j = (HL (S.2 w) j && !(ofB (64 * w + j) x && ofB (64 * w + j) y))) ∧ ∀ w, i ≤ w → S'.2 w = S.2 w) (fun S2 : Zs => S2.1 = S.1 ∧ ∀ w, w < 64 → ∀ j, j < 64 → HL (S2.2 w) j = (HL (S.2 w) j && !(ofB (64 * w + j) x && ofB (64 * w + j) y))) (fun S2 => some (0, S2)) (by
        rintro i _ hi ⟨S', rfl, q1, q2, q3⟩
        obtain ⟨u, hu1, eu⟩ := x_members (F := F) S' hx hi
        obtain ⟨v, hv1, ev⟩ := x_members (F := F) S' hy hi
        refine Or.inr ⟨(zpL S' i (S'.2 i &&& ((u &&& v) ^^^ (-1))), nI x, nI y, nI (i + 1)), ⟨_, rfl, q1, fun w hw j hj => ?_, fun w hw => ?_⟩, fun rc => ?_⟩
        · by_cases k : w = i
          · rw [k, zpL_at, HL_and, HL_not _ hj, HL_and, hu1 j hj, hv1 j hj, q3 i (Nat.le_refl _)]
          · rw [zpL_off _ _ k]; exact q2 w (by omega) j hj
        · rw [zpL_off _ _ (show w ≠ i by omega)]; exact q3 w (by omega)
        · show n_X7_exclude_24_b23_l F (fun S x2 x3 x4 => rc (S, x2, x3, x4)) S' (nI x) (nI y) (nI i) = _
          unfold n_X7_exclude_24_b23_l
          rw [if_neg (show ¬ (64 : Int32) ≤ nI i from nI_ge (b := 64) hi (by omega)), zldL_nI _ _ hi (by omega), eu, zcS, ev, zcS, zstL_nI _ _ _ hi (by omega)]
          unfold zlet
          rw [nI_1]) (by
        rintro _ ⟨S', rfl, q1, q2, q3⟩
        refine ⟨S', ⟨q1, q2⟩, fun rc => ?_⟩
        show n_X7_exclude_24_b23_l F (fun S x2 x3 x4 => rc (S, x2, x3, x4)) S' (nI x) (nI y) (nI 64) = _
        unfold n_X7_exclude_24_b23_l
        rw [if_pos (show (64 : Int32) ≤ nI 64 from nI_le (a := 64) (by omega) (by omega))]) F (S, nI x, nI y, 0) ⟨S, rfl, rfl, fun w hw => absurd hw (by omega), fun _ _ => rfl⟩ (by omega)
    refine ⟨S2, ⟨g1, fun s hs => ?_⟩, e⟩
    have e1 : s = 64 * (s / 64) + s % 64 := by omega
    rw [e1, HW_wj S2 (by omega), HW_wj S (by omega), g2 (s / 64) (by omega) (s % 64) (by omega), Bool.and_eq_true]
    refine and_congr_right fun _ => ?_
    cases ofB (64 * (s / 64) + s % 64) x <;> cases ofB (64 * (s / 64) + s % 64) y <;> simp [hu]
  · rw [n_uniF F S hc hu, zcS, if_pos rfl]
    exact ⟨S, ⟨rfl, fun s _ => ⟨fun g => ⟨g, fun k => by omega⟩, fun g => g.1⟩⟩, rfl⟩
/-- what the sorts are of -/
def PS (cd : Nat → Nat) (n : Nat) (b e : Int32) (c : Nat) : Prop := c ∈ sel cd b n ∨ nI c = e
def Srt (X : Zs) (P : Nat → Prop) : Prop := (∀ s, s < 4096 → (HW X s ↔ OkS P s)) ∧ X.1 0 482 = nI (cnt (OkS P) 4096)
def frS (X X2 : Zs) : Prop := (∀ k, k ∉ [482, 483, 484] → X2.1 0 k = X.1 0 k) ∧ ∀ r, r ≠ 0 → X2.1 r = X.1 r
theorem frS_rf (X : Zs) : frS X X := ⟨fun _ _ => rfl, fun _ _ => rfl⟩
theorem frS_t {A B C : Zs} (h : frS A B) (g : frS B C) : frS A C := ⟨fun k hk => (g.1 k hk).trans (h.1 k hk), fun r h0 => (g.2 r h0).trans (h.2 r h0)⟩
theorem frS_p {S : Zs} {k : Nat} (v : Int32) (h : k ∈ [482, 483, 484]) : frS S (zp S 0 k v) := ⟨fun j hj => zp_off S v (Or.inr fun e => hj (e ▸ h)), fun r h0 => zp_row S k v h0⟩
theorem frS_1 {S S2 : Zs} (h : S2.1 = S.1) : frS S S2 := ⟨fun _ _ => by rw [h], fun _ _ => by rw [h]⟩
theorem x_total {F : Nat} (hF : 2 ^ 40 < F) (S : Zs) : ∃ S2, (frS S S2 ∧ S2.2 = S.2 ∧ S2.1 0 483 = S.1 0 483 ∧ S2.1 0 484 = S.1 0 484 ∧ S2.1 0 482 = nI (cnt (HW S) 4096)) ∧ n_X7_settle_24_b100 F S = some (0, S2) := by
  unfold n_X7_settle_24_b100 zpf
  exact zfix_for (f := fun (rc : (Zs × Int32) → Option (Int32 × Zs)) (u : (Zs × Int32)) => n_X7_settle_24_b107_l F  (fun S x3 => rc (S, x3)) u.1 u.2) 64 (fun i a => ∃ S', a = (S', nI i) ∧ frS S S' ∧ S'.2 = S.2 ∧ S'.1 0 483 = S.1 0 483 ∧ S'.1 0 484 = S.1 0 484 ∧ S'.1 0 482 = nI (cnt (HW S) (64 * i))) (fun S2 : Zs => frS S S2 ∧ S2.2 = S.2 ∧ S2.1 0 483 = S.1 0 483 ∧ S2.1 0 484 = S.1 0 484 ∧ S2.1 0 482 = nI (cnt (HW S) 4096)) (fun S2 => some (0, S2)) (by
    rintro i _ hi ⟨S', rfl, q1, q2, q3, q4, q5⟩
    have hc : cnt (HW S) (64 * i) + bcn (tL (S.2 i)) 64 = cnt (HW S) (64 * (i + 1)) := by
      rw [show 64 * (i + 1) = 64 * i + 64 by omega, cnt_add, bcn_cnt]
      exact congrArg _ (cnt_c fun j hj => (HW_wj S hj).symm)
    refine Or.inr ⟨(zp S' 0 482 (nI (cnt (HW S) (64 * (i + 1)))), nI (i + 1)), ⟨_, rfl, frS_t q1 (frS_p _ (by decide)), q2, ?_, ?_, zp_at _ _ _ _⟩, fun rc => ?_⟩
    · rw [zp_off _ _ (Or.inr (by decide))]; exact q3
    · rw [zp_off _ _ (Or.inr (by decide))]; exact q4
    · show n_X7_settle_24_b107_l F (fun S x3 => rc (S, x3)) S' (nI i) = _
      unfold n_X7_settle_24_b107_l zgf
      dsimp only
      rw [if_neg (show ¬ (64 : Int32) ≤ nI i from nI_ge (b := 64) hi (by omega)), zldL_nI _ _ hi (by omega), x_bitL, zcS]
      unfold zpf zlet
      rw [q5, q2, nI_add, hc, nI_1]) (by
    rintro _ ⟨S', rfl, q⟩
    refine ⟨S', q, fun rc => ?_⟩
    show n_X7_settle_24_b107_l F (fun S x3 => rc (S, x3)) S' (nI 64) = _
    unfold n_X7_settle_24_b107_l
    rw [if_pos (show (64 : Int32) ≤ nI 64 from nI_le (a := 64) (by omega) (by omega))]) F (zp S 0 482 0, 0) ⟨_, rfl, frS_p _ (by decide), rfl, zp_off _ _ (Or.inr (by decide)), zp_off _ _ (Or.inr (by decide)), zp_at _ _ _ _⟩ (by omega)
theorem nI_ne_m1 {c : Nat} (h : c < 2 ^ 31) : ¬ nI c = (-1 : Int32) := fun g => by
  have h1 := nI_pos (n := c) h
  rw [g] at h1
  exact h1 (by decide)
theorem x_excls {F : Nat} (hF : 2 ^ 40 < F) {X : Zs} {n : Nat} {cd : Nat → Nat} (hX : XC X n cd) (b e : Int32) (he : e = -1 ∨ ∃ c, c < 2304 ∧ e = nI c) (h0 : ∀ s, s < 4096 → HW X s) : ∃ X2, (X2.1 = X.1 ∧ ∀ s, s < 4096 → (HW X2 s ↔ OkS (PS cd n b e) s)) ∧ n_X7_settle_24_b52 F X b e 0 = n_X7_settle_24_b100 F X2 := by
  obtain ⟨y1, y2, y3⟩ := id hX
  exact zfix_for (f := fun (rc : (Zs × Int32 × Int32 × Int32) → Option (Int32 × Zs)) (u : (Zs × Int32 × Int32 × Int32)) => n_X7_settle_24_b52_l F  (fun S x1 x2 x3 => rc (S, x1, x2, x3)) u.1 u.2.1 u.2.2.1 u.2.2.2) n (fun i a => ∃ S', a = (S', b, e, nI i) ∧ S'.1 = X.1 ∧ ∀ s, s < 4096 → (HW S' s ↔ OkS (· ∈ sel cd b i) s)) (fun X2 : Zs => X2.1 = X.1 ∧ ∀ s, s < 4096 → (HW X2 s ↔ OkS (PS cd n b e) s)) (fun X2 => n_X7_settle_24_b100 F X2) (by
    rintro i _ hi ⟨S', rfl, q1, q2⟩
    obtain ⟨k1, k2⟩ := y3 i hi
    have k1' : S'.1 4 i = nI (cd i) := by rw [q1]; exact k1
    have y1' : S'.1 0 62 = nI n := by rw [q1]; exact y1
    have ec : ∀ rc : (Zs × Int32 × Int32 × Int32) → Option (Int32 × Zs), n_X7_settle_24_b52_l F (fun S x1 x2 x3 => rc (S, x1, x2, x3)) S' b e (nI i) = if hb b i = false then rc (S', b, e, nI (i + 1)) else zcl (n_X7_exclude_24 F S' (nI (cd i))) (fun v6 S5 => rc (S5, b, e, nI (i + 1))) := by
      intro rc
      unfold n_X7_settle_24_b52_l n_X7_settle_24_b84
      simp (disch := omega) only [zgf, y1', nI_le_iff, zld_nI, k1', hb_sh0, zlet, nI_1]
      rw [if_neg (by omega)]
    cases hbit : hb b i with
    | false => exact Or.inr ⟨_, ⟨S', rfl, q1, fun s hs => by rw [sel_f hbit]; exact q2 s hs⟩, fun rc => (ec rc).trans (if_pos hbit)⟩
    | true =>
      obtain ⟨S2, ⟨g1, g2⟩, e2⟩ := x_excl hF S' k2
      refine Or.inr ⟨(S2, b, e, nI (i + 1)), ⟨S2, rfl, g1.trans q1, fun s hs => ?_⟩, fun rc => (ec rc).trans (by rw [if_neg (by rw [hbit]; decide), e2, zcS])⟩
      rw [g2 s hs, q2 s hs, ← OkS_add]
      exact OkS_c fun d _ => by rw [sel_t hbit, mem_snoc]) (by
    rintro _ ⟨S', rfl, q1, q2⟩
    have y1' : S'.1 0 62 = nI n := by rw [q1]; exact y1
    have ec : ∀ rc : (Zs × Int32 × Int32 × Int32) → Option (Int32 × Zs), n_X7_settle_24_b52_l F (fun S x1 x2 x3 => rc (S, x1, x2, x3)) S' b e (nI n) = if e = -1 then n_X7_settle_24_b100 F S' else zcl (n_X7_exclude_24 F S' e) (fun v3 S2 => n_X7_settle_24_b100 F S2) := by
      intro rc
      unfold n_X7_settle_24_b52_l
      simp (disch := omega) only [zgf, y1', nI_le_iff]
      rw [if_pos (by omega)]
    rcases he with he | ⟨c, hc, he⟩
    · refine ⟨S', ⟨q1, fun s hs => ?_⟩, fun rc => (ec rc).trans (if_pos he)⟩
      rw [q2 s hs]
      refine OkS_c fun d hd => ⟨Or.inl, fun g => g.elim id fun g => absurd (g.trans he) (nI_ne_m1 (by omega))⟩
    · obtain ⟨S2, ⟨g1, g2⟩, e2⟩ := x_excl hF S' hc
      subst he
      refine ⟨S2, ⟨g1.trans q1, fun s hs => ?_⟩, fun rc => (ec rc).trans (by rw [if_neg (nI_ne_m1 (by omega)), e2, zcS])⟩
      rw [g2 s hs, q2 s hs, ← OkS_add]
      refine OkS_c fun d hd => or_congr Iff.rfl ?_
      rw [nI_eq (by omega) (by omega)]) F (X, b, e, 0) ⟨X, rfl, rfl, fun s hs => ⟨fun _ c hc => absurd hc List.not_mem_nil, fun _ => h0 s hs⟩⟩ (by omega)
theorem x_fill {F : Nat} (hF : 2 ^ 40 < F) (X : Zs) (b e : Int32) : ∃ X2, (X2.1 = X.1 ∧ ∀ s, s < 4096 → HW X2 s) ∧ n_X7_settle_24_b29 F X b e 0 = n_X7_settle_24_b52 F X2 b e 0 := by
  exact zfix_for (f := fun (rc : (Zs × Int32 × Int32 × Int32) → Option (Int32 × Zs)) (u : (Zs × Int32 × Int32 × Int32)) => n_X7_settle_24_b29_l F  (fun S x1 x2 x3 => rc (S, x1, x2, x3)) u.1 u.2.1 u.2.2.1 u.2.2.2) 64 (fun i a => ∃ S', a = (S', b, e, nI i) ∧ S'.1 = X.1 ∧ ∀ w, w < i → S'.2 w = -1) (fun X2 : Zs => X2.1 = X.1 ∧ ∀ s, s < 4096 → HW X2 s) (fun X2 => n_X7_settle_24_b52 F X2 b e 0) (by
    rintro i _ hi ⟨S', rfl, q1, q2⟩
    refine Or.inr ⟨(zpL S' i (-1), b, e, nI (i + 1)), ⟨_, rfl, q1, fun w hw => ?_⟩, fun rc => ?_⟩
    · by_cases k : w = i
      · rw [k, zpL_at]
      · rw [zpL_off _ _ k]; exact q2 w (by omega)
    · show n_X7_settle_24_b29_l F (fun S x1 x2 x3 => rc (S, x1, x2, x3)) S' b e (nI i) = _
      unfold n_X7_settle_24_b29_l zlet
      rw [if_neg (show ¬ (64 : Int32) ≤ nI i from nI_ge (b := 64) hi (by omega)), zstL_nI _ _ _ hi (by omega), nI_1]) (by
    rintro _ ⟨S', rfl, q1, q2⟩
    refine ⟨S', ⟨q1, fun s hs => ?_⟩, fun rc => ?_⟩
    · unfold HW
      rw [q2 _ (by omega)]
      exact HL_m1 (by omega)
    · show n_X7_settle_24_b29_l F (fun S x1 x2 x3 => rc (S, x1, x2, x3)) S' b e (nI 64) = _
      unfold n_X7_settle_24_b29_l
      rw [if_pos (show (64 : Int32) ≤ nI 64 from nI_le (a := 64) (by omega) (by omega))]) F (X, b, e, 0) ⟨X, rfl, rfl, fun w hw => absurd hw (by omega)⟩ (by omega)
/-- the sorts that are settled are true of what they say -/
def KS (X : Zs) (n : Nat) (cd : Nat → Nat) : Prop := X.1 0 483 = -1 ∨ (bnd (X.1 0 483) n ∧ Srt X (PS cd n (X.1 0 483) (X.1 0 484)))
theorem x_settle {F : Nat} (hF : 2 ^ 40 < F) {X : Zs} {n : Nat} {cd : Nat → Nat} (hX : XC X n cd) (hK : KS X n cd) {b e : Int32} (hb' : bnd b n) (he : e = -1 ∨ ∃ c, c < 2304 ∧ e = nI c) : ∃ X2, n_X7_settle_24 F X b e = some (0, X2) ∧ frS X X2 ∧ X2.1 0 483 = b ∧ X2.1 0 484 = e ∧ Srt X2 (PS cd n b e) := by
  have ee : n_X7_settle_24 F X b e = if X.1 0 483 = b then (if X.1 0 484 = e then some (0, X) else n_X7_settle_24_b17 F X b e) else n_X7_settle_24_b17 F X b e := rfl
  by_cases h : X.1 0 483 = b ∧ X.1 0 484 = e
  · rcases hK with hK | ⟨hK, hT⟩
    · exfalso
      have hn := hX.2.1
      rw [← h.1, hK] at hb'
      have h1 : (4294967295 : Nat) < 2 ^ n := hb'
      have h2 : 2 ^ n ≤ 2 ^ 16 := Nat.pow_le_pow_right (by omega) hn
      omega
    · refine ⟨X, by rw [ee, if_pos h.1, if_pos h.2], frS_rf X, h.1, h.2, ?_⟩
      rw [h.1, h.2] at hT
      exact hT
  · have e2 : n_X7_settle_24 F X b e = n_X7_settle_24_b29 F (zp (zp X 0 483 b) 0 484 e) b e 0 := by
      rw [ee]
      by_cases h1 : X.1 0 483 = b
      · rw [if_pos h1, if_neg (fun g => h ⟨h1, g⟩)]; rfl
      · rw [if_neg h1]; rfl
    have f0 : frS X (zp (zp X 0 483 b) 0 484 e) := frS_t (frS_p _ (by decide)) (frS_p _ (by decide))
    have k3 : (zp (zp X 0 483 b) 0 484 e).1 0 483 = b := by rw [zp_off _ _ (Or.inr (by decide)), zp_at]
    have k4 : (zp (zp X 0 483 b) 0 484 e).1 0 484 = e := zp_at _ _ _ _
    generalize zp (zp X 0 483 b) 0 484 e = X0 at *
    have hX0 : XC X0 n cd := ⟨(f0.1 62 (by decide)).trans hX.1, hX.2.1, fun i hi => by rw [f0.2 4 (by decide)]; exact hX.2.2 i hi⟩
    obtain ⟨X1, ⟨q1, q2⟩, e3⟩ := x_fill hF X0 b e
    have hX1 : XC X1 n cd := by unfold XC; rw [q1]; exact hX0
    obtain ⟨X2, ⟨q3, q4⟩, e4⟩ := x_excls hF hX1 b e he q2
    obtain ⟨X3, ⟨q5, q6, q7, q8, q9⟩, e5⟩ := x_total hF X2
    refine ⟨X3, by rw [e2, e3, e4, e5], frS_t f0 (frS_t (frS_1 q1) (frS_t (frS_1 q3) q5)), ?_, ?_, fun s hs => ?_, ?_⟩
    · rw [q7, q3, q1]; exact k3
    · rw [q8, q3, q1]; exact k4
    · unfold HW; rw [q6]; exact q4 s hs
    · rw [q9, cnt_c fun s hs => q4 s hs]
-- asking
theorem lgc_0 (x : Int64) : lg_cmp x 0 = 0 ↔ x = 0 := by
  unfold lg_cmp
  by_cases h : x > 0
  · rw [if_pos h]
    exact ⟨fun g => absurd g (by decide), fun g => by rw [g] at h; exact absurd h (by decide)⟩
  · rw [if_neg h]
    by_cases h2 : x = 0
    · rw [if_pos h2]; exact ⟨fun _ => h2, fun _ => rfl⟩
    · rw [if_neg h2]; exact ⟨fun g => absurd g (by decide), fun g => absurd g h2⟩
theorem HL_ext {x y : Int64} (h : ∀ k, k < 64 → HL x k = HL y k) : x = y := Int64.toBitVec_inj.mp (BitVec.eq_of_getLsbD_eq fun k hk => h k hk)
theorem and1L (y : Int64) : y &&& 1 = 0 ↔ HL y 0 = false := by
  have h1 : ∀ k, k < 64 → HL (1 : Int64) k = decide (k = 0) := by decide +kernel
  constructor
  · intro g
    have : HL (y &&& 1) 0 = false := by rw [g]; exact HL_0 0
    rw [HL_and, h1 0 (by omega)] at this
    simpa using this
  · intro g
    refine HL_ext fun k hk => ?_
    rw [HL_and, h1 k hk, HL_0]
    by_cases e : k = 0
    · rw [e, g]; rfl
    · rw [decide_eq_false e, Bool.and_false]
theorem sh63 : ∀ m, m < 64 → ((nI m).toInt64.toUInt64 &&& Int64.toUInt64 63).toNat % 64 = m := by decide +kernel
theorem x_hasS {F : Nat} (S : Zs) {s : Nat} (hs : s < 4096) : ∃ r, isB r (HW S s) ∧ n_X7_has_24 F S (nI s) = some (r, S) := by
  have e : n_X7_has_24 F S (nI s) = if HL (S.2 (s / 64)) (s % 64) = false then some (0, S) else some (1, S) := by
    unfold n_X7_has_24 n_X7_has_24_e n_X7_has_24_b26
    rw [pk_shrN (n := s) (by omega) ((6 : Int32) &&& 31) 6 (by decide), show s / 2 ^ 6 = s / 64 from rfl, zldL_nI _ _ (show s / 64 < 64 by omega) (by omega), zrb_0, zrb_1, pk_andN (n := s) (m := 63) (by omega) 6 (by decide), show s % 2 ^ 6 = s % 64 from rfl]
    have k : lg_cmp (((S.2 (s / 64)).toUInt64 >>> ((nI (s % 64)).toInt64.toUInt64 &&& Int64.toUInt64 63)).toInt64 &&& 1) 0 = 0 ↔ HL (S.2 (s / 64)) (s % 64) = false := by
      rw [lgc_0, and1L]
      unfold HL
      rw [tL_shr _ _ (sh63 (s % 64) (by omega)), Nat.testBit_div_two_pow, Nat.zero_add]
    by_cases g : HL (S.2 (s / 64)) (s % 64) = false
    · rw [if_pos (k.mpr g), if_pos g]
    · rw [if_neg (fun w => g (k.mp w)), if_neg g]
  unfold HW
  cases g : HL (S.2 (s / 64)) (s % 64) with
  | false => exact ⟨0, Or.inr ⟨rfl, by decide⟩, by rw [e, if_pos g]⟩
  | true => exact ⟨1, Or.inl ⟨rfl, rfl⟩, by rw [e, if_neg (by rw [g]; decide)]⟩
theorem x_ofBoth {F : Nat} (hF : 2 ^ 40 < F) (S : Zs) {x y : Nat} (hx : x < 24) (hy : y < 24) : n_X7_ofBoth_24 F S (nI x) (nI y) = some (nI (cnt (fun s => HW S s ∧ ofB s x = true ∧ ofB s y = true) 4096), S) := by
  refine zfix_run (f := fun (rc : (Zs × Int32 × Int32 × Int32 × Int32) → Option (Int32 × Zs)) (u : (Zs × Int32 × Int32 × Int32 × Int32)) => n_X7_ofBoth_24_b5_l F  (fun S x1 x2 x3 x4 => rc (S, x1, x2, x3, x4)) u.1 u.2.1 u.2.2.1 u.2.2.2.1 u.2.2.2.2) (fun i => (S, nI x, nI y, nI (cnt (fun s => HW S s ∧ ofB s x = true ∧ ofB s y = true) (64 * i)), nI i)) 64 (fun i hi rc => ?_) (fun rc => ?_) F (by omega)
  · show n_X7_ofBoth_24_b5_l F (fun S x1 x2 x3 x4 => rc (S, x1, x2, x3, x4)) S (nI x) (nI y) (nI (cnt (fun s => HW S s ∧ ofB s x = true ∧ ofB s y = true) (64 * i))) (nI i) = rc (S, nI x, nI y, nI (cnt (fun s => HW S s ∧ ofB s x = true ∧ ofB s y = true) (64 * (i + 1))), nI (i + 1))
    obtain ⟨u, hu1, eu⟩ := x_members (F := F) S hx hi
    obtain ⟨v, hv1, ev⟩ := x_members (F := F) S hy hi
    have hc : cnt (fun s => HW S s ∧ ofB s x = true ∧ ofB s y = true) (64 * i) + bcn (tL ((S.2 i &&& u) &&& v)) 64 = cnt (fun s => HW S s ∧ ofB s x = true ∧ ofB s y = true) (64 * (i + 1)) := by
      rw [show 64 * (i + 1) = 64 * i + 64 by omega, cnt_add, bcn_cnt]
      refine congrArg _ (cnt_c fun j hj => ?_)
      show HL ((S.2 i &&& u) &&& v) j = true ↔ _
      rw [HL_and, HL_and, hu1 j hj, hv1 j hj, HW_wj S hj, Bool.and_eq_true, Bool.and_eq_true, and_assoc]
    rw [← hc]
    generalize cnt (fun s => HW S s ∧ ofB s x = true ∧ ofB s y = true) (64 * i) = m
    unfold n_X7_ofBoth_24_b5_l zlet
    rw [if_neg (show ¬ (64 : Int32) ≤ nI i from nI_ge (b := 64) hi (by omega)), zldL_nI _ _ hi (by omega), eu, zcS, ev, zcS, x_bitL, zcS, nI_add, nI_1]
  · show n_X7_ofBoth_24_b5_l F (fun S x1 x2 x3 x4 => rc (S, x1, x2, x3, x4)) S (nI x) (nI y) (nI (cnt (fun s => HW S s ∧ ofB s x = true ∧ ofB s y = true) 4096)) (nI 64) = _
    generalize cnt (fun s => HW S s ∧ ofB s x = true ∧ ofB s y = true) 4096 = m
    unfold n_X7_ofBoth_24_b5_l
    rw [if_pos (show (64 : Int32) ≤ nI 64 from nI_le (a := 64) (by omega) (by omega))]
/-- the one with so many ahead of it -/
def Nth (P : Nat → Prop) (k : Nat) (v : Int32) : Prop := (v = -2 ∧ cnt P 4096 ≤ k) ∨ ∃ s, s < 4096 ∧ P s ∧ cnt P s = k ∧ v = nI s
theorem cnt_mono (P : Nat → Prop) {a b : Nat} (h : a ≤ b) : cnt P a ≤ cnt P b := by
  obtain ⟨c, rfl⟩ : ∃ c, b = a + c := ⟨b - a, by omega⟩
  rw [cnt_add]; omega
theorem Nth_eq {P : Nat → Prop} {k : Nat} {v w : Int32} (h : Nth P k v) (g : Nth P k w) : v = w := by
  have lt : ∀ s t, s < t → P s → cnt P s < cnt P t := fun s t hst hs => by
    have := cnt_mono P (show s + 1 ≤ t from hst)
    rw [cnt_t hs] at this
    omega
  rcases h with ⟨h1, h2⟩ | ⟨s, h1, h2, h3, h4⟩ <;> rcases g with ⟨g1, g2⟩ | ⟨t, g1, g2, g3, g4⟩
  · rw [h1, g1]
  · have := lt t 4096 g1 g2; omega
  · have := lt s 4096 h1 h2; omega
  · rcases Nat.lt_trichotomy s t with q | q | q
    · have := lt s t q h2; omega
    · rw [h4, g4, q]
    · have := lt t s q g2; omega
theorem x_from {F : Nat} (hF : 2 ^ 40 < F) (S : Zs) {w k : Nat} (hw : w < 64) (hk : k < cnt (fun j => HW S (64 * w + j)) 64) : ∃ v, (∃ j, j < 64 ∧ HW S (64 * w + j) ∧ cnt (fun j => HW S (64 * w + j)) j = k ∧ v = nI (64 * w + j)) ∧ n_X7_numberedFrom_24 F S (nI w) (nI k) = some (v, S) := by
  have hle := cnt_le (fun j => HW S (64 * w + j)) 64
  unfold n_X7_numberedFrom_24 n_X7_numberedFrom_24_e zlet
  rw [show (64 : Int32) * nI w = nI (64 * w) from pk_mul 64 w]
  exact zfix_for (f := fun (rc : (Zs × Int32 × Int32 × Int32 × Int32) → Option (Int32 × Zs)) (u : (Zs × Int32 × Int32 × Int32 × Int32)) => n_X7_numberedFrom_24_b8_l F  (fun S x1 x2 x3 x4 => rc (S, x1, x2, x3, x4)) u.1 u.2.1 u.2.2.1 u.2.2.2.1 u.2.2.2.2) 64 (fun i a => a = (S, nI w, nI k, nI (cnt (fun j => HW S (64 * w + j)) i), nI (64 * w + i)) ∧ cnt (fun j => HW S (64 * w + j)) i ≤ k) (fun v : Int32 => ∃ j, j < 64 ∧ HW S (64 * w + j) ∧ cnt (fun j => HW S (64 * w + j)) j = k ∧ v = nI (64 * w + j)) (fun v => some (v, S)) (by
    rintro i _ hi ⟨rfl, hI⟩
    obtain ⟨r, hr, er⟩ := x_hasS (F := F) S (show 64 * w + i < 4096 by omega)
    have e : ∀ (m : Nat) (rc : (Zs × Int32 × Int32 × Int32 × Int32) → Option (Int32 × Zs)), m < 100 → n_X7_numberedFrom_24_b8_l F (fun S x1 x2 x3 x4 => rc (S, x1, x2, x3, x4)) S (nI w) (nI k) (nI m) (nI (64 * w + i)) = if r = 0 then rc (S, nI w, nI k, nI m, nI (64 * w + (i + 1))) else if m = k then some (nI (64 * w + i), S) else rc (S, nI w, nI k, nI (m + 1), nI (64 * w + (i + 1))) := by
      intro m rc hm
      unfold n_X7_numberedFrom_24_b8_l n_X7_numberedFrom_24_b40 zlet
      rw [show (64 : Int32) * nI w = nI (64 * w) from pk_mul 64 w, show nI (64 * w) + 64 = nI (64 * w + 64) from nI_add _ _, if_neg (nI_ge (by omega) (by omega)), er, zcS, nI_1, nI_1, ← Nat.add_assoc]
      simp (disch := omega) only [nI_eq]
    by_cases g : HW S (64 * w + i)
    · have g' : (fun j => HW S (64 * w + j)) i := g
      by_cases q : cnt (fun j => HW S (64 * w + j)) i = k
      · exact Or.inl ⟨nI (64 * w + i), ⟨i, hi, g, q, rfl⟩, fun rc => (e _ rc (by omega)).trans (by rw [if_neg (fun z => (isB_0 hr).mp z g), if_pos q])⟩
      · refine Or.inr ⟨_, ⟨rfl, ?_⟩, fun rc => (e _ rc (by omega)).trans ?_⟩
        · rw [cnt_t (P := fun j => HW S (64 * w + j)) g']; omega
        · rw [if_neg (fun z => (isB_0 hr).mp z g), if_neg q, cnt_t (P := fun j => HW S (64 * w + j)) g']
    · have g' : ¬ (fun j => HW S (64 * w + j)) i := g
      refine Or.inr ⟨_, ⟨rfl, ?_⟩, fun rc => (e _ rc (by omega)).trans ?_⟩
      · rw [cnt_f (P := fun j => HW S (64 * w + j)) g']; exact hI
      · rw [if_pos ((isB_0 hr).mpr g), cnt_f (P := fun j => HW S (64 * w + j)) g']) (by
    rintro _ ⟨rfl, hI⟩
    omega) F (S, nI w, nI k, 0, nI (64 * w)) ⟨rfl, Nat.zero_le _⟩ (by omega)
theorem x_numbered {F : Nat} (hF : 2 ^ 40 < F) (S : Zs) {k : Nat} (hk : k < 2 ^ 31) : ∃ v, Nth (HW S) k v ∧ n_X7_numbered_24 F S (nI k) = some (v, S) := by
  exact zfix_for (f := fun (rc : (Zs × Int32 × Int32 × Int32) → Option (Int32 × Zs)) (u : (Zs × Int32 × Int32 × Int32)) => n_X7_numbered_24_b4_l F  (fun S x1 x2 x3 => rc (S, x1, x2, x3)) u.1 u.2.1 u.2.2.1 u.2.2.2) 64 (fun i a => a = (S, nI k, nI (cnt (HW S) (64 * i)), nI i) ∧ cnt (HW S) (64 * i) ≤ k) (fun v : Int32 => Nth (HW S) k v) (fun v => some (v, S)) (by
    rintro i _ hi ⟨rfl, hI⟩
    have hc : cnt (HW S) (64 * (i + 1)) = cnt (HW S) (64 * i) + bcn (tL (S.2 i)) 64 := by
      rw [show 64 * (i + 1) = 64 * i + 64 by omega, cnt_add, bcn_cnt]
      exact congrArg _ (cnt_c fun j hj => HW_wj S hj)
    have hc2 : bcn (tL (S.2 i)) 64 = cnt (fun j => HW S (64 * i + j)) 64 := by
      rw [bcn_cnt]; exact cnt_c fun j hj => (HW_wj S hj).symm
    have hle := cnt_le (HW S) (64 * (i + 1))
    have e : ∀ (m z : Nat) (rc : (Zs × Int32 × Int32 × Int32) → Option (Int32 × Zs)), m + bcn (tL (S.2 i)) 64 = z → z < 2 ^ 31 → m ≤ k → n_X7_numbered_24_b4_l F (fun S x1 x2 x3 => rc (S, x1, x2, x3)) S (nI k) (nI m) (nI i) = if z ≤ k then rc (S, nI k, nI z, nI (i + 1)) else zcl (n_X7_numberedFrom_24 F S (nI i) (nI (k - m))) (fun v7 S6 => some (v7, S6)) := by
      intro m z rc hz hz2 hm
      unfold n_X7_numbered_24_b4_l zlet
      rw [if_neg (show ¬ (64 : Int32) ≤ nI i from nI_ge (b := 64) hi (by omega)), zldL_nI _ _ hi (by omega), x_bitL, zcS, nI_add, hz, nI_1, pk_sub hm]
      simp (disch := omega) only [nI_le_iff]
    have e := fun rc => e (cnt (HW S) (64 * i)) (cnt (HW S) (64 * (i + 1))) rc hc.symm (by omega) hI
    by_cases q : cnt (HW S) (64 * (i + 1)) ≤ k
    · exact Or.inr ⟨_, ⟨rfl, q⟩, fun rc => (e rc).trans (if_pos q)⟩
    · obtain ⟨v, ⟨j, j1, j2, j3, j4⟩, ev⟩ := x_from hF S hi (k := k - cnt (HW S) (64 * i)) (by omega)
      refine Or.inl ⟨v, Or.inr ⟨64 * i + j, by omega, j2, ?_, j4⟩, fun rc => (e rc).trans (by rw [if_neg q, ev, zcS])⟩
      rw [cnt_add, j3]; omega) (by
    rintro _ ⟨rfl, hI⟩
    refine ⟨-2, Or.inl ⟨rfl, hI⟩, fun rc => ?_⟩
    show n_X7_numbered_24_b4_l F (fun S x1 x2 x3 => rc (S, x1, x2, x3)) S (nI k) (nI (cnt (HW S) 4096)) (nI 64) = _
    generalize cnt (HW S) 4096 = m
    unfold n_X7_numbered_24_b4_l
    rw [if_pos (show (64 : Int32) ≤ nI 64 from nI_le (a := 64) (by omega) (by omega))]) F (S, nI k, 0, 0) ⟨rfl, Nat.zero_le _⟩ (by omega)
