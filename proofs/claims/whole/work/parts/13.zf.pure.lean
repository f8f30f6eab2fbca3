/-! mood, figure: the calls -/
theorem Rel_scr {K : Zs → Prop} (hK : KOK K) {X M X2 : Zs} (h : Rel K X M) (f : fr [32, 33, 34] [623, 624] X X2) : Rel K X2 M :=
  h.x (fr_x f (by decide) (by decide)) (hK X X2 (fr_k f (by decide) (by decide)) h.2.2.2.2.2.2.2.2)
theorem mBst_b (h : Nat → Bool) : ∀ i, i ≤ 7 → mBst h i = -1 ∨ ∃ j, j < 8 ∧ mBst h i = nI j := by
  intro i
  induction i with
  | zero => exact fun _ => Or.inl rfl
  | succ i ih =>
    intro hi
    have := ih (by omega)
    unfold mBst
    split
    · split
      · exact Or.inr ⟨i + 1, by omega, rfl⟩
      · exact this
    · exact this
theorem bc_nI {j : Nat} (h : j < 2 ^ 31) : bc (nI j) 32 = bcn j 32 := by unfold bc; rw [tn_nI (by omega)]
theorem bcn_le (m : Nat) : ∀ n, bcn m n ≤ n := by
  intro n
  induction n with
  | zero => exact Nat.le_refl 0
  | succ n ih =>
    have h : bcn m (n + 1) = bcn m n + (m.testBit n).toNat := rfl
    have : (m.testBit n).toNat ≤ 1 := by cases m.testBit n <;> decide
    omega
theorem m_mood' {F : Nat} (hF : 2 ^ 40 < F) (M : Zs) {f a b c : Nat} (hf : F4 f) (ha : a < 4) (hb' : b < 4) (hc : c < 4) {h : Nat → Bool} (hh : ∀ k, k < 8 → (h k = true ↔ Hm f a b c k)) (B : Nat → Int32) (hB : ∀ i, i ≤ 7 → B i = -1 ∨ ∃ j, j < 8 ∧ B i = nI j) (e0 : ∀ i, B (i + 1) = if B i < 0 ∨ bcn (i + 1) 32 < bcn (B i).toNatClampNeg 32 then (if h (i + 1) = true then nI (i + 1) else B i) else B i) : n_X12_mood_0_b81 F M (nI a) (nI b) (nI c) (nI f) (B 0) 1 = n_X12_mood_0_b81_l F (fun _ _ _ _ _ _ _ => none) M (nI a) (nI b) (nI c) (nI f) (B 7) (nI 8) := by
  refine zfix_run (f := fun (rc : (Zs × Int32 × Int32 × Int32 × Int32 × Int32 × Int32) → Option (Int32 × Zs)) (u : (Zs × Int32 × Int32 × Int32 × Int32 × Int32 × Int32)) => n_X12_mood_0_b81_l F  (fun S x1 x2 x3 x4 x5 x6 => rc (S, x1, x2, x3, x4, x5, x6)) u.1 u.2.1 u.2.2.1 u.2.2.2.1 u.2.2.2.2.1 u.2.2.2.2.2.1 u.2.2.2.2.2.2) (fun i => (M, nI a, nI b, nI c, nI f, B i, nI (i + 1))) 7 (fun i hi rc => ?_) (fun rc => ?_) F (by omega)
  · show n_X12_mood_0_b81_l F (fun S x1 x2 x3 x4 x5 x6 => rc (S, x1, x2, x3, x4, x5, x6)) M (nI a) (nI b) (nI c) (nI f) (B i) (nI (i + 1)) = rc (M, nI a, nI b, nI c, nI f, B (i + 1), nI (i + 1 + 1))
    obtain ⟨r, hr, er⟩ := m_holdsIf hF M hf ha hb' hc (show i + 1 < 8 by omega)
    have hr := isB_iff hr ((Hm_iff hf ha hb' hc (show i + 1 < 8 by omega)).trans (hh (i + 1) (by omega)).symm)
    have e106 : ∀ v : Int32, n_X12_mood_0_b106 F (fun S x1 x2 x3 x4 x5 x6 => rc (S, x1, x2, x3, x4, x5, x6)) M (nI a) (nI b) (nI c) (nI f) v (nI (i + 1)) = rc (M, nI a, nI b, nI c, nI f, if h (i + 1) = true then nI (i + 1) else v, nI (i + 1 + 1)) := by
      intro v
      unfold n_X12_mood_0_b106 n_X12_mood_0_b111 n_X12_mood_0_b136 n_X12_mood_0_b138 zlet
      rw [if_neg (show ¬ (1 : Int32) = 0 by decide), er, zcS, nI_1]
      by_cases g : h (i + 1) = true
      · rw [if_neg (fun k => (isB_0 hr).mp k g), if_pos g]
      · rw [if_pos ((isB_0 hr).mpr g), if_neg g]
    have e111 : ∀ v : Int32, n_X12_mood_0_b111 F (fun S x1 x2 x3 x4 x5 x6 => rc (S, x1, x2, x3, x4, x5, x6)) M (nI a) (nI b) (nI c) (nI f) v (nI (i + 1)) 0 = rc (M, nI a, nI b, nI c, nI f, v, nI (i + 1 + 1)) := by
      intro v
      unfold n_X12_mood_0_b111 n_X12_mood_0_b136 n_X12_mood_0_b138 zlet
      rw [if_pos rfl, nI_1]
    unfold n_X12_mood_0_b81_l
    rw [if_neg (show ¬ (8 : Int32) ≤ nI (i + 1) from nI_ge (b := 8) (by omega) (by omega)), e0 i, e106]
    rcases hB i (by omega) with q | ⟨j, hj, q⟩
    · rw [if_pos (show B i < 0 by rw [q]; decide), if_pos (show B i < 0 ∨ _ from Or.inl (by rw [q]; decide))]
    · rw [q]
      have hn : ¬ nI j < 0 := nI_pos (by omega)
      have k1 := bcn_le (i + 1) 32
      have k2 := bcn_le j 32
      rw [if_neg hn, m_bitCount M (bnd_of (k := 24) (show i + 1 < 2 ^ 24 by omega) (by omega)), zcS, m_bitCount M (bnd_of (k := 24) (show j < 2 ^ 24 by omega) (by omega)), zcS, bc_nI (by omega), bc_nI (by omega), nI_clamp (by omega), e106, e111]
      by_cases g : bcn j 32 ≤ bcn (i + 1) 32
      · rw [if_pos (nI_le g (by omega)), if_neg (show ¬ (nI j < 0 ∨ bcn (i + 1) 32 < bcn j 32) from fun w => w.elim hn (fun w => by omega))]
      · rw [if_neg (nI_ge (by omega) (by omega)), if_pos (show nI j < 0 ∨ bcn (i + 1) 32 < bcn j 32 from Or.inr (by omega))]
  · show n_X12_mood_0_b81_l F (fun S x1 x2 x3 x4 x5 x6 => rc (S, x1, x2, x3, x4, x5, x6)) M (nI a) (nI b) (nI c) (nI f) (B 7) (nI 8) = _
    unfold n_X12_mood_0_b81_l
    rw [if_pos (show (8 : Int32) ≤ nI 8 from nI_le (a := 8) (by omega) (by omega)), if_pos (show (8 : Int32) ≤ nI 8 from nI_le (a := 8) (by omega) (by omega))]
theorem m_mood {F : Nat} (hF : 2 ^ 40 < F) (M : Zs) {f a b c : Nat} (hf : F4 f) (ha : a < 4) (hb' : b < 4) (hc : c < 4) {h : Nat → Bool} (hh : ∀ k, k < 8 → (h k = true ↔ Hm f a b c k)) : n_X12_mood_0_b81 F M (nI a) (nI b) (nI c) (nI f) (-1) 1 = n_X12_mood_0_b81_l F (fun _ _ _ _ _ _ _ => none) M (nI a) (nI b) (nI c) (nI f) (mBst h 7) (nI 8) :=
  m_mood' hF M hf ha hb' hc hh (mBst h) (mBst_b h) (fun _ => rfl)
theorem l3' (x : Int32) : (3 : Int32) < x ↔ 4 ≤ x := nI_lt_le x (n := 3) (by decide)
theorem l4' (x : Int32) : (4 : Int32) < x ↔ 5 ≤ x := nI_lt_le x (n := 4) (by decide)
theorem form_of {a : Int32} (h : ¬ (a < 0 ∨ 3 < a)) : ∃ c, c < 4 ∧ a = nI c := in_nI (n := 4) (by decide) (fun g => h (Or.inl g)) (fun g => h (Or.inr ((l3' a).mpr g)))
theorem x_form0 {F : Nat} {X : Zs} {a : Int32} (h : a < 0 ∨ 3 < a) : n_X0_isForm F X a = some (0, X) := by
  rw [e_X0_isForm, bI_f (fun g => h.elim g.1 g.2)]
theorem x_form1 {F : Nat} {X : Zs} {a : Int32} (h : ¬ (a < 0 ∨ 3 < a)) : n_X0_isForm F X a = some (1, X) := by
  rw [e_X0_isForm, bI_t ⟨fun g => h (Or.inl g), fun g => h (Or.inr g)⟩]
theorem fig_of {a : Int32} (h : ¬ (a < 1 ∨ 4 < a)) : ∃ f, F4 f ∧ a = nI f := by
  have h0 : ¬ a < 0 := fun g => h (Or.inl (by
    rw [Int32.lt_iff_toInt_lt] at g ⊢
    exact Int.lt_trans g (by decide)))
  obtain ⟨c, hc, rfl⟩ := in_nI (n := 5) (x := a) (by decide) h0 (fun g => h (Or.inr ((l4' a).mpr g)))
  refine ⟨c, ?_, rfl⟩
  have h1 : ¬ nI c < nI 1 := fun g => h (Or.inl g)
  rw [nI_lt_iff (by omega) (by omega)] at h1
  unfold F4
  omega
theorem F4_lt {f : Nat} (h : F4 f) : f < 5 := by unfold F4 at h; omega
/-- mood(first, second, third, figure) -/
theorem p_mood {Q : Zs → Nat → (Nat → Nat) → Prop} (hQ : QOK Q) {F : Nat} (hF : 2 ^ 40 < F) : S_mood F (Rel (Kq Q)) := by
  intro X M hR a b c f
  have hin : ∀ (S : Zs) (x : Int32), n_X12_in F S x.toInt64 0 3 = some (bI (¬ x < 0 ∧ ¬ 3 < x), S) := fun S x => e_X12_in F S x 0 3
  have hin4 : ∀ (S : Zs) (x : Int32), n_X12_in F S x.toInt64 1 4 = some (bI (¬ x < 1 ∧ ¬ 4 < x), S) := fun S x => e_X12_in F S x 1 4
  have hi1 : ∀ (S : Zs) (x : Int32), ¬ (x < 0 ∨ 3 < x) → n_X12_in F S x.toInt64 0 3 = some (1, S) := fun S x h => by rw [hin, bI_t ⟨fun g => h (Or.inl g), fun g => h (Or.inr g)⟩]
  have hi0 : ∀ (S : Zs) (x : Int32), (x < 0 ∨ 3 < x) → n_X12_in F S x.toInt64 0 3 = some (0, S) := fun S x h => by rw [hin, bI_f (fun g => h.elim g.1 g.2)]
  have no : n_X11_mood_0 F X a b c f = some (-1, X) → n_X12_mood_0 F M a b c f = some (-1, zp M 0 0 0) → ∃ r X2 M2, n_X11_mood_0 F X a b c f = some (r, X2) ∧ n_X12_mood_0 F M a b c f = some (r, M2) ∧ Rel (Kq Q) X2 M2 := fun h1 h2 => ⟨-1, X, zp M 0 0 0, h1, h2, hR.thrown 0⟩
  have ux : n_X11_mood_0 F X a b c f = n_X11_mood_0_e F X a b c f := rfl
  have um : n_X12_mood_0 F M a b c f = n_X12_mood_0_e F M a b c f := rfl
  unfold n_X11_mood_0_e n_X11_mood_0_b33 at ux
  unfold n_X12_mood_0_e n_X12_mood_0_b54 zpf at um
  dsimp only at um
  by_cases h1 : a < 0 ∨ 3 < a
  · rw [x_form0 h1, zcS, if_pos rfl] at ux
    rw [hi0 _ _ h1, zcS, if_pos rfl] at um
    exact no ux um
  rw [x_form1 h1, zcS, if_neg (by decide)] at ux
  rw [hi1 _ _ h1, zcS, if_neg (by decide)] at um
  by_cases h2 : b < 0 ∨ 3 < b
  · rw [x_form0 h2, zcS, if_pos rfl] at ux
    rw [hi0 _ _ h2, zcS, if_pos rfl] at um
    exact no ux um
  rw [x_form1 h2, zcS, if_neg (by decide)] at ux
  rw [hi1 _ _ h2, zcS, if_neg (by decide)] at um
  by_cases h3 : c < 0 ∨ 3 < c
  · rw [x_form0 h3, zcS, if_pos rfl] at ux
    rw [hi0 _ _ h3, zcS, if_pos rfl] at um
    exact no ux um
  rw [x_form1 h3, zcS, if_neg (by decide)] at ux
  rw [hi1 _ _ h3, zcS, if_neg (by decide), hin4, zcS] at um
  by_cases h4 : f < 1 ∨ 4 < f
  · rw [if_pos (bI_f (fun g => h4.elim g.1 g.2))] at um
    refine no ?_ um
    rw [ux]
    by_cases g : f < 1
    · rw [if_pos g]
    · rw [if_neg g, if_neg (fun k => Int32.not_lt.mpr k (h4.resolve_left g))]
  rw [if_neg (fun g => h4 (Or.inl g)), if_pos (Int32.not_lt.mp (fun g => h4 (Or.inr g)))] at ux
  rw [bI_t ⟨fun g => h4 (Or.inl g), fun g => h4 (Or.inr g)⟩, if_neg (by decide)] at um
  obtain ⟨a, ha, rfl⟩ := form_of h1
  obtain ⟨b, hb', rfl⟩ := form_of h2
  obtain ⟨c, hc, rfl⟩ := form_of h3
  obtain ⟨f, hf, rfl⟩ := fig_of h4
  have hh : ∀ k, k < 8 → ((fun k => @decide (Hm f a b c k) (Classical.propDecidable _)) k = true ↔ Hm f a b c k) := fun k _ => @decide_eq_true_iff _ (Classical.propDecidable _)
  generalize (fun k => @decide (Hm f a b c k) (Classical.propDecidable _)) = h at hh
  obtain ⟨v, X1, e1, f1, hv⟩ := x_mustLive hF X hf ha hb' hc
  have ev := ML_pX hh (fun k hk => Hm_7 hk) hv
  obtain ⟨r, hr, er⟩ := m_holdsIf hF (zp (zp M 0 0 0) 0 1 0) hf ha hb' hc (show 0 < 8 by omega)
  have hr := isB_iff hr ((Hm_iff hf ha hb' hc (show 0 < 8 by omega)).trans (hh 0 (by omega)).symm)
  have er : n_X12_holdsIf F (zp (zp M 0 0 0) 0 1 0) (nI a) (nI b) (nI c) (nI f) 0 = some (r, zp (zp M 0 0 0) 0 1 0) := er
  rw [e1, zcS] at ux
  rw [er, zcS] at um
  have hR1 : Rel (Kq Q) X1 (zp M 0 0 0) := Rel_scr (Kq_ok hQ) (hR.thrown 0) f1
  rcases pick h (fun k hk g => (hh 7 (by omega)).mpr (Hm_7 hk ((hh k hk).mp g))) with ⟨g0, g1⟩ | ⟨g0, g1, g2, g3, g4⟩
  · rw [if_pos (ev.trans g1)] at ux
    rw [if_neg (fun k => (isB_0 hr).mp k g0)] at um
    exact ⟨2, _, _, ux, um, Rel_row (Kq_ok hQ) hR1 (fr_p _ (by decide)) (fr_p _ (by decide)) ⟨0, by omega, rfl, rfl, fun i hi => absurd hi (by omega)⟩⟩
  · rw [if_neg (fun k => g1 (ev.symm.trans k))] at ux
    rw [if_pos ((isB_0 hr).mpr (by rw [g0]; decide)), m_mood hF _ hf ha hb' hc hh, ← g2, ← ev] at um
    unfold n_X12_mood_0_b81_l n_X12_mood_0_b165 n_X12_mood_0_b178 at um
    rw [if_pos (show (8 : Int32) ≤ nI 8 from nI_le (a := 8) (by omega) (by omega)), m_enterOne, zcS] at um
    unfold n_X11_mood_0_b80 n_X11_mood_0_b93 at ux
    rw [x_tellOne, zcS] at ux
    cases g7 : h 7 with
    | true =>
      have p1 : ¬ v ≤ 0 := by rw [ev, g4, g7]; decide
      have p2 : 0 ≤ v := by
        rw [Int32.not_le] at p1
        exact Int32.le_of_lt p1
      rw [if_neg p1, if_neg p1] at ux
      rw [if_pos p2, if_pos p2] at um
      exact ⟨1, _, _, ux, um, Rel_one (Kq_ok hQ) hR1 v⟩
    | false =>
      have p1 : v ≤ 0 := by rw [ev, g4]; exact g7
      have p3 : v = -1 := by rw [ev, g3]; exact g7
      obtain ⟨w, b1, b2⟩ := brk (F := F) X1 (zp (zp M 0 0 0) 0 1 0) hf ha hb' hc
      rw [if_pos p1, b1, zcS, x_tellOne, zcS, if_pos p1] at ux
      rw [if_neg (show ¬ 0 ≤ v by rw [p3]; decide), b2, zcS, m_enterOne, zcS, if_neg (show ¬ 0 ≤ v by rw [p3]; decide)] at um
      exact ⟨0, _, _, ux, um, Rel_one (Kq_ok hQ) hR1 w⟩
theorem i64 {i : Nat} (h : i < 64) : nI i >>> ((4 : Int32) &&& 31) = nI (i / 16) ∧ (nI i >>> ((2 : Int32) &&& 31)) &&& 3 = nI (i / 4 % 4) ∧ nI i &&& 3 = nI (i % 4) := by
  refine ⟨?_, ?_, ?_⟩
  · exact pk_shrN (n := i) (by omega) ((4 : Int32) &&& 31) 4 (by decide)
  · rw [pk_shrN (n := i) (by omega) ((2 : Int32) &&& 31) 2 (by decide)]
    exact pk_andN (n := i / 2 ^ 2) (m := 3) (by omega) 2 (by decide)
  · exact pk_andN (n := i) (m := 3) (by omega) 2 (by decide)
theorem j64 {i : Nat} (h : i < 64) : nI i / 16 = nI (i / 16) ∧ nI i / 4 - nI i / 4 / 4 * 4 = nI (i / 4 % 4) ∧ nI i - nI i / 4 * 4 = nI (i % 4) := by
  refine ⟨pk_div (d := 16) (by omega) (by omega) (by omega), ?_, pk_rem (d := 4) (by omega) (by omega) (by omega)⟩
  rw [show nI i / 4 = nI (i / 4) from pk_div (d := 4) (by omega) (by omega) (by omega)]
  exact pk_rem (d := 4) (by omega) (by omega) (by omega)
def Al (f i : Nat) : Prop := Hm f (i / 16) (i / 4 % 4) (i % 4) 0
def So (f i : Nat) : Prop := ¬ Hm f (i / 16) (i / 4 % 4) (i % 4) 0 ∧ Hm f (i / 16) (i / 4 % 4) (i % 4) 7
theorem x_figure {F : Nat} (hF : 2 ^ 40 < F) (X : Zs) {f : Nat} (hf : F4 f) : ∃ X2, fr [32, 33, 34] [623, 624] X X2 ∧ n_X11_figure_0_b19 F X (nI f) 0 0 0 = some (nI (cnt (Al f) 64), xOne X2 (nI (cnt (So f) 64))) := by
  exact zfix_for (f := fun (rc : (Zs × Int32 × Int32 × Int32 × Int32) → Option (Int32 × Zs)) (u : (Zs × Int32 × Int32 × Int32 × Int32)) => n_X11_figure_0_b19_l F  (fun S x1 x2 x3 x4 => rc (S, x1, x2, x3, x4)) u.1 u.2.1 u.2.2.1 u.2.2.2.1 u.2.2.2.2) 64 (fun i s => ∃ S', s = (S', nI f, nI (cnt (Al f) i), nI (cnt (So f) i), nI i) ∧ fr [32, 33, 34] [623, 624] X S') (fun X2 : Zs => fr [32, 33, 34] [623, 624] X X2) (fun X2 => some (nI (cnt (Al f) 64), xOne X2 (nI (cnt (So f) 64)))) (by
    rintro i _ hi ⟨S', rfl, hf'⟩
    obtain ⟨k1, k2, k3⟩ := i64 hi
    obtain ⟨v, S2, e1, f1, hv⟩ := x_mustLive hF S' hf (show i / 16 < 4 by omega) (show i / 4 % 4 < 4 by omega) (show i % 4 < 4 by omega)
    have hh : ∀ k, k < 8 → ((fun k => @decide (Hm f (i / 16) (i / 4 % 4) (i % 4) k) (Classical.propDecidable _)) k = true ↔ Hm f (i / 16) (i / 4 % 4) (i % 4) k) := fun k _ => @decide_eq_true_iff _ (Classical.propDecidable _)
    generalize (fun k => @decide (Hm f (i / 16) (i / 4 % 4) (i % 4) k) (Classical.propDecidable _)) = h at hh
    have ev := ML_pX hh (fun k hk => Hm_7 hk) hv
    have t1 := @cnt_t (Al f) i
    have t2 := @cnt_t (So f) i
    have u1 := @cnt_f (Al f) i
    have u2 := @cnt_f (So f) i
    have h0 := hh 0 (by omega)
    have h7 := hh 7 (by omega)
    refine Or.inr ⟨(S2, nI f, nI (cnt (Al f) (i + 1)), nI (cnt (So f) (i + 1)), nI (i + 1)), ⟨S2, rfl, fr_t hf' f1⟩, fun rc => ?_⟩
    show n_X11_figure_0_b19_l F (fun S x1 x2 x3 x4 => rc (S, x1, x2, x3, x4)) S' (nI f) (nI (cnt (Al f) i)) (nI (cnt (So f) i)) (nI i) = _
    generalize cnt (Al f) i = m1 at *
    generalize cnt (So f) i = m2 at *
    unfold n_X11_figure_0_b19_l n_X11_figure_0_b61 n_X11_figure_0_b74 zlet
    rw [if_neg (show ¬ (64 : Int32) ≤ nI i from nI_ge (b := 64) hi (by omega)), k1, k2, k3, e1, zcS]
    dsimp only
    rw [show nI m1 + 0 = nI m1 from nI_add m1 0, show nI m2 + 0 = nI m2 from nI_add m2 0, nI_1, nI_1, nI_1]
    rcases pick h (fun k hk g => h7.mpr (Hm_7 hk ((hh k hk).mp g))) with ⟨g0, g1⟩ | ⟨g0, g1, -, -, g4⟩
    · have a0 : Hm f (i / 16) (i / 4 % 4) (i % 4) 0 := h0.mp g0
      rw [if_pos (ev.trans g1), if_pos (show v ≤ 0 by rw [ev, g1]; decide), t1 a0, u2 (fun k => k.1 a0)]
    · have a0 : ¬ Hm f (i / 16) (i / 4 % 4) (i % 4) 0 := fun k => by rw [h0.mpr k] at g0; exact absurd g0 (by decide)
      rw [if_neg (fun k => g1 (ev.symm.trans k)), u1 a0]
      by_cases g7 : h 7 = true
      · rw [if_neg (show ¬ v ≤ 0 by rw [ev, g4, g7]; decide), t2 ⟨a0, h7.mp g7⟩]
      · rw [if_pos (show v ≤ 0 by rw [ev, g4]; exact Bool.eq_false_iff.mpr g7), u2 (fun k => g7 (h7.mpr k.2))]) (by
    rintro _ ⟨S', rfl, hf'⟩
    refine ⟨S', hf', fun rc => ?_⟩
    show n_X11_figure_0_b19_l F (fun S x1 x2 x3 x4 => rc (S, x1, x2, x3, x4)) S' (nI f) (nI (cnt (Al f) 64)) (nI (cnt (So f) 64)) (nI 64) = _
    generalize cnt (Al f) 64 = m1
    generalize cnt (So f) 64 = m2
    unfold n_X11_figure_0_b19_l
    rw [if_pos (show (64 : Int32) ≤ nI 64 from nI_le (a := 64) (by omega) (by omega)), x_tellOne, zcS]) F (X, nI f, 0, 0, 0) ⟨X, rfl, fr_rf _ _ _⟩ (by omega)
theorem m_figure {F : Nat} (hF : 2 ^ 40 < F) (M : Zs) {f : Nat} (hf : F4 f) : n_X12_figure_0_b26 F M (nI f) 0 0 0 = some (nI (cnt (Al f) 64), mOne M (nI (cnt (So f) 64))) := by
  refine zfix_run (f := fun (rc : (Zs × Int32 × Int32 × Int32 × Int32) → Option (Int32 × Zs)) (u : (Zs × Int32 × Int32 × Int32 × Int32)) => n_X12_figure_0_b26_l F  (fun S x1 x2 x3 x4 => rc (S, x1, x2, x3, x4)) u.1 u.2.1 u.2.2.1 u.2.2.2.1 u.2.2.2.2) (fun i => (M, nI f, nI (cnt (Al f) i), nI (cnt (So f) i), nI i)) 64 (fun i hi rc => ?_) (fun rc => ?_) F (by omega)
  · show n_X12_figure_0_b26_l F (fun S x1 x2 x3 x4 => rc (S, x1, x2, x3, x4)) M (nI f) (nI (cnt (Al f) i)) (nI (cnt (So f) i)) (nI i) = rc (M, nI f, nI (cnt (Al f) (i + 1)), nI (cnt (So f) (i + 1)), nI (i + 1))
    obtain ⟨k1, k2, k3⟩ := j64 hi
    obtain ⟨r, hr, er⟩ := m_holdsIf hF M hf (show i / 16 < 4 by omega) (show i / 4 % 4 < 4 by omega) (show i % 4 < 4 by omega) (show 0 < 8 by omega)
    obtain ⟨s, hs, es⟩ := m_holdsIf hF M hf (show i / 16 < 4 by omega) (show i / 4 % 4 < 4 by omega) (show i % 4 < 4 by omega) (show 7 < 8 by omega)
    have hr := isB_iff hr (Hm_iff hf (show i / 16 < 4 by omega) (show i / 4 % 4 < 4 by omega) (show i % 4 < 4 by omega) (show 0 < 8 by omega))
    have hs := isB_iff hs (Hm_iff hf (show i / 16 < 4 by omega) (show i / 4 % 4 < 4 by omega) (show i % 4 < 4 by omega) (show 7 < 8 by omega))
    have er : n_X12_holdsIf F M (nI (i / 16)) (nI (i / 4 % 4)) (nI (i % 4)) (nI f) 0 = some (r, M) := er
    have es : n_X12_holdsIf F M (nI (i / 16)) (nI (i / 4 % 4)) (nI (i % 4)) (nI f) 7 = some (s, M) := es
    have t1 := @cnt_t (Al f) i
    have t2 := @cnt_t (So f) i
    have u1 := @cnt_f (Al f) i
    have u2 := @cnt_f (So f) i
    generalize cnt (Al f) i = m1 at *
    generalize cnt (So f) i = m2 at *
    unfold n_X12_figure_0_b26_l n_X12_figure_0_b97 n_X12_figure_0_b98 zlet
    rw [if_neg (show ¬ (64 : Int32) ≤ nI i from nI_ge (b := 64) hi (by omega)), k1, k2, k3, er, zcS, isB_flag hr, zcS]
    dsimp only
    rw [es, zcS]
    rw [show n_X12_flag F M 0 = some (0, M) from rfl, show n_X12_flag F M 1 = some (1, M) from rfl, zcS, zcS]
    rw [show nI m2 + 0 = nI m2 from nI_add m2 0, nI_1, nI_1]
    by_cases a0 : Hm f (i / 16) (i / 4 % 4) (i % 4) 0
    · have w : r = 1 := hr.elim (fun k => k.1) (fun k => absurd a0 k.2)
      rw [if_neg (by rw [w]; decide), t1 a0, u2 (fun k => k.1 a0), w, nI_1]
    · have w : r = 0 := (isB_0 hr).mpr a0
      rw [if_pos w, u1 a0, w, show nI m1 + 0 = nI m1 from nI_add m1 0]
      by_cases a7 : Hm f (i / 16) (i / 4 % 4) (i % 4) 7
      · rw [if_neg (fun k => (isB_0 hs).mp k a7), t2 ⟨a0, a7⟩]
      · rw [if_pos ((isB_0 hs).mpr a7), u2 (fun k => a7 k.2)]
  · show n_X12_figure_0_b26_l F (fun S x1 x2 x3 x4 => rc (S, x1, x2, x3, x4)) M (nI f) (nI (cnt (Al f) 64)) (nI (cnt (So f) 64)) (nI 64) = _
    generalize cnt (Al f) 64 = m1
    generalize cnt (So f) 64 = m2
    unfold n_X12_figure_0_b26_l zpf
    dsimp only
    rw [if_pos (show (64 : Int32) ≤ nI 64 from nI_le (a := 64) (by omega) (by omega)), m_enterOne, zcS]
/-- figure(figure) -/
theorem p_figure {Q : Zs → Nat → (Nat → Nat) → Prop} (hQ : QOK Q) {F : Nat} (hF : 2 ^ 40 < F) : S_figure F (Rel (Kq Q)) := by
  intro X M hR f
  have hin4 : ∀ (S : Zs) (x : Int32), n_X12_in F S x.toInt64 1 4 = some (bI (¬ x < 1 ∧ ¬ 4 < x), S) := fun S x => e_X12_in F S x 1 4
  have um : n_X12_figure_0 F M f = n_X12_figure_0_e F M f := rfl
  unfold n_X12_figure_0_e zpf at um
  dsimp only at um
  rw [hin4, zcS] at um
  have ux : n_X11_figure_0 F X f = n_X11_figure_0_e F X f := rfl
  unfold n_X11_figure_0_e n_X11_figure_0_b10 at ux
  by_cases h4 : f < 1 ∨ 4 < f
  · rw [if_pos (bI_f (fun g => h4.elim g.1 g.2))] at um
    refine ⟨-1, X, zp M 0 0 0, ?_, um, hR.thrown 0⟩
    rw [ux]
    by_cases g : f < 1
    · rw [if_pos g]
    · rw [if_neg g, if_neg (fun k => Int32.not_lt.mpr k (h4.resolve_left g))]
  rw [if_neg (fun g => h4 (Or.inl g)), if_pos (Int32.not_lt.mp (fun g => h4 (Or.inr g)))] at ux
  rw [bI_t ⟨fun g => h4 (Or.inl g), fun g => h4 (Or.inr g)⟩, if_neg (by decide)] at um
  obtain ⟨f, hf, rfl⟩ := fig_of h4
  obtain ⟨X2, f2, e2⟩ := x_figure hF X hf
  exact ⟨_, _, _, ux.trans e2, um.trans (m_figure hF _ hf), Rel_one (Kq_ok hQ) (Rel_scr (Kq_ok hQ) (hR.thrown 0) f2) _⟩
