/-! sorts, sort, both, forms -/
def xF' : List Nat := [21, 62, 63, 64, 65, 66, 68, 826]
def xR' : List Nat := [2, 4, 5, 6, 7, 8, 9, 10, 11, 12, 42, 43, 44, 45, 46]
def mF' : List Nat := [3, 6, 7, 8, 9, 11, 13, 35]
def mR' : List Nat := [2, 3, 4, 5, 16, 17, 18, 19, 20, 21, 22]
/-- all but the row and the caches has stayed -/
theorem Rel_any {K : Zs → Prop} {X M X2 M2 : Zs} (h : Rel K X M) (ax : ∀ k ∈ xF', X2.1 0 k = X.1 0 k) (bx : ∀ r ∈ xR', X2.1 r = X.1 r) (am : ∀ k ∈ mF', M2.1 0 k = M.1 0 k) (bm : ∀ r ∈ mR', M2.1 r = M.1 r) (hr : RRow X2 M2) (hk : K X2) : Rel K X2 M2 := by
  obtain ⟨h1, h2, h3, h4, h5, -, h7, h8, h9⟩ := h
  have xf := fun k (hk : k ∈ xF') => (ax k hk).symm
  have xr := fun r (hr : r ∈ xR') => (bx r hr).symm
  have mf := fun k (hk : k ∈ mF') => (am k hk).symm
  have mr := fun r (hr : r ∈ mR') => (bm r hr).symm
  unfold RText at h1
  unfold RSay at h2
  unfold RLife at h3
  unfold RMood at h4
  unfold RWant at h5
  unfold RPlea at h7
  unfold RKept at h8
  rw [xf 21 (by decide), xr 2 (by decide), mf 13 (by decide), mr 5 (by decide)] at h1
  rw [xf 62 (by decide), xf 63 (by decide), xf 64 (by decide), xr 4 (by decide), xr 5 (by decide), mf 3 (by decide), mf 6 (by decide), mf 7 (by decide), mr 2 (by decide), mr 3 (by decide)] at h2
  rw [xf 65 (by decide), mf 8 (by decide)] at h3
  rw [xf 66 (by decide), mf 11 (by decide)] at h4
  rw [xf 68 (by decide), xr 6 (by decide), mf 9 (by decide), mr 4 (by decide)] at h5
  rw [xf 62 (by decide), xf 826 (by decide), xr 42 (by decide), xr 43 (by decide), xr 44 (by decide), xr 45 (by decide), xr 46 (by decide), mf 35 (by decide), mr 16 (by decide), mr 17 (by decide), mr 18 (by decide), mr 19 (by decide), mr 20 (by decide)] at h7
  rw [xf 62 (by decide), xr 7 (by decide), xr 8 (by decide), xr 9 (by decide), xr 10 (by decide), xr 11 (by decide), xr 12 (by decide), mr 21 (by decide), mr 22 (by decide)] at h8
  exact ⟨h1, h2, h3, h4, h5, hr, h7, h8, hk⟩
theorem m_enters (F : Nat) {M : Zs} {r : Nat} (h : M.1 0 1 = nI r) (hr : r < 32) (v : Int32) : n_X12_enters_0 F M v = some (0, zp (zp M 1 r v) 0 1 (nI (r + 1))) := by
  show zst M 1 32 (M.1 0 1) v (fun S2 => zgf S2 1 (fun v3 => zpf S2 1 (v3 + 1) (fun S4 => some (0, S4)))) = _
  rw [h, zst_nI _ _ _ _ (by omega) (by omega)]
  unfold zgf zpf
  dsimp only
  rw [zp_off _ _ (Or.inl (by decide)), h, nI_1]
theorem ofB_0 (s i : Nat) : ofB s (2 * i) = s.testBit i ∧ ofB s (2 * i + 1) = !s.testBit i := by
  unfold ofB
  rw [show 2 * i / 2 = i by omega, show (2 * i + 1) / 2 = i by omega, show 2 * i % 2 = 0 by omega, show (2 * i + 1) % 2 = 1 by omega]
  cases s.testBit i <;> exact ⟨rfl, rfl⟩
theorem m_termsOf {F : Nat} (hF : 2 ^ 40 < F) (S : Zs) {s : Nat} (hs : s < 4096) : ∃ v, isW v 24 (fun t => ofB s t = true) ∧ n_X12_termsOf F S (nI s) = some (v, S) := by
  exact zfix_for (f := fun (rc : (Zs × Int32 × Int32 × Int32) → Option (Int32 × Zs)) (u : (Zs × Int32 × Int32 × Int32)) => n_X12_termsOf_b4_l F  (fun S x0 x1 x2 => rc (S, x0, x1, x2)) u.1 u.2.1 u.2.2.1 u.2.2.2) 12 (fun i a => ∃ v, a = (S, nI s, v, nI i) ∧ isW v (2 * i) (fun t => ofB s t = true)) (fun v : Int32 => isW v 24 (fun t => ofB s t = true)) (fun v => some (v, S)) (by
    rintro i _ hi ⟨v, rfl, hv⟩
    have e : ∀ rc : (Zs × Int32 × Int32 × Int32) → Option (Int32 × Zs), n_X12_termsOf_b4_l F (fun S x0 x1 x2 => rc (S, x0, x1, x2)) S (nI s) v (nI i) = if s.testBit i = true then rc (S, nI s, v ||| ((1 : Int32) <<< (nI (2 * i) &&& 31)), nI (i + 1)) else rc (S, nI s, v ||| ((1 : Int32) <<< (nI (2 * i + 1) &&& 31)), nI (i + 1)) := by
      intro rc
      unfold n_X12_termsOf_b4_l n_X12_termsOf_b28 zlet
      rw [if_neg (show ¬ (12 : Int32) ≤ nI i from nI_ge (b := 12) hi (by omega)), e_has F _ _ (show i < 32 by omega), zcS, hbn (by omega), show n_X12_flag F S 0 = some (0, S) from rfl, show n_X12_flag F S 1 = some (1, S) from rfl, zcS, zcS, tw, show nI (2 * i) + 0 = nI (2 * i) from nI_add _ 0, nI_1, nI_1]
      by_cases g : s.testBit i = true
      · rw [bI_t g, if_neg (by decide), if_pos g]
      · rw [bI_f g, if_pos rfl, if_neg g]
    obtain ⟨o1, o2⟩ := ofB_0 s i
    have key : ∀ t, t = 2 * i ∨ t = 2 * i + 1 → ofB s t = true → (∀ u, (u = 2 * i ∨ u = 2 * i + 1) → ofB s u = true → u = t) → isW (v ||| ((1 : Int32) <<< (nI t &&& 31))) (2 * (i + 1)) (fun t => ofB s t = true) := by
      intro t ht h1 h2 k
      rw [hbo, hb1 (show t < 32 by omega), hv k]
      constructor
      · rintro (⟨g1, g2⟩ | g)
        · exact ⟨by omega, g2⟩
        · rw [g]; exact ⟨by omega, h1⟩
      · rintro ⟨g1, g2⟩
        rcases Nat.lt_or_ge k (2 * i) with w | w
        · exact Or.inl ⟨w, g2⟩
        · exact Or.inr (h2 k (by omega) g2)
    by_cases g : s.testBit i = true
    · refine Or.inr ⟨_, ⟨_, rfl, key (2 * i) (Or.inl rfl) (by rw [o1]; exact g) ?_⟩, fun rc => (e rc).trans (if_pos g)⟩
      rintro u (hu | hu) h
      · exact hu
      · rw [hu, o2, g] at h; exact absurd h (by decide)
    · have g' : s.testBit i = false := Bool.eq_false_iff.mpr g
      refine Or.inr ⟨_, ⟨_, rfl, key (2 * i + 1) (Or.inr rfl) (by rw [o2, g']; rfl) ?_⟩, fun rc => (e rc).trans (if_neg g)⟩
      rintro u (hu | hu) h
      · rw [hu, o1] at h; exact absurd h g
      · exact hu) (by
    rintro _ ⟨v, rfl, hv⟩
    refine ⟨v, hv, fun rc => ?_⟩
    show n_X12_termsOf_b4_l F (fun S x0 x1 x2 => rc (S, x0, x1, x2)) S (nI s) v (nI 12) = _
    unfold n_X12_termsOf_b4_l
    rw [if_pos (show (12 : Int32) ≤ nI 12 from nI_le (a := 12) (by omega) (by omega))]) F (S, nI s, 0, 0) ⟨0, rfl, isW_0 _⟩ (by omega)
theorem m_canBe {F : Nat} (hF : 2 ^ 40 < F) {M : Zs} {P : Nat → Prop} (hT : TB M 7 P) {s : Nat} (hs : s < 4096) : ∃ r, isB r (OkS P s) ∧ n_X12_canBe_0 F M (nI s) = some (r, M) := by
  obtain ⟨v, hv, ev⟩ := m_termsOf hF M hs
  unfold n_X12_canBe_0 n_X12_canBe_0_e
  rw [ev, zcS]
  exact zfix_for (f := fun (rc : (Zs × Int32 × Int32) → Option (Int32 × Zs)) (u : (Zs × Int32 × Int32)) => n_X12_canBe_0_b7_l F  (fun S x2 x3 => rc (S, x2, x3)) u.1 u.2.1 u.2.2) 24 (fun i a => a = (M, v, nI i) ∧ ∀ t, t < i → ofB s t = true → ∀ u, Rc P t u → ofB s u = true) (fun r : Int32 => isB r (OkS P s)) (fun r => some (r, M)) (by
    rintro i _ hi ⟨rfl, hI⟩
    have e : ∀ rc : (Zs × Int32 × Int32) → Option (Int32 × Zs), n_X12_canBe_0_b7_l F (fun S x2 x3 => rc (S, x2, x3)) M v (nI i) = if hb v i = true then (if (M.1 7 i &&& (v ^^^ (-1))) = 0 then rc (M, v, nI (i + 1)) else some (0, M)) else rc (M, v, nI (i + 1)) := by
      intro rc
      unfold n_X12_canBe_0_b7_l n_X12_canBe_0_b36 zlet
      rw [if_neg (show ¬ (24 : Int32) ≤ nI i from nI_ge (b := 24) hi (by omega)), e_has F _ _ (show i < 32 by omega), zcS, zld_nI _ _ _ hi (by omega), zrb_0, nI_1]
      by_cases g : hb v i = true
      · rw [bI_t g, if_neg (by decide), if_pos g]
      · rw [bI_f g, if_pos rfl, if_neg g]
    have hz : (M.1 7 i &&& (v ^^^ (-1))) = 0 ↔ ∀ u, Rc P i u → ofB s u = true := by
      rw [eq0_hb]
      constructor
      · intro h u hu
        have h1 := h u
        rw [hbm, hT i hi u] at h1
        exact ((hv u).mp (Classical.byContradiction fun g => h1 ⟨hu, g⟩)).2
      · intro h u hu
        rw [hbm, hT i hi u] at hu
        exact hu.2 ((hv u).mpr ⟨(Rc_lt hu.1).2, h u hu.1⟩)
    have up : (ofB s i = true → ∀ u, Rc P i u → ofB s u = true) → ∀ t, t < i + 1 → ofB s t = true → ∀ u, Rc P t u → ofB s u = true := by
      intro g t ht
      by_cases q : t = i
      · rw [q]; exact g
      · exact hI t (by omega)
    by_cases g : hb v i = true
    · have g2 := ((hv i).mp g).2
      by_cases z : (M.1 7 i &&& (v ^^^ (-1))) = 0
      · exact Or.inr ⟨_, ⟨rfl, up fun _ => hz.mp z⟩, fun rc => (e rc).trans (by rw [if_pos g, if_pos z])⟩
      · exact Or.inl ⟨0, Or.inr ⟨rfl, fun ok => z (hz.mpr fun u hu => OkS_rc ok hu g2)⟩, fun rc => (e rc).trans (by rw [if_pos g, if_neg z])⟩
    · exact Or.inr ⟨_, ⟨rfl, up fun q => absurd ((hv i).mpr ⟨hi, q⟩) g⟩, fun rc => (e rc).trans (if_neg g)⟩) (by
    rintro _ ⟨rfl, hI⟩
    refine ⟨1, Or.inl ⟨rfl, OkS_of fun a b e g => hI a (Rc_lt e).1 g b e⟩, fun rc => ?_⟩
    show n_X12_canBe_0_b7_l F (fun S x2 x3 => rc (S, x2, x3)) M v (nI 24) = _
    unfold n_X12_canBe_0_b7_l
    rw [if_pos (show (24 : Int32) ≤ nI 24 from nI_le (a := 24) (by omega) (by omega)), zrb_1]) F (M, v, 0) ⟨rfl, fun t ht => absurd ht (by omega)⟩ (by omega)
theorem m_counts {F : Nat} (hF : 2 ^ 40 < F) {M : Zs} {n : Nat} {cd : Nat → Nat} (hM : MC M n cd) {x y : Nat} (hx : x < 24) (hy : y < 24) : ∃ M2, n_X12_countsBoth_0 F M (nI x) (nI y) = some (nI (cnt (fun s => ofB s x = true ∧ ofB s y = true ∧ OkS (· ∈ sel cd (actv n (M.1 0 7)) n) s) 4096), M2) ∧ fr [6, 7] [18, 20] M M2 := by
  obtain ⟨M2, e1, f1, t1, -⟩ := m_closesStanding hF hM
  generalize (· ∈ sel cd (actv n (M.1 0 7)) n) = P at *
  refine ⟨M2, ?_, f1⟩
  unfold n_X12_countsBoth_0 n_X12_countsBoth_0_e
  rw [e1, zcS]
  refine zfix_run (f := fun (rc : (Zs × Int32 × Int32 × Int32 × Int32) → Option (Int32 × Zs)) (u : (Zs × Int32 × Int32 × Int32 × Int32)) => n_X12_countsBoth_0_b9_l F  (fun S x1 x2 x3 x4 => rc (S, x1, x2, x3, x4)) u.1 u.2.1 u.2.2.1 u.2.2.2.1 u.2.2.2.2) (fun i => (M2, nI x, nI y, nI (cnt (fun s => ofB s x = true ∧ ofB s y = true ∧ OkS P s) i), nI i)) 4096 (fun i hi rc => ?_) (fun rc => ?_) F (by omega)
  · show n_X12_countsBoth_0_b9_l F (fun S x1 x2 x3 x4 => rc (S, x1, x2, x3, x4)) M2 (nI x) (nI y) (nI (cnt (fun s => ofB s x = true ∧ ofB s y = true ∧ OkS P s) i)) (nI i) = rc (M2, nI x, nI y, nI (cnt (fun s => ofB s x = true ∧ ofB s y = true ∧ OkS P s) (i + 1)), nI (i + 1))
    obtain ⟨r, hr, er⟩ := m_canBe hF t1 hi
    have t3 := @cnt_t (fun s => ofB s x = true ∧ ofB s y = true ∧ OkS P s) i
    have u3 := @cnt_f (fun s => ofB s x = true ∧ ofB s y = true ∧ OkS P s) i
    generalize cnt (fun s => ofB s x = true ∧ ofB s y = true ∧ OkS P s) i = m at *
    unfold n_X12_countsBoth_0_b9_l n_X12_countsBoth_0_b49 n_X12_countsBoth_0_b50 zlet
    rw [if_neg (show ¬ (4096 : Int32) ≤ nI i from nI_ge (b := 4096) hi (by omega)), m_isOf M2 (by omega) hx, zcS, m_isOf M2 (by omega) hy, zcS, er, zcS, show n_X12_flag F M2 0 = some (0, M2) from rfl, show n_X12_flag F M2 1 = some (1, M2) from rfl, zcS, zcS, show nI m + 0 = nI m from nI_add m 0, nI_1, nI_1]
    by_cases g1 : ofB i x = true
    · rw [bI_t g1, if_neg (by decide)]
      by_cases g2 : ofB i y = true
      · rw [bI_t g2, if_neg (by decide)]
        by_cases g3 : OkS P i
        · rw [if_neg (fun k => (isB_0 hr).mp k g3), t3 ⟨g1, g2, g3⟩]
        · rw [if_pos ((isB_0 hr).mpr g3), u3 (fun k => g3 k.2.2)]
      · rw [bI_f g2, if_pos rfl, u3 (fun k => g2 k.2.1)]
    · rw [bI_f g1, if_pos rfl, u3 (fun k => g1 k.1)]
  · show n_X12_countsBoth_0_b9_l F (fun S x1 x2 x3 x4 => rc (S, x1, x2, x3, x4)) M2 (nI x) (nI y) (nI (cnt (fun s => ofB s x = true ∧ ofB s y = true ∧ OkS P s) 4096)) (nI 4096) = _
    generalize cnt (fun s => ofB s x = true ∧ ofB s y = true ∧ OkS P s) 4096 = m
    unfold n_X12_countsBoth_0_b9_l
    rw [if_pos (show (4096 : Int32) ≤ nI 4096 from nI_le (a := 4096) (by omega) (by omega))]
theorem cnt_split (A R : Nat → Prop) : ∀ n, cnt (fun s => A s ∧ R s) n + cnt (fun s => ¬ A s ∧ R s) n = cnt R n := by
  intro n
  induction n with
  | zero => rfl
  | succ n ih =>
    by_cases r : R n
    · by_cases a : A n
      · rw [cnt_t (P := fun s => A s ∧ R s) ⟨a, r⟩, cnt_f (P := fun s => ¬ A s ∧ R s) (fun k => k.1 a), cnt_t r]; omega
      · rw [cnt_f (P := fun s => A s ∧ R s) (fun k => a k.1), cnt_t (P := fun s => ¬ A s ∧ R s) ⟨a, r⟩, cnt_t r]; omega
    · rw [cnt_f (P := fun s => A s ∧ R s) (fun k => r k.2), cnt_f (P := fun s => ¬ A s ∧ R s) (fun k => r k.2), cnt_f r]; exact ih
theorem m_sort {F : Nat} (hF : 2 ^ 40 < F) {M : Zs} {P : Nat → Prop} (hT : TB M 7 P) {k : Nat} (hk : k < 2 ^ 31) : ∃ v, Nth (OkS P) k v ∧ n_X12_sort_0_b19 F M (nI k) 0 = some (v, M) := by
  exact zfix_for (f := fun (rc : (Zs × Int32 × Int32) → Option (Int32 × Zs)) (u : (Zs × Int32 × Int32)) => n_X12_sort_0_b19_l F  (fun S x2 x3 => rc (S, x2, x3)) u.1 u.2.1 u.2.2) 4096 (fun i a => a = (M, nI (k - cnt (OkS P) i), nI i) ∧ cnt (OkS P) i ≤ k) (fun v : Int32 => Nth (OkS P) k v) (fun v => some (v, M)) (by
    rintro i _ hi ⟨rfl, hI⟩
    obtain ⟨r, hr, er⟩ := m_canBe hF hT hi
    have t3 := @cnt_t (OkS P) i
    have u3 := @cnt_f (OkS P) i
    have e : ∀ (m : Nat) (rc : (Zs × Int32 × Int32) → Option (Int32 × Zs)), m ≤ k → n_X12_sort_0_b19_l F (fun S x2 x3 => rc (S, x2, x3)) M (nI m) (nI i) = if r = 0 then rc (M, nI m, nI (i + 1)) else if m = 0 then some (nI i, M) else rc (M, nI (m - 1), nI (i + 1)) := by
      intro m rc hm
      unfold n_X12_sort_0_b19_l n_X12_sort_0_b43 zlet
      rw [if_neg (show ¬ (4096 : Int32) ≤ nI i from nI_ge (b := 4096) hi (by omega)), er, zcS, nI_1]
      by_cases g : r = 0
      · rw [if_pos g, if_pos g]
      · rw [if_neg g, if_neg g]
        by_cases q : m = 0
        · rw [if_pos q, if_pos (by rw [q]; rfl)]
        · obtain ⟨m', rfl⟩ : ∃ m', m = m' + 1 := ⟨m - 1, by omega⟩
          rw [if_neg q, if_neg (nI_ne0 (by omega) (by omega)), show nI (m' + 1) + (-1) = nI m' by rw [← nI_1, Int32.add_assoc, show (1 : Int32) + (-1) = 0 by decide, Int32.add_zero], show m' + 1 - 1 = m' by omega]
    have e := fun rc => e (k - cnt (OkS P) i) rc (by omega)
    by_cases g : OkS P i
    · rw [t3 g] at *
      by_cases q : k - cnt (OkS P) i = 0
      · exact Or.inl ⟨nI i, Or.inr ⟨i, hi, g, by omega, rfl⟩, fun rc => (e rc).trans (by rw [if_neg (fun z => (isB_0 hr).mp z g), if_pos q])⟩
      · refine Or.inr ⟨_, ⟨rfl, ?_⟩, fun rc => (e rc).trans ?_⟩
        · rw [t3 g]; omega
        · rw [if_neg (fun z => (isB_0 hr).mp z g), if_neg q, t3 g, Nat.sub_sub]
    · refine Or.inr ⟨_, ⟨rfl, ?_⟩, fun rc => (e rc).trans ?_⟩
      · rw [u3 g]; exact hI
      · rw [if_pos ((isB_0 hr).mpr g), u3 g]) (by
    rintro _ ⟨rfl, hI⟩
    refine ⟨-2, Or.inl ⟨rfl, hI⟩, fun rc => ?_⟩
    show n_X12_sort_0_b19_l F (fun S x2 x3 => rc (S, x2, x3)) M (nI (k - cnt (OkS P) 4096)) (nI 4096) = _
    generalize cnt (OkS P) 4096 = m
    unfold n_X12_sort_0_b19_l
    rw [if_pos (show (4096 : Int32) ≤ nI 4096 from nI_le (a := 4096) (by omega) (by omega))]) F (M, nI k, 0) ⟨rfl, Nat.zero_le _⟩ (by omega)
-- the caches
def Qs (KP : Zs → Nat → (Nat → Nat) → Prop) (X : Zs) (n : Nat) (cd : Nat → Nat) : Prop := KS X n cd ∧ KP X n cd
/-- what the other cache says stays when sorts are settled -/
def PS_ok (KP : Zs → Nat → (Nat → Nat) → Prop) : Prop := ∀ X X2 n cd, frS X X2 → KP X n cd → KP X2 n cd
theorem KB_S {X X2 : Zs} {n : Nat} {cd : Nat → Nat} (f : frS X X2) (h : KB X n cd) : KB X2 n cd := by
  unfold KB
  rw [f.1 264 (by decide), f.1 265 (by decide)]
  refine h.imp id fun h => ⟨h.1, ?_⟩
  obtain ⟨g1, g2, g3, g4, g5⟩ := h.2
  refine ⟨fun t ht u => ?_, ?_, ?_, g4, fun i p hp => ?_⟩
  · rw [f.2 15 (by decide)]; exact g1 t ht u
  · rw [f.1 284 (by decide)]; exact g2
  · rw [f.1 283 (by decide)]; exact g3
  · rw [f.2 16 (by decide), f.2 17 (by decide)]; exact g5 i p hp
theorem XC_S {X X2 : Zs} {n : Nat} {cd : Nat → Nat} (f : frS X X2) (h : XC X n cd) : XC X2 n cd :=
  ⟨(f.1 62 (by decide)).trans h.1, h.2.1, fun i hi => by rw [f.2 4 (by decide)]; exact h.2.2 i hi⟩
theorem Rel_sort {KP : Zs → Nat → (Nat → Nat) → Prop} (hKP : PS_ok KP) {X M X2 M2 : Zs} {n : Nat} {cd : Nat → Nat} (h : Rel (Kq (Qs KP)) X M) (hX : XC X n cd) (hB : KB X n cd) (hP : KP X n cd) (f : frS X X2) (ks : KS X2 n cd) (fm : fr mR mK M M2) : Rel (Kq (Qs KP)) X2 M2 := by
  have xs : xSame X X2 := ⟨fun k hk => f.1 k ((show ∀ k ∈ xFields, k ∉ [482, 483, 484] by decide) k hk), fun r hr => f.2 r ((show ∀ r ∈ xRows, r ≠ 0 by decide) r hr)⟩
  exact (h.x xs ⟨n, cd, XC_S f hX, KB_S f hB, ks, hKP X X2 n cd f hP⟩).m (fr_m fm (by decide) (by decide))
theorem PS_m1 {cd : Nat → Nat} {n : Nat} {b : Int32} {s : Nat} : OkS (PS cd n b (-1)) s ↔ OkS (· ∈ sel cd b n) s :=
  OkS_c fun c hc => ⟨fun g => g.elim id fun g => absurd g (nI_ne_m1 (by omega)), Or.inl⟩
theorem KS_of {X2 : Zs} {n : Nat} {cd : Nat → Nat} {b e : Int32} (hb' : bnd b n) (h1 : X2.1 0 483 = b) (h2 : X2.1 0 484 = e) (h : Srt X2 (PS cd n b e)) : KS X2 n cd := Or.inr (by rw [h1, h2]; exact ⟨hb', h⟩)
/-- sorts() -/
theorem p_sorts {KP : Zs → Nat → (Nat → Nat) → Prop} (hKP : PS_ok KP) {F : Nat} (hF : 2 ^ 40 < F) : S_sorts F (Rel (Kq (Qs KP))) := by
  intro X M hR
  obtain ⟨n, cd, hX, hB, ⟨hS, hP⟩, hM, el, -, -, ew, -⟩ := Rel_ctx hR
  have bA := bnd_actv hX.2.1 (X.1 0 64)
  obtain ⟨X2, e1, f1, k3, k4, hs⟩ := x_settle hF hX hS bA (Or.inl rfl)
  obtain ⟨M1, g1, h1⟩ := m_counts hF (MC_fr hM (f0 M) (by decide) (by decide)) (show 0 < 24 by omega) (show 0 < 24 by omega)
  have h1' := fr_t (f0 M) (fw h1)
  obtain ⟨M2, g2, h2⟩ := m_counts hF (MC_fr hM h1' (by decide) (by decide)) (show 1 < 24 by omega) (show 1 < 24 by omega)
  have ea : (zp M 0 0 0).1 0 7 = M.1 0 7 := rfl
  rw [h1'.1 7 (by decide)] at g2
  rw [ea] at g1
  rw [ew] at hs bA k3
  refine ⟨nI (cnt (OkS (· ∈ sel cd (actv n (M.1 0 7)) n)) 4096), X2, M2, ?_, ?_, Rel_sort hKP hR hX hB hP f1 (KS_of bA k3 k4 hs) (fr_t h1' (fw h2))⟩
  · unfold n_X11_sorts_0 n_X11_sorts_0_e zgf
    rw [x_active hX.1, zcS, e1, zcS]
    dsimp only
    rw [hs.2, cnt_c fun s _ => PS_m1]
  · unfold n_X12_sorts_0 n_X12_sorts_0_e zpf
    dsimp only
    rw [show n_X12_countsBoth_0 F (zp M 0 0 0) 0 0 = _ from g1, zcS, show n_X12_countsBoth_0 F M1 1 1 = _ from g2, zcS, nI_add]
    have o : ∀ s, ofB s 1 = true ↔ ¬ ofB s 0 = true := fun s => ofB_nx (s := s) (t := 0) (by omega)
    rw [cnt_c (P := fun s => ofB s 0 = true ∧ ofB s 0 = true ∧ OkS (· ∈ sel cd (actv n (M.1 0 7)) n) s) (R := fun s => ofB s 0 = true ∧ OkS (· ∈ sel cd (actv n (M.1 0 7)) n) s) fun s _ => ⟨fun g => ⟨g.1, g.2.2⟩, fun g => ⟨g.1, g.1, g.2⟩⟩, cnt_c (P := fun s => ofB s 1 = true ∧ ofB s 1 = true ∧ OkS (· ∈ sel cd (actv n (M.1 0 7)) n) s) (R := fun s => ¬ ofB s 0 = true ∧ OkS (· ∈ sel cd (actv n (M.1 0 7)) n) s) fun s _ => ⟨fun g => ⟨(o s).mp g.1, g.2.2⟩, fun g => ⟨(o s).mpr g.1, (o s).mpr g.1, g.2⟩⟩]
    exact congrArg (fun q => some (nI q, M2)) (cnt_split (fun s => ofB s 0 = true) (OkS (· ∈ sel cd (actv n (M.1 0 7)) n)) 4096)
/-- sort(k) -/
theorem p_sort {KP : Zs → Nat → (Nat → Nat) → Prop} (hKP : PS_ok KP) {F : Nat} (hF : 2 ^ 40 < F) : S_sort F (Rel (Kq (Qs KP))) := by
  intro X M hR a
  have ux : n_X11_sort_0 F X a = n_X11_sort_0_e F X a := rfl
  have um : n_X12_sort_0 F M a = n_X12_sort_0_e F M a := rfl
  unfold n_X11_sort_0_e at ux
  unfold n_X12_sort_0_e zpf at um
  dsimp only at um
  by_cases h : 0 ≤ a
  · rw [if_pos h] at ux um
    obtain ⟨k, hk, rfl⟩ := nI_of (Int32.not_lt.mpr h)
    obtain ⟨n, cd, hX, hB, ⟨hS, hP⟩, hM, el, -, -, ew, -⟩ := Rel_ctx hR
    have bA := bnd_actv hX.2.1 (X.1 0 64)
    obtain ⟨X2, e1, f1, k3, k4, hs⟩ := x_settle hF hX hS bA (Or.inl rfl)
    obtain ⟨M1, g1, h1, t1, -⟩ := m_closesStanding hF (MC_fr hM (f0 M) (by decide) (by decide))
    have ea : (zp M 0 0 0).1 0 7 = M.1 0 7 := rfl
    rw [ea] at t1
    obtain ⟨v, hv, ev⟩ := x_numbered hF X2 hk
    obtain ⟨w, hw, ew'⟩ := m_sort hF t1 hk
    have hv' : Nth (OkS (· ∈ sel cd (actv n (M.1 0 7)) n)) k v := by
      have c : ∀ s, s ≤ 4096 → cnt (HW X2) s = cnt (OkS (· ∈ sel cd (actv n (M.1 0 7)) n)) s := fun s hs' => cnt_c fun j hj => by
        rw [hs.1 j (by omega), PS_m1, ew]
      rcases hv with ⟨q1, q2⟩ | ⟨s, q1, q2, q3, q4⟩
      · exact Or.inl ⟨q1, by rw [← c 4096 (Nat.le_refl _)]; exact q2⟩
      · refine Or.inr ⟨s, q1, ?_, by rw [← c s (by omega)]; exact q3, q4⟩
        rw [hs.1 s q1, PS_m1, ew] at q2
        exact q2
    have e := Nth_eq hv' hw
    subst e
    refine ⟨v, X2, M1, ?_, ?_, Rel_sort hKP hR hX hB hP f1 (KS_of bA k3 k4 hs) (fr_t (f0 M) (fw h1))⟩
    · rw [ux, x_active hX.1, zcS, e1, zcS, ev, zcS]
    · rw [um, g1, zcS, ew']
  · rw [if_neg h] at ux um
    exact ⟨-1, X, zp M 0 0 0, ux, um, hR.thrown 0⟩
theorem x_both {F : Nat} (hF : 2 ^ 40 < F) {X2 : Zs} {n : Nat} {cd : Nat → Nat} {b : Int32} (hs : Srt X2 (PS cd n b (-1))) {x y : Nat} (hx : x < 24) (hy : y < 24) : n_X7_ofBoth_24 F X2 (nI x) (nI y) = some (nI (cnt (fun s => ofB s x = true ∧ ofB s y = true ∧ OkS (· ∈ sel cd b n) s) 4096), X2) := by
  rw [x_ofBoth hF X2 hx hy, cnt_c (P := fun s => HW X2 s ∧ ofB s x = true ∧ ofB s y = true) (R := fun s => ofB s x = true ∧ ofB s y = true ∧ OkS (· ∈ sel cd b n) s) fun s hs' => ?_]
  rw [hs.1 s hs', PS_m1]
  exact ⟨fun g => ⟨g.2.1, g.2.2, g.1⟩, fun g => ⟨g.2.2, g.1, g.2.1⟩⟩
/-- both(x, y) -/
theorem p_both {KP : Zs → Nat → (Nat → Nat) → Prop} (hKP : PS_ok KP) {F : Nat} (hF : 2 ^ 40 < F) : S_both F (Rel (Kq (Qs KP))) := by
  intro X M hR a b
  have ux : n_X11_both_0 F X a b = n_X11_both_0_e F X a b := rfl
  have um : n_X12_both_0 F M a b = n_X12_both_0_e F M a b := rfl
  unfold n_X11_both_0_e n_X11_both_0_b14 at ux
  unfold n_X12_both_0_e n_X12_both_0_b28 n_X12_both_0_b29 zpf at um
  dsimp only at um
  by_cases h1 : a < 0 ∨ 23 < a
  · rw [x_term0 h1, zcS, if_pos rfl] at ux
    rw [m_term0 h1, zcS, if_pos rfl] at um
    exact ⟨-1, X, zp M 0 0 0, ux, um, hR.thrown 0⟩
  rw [x_term1 h1, zcS, if_neg (by decide)] at ux
  rw [m_term1 h1, zcS, if_neg (by decide)] at um
  by_cases h2 : b < 0 ∨ 23 < b
  · rw [x_term0 h2, zcS, if_pos rfl] at ux
    rw [m_term0 h2, zcS, if_pos rfl] at um
    exact ⟨-1, X, zp M 0 0 0, ux, um, hR.thrown 0⟩
  rw [x_term1 h2, zcS, if_neg (by decide)] at ux
  rw [m_term1 h2, zcS, if_neg (by decide)] at um
  obtain ⟨x, hx, rfl⟩ := term_of h1
  obtain ⟨y, hy, rfl⟩ := term_of h2
  obtain ⟨n, cd, hX, hB, ⟨hS, hP⟩, hM, el, -, -, ew, -⟩ := Rel_ctx hR
  have bA := bnd_actv hX.2.1 (X.1 0 64)
  obtain ⟨X2, e1, f1, k3, k4, hs⟩ := x_settle hF hX hS bA (Or.inl rfl)
  obtain ⟨M1, g1, h1'⟩ := m_counts hF (MC_fr hM (f0 M) (by decide) (by decide)) hx hy
  have ea : (zp M 0 0 0).1 0 7 = M.1 0 7 := rfl
  rw [ea] at g1
  rw [x_active hX.1, zcS, e1, zcS, x_both hF hs hx hy, zcS, ew] at ux
  rw [g1, zcS] at um
  exact ⟨_, X2, M1, ux, um, Rel_sort hKP hR hX hB hP f1 (KS_of bA k3 k4 hs) (fr_t (f0 M) (fw h1'))⟩
-- forms
theorem x_forms {F : Nat} (hF : 2 ^ 40 < F) {X : Zs} {n : Nat} {cd : Nat → Nat} (hX : XC X n cd) (hK : KB X n cd) {x y : Nat} (hx : x < 24) (hy : y < 24) : ∃ q : Int32 × Zs, (fr cR cK X q.2 ∧ KB q.2 n cd ∧ isW q.1 4 (fun f => ¬ Con (sel cd (actv n (X.1 0 64)) n ++ [ct (576 * f + 24 * x + y)]) (X.1 0 65))) ∧ n_X11_forms_0_b21 F X (nI x) (nI y) 0 0 = n_X11_forms_0_b21_l F (fun _ _ _ _ _ => none) q.2 (nI x) (nI y) q.1 (nI 4) := by
  exact zfix_for (f := fun (rc : (Zs × Int32 × Int32 × Int32 × Int32) → Option (Int32 × Zs)) (u : (Zs × Int32 × Int32 × Int32 × Int32)) => n_X11_forms_0_b21_l F  (fun S x1 x2 x3 x4 => rc (S, x1, x2, x3, x4)) u.1 u.2.1 u.2.2.1 u.2.2.2.1 u.2.2.2.2) 4 (fun i a => ∃ S v, a = (S, nI x, nI y, v, nI i) ∧ fr cR cK X S ∧ KB S n cd ∧ isW v i (fun f => ¬ Con (sel cd (actv n (X.1 0 64)) n ++ [ct (576 * f + 24 * x + y)]) (X.1 0 65))) (fun q : Int32 × Zs => fr cR cK X q.2 ∧ KB q.2 n cd ∧ isW q.1 4 (fun f => ¬ Con (sel cd (actv n (X.1 0 64)) n ++ [ct (576 * f + 24 * x + y)]) (X.1 0 65))) (fun q => n_X11_forms_0_b21_l F (fun _ _ _ _ _ => none) q.2 (nI x) (nI y) q.1 (nI 4)) (by
    rintro i _ hi ⟨S', v, rfl, hf, hk, hw⟩
    have hX' := XC_fr hX hf (by decide) (by decide)
    have hc : 576 * i + 24 * x + y < 2304 := by omega
    obtain ⟨r, X1, e1, f1, h1, kb1⟩ := x_entails hF hX' hk (bnd_actv hX'.2.1 (S'.1 0 64)) hc
    rw [hf.1 65 (by decide), hf.1 64 (by decide)] at h1
    have e : ∀ rc : (Zs × Int32 × Int32 × Int32 × Int32) → Option (Int32 × Zs), n_X11_forms_0_b21_l F (fun S x1 x2 x3 x4 => rc (S, x1, x2, x3, x4)) S' (nI x) (nI y) v (nI i) = if r = 0 then rc (X1, nI x, nI y, v, nI (i + 1)) else rc (X1, nI x, nI y, v ||| ((1 : Int32) <<< (nI i &&& 31)), nI (i + 1)) := by
      intro rc
      unfold n_X11_forms_0_b21_l n_X11_forms_0_b58 zlet
      rw [if_neg (show ¬ (4 : Int32) ≤ nI i from nI_ge (b := 4) hi (by omega)), x_active hX'.1, zcS, n_mk, zcS, e1, zcS, nI_1]
    by_cases g : Con (sel cd (actv n (X.1 0 64)) n ++ [ct (576 * i + 24 * x + y)]) (X.1 0 65)
    · exact Or.inr ⟨_, ⟨X1, v, rfl, fr_t hf f1, kb1, isW_f hw (fun k => k g)⟩, fun rc => (e rc).trans (if_pos ((isB_0 h1).mpr (fun k => k g)))⟩
    · exact Or.inr ⟨_, ⟨X1, _, rfl, fr_t hf f1, kb1, isW_t hw (by omega) g⟩, fun rc => (e rc).trans (if_neg (fun k => (isB_0 h1).mp k g))⟩) (by
    rintro _ ⟨S', v, rfl, hf, hk, hw⟩
    refine ⟨(v, S'), ⟨hf, hk, hw⟩, fun rc => ?_⟩
    show n_X11_forms_0_b21_l F (fun S x1 x2 x3 x4 => rc (S, x1, x2, x3, x4)) S' (nI x) (nI y) v (nI 4) = n_X11_forms_0_b21_l F (fun _ _ _ _ _ => none) S' (nI x) (nI y) v (nI 4)
    unfold n_X11_forms_0_b21_l
    rw [if_pos (show (4 : Int32) ≤ nI 4 from nI_le (a := 4) (by omega) (by omega)), if_pos (show (4 : Int32) ≤ nI 4 from nI_le (a := 4) (by omega) (by omega))]) F (X, nI x, nI y, 0, 0) ⟨X, 0, rfl, fr_rf _ _ _, hK, isW_0 _⟩ (by omega)
theorem m_forms {F : Nat} (hF : 2 ^ 40 < F) {M : Zs} {n : Nat} {cd : Nat → Nat} (hM : MC M n cd) {x y : Nat} (hx : x < 24) (hy : y < 24) : ∃ q : Int32 × Zs, (fr mR mK M q.2 ∧ isW q.1 4 (fun f => ¬ Con (sel cd (actv n (M.1 0 7)) n ++ [ct (576 * f + 24 * x + y)]) (M.1 0 8))) ∧ n_X12_forms_0_b26 F M (nI x) (nI y) 0 0 = n_X12_forms_0_b26_l F (fun _ _ _ _ _ => none) q.2 (nI x) (nI y) q.1 (nI 4) := by
  exact zfix_for (f := fun (rc : (Zs × Int32 × Int32 × Int32 × Int32) → Option (Int32 × Zs)) (u : (Zs × Int32 × Int32 × Int32 × Int32)) => n_X12_forms_0_b26_l F  (fun S x1 x2 x3 x4 => rc (S, x1, x2, x3, x4)) u.1 u.2.1 u.2.2.1 u.2.2.2.1 u.2.2.2.2) 4 (fun i a => ∃ S v, a = (S, nI x, nI y, v, nI i) ∧ fr mR mK M S ∧ isW v i (fun f => ¬ Con (sel cd (actv n (M.1 0 7)) n ++ [ct (576 * f + 24 * x + y)]) (M.1 0 8))) (fun q : Int32 × Zs => fr mR mK M q.2 ∧ isW q.1 4 (fun f => ¬ Con (sel cd (actv n (M.1 0 7)) n ++ [ct (576 * f + 24 * x + y)]) (M.1 0 8))) (fun q => n_X12_forms_0_b26_l F (fun _ _ _ _ _ => none) q.2 (nI x) (nI y) q.1 (nI 4)) (by
    rintro i _ hi ⟨S', v, rfl, hf, hw⟩
    have hM' := MC_fr hM hf (by decide) (by decide)
    have hc : 576 * i + 24 * x + y < 2304 := by omega
    obtain ⟨r, M1, e1, f1, h1⟩ := m_followsFrom hF hM' (actv n (S'.1 0 7)) hc
    rw [hf.1 8 (by decide), hf.1 7 (by decide)] at h1
    have e : ∀ rc : (Zs × Int32 × Int32 × Int32 × Int32) → Option (Int32 × Zs), n_X12_forms_0_b26_l F (fun S x1 x2 x3 x4 => rc (S, x1, x2, x3, x4)) S' (nI x) (nI y) v (nI i) = if r = 0 then rc (M1, nI x, nI y, v, nI (i + 1)) else rc (M1, nI x, nI y, v ||| ((1 : Int32) <<< (nI i &&& 31)), nI (i + 1)) := by
      intro rc
      unfold n_X12_forms_0_b26_l n_X12_forms_0_b59 zlet
      rw [if_neg (show ¬ (4 : Int32) ≤ nI i from nI_ge (b := 4) hi (by omega)), m_standing hM'.1, zcS, n_mkM, zcS, e1, zcS, nI_1, or_0]
    by_cases g : Con (sel cd (actv n (M.1 0 7)) n ++ [ct (576 * i + 24 * x + y)]) (M.1 0 8)
    · exact Or.inr ⟨_, ⟨M1, v, rfl, fr_t hf (fw f1), isW_f hw (fun k => k g)⟩, fun rc => (e rc).trans (if_pos ((isB_0 h1).mpr (fun k => k g)))⟩
    · exact Or.inr ⟨_, ⟨M1, _, rfl, fr_t hf (fw f1), isW_t hw (by omega) g⟩, fun rc => (e rc).trans (if_neg (fun k => (isB_0 h1).mp k g))⟩) (by
    rintro _ ⟨S', v, rfl, hf, hw⟩
    refine ⟨(v, S'), ⟨hf, hw⟩, fun rc => ?_⟩
    show n_X12_forms_0_b26_l F (fun S x1 x2 x3 x4 => rc (S, x1, x2, x3, x4)) S' (nI x) (nI y) v (nI 4) = n_X12_forms_0_b26_l F (fun _ _ _ _ _ => none) S' (nI x) (nI y) v (nI 4)
    unfold n_X12_forms_0_b26_l
    rw [if_pos (show (4 : Int32) ≤ nI 4 from nI_le (a := 4) (by omega) (by omega)), if_pos (show (4 : Int32) ≤ nI 4 from nI_le (a := 4) (by omega) (by omega))]) F (M, nI x, nI y, 0, 0) ⟨M, 0, rfl, fr_rf _ _ _, isW_0 _⟩ (by omega)
/-- forms(x, y) -/
theorem p_forms {KP : Zs → Nat → (Nat → Nat) → Prop} (hKP : PS_ok KP) (hQ : QOK (Qs KP)) {F : Nat} (hF : 2 ^ 40 < F) : S_forms F (Rel (Kq (Qs KP))) := by
  intro X M hR a b
  have ux : n_X11_forms_0 F X a b = n_X11_forms_0_e F X a b := rfl
  have um : n_X12_forms_0 F M a b = n_X12_forms_0_e F M a b := rfl
  unfold n_X11_forms_0_e n_X11_forms_0_b14 at ux
  unfold n_X12_forms_0_e n_X12_forms_0_b19 zpf at um
  dsimp only at um
  by_cases h1 : a < 0 ∨ 23 < a
  · rw [x_term0 h1, zcS, if_pos rfl] at ux
    rw [m_term0 h1, zcS, if_pos rfl] at um
    exact ⟨-1, X, zp M 0 0 0, ux, um, hR.thrown 0⟩
  rw [x_term1 h1, zcS, if_neg (by decide)] at ux
  rw [m_term1 h1, zcS, if_neg (by decide)] at um
  by_cases h2 : b < 0 ∨ 23 < b
  · rw [x_term0 h2, zcS, if_pos rfl] at ux
    rw [m_term0 h2, zcS, if_pos rfl] at um
    exact ⟨-1, X, zp M 0 0 0, ux, um, hR.thrown 0⟩
  rw [x_term1 h2, zcS, if_neg (by decide)] at ux
  rw [m_term1 h2, zcS, if_neg (by decide)] at um
  obtain ⟨x, hx, rfl⟩ := term_of h1
  obtain ⟨y, hy, rfl⟩ := term_of h2
  obtain ⟨n, cd, hX, hB, q, hM, el, -, -, ew, -⟩ := Rel_ctx hR
  obtain ⟨⟨v, X1⟩, ⟨f1, kb1, w1⟩, e1⟩ := x_forms hF hX hB hx hy
  obtain ⟨⟨w, M1⟩, ⟨f2, w2⟩, e2⟩ := m_forms hF (MC_fr hM (f0 M) (by decide) (by decide)) hx hy
  have f2' : fr mR mK M M1 := fr_t (f0 M) f2
  have w2 : isW w 4 (fun f => ¬ Con (sel cd (actv n (M.1 0 7)) n ++ [ct (576 * f + 24 * x + y)]) (M.1 0 8)) := w2
  rw [ew, el] at w1
  have evw : v = w := isW_eq w1 w2 (fun _ _ => Iff.rfl)
  subst evw
  have hX1 := XC_fr hX f1 (by decide) (by decide)
  obtain ⟨hS1, hP1⟩ := hQ X X1 n n cd cd (fr_q f1 (by decide) (by decide)) (Nat.le_refl _) (fun _ _ => rfl) q
  have bA := bnd_actv hX.2.1 (X1.1 0 64)
  obtain ⟨X2, e3, f3, k3, k4, hs⟩ := x_settle hF hX1 hS1 bA (Or.inl rfl)
  have eA : X1.1 0 64 = M.1 0 7 := (f1.1 64 (by decide)).trans ew
  rw [eA] at e3 k3 hs bA
  -- the reference's counts
  have hMa : MC (zp M1 0 1 0) n cd := MC_fr (MC_fr hM f2' (by decide) (by decide)) (fr_p (R := []) (K := [1]) 0 (by decide)) (by decide) (by decide)
  obtain ⟨M2, g2, h2'⟩ := m_counts hF hMa hx hy
  have e7a : (zp M1 0 1 0).1 0 7 = M.1 0 7 := by rw [zp_off _ _ (Or.inr (by decide)), f2'.1 7 (by decide)]
  rw [e7a] at g2
  have hM2 := MC_fr hMa h2' (by decide) (by decide)
  have r2 : M2.1 0 1 = nI 0 := by rw [h2'.1 1 (by decide), zp_at]; rfl
  generalize hc1 : cnt (fun s => ofB s x = true ∧ ofB s y = true ∧ OkS (· ∈ sel cd (actv n (M.1 0 7)) n) s) 4096 = c1 at *
  have fb : fr [1] [1] M2 (zp (zp M2 1 0 (nI c1)) 0 1 (nI (0 + 1))) := fr_t (fr_r _ _ (by decide) (by decide)) (fr_p _ (by decide))
  obtain ⟨M4, g4, h4⟩ := m_counts hF (MC_fr hM2 fb (by decide) (by decide)) hx (x1_lt hy)
  have e7b : (zp (zp M2 1 0 (nI c1)) 0 1 (nI (0 + 1))).1 0 7 = M.1 0 7 := by rw [fb.1 7 (by decide), h2'.1 7 (by decide), e7a]
  rw [e7b] at g4
  generalize hc2 : cnt (fun s => ofB s x = true ∧ ofB s (y ^^^ 1) = true ∧ OkS (· ∈ sel cd (actv n (M.1 0 7)) n) s) 4096 = c2 at *
  have r4 : M4.1 0 1 = nI 1 := by rw [h4.1 1 (by decide), zp_at]
  have p4 : M4.1 1 0 = nI c1 := by rw [h4.2.1 1 (by decide) (by decide), zp_off _ _ (Or.inl (by decide)), zp_at]
  refine ⟨v, xTwo X2 (nI c1) (nI c2), zp (zp M4 1 1 (nI c2)) 0 1 (nI (1 + 1)), ?_, ?_, ?_⟩
  · rw [ux, e1]
    unfold n_X11_forms_0_b21_l
    rw [if_pos (show (4 : Int32) ≤ nI 4 from nI_le (a := 4) (by omega) (by omega)), x_active hX1.1, zcS, eA, e3, zcS, x_both hF hs hx hy, zcS, nI_x1 (by omega), x_both hF hs hx (x1_lt hy), zcS, hc1, hc2, x_tellTwo, zcS]
  · rw [um, e2]
    unfold n_X12_forms_0_b26_l zpf
    dsimp only
    rw [if_pos (show (4 : Int32) ≤ nI 4 from nI_le (a := 4) (by omega) (by omega)), g2, zcS, m_enters F r2 (by omega), zcS, nI_x1 (by omega), g4, zcS, m_enters F r4 (by omega), zcS]
  · have fx2 := fx_two X2 (nI c1) (nI c2)
    have fS : ∀ k, k ≠ 10 → k ∉ [482, 483, 484] → k ∉ cK → (xTwo X2 (nI c1) (nI c2)).1 0 k = X.1 0 k := fun k h1 h2 h3 => by
      rw [fx2.1 k (by simpa using h1), f3.1 k h2, f1.1 k h3]
    have rS : ∀ r, r ≠ 0 → r ≠ 47 → r ∉ cR → (xTwo X2 (nI c1) (nI c2)).1 r = X.1 r := fun r h0 h1 h2 => by
      rw [fx2.2.1 r h0 (by simpa using h1), f3.2 r h0, f1.2.1 r h0 h2]
    have mS : ∀ k, k ≠ 1 → k ∉ mK → k ∉ [18, 20] → (zp (zp M4 1 1 (nI c2)) 0 1 (nI (1 + 1))).1 0 k = M.1 0 k := fun k h1 h2 h3 => by
      rw [zp_off _ _ (Or.inr h1), zp_off _ _ (Or.inl (by decide)), h4.1 k h3, zp_off _ _ (Or.inr h1), zp_off _ _ (Or.inl (by decide)), h2'.1 k h3, zp_off _ _ (Or.inr h1), f2'.1 k h2]
    have mT : ∀ r, r ≠ 0 → r ≠ 1 → r ∉ mR → r ∉ [6, 7] → (zp (zp M4 1 1 (nI c2)) 0 1 (nI (1 + 1))).1 r = M.1 r := fun r h0 h1 h2 h3 => by
      rw [zp_row _ _ _ h0, zp_row _ _ _ h1, h4.2.1 r h0 h3, zp_row _ _ _ h0, zp_row _ _ _ h1, h2'.2.1 r h0 h3, zp_row _ _ _ h0, f2'.2.1 r h0 h2]
    refine Rel_any hR (fun k hk => fS k ((show ∀ k ∈ xF', k ≠ 10 by decide) k hk) ((show ∀ k ∈ xF', k ∉ [482, 483, 484] by decide) k hk) ((show ∀ k ∈ xF', k ∉ cK by decide) k hk)) (fun r hr => rS r ((show ∀ k ∈ xR', k ≠ 0 by decide) r hr) ((show ∀ k ∈ xR', k ≠ 47 by decide) r hr) ((show ∀ k ∈ xR', k ∉ cR by decide) r hr)) (fun k hk => mS k ((show ∀ k ∈ mF', k ≠ 1 by decide) k hk) ((show ∀ k ∈ mF', k ∉ mK by decide) k hk) ((show ∀ k ∈ mF', k ∉ [18, 20] by decide) k hk)) (fun r hr => mT r ((show ∀ k ∈ mR', k ≠ 0 by decide) r hr) ((show ∀ k ∈ mR', k ≠ 1 by decide) r hr) ((show ∀ k ∈ mR', k ∉ mR by decide) r hr) ((show ∀ k ∈ mR', k ∉ [6, 7] by decide) r hr)) ⟨2, by omega, rfl, zp_at _ _ _ _, fun i hi => ?_⟩ ?_
    · rcases (show i = 0 ∨ i = 1 by omega) with rfl | rfl
      · show (zp (zp (zp X2 47 0 (nI c1)) 47 1 (nI c2)) 0 10 2).1 47 0 = _
        rw [zp_off _ _ (Or.inl (by decide)), zp_off _ _ (Or.inr (by decide)), zp_at, zp_off _ _ (Or.inl (by decide)), zp_off _ _ (Or.inr (by decide)), p4]
      · show (zp (zp (zp X2 47 0 (nI c1)) 47 1 (nI c2)) 0 10 2).1 47 1 = _
        rw [zp_off _ _ (Or.inl (by decide)), zp_at, zp_off _ _ (Or.inl (by decide)), zp_at]
    · refine Kq_ok hQ X2 _ (fr_k fx2 (by decide) (by decide)) ⟨n, cd, XC_S f3 hX1, KB_S f3 kb1, KS_of bA k3 k4 hs, hKP X1 X2 n cd f3 hP1⟩
