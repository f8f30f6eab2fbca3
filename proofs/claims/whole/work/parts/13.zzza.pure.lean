/-! proofs: the class traces; rests -/
theorem x_firstS {F : Nat} (hF : 2 ^ 40 < F) {S : Zs} {n : Nat} {cd : Nat → Nat} (hX : XC S n cd) {c : Nat} (hc : c < 2304) (hT : Tld n (S.1 0 64) cd c) : ∃ i, Fs n (S.1 0 64) cd c i ∧ n_X5_firstSaying_35 F S (nI c) = some (nI i, S) := by
  obtain ⟨h1, h2, h3⟩ := hX
  obtain ⟨i0, j1, j2, j3⟩ := hT
  obtain ⟨q, hq, e⟩ := zfix_for (f := fun (rc : (Zs × Int32 × Int32) → Option (Int32 × Zs)) (u : (Zs × Int32 × Int32)) => n_X5_firstSaying_35_b2_l F  (fun S x1 x2 => rc (S, x1, x2)) u.1 u.2.1 u.2.2) (n - 1) (fun i u => u = (S, nI c, nI i) ∧ ∀ j, j < i → ¬ (¬ hb (S.1 0 64) j = true ∧ cd j = c)) (fun i : Nat => Fs n (S.1 0 64) cd c i) (fun i => some (nI i, S)) (by
    rintro i _ hi ⟨rfl, f1⟩
    obtain ⟨c1, c2⟩ := h3 i (by omega)
    have pre : ∀ rc : (Zs × Int32 × Int32) → Option (Int32 × Zs), n_X5_firstSaying_35_b2_l F (fun S x1 x2 => rc (S, x1, x2)) S (nI c) (nI i) = if hb (S.1 0 64) i = true then rc (S, nI c, nI (i + 1)) else (if cd i = c then some (nI i, S) else rc (S, nI c, nI (i + 1))) := by
      intro rc
      unfold n_X5_firstSaying_35_b2_l n_X5_firstSaying_35_b45 n_X5_firstSaying_35_b39
      rw [zgS, h1, show nI n - 1 = nI (n - 1) from pk_sub (b := 1) (by omega), if_neg (fun w => by rw [nI_le_iff (by omega) (by omega)] at w; omega), x_isActive h1 h2 (by omega), zcS]
      by_cases w2 : hb (S.1 0 64) i = true
      · rw [bI_f (fun z => z w2), if_pos rfl, if_pos w2, zlS, nI_1]
      · rw [bI_t w2, if_neg (by decide), if_neg w2, zld_nI _ _ _ (by omega) (by omega), c1]
        by_cases w : cd i = c
        · rw [if_pos w, if_pos (by rw [w])]
        · rw [if_neg w, if_neg (fun z => w ((nI_eq (by omega) (by omega)).mp z)), zlS, nI_1]
    by_cases w : ¬ hb (S.1 0 64) i = true ∧ cd i = c
    · exact Or.inl ⟨i, ⟨by omega, w.1, w.2, f1⟩, fun rc => (pre rc).trans (by rw [if_neg w.1, if_pos w.2])⟩
    · refine Or.inr ⟨_, ⟨rfl, fun j hj => ?_⟩, fun rc => (pre rc).trans ?_⟩
      · by_cases ej : j = i
        · rw [ej]; exact w
        · exact f1 j (by omega)
      · by_cases w2 : hb (S.1 0 64) i = true
        · rw [if_pos w2]
        · rw [if_neg w2, if_neg (fun z => w ⟨w2, z⟩)]) (by
    rintro _ ⟨rfl, f1⟩
    have e0 : i0 = n - 1 := by
      refine Classical.byContradiction fun z => ?_
      exact f1 i0 (by omega) ⟨j2, j3⟩
    refine ⟨n - 1, ⟨by omega, by rw [← e0]; exact j2, by rw [← e0]; exact j3, f1⟩, fun rc => ?_⟩
    show n_X5_firstSaying_35_b2_l F (fun S x1 x2 => rc (S, x1, x2)) S (nI c) (nI (n - 1)) = _
    unfold n_X5_firstSaying_35_b2_l n_X5_firstSaying_35_b45
    rw [zgS, h1, show nI n - 1 = nI (n - 1) from pk_sub (b := 1) (by omega), if_pos (by rw [nI_le_iff (by omega) (by omega)]; omega)]) F (S, nI c, 0) ⟨rfl, fun j hj => by omega⟩ (by omega)
  exact ⟨q, hq, e⟩
/-- a longer way to a code -/
def mxo (o : Option Nat) (d : Nat) : Nat := match o with
  | none => d
  | some m => max m d
def ubl (bl : Nat → Option Nat) (a d : Nat) : Nat → Option Nat := fun x => if x = a then some (mxo (bl a) d) else bl x
theorem ub_ge (bl : Nat → Option Nat) (a d x m : Nat) (h : bl x = some m) : ∃ k, m ≤ k ∧ ubl bl a d x = some k := by
  unfold ubl
  by_cases e : x = a
  · rw [if_pos e, ← e, h]; exact ⟨_, by show m ≤ max m d; omega, rfl⟩
  · rw [if_neg e]; exact ⟨m, Nat.le_refl _, h⟩
theorem ub_at (bl : Nat → Option Nat) (a d : Nat) : ∃ k, d ≤ k ∧ ubl bl a d a = some k := by
  unfold ubl
  rw [if_pos rfl]
  cases bl a with
  | none => exact ⟨d, Nat.le_refl _, rfl⟩
  | some m => exact ⟨_, by show d ≤ max m d; omega, rfl⟩
theorem ub_in {bl : Nat → Option Nat} {a d x k : Nat} (h : ubl bl a d x = some k) : (x = a ∧ k = d) ∨ bl x = some k := by
  unfold ubl at h
  by_cases e : x = a
  · rw [if_pos e] at h
    cases g : bl a with
    | none => rw [g] at h; exact Or.inl ⟨e, (Option.some.inj h).symm⟩
    | some m =>
      rw [g] at h
      have h := Option.some.inj h
      rcases (show max m d = m ∨ max m d = d by omega) with w | w
      · exact Or.inr (by rw [e, g, ← h]; show some m = some (max m d); rw [w])
      · exact Or.inl ⟨e, by rw [← h]; exact w⟩
  · rw [if_neg e] at h; exact Or.inr h
theorem oN_max {o : Option Nat} {d : Nat} (hd : d < 2 ^ 30) (h : ∀ m, o = some m → m < 2 ^ 30) : (if oN o < nI d then nI d else oN o) = oN (some (mxo o d)) := by
  cases o with
  | none => rw [if_pos (show oN none < nI d from (show ∀ d : Nat, d < 2 ^ 30 → (-1 : Int32) < nI d from fun d hd => by
      have h0 : (0 : Int32) ≤ nI d := nI_le (a := 0) (by omega) (by omega)
      exact Int32.lt_of_lt_of_le (by decide) h0) d hd)]; rfl
  | some m =>
    have hm := h m rfl
    show (if nI m < nI d then nI d else nI m) = nI (max m d)
    by_cases y : m < d
    · rw [if_pos (by rw [nI_lt_iff (by omega) (by omega)]; exact y), show max m d = d by omega]
    · rw [if_neg (fun y' => by rw [nI_lt_iff (by omega) (by omega)] at y'; exact y y'), show max m d = m by omega]
def Bw (S : Zs) (bl : Nat → Option Nat) : Prop := ∀ x, x < 2304 → S.1 40 x = oN (bl x) ∧ ∀ m, bl x = some m → m < 1000000
theorem Bw_u {S : Zs} {bl : Nat → Option Nat} (h : Bw S bl) {a d : Nat} (hd : d < 1000000) : Bw (zp S 40 a (oN (ubl bl a d a))) (ubl bl a d) := by
  intro x hx
  refine ⟨?_, fun m hm => ?_⟩
  · by_cases e : x = a
    · rw [e, zp_at]
    · rw [zp_off _ _ (Or.inr e)]
      unfold ubl
      rw [if_neg e]
      exact (h x hx).1
  · rcases ub_in hm with ⟨-, z⟩ | z
    · omega
    · exact (h x hx).2 m z
theorem x_put {S : Zs} {bl : Nat → Option Nat} (h : Bw S bl) {a d : Nat} (ha : a < 2304) (hd : d + 1 < 1000000) (k : Zs → Option (Int32 × Zs)) : zld S 40 2304 (nI a) (fun v4 => zlet (if v4 < (nI d + (1 : Int32)) then (nI d + (1 : Int32)) else v4) (fun v5 => zst S 40 2304 (nI a) v5 k)) = k (zp S 40 a (oN (ubl bl a (d + 1) a))) := by
  obtain ⟨b1, b2⟩ := h a ha
  rw [zld_nI _ _ _ ha (by omega), b1, zlS, nI_1, oN_max (by omega) (fun m hm => by have := b2 m hm; omega), zst_nI _ _ _ _ ha (by omega)]
  unfold ubl
  rw [if_pos rfl]
theorem x_trace {F : Nat} (hF : 2 ^ 40 < F) {X : Zs} {n : Nat} {cd : Nat → Nat} (hX : XC X n cd) {al lv : Int32} {st : Nat → Nat} {l : List Nat} (h : Pk al lv (Tld n (X.1 0 64) cd) X st l) (ea : X.1 0 711 = al) (el : X.1 0 710 = lv) {c : Nat} (hc : c < 2304) (hB : st c < 268435456) : ∃ X2 D, n_X5_trace_35 F X (nI c) = some (0, X2) ∧ fr [40] [712, 713, 714, 715, 716, 717] X X2 ∧ (∀ i, hb (X2.1 0 715) i = true ↔ ∃ x m, Pt al lv (Tld n (X.1 0 64) cd) m c x ∧ Fs n (X.1 0 64) cd x i) ∧ (∀ k, hb (X2.1 0 716) k = true ↔ ∃ x m a og, Pt al lv (Tld n (X.1 0 64) cd) m c x ∧ Pick al lv (Tld n (X.1 0 64) cd) x k a og) ∧ X2.1 0 717 = nI D ∧ (∀ x m, Pt al lv (Tld n (X.1 0 64) cd) m c x → Tld n (X.1 0 64) cd x → m ≤ D) ∧ (D = 0 ∨ ∃ x, Pt al lv (Tld n (X.1 0 64) cd) D c x ∧ Tld n (X.1 0 64) cd x) := by
  generalize hTd : Tld n (X.1 0 64) cd = T at *
  have hlen := Dk_len h.1
  obtain ⟨k1, k2, k3, k4, k5, k6⟩ := id h
  have hl := (k5 c hc hB).2
  have hcb := (k5 c hc hB).1
  -- codes on the way
  have onw : ∀ m x, Pt al lv T m c x → x < 2304 ∧ st x < 268435456 ∧ st x + m ≤ st c ∧ x ∈ l := fun m x hp => by
    obtain ⟨x1, m', x2, x3⟩ := Pt_ls m c x _ hp hc hl
    have x4 := k6 x m' x3.1
    have := Ls_eq (k5 x x1 x4).2 x3
    exact ⟨x1, x4, by omega, (k1.2.2.2.2 x).mpr ⟨x1, x4⟩⟩
  have lf : ∀ x, x < 2304 → (T x ↔ st x = 0) := fun x hx => by
    constructor
    · intro hx2
      have x3 := Ls_0 (al := al) (lv := lv).mpr hx2
      exact Ls_eq (k5 x hx (k6 x 0 x3.1)).2 x3
    · intro e
      have := (k5 x hx (by omega)).2
      rw [e] at this
      exact Ls_0.mp this
  -- first loop
  obtain ⟨A, ⟨fA, bA⟩, eA⟩ := zfix_for (f := fun (rc : (Zs × Int32 × Int32) → Option (Int32 × Zs)) (u : (Zs × Int32 × Int32)) => n_X5_trace_35_b2_l F  (fun S x1 x2 => rc (S, x1, x2)) u.1 u.2.1 u.2.2) 2304 (fun i u => ∃ Y, u = (Y, nI c, nI i) ∧ fr [40] [] X Y ∧ ∀ x, x < i → Y.1 40 x = -1) (fun Y : Zs => fr [40] [] X Y ∧ ∀ x, x < 2304 → Y.1 40 x = -1) (fun Y => n_X5_trace_35_b51 F (zp (zp (zp (zp Y 40 c 0) 0 715 0) 0 716 0) 0 717 0) (nI l.length - 1)) (by
    rintro i _ hi ⟨Y, rfl, f1, f2⟩
    refine Or.inr ⟨(zp Y 40 i (-1), nI c, nI (i + 1)), ⟨_, rfl, fr_t f1 (fr_r _ _ (by decide) (by decide)), fun b hb' => ?_⟩, fun rc => ?_⟩
    · by_cases e : b = i
      · rw [e, zp_at]
      · rw [zp_off _ _ (Or.inr e)]; exact f2 b (by omega)
    · show n_X5_trace_35_b2_l F (fun S x1 x2 => rc (S, x1, x2)) Y (nI c) (nI i) = _
      unfold n_X5_trace_35_b2_l
      rw [if_neg (show ¬ (2304 : Int32) ≤ nI i from nI_ge (b := 2304) hi (by omega)), zst_nI _ _ _ _ hi (by omega), zlS, nI_1]) (by
    rintro _ ⟨Y, rfl, f1, f2⟩
    refine ⟨Y, ⟨f1, f2⟩, fun rc => ?_⟩
    show n_X5_trace_35_b2_l F (fun S x1 x2 => rc (S, x1, x2)) Y (nI c) (nI 2304) = _
    unfold n_X5_trace_35_b2_l
    rw [if_pos (show (2304 : Int32) ≤ nI 2304 by decide), zst_nI _ _ _ _ hc (by omega), zpS, zpS, zpS, zgS, zp_off _ _ (Or.inr (by decide)), zp_off _ _ (Or.inr (by decide)), zp_off _ _ (Or.inr (by decide)), zp_off _ _ (Or.inl (by decide)), f1.1 707 (by simp), k2, zlS]) F (X, nI c, 0) ⟨X, rfl, fr_rf _ _ _, fun b hb' => by omega⟩ (by omega)
  let X0 := zp (zp (zp (zp A 40 c 0) 0 715 0) 0 716 0) 0 717 0
  have f0' : fr [40] [712, 713, 714, 715, 716, 717] X X0 := fr_t (fr_w fA (by decide) (by simp)) (fr_t (fr_r _ _ (by decide) (by decide)) (fr_t (fr_p _ (by decide)) (fr_t (fr_p _ (by decide)) (fr_p _ (by decide)))))
  have b0w : Bw X0 (fun x => if x = c then some 0 else none) := by
    intro x hx
    show (zp (zp (zp (zp A 40 c 0) 0 715 0) 0 716 0) 0 717 0).1 40 x = oN (if x = c then some 0 else none) ∧ ∀ m, (if x = c then some 0 else none) = some m → m < 1000000
    rw [zp_row _ _ _ (show 40 ≠ 0 by decide), zp_row _ _ _ (show 40 ≠ 0 by decide), zp_row _ _ _ (show 40 ≠ 0 by decide)]
    by_cases e : x = c
    · rw [e, zp_at, if_pos rfl]
      exact ⟨rfl, fun m hm => by have := Option.some.inj hm; omega⟩
    · rw [zp_off _ _ (Or.inr e), if_neg e, bA x hx]
      exact ⟨rfl, fun m hm => absurd hm (by simp)⟩
  have b0p : ∀ x m, (fun x => if x = c then some 0 else none) x = some m → Pt al lv T m c x := by
    intro x m hm
    have hm : (if x = c then some 0 else none) = some m := hm
    by_cases e : x = c
    · rw [if_pos e] at hm
      rw [← Option.some.inj hm]; exact e
    · rw [if_neg e] at hm; exact absurd hm (by simp)
  have b0s : ∀ i, hb (X0.1 0 715) i = true ↔ ∃ j y m, l.length ≤ j ∧ l[j]? = some y ∧ Pt al lv T m c y ∧ Fs n (X.1 0 64) cd y i := by
    intro i
    show hb ((zp (zp (zp (zp A 40 c 0) 0 715 0) 0 716 0) 0 717 0).1 0 715) i = true ↔ _
    rw [zp_off _ _ (Or.inr (by decide)), zp_off _ _ (Or.inr (by decide)), zp_at, hb_0]
    exact ⟨fun w => absurd w (by decide), fun ⟨j, y, m, hj, hy, _⟩ => by have := gt_lt hy; omega⟩
  have b0m : ∀ k, hb (X0.1 0 716) k = true ↔ ∃ j y m a og, l.length ≤ j ∧ l[j]? = some y ∧ Pt al lv T m c y ∧ Pick al lv T y k a og := by
    intro k
    show hb ((zp (zp (zp (zp A 40 c 0) 0 715 0) 0 716 0) 0 717 0).1 0 716) k = true ↔ _
    rw [zp_off _ _ (Or.inr (by decide)), zp_at, hb_0]
    exact ⟨fun w => absurd w (by decide), fun ⟨j, y, m, a, og, hj, hy, _⟩ => by have := gt_lt hy; omega⟩
  -- second loop
  obtain ⟨⟨X2, D⟩, ⟨g1, g2, g3, g4, g5, g6⟩, e2⟩ := zfix_for (f := fun (rc : (Zs × Int32) → Option (Int32 × Zs)) (u : (Zs × Int32)) => n_X5_trace_35_b51_l F  (fun S x2 => rc (S, x2)) u.1 u.2) l.length (fun j u => ∃ Y bl D t, t = l.length - j ∧ u = (Y, nI t - 1) ∧ fr [40] [712, 713, 714, 715, 716, 717] X Y ∧ Bw Y bl ∧ (∀ x m, bl x = some m → Pt al lv T m c x) ∧ (∃ m, bl c = some m) ∧ (∀ i y, t ≤ i → l[i]? = some y → ∀ m, Pt al lv T m c y → ∀ x, Eu al lv T y x → ∃ k, m + 1 ≤ k ∧ bl x = some k) ∧ (∀ i, hb (Y.1 0 715) i = true ↔ ∃ j y m, t ≤ j ∧ l[j]? = some y ∧ Pt al lv T m c y ∧ Fs n (X.1 0 64) cd y i) ∧ (∀ k, hb (Y.1 0 716) k = true ↔ ∃ j y m a og, t ≤ j ∧ l[j]? = some y ∧ Pt al lv T m c y ∧ Pick al lv T y k a og) ∧ Y.1 0 717 = nI D ∧ D < 1000000 ∧ (∀ j y m, t ≤ j → l[j]? = some y → Pt al lv T m c y → T y → m ≤ D) ∧ (D = 0 ∨ ∃ x, Pt al lv T D c x ∧ T x)) (fun q : Zs × Nat => fr [40] [712, 713, 714, 715, 716, 717] X q.1 ∧ (∀ i, hb (q.1.1 0 715) i = true ↔ ∃ j y m, l[j]? = some y ∧ Pt al lv T m c y ∧ Fs n (X.1 0 64) cd y i) ∧ (∀ k, hb (q.1.1 0 716) k = true ↔ ∃ j y m a og, l[j]? = some y ∧ Pt al lv T m c y ∧ Pick al lv T y k a og) ∧ q.1.1 0 717 = nI q.2 ∧ (∀ j y m, l[j]? = some y → Pt al lv T m c y → T y → m ≤ q.2) ∧ (q.2 = 0 ∨ ∃ x, Pt al lv T q.2 c x ∧ T x)) (fun q => some (0, q.1)) (by
    rintro j _ hj ⟨Y, bl, D, t, ht, rfl, f1, f2, f3, f4, f5, f6, f7, f8, f8b, f9, f10⟩
    obtain ⟨s, hs⟩ : ∃ s, t = s + 1 := ⟨t - 1, by omega⟩
    rw [hs, show nI (s + 1) - 1 = nI s from pk_sub (a := s + 1) (b := 1) (by omega)]
    rw [hs] at f5 f6 f7 f9
    obtain ⟨y, hy⟩ := gt_some (show s < l.length by omega)
    obtain ⟨yl, yc⟩ := (k1.2.2.2.2 y).mp (List.mem_iff_getElem?.mpr ⟨_, hy⟩)
    have e37 : Y.1 37 s = nI y := by rw [f1.2.1 37 (by decide) (by decide)]; exact k1.2.2.2.1 s y hy
    have e36 : Y.1 36 y = nI (st y) := by rw [f1.2.1 36 (by decide) (by decide)]; exact (k1.1 y yl).1
    obtain ⟨b1, b2⟩ := f2 y yl
    have nxt : ∀ Z : Zs, True := fun _ => trivial
    -- all ways to y are counted
    have way : ∀ m, Pt al lv T m c y → ∃ k, m ≤ k ∧ bl y = some k := fun m hp => by
      cases m with
      | zero =>
        obtain ⟨k, hk⟩ := f4
        rw [show y = c from hp]; exact ⟨k, Nat.zero_le _, hk⟩
      | succ m =>
        obtain ⟨z, z1, z2⟩ := Pt_u m c y hp
        obtain ⟨zl, zc, -, zm⟩ := onw m z z1
        obtain ⟨-, -, m', m1, m2⟩ := Eu_ls z2 (k5 z zl zc).2
        have sy : st y = m' := Ls_eq (k5 y yl yc).2 m2
        obtain ⟨i, hi⟩ := List.mem_iff_getElem?.mp zm
        have : s + 1 ≤ i := Nat.lt_of_not_le fun w => by have := k3 i s z y w hi hy; omega
        exact f5 i z this hi m z1 y z2
    have idx : ∀ (P : Nat → Nat → Prop), (∃ i z, s ≤ i ∧ l[i]? = some z ∧ P i z) ↔ (∃ i z, s + 1 ≤ i ∧ l[i]? = some z ∧ P i z) ∨ P s y := fun P => by
      constructor
      · rintro ⟨i, z, i1, i2, i3⟩
        by_cases ei : i = s
        · rw [ei] at i2 i3
          rw [hy] at i2
          rw [← Option.some.inj i2] at i3
          exact Or.inr i3
        · exact Or.inl ⟨i, z, by omega, i2, i3⟩
      · rintro (⟨i, z, i1, i2, i3⟩ | i3)
        · exact ⟨i, z, by omega, i2, i3⟩
        · exact ⟨s, y, Nat.le_refl _, hy, i3⟩
    have one : ∀ i z, s ≤ i → l[i]? = some z → s + 1 ≤ i ∨ z = y := fun i z i1 i2 => by
      by_cases ei : i = s
      · rw [ei, hy] at i2; exact Or.inr (Option.some.inj i2).symm
      · exact Or.inl (by omega)
    have hsj : s = l.length - (j + 1) := by omega
    cases hbl : bl y with
    | none =>
      have no : ∀ m, ¬ Pt al lv T m c y := fun m hp => by
        obtain ⟨k, -, k2⟩ := way m hp
        rw [hbl] at k2; exact absurd k2 (by simp)
      refine Or.inr ⟨(Y, nI s - 1), ⟨Y, bl, D, s, hsj, rfl, f1, f2, f3, f4, fun i z i1 i2 m hp => ?_, fun i => ?_, fun k => ?_, f8, f8b, fun i z m i1 i2 hp => ?_, f10⟩, fun rc => ?_⟩
      · rcases one i z i1 i2 with w | w
        · exact f5 i z w i2 m hp
        · rw [w] at hp; exact absurd hp (no m)
      · rw [f6]
        constructor
        · rintro ⟨i', z, m, i1, i2⟩; exact ⟨i', z, m, by omega, i2⟩
        · rintro ⟨i', z, m, i1, i2, i3, i4⟩
          rcases one i' z i1 i2 with w | w
          · exact ⟨i', z, m, w, i2, i3, i4⟩
          · rw [w] at i3; exact absurd i3 (no m)
      · rw [f7]
        constructor
        · rintro ⟨i', z, m, a, og, i1, i2⟩; exact ⟨i', z, m, a, og, by omega, i2⟩
        · rintro ⟨i', z, m, a, og, i1, i2, i3, i4⟩
          rcases one i' z i1 i2 with w | w
          · exact ⟨i', z, m, a, og, w, i2, i3, i4⟩
          · rw [w] at i3; exact absurd i3 (no m)
      · rcases one i z i1 i2 with w | w
        · exact f9 i z m w i2 hp
        · rw [w] at hp; exact absurd hp (no m)
      · show n_X5_trace_35_b51_l F (fun S x2 => rc (S, x2)) Y (nI s) = _
        unfold n_X5_trace_35_b51_l n_X5_trace_35_b80
        rw [if_neg (nI_pos (by omega)), zld_nI _ _ _ (by omega) (by omega), e37, zld_nI _ _ _ yl (by omega), b1, hbl, if_pos (show oN none = -1 from rfl), zlS, ← show nI s - 1 = nI s + (-1) from Int32.sub_eq_add_neg _ _]
    | some d =>
      have pd' := f3 y d hbl
      have dmax : ∀ m, Pt al lv T m c y → m ≤ d := fun m hp => by
        obtain ⟨k, k1', k2'⟩ := way m hp
        rw [hbl] at k2'
        have := Option.some.inj k2'
        omega
      have db : d + 1 < 1000000 ∨ st y = 0 := by
        have := (onw d y pd').2.2.1
        by_cases w : st y = 0
        · exact Or.inr w
        · exact Or.inl (by omega)
      have db0 : d < 1000000 := by have := (onw d y pd').2.2.1; omega
      have goal : ∀ Y', fr [40] [712, 713, 714, 715, 716, 717] Y Y' → ∀ (bl' : Nat → Option Nat) D', Bw Y' bl' → (∀ x m, bl' x = some m → Pt al lv T m c x) → (∀ x m, bl x = some m → ∃ k, m ≤ k ∧ bl' x = some k) → (∀ x, Eu al lv T y x → ∃ k, d + 1 ≤ k ∧ bl' x = some k) → (∀ i, hb (Y'.1 0 715) i = true ↔ hb (Y.1 0 715) i = true ∨ Fs n (X.1 0 64) cd y i) → (∀ k, hb (Y'.1 0 716) k = true ↔ hb (Y.1 0 716) k = true ∨ ∃ a og, Pick al lv T y k a og) → Y'.1 0 717 = nI D' → D' < 1000000 → D ≤ D' → (T y → d ≤ D') → (D' = 0 ∨ ∃ x, Pt al lv T D' c x ∧ T x) → n_X5_traceOne_35 F Y (nI y) = some (0, Y') → (∃ b, (∃ Y bl D t, t = l.length - (j + 1) ∧ b = (Y, nI t - 1) ∧ fr [40] [712, 713, 714, 715, 716, 717] X Y ∧ Bw Y bl ∧ (∀ x m, bl x = some m → Pt al lv T m c x) ∧ (∃ m, bl c = some m) ∧ (∀ i y, t ≤ i → l[i]? = some y → ∀ m, Pt al lv T m c y → ∀ x, Eu al lv T y x → ∃ k, m + 1 ≤ k ∧ bl x = some k) ∧ (∀ i, hb (Y.1 0 715) i = true ↔ ∃ j y m, t ≤ j ∧ l[j]? = some y ∧ Pt al lv T m c y ∧ Fs n (X.1 0 64) cd y i) ∧ (∀ k, hb (Y.1 0 716) k = true ↔ ∃ j y m a og, t ≤ j ∧ l[j]? = some y ∧ Pt al lv T m c y ∧ Pick al lv T y k a og) ∧ Y.1 0 717 = nI D ∧ D < 1000000 ∧ (∀ j y m, t ≤ j → l[j]? = some y → Pt al lv T m c y → T y → m ≤ D) ∧ (D = 0 ∨ ∃ x, Pt al lv T D c x ∧ T x)) ∧ ∀ rc : (Zs × Int32) → Option (Int32 × Zs), n_X5_trace_35_b51_l F (fun S x2 => rc (S, x2)) Y (nI s) = rc b) := by
        intro Y' w1 bl' D' w2 w3 w4 w5 w6 w7 w8 w8b w9 w10 w11 w12
        refine ⟨(Y', nI s - 1), ⟨Y', bl', D', s, hsj, rfl, fr_t f1 w1, w2, w3, ?_, fun i z i1 i2 m hp x hx => ?_, fun i => ?_, fun k => ?_, w8, w8b, fun i z m i1 i2 hp hx => ?_, w11⟩, fun rc => ?_⟩
        · obtain ⟨m, hm⟩ := f4
          obtain ⟨k, -, hk⟩ := w4 c m hm
          exact ⟨k, hk⟩
        · rcases one i z i1 i2 with w | w
          · obtain ⟨k, q1, q2⟩ := f5 i z w i2 m hp x hx
            obtain ⟨k', q3, q4⟩ := w4 x k q2
            exact ⟨k', by omega, q4⟩
          · rw [w] at hp hx
            obtain ⟨k, q1, q2⟩ := w5 x hx
            have := dmax m hp
            exact ⟨k, by omega, q2⟩
        · rw [w6, f6]
          constructor
          · rintro (⟨i', z, m, i1, i2⟩ | hf)
            · exact ⟨i', z, m, by omega, i2⟩
            · exact ⟨s, y, d, Nat.le_refl _, hy, pd', hf⟩
          · rintro ⟨i', z, m, i1, i2, i3, i4⟩
            rcases one i' z i1 i2 with w | w
            · exact Or.inl ⟨i', z, m, w, i2, i3, i4⟩
            · rw [w] at i4; exact Or.inr i4
        · rw [w7, f7]
          constructor
          · rintro (⟨i', z, m, a, og, i1, i2⟩ | ⟨a, og, hf⟩)
            · exact ⟨i', z, m, a, og, by omega, i2⟩
            · exact ⟨s, y, d, a, og, Nat.le_refl _, hy, pd', hf⟩
          · rintro ⟨i', z, m, a, og, i1, i2, i3, i4⟩
            rcases one i' z i1 i2 with w | w
            · exact Or.inl ⟨i', z, m, a, og, w, i2, i3, i4⟩
            · rw [w] at i4; exact Or.inr ⟨a, og, i4⟩
        · rcases one i z i1 i2 with w | w
          · have := f9 i z m w i2 hp hx; omega
          · rw [w] at hp hx
            have := dmax m hp
            have := w10 hx
            omega
        · unfold n_X5_trace_35_b51_l n_X5_trace_35_b80
          rw [if_neg (nI_pos (by omega)), zld_nI _ _ _ (by omega) (by omega), e37, zld_nI _ _ _ yl (by omega), b1, hbl, if_neg (show ¬ oN (some d) = -1 from nI_ne_m1 (by omega)), zld_nI _ _ _ (by omega) (by omega), e37, w12, zcS, zlS, ← show nI s - 1 = nI s + (-1) from Int32.sub_eq_add_neg _ _]
      by_cases z0 : st y = 0
      · have hTy := (lf y yl).mpr z0
        obtain ⟨i, i1, i2⟩ := x_firstS hF (XC_fr hX f1 (by decide) (by decide)) yl (by rw [f1.1 64 (by decide), hTd]; exact hTy)
        rw [f1.1 64 (by decide)] at i1
        have hi := i1.1
        have hn := hX.2.1
        refine Or.inr (goal (zp (zp Y 0 715 (Y.1 0 715 ||| ((1 : Int32) <<< (nI i &&& 31)))) 0 717 (nI (max D d))) (fr_t (fr_p _ (by decide)) (fr_p _ (by decide))) bl (max D d) (fun x hx => ?_) f3 (fun x m hm => ⟨m, Nat.le_refl _, hm⟩) (fun x hx => absurd hx (leafE hTy)) (fun k => ?_) (fun k => ?_) (zp_at _ _ _ _) (by omega) (by omega) (fun _ => by omega) ?_ ?_)
        · rw [zp_row _ _ _ (show 40 ≠ 0 by decide), zp_row _ _ _ (show 40 ≠ 0 by decide)]; exact f2 x hx
        · rw [zp_off _ _ (Or.inr (by decide)), zp_at, hb_or, hb_one (by omega), Bool.or_eq_true, decide_eq_true_iff]
          exact or_congr Iff.rfl ⟨fun e => by rw [e]; exact i1, fun e => Fs_u e i1⟩
        · rw [zp_off _ _ (Or.inr (by decide)), zp_off _ _ (Or.inr (by decide))]
          exact ⟨Or.inl, fun w => w.elim id fun ⟨a, og, w⟩ => absurd ⟨k, a, og, w, Or.inl rfl⟩ (leafE (x := a) hTy)⟩
        · rcases (show max D d = D ∨ max D d = d by omega) with w | w
          · rw [w]; exact f10
          · rw [w]; exact Or.inr ⟨y, pd', hTy⟩
        · unfold n_X5_traceOne_35 n_X5_traceOne_35_e
          rw [zld_nI _ _ _ yl (by omega), b1, hbl, zld_nI _ _ _ yl (by omega), e36, z0, if_pos (show nI 0 = (0 : Int32) from rfl), zgS, i2, zcS, zpS, zgS, zp_off _ _ (Or.inr (by decide)), f8, zlS, zpS]
          have em : (if nI D < oN (some d) then oN (some d) else nI D) = nI (max D d) := by
            show (if nI D < nI d then nI d else nI D) = _
            by_cases w : D < d
            · rw [if_pos (by rw [nI_lt_iff (by omega) (by omega)]; exact w), show max D d = d by omega]
            · rw [if_neg (fun w' => by rw [nI_lt_iff (by omega) (by omega)] at w'; exact w w'), show max D d = D by omega]
          rw [em]
      · have db := db.resolve_right z0
        have pkY : Pk al lv T Y st l := Pk_e h (f1.2.1 36 (by decide) (by decide)) (f1.2.1 37 (by decide) (by decide)) (f1.1 706 (by decide)) (f1.1 707 (by decide)) (f1.1 708 (by decide))
        obtain ⟨Y3, e3, f3', g3⟩ := x_last hF pkY ((f1.1 711 (by decide)).trans ea) ((f1.1 710 (by decide)).trans el) yl yc
        obtain ⟨k, a, og, -, y1, y2, y3, y4⟩ := g3.resolve_left (fun w => z0 w.1)
        have hk := Ru_k y4.1.1
        have nT : ¬ T y := fun w => z0 ((lf y yl).mp w)
        let Y4 := zp Y3 0 716 (Y3.1 0 716 ||| ((1 : Int32) <<< (nI k &&& 31)))
        have f4' : fr [40] [712, 713, 714, 715, 716, 717] Y Y4 := fr_t (fr_w f3' (by simp) (by decide)) (fr_p _ (by decide))
        have al' := y4.1.2.1
        have bw4 : Bw Y4 bl := fun x hx => by
          have : Y4.1 40 = Y.1 40 := by
            show (zp Y3 0 716 _).1 40 = _
            rw [zp_row _ _ _ (by decide), f3'.2.1 40 (by decide) (by simp)]
          rw [this]; exact f2 x hx
        let bl1 := ubl bl a (d + 1)
        let Y5 := zp Y4 40 a (oN (bl1 a))
        have bw5 : Bw Y5 bl1 := Bw_u bw4 db
        have chA : Eu al lv T y a := ⟨k, a, og, y4, Or.inl rfl⟩
        have m716 : ∀ j, hb (Y4.1 0 716) j = true ↔ hb (Y.1 0 716) j = true ∨ ∃ a og, Pick al lv T y j a og := fun j => by
          show hb ((zp Y3 0 716 (Y3.1 0 716 ||| ((1 : Int32) <<< (nI k &&& 31)))).1 0 716) j = true ↔ _
          rw [zp_at, hb_or, hb_one (by omega), Bool.or_eq_true, decide_eq_true_iff, f3'.1 716 (by decide)]
          refine or_congr Iff.rfl ⟨fun e => by rw [e]; exact ⟨a, og, y4⟩, fun ⟨a', og', w⟩ => (Pick_u yl w y4).1⟩
        have m715 : ∀ (Z : Zs), Z.1 0 715 = Y.1 0 715 → ∀ i, hb (Z.1 0 715) i = true ↔ hb (Y.1 0 715) i = true ∨ Fs n (X.1 0 64) cd y i := fun Z hZ i => by
          rw [hZ]
          exact ⟨Or.inl, fun w => w.elim id fun w => absurd (by rw [← hTd]; exact Fs_T w) nT⟩
        have e4 : n_X5_traceOne_35 F Y (nI y) = n_X5_traceOne_35_b105 F Y5 (nI d) := by
          unfold n_X5_traceOne_35 n_X5_traceOne_35_e n_X5_traceOne_35_b73
          rw [zld_nI _ _ _ yl (by omega), b1, hbl, zld_nI _ _ _ yl (by omega), e36, if_neg (show ¬ nI (st y) = (0 : Int32) from fun w => z0 ((nI_eq (b := 0) (by omega) (by omega)).mp w)), e3, zcS, zgS, y1, if_neg (nI_ne_m1 (by omega)), zgS, zgS, y1, zpS]
          show zgf Y4 713 _ = _
          have e713 : Y4.1 0 713 = nI a := (zp_off _ _ (Or.inr (by decide))).trans y2
          rw [zgS, e713, if_neg (nI_ne_m1 (by omega)), zgS, zgS, e713]
          exact x_put bw4 al' db _
        have e714 : Y5.1 0 714 = oN og := by
          show (zp (zp Y3 0 716 _) 40 a _).1 0 714 = _
          rw [zp_off _ _ (Or.inl (by decide)), zp_off _ _ (Or.inr (by decide))]; exact y3
        have f5' : fr [40] [712, 713, 714, 715, 716, 717] Y Y5 := fr_t f4' (fr_r _ _ (by decide) (by decide))
        have e717 : Y4.1 0 717 = nI D := by
          show (zp Y3 0 716 _).1 0 717 = _
          rw [zp_off _ _ (Or.inr (by decide)), f3'.1 717 (by decide)]; exact f8
        have e715 : Y4.1 0 715 = Y.1 0 715 := by
          show (zp Y3 0 716 _).1 0 715 = _
          rw [zp_off _ _ (Or.inr (by decide)), f3'.1 715 (by decide)]
        have pa' : ∀ x m, bl1 x = some m → Pt al lv T m c x := fun x m hm => by
          rcases ub_in hm with ⟨w1, w2⟩ | w
          · rw [w1, w2]; exact Pt_s d c y a pd' chA
          · exact f3 x m w
        cases og with
        | none =>
          refine Or.inr (goal Y5 f5' bl1 D bw5 pa' (fun x m hm => ub_ge bl a (d + 1) x m hm) (fun x hx => ?_) (m715 Y5 ((zp_off _ _ (Or.inl (by decide))).trans e715)) (fun j => ?_) ((zp_off _ _ (Or.inl (by decide))).trans e717) f8b (Nat.le_refl _) (fun w => absurd w nT) f10 ?_)
          · obtain ⟨k', a', og', p1', p2'⟩ := hx
            obtain ⟨-, q2, q3⟩ := Pick_u yl p1' y4
            rw [q3] at p2'
            rw [(p2'.resolve_right (by simp)).trans q2]
            exact ub_at bl a (d + 1)
          · rw [show Y5.1 0 716 = Y4.1 0 716 from zp_off _ _ (Or.inl (by decide))]; exact m716 j
          · rw [e4]
            unfold n_X5_traceOne_35_b105 n_X5_traceOne_35_b137
            rw [zgS, e714, if_pos (show oN none = -1 from rfl)]
        | some e =>
          have el' := y4.1.2.2.1
          let Y6 := zp Y5 40 e (oN (ubl bl1 e (d + 1) e))
          have chE : Eu al lv T y e := ⟨k, a, some e, y4, Or.inr rfl⟩
          refine Or.inr (goal Y6 (fr_t f5' (fr_r _ _ (by decide) (by decide))) (ubl bl1 e (d + 1)) D (Bw_u bw5 db) (fun x m hm => ?_) (fun x m hm => ?_) (fun x hx => ?_) (m715 Y6 ?_) (fun j => ?_) ?_ f8b (Nat.le_refl _) (fun w => absurd w nT) f10 ?_)
          · rcases ub_in hm with ⟨w1, w2⟩ | w
            · rw [w1, w2]; exact Pt_s d c y e pd' chE
            · exact pa' x m w
          · obtain ⟨k1', q1, q2⟩ := ub_ge bl a (d + 1) x m hm
            obtain ⟨k2', q3, q4⟩ := ub_ge bl1 e (d + 1) x k1' q2
            exact ⟨k2', by omega, q4⟩
          · obtain ⟨k', a', og', p1', p2'⟩ := hx
            obtain ⟨-, q2, q3⟩ := Pick_u yl p1' y4
            rw [q3] at p2'
            rcases p2' with p | p
            · rw [p.trans q2]
              obtain ⟨k1', w1, w2⟩ := ub_at bl a (d + 1)
              obtain ⟨k2', w3, w4⟩ := ub_ge bl1 e (d + 1) a k1' w2
              exact ⟨k2', by omega, w4⟩
            · rw [← Option.some.inj p]
              exact ub_at bl1 e (d + 1)
          · show (zp (zp Y4 40 a _) 40 e _).1 0 715 = _
            rw [zp_off _ _ (Or.inl (by decide)), zp_off _ _ (Or.inl (by decide))]; exact e715
          · have : Y6.1 0 716 = Y4.1 0 716 := by
              show (zp (zp Y4 40 a _) 40 e _).1 0 716 = _
              rw [zp_off _ _ (Or.inl (by decide)), zp_off _ _ (Or.inl (by decide))]
            rw [this]; exact m716 j
          · show (zp (zp Y4 40 a _) 40 e _).1 0 717 = _
            rw [zp_off _ _ (Or.inl (by decide)), zp_off _ _ (Or.inl (by decide))]; exact e717
          · rw [e4]
            unfold n_X5_traceOne_35_b105 n_X5_traceOne_35_b137
            rw [zgS, e714, if_neg (show ¬ oN (some e) = -1 from nI_ne_m1 (by omega)), zgS, zgS, e714]
            exact x_put bw5 el' db _) (by
    rintro _ ⟨Y, bl, D, t, ht, rfl, f1, f2, f3, f4, f5, f6, f7, f8, f8b, f9, f10⟩
    rw [show t = 0 by omega] at *
    refine ⟨(Y, D), ⟨f1, fun i => (f6 i).trans ⟨fun ⟨a, b, d, _, e⟩ => ⟨a, b, d, e⟩, fun ⟨a, b, d, e⟩ => ⟨a, b, d, Nat.zero_le _, e⟩⟩, fun k => (f7 k).trans ⟨fun ⟨a, b, d, p, q, _, e⟩ => ⟨a, b, d, p, q, e⟩, fun ⟨a, b, d, p, q, e⟩ => ⟨a, b, d, p, q, Nat.zero_le _, e⟩⟩, f8, fun j y m hy hp hx => f9 j y m (Nat.zero_le _) hy hp hx, f10⟩, fun rc => ?_⟩
    show n_X5_trace_35_b51_l F (fun S x2 => rc (S, x2)) Y (nI 0 - 1) = _
    unfold n_X5_trace_35_b51_l
    rw [if_pos (by decide)]) F (X0, nI l.length - 1) ⟨X0, fun x => if x = c then some 0 else none, 0, l.length, by omega, rfl, f0', b0w, b0p, ⟨0, if_pos rfl⟩, fun i y hi hy => by have := gt_lt hy; omega, b0s, b0m, zp_at _ _ _ _, by decide, fun j y m hj hy => by have := gt_lt hy; omega, Or.inl rfl⟩ (by omega)
  · dsimp only at g1 g2 g3 g4 g5 g6 e2
    refine ⟨X2, D, ?_, g1, fun i => (g2 i).trans ⟨fun ⟨_, y, m, _, e⟩ => ⟨y, m, e⟩, fun ⟨y, m, e⟩ => ?_⟩, fun k => (g3 k).trans ⟨fun ⟨_, y, m, a, og, _, e⟩ => ⟨y, m, a, og, e⟩, fun ⟨y, m, a, og, e⟩ => ?_⟩, g4, fun x m hp hx => ?_, g6⟩
    · unfold n_X5_trace_35 n_X5_trace_35_e
      refine Eq.trans eA ?_
      exact e2
    · obtain ⟨j, hj⟩ := List.mem_iff_getElem?.mp (onw m y e.1).2.2.2
      exact ⟨j, y, m, hj, e⟩
    · obtain ⟨j, hj⟩ := List.mem_iff_getElem?.mp (onw m y e.1).2.2.2
      exact ⟨j, y, m, a, og, hj, e⟩
    · obtain ⟨j, hj⟩ := List.mem_iff_getElem?.mp (onw m x hp).2.2.2
      exact g5 j x m hj hp hx
