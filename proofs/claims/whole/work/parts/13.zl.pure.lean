/-! chain: the row, the call -/
/-- the saying i goes from a one nearer -/
def Go (cd : Nat → Nat) (w : Int32) (n y a k i u : Nat) : Prop := i < n ∧ ¬ hb w i = true ∧ nx (cd i) a = some u ∧ Lv (Lk cd w n) y k u
def Ch (cd : Nat → Nat) (w : Int32) (n y : Nat) : Nat → Nat → List Nat → Prop
  | 0, _, L => L = []
  | k + 1, a, L => ∃ i u L', L = i :: L' ∧ Go cd w n y a k i u ∧ (∀ j, j < i → ∀ v, ¬ Go cd w n y a k j v) ∧ Ch cd w n y k u L'
theorem Ch_eq {cd : Nat → Nat} {w : Int32} {n y : Nat} : ∀ k a L L2, Ch cd w n y k a L → Ch cd w n y k a L2 → L = L2 := by
  intro k
  induction k with
  | zero => intro a L L2 h g; exact Eq.trans (show L = [] from h) (show L2 = [] from g).symm
  | succ k ih =>
    rintro a L L2 ⟨i, u, L', rfl, h1, h2, h3⟩ ⟨j, v, L2', rfl, g1, g2, g3⟩
    have e : i = j := by
      rcases Nat.lt_trichotomy i j with q | q | q
      · exact absurd h1 (g2 i q u)
      · exact q
      · exact absurd g1 (h2 j q v)
    subst e
    have e2 : u = v := Option.some.inj (h1.2.2.1.symm.trans g1.2.2.1)
    subst e2
    rw [ih u L' L2' h3 g3]
theorem Ch_len {cd : Nat → Nat} {w : Int32} {n y : Nat} : ∀ k a L, Ch cd w n y k a L → L.length = k := by
  intro k
  induction k with
  | zero => intro a L h; rw [show L = [] from h]; rfl
  | succ k ih =>
    rintro a L ⟨i, u, L', rfl, -, -, h3⟩
    rw [List.length_cons, ih u L' h3]
theorem Ds_iff {St : Nat → Nat → Prop} {y far : Nat} {ds : Nat → Nat} (h : Ds St y ds 23 far) (hf : 23 < far) {t k : Nat} (ht : t < 24) (hk : k ≤ 23) : ds t = k ↔ Lv St y k t := by
  rcases h t ht with ⟨m, h1, h2, h3⟩ | ⟨h1, h2⟩
  · rw [h3]
    exact ⟨fun g => by rw [← g]; exact h2, fun g => Lv_e h2 g⟩
  · exact ⟨fun g => by omega, fun g => absurd g.1 (h1 k hk)⟩
theorem Go_ex {cd : Nat → Nat} {w : Int32} {n y a k : Nat} (h : Lv (Lk cd w n) y (k + 1) a) : ∃ i u, Go cd w n y a k i u := by
  obtain ⟨u, ⟨i, h1, h2, h3⟩, h4⟩ := Lv_s h
  exact ⟨i, u, h1, h2, h3, h4⟩
theorem get_app {α : Type} {L : List α} {x : α} {j : Nat} : (L ++ [x])[j]? = if j < L.length then L[j]? else if j = L.length then some x else none := by
  rcases Nat.lt_trichotomy j L.length with g | g | g
  · rw [List.getElem?_append_left g, if_pos g]
  · rw [if_neg (by omega), if_pos g, List.getElem?_append_right (by omega), g, Nat.sub_self]; rfl
  · rw [if_neg (by omega), if_neg (by omega), List.getElem?_eq_none (by rw [List.length_append]; show L.length + 1 ≤ j; omega)]
/-- rows of numbers -/
def Rw (S : Zs) (r : Nat) (L : List Nat) : Prop := ∀ j i, L[j]? = some i → S.1 r j = nI i
theorem Rw_snoc {S : Zs} {r : Nat} {L : List Nat} (h : Rw S r L) (i : Nat) : Rw (zp S r L.length (nI i)) r (L ++ [i]) := by
  intro j k hk
  rw [get_app] at hk
  by_cases g : j < L.length
  · rw [if_pos g] at hk
    rw [zp_off _ _ (Or.inr (by omega))]; exact h j k hk
  · rw [if_neg g] at hk
    by_cases g2 : j = L.length
    · rw [if_pos g2] at hk
      rw [g2, zp_at, Option.some.inj hk]
    · rw [if_neg g2] at hk; exact absurd hk (by simp)
theorem x_find {F : Nat} (hF : 2 ^ 40 < F) {X S : Zs} {n y len link a k : Nat} {cd ds : Nat → Nat} (hX : XC X n cd) (hf : fr [47] [] X S) (hd : Rd X 22 ds) (hD : Ds (Lk cd (X.1 0 64) n) y ds 23 25) (ha : a < 24) (hk : len = link + (k + 1)) (hl : len ≤ 23) (hv : Lv (Lk cd (X.1 0 64) n) y (k + 1) a) : ∃ q : Nat × Nat, (Go cd (X.1 0 64) n y a k q.1 q.2 ∧ ∀ j, j < q.1 → ∀ v, ¬ Go cd (X.1 0 64) n y a k j v) ∧ ∀ p, n_X1_chainOf_13_47_b46 F p S (nI len) (nI a) (nI link) 0 = p (zp S 47 link (nI q.1)) (nI len) (nI q.2) (nI (link + 1)) := by
  have hX' := XC_fr hX hf (by decide) (by decide)
  obtain ⟨z1, z2, z3⟩ := id hX'
  have e64 : S.1 0 64 = X.1 0 64 := hf.1 64 (by decide)
  have hd' : Rd S 22 ds := fun t ht => by rw [hf.2.1 22 (by decide) (by decide)]; exact hd t ht
  exact zfix_forP (f := fun (p : Zs → Int32 → Int32 → Int32 → Option (Int32 × Zs)) (rc : (Zs × Int32 × Int32 × Int32 × Int32) → Option (Int32 × Zs)) (u : (Zs × Int32 × Int32 × Int32 × Int32)) => n_X1_chainOf_13_47_b46_l F p (fun S x4 x5 x6 x7 => rc (S, x4, x5, x6, x7)) u.1 u.2.1 u.2.2.1 u.2.2.2.1 u.2.2.2.2) n (fun i s => s = (S, nI len, nI a, nI link, nI i) ∧ ∀ j, j < i → ∀ v, ¬ Go cd (X.1 0 64) n y a k j v) (fun q : Nat × Nat => Go cd (X.1 0 64) n y a k q.1 q.2 ∧ ∀ j, j < q.1 → ∀ v, ¬ Go cd (X.1 0 64) n y a k j v) (fun p q => p (zp S 47 link (nI q.1)) (nI len) (nI q.2) (nI (link + 1))) (by
    rintro i _ hi ⟨rfl, hI⟩
    obtain ⟨k1, k2⟩ := z3 i hi
    have e : ∀ (p : Zs → Int32 → Int32 → Int32 → Option (Int32 × Zs)) (rc : (Zs × Int32 × Int32 × Int32 × Int32) → Option (Int32 × Zs)), n_X1_chainOf_13_47_b46_l F p (fun S x4 x5 x6 x7 => rc (S, x4, x5, x6, x7)) S (nI len) (nI a) (nI link) (nI i) = if hb (X.1 0 64) i = true then rc (S, nI len, nI a, nI link, nI (i + 1)) else n_X1_chainOf_13_47_b89 F p (fun S x4 x5 x6 x7 => rc (S, x4, x5, x6, x7)) S (nI len) (nI a) (nI link) (nI i) (oN (nx (cd i) a)) := by
      intro p rc
      unfold n_X1_chainOf_13_47_b46_l
      rw [zgS, z1, if_neg (nI_ge hi (by omega)), x_isActive z1 z2 hi, zcS, zld_nI _ _ _ (show i < 16 by omega) (by omega), k1, x_next S k2 ha, zcS, e64]
      by_cases g : hb (X.1 0 64) i = true
      · rw [if_pos (show bI (¬ hb (X.1 0 64) i = true) = 0 from bI_f (fun w => w g)), if_pos g]
        unfold n_X1_chainOf_13_47_b89 n_X1_chainOf_13_47_b127
        rw [if_pos rfl, zlS, nI_1]
      · rw [if_neg (show ¬ bI (¬ hb (X.1 0 64) i = true) = 0 by rw [bI_t g]; decide), if_neg g]
    have no : ∀ p rc, n_X1_chainOf_13_47_b46_l F p (fun S x4 x5 x6 x7 => rc (S, x4, x5, x6, x7)) S (nI len) (nI a) (nI link) (nI i) = (rc : (Zs × Int32 × Int32 × Int32 × Int32) → Option (Int32 × Zs)) (S, nI len, nI a, nI link, nI (i + 1)) → True := fun _ _ _ => trivial
    have skip : (∀ v, ¬ Go cd (X.1 0 64) n y a k i v) → ∀ j, j < i + 1 → ∀ v, ¬ Go cd (X.1 0 64) n y a k j v := by
      intro g j hj v
      by_cases q : j = i
      · rw [q]; exact g v
      · exact hI j (by omega) v
    by_cases g : hb (X.1 0 64) i = true
    · exact Or.inr ⟨_, ⟨rfl, skip fun v w => w.2.1 g⟩, fun p rc => (e p rc).trans (if_pos g)⟩
    · cases hn : nx (cd i) a with
      | none =>
        refine Or.inr ⟨(S, nI len, nI a, nI link, nI (i + 1)), ⟨rfl, skip fun v w => by rw [Go, hn] at w; exact absurd w.2.2.1 (by simp)⟩, fun p rc => (e p rc).trans ?_⟩
        rw [if_neg g, hn]
        unfold n_X1_chainOf_13_47_b89 n_X1_chainOf_13_47_b127 oN
        rw [if_pos rfl, zlS, nI_1]
      | some u =>
        have hu := (nx_lt hn).2
        have hds := Ds_iff hD (by omega) hu (show k ≤ 23 by omega)
        have hb25 := Ds_val hD hu
        have e2 : ∀ (p : Zs → Int32 → Int32 → Int32 → Option (Int32 × Zs)) (rc : (Zs × Int32 × Int32 × Int32 × Int32) → Option (Int32 × Zs)), n_X1_chainOf_13_47_b89 F p (fun S x4 x5 x6 x7 => rc (S, x4, x5, x6, x7)) S (nI len) (nI a) (nI link) (nI i) (nI u) = if ds u = k then p (zp S 47 link (nI i)) (nI len) (nI u) (nI (link + 1)) else rc (S, nI len, nI a, nI link, nI (i + 1)) := by
          intro p rc
          unfold n_X1_chainOf_13_47_b89 n_X1_chainOf_13_47_b127 n_X1_chainOf_13_47_b133
          rw [if_neg (nI_ne_m1 (by omega)), zld_nI _ _ _ hu (by omega), hd' u hu, pk_sub (show link ≤ len by omega), show len - link = k + 1 by omega, nI_pred, zst_nI _ _ _ _ (show link < 24 by omega) (by omega), zlS, zlS, nI_1, nI_1]
          simp (disch := omega) only [nI_eq]
        by_cases q : ds u = k
        · exact Or.inl ⟨(i, u), ⟨⟨hi, g, hn, hds.mp q⟩, hI⟩, fun p rc => (e p rc).trans (by rw [if_neg g, hn]; exact (e2 p rc).trans (if_pos q))⟩
        · refine Or.inr ⟨(S, nI len, nI a, nI link, nI (i + 1)), ⟨rfl, skip fun v w => ?_⟩, fun p rc => (e p rc).trans (by rw [if_neg g, hn]; exact (e2 p rc).trans (if_neg q))⟩
          rw [Go, hn] at w
          exact q (hds.mpr ((Option.some.inj w.2.2.1) ▸ w.2.2.2))) (by
    rintro _ ⟨rfl, hI⟩
    obtain ⟨i, u, h⟩ := Go_ex hv
    exact absurd h (hI i h.1 u)) F (S, nI len, nI a, nI link, 0) ⟨rfl, fun j hj => absurd hj (by omega)⟩ (by omega)
theorem x_links {F : Nat} (hF : 2 ^ 40 < F) {X : Zs} {n x y len : Nat} {cd ds : Nat → Nat} (hX : XC X n cd) (hd : Rd X 22 ds) (hD : Ds (Lk cd (X.1 0 64) n) y ds 23 25) (hx : x < 24) (hl : len ≤ 23) (hv : Lv (Lk cd (X.1 0 64) n) y len x) : ∃ q : Zs × List Nat, (fr [47] [] X q.1 ∧ Ch cd (X.1 0 64) n y len x q.2 ∧ Rw q.1 47 q.2) ∧ n_X1_chainOf_13_47_b36 F X (nI len) (nI x) 0 = some (nI len, q.1) := by
  exact zfix_for (f := fun (rc : (Zs × Int32 × Int32 × Int32) → Option (Int32 × Zs)) (u : (Zs × Int32 × Int32 × Int32)) => n_X1_chainOf_13_47_b36_l F  (fun S x4 x5 x6 => rc (S, x4, x5, x6)) u.1 u.2.1 u.2.2.1 u.2.2.2) len (fun i s => ∃ S a L, s = (S, nI len, nI a, nI i) ∧ fr [47] [] X S ∧ a < 24 ∧ L.length = i ∧ Rw S 47 L ∧ Lv (Lk cd (X.1 0 64) n) y (len - i) a ∧ ∀ L2, Ch cd (X.1 0 64) n y (len - i) a L2 → Ch cd (X.1 0 64) n y len x (L ++ L2)) (fun q : Zs × List Nat => fr [47] [] X q.1 ∧ Ch cd (X.1 0 64) n y len x q.2 ∧ Rw q.1 47 q.2) (fun q => some (nI len, q.1)) (by
    rintro i _ hi ⟨S, a, L, rfl, hf, ha, hL, hR, hV, hC⟩
    obtain ⟨k, hk⟩ : ∃ k, len = i + (k + 1) := ⟨len - i - 1, by omega⟩
    have hki : len - i = k + 1 := by omega
    rw [hki] at hV hC
    obtain ⟨⟨j, u⟩, ⟨h1, h2⟩, e2⟩ := x_find hF hX hf hd hD ha hk hl hV
    have hu := (nx_lt h1.2.2.1).2
    refine Or.inr ⟨(zp S 47 i (nI j), nI len, nI u, nI (i + 1)), ⟨_, u, L ++ [j], rfl, fr_t hf (fr_r _ _ (by decide) (by decide)), hu, by rw [List.length_append, hL]; rfl, ?_, ?_, fun L2 hL2 => ?_⟩, fun rc => ?_⟩
    · have := Rw_snoc hR j
      rw [hL] at this
      exact this
    · rw [show len - (i + 1) = k by omega]; exact h1.2.2.2
    · rw [show len - (i + 1) = k by omega] at hL2
      rw [List.append_assoc]
      exact hC _ ⟨j, u, L2, rfl, h1, h2, hL2⟩
    · show n_X1_chainOf_13_47_b36_l F (fun S x4 x5 x6 => rc (S, x4, x5, x6)) S (nI len) (nI a) (nI i) = _
      unfold n_X1_chainOf_13_47_b36_l
      rw [if_neg (nI_ge hi (by omega)), e2]) (by
    rintro _ ⟨S, a, L, rfl, hf, ha, hL, hR, hV, hC⟩
    rw [Nat.sub_self] at hC
    refine ⟨(S, L), ⟨hf, by have := hC [] rfl; rwa [List.append_nil] at this, hR⟩, fun rc => ?_⟩
    show n_X1_chainOf_13_47_b36_l F (fun S x4 x5 x6 => rc (S, x4, x5, x6)) S (nI len) (nI a) (nI len) = _
    unfold n_X1_chainOf_13_47_b36_l
    rw [if_pos (nI_le (by omega) (by omega))]) F (X, nI len, nI x, 0) ⟨X, x, [], rfl, fr_rf _ _ _, hx, rfl, fun j i h => absurd h (by simp), hv, fun L2 h => h⟩ (by omega)
-- the reference
theorem m_goes {F : Nat} (hF : 2 ^ 40 < F) {M : Zs} {n i a k : Nat} {cd ds : Nat → Nat} (hM : MC M n cd) (hi : i < n) (ha : a < 24) (hd : Rd M 8 ds) (hb25 : ∀ t, t < 24 → ds t < 2 ^ 31) (hk : k < 2 ^ 31) : ∃ v, (∀ u, hb v u = true ↔ ¬ hb (M.1 0 7) i = true ∧ nx (cd i) a = some u ∧ ds u = k) ∧ n_X12_goesBy_0 F M (nI i) ((1 : Int32) <<< (nI a &&& 31)) (nI k) = some (v, M) := by
  have hG : ∀ u, (¬ hb (M.1 0 7) i = true ∧ nx (cd i) a = some u ∧ ds u = k) → u < 24 := fun u h => (nx_lt h.2.1).2
  generalize hth : (1 : Int32) <<< (nI a &&& 31) = th
  have hthb : ∀ t, hb th t = true ↔ t = a := fun t => by rw [← hth]; exact hb1 (by omega)
  exact zfix_for (f := fun (rc : (Zs × Int32 × Int32 × Int32 × Int32 × Int32) → Option (Int32 × Zs)) (u : (Zs × Int32 × Int32 × Int32 × Int32 × Int32)) => n_X12_goesBy_0_b6_l F  (fun S x1 x2 x3 x4 x5 => rc (S, x1, x2, x3, x4, x5)) u.1 u.2.1 u.2.2.1 u.2.2.2.1 u.2.2.2.2.1 u.2.2.2.2.2) 24 (fun t s => ∃ v, s = (M, nI i, th, nI k, v, nI t) ∧ ∀ u, hb v u = true ↔ (a < t ∧ ¬ hb (M.1 0 7) i = true ∧ nx (cd i) a = some u ∧ ds u = k)) (fun v : Int32 => ∀ u, hb v u = true ↔ ¬ hb (M.1 0 7) i = true ∧ nx (cd i) a = some u ∧ ds u = k) (fun v => some (v, M)) (by
    rintro t _ ht ⟨v, rfl, hv⟩
    obtain ⟨v2, hv2, e2⟩ : ∃ v2, (∀ u, hb v2 u = true ↔ ((a < t ∧ ¬ hb (M.1 0 7) i = true ∧ nx (cd i) a = some u ∧ ds u = k) ∨ (t = a ∧ u < 24 ∧ ¬ hb (M.1 0 7) i = true ∧ nx (cd i) a = some u ∧ ds u = k))) ∧ ∀ p, n_X12_goesBy_0_b16 F p M (nI i) th (nI k) v (nI t) 0 = p M (nI i) th (nI k) v2 (nI (t + 1)) :=
      zfix_forP (f := fun (p : Zs → Int32 → Int32 → Int32 → Int32 → Int32 → Option (Int32 × Zs)) (rc : (Zs × Int32 × Int32 × Int32 × Int32 × Int32 × Int32) → Option (Int32 × Zs)) (u : (Zs × Int32 × Int32 × Int32 × Int32 × Int32 × Int32)) => n_X12_goesBy_0_b16_l F p (fun S x1 x2 x3 x4 x5 x6 => rc (S, x1, x2, x3, x4, x5, x6)) u.1 u.2.1 u.2.2.1 u.2.2.2.1 u.2.2.2.2.1 u.2.2.2.2.2.1 u.2.2.2.2.2.2) 24 (fun j s => ∃ v2, s = (M, nI i, th, nI k, v2, nI t, nI j) ∧ ∀ u, hb v2 u = true ↔ ((a < t ∧ ¬ hb (M.1 0 7) i = true ∧ nx (cd i) a = some u ∧ ds u = k) ∨ (t = a ∧ u < j ∧ ¬ hb (M.1 0 7) i = true ∧ nx (cd i) a = some u ∧ ds u = k))) (fun v2 : Int32 => ∀ u, hb v2 u = true ↔ ((a < t ∧ ¬ hb (M.1 0 7) i = true ∧ nx (cd i) a = some u ∧ ds u = k) ∨ (t = a ∧ u < 24 ∧ ¬ hb (M.1 0 7) i = true ∧ nx (cd i) a = some u ∧ ds u = k))) (fun p v2 => p M (nI i) th (nI k) v2 (nI (t + 1))) (by
        rintro j _ hj ⟨v2, rfl, hv2⟩
        obtain ⟨r, hr, er⟩ := m_isStep (F := F) hM hi ht hj
        have bj := hb25 j hj
        have e : ∀ (p : Zs → Int32 → Int32 → Int32 → Int32 → Int32 → Option (Int32 × Zs)) (rc : (Zs × Int32 × Int32 × Int32 × Int32 × Int32 × Int32) → Option (Int32 × Zs)), n_X12_goesBy_0_b16_l F p (fun S x1 x2 x3 x4 x5 x6 => rc (S, x1, x2, x3, x4, x5, x6)) M (nI i) th (nI k) v2 (nI t) (nI j) = if t = a ∧ ds j = k ∧ ¬ r = 0 then rc (M, nI i, th, nI k, v2 ||| ((1 : Int32) <<< (nI j &&& 31)), nI t, nI (j + 1)) else rc (M, nI i, th, nI k, v2, nI t, nI (j + 1)) := by
          intro p rc
          unfold n_X12_goesBy_0_b16_l n_X12_goesBy_0_b64 n_X12_goesBy_0_b65
          rw [if_neg (show ¬ (24 : Int32) ≤ nI j from nI_ge (b := 24) hj (by omega)), e_has F _ _ (show t < 32 by omega), zcS, zld_nI _ _ _ hj (by omega), hd j hj, er, zcS]
          simp (disch := omega) only [zlS, nI_1, or_0, nI_eq, bI_eq0, hthb]
          by_cases g1 : t = a
          · rw [if_neg (show ¬ ¬ t = a from fun w => w g1)]
            by_cases g2 : ds j = k
            · rw [if_pos g2]
              by_cases g3 : r = 0
              · rw [if_pos g3, if_neg (fun w => w.2.2 g3)]
              · rw [if_neg g3, if_pos ⟨g1, g2, g3⟩]
            · rw [if_neg g2, if_neg (fun w => g2 w.2.1)]
          · rw [if_pos (show ¬ t = a from g1), if_neg (fun w => g1 w.1)]
        by_cases g : t = a ∧ ds j = k ∧ ¬ r = 0
        · have hs : ¬ hb (M.1 0 7) i = true ∧ nx (cd i) t = some j := Classical.byContradiction fun w => g.2.2 ((isB_0 hr).mpr w)
          refine Or.inr ⟨_, ⟨_, rfl, fun u => ?_⟩, fun p rc => (e p rc).trans (if_pos g)⟩
          rw [hbo, hb1 (show j < 32 by omega), hv2 u]
          constructor
          · rintro ((h | h) | h)
            · exact Or.inl h
            · exact Or.inr ⟨h.1, by omega, h.2.2⟩
            · rw [h]; exact Or.inr ⟨g.1, by omega, hs.1, g.1 ▸ hs.2, g.2.1⟩
          · rintro (h | ⟨h1, h2, h3⟩)
            · exact Or.inl (Or.inl h)
            · by_cases q : u = j
              · exact Or.inr q
              · exact Or.inl (Or.inr ⟨h1, by omega, h3⟩)
        · refine Or.inr ⟨_, ⟨_, rfl, fun u => ?_⟩, fun p rc => (e p rc).trans (if_neg g)⟩
          rw [hv2 u]
          refine or_congr Iff.rfl ⟨fun h => ⟨h.1, by omega, h.2.2⟩, fun ⟨h1, h2, h3⟩ => ⟨h1, ?_, h3⟩⟩
          by_cases q : u = j
          · exfalso
            rw [q] at h3
            exact g ⟨h1, h3.2.2, fun w => (isB_0 hr).mp w ⟨h3.1, by rw [h1]; exact h3.2.1⟩⟩
          · omega) (by
        rintro _ ⟨v2, rfl, hv2⟩
        refine ⟨v2, hv2, fun p rc => ?_⟩
        show n_X12_goesBy_0_b16_l F p (fun S x1 x2 x3 x4 x5 x6 => rc (S, x1, x2, x3, x4, x5, x6)) M (nI i) th (nI k) v2 (nI t) (nI 24) = _
        unfold n_X12_goesBy_0_b16_l
        rw [if_pos (show (24 : Int32) ≤ nI 24 from nI_le (a := 24) (by omega) (by omega)), zlS, nI_1]) F (M, nI i, th, nI k, v, nI t, 0) ⟨v, rfl, fun u => (hv u).trans ⟨Or.inl, fun w => w.elim id fun w => absurd w.2.1 (by omega)⟩⟩ (by omega)
    refine Or.inr ⟨(M, nI i, th, nI k, v2, nI (t + 1)), ⟨v2, rfl, fun u => ?_⟩, fun rc => ?_⟩
    · rw [hv2 u]
      constructor
      · rintro (h | h)
        · exact ⟨by omega, h.2⟩
        · exact ⟨by omega, h.2.2⟩
      · rintro ⟨h1, h2⟩
        by_cases q : t = a
        · exact Or.inr ⟨q, hG u h2, h2⟩
        · exact Or.inl ⟨by omega, h2⟩
    · show n_X12_goesBy_0_b6_l F (fun S x1 x2 x3 x4 x5 => rc (S, x1, x2, x3, x4, x5)) M (nI i) th (nI k) v (nI t) = _
      unfold n_X12_goesBy_0_b6_l
      rw [if_neg (show ¬ (24 : Int32) ≤ nI t from nI_ge (b := 24) ht (by omega)), e2]) (by
    rintro _ ⟨v, rfl, hv⟩
    refine ⟨v, fun u => (hv u).trans ⟨fun h => h.2, fun h => ⟨ha, h⟩⟩, fun rc => ?_⟩
    show n_X12_goesBy_0_b6_l F (fun S x1 x2 x3 x4 x5 => rc (S, x1, x2, x3, x4, x5)) M (nI i) th (nI k) v (nI 24) = _
    unfold n_X12_goesBy_0_b6_l
    rw [if_pos (show (24 : Int32) ≤ nI 24 from nI_le (a := 24) (by omega) (by omega))]) F (M, nI i, th, nI k, 0, 0) ⟨0, rfl, fun u => by rw [hb_0]; exact ⟨fun w => absurd w (by decide), fun w => absurd w.1 (by omega)⟩⟩ (by omega)
theorem m_find {F : Nat} (hF : 2 ^ 40 < F) {M S : Zs} {n y a k r : Nat} {cd ds : Nat → Nat} (hM : MC M n cd) (hf : fr [1] [1] M S) (hd : Rd M 8 ds) (hD : Ds (Lk cd (M.1 0 7) n) y ds 23 FR) (ha : a < 24) (hk : k < 23) (hr : S.1 0 1 = nI r) (hr2 : r < 32) (hv : Lv (Lk cd (M.1 0 7) n) y (k + 1) a) : ∃ q : Nat × Nat, (Go cd (M.1 0 7) n y a k q.1 q.2 ∧ ∀ j, j < q.1 → ∀ v, ¬ Go cd (M.1 0 7) n y a k j v) ∧ ∀ p, n_X12_chainsOn_0_b18 F p S ((1 : Int32) <<< (nI a &&& 31)) (nI (k + 1)) 0 = p (zp (zp S 1 r (nI q.1)) 0 1 (nI (r + 1))) ((1 : Int32) <<< (nI q.2 &&& 31)) (nI k) := by
  have hFR := FR_v
  have e7 : S.1 0 7 = M.1 0 7 := hf.1 7 (by decide)
  have bd : ∀ t, t < 24 → ds t < 2 ^ 31 := fun t ht => by have := Ds_val hD ht; omega
  have hM' := MC_fr hM hf (by decide) (by decide)
  have hd' : Rd S 8 ds := fun t ht => by rw [hf.2.1 8 (by decide) (by decide)]; exact hd t ht
  have hn := hM.2.1
  exact zfix_forP (f := fun (p : Zs → Int32 → Int32 → Option (Int32 × Zs)) (rc : (Zs × Int32 × Int32 × Int32) → Option (Int32 × Zs)) (u : (Zs × Int32 × Int32 × Int32)) => n_X12_chainsOn_0_b18_l F p (fun S x2 x3 x4 => rc (S, x2, x3, x4)) u.1 u.2.1 u.2.2.1 u.2.2.2) n (fun i s => s = (S, (1 : Int32) <<< (nI a &&& 31), nI (k + 1), nI i) ∧ ∀ j, j < i → ∀ v, ¬ Go cd (M.1 0 7) n y a k j v) (fun q : Nat × Nat => Go cd (M.1 0 7) n y a k q.1 q.2 ∧ ∀ j, j < q.1 → ∀ v, ¬ Go cd (M.1 0 7) n y a k j v) (fun p q => p (zp (zp S 1 r (nI q.1)) 0 1 (nI (r + 1))) ((1 : Int32) <<< (nI q.2 &&& 31)) (nI k)) (by
    rintro i _ hi ⟨rfl, hI⟩
    obtain ⟨v, hv1, ev⟩ := m_goes hF hM' hi ha hd' bd (show k < 2 ^ 31 by omega)
    have f2 : fr [1] [1] S (zp (zp S 1 r (nI i)) 0 1 (nI (r + 1))) := fr_t (fr_r _ _ (by decide) (by decide)) (fr_p _ (by decide))
    obtain ⟨v2, hv2, ev2⟩ := m_goes hF (MC_fr hM' f2 (by decide) (by decide)) hi ha (fun t ht => by rw [f2.2.1 8 (by decide) (by decide)]; exact hd' t ht) bd (show k < 2 ^ 31 by omega)
    rw [f2.1 7 (by decide)] at hv2
    have evv : v2 = v := hb_ext fun u _ => Bool.eq_iff_iff.mpr ((hv2 u).trans (hv1 u).symm)
    rw [evv] at ev2
    rw [e7] at hv1
    have hgo : ∀ u, hb v u = true ↔ Go cd (M.1 0 7) n y a k i u := by
      intro u
      rw [hv1 u]
      constructor
      · rintro ⟨h1, h2, h3⟩; exact ⟨hi, h1, h2, (Ds_iff hD (by omega) (nx_lt h2).2 (by omega)).mp h3⟩
      · rintro ⟨-, h1, h2, h3⟩; exact ⟨h1, h2, (Ds_iff hD (by omega) (nx_lt h2).2 (by omega)).mpr h3⟩
    have e : ∀ (p : Zs → Int32 → Int32 → Option (Int32 × Zs)) (rc : (Zs × Int32 × Int32 × Int32) → Option (Int32 × Zs)), n_X12_chainsOn_0_b18_l F p (fun S x2 x3 x4 => rc (S, x2, x3, x4)) S ((1 : Int32) <<< (nI a &&& 31)) (nI (k + 1)) (nI i) = if v = 0 then rc (S, (1 : Int32) <<< (nI a &&& 31), nI (k + 1), nI (i + 1)) else p (zp (zp S 1 r (nI i)) 0 1 (nI (r + 1))) v (nI k) := by
      intro p rc
      unfold n_X12_chainsOn_0_b18_l
      rw [nI_pred, ev, zcS, m_enters F hr hr2, zcS, ev2, zcS, zlS, zlS, nI_1, show nI (k + 1) + (-1) = nI k by rw [← nI_1, Int32.add_assoc, show (1 : Int32) + (-1) = 0 by decide, Int32.add_zero]]
    by_cases g : v = 0
    · refine Or.inr ⟨_, ⟨rfl, fun j hj u => ?_⟩, fun p rc => (e p rc).trans (if_pos g)⟩
      by_cases q : j = i
      · rw [q, ← hgo, g, hb_0]; decide
      · exact hI j (by omega) u
    · obtain ⟨u, hu⟩ : ∃ u, hb v u = true := Classical.byContradiction fun w => g (eq0_hb.mpr fun u hu => w ⟨u, hu⟩)
      have hgu := (hgo u).mp hu
      have hu24 := (nx_lt hgu.2.2.1).2
      have ev1 : v = (1 : Int32) <<< (nI u &&& 31) := hb_ext fun j _ => Bool.eq_iff_iff.mpr (by
        rw [hb1 (show u < 32 by omega), hgo]
        exact ⟨fun w => Option.some.inj (w.2.2.1.symm.trans hgu.2.2.1), fun w => by rw [w]; exact hgu⟩)
      exact Or.inl ⟨(i, u), ⟨hgu, hI⟩, fun p rc => (e p rc).trans (by rw [if_neg g, ev1])⟩) (by
    rintro _ ⟨rfl, hI⟩
    obtain ⟨i, u, h⟩ := Go_ex hv
    exact absurd h (hI i h.1 u)) F (S, (1 : Int32) <<< (nI a &&& 31), nI (k + 1), 0) ⟨rfl, fun j hj => absurd hj (by omega)⟩ (by omega)
theorem m_links {F : Nat} (hF : 2 ^ 40 < F) {M : Zs} {n x y len : Nat} {cd ds : Nat → Nat} (hM : MC M n cd) (hd : Rd M 8 ds) (hD : Ds (Lk cd (M.1 0 7) n) y ds 23 FR) (hx : x < 24) (hl : len ≤ 23) (hv : Lv (Lk cd (M.1 0 7) n) y len x) (h0 : M.1 0 1 = 0) : ∃ q : Zs × List Nat, (fr [1] [1] M q.1 ∧ Ch cd (M.1 0 7) n y len x q.2 ∧ Rw q.1 1 q.2 ∧ q.1.1 0 1 = nI len) ∧ n_X12_chainsOn_0 F M (nI x) = some (0, q.1) := by
  have hFR := FR_v
  have hlen : ds x = len := (Ds_iff hD (by omega) hx hl).mpr hv
  unfold n_X12_chainsOn_0 n_X12_chainsOn_0_e
  rw [zlS, zld_nI _ _ _ hx (by omega), hd x hx, hlen]
  exact zfix_for (f := fun (rc : (Zs × Int32 × Int32) → Option (Int32 × Zs)) (u : (Zs × Int32 × Int32)) => n_X12_chainsOn_0_b11_l F  (fun S x2 x3 => rc (S, x2, x3)) u.1 u.2.1 u.2.2) len (fun i s => ∃ S a L, s = (S, (1 : Int32) <<< (nI a &&& 31), nI (len - i)) ∧ fr [1] [1] M S ∧ S.1 0 1 = nI i ∧ a < 24 ∧ L.length = i ∧ Rw S 1 L ∧ Lv (Lk cd (M.1 0 7) n) y (len - i) a ∧ ∀ L2, Ch cd (M.1 0 7) n y (len - i) a L2 → Ch cd (M.1 0 7) n y len x (L ++ L2)) (fun q : Zs × List Nat => fr [1] [1] M q.1 ∧ Ch cd (M.1 0 7) n y len x q.2 ∧ Rw q.1 1 q.2 ∧ q.1.1 0 1 = nI len) (fun q => some (0, q.1)) (by
    rintro i _ hi ⟨S, a, L, rfl, hf, hr, ha, hL, hR, hV, hC⟩
    obtain ⟨k, hk⟩ : ∃ k, len - i = k + 1 := ⟨len - i - 1, by omega⟩
    rw [hk] at hV hC ⊢
    obtain ⟨⟨j, u⟩, ⟨h1, h2⟩, e2⟩ := m_find hF hM hf hd hD ha (show k < 23 by omega) hr (by omega) hV
    have hu := (nx_lt h1.2.2.1).2
    refine Or.inr ⟨(zp (zp S 1 i (nI j)) 0 1 (nI (i + 1)), (1 : Int32) <<< (nI u &&& 31), nI k), ⟨_, u, L ++ [j], by rw [show len - (i + 1) = k by omega], fr_t hf (fr_t (fr_r _ _ (by decide) (by decide)) (fr_p _ (by decide))), zp_at _ _ _ _, hu, by rw [List.length_append, hL]; rfl, ?_, ?_, fun L2 hL2 => ?_⟩, fun rc => ?_⟩
    · have := Rw_snoc hR j
      rw [hL] at this
      intro b c hbc
      rw [zp_off _ _ (Or.inl (by decide))]; exact this b c hbc
    · rw [show len - (i + 1) = k by omega]; exact h1.2.2.2
    · rw [show len - (i + 1) = k by omega] at hL2
      rw [List.append_assoc]
      exact hC _ ⟨j, u, L2, rfl, h1, h2, hL2⟩
    · show n_X12_chainsOn_0_b11_l F (fun S x2 x3 => rc (S, x2, x3)) S ((1 : Int32) <<< (nI a &&& 31)) (nI (k + 1)) = _
      unfold n_X12_chainsOn_0_b11_l
      rw [if_neg (show ¬ nI (k + 1) ≤ 0 from nI_ge (a := 0) (by omega) (by omega)), e2]) (by
    rintro _ ⟨S, a, L, rfl, hf, hr, ha, hL, hR, hV, hC⟩
    rw [Nat.sub_self] at hC ⊢
    refine ⟨(S, L), ⟨hf, by have := hC [] rfl; rwa [List.append_nil] at this, hR, hr⟩, fun rc => ?_⟩
    show n_X12_chainsOn_0_b11_l F (fun S x2 x3 => rc (S, x2, x3)) S ((1 : Int32) <<< (nI a &&& 31)) (nI 0) = _
    unfold n_X12_chainsOn_0_b11_l
    rw [if_pos (show nI 0 ≤ 0 by decide)]) F (M, (1 : Int32) <<< (nI x &&& 31), nI len) ⟨M, x, [], rfl, fr_rf _ _ _, h0, hx, rfl, fun j i h => absurd h (by simp), hv, fun L2 h => h⟩ (by omega)
/-- chain(x, y) -/
theorem p_chain {Q : Zs → Nat → (Nat → Nat) → Prop} (hQ : QOK Q) {F : Nat} (hF : 2 ^ 40 < F) : S_chain F (Rel (Kq Q)) := by
  intro X M hR a b
  have hFR := FR_v
  have ux : n_X11_chain_0 F X a b = n_X11_chain_0_e F X a b := rfl
  have um : n_X12_chain_0 F M a b = n_X12_chain_0_e F M a b := rfl
  unfold n_X11_chain_0_e n_X11_chain_0_b14 n_X11_chain_0_b39 at ux
  unfold n_X12_chain_0_e n_X12_chain_0_b19 at um
  rw [zpS] at um
  by_cases h1 : a < 0 ∨ 23 < a
  · rw [x_term0 h1, zcS, if_pos rfl] at ux
    rw [m_term0 h1, zcS, if_pos rfl] at um
    exact ⟨-1, X, zp M 0 0 0, ux, um, hR.thrown 0⟩
  rw [x_term1 h1, zcS, if_neg (by decide)] at ux
  rw [m_term1 h1, zcS, if_neg (by decide)] at um
  by_cases h2 : b < 0 ∨ 23 < b
  · rw [x_term0 h2, zcS, if_pos rfl] at ux
    rw [m_term0 h2, zcS, if_pos rfl] at um
    exact ⟨-1, X, zp M 0 0 0, ux, um, hR.thrown 0⟩
  rw [x_term1 h2, zcS, if_neg (by decide)] at ux
  rw [m_term1 h2, zcS, if_neg (by decide)] at um
  obtain ⟨x, hx, rfl⟩ := term_of h1
  obtain ⟨y, hy, rfl⟩ := term_of h2
  obtain ⟨n, cd, hX, hB, q, hM, el, -, -, ew, -⟩ := Rel_ctx hR
  obtain ⟨X1, ⟨f1, ds, hd, hD⟩, e1⟩ := x_measure hF hX hy
  obtain ⟨M1, ⟨f2, ds2, hd2, hD2⟩, e2⟩ := m_dist (x := x) hF (MC_fr hM (f0 M) (by decide) (by decide)) hy
  have e7 : (zp M 0 0 0).1 0 7 = M.1 0 7 := rfl
  rw [e7] at hD2
  rw [ew] at hD
  have f2' : fr mR mK M M1 := fr_t (f0 M) (fr_w f2 (by decide) (by decide))
  rw [e2] at um
  unfold n_X12_chain_0_b54_l at um
  rw [if_pos (show (24 : Int32) ≤ nI 24 from nI_le (a := 24) (by omega) (by omega)), zld_nI _ _ _ hx (by omega), hd2 x hx] at um
  unfold n_X1_chainOf_13_47 n_X1_chainOf_13_47_e n_X1_chainOf_13_47_b27 at ux
  rw [e1, zcS, zld_nI _ _ _ hx (by omega), hd x hx] at ux
  have kx1 : kSame X X1 := fr_k f1 (by decide) (by decide)
  have kK := hR.2.2.2.2.2.2.2.2
  by_cases hfar : ∃ m, m ≤ 23 ∧ Lv (Lk cd (M.1 0 7) n) y m x
  · obtain ⟨len, hl, hv⟩ := hfar
    have d1 : ds x = len := (Ds_iff hD (by omega) hx hl).mpr hv
    have d2 : ds2 x = len := (Ds_iff hD2 (by omega) hx hl).mpr hv
    have hX1 := XC_fr hX f1 (by decide) (by decide)
    have e64 : X1.1 0 64 = M.1 0 7 := (f1.1 64 (by decide)).trans ew
    obtain ⟨⟨X2, L⟩, ⟨g1, g2, g3⟩, g4⟩ := x_links hF hX1 hd (by rw [e64]; exact hD) hx hl (by rw [e64]; exact hv)
    rw [e64] at g2
    have e7b : (zp M1 0 1 0).1 0 7 = M.1 0 7 := by rw [zp_off _ _ (Or.inr (by decide)), f2'.1 7 (by decide)]
    have hM1 : MC (zp M1 0 1 0) n cd := MC_fr (MC_fr hM f2' (by decide) (by decide)) (fr_p (R := []) (K := [1]) 0 (by decide)) (by decide) (by decide)
    obtain ⟨⟨M2, L2⟩, ⟨k1, k2, k3, k5⟩, k4⟩ := m_links hF hM1 (fun t ht => hd2 t ht) (by rw [e7b]; exact hD2) hx hl (by rw [e7b]; exact hv) (zp_at _ _ _ _)
    rw [e7b] at k2
    have eL := Ch_eq len x L L2 g2 k2
    subst eL
    have hLl := Ch_len len x L g2
    have hd3 : M2.1 8 x = nI len := by rw [k1.2.1 8 (by decide) (by decide), zp_off _ _ (Or.inl (by decide)), hd2 x hx, d2]
    refine ⟨nI len, zp X2 0 10 (nI len), M2, ?_, ?_, ?_⟩
    · rw [ux, d1, if_neg (show ¬ (24 : Int32) < nI len from fun w => by rw [c24, nI_lt_iff (by omega) (by omega)] at w; omega), if_pos (nI_le (by omega) (by omega)), g4, zcS, if_neg (nI_pos (by omega)), zpS]
    · rw [um, d2, if_neg (show ¬ nI len = (1000000 : Int32) from fun w => by have := nI_inj (b := 1000000) (by omega) (by omega) w; omega), zpS, k4, zcS, zld_nI _ _ _ hx (by omega), hd3]
    · have fx : fr [22, 47] [10] X (zp X2 0 10 (nI len)) := fr_t (fr_w f1 (by decide) (by decide)) (fr_t (fr_w g1 (by decide) (by decide)) (fr_p _ (by decide)))
      have fm : fr (1 :: mR) (1 :: mK) M M2 := fr_t (fr_w f2' (by decide) (by decide)) (fr_t (fr_p _ (by decide)) (fr_w k1 (by decide) (by decide)))
      refine Rel_any hR (fun k hk => fx.1 k ((show ∀ k ∈ xF', k ∉ [10] by decide) k hk)) (fun r hr => fx.2.1 r ((show ∀ k ∈ xR', k ≠ 0 by decide) r hr) ((show ∀ k ∈ xR', k ∉ [22, 47] by decide) r hr)) (fun k hk => fm.1 k ((show ∀ k ∈ mF', k ∉ 1 :: mK by decide) k hk)) (fun r hr => fm.2.1 r ((show ∀ k ∈ mR', k ≠ 0 by decide) r hr) ((show ∀ k ∈ mR', k ∉ 1 :: mR by decide) r hr)) ⟨len, by omega, zp_at _ _ _ _, k5, fun i hi => ?_⟩ (Kq_ok hQ X _ (fr_k fx (by decide) (by decide)) kK)
      obtain ⟨c, hc⟩ : ∃ c, L[i]? = some c := ⟨L[i], List.getElem?_eq_getElem (by omega)⟩
      rw [zp_off _ _ (Or.inl (by decide)), g3 i c hc, k3 i c hc]
  · have nf : ∀ m, m ≤ 23 → ¬ Lv (Lk cd (M.1 0 7) n) y m x := fun m hm g => hfar ⟨m, hm, g⟩
    have d1 : ds x = 25 := by
      rcases hD x hx with ⟨m, w1, w2, -⟩ | ⟨-, w⟩
      · exact absurd w2 (nf m w1)
      · exact w
    have d2 : ds2 x = FR := by
      rcases hD2 x hx with ⟨m, w1, w2, -⟩ | ⟨-, w⟩
      · exact absurd w2 (nf m w1)
      · exact w
    refine ⟨-2, X1, M1, ?_, ?_, (hR.x (fr_x f1 (by decide) (by decide)) (Kq_ok hQ X X1 kx1 kK)).m (fr_m f2' (by decide) (by decide))⟩
    · rw [ux, d1, if_pos (show (24 : Int32) < nI 25 by decide), zcS, if_pos (by decide)]
    · rw [um, d2, if_pos (show nI FR = (1000000 : Int32) from rfl)]
