/-! proofs: the class settles a level -/
theorem Pf_app {l l3 : List Nat} {p c : Nat} (h : p ≤ l.length) : Pf (l ++ l3) p c ↔ Pf l p c := by
  constructor
  · rintro ⟨i, i1, i2⟩
    rw [List.getElem?_append_left (by omega)] at i2
    exact ⟨i, i1, i2⟩
  · rintro ⟨i, i1, i2⟩
    exact ⟨i, i1, by rw [List.getElem?_append_left (by omega)]; exact i2⟩
theorem Dk_P {S : Zs} {st : Nat → Nat} {l : List Nat} (h : Dk S st l) {p c : Nat} (g : Pf l p c) : c < 2304 ∧ st c < 268435456 := by
  obtain ⟨i, -, i2⟩ := g
  exact (h.2.2.2.2 c).mp (List.mem_iff_getElem?.mpr ⟨i, i2⟩)
/-- what the new ones of a level make -/
def Us (al lv : Int32) (T : Nat → Prop) (P : Nat → Prop) (st : Nat → Nat) (l : List Nat) (p v n : Nat) (X : Zs) (st2 : Nat → Nat) (l2 : List Nat) : Prop := Dk X st2 l2 ∧ (∃ l3, l2 = l ++ l3) ∧ (∀ c, P c → st2 c = st c) ∧ (∀ c, st2 c ≤ st c) ∧ (∀ c, ¬ P c → c < 2304 → v < st2 c) ∧ (∀ c, c < 2304 → st2 c < 268435456 → Cost al lv T c (st2 c)) ∧ ∀ i a, p ≤ i → i < n → l[i]? = some a → (∀ c, R1 al lv a c → st2 c ≤ st a + 1) ∧ ∀ d c, P d → (R2 al lv a d c → st2 c ≤ st a + st d + 1) ∧ (R2 al lv d a c → st2 c ≤ st d + st a + 1)
theorem x_uses {F : Nat} (hF : 2 ^ 40 < F) {S : Zs} {T : Nat → Prop} {st : Nat → Nat} {l : List Nat} {p p2 v : Nat} (h : Dk S st l) (h7 : S.1 0 707 = nI p2) (hp : p ≤ p2) (hp2 : p2 ≤ l.length) (hB : Bt S (Pf l p2)) (hv : ∀ c, Pf l p2 c → st c ≤ v) (hn : ∀ c, ¬ Pf l p2 c → c < 2304 → v < st c) (he : ∀ i c, p ≤ i → i < p2 → l[i]? = some c → st c = v) (hs : ∀ c, c < 2304 → st c < 268435456 → Cost (S.1 0 711) (S.1 0 710) T c (st c)) : ∃ q : Zs × (Nat → Nat) × List Nat, (fr [36, 37] [706] S q.1 ∧ Us (S.1 0 711) (S.1 0 710) T (Pf l p2) st l p v p2 q.1 q.2.1 q.2.2) ∧ n_X5_settleShortest_35_b170 F S (nI p) = some (0, q.1) := by
  have hlen := Dk_len h
  obtain ⟨q, hq, e⟩ := zfix_for (f := fun (rc : (Zs × Int32) → Option (Int32 × Zs)) (u : (Zs × Int32)) => n_X5_settleShortest_35_b170_l F  (fun S x3 => rc (S, x3)) u.1 u.2) (p2 - p) (fun i u => ∃ X st2 l2, u = (X, nI (p + i)) ∧ fr [36, 37] [706] S X ∧ Us (S.1 0 711) (S.1 0 710) T (Pf l p2) st l p v (p + i) X st2 l2) (fun q : Zs × (Nat → Nat) × List Nat => fr [36, 37] [706] S q.1 ∧ Us (S.1 0 711) (S.1 0 710) T (Pf l p2) st l p v p2 q.1 q.2.1 q.2.2) (fun q => some (0, q.1)) (by
    rintro i _ hi ⟨X, st1, l1, rfl, f1, u1, ⟨l3, u2⟩, u3, u4, u5, u6, u7⟩
    obtain ⟨a, ha⟩ := gt_some (show p + i < l.length by omega)
    have pa : Pf l p2 a := ⟨p + i, by omega, ha⟩
    obtain ⟨al1, al2⟩ := Dk_P h pa
    have sa : st a = v := he _ _ (by omega) (by omega) ha
    have e711 : X.1 0 711 = S.1 0 711 := f1.1 711 (by decide)
    have e710 : X.1 0 710 = S.1 0 710 := f1.1 710 (by decide)
    have rd : ∀ (Y : Zs) st' l', Dk Y st' l' → (∃ l4, l' = l ++ l4) → Y.1 37 (p + i) = nI a := by
      rintro Y st' l' hY ⟨l4, e4⟩
      exact hY.2.2.2.1 _ _ (by rw [e4, List.getElem?_append_left (by omega)]; exact ha)
    -- alone
    obtain ⟨A, ⟨a1, a2, ⟨l4, a3⟩, a4⟩, a5⟩ := x_useAlone hF u1 al1
    rw [e711, e710, u3 a pa, sa] at a4
    have bX : Bt X (Pf l p2) := Bt_fr hB (f1.2.1 38 (by decide) (by decide)) (f1.2.1 39 (by decide) (by decide))
    have bA : Bt A.1 (Pf l p2) := Bt_fr bX (a1.2.1 38 (by decide) (by decide)) (a1.2.1 39 (by decide) (by decide))
    have kA : ∀ c, Pf l p2 c → A.2.1 c = st c := fun c hc => by
      rcases a4.2.1 c with z | ⟨z, -⟩
      · rw [z]; exact u3 c hc
      · have := a4.1 c
        have := u3 c hc
        have := hv c hc
        omega
    -- first
    obtain ⟨B, ⟨b1, b2, ⟨l5, b3⟩, b4⟩, b5⟩ := x_useFirst hF a2 bA al1 pa
    rw [a1.1 711 (by decide), a1.1 710 (by decide), e711, e710, kA a pa] at b4
    have bB : Bt B.1 (Pf l p2) := Bt_fr bA (b1.2.1 38 (by decide) (by decide)) (b1.2.1 39 (by decide) (by decide))
    have kB : ∀ c, Pf l p2 c → B.2.1 c = st c := fun c hc => by
      rcases b4.2.1 c with z | ⟨z, -⟩
      · rw [z]; exact kA c hc
      · exact absurd hc z
    -- second
    obtain ⟨C, ⟨c1, c2, ⟨l6, c3⟩, c4⟩, c5⟩ := x_useSecond hF b2 bB al1 pa
    rw [b1.1 711 (by decide), b1.1 710 (by decide), a1.1 711 (by decide), a1.1 710 (by decide), e711, e710, kB a pa] at c4
    have kC : ∀ c, Pf l p2 c → C.2.1 c = st c := fun c hc => by
      rcases c4.2.1 c with z | ⟨z, -⟩
      · rw [z]; exact kB c hc
      · exact absurd hc z
    have le : ∀ c, C.2.1 c ≤ st1 c := fun c => Nat.le_trans (c4.1 c) (Nat.le_trans (b4.1 c) (a4.1 c))
    have from_ : ∀ c, C.2.1 c = st1 c ∨ (v < C.2.1 c ∧ Cost (S.1 0 711) (S.1 0 710) T c (C.2.1 c)) := by
      intro c
      have ca := hs a al1 al2
      rcases c4.2.1 c with z | ⟨z1, k, d, z2, z3, z4, z5⟩
      · rw [z]
        rcases b4.2.1 c with z | ⟨z1, k, d, z2, z3, z4, z5⟩
        · rw [z]
          rcases a4.2.1 c with z | ⟨z1, k, z2⟩
          · exact Or.inl z
          · refine Or.inr ⟨by omega, ?_⟩
            rw [z1, ← sa]
            exact Cost_1 ⟨al1, k, z2⟩ ca
        · rw [kA d z3] at z5
          refine Or.inr ⟨by omega, ?_⟩
          rw [z5]
          exact Cost_2 ⟨al1, z2, k, z4⟩ ca (hs d z2 (Dk_P h z3).2)
      · rw [kB d z3] at z5
        refine Or.inr ⟨by omega, ?_⟩
        rw [z5]
        exact Cost_2 ⟨z2, al1, k, z4⟩ (hs d z2 (Dk_P h z3).2) ca
    refine Or.inr ⟨(C.1, nI (p + (i + 1))), ⟨C.1, C.2.1, C.2.2, rfl, fr_t f1 (fr_t a1 (fr_t b1 c1)), c2, ⟨l3 ++ (l4 ++ (l5 ++ l6)), by rw [c3, b3, a3, u2]; simp⟩, kC, fun c => Nat.le_trans (le c) (u4 c), fun c hc hc2 => ?_, fun c hc hc2 => ?_, fun j x j1 j2 j3 => ?_⟩, fun rc => ?_⟩
    · rcases from_ c with z | z
      · rw [z]; exact u5 c hc hc2
      · exact z.1
    · rcases from_ c with z | z
      · rw [z] at hc2 ⊢; exact u6 c hc hc2
      · exact z.2
    · by_cases ej : j = p + i
      · rw [ej, ha] at j3
        rw [← Option.some.inj j3]
        refine ⟨fun c hc => ?_, fun d c hd => ⟨fun hc => ?_, fun hc => ?_⟩⟩
        · obtain ⟨-, k, hk⟩ := hc
          have := a4.2.2 c (v + 1) ⟨rfl, k, hk⟩
          have := b4.1 c
          have := c4.1 c
          omega
        · by_cases w : Pf l p2 c
          · have := kC c w
            have := hv c w
            omega
          · obtain ⟨-, r2, k, hk⟩ := hc
            have := b4.2.2 c _ ⟨w, k, d, r2, hd, hk, rfl⟩
            rw [kA d hd] at this
            have := c4.1 c
            omega
        · by_cases w : Pf l p2 c
          · have := kC c w
            have := hv c w
            omega
          · obtain ⟨r2, -, k, hk⟩ := hc
            have := c4.2.2 c _ ⟨w, k, d, r2, hd, hk, rfl⟩
            rw [kB d hd] at this
            omega
      · obtain ⟨y1, y2⟩ := u7 j x j1 (by omega) j3
        exact ⟨fun c hc => Nat.le_trans (le c) (y1 c hc), fun d c hd => ⟨fun hc => Nat.le_trans (le c) ((y2 d c hd).1 hc), fun hc => Nat.le_trans (le c) ((y2 d c hd).2 hc)⟩⟩
    · show n_X5_settleShortest_35_b170_l F (fun S x3 => rc (S, x3)) X (nI (p + i)) = _
      unfold n_X5_settleShortest_35_b170_l
      rw [zgS, f1.1 707 (by decide), h7, if_neg (fun w => by rw [nI_le_iff (by omega) (by omega)] at w; omega), zld_nI _ _ _ (by omega) (by omega), rd X _ _ u1 ⟨l3, u2⟩, a5, zcS, zld_nI _ _ _ (by omega) (by omega), rd A.1 _ _ a2 ⟨l3 ++ l4, by rw [a3, u2]; simp⟩, b5, zcS, zld_nI _ _ _ (by omega) (by omega), rd B.1 _ _ b2 ⟨l3 ++ (l4 ++ l5), by rw [b3, a3, u2]; simp⟩, c5, zcS, zlS, nI_1, show p + (i + 1) = p + i + 1 by omega]) (by
    rintro _ ⟨X, st1, l1, rfl, f1, u⟩
    rw [show p + (p2 - p) = p2 by omega] at u
    refine ⟨(X, st1, l1), ⟨f1, u⟩, fun rc => ?_⟩
    show n_X5_settleShortest_35_b170_l F (fun S x3 => rc (S, x3)) X (nI (p + (p2 - p))) = _
    unfold n_X5_settleShortest_35_b170_l
    rw [zgS, f1.1 707 (by decide), h7, if_pos (by rw [nI_le_iff (by omega) (by omega)]; omega)]) F (S, nI p) ⟨S, st, l, rfl, fr_rf _ _ _, h, ⟨[], by simp⟩, fun _ _ => rfl, fun _ => Nat.le_refl _, hn, hs, fun j x j1 j2 => by omega⟩ (by omega)
  exact ⟨q, hq, e⟩
/-- the first p are settled -/
def Sd (al lv : Int32) (T : Nat → Prop) (S : Zs) (st : Nat → Nat) (l : List Nat) (p : Nat) : Prop := Dk S st l ∧ S.1 0 707 = nI p ∧ p ≤ l.length ∧ Bt S (Pf l p) ∧ (∀ c d, Pf l p c → ¬ Pf l p d → d < 2304 → st c < st d) ∧ (∀ i j c d : Nat, i ≤ j → j < p → l[i]? = some c → l[j]? = some d → st c ≤ st d) ∧ (∃ lam, S.1 0 708 = nI lam ∧ lam < 268435456 ∧ (∀ c, Pf l p c → st c ≤ lam) ∧ (lam = 0 ∨ ∃ c, Pf l p c ∧ st c = lam)) ∧ (∀ c, c < 2304 → st c < 268435456 → Cost al lv T c (st c)) ∧ (∀ c, T c → st c = 0) ∧ (∀ a c, Pf l p a → R1 al lv a c → st c ≤ st a + 1) ∧ ∀ a d c, Pf l p a → Pf l p d → R2 al lv a d c → st c ≤ st a + st d + 1
theorem x_short {F : Nat} (hF : 2 ^ 40 < F) {S : Zs} {T : Nat → Prop} {st : Nat → Nat} {l : List Nat} {p : Nat} (h : Sd (S.1 0 711) (S.1 0 710) T S st l p) (hp : p < l.length) : ∃ X st2 l2 p2, n_X5_settleShortest_35 F S = some (0, X) ∧ fr [36, 37, 38, 39] [706, 707, 708] S X ∧ Sd (S.1 0 711) (S.1 0 710) T X st2 l2 p2 ∧ p < p2 := by
  obtain ⟨h1, h2, h3, h4, h5, h6, -, h8, h9, h10, h11⟩ := h
  obtain ⟨v, ⟨v1, v2, v3⟩, e1⟩ := x_level hF h1 h2 h3
  obtain ⟨⟨X1, l1, p1'⟩, ⟨f1, f2, f3, f4, f5, f6, f7, f8, f9, f10, f11⟩, e2⟩ := x_front hF h1 h2 h3 h4 v1
  dsimp only at f1 f2 f3 f4 f5 f6 f7 f8 f9 f10 f11 e2
  -- one that waits at the level
  obtain ⟨c0, hc0⟩ := gt_some hp
  have w0 := (h1.2.2.2.2 c0).mp (List.mem_iff_getElem?.mpr ⟨_, hc0⟩)
  have vlt : v < 268435456 := by have := v2 p c0 (Nat.le_refl _) hc0; omega
  obtain ⟨j, cv, j1, j2, j3⟩ := v3.resolve_left (by omega)
  have ncv : ¬ Pf l p cv := fun ⟨k, k1, k2⟩ => by have := Nd_i.mp h1.2.1 k j cv k2 j2; omega
  have cv1 := (h1.2.2.2.2 cv).mp (List.mem_iff_getElem?.mpr ⟨_, j2⟩)
  have old : ∀ c, Pf l p c → Pf l1 p1' c := fun c ⟨k, k1, k2⟩ => ⟨k, by omega, by rw [f8 k k1]; exact k2⟩
  have oldlt : ∀ c, Pf l p c → st c < v := fun c hc => by have := h5 c cv hc ncv cv1.1; omega
  have mem1 : ∀ c, c ∈ l1 ↔ c ∈ l := fun c => (f2.2.2.2.2 c).trans (h1.2.2.2.2 c).symm
  have split : ∀ c, Pf l1 p1' c → Pf l p c ∨ ((∃ i, p ≤ i ∧ i < p1' ∧ l1[i]? = some c) ∧ st c = v) := fun c ⟨k, k1, k2⟩ => by
    by_cases q : k < p
    · exact Or.inl ⟨k, q, by rw [← f8 k q]; exact k2⟩
    · exact Or.inr ⟨⟨k, by omega, k1, k2⟩, f9 k c (by omega) k1 k2⟩
  have hv : ∀ c, Pf l1 p1' c → st c ≤ v := fun c hc => by
    rcases split c hc with q | ⟨-, q⟩
    · have := oldlt c q; omega
    · omega
  have hn : ∀ c, ¬ Pf l1 p1' c → c < 2304 → v < st c := fun c hc hc2 => by
    by_cases q : c ∈ l
    · obtain ⟨k, k1⟩ := List.mem_iff_getElem?.mp q
      obtain ⟨k', k1'⟩ := List.mem_iff_getElem?.mp ((mem1 c).mpr q)
      have kp : p ≤ k := Nat.le_of_not_lt fun z => hc (old c ⟨k, z, k1⟩)
      have := v2 k c kp k1
      have := f10 k' c (Nat.le_of_not_lt fun z => hc ⟨k', z, k1'⟩) k1'
      omega
    · have : ¬ st c < 268435456 := fun z => q ((h1.2.2.2.2 c).mpr ⟨hc2, z⟩)
      omega
  have pp : p < p1' := by
    obtain ⟨k, k1⟩ := List.mem_iff_getElem?.mp ((mem1 cv).mpr (List.mem_iff_getElem?.mpr ⟨_, j2⟩))
    have a1 : k < p1' := Nat.lt_of_not_le fun z => f10 k cv z k1 j3
    have a2 : ¬ k < p := fun z => ncv ⟨k, z, by rw [← f8 k z]; exact k1⟩
    omega
  have e711 : X1.1 0 711 = S.1 0 711 := f1.1 711 (by decide)
  have e710 : X1.1 0 710 = S.1 0 710 := f1.1 710 (by decide)
  obtain ⟨⟨X, st2, l2⟩, ⟨g1, u1, ⟨l3, u2⟩, u3, u4, u5, u6, u7⟩, e3⟩ := x_uses hF (T := T) f2 f3 f5 f6 f11 hv hn f9 (by rw [e711, e710]; exact h8)
  dsimp only at g1 u1 u2 u3 u4 u5 u6 u7 e3
  rw [e711, e710] at u6 u7
  have pf2 : ∀ c, Pf l2 p1' c ↔ Pf l1 p1' c := fun c => by rw [u2]; exact Pf_app f6
  refine ⟨X, st2, l2, p1', by rw [e1, e2, e3], fr_t (fr_w f1 (by decide) (by decide)) (fr_w g1 (by decide) (by decide)), ⟨u1, ?_, ?_, ?_, fun c d hc hd hd2 => ?_, fun i j c d hij hj hi hj2 => ?_, ⟨v, ?_, vlt, fun c hc => ?_, Or.inr ?_⟩, u6, fun c hc => ?_, fun a c ha hr => ?_, fun a d c ha hd hr => ?_⟩, pp⟩
  · rw [g1.1 707 (by decide)]; exact f3
  · rw [u2, List.length_append]; omega
  · exact Bt_c (Bt_fr f11 (g1.2.1 38 (by decide) (by decide)) (g1.2.1 39 (by decide) (by decide))) fun c => (pf2 c).symm
  · rw [pf2] at hc hd
    rw [u3 c hc]
    have := hv c hc
    have := u5 d hd hd2
    omega
  · rw [u2, List.getElem?_append_left (by omega)] at hi hj2
    rw [u3 c ⟨i, by omega, hi⟩, u3 d ⟨j, hj, hj2⟩]
    by_cases q : j < p
    · exact h6 i j c d hij q (by rw [← f8 i (by omega)]; exact hi) (by rw [← f8 j q]; exact hj2)
    · rw [f9 j d (by omega) hj hj2]
      exact hv c ⟨i, by omega, hi⟩
  · rw [g1.1 708 (by decide)]; exact f4
  · rw [pf2] at hc
    rw [u3 c hc]
    exact hv c hc
  · obtain ⟨c, hc⟩ := gt_some (show p < l1.length by omega)
    refine ⟨c, (pf2 c).mpr ⟨p, pp, hc⟩, ?_⟩
    rw [u3 c ⟨p, pp, hc⟩]
    exact f9 p c (Nat.le_refl _) pp hc
  · have := u4 c
    have := h9 c hc
    omega
  · rw [pf2] at ha
    rw [u3 a ha]
    rcases split a ha with q | ⟨⟨i, i1, i2, i3⟩, -⟩
    · exact Nat.le_trans (u4 c) (h10 a c q hr)
    · exact (u7 i a i1 i2 i3).1 c hr
  · rw [pf2] at ha hd
    rw [u3 a ha, u3 d hd]
    rcases split a ha with q | ⟨⟨i, i1, i2, i3⟩, -⟩
    · rcases split d hd with q2 | ⟨⟨i, i1, i2, i3⟩, -⟩
      · exact Nat.le_trans (u4 c) (h11 a d c q q2 hr)
      · exact ((u7 i d i1 i2 i3).2 a c ha).2 hr
    · exact ((u7 i a i1 i2 i3).2 d c hd).1 hr
