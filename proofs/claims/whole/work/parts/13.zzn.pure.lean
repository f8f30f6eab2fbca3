/-! proofs: the class uses a code as first premise -/
theorem sm31 : ∀ k, k < 32 → ((nI k &&& 31 : Int32).toBitVec.smod 32).toNat = k := by decide
theorem sh_none {x : Int32} {k : Nat} (hk : k < 32) (h : x >>> (nI k &&& 31) = 0) {j : Nat} (hj : k ≤ j) : hb x j = false := by
  by_cases g : j < 32
  · have := hb_ss x (nI k &&& 31) (sm31 k hk) (j := j - k) (by omega)
    rw [h, hb_0, show j - k + k = j by omega] at this
    exact this.symm
  · exact hb_ge x (by omega)
theorem Rx_t {O O2 : Nat → Nat → Prop} {st st1 st2 : Nat → Nat} (h : Rx O st st1) (g : Rx O2 st1 st2) : Rx (fun c v => O c v ∨ O2 c v) st st2 := by
  refine ⟨fun c => Nat.le_trans (g.1 c) (h.1 c), fun c => ?_, fun c v z => ?_⟩
  · rcases g.2.1 c with z | z
    · rw [z]; exact (h.2.1 c).imp id Or.inl
    · exact Or.inr (Or.inr z)
  · rcases z with z | z
    · exact Nat.le_trans (g.1 c) (h.2.2 c v z)
    · exact g.2.2 c v z
theorem cn_first {k a d c : Nat} (hk : k < 19) (ha : a < 2304) (hd : d < 2304) : cn k a d = some c ↔ fm a = gA k ∧ ∃ s, s < 24 ∧ d = pB k s (d1 (gF k) a) ∧ c = 576 * gC k + 24 * s + mj (gF k) a := by
  have hF := gF_b k hk
  have e := parts d
  have z1 := sj_lt d
  have z2 := pd_lt d
  have z3 := d1_lt (gF k) a
  unfold cn
  rw [if_pos hk]
  constructor
  · intro h
    split at h
    · rename_i g
      refine ⟨g.1, mn (gF k) d, mn_lt _ _, ?_, (Option.some.inj h).symm⟩
      unfold pB
      rw [g.2.2, ← g.2.1]
      unfold mn d2
      by_cases w : gF k ≤ 2
      · rw [if_pos w, if_pos w, if_pos w]; exact e
      · rw [if_neg w, if_neg w, if_neg w]; exact e
    · exact absurd h (by simp)
  · rintro ⟨h1, s, h2, h3, rfl⟩
    have q : fm d = gB k ∧ d1 (gF k) a = d2 (gF k) d ∧ mn (gF k) d = s := by
      generalize d1 (gF k) a = m at *
      unfold pB at h3
      unfold mn d2
      by_cases w : gF k ≤ 2
      · rw [if_pos w] at h3
        rw [if_pos w, if_pos w]
        unfold fm sj pd
        omega
      · rw [if_neg w] at h3
        rw [if_neg w, if_neg w]
        unfold fm sj pd
        omega
    rw [if_pos ⟨h1, q.1, q.2.1⟩, q.2.2]
theorem cn_second {k a d c : Nat} (hk : k < 19) (ha : a < 2304) (hd : d < 2304) : cn k a d = some c ↔ fm d = gB k ∧ ∃ p, p < 24 ∧ a = pA k p (d2 (gF k) d) ∧ c = 576 * gC k + 24 * mn (gF k) d + p := by
  have hF := gF_b k hk
  have e := parts a
  have z1 := sj_lt a
  have z2 := pd_lt a
  have z3 := d2_lt (gF k) d
  unfold cn
  rw [if_pos hk]
  constructor
  · intro h
    split at h
    · rename_i g
      refine ⟨g.2.1, mj (gF k) a, mj_lt _ _, ?_, (Option.some.inj h).symm⟩
      unfold pA
      rw [← g.2.2, ← g.1]
      unfold mj d1
      by_cases w : gF k % 2 = 1
      · rw [if_pos w, if_pos w, if_pos w]; exact e
      · rw [if_neg w, if_neg w, if_neg w]; exact e
    · exact absurd h (by simp)
  · rintro ⟨h1, s, h2, h3, rfl⟩
    have q : fm a = gA k ∧ d1 (gF k) a = d2 (gF k) d ∧ mj (gF k) a = s := by
      generalize d2 (gF k) d = m at *
      unfold pA at h3
      unfold mj d1
      by_cases w : gF k % 2 = 1
      · rw [if_pos w] at h3
        rw [if_pos w, if_pos w]
        unfold fm sj pd
        omega
      · rw [if_neg w] at h3
        rw [if_neg w, if_neg w]
        unfold fm sj pd
        omega
    rw [if_pos ⟨q.1, h1, q.2.1⟩, q.2.2]
/-- the bits of settled codes -/
def Bt (S : Zs) (P : Nat → Prop) : Prop := ∀ f x y, f < 4 → x < 24 → y < 24 → (hb (S.1 38 (24 * f + x)) y = true ↔ P (576 * f + 24 * x + y)) ∧ (hb (S.1 39 (24 * f + y)) x = true ↔ P (576 * f + 24 * x + y))
theorem Bt_fr {S S2 : Zs} {P : Nat → Prop} (h : Bt S P) (e : S2.1 38 = S.1 38) (e2 : S2.1 39 = S.1 39) : Bt S2 P := by unfold Bt; rw [e, e2]; exact h
theorem x_useFirstIn {F : Nat} (hF : 2 ^ 40 < F) {S : Zs} {st : Nat → Nat} {l : List Nat} (h : Dk S st l) {P : Nat → Prop} {a k m p : Nat} {v x2 : Int32} (ha : a < 2304) (hk : k < 19) (hm : m < 24) (hp : p < 24) (pa : P a) (hv : ∀ s, s < 24 → (hb v s = true ↔ P (pB k s m) ∧ ¬ P (576 * gC k + 24 * s + p))) : ∃ q : Zs × (Nat → Nat) × List Nat, (fr [36, 37] [706] S q.1 ∧ Dk q.1 q.2.1 q.2.2 ∧ (∃ l3, q.2.2 = l ++ l3) ∧ Rx (fun c v => ¬ P c ∧ ∃ s, s < 24 ∧ P (pB k s m) ∧ c = 576 * gC k + 24 * s + p ∧ v = st a + st (pB k s m) + 1) st q.2.1) ∧ ∀ rc7, n_X5_useFirst_35_b125 F rc7 S (nI a) x2 (nI k) (nI (gF k)) (nI m) (nI p) v 0 = rc7 q.1 (nI a) x2 (nI (k + 1)) := by
  obtain ⟨q, hq, e⟩ := zfix_forP (f := fun (rc7 : Zs → Int32 → Int32 → Int32 → Option (Int32 × Zs)) (rc : (Zs × Int32 × Int32 × Int32 × Int32 × Int32 × Int32 × Int32 × Int32) → Option (Int32 × Zs)) (u : (Zs × Int32 × Int32 × Int32 × Int32 × Int32 × Int32 × Int32 × Int32)) => n_X5_useFirst_35_b125_l F rc7 (fun S x1 x2 x3 x4 x5 x6 x8 x9 => rc (S, x1, x2, x3, x4, x5, x6, x8, x9)) u.1 u.2.1 u.2.2.1 u.2.2.2.1 u.2.2.2.2.1 u.2.2.2.2.2.1 u.2.2.2.2.2.2.1 u.2.2.2.2.2.2.2.1 u.2.2.2.2.2.2.2.2) 24 (fun i u => ∃ X st2 l2, u = (X, nI a, x2, nI k, nI (gF k), nI m, nI p, v, nI i) ∧ fr [36, 37] [706] S X ∧ Dk X st2 l2 ∧ (∃ l3, l2 = l ++ l3) ∧ Rx (fun c v => ¬ P c ∧ ∃ s, s < i ∧ P (pB k s m) ∧ c = 576 * gC k + 24 * s + p ∧ v = st a + st (pB k s m) + 1) st st2) (fun q : Zs × (Nat → Nat) × List Nat => fr [36, 37] [706] S q.1 ∧ Dk q.1 q.2.1 q.2.2 ∧ (∃ l3, q.2.2 = l ++ l3) ∧ Rx (fun c v => ¬ P c ∧ ∃ s, s < 24 ∧ P (pB k s m) ∧ c = 576 * gC k + 24 * s + p ∧ v = st a + st (pB k s m) + 1) st q.2.1) (fun rc7 q => rc7 q.1 (nI a) x2 (nI (k + 1))) (by
    rintro i _ hi ⟨X, st2, l2, rfl, f1, f2, f3, f4⟩
    have keep : ∀ c, P c → st2 c = st c := fun c hc => by
      rcases f4.2.1 c with z | ⟨z, -⟩
      · exact z
      · exact absurd hc z
    by_cases g0 : v >>> (nI i &&& 31) = 0
    · refine Or.inl ⟨(X, st2, l2), ⟨f1, f2, f3, Rx_c f4 fun c w => and_congr_right fun nc => ⟨fun ⟨s, z1, z2⟩ => ⟨s, by omega, z2⟩, fun ⟨s, z1, z2, z3, z4⟩ => ⟨s, ?_, z2, z3, z4⟩⟩⟩, fun rc7 rc => ?_⟩
      · refine Classical.byContradiction fun w => ?_
        have y := sh_none (by omega) g0 (show i ≤ s by omega)
        have y2 := (hv s z1).mpr ⟨z2, z3 ▸ nc⟩
        rw [y] at y2
        exact absurd y2 (by decide)
      · show n_X5_useFirst_35_b125_l F rc7 (fun S x1 x2 x3 x4 x5 x6 x8 x9 => rc (S, x1, x2, x3, x4, x5, x6, x8, x9)) X (nI a) x2 (nI k) (nI (gF k)) (nI m) (nI p) v (nI i) = _
        unfold n_X5_useFirst_35_b125_l n_X5_useFirst_35_b204
        rw [if_neg (show ¬ (24 : Int32) ≤ nI i from nI_ge (b := 24) hi (by omega)), if_pos g0, zlS, nI_1]
    · by_cases g1 : hb v i = true
      · obtain ⟨p1', p2'⟩ := (hv i hi).mp g1
        have hd := pB_lt (k := k) (s := i) (m := m) hk hi hm
        have hC := gC_b k hk
        have hc : 576 * gC k + 24 * i + p < 2304 := by omega
        obtain ⟨s1, s2⟩ := f2.1 a ha
        obtain ⟨s3, s4⟩ := f2.1 _ hd
        rw [keep _ pa] at s1 s2
        rw [keep _ p1'] at s3 s4
        obtain ⟨X2, l4, y1, y2, y3, l5, y4⟩ := x_offer (F := F) f2 hc (show st a + st (pB k i m) + 1 < 2 ^ 30 by omega)
        obtain ⟨l3, f3⟩ := f3
        refine Or.inr ⟨_, ⟨X2, _, l4, rfl, fr_t f1 y2, y3, ⟨l3 ++ l5, by rw [y4, f3, List.append_assoc]⟩, Rx_c (Rx_1 f4 _ _) fun c' v' => ?_⟩, fun rc7 rc => ?_⟩
        · constructor
          · rintro (⟨z1, s, z2, z3⟩ | ⟨rfl, z2⟩)
            · exact ⟨z1, s, by omega, z3⟩
            · exact ⟨p2', i, by omega, p1', rfl, z2⟩
          · rintro ⟨z1, s, z2, z3, z4, z5⟩
            by_cases e : s = i
            · rw [e] at z4 z5
              exact Or.inr ⟨z4, z5⟩
            · exact Or.inl ⟨z1, s, by omega, z3, z4, z5⟩
        · show n_X5_useFirst_35_b125_l F rc7 (fun S x1 x2 x3 x4 x5 x6 x8 x9 => rc (S, x1, x2, x3, x4, x5, x6, x8, x9)) X (nI a) x2 (nI k) (nI (gF k)) (nI m) (nI p) v (nI i) = _
          unfold n_X5_useFirst_35_b125_l n_X5_useFirst_35_b198
          rw [if_neg (show ¬ (24 : Int32) ≤ nI i from nI_ge (b := 24) hi (by omega)), if_neg g0, if_neg (fun w => by rw [hb_sh0 _ (by omega), g1] at w; exact absurd w (by decide)), zlt_nI _ _ hk (by omega), xt53 k hk, x_secondP X hk, zcS, zlt_nI _ _ hk (by omega), xt54 k hk, n_mk, zcS, zld_nI _ _ _ ha (by omega), zld_nI _ _ _ hd (by omega), s1, s3, nI_add, nI_1, y1, zcS, zlS, nI_1]
      · refine Or.inr ⟨_, ⟨X, st2, l2, rfl, f1, f2, f3, Rx_c f4 fun c w => and_congr_right fun nc => ⟨fun ⟨s, z1, z2⟩ => ⟨s, by omega, z2⟩, fun ⟨s, z1, z2, z3, z4⟩ => ⟨s, ?_, z2, z3, z4⟩⟩⟩, fun rc7 rc => ?_⟩
        · refine Classical.byContradiction fun w => ?_
          have : s = i := by omega
          rw [this] at z2 z3
          exact g1 ((hv i hi).mpr ⟨z2, z3 ▸ nc⟩)
        · show n_X5_useFirst_35_b125_l F rc7 (fun S x1 x2 x3 x4 x5 x6 x8 x9 => rc (S, x1, x2, x3, x4, x5, x6, x8, x9)) X (nI a) x2 (nI k) (nI (gF k)) (nI m) (nI p) v (nI i) = _
          unfold n_X5_useFirst_35_b125_l n_X5_useFirst_35_b198
          rw [if_neg (show ¬ (24 : Int32) ≤ nI i from nI_ge (b := 24) hi (by omega)), if_neg g0, if_pos ((hb_sh0 _ (by omega)).mpr (by simpa using g1)), zlS, nI_1]) (by
    rintro _ ⟨X, st2, l2, rfl, f1, f2, f3, f4⟩
    refine ⟨(X, st2, l2), ⟨f1, f2, f3, f4⟩, fun rc7 rc => ?_⟩
    show n_X5_useFirst_35_b125_l F rc7 (fun S x1 x2 x3 x4 x5 x6 x8 x9 => rc (S, x1, x2, x3, x4, x5, x6, x8, x9)) X (nI a) x2 (nI k) (nI (gF k)) (nI m) (nI p) v (nI 24) = _
    unfold n_X5_useFirst_35_b125_l n_X5_useFirst_35_b204
    rw [if_pos (show (24 : Int32) ≤ nI 24 by decide), zlS, nI_1]) F (S, nI a, x2, nI k, nI (gF k), nI m, nI p, v, 0) ⟨S, st, l, rfl, fr_rf _ _ _, h, ⟨[], by simp⟩, Rx_c (Rx_0 st) fun c v => ⟨fun z => absurd z id, fun ⟨_, s, z, _⟩ => by omega⟩⟩ (by omega)
  exact ⟨q, hq, e⟩
theorem x_useFirst {F : Nat} (hF : 2 ^ 40 < F) {S : Zs} {st : Nat → Nat} {l : List Nat} (h : Dk S st l) {P : Nat → Prop} (hB : Bt S P) {a : Nat} (ha : a < 2304) (pa : P a) : ∃ q : Zs × (Nat → Nat) × List Nat, (fr [36, 37] [706] S q.1 ∧ Dk q.1 q.2.1 q.2.2 ∧ (∃ l3, q.2.2 = l ++ l3) ∧ Rx (fun c v => ¬ P c ∧ ∃ k d, d < 2304 ∧ P d ∧ Ru (S.1 0 711) (S.1 0 710) k a (some d) c ∧ v = st a + st d + 1) st q.2.1) ∧ n_X5_useFirst_35 F S (nI a) = some (0, q.1) := by
  obtain ⟨q, ⟨q1, q2, q3, q4⟩, e⟩ := zfix_for (f := fun (rc : (Zs × Int32 × Int32 × Int32) → Option (Int32 × Zs)) (u : (Zs × Int32 × Int32 × Int32)) => n_X5_useFirst_35_b7_l F  (fun S x1 x2 x3 => rc (S, x1, x2, x3)) u.1 u.2.1 u.2.2.1 u.2.2.2) 19 (fun k u => ∃ X st2 l2, u = (X, nI a, nI (fm a), nI k) ∧ fr [36, 37] [706] S X ∧ Dk X st2 l2 ∧ (∃ l3, l2 = l ++ l3) ∧ Rx (fun c v => ¬ P c ∧ ∃ k' d, k' < k ∧ d < 2304 ∧ P d ∧ Ru (S.1 0 711) (S.1 0 710) k' a (some d) c ∧ v = st a + st d + 1) st st2) (fun q : Zs × (Nat → Nat) × List Nat => fr [36, 37] [706] S q.1 ∧ Dk q.1 q.2.1 q.2.2 ∧ (∃ l3, q.2.2 = l ++ l3) ∧ Rx (fun c v => ¬ P c ∧ ∃ k' d, k' < 19 ∧ d < 2304 ∧ P d ∧ Ru (S.1 0 711) (S.1 0 710) k' a (some d) c ∧ v = st a + st d + 1) st q.2.1) (fun q => some (0, q.1)) (by
    rintro k _ hk ⟨X, st2, l2, rfl, f1, f2, f3, f4⟩
    have keep : ∀ c, P c → st2 c = st c := fun c hc => by
      rcases f4.2.1 c with z | ⟨z, -⟩
      · exact z
      · exact absurd hc z
    have hA := gA_b k hk
    have hFg := gF_b k hk
    have skip : (∀ d c, ¬ Ru (S.1 0 711) (S.1 0 710) k a (some d) c) → Rx (fun c v => ¬ P c ∧ ∃ k' d, k' < k + 1 ∧ d < 2304 ∧ P d ∧ Ru (S.1 0 711) (S.1 0 710) k' a (some d) c ∧ v = st a + st d + 1) st st2 := fun w => Rx_c f4 fun c v => and_congr_right fun _ => ⟨fun ⟨k', d, z1, z2⟩ => ⟨k', d, by omega, z2⟩, fun ⟨k', d, z1, z2, z3, z4, z5⟩ => ⟨k', d, by
      by_cases e : k' = k
      · rw [e] at z4; exact absurd z4 (w d c)
      · omega, z2, z3, z4, z5⟩⟩
    have e0 : ∀ rc : (Zs × Int32 × Int32 × Int32) → Option (Int32 × Zs), n_X5_useFirst_35_b7_l F (fun S x1 x2 x3 => rc (S, x1, x2, x3)) X (nI a) (nI (fm a)) (nI k) = if fm a = gA k then (if hb (S.1 0 711) k = true then (if alB k a (S.1 0 710) = true then (if (2 : Int32) < nI (gF k) then (n_X5_useFirst_35_b85 F (fun S x1 x2 x3 => rc (S, x1, x2, x3)) X (nI a) (nI (fm a)) (nI k) (nI (gF k)) (nI (d1 (gF k) a)) (nI (mj (gF k) a))) else (n_X5_useFirst_35_b85_1 F (fun S x1 x2 x3 => rc (S, x1, x2, x3)) X (nI a) (nI (fm a)) (nI k) (nI (gF k)) (nI (d1 (gF k) a)) (nI (mj (gF k) a)))) else rc (X, nI a, nI (fm a), nI (k + 1))) else rc (X, nI a, nI (fm a), nI (k + 1))) else rc (X, nI a, nI (fm a), nI (k + 1)) := by
      intro rc
      unfold n_X5_useFirst_35_b7_l n_X5_useFirst_35_b204
      rw [if_neg (show ¬ (19 : Int32) ≤ nI k from nI_ge (b := 19) hk (by omega)), zlt_nI _ _ hk (by omega), xt52 k hk]
      simp only [zlS, nI_1]
      by_cases g1 : fm a = gA k
      · rw [if_pos g1, if_pos (by rw [g1]), x_allowedP X (by omega), zcS, f1.1 711 (by decide)]
        by_cases g2 : hb (S.1 0 711) k = true
        · rw [bI_t g2, if_neg (by decide), if_pos g2, zgS, f1.1 710 (by decide), x_alive X _ (by omega) ha, zcS]
          by_cases g3 : alB k a (S.1 0 710) = true
          · rw [bI_t g3, if_neg (by decide), if_pos g3, zlt_nI _ _ hk (by omega), xt51 k hk, x_d1 X hFg ha, zcS, x_mj X hFg ha, zcS]
          · rw [bI_f g3, if_pos rfl, if_neg g3]
        · rw [bI_f g2, if_pos rfl, if_neg g2]
      · rw [if_neg g1, if_neg (fun z => g1 ((nI_eq (by unfold fm; omega) (by omega)).mp z))]
    by_cases g : fm a = gA k ∧ hb (S.1 0 711) k = true ∧ alB k a (S.1 0 710) = true
    · obtain ⟨g1, g2, g3⟩ := g
      have hm := d1_lt (gF k) a
      have hp := mj_lt (gF k) a
      have hBk := gB_b k hk
      have hCk := gC_b k hk
      have hBX : Bt X P := Bt_fr hB (f1.2.1 38 (by decide) (by decide)) (f1.2.1 39 (by decide) (by decide))
      have fin : ∀ v : Int32, (∀ s, s < 24 → (hb v s = true ↔ P (pB k s (d1 (gF k) a)) ∧ ¬ P (576 * gC k + 24 * s + mj (gF k) a))) → ∃ b, (∃ X st2 l2, b = (X, nI a, nI (fm a), nI (k + 1)) ∧ fr [36, 37] [706] S X ∧ Dk X st2 l2 ∧ (∃ l3, l2 = l ++ l3) ∧ Rx (fun c v => ¬ P c ∧ ∃ k' d, k' < k + 1 ∧ d < 2304 ∧ P d ∧ Ru (S.1 0 711) (S.1 0 710) k' a (some d) c ∧ v = st a + st d + 1) st st2) ∧ ∀ rc : (Zs × Int32 × Int32 × Int32) → Option (Int32 × Zs), n_X5_useFirst_35_b125 F (fun S x1 x2 x3 => rc (S, x1, x2, x3)) X (nI a) (nI (fm a)) (nI k) (nI (gF k)) (nI (d1 (gF k) a)) (nI (mj (gF k) a)) v 0 = rc b := by
        intro v hv
        obtain ⟨q, ⟨y1, y2, ⟨l5, y3⟩, y4⟩, y5⟩ := x_useFirstIn hF f2 (x2 := nI (fm a)) ha hk hm hp pa hv
        obtain ⟨l3, f3⟩ := f3
        refine ⟨_, ⟨q.1, q.2.1, q.2.2, rfl, fr_t f1 y1, y2, ⟨l3 ++ l5, by rw [y3, f3, List.append_assoc]⟩, Rx_c (Rx_t f4 y4) fun c' v' => ?_⟩, fun rc => y5 _⟩
        constructor
        · rintro (⟨z1, k', d, z2, z3⟩ | ⟨z1, s, z2, z3, z4, z5⟩)
          · exact ⟨z1, k', d, by omega, z3⟩
          · have hd := pB_lt (k := k) hk z2 hm
            rw [keep a pa, keep _ z3] at z5
            exact ⟨z1, k, _, by omega, hd, z3, ⟨g2, g3, hk, (cn_first hk ha hd).mpr ⟨g1, s, z2, rfl, z4⟩⟩, z5⟩
        · rintro ⟨z1, k', d, z2, z3, z4, z5, z6⟩
          by_cases e : k' = k
          · rw [e] at z5
            obtain ⟨-, s, w1, w2, w3⟩ := (cn_first hk ha z3).mp z5.2.2.2
            rw [w2] at z4 z6
            exact Or.inr ⟨z1, s, w1, z4, w3, by rw [keep a pa, keep _ z4]; exact z6⟩
          · exact Or.inl ⟨z1, k', d, by omega, z3, z4, z5, z6⟩
      by_cases w : gF k ≤ 2
      · obtain ⟨b, b1, b2⟩ := fin (X.1 39 (24 * gB k + d1 (gF k) a) &&& (X.1 39 (24 * gC k + mj (gF k) a) ^^^ (-1 : Int32))) (fun s hs => by
          rw [hb_and, hb_not _ (by omega)]
          have w1 := (hBX (gB k) s (d1 (gF k) a) hBk hs hm).2
          have w2 := (hBX (gC k) s (mj (gF k) a) hCk hs hp).2
          unfold pB
          rw [if_pos w, ← w1, ← w2]
          simp)
        refine Or.inr ⟨b, b1, fun rc => (e0 rc).trans ?_⟩
        rw [if_pos g1, if_pos g2, if_pos g3, if_neg (show ¬ (2 : Int32) < nI (gF k) from fun z => by rw [show (2 : Int32) = nI 2 from rfl, nI_lt_iff (by omega) (by omega)] at z; omega)]
        unfold n_X5_useFirst_35_b85_1
        rw [zlt_nI _ _ hk (by omega), xt53 k hk, show (24 : Int32) * nI (gB k) = nI (24 * gB k) from pk_mul 24 _, nI_add, zld_nI _ _ _ (by omega) (by omega), zlt_nI _ _ hk (by omega), xt54 k hk, show (24 : Int32) * nI (gC k) = nI (24 * gC k) from pk_mul 24 _, nI_add, zld_nI _ _ _ (by omega) (by omega), zlS, b2]
      · obtain ⟨b, b1, b2⟩ := fin (X.1 38 (24 * gB k + d1 (gF k) a) &&& (X.1 39 (24 * gC k + mj (gF k) a) ^^^ (-1 : Int32))) (fun s hs => by
          rw [hb_and, hb_not _ (by omega)]
          have w1 := (hBX (gB k) (d1 (gF k) a) s hBk hm hs).1
          have w2 := (hBX (gC k) s (mj (gF k) a) hCk hs hp).2
          unfold pB
          rw [if_neg w, ← w1, ← w2]
          simp)
        refine Or.inr ⟨b, b1, fun rc => (e0 rc).trans ?_⟩
        rw [if_pos g1, if_pos g2, if_pos g3, if_pos (show (2 : Int32) < nI (gF k) by rw [show (2 : Int32) = nI 2 from rfl, nI_lt_iff (by omega) (by omega)]; omega)]
        unfold n_X5_useFirst_35_b85
        rw [zlt_nI _ _ hk (by omega), xt53 k hk, show (24 : Int32) * nI (gB k) = nI (24 * gB k) from pk_mul 24 _, nI_add, zld_nI _ _ _ (by omega) (by omega), zlt_nI _ _ hk (by omega), xt54 k hk, show (24 : Int32) * nI (gC k) = nI (24 * gC k) from pk_mul 24 _, nI_add, zld_nI _ _ _ (by omega) (by omega), zlS, b2]
    · refine Or.inr ⟨_, ⟨X, st2, l2, rfl, f1, f2, f3, skip fun d c z => g ?_⟩, fun rc => (e0 rc).trans ?_⟩
      · have y := z.2.2.2
        unfold cn at y
        rw [if_pos hk] at y
        split at y
        · rename_i y2; exact ⟨y2.1, z.1, z.2.1⟩
        · exact absurd y (by simp)
      · by_cases g1 : fm a = gA k
        · rw [if_pos g1]
          by_cases g2 : hb (S.1 0 711) k = true
          · rw [if_pos g2, if_neg (fun z => g ⟨g1, g2, z⟩)]
          · rw [if_neg g2]
        · rw [if_neg g1]) (by
    rintro _ ⟨X, st2, l2, rfl, f1, f2, f3, f4⟩
    refine ⟨(X, st2, l2), ⟨f1, f2, f3, f4⟩, fun rc => ?_⟩
    show n_X5_useFirst_35_b7_l F (fun S x1 x2 x3 => rc (S, x1, x2, x3)) X (nI a) (nI (fm a)) (nI 19) = _
    unfold n_X5_useFirst_35_b7_l
    rw [if_pos (show (19 : Int32) ≤ nI 19 by decide)]) F (S, nI a, nI (fm a), 0) ⟨S, st, l, rfl, fr_rf _ _ _, h, ⟨[], by simp⟩, Rx_c (Rx_0 st) fun c v => ⟨fun z => absurd z id, fun ⟨_, k', d, z, _⟩ => by omega⟩⟩ (by omega)
  refine ⟨q, ⟨q1, q2, q3, Rx_c q4 fun c v => and_congr_right fun _ => ⟨fun ⟨k, d, _, z⟩ => ⟨k, d, z⟩, fun ⟨k, d, z1, z2, z3, z4⟩ => ⟨k, d, z3.2.2.1, z1, z2, z3, z4⟩⟩⟩, ?_⟩
  unfold n_X5_useFirst_35 n_X5_useFirst_35_e
  rw [n_frm F S ha, zcS]
  exact e
