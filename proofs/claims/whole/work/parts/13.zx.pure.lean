/-! towns: the class counts the fewest sorts -/
def Mem (P : Nat → Prop) (N : List (Nat × Nat)) (S : Zs) : Prop := ∀ b, b < 2 ^ N.length → S.1 29 b = 0 ∨ ∃ k, k ≤ 12 ∧ S.1 29 b = nI k ∧ Fw (Cs P) (Dm N b) k
theorem byte_I : ∀ k, k < 20 → vp_nar .byte ((nI k).toInt8.toInt32) = nI k := by decide
theorem bits_lt {b n : Nat} (h : ∀ i, b.testBit i = true → i < n) : b < 2 ^ n := Nat.lt_pow_two_of_testBit b fun i hi => by
  cases e : b.testBit i with
  | false => rfl
  | true => exact absurd (h i e) (by omega)
theorem pow_bit (f i : Nat) : (2 ^ f).testBit i = decide (f = i) := Nat.testBit_two_pow
theorem Ap_fr {P : Nat → Prop} {N : List (Nat × Nat)} {S S2 : Zs} {m : Nat} (h : Ap P N S m) {R : List Nat} (f : fr R [] S S2) (hR : 28 ∉ R) : Ap P N S2 m := fun i hi => by rw [f.2.1 28 (by decide) hR]; exact h i hi
theorem min_I {a b : Nat} (ha : a < 100) (hb' : b < 100) : (if nI a < nI b then nI a else nI b) = nI (min a b) := by
  by_cases h : a < b
  · rw [if_pos (nI_lt h (by omega)), show min a b = a by omega]
  · rw [if_neg (fun w => by rw [nI_lt_iff (by omega) (by omega)] at w; exact h w), show min a b = b by omega]
theorem Cv_1 {C : Nat → Prop} {D : Nat × Nat → Prop} {p : Nat × Nat} (hp : D p) (h : Cv C D 1) : ∃ s, C s ∧ ∀ p, D p → Mt s p := by
  obtain ⟨s, s1, -, s2⟩ := Cv_at h hp
  exact ⟨s, s1, fun q hq => Classical.byContradiction fun w => Cv_0.mp s2 q ⟨hq, w⟩⟩
/-- the sorts that meet what they meet, as bits -/
theorem met_ex (N : List (Nat × Nat)) (h12 : N.length ≤ 12) (s : Nat) : ∃ m, m < 2 ^ N.length ∧ MB' N s m := by
  obtain ⟨v, hv⟩ := isW_ex (fun i => ∃ p, N[i]? = some p ∧ Mt s p) (show N.length ≤ 31 by omega)
  obtain ⟨m, m1, -, m2⟩ := isW_nat hv
  refine ⟨m, m1, fun i => ⟨fun w => ((m2 i).mp w).2, fun w => (m2 i).mpr ⟨?_, w⟩⟩⟩
  obtain ⟨p, hp, -⟩ := w
  exact (List.getElem?_eq_some_iff.mp hp).1
theorem x_few {F : Nat} (hF : 2 ^ 40 < F) {P : Nat → Prop} {N : List (Nat × Nat)} (h12 : N.length ≤ 12) (h24 : ∀ p ∈ N, p.1 < 24 ∧ p.2 < 24) (hc : ∀ p ∈ N, Can P p.1 p.2) : ∀ d t b S, t ≤ 12 → 13 ≤ d + t → (∀ i, b.testBit i = true → t ≤ i ∧ i < N.length) → Ap P N S N.length → Mem P N S → ∃ k S2, k ≤ 12 ∧ Fw (Cs P) (Dm N b) k ∧ n_X10_fewestSorts_26_r F d S (nI b) = some (nI k, S2) ∧ fr [29] [] S S2 ∧ Mem P N S2 := by
  have hp12 : 2 ^ N.length ≤ 2 ^ 12 := Nat.pow_le_pow_right (by omega) h12
  have hmet : ∀ p ∈ N, ∃ s, Cs P s ∧ Mt s p := fun p hp => by
    obtain ⟨s, s1, s2, s3⟩ := (can_iff (h24 p hp).1 (h24 p hp).2).mp (hc p hp)
    exact ⟨s, ⟨s1, s2⟩, s3⟩
  intro d
  induction d with
  | zero => intro t b S h1 h2; omega
  | succ d ih =>
    intro t b S ht hd hbits ha hm
    have hbl : ∀ i, b.testBit i = true → i < N.length := fun i hi => (hbits i hi).2
    have hb2 := bits_lt hbl
    have e0 : n_X10_fewestSorts_26_r F (d + 1) S (nI b) = n_X10_fewestSorts_26_e F (fun S x1 => n_X10_fewestSorts_26_r F d S x1) S (nI b) := rfl
    rw [e0]
    unfold n_X10_fewestSorts_26_e
    by_cases hb0 : b = 0
    · rw [if_pos (by rw [hb0]; rfl)]
      exact ⟨0, S, by omega, Fw_0 ((bits0 hbl).mp hb0), rfl, fr_rf _ _ _, hm⟩
    · rw [if_neg (nI_ne0 (by omega) (by omega)), zld_nI _ _ _ (show b < 4096 by omega) (by omega)]
      rcases hm b hb2 with g0 | ⟨k, k1, k2, k3⟩
      · rw [if_pos g0]
        -- the first need
        obtain ⟨f, ⟨f1, f2⟩, ef⟩ := zfix_for (f := fun (rc : (Zs × Int32 × Int32) → Option (Int32 × Zs)) (u : (Zs × Int32 × Int32)) => n_X10_fewestSorts_26_b24_l F (fun S x1 => n_X10_fewestSorts_26_r F d S x1)  (fun S x1 x2 => rc (S, x1, x2)) u.1 u.2.1 u.2.2) 11 (fun i s => s = (S, nI b, nI i) ∧ ∀ j, j < i → b.testBit j = false) (fun f : Nat => b.testBit f = true ∧ ∀ j, j < f → b.testBit j = false) (fun f => n_X10_fewestSorts_26_b44 F (fun S x1 => n_X10_fewestSorts_26_r F d S x1) S (nI b) (nI f)) (by
          rintro i _ hi ⟨rfl, hno⟩
          have e1 : ∀ rc : (Zs × Int32 × Int32) → Option (Int32 × Zs), n_X10_fewestSorts_26_b24_l F (fun S x1 => n_X10_fewestSorts_26_r F d S x1) (fun S x1 x2 => rc (S, x1, x2)) S (nI b) (nI i) = if b.testBit i = false then rc (S, nI b, nI (i + 1)) else n_X10_fewestSorts_26_b44 F (fun S x1 => n_X10_fewestSorts_26_r F d S x1) S (nI b) (nI i) := by
            intro rc
            unfold n_X10_fewestSorts_26_b24_l
            rw [if_neg (show ¬ (11 : Int32) ≤ nI i from nI_ge (b := 11) hi (by omega)), zlS, nI_1]
            by_cases q : b.testBit i = false
            · rw [if_pos ((hb_sh0 _ (by omega)).mpr (by rw [hbn (by omega)]; exact q)), if_pos q]
            · rw [if_neg (fun w => q (by rw [hb_sh0 _ (by omega), hbn (by omega)] at w; exact w)), if_neg q]
          by_cases q : b.testBit i = false
          · refine Or.inr ⟨_, ⟨rfl, fun j hj => ?_⟩, fun rc => (e1 rc).trans (if_pos q)⟩
            by_cases e : j = i
            · rw [e]; exact q
            · exact hno j (by omega)
          · exact Or.inl ⟨i, ⟨by simpa using q, hno⟩, fun rc => (e1 rc).trans (if_neg q)⟩) (by
          rintro _ ⟨rfl, hno⟩
          refine ⟨11, ⟨?_, hno⟩, fun rc => ?_⟩
          · refine Classical.byContradiction fun w => hb0 (Nat.eq_of_testBit_eq fun i => ?_)
            rw [Nat.zero_testBit]
            cases e : b.testBit i with
            | false => rfl
            | true =>
              have := hbl i e
              rcases (show i < 11 ∨ i = 11 by omega) with z | z
              · rw [hno i z] at e; exact absurd e (by decide)
              · rw [z] at e; exact absurd e w
          · show n_X10_fewestSorts_26_b24_l F (fun S x1 => n_X10_fewestSorts_26_r F d S x1) (fun S x1 x2 => rc (S, x1, x2)) S (nI b) (nI 11) = _
            unfold n_X10_fewestSorts_26_b24_l
            rw [if_pos (show (11 : Int32) ≤ nI 11 by decide)]) F (S, nI b, 0) ⟨rfl, fun j hj => absurd hj (by omega)⟩ (by omega)
        have ef : n_X10_fewestSorts_26_b24 F (fun S x1 => n_X10_fewestSorts_26_r F d S x1) S (nI b) 0 = _ := ef
        rw [ef]
        have hfN := hbl f f1
        have htf := (hbits f f1).1
        obtain ⟨pf, hpf⟩ : ∃ p, N[f]? = some p := ⟨N[f], List.getElem?_eq_getElem hfN⟩
        have hpfN : pf ∈ N := List.mem_of_getElem? hpf
        have hDf : Dm N b pf := ⟨f, f1, hpf⟩
        have hcf := hc pf hpfN
        have hBr : ¬ Br P := hcf.1
        have hff : ShI P N f f := ⟨pf, pf, hpf, hpf, Can_l hcf, hcf, Can_s hcf, Can_l (Can_s hcf)⟩
        have shs : ∀ i j, ShI P N i j → ShI P N j i := fun i j ⟨p, q, a1, a2, a3, a4, a5, a6⟩ => ⟨q, p, a2, a1, Can_s a3, Can_s a5, Can_s a4, Can_s a6⟩
        obtain ⟨a, a1, a2, a3⟩ := isW_nat (ha f hfN)
        generalize ho : sd b (2 ^ f) = o
        have obit : ∀ i, o.testBit i = true ↔ b.testBit i = true ∧ i ≠ f := fun i => by
          rw [← ho, sd_bit, pow_bit]
          by_cases e : f = i
          · rw [decide_eq_true e]; simp [e]
          · rw [decide_eq_false e]; simp [Ne.symm e]
        have obits : ∀ i, o.testBit i = true → f + 1 ≤ i ∧ i < N.length := fun i hi => by
          have := (obit i).mp hi
          refine ⟨?_, hbl i this.1⟩
          by_cases z : i < f
          · rw [f2 i z] at this; exact absurd this.1 (by decide)
          · omega
        have ho2 := bits_lt fun i hi => (obits i hi).2
        generalize hma : sd o a = ma
        have mbit : ∀ i, ma.testBit i = true ↔ o.testBit i = true ∧ ShI P N f i := fun i => by
          rw [← hma, sd_bit, Bool.and_eq_true, Bool.not_eq_true']
          constructor
          · rintro ⟨x1, x2⟩
            refine ⟨x1, Classical.byContradiction fun w => ?_⟩
            rw [(a3 i).mpr ⟨(obits i x1).2, w⟩] at x2
            exact absurd x2 (by decide)
          · rintro ⟨x1, x2⟩
            refine ⟨x1, ?_⟩
            cases e : a.testBit i with
            | false => rfl
            | true => exact absurd x2 ((a3 i).mp e).2
        have hma2 := bits_lt fun i hi => (obits i ((mbit i).mp hi).1).2
        obtain ⟨r, hr, er⟩ := x_allShare hF ha h12 hbl (show b < 4096 by omega)
        unfold n_X10_fewestSorts_26_b44 n_X10_fewestSorts_26_b83
        rw [pow_I (by omega), sd_I (by omega) (Nat.lt_of_lt_of_le (Nat.pow_lt_pow_right (by omega) (show f < 12 by omega)) (by decide)), ho, zlS, zld_nI _ _ _ (show f < 12 by omega) (by omega), a2, sd_I (by omega) (by omega), hma, zlS, er, zcS]
        -- what is kept
        have keep : ∀ S' k, fr [29] [] S S' → Mem P N S' → Fw (Cs P) (Dm N b) k → ∃ k' S2, k' ≤ 12 ∧ Fw (Cs P) (Dm N b) k' ∧ n_X10_fewestSorts_26_b140 F (fun S x1 => n_X10_fewestSorts_26_r F d S x1) S' (nI b) (nI k) = some (nI k', S2) ∧ fr [29] [] S S2 ∧ Mem P N S2 := by
          intro S' k hf hm' hk
          obtain ⟨k2, k3, k4⟩ := Fw_bit hmet b
          have ek := Fw_eq hk k4
          unfold n_X10_fewestSorts_26_b140
          rw [byte_I k (by omega), zst_nI _ _ _ _ (show b < 4096 by omega) (by omega)]
          refine ⟨k, _, by omega, hk, rfl, fr_t hf (fr_r _ _ (by decide) (by decide)), fun c hc' => ?_⟩
          by_cases e : c = b
          · rw [e, zp_at]; exact Or.inr ⟨k, by omega, rfl, hk⟩
          · rw [zp_off _ _ (Or.inr e)]; exact hm' c hc'
        by_cases hall : AllS P N b
        · rw [if_neg (fun w => (isB_0 hr).mp w hall)]
          obtain ⟨s, s1, s2⟩ := one_sort hBr h24 (I := fun i => b.testBit i = true) (fun i j x y => hall i j x y)
          have hk : Fw (Cs P) (Dm N b) 1 := by
            refine ⟨Cv_s s1 (Cv_0.mpr ?_), fun j hj w => ?_⟩
            · rintro p ⟨⟨i, i1, i2⟩, i3⟩
              exact i3 (s2 i p i1 i2)
            · rw [show j = 0 by omega] at w
              exact Cv_0.mp w pf hDf
          obtain ⟨-, -, e⟩ := zfix_for (f := fun (rc : (Zs × Int32 × Int32 × Int32 × Int32 × Int32) → Option (Int32 × Zs)) (u : (Zs × Int32 × Int32 × Int32 × Int32 × Int32)) => n_X10_fewestSorts_26_b89_l F (fun S x1 => n_X10_fewestSorts_26_r F d S x1)  (fun S x1 x3 x4 x5 x6 => rc (S, x1, x3, x4, x5, x6)) u.1 u.2.1 u.2.2.1 u.2.2.2.1 u.2.2.2.2.1 u.2.2.2.2.2) 0 (fun _ s => s = (S, nI b, nI o, nI ma, 1, nI ma)) (fun _ : Unit => True) (fun _ => n_X10_fewestSorts_26_b140 F (fun S x1 => n_X10_fewestSorts_26_r F d S x1) S (nI b) (nI 1)) (fun i a hi => absurd hi (by omega)) (by
            rintro _ rfl
            refine ⟨(), trivial, fun rc => ?_⟩
            show n_X10_fewestSorts_26_b89_l F (fun S x1 => n_X10_fewestSorts_26_r F d S x1) (fun S x1 x3 x4 x5 x6 => rc (S, x1, x3, x4, x5, x6)) S (nI b) (nI o) (nI ma) 1 (nI ma) = _
            unfold n_X10_fewestSorts_26_b89_l
            rw [if_pos (show (1 : Int32) ≤ 2 by decide), ite_self]; rfl) F (S, nI b, nI o, nI ma, 1, nI ma) rfl (by omega)
          have e : n_X10_fewestSorts_26_b89 F (fun S x1 => n_X10_fewestSorts_26_r F d S x1) S (nI b) (nI o) (nI ma) 1 (nI ma) = _ := e
          rw [e]
          exact keep S 1 (fr_rf _ _ _) hm hk
        · rw [if_pos ((isB_0 hr).mpr hall)]
          obtain ⟨k0, S1, k01, k02, k03, k04, k05⟩ := ih (f + 1) o S (by omega) (by omega) obits ha hm
          have k03' : (fun S x1 => n_X10_fewestSorts_26_r F d S x1) S (nI o) = some (nI k0, S1) := k03
          rw [k03', zcS, show (1 : Int32) + nI k0 = nI (1 + k0) from nI_add 1 k0]
          have two : ∀ j, j < 2 → ¬ Cv (Cs P) (Dm N b) j := by
            intro j hj w
            obtain ⟨s, s1, s2⟩ := Cv_1 hDf (Cv_le w (show j ≤ 1 by omega))
            refine hall fun i i' x y => ?_
            obtain ⟨p, hp⟩ : ∃ p, N[i]? = some p := ⟨_, List.getElem?_eq_getElem (hbl i x)⟩
            obtain ⟨q, hq⟩ : ∃ p, N[i']? = some p := ⟨_, List.getElem?_eq_getElem (hbl i' y)⟩
            exact sort_one s1 hp hq (s2 p ⟨i, x, hp⟩) (s2 q ⟨i', y, hq⟩)
          have first : Cv (Cs P) (Dm N b) (1 + k0) := by
            obtain ⟨s, s1, s2⟩ := hmet pf hpfN
            rw [Nat.add_comm]
            refine Cv_s s1 (Cv_mono k02.1 ?_)
            rintro p ⟨⟨i, i1, i2⟩, i3⟩
            refine ⟨i, (obit i).mpr ⟨i1, fun e => ?_⟩, i2⟩
            rw [e, hpf] at i2
            rw [Option.some.inj i2] at s2
            exact i3 s2
          obtain ⟨⟨S2, kk⟩, ⟨c1, c2, c3⟩, e⟩ := zfix_for (f := fun (rc : (Zs × Int32 × Int32 × Int32 × Int32 × Int32) → Option (Int32 × Zs)) (u : (Zs × Int32 × Int32 × Int32 × Int32 × Int32)) => n_X10_fewestSorts_26_b89_l F (fun S x1 => n_X10_fewestSorts_26_r F d S x1)  (fun S x1 x3 x4 x5 x6 => rc (S, x1, x3, x4, x5, x6)) u.1 u.2.1 u.2.2.1 u.2.2.2.1 u.2.2.2.2.1 u.2.2.2.2.2) 4097 (fun i s => ∃ S' best x, s = (S', nI b, nI o, nI ma, nI best, nI x) ∧ x + i ≤ 4096 ∧ x &&& ma = x ∧ fr [29] [] S S' ∧ Mem P N S' ∧ Cv (Cs P) (Dm N b) best ∧ best ≤ 1 + k0 ∧ ∀ z, z &&& ma = z → x < z → AllS P N z → ∀ k, Fw (Cs P) (Dm N (sd o z)) k → best ≤ 1 + k) (fun c : Zs × Nat => fr [29] [] S c.1 ∧ Mem P N c.1 ∧ Fw (Cs P) (Dm N b) c.2) (fun c => n_X10_fewestSorts_26_b140 F (fun S x1 => n_X10_fewestSorts_26_r F d S x1) c.1 (nI b) (nI c.2)) (by
            rintro i _ hi ⟨S', best, x, rfl, hx, hsub, hf, hm', hcv, hbe, hdone⟩
            have hxb : ∀ j, x.testBit j = true → ma.testBit j = true := sub_and.mp hsub
            have hx2 := bits_lt fun j hj => (obits j ((mbit j).mp (hxb j hj)).1).2
            have hxl : ∀ j, x.testBit j = true → j < N.length := fun j hj => (obits j ((mbit j).mp (hxb j hj)).1).2
            by_cases q0 : x = 0
            · -- all parts seen
              refine Or.inl ⟨(S', best), ⟨hf, hm', hcv, fun j hj w => ?_⟩, fun rc => ?_⟩
              · by_cases j0 : j = 0
                · exact two j (by omega) w
                · obtain ⟨j', rfl⟩ : ∃ j', j = j' + 1 := ⟨j - 1, by omega⟩
                  obtain ⟨s, s1, s2, s3⟩ := Cv_at w hDf
                  obtain ⟨m, m1, m2⟩ := met_ex N h12 s
                  have zb : ∀ i, (o &&& m).testBit i = true → o.testBit i = true ∧ ∃ p, N[i]? = some p ∧ Mt s p := fun i hi => by
                    rw [Nat.testBit_and, Bool.and_eq_true] at hi
                    exact ⟨hi.1, (m2 i).mp hi.2⟩
                  have hcv2 : Cv (Cs P) (Dm N (sd o (o &&& m))) j' := by
                    refine Cv_mono s3 ?_
                    rintro p ⟨i, i1, i2⟩
                    rw [sd_bit, Bool.and_eq_true, Bool.not_eq_true', Nat.testBit_and] at i1
                    obtain ⟨i1, i3⟩ := i1
                    rw [i1, Bool.true_and] at i3
                    exact ⟨⟨i, ((obit i).mp i1).1, i2⟩, fun z => by rw [(m2 i).mpr ⟨p, i2, z⟩] at i3; exact absurd i3 (by decide)⟩
                  by_cases z0 : o &&& m = 0
                  · rw [z0] at hcv2
                    have : Cv (Cs P) (Dm N o) j' := Cv_mono hcv2 fun p ⟨i, i1, i2⟩ => ⟨i, by rw [sd_bit, i1, Nat.zero_testBit]; rfl, i2⟩
                    have := Fw_ge k02 this
                    omega
                  · obtain ⟨k2, k3, k4⟩ := Fw_bit hmet (sd o (o &&& m))
                    have hall2 : AllS P N (o &&& m) := fun i i' x y => by
                      obtain ⟨-, p, p1, p2⟩ := zb i x
                      obtain ⟨-, q, q1, q2⟩ := zb i' y
                      exact sort_one s1 p1 q1 p2 q2
                    have hsub2 : (o &&& m) &&& ma = o &&& m := sub_and.mpr fun i hi => by
                      obtain ⟨x1, p, p1, p2⟩ := zb i hi
                      exact (mbit i).mpr ⟨x1, sort_one s1 hpf p1 s2 p2⟩
                    have := hdone _ hsub2 (by omega) hall2 k2 k4
                    have := Fw_ge k4 hcv2
                    omega
              · show n_X10_fewestSorts_26_b89_l F (fun S x1 => n_X10_fewestSorts_26_r F d S x1) (fun S x1 x3 x4 x5 x6 => rc (S, x1, x3, x4, x5, x6)) S' (nI b) (nI o) (nI ma) (nI best) (nI x) = _
                unfold n_X10_fewestSorts_26_b89_l
                rw [if_pos (show nI x ≤ 0 by rw [q0]; decide)]
            · by_cases q2 : best ≤ 2
              · refine Or.inl ⟨(S', best), ⟨hf, hm', hcv, fun j hj w => two j (by omega) w⟩, fun rc => ?_⟩
                show n_X10_fewestSorts_26_b89_l F (fun S x1 => n_X10_fewestSorts_26_r F d S x1) (fun S x1 x3 x4 x5 x6 => rc (S, x1, x3, x4, x5, x6)) S' (nI b) (nI o) (nI ma) (nI best) (nI x) = _
                unfold n_X10_fewestSorts_26_b89_l
                rw [if_pos (show nI best ≤ 2 from nI_le (b := 2) q2 (by omega)), ite_self]
              · obtain ⟨r2, hr2, er2⟩ := x_allShare hF (Ap_fr ha hf (by decide)) h12 hxl (show x < 4096 by omega)
                have nxt : ∀ z, z &&& ma = z → (x - 1) &&& ma < z → z ≠ x → x < z := fun z z1 z2 z3 => by
                  by_cases w : z < x
                  · have := sub_next (x + 1) ma x z (by omega) hsub z1 w
                    omega
                  · omega
                have le1 : (x - 1) &&& ma ≤ x - 1 := Nat.and_le_left
                have sub1 : ((x - 1) &&& ma) &&& ma = (x - 1) &&& ma := sub_and.mpr fun i hi => by
                  rw [Nat.testBit_and, Bool.and_eq_true] at hi
                  exact hi.2
                have e1 : ∀ rc : (Zs × Int32 × Int32 × Int32 × Int32 × Int32) → Option (Int32 × Zs), n_X10_fewestSorts_26_b89_l F (fun S x1 => n_X10_fewestSorts_26_r F d S x1) (fun S x1 x3 x4 x5 x6 => rc (S, x1, x3, x4, x5, x6)) S' (nI b) (nI o) (nI ma) (nI best) (nI x) = if r2 = 0 then rc (S', nI b, nI o, nI ma, nI best, nI ((x - 1) &&& ma)) else zcl (n_X10_fewestSorts_26_r F d S' (nI (sd o x))) (fun v4 S3 => zlet (if (1 + v4) < nI best then (1 + v4) else nI best) (fun v5 => rc (S3, nI b, nI o, nI ma, v5, nI ((x - 1) &&& ma)))) := by
                  intro rc
                  unfold n_X10_fewestSorts_26_b89_l n_X10_fewestSorts_26_b128
                  rw [if_neg (show ¬ nI x ≤ 0 from nI_ge (a := 0) (by omega) (by omega)), if_neg (show ¬ nI best ≤ 2 from nI_ge (a := 2) (by omega) (by omega)), er2, zcS, show nI x - 1 = nI (x - 1) from pk_sub (b := 1) (by omega), and_I (by omega) (by omega), zlS, sd_I (by omega) (by omega)]
                  simp only [zlS]
                by_cases g : AllS P N x
                · have hob : ∀ j, (sd o x).testBit j = true → f + 1 ≤ j ∧ j < N.length := fun j hj => by
                    rw [sd_bit, Bool.and_eq_true] at hj
                    exact obits j hj.1
                  obtain ⟨k1, S3, k11, k12, k13, k14, k15⟩ := ih (f + 1) (sd o x) S' (by omega) (by omega) hob (Ap_fr ha hf (by decide)) hm'
                  refine Or.inr ⟨_, ⟨S3, min (1 + k1) best, (x - 1) &&& ma, rfl, by omega, sub1, fr_t hf k14, k15, ?_, by omega, fun z z1 z2 z3 k hk => ?_⟩, fun rc => (e1 rc).trans ?_⟩
                  · rcases (show min (1 + k1) best = 1 + k1 ∨ min (1 + k1) best = best by omega) with w | w
                    · rw [w]
                      obtain ⟨s, s1, s2⟩ := one_sort hBr h24 (I := fun i => i = f ∨ x.testBit i = true) (by
                        rintro i j (rfl | hi') (rfl | hj')
                        · exact hff
                        · exact ((mbit j).mp (hxb j hj')).2
                        · exact shs _ _ ((mbit i).mp (hxb i hi')).2
                        · exact g i j hi' hj')
                      rw [Nat.add_comm]
                      refine Cv_s s1 (Cv_mono k12.1 ?_)
                      rintro p ⟨⟨j, j1, j2⟩, j3⟩
                      refine ⟨j, ?_, j2⟩
                      rw [sd_bit, Bool.and_eq_true, Bool.not_eq_true']
                      refine ⟨(obit j).mpr ⟨j1, fun e => j3 (s2 j p (Or.inl e) j2)⟩, ?_⟩
                      cases e : x.testBit j with
                      | false => rfl
                      | true => exact absurd (s2 j p (Or.inr e) j2) j3
                    · rw [w]; exact hcv
                  · by_cases e : z = x
                    · rw [e] at hk
                      have := Fw_eq hk k12
                      omega
                    · have := hdone z z1 (nxt z z1 z2 e) z3 k hk
                      omega
                  · rw [if_neg (fun w => (isB_0 hr2).mp w g), k13, zcS, zlS, show (1 : Int32) + nI k1 = nI (1 + k1) from nI_add 1 k1, min_I (by omega) (by omega)]
                · refine Or.inr ⟨_, ⟨S', best, (x - 1) &&& ma, rfl, by omega, sub1, hf, hm', hcv, hbe, fun z z1 z2 z3 k hk => ?_⟩, fun rc => (e1 rc).trans (if_pos ((isB_0 hr2).mpr g))⟩
                  by_cases e : z = x
                  · rw [e] at z3; exact absurd z3 g
                  · exact hdone z z1 (nxt z z1 z2 e) z3 k hk) (by
            rintro _ ⟨S', best, x, rfl, hx, hsub, hf, hm', hcv, hbe, hdone⟩
            omega) F (S1, nI b, nI o, nI ma, nI (1 + k0), nI ma) ⟨S1, 1 + k0, ma, rfl, by omega, Nat.and_self _, k04, k05, first, Nat.le_refl _, fun z z1 z2 => by
              have : z ≤ ma := by rw [← z1]; exact Nat.and_le_right
              omega⟩ (by omega)
          have e : n_X10_fewestSorts_26_b89 F (fun S x1 => n_X10_fewestSorts_26_r F d S x1) S1 (nI b) (nI o) (nI ma) (nI (1 + k0)) (nI ma) = _ := e
          rw [e]
          exact keep S2 kk c1 c2 c3
      · have k0 : ¬ k = 0 := fun e => by
          rw [e] at k3
          exact hb0 ((bits0 hbl).mpr (Cv_0.mp k3.1))
        rw [k2, if_neg (nI_ne0 (by omega) (by omega)), zld_nI _ _ _ (show b < 4096 by omega) (by omega), k2]
        exact ⟨k, S, k1, k3, rfl, fr_rf _ _ _, hm⟩
