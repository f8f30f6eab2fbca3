/-! towns: the class chooses -/
theorem x_metBy {F : Nat} (hF : 2 ^ 40 < F) {S : Zs} {P : Nat → Prop} {N : List (Nat × Nat)} (h : Th 19 20 21 363 364 S P N) (h12 : N.length ≤ 12) {s : Nat} (hs : s < 4096) : ∃ m, (m < 2 ^ N.length ∧ MB' N s m) ∧ n_X9_metBy_18 F S (nI s) = some (nI m, S) := by
  obtain ⟨v, hv, ev⟩ : ∃ v, isW v N.length (fun i => ∃ p, N[i]? = some p ∧ Mt s p) ∧ n_X9_metBy_18_b4 F S (nI s) 0 0 = some (v, S) := zfix_for (f := fun (rc : (Zs × Int32 × Int32 × Int32) → Option (Int32 × Zs)) (u : (Zs × Int32 × Int32 × Int32)) => n_X9_metBy_18_b4_l F  (fun S x1 x2 x3 => rc (S, x1, x2, x3)) u.1 u.2.1 u.2.2.1 u.2.2.2) N.length (fun i u => ∃ v, u = (S, nI s, v, nI i) ∧ isW v i (fun i => ∃ p, N[i]? = some p ∧ Mt s p)) (fun v : Int32 => isW v N.length (fun i => ∃ p, N[i]? = some p ∧ Mt s p)) (fun v => some (v, S)) (by
    rintro i _ hi ⟨v, rfl, hv⟩
    obtain ⟨p, p0, p1, p2, p3, p4⟩ := th_at h hi
    have e1 : ∀ rc : (Zs × Int32 × Int32 × Int32) → Option (Int32 × Zs), n_X9_metBy_18_b4_l F (fun S x1 x2 x3 => rc (S, x1, x2, x3)) S (nI s) v (nI i) = if ofB s p.1 = true ∧ ofB s p.2 = true then rc (S, nI s, v ||| ((1 : Int32) <<< (nI i &&& 31)), nI (i + 1)) else rc (S, nI s, v, nI (i + 1)) := by
      intro rc
      unfold n_X9_metBy_18_b4_l n_X9_metBy_18_b44
      rw [zgS, h.2.2.1, if_neg (nI_ge hi (by omega)), zld_nI _ _ _ (show i < 29 by omega) (by omega), p1, x_isOf S (by omega) p3, zcS, zld_nI _ _ _ (show i < 29 by omega) (by omega), p2, x_isOf S (by omega) p4, zcS, zlS, zlS, zlS, nI_1]
      by_cases g1 : ofB s p.1 = true
      · rw [bI_t g1, if_neg (by decide)]
        by_cases g2 : ofB s p.2 = true
        · rw [bI_t g2, if_neg (by decide), if_pos ⟨g1, g2⟩]
        · rw [bI_f g2, if_pos rfl, if_neg (fun w => g2 w.2)]
      · rw [bI_f g1, if_pos rfl, if_neg (fun w => g1 w.1)]
    by_cases g : Mt s p
    · exact Or.inr ⟨_, ⟨_, rfl, isW_t hv (by omega) ⟨p, p0, g⟩⟩, fun rc => (e1 rc).trans (if_pos g)⟩
    · refine Or.inr ⟨_, ⟨_, rfl, isW_f hv ?_⟩, fun rc => (e1 rc).trans (if_neg g)⟩
      rintro ⟨q, q1, q2⟩
      rw [p0] at q1
      rw [← Option.some.inj q1] at q2
      exact g q2) (by
    rintro _ ⟨v, rfl, hv⟩
    refine ⟨v, hv, fun rc => ?_⟩
    show n_X9_metBy_18_b4_l F (fun S x1 x2 x3 => rc (S, x1, x2, x3)) S (nI s) v (nI N.length) = _
    unfold n_X9_metBy_18_b4_l
    rw [zgS, h.2.2.1, if_pos (nI_le (Nat.le_refl _) (by omega))]) F (S, nI s, 0, 0) ⟨0, rfl, isW_0 _⟩ (by omega)
  obtain ⟨m, m1, m2, m3⟩ := isW_nat hv
  refine ⟨m, ⟨m1, fun i => ⟨fun w => ((m3 i).mp w).2, fun w => (m3 i).mpr ⟨?_, w⟩⟩⟩, by rw [← m2]; exact ev⟩
  obtain ⟨p, hp, -⟩ := w
  exact (List.getElem?_eq_some_iff.mp hp).1
theorem full_bit (n i : Nat) : (2 ^ n - 1).testBit i = decide (i < n) := Nat.testBit_two_pow_sub_one n i
theorem Dm_full {N : List (Nat × Nat)} (p : Nat × Nat) : Dm N (2 ^ N.length - 1) p ↔ p ∈ N := by
  constructor
  · exact Dm_in
  · intro h
    obtain ⟨i, hi, e⟩ := List.getElem_of_mem h
    exact ⟨i, by rw [full_bit, decide_eq_true hi], by rw [List.getElem?_eq_getElem hi, e]⟩
theorem full_I {h : Nat} (hh : h ≤ 12) : ((1 : Int32) <<< (nI h &&& 31)) - 1 = nI (2 ^ h - 1) := by
  rw [pow_I (by omega)]
  exact pk_sub (b := 1) Nat.one_le_two_pow
def Row27 (S : Zs) (T : List Nat) : Prop := ∀ j r, T[j]? = some r → S.1 27 j = nI r
theorem x_choose {F : Nat} (hF : 2 ^ 40 < F) {S : Zs} {P : Nat → Prop} {N : List (Nat × Nat)} (h : Th 19 20 21 363 364 S P N) (h12 : N.length ≤ 12) (hc : ∀ p ∈ N, Can P p.1 p.2) (ha : Ap P N S N.length) (hm : Mem P N S) (hH : ∀ s, s < 4096 → (HW S s ↔ OkS P s)) : ∃ k R S2, k ≤ 12 ∧ Fw (Cs P) (· ∈ N) k ∧ Gr (Cs P) k (· ∈ N) R ∧ n_X10_choose_26_18 F S = some (nI k, S2) ∧ fr [27, 29] [] S S2 ∧ Row27 S2 R := by
  have hp12 : 2 ^ N.length ≤ 2 ^ 12 := Nat.pow_le_pow_right (by omega) h12
  have hpos : 0 < 2 ^ N.length := Nat.two_pow_pos _
  have h24 : ∀ p ∈ N, p.1 < 24 ∧ p.2 < 24 := fun p hp => by
    obtain ⟨i, hi, e⟩ := List.getElem_of_mem hp
    have := h.2.2.2.2 i p (by rw [List.getElem?_eq_getElem hi, e])
    exact this.2.2
  have few := fun (b : Nat) (S' : Zs) (x : ∀ i, b.testBit i = true → i < N.length) (y : Ap P N S' N.length) (z : Mem P N S') => x_few hF h12 h24 hc 16 0 b S' (by omega) (by omega) (fun i hi => ⟨Nat.zero_le _, x i hi⟩) y z
  have fb : ∀ i, (2 ^ N.length - 1).testBit i = true → i < N.length := fun i hi => by rw [full_bit] at hi; exact of_decide_eq_true hi
  obtain ⟨sz, S1, z1, z2, z3, z4, z5⟩ := few _ S fb ha hm
  have z3 : n_X10_fewestSorts_26 F S (nI (2 ^ N.length - 1)) = some (nI sz, S1) := z3
  obtain ⟨⟨R, S2⟩, ⟨c1, c2, c3⟩, e⟩ := zfix_for (f := fun (rc : (Zs × Int32 × Int32 × Int32 × Int32) → Option (Int32 × Zs)) (u : (Zs × Int32 × Int32 × Int32 × Int32)) => n_X10_choose_26_18_b21_l F  (fun S x2 x3 x4 x5 => rc (S, x2, x3, x4, x5)) u.1 u.2.1 u.2.2.1 u.2.2.2.1 u.2.2.2.2) 4096 (fun i u => ∃ S' o T, u = (S', nI o, nI sz, nI T.length, nI i) ∧ T.length ≤ sz ∧ (∀ j, o.testBit j = true → j < N.length) ∧ Fw (Cs P) (Dm N o) (sz - T.length) ∧ fr [27, 29] [] S S' ∧ Mem P N S' ∧ Row27 S' T ∧ (∀ k, sz - T.length = k + 1 → ∀ t, t < i → Cs P t → ¬ Fw (Cs P) (Wo (Dm N o) t) k) ∧ ∀ R', Gr (Cs P) (sz - T.length) (Dm N o) R' → Gr (Cs P) sz (Dm N (2 ^ N.length - 1)) (T ++ R')) (fun q : List Nat × Zs => Gr (Cs P) sz (Dm N (2 ^ N.length - 1)) q.1 ∧ fr [27, 29] [] S q.2 ∧ Row27 q.2 q.1) (fun q => some (nI sz, q.2)) (by
    rintro i _ hi ⟨S', o, T, rfl, hT, ho, hfw, hf, hmem, hrow, hno, hgr⟩
    have ho2 := bits_lt ho
    by_cases q : sz ≤ T.length
    · refine Or.inl ⟨(T, S'), ⟨by have := hgr [] (by rw [show sz - T.length = 0 by omega]; exact rfl); rw [List.append_nil] at this; exact this, hf, hrow⟩, fun rc => ?_⟩
      show n_X10_choose_26_18_b21_l F (fun S x2 x3 x4 x5 => rc (S, x2, x3, x4, x5)) S' (nI o) (nI sz) (nI T.length) (nI i) = _
      unfold n_X10_choose_26_18_b21_l n_X10_choose_26_18_b110
      rw [if_neg (show ¬ (4096 : Int32) ≤ nI i from nI_ge (b := 4096) hi (by omega)), if_pos (nI_le q (by omega)), show T.length = sz by omega]
    · obtain ⟨k, hk⟩ : ∃ k, sz - T.length = k + 1 := ⟨sz - T.length - 1, by omega⟩
      obtain ⟨r, hr, er⟩ := x_hasS (F := F) S' hi
      have hHW : HW S' i ↔ OkS P i := by
        unfold HW
        rw [hf.2.2]
        exact hH i hi
      have hTh : Th 19 20 21 363 364 S' P N := Th_28 h hf (by decide)
      obtain ⟨m, ⟨m1, m2⟩, em⟩ := x_metBy hF hTh h12 hi
      have eb : ∀ (rc : (Zs × Int32 × Int32 × Int32 × Int32) → Option (Int32 × Zs)), n_X10_choose_26_18_b21_l F (fun S x2 x3 x4 x5 => rc (S, x2, x3, x4, x5)) S' (nI o) (nI sz) (nI T.length) (nI i) = if r = 0 then rc (S', nI o, nI sz, nI T.length, nI (i + 1)) else n_X10_choose_26_18_b59 F (fun S x2 x3 x4 x5 => rc (S, x2, x3, x4, x5)) S' (nI o) (nI sz) (nI T.length) (nI i) (nI (m &&& o)) := by
        intro rc
        unfold n_X10_choose_26_18_b21_l
        rw [if_neg (show ¬ (4096 : Int32) ≤ nI i from nI_ge (b := 4096) hi (by omega)), if_neg (nI_ge (by omega) (by omega)), er, zcS, em, zcS, and_I (by omega) (by omega)]
        by_cases w : r = 0
        · rw [if_pos w, if_pos w]
          unfold n_X10_choose_26_18_b59 n_X10_choose_26_18_b104
          rw [if_pos rfl, zlS, nI_1]
        · rw [if_neg w, if_neg w]
      have pass : ¬ (Cs P i ∧ Fw (Cs P) (Wo (Dm N o) i) k) → ∀ S3, fr [29] [] S' S3 → Mem P N S3 → ∃ b, (∃ S' o T, b = (S', nI o, nI sz, nI T.length, nI (i + 1)) ∧ T.length ≤ sz ∧ (∀ j, o.testBit j = true → j < N.length) ∧ Fw (Cs P) (Dm N o) (sz - T.length) ∧ fr [27, 29] [] S S' ∧ Mem P N S' ∧ Row27 S' T ∧ (∀ k, sz - T.length = k + 1 → ∀ t, t < i + 1 → Cs P t → ¬ Fw (Cs P) (Wo (Dm N o) t) k) ∧ ∀ R', Gr (Cs P) (sz - T.length) (Dm N o) R' → Gr (Cs P) sz (Dm N (2 ^ N.length - 1)) (T ++ R')) ∧ b = (S3, nI o, nI sz, nI T.length, nI (i + 1)) := by
        intro w S3 f3 m3
        refine ⟨_, ⟨S3, o, T, rfl, hT, ho, hfw, fr_t hf (fr_w f3 (by decide) (by decide)), m3, fun j r hj => ?_, fun k' hk' t ht hC z => ?_, hgr⟩, rfl⟩
        · rw [f3.2.1 27 (by decide) (by decide)]; exact hrow j r hj
        · by_cases e : t = i
          · rw [e] at z hC
            rw [show k' = k by omega] at z
            exact w ⟨hC, z⟩
          · exact hno k' hk' t (by omega) hC z
      by_cases hok : OkS P i
      · have hCi : Cs P i := ⟨hi, hok⟩
        have eb2 := fun rc => (eb rc).trans (if_neg (fun w => (isB_0 hr).mp w (hHW.mpr hok)))
        by_cases hmo : m &&& o = 0
        · have nomet : ∀ p, Wo (Dm N o) i p ↔ Dm N o p := fun p => ⟨fun z => z.1, fun z => ⟨z, fun y => by
            obtain ⟨j, j1, j2⟩ := z
            have : (m &&& o).testBit j = true := by rw [Nat.testBit_and, (m2 j).mpr ⟨p, j2, y⟩, j1]; rfl
            rw [hmo, Nat.zero_testBit] at this
            exact absurd this (by decide)⟩⟩
          obtain ⟨b, b1, b2⟩ := pass (fun w => by
            have := Fw_eq ((Fw_c nomet).mp w.2) hfw
            omega) S' (fr_rf _ _ _) hmem
          refine Or.inr ⟨b, b1, fun rc => (eb2 rc).trans ?_⟩
          unfold n_X10_choose_26_18_b59 n_X10_choose_26_18_b104
          rw [if_pos (by rw [hmo]; rfl), zlS, nI_1, b2]
        · have hmo2 : m &&& o < 2 ^ N.length := Nat.lt_of_le_of_lt Nat.and_le_left m1
          have hsd : ∀ p, Dm N (sd o (m &&& o)) p ↔ Wo (Dm N o) i p := fun p => by
            rw [← Dm_wo m2 p]
            have : sd o (m &&& o) = sd o m := Nat.eq_of_testBit_eq fun j => by
              rw [sd_bit, sd_bit, Nat.testBit_and]
              cases o.testBit j <;> cases m.testBit j <;> rfl
            rw [this]
          have ho' : ∀ j, (sd o (m &&& o)).testBit j = true → j < N.length := fun j hj => by
            rw [sd_bit, Bool.and_eq_true] at hj
            exact ho j hj.1
          have hap : Ap P N S' N.length := Ap_fr ha hf (by decide)
          obtain ⟨k1, S3, k11, k12, k13, k14, k15⟩ := few _ S' ho' hap hmem
          have k13 : n_X10_fewestSorts_26 F S' (nI (sd o (m &&& o))) = some (nI k1, S3) := k13
          have k12' : Fw (Cs P) (Wo (Dm N o) i) k1 := (Fw_c hsd).mp k12
          have eb3 : ∀ rc : (Zs × Int32 × Int32 × Int32 × Int32) → Option (Int32 × Zs), n_X10_choose_26_18_b59 F (fun S x2 x3 x4 x5 => rc (S, x2, x3, x4, x5)) S' (nI o) (nI sz) (nI T.length) (nI i) (nI (m &&& o)) = if k1 = k then rc (zp S3 27 T.length (nI i), nI (sd o (m &&& o)), nI sz, nI (T.length + 1), nI (i + 1)) else rc (S3, nI o, nI sz, nI T.length, nI (i + 1)) := by
            intro rc
            unfold n_X10_choose_26_18_b59 n_X10_choose_26_18_b104
            rw [if_neg (nI_ne0 (by omega) (by omega)), sd_I (by omega) (by omega), k13, zcS, pk_sub (by omega), show nI (sz - T.length) - 1 = nI k by rw [hk]; exact pk_sub (b := 1) (by omega), zst_nI _ _ _ _ (show T.length < 12 by omega) (by omega), zlS, zlS, zlS, zlS, nI_1, nI_1, ifI (by omega) (by omega)]
          by_cases hkk : k1 = k
          · subst hkk
            have hnx : Nx (Cs P) (Dm N o) k1 i := ⟨hCi, k12', fun t ht hC => hno k1 hk t ht hC⟩
            refine Or.inr ⟨_, ⟨zp S3 27 T.length (nI i), sd o (m &&& o), T ++ [i], by rw [List.length_append]; rfl, by rw [List.length_append]; show T.length + 1 ≤ sz; omega, ho', ?_, fr_t (fr_t hf (fr_w k14 (by decide) (by decide))) (fr_r _ _ (by decide) (by decide)), fun b hb' => ?_, fun j r hj => ?_, fun k2 hk2 t ht hC z => ?_, fun R' hR' => ?_⟩, fun rc => (eb2 rc).trans ((eb3 rc).trans (if_pos rfl))⟩
            · rw [List.length_append]
              show Fw (Cs P) _ (sz - (T.length + 1))
              rw [show sz - (T.length + 1) = k1 by omega]
              exact k12
            · rw [zp_off _ _ (Or.inl (by decide))]; exact k15 b hb'
            · by_cases e : j < T.length
              · rw [List.getElem?_append_left e] at hj
                rw [zp_off _ _ (Or.inr (by omega)), k14.2.1 27 (by decide) (by decide)]
                exact hrow j r hj
              · rw [List.getElem?_append_right (by omega)] at hj
                have e2 : j - T.length = 0 := by
                  refine Classical.byContradiction fun w => ?_
                  rw [List.getElem?_eq_none (by show 1 ≤ j - T.length; omega)] at hj
                  exact absurd hj (by simp)
                rw [e2] at hj
                rw [show j = T.length by omega, zp_at, ← Option.some.inj (show some i = some r from hj)]
            · rw [List.length_append] at hk2
              have hk2 : sz - (T.length + 1) = k2 + 1 := hk2
              have e : k1 = k2 + 1 := by omega
              rw [hk, e] at hfw
              rw [e] at hnx
              exact Nx_inv hfw hnx (by omega) hC ((Fw_c (Wo_c hsd t)).mp z)
            · rw [List.length_append] at hR'
              have hR' : Gr (Cs P) (sz - (T.length + 1)) _ R' := hR'
              rw [show sz - (T.length + 1) = k1 by omega] at hR'
              rw [List.append_assoc]
              refine hgr (i :: R') ?_
              rw [hk]
              exact ⟨hnx, Gr_c _ _ _ _ hsd hR'⟩
          · obtain ⟨b, b1, b2⟩ := pass (fun w => hkk (Fw_eq k12' w.2)) S3 k14 k15
            exact Or.inr ⟨b, b1, fun rc => (eb2 rc).trans ((eb3 rc).trans ((if_neg hkk).trans (by rw [b2])))⟩
      · obtain ⟨b, b1, b2⟩ := pass (fun w => hok w.1.2) S' (fr_rf _ _ _) hmem
        exact Or.inr ⟨b, b1, fun rc => (eb rc).trans ((if_pos ((isB_0 hr).mpr (fun w => hok (hHW.mp w)))).trans (by rw [b2]))⟩) (by
    rintro _ ⟨S', o, T, rfl, hT, ho, hfw, hf, hmem, hrow, hno, hgr⟩
    have q : T.length = sz := by
      refine Classical.byContradiction fun w => ?_
      obtain ⟨k, hk⟩ : ∃ k, sz - T.length = k + 1 := ⟨sz - T.length - 1, by omega⟩
      rw [hk] at hfw
      obtain ⟨s, s1, s2⟩ := Fw_nx hfw
      exact hno k hk s s1.1 s1 s2
    refine ⟨(T, S'), ⟨by have := hgr [] (by rw [show sz - T.length = 0 by omega]; exact rfl); rw [List.append_nil] at this; exact this, hf, hrow⟩, fun rc => ?_⟩
    show n_X10_choose_26_18_b21_l F (fun S x2 x3 x4 x5 => rc (S, x2, x3, x4, x5)) S' (nI o) (nI sz) (nI T.length) (nI 4096) = _
    unfold n_X10_choose_26_18_b21_l n_X10_choose_26_18_b110
    rw [if_pos (show (4096 : Int32) ≤ nI 4096 by decide), q]) F (S1, nI (2 ^ N.length - 1), nI sz, 0, 0) ⟨S1, 2 ^ N.length - 1, [], rfl, by simp, fb, z2, fr_w z4 (by decide) (by decide), z5, fun j r hj => absurd hj (by simp), fun k hk t ht => absurd ht (by omega), fun R' hR' => hR'⟩ (by omega)
  refine ⟨sz, R, S2, z1, (Fw_c Dm_full).mp z2, Gr_c _ _ _ _ Dm_full c1, ?_, c2, c3⟩
  unfold n_X10_choose_26_18 n_X10_choose_26_18_e
  rw [zgS, h.2.2.1, full_I h12, zlS, z3, zcS]
  exact e
/-- the row is told -/
theorem x_tell {F : Nat} (hF : 2 ^ 40 < F) {S : Zs} {R : List Nat} (h : Row27 S R) (hR : R.length ≤ 12) : ∃ S2, n_X11_tellTown_0 F S (nI R.length) = some (nI R.length, S2) ∧ fr [47] [10] S S2 ∧ S2.1 0 10 = nI R.length ∧ ∀ j r, R[j]? = some r → S2.1 47 j = nI r := by
  obtain ⟨S2, ⟨c1, c2, c3⟩, e⟩ := zfix_for (f := fun (rc : (Zs × Int32 × Int32) → Option (Int32 × Zs)) (u : (Zs × Int32 × Int32)) => n_X11_tellTown_0_b2_l F  (fun S x1 x2 => rc (S, x1, x2)) u.1 u.2.1 u.2.2) R.length (fun i u => ∃ T, u = (T, nI R.length, nI i) ∧ fr [47] [] S T ∧ ∀ j r, j < i → R[j]? = some r → T.1 47 j = nI r) (fun S2 : Zs => fr [47] [10] S S2 ∧ S2.1 0 10 = nI R.length ∧ ∀ j r, R[j]? = some r → S2.1 47 j = nI r) (fun S2 => some (nI R.length, S2)) (by
    rintro i _ hi ⟨T, rfl, hf, hj⟩
    obtain ⟨r, hr⟩ : ∃ r, R[i]? = some r := ⟨_, List.getElem?_eq_getElem hi⟩
    refine Or.inr ⟨_, ⟨zp T 47 i (nI r), rfl, fr_t hf (fr_r _ _ (by decide) (by decide)), fun j r2 hj2 hr2 => ?_⟩, fun rc => ?_⟩
    · by_cases e : j = i
      · rw [e, hr] at hr2
        rw [e, zp_at, Option.some.inj hr2]
      · rw [zp_off _ _ (Or.inr e)]; exact hj j r2 (by omega) hr2
    · show n_X11_tellTown_0_b2_l F (fun S x1 x2 => rc (S, x1, x2)) T (nI R.length) (nI i) = _
      unfold n_X11_tellTown_0_b2_l
      rw [if_neg (nI_ge hi (by omega)), zld_nI _ _ _ (show i < 12 by omega) (by omega), hf.2.1 27 (by decide) (by decide), h i r hr, zst_nI _ _ _ _ (show i < 24 by omega) (by omega), zlS, nI_1]) (by
    rintro _ ⟨T, rfl, hf, hj⟩
    refine ⟨zp T 0 10 (nI R.length), ⟨fr_t (fr_w hf (by decide) (by decide)) (fr_p _ (by decide)), zp_at _ _ _ _, fun j r hr => ?_⟩, fun rc => ?_⟩
    · rw [zp_off _ _ (Or.inl (by decide))]
      exact hj j r (List.getElem?_eq_some_iff.mp hr).1 hr
    · show n_X11_tellTown_0_b2_l F (fun S x1 x2 => rc (S, x1, x2)) T (nI R.length) (nI R.length) = _
      unfold n_X11_tellTown_0_b2_l n_X11_tellTown_0_b37
      rw [if_pos (nI_le (Nat.le_refl _) (by omega)), if_neg (nI_pos (by omega)), zpS]) F (S, nI R.length, 0) ⟨S, rfl, fr_rf _ _ _, fun j r hj => absurd hj (by omega)⟩ (by omega)
  exact ⟨S2, e, c1, c2, c3⟩
theorem x_tell0 {F : Nat} (hF : 2 ^ 40 < F) (S : Zs) {v : Int32} (h0 : v ≤ 0) (h1 : v < 0) : n_X11_tellTown_0 F S v = some (v, S) := by
  obtain ⟨-, -, e⟩ := zfix_for (f := fun (rc : (Zs × Int32 × Int32) → Option (Int32 × Zs)) (u : (Zs × Int32 × Int32)) => n_X11_tellTown_0_b2_l F  (fun S x1 x2 => rc (S, x1, x2)) u.1 u.2.1 u.2.2) 0 (fun _ u => u = (S, v, 0)) (fun _ : Unit => True) (fun _ => some (v, S)) (fun i a hi => absurd hi (by omega)) (by
    rintro _ rfl
    refine ⟨(), trivial, fun rc => ?_⟩
    show n_X11_tellTown_0_b2_l F (fun S x1 x2 => rc (S, x1, x2)) S v 0 = _
    unfold n_X11_tellTown_0_b2_l n_X11_tellTown_0_b37
    rw [if_pos h0, if_pos h1]) F (S, v, 0) rfl (by omega)
  exact e
