/-! WHAT FOLLOWS, on both sides -/
def Con (L : List Nat) (lv : Int32) : Prop := (∀ c ∈ L, 1152 ≤ c → Can (· ∈ L) (sj c) (tg c)) ∧ ∀ k, k < 12 → hb lv k = true → Can (· ∈ L) (2 * k) (2 * k)
theorem m_can {F : Nat} {M : Zs} {P : Nat → Prop} (hT : TB M 7 P) (hB : isB (M.1 0 20) (¬ Br P)) {x y : Nat} (hx : x < 24) (hy : y < 24) : ∃ r, isB r (Can P x y) ∧ n_X12_can_0 F M (nI x) (nI y) = some (r, M) := by
  have e : n_X12_can_0 F M (nI x) (nI y) = if M.1 0 20 = 0 then n_X12_can_0_b30 F M else zcl (n_X12_isTorn F M (M.1 7 x ||| M.1 7 y)) (fun v5 S4 => if v5 = 0 then n_X12_can_0_b31 F S4 1 else n_X12_can_0_b30 F S4) := by
    unfold n_X12_can_0 n_X12_can_0_e
    simp (disch := omega) only [zgf, zld_nI]
  rw [e_X12_isTorn, zcS] at e
  by_cases hcan : Can P x y
  · refine ⟨1, Or.inl ⟨rfl, hcan⟩, ?_⟩
    rw [e, if_neg (fun g => (isB_0 hB).mp g hcan.1), if_pos (bI_f (fun g => g ((torn_s _).mpr ((TB_torn hT hx hy).mpr hcan.2))))]
    exact zrb_1 M
  · refine ⟨0, Or.inr ⟨rfl, hcan⟩, ?_⟩
    rw [e]
    by_cases hbr : Br P
    · rw [if_pos ((isB_0 hB).mpr (fun g => g hbr))]; exact zrb_0 M
    · rw [if_neg (fun g => (isB_0 hB).mp g hbr), if_neg (fun g => hcan ⟨hbr, (TB_torn hT hx hy).mp ((torn_s _).mp (Decidable.not_not.mp (bI_eq0.mp g)))⟩)]; exact zrb_0 M
theorem m_are1 {F : Nat} (hF : 2 ^ 40 < F) {M : Zs} {L : List Nat} {P : Nat → Prop} (hL : Ld M L) (hT : TB M 7 P) (hB : isB (M.1 0 20) (¬ Br P)) : ∃ r, isB r (∀ c ∈ L, 1152 ≤ c → Can P (sj c) (tg c)) ∧ n_X12_areThere_0 F M = n_X12_areThere_0_b88 F M r 0 := by
  obtain ⟨l1, l2, l3⟩ := id hL
  exact zfix_for (f := fun (rc : (Zs × Int32 × Int32) → Option (Int32 × Zs)) (u : (Zs × Int32 × Int32)) => n_X12_areThere_0_b4_l F  (fun S x1 x2 => rc (S, x1, x2)) u.1 u.2.1 u.2.2) L.length (fun i a => a.1 = M ∧ a.2.2 = nI i ∧ isB a.2.1 (∀ j c, j < i → L[j]? = some c → 1152 ≤ c → Can P (sj c) (tg c))) (fun r : Int32 => isB r (∀ c ∈ L, 1152 ≤ c → Can P (sj c) (tg c))) (fun r => n_X12_areThere_0_b88 F M r 0) (by
    rintro i ⟨S', v, x⟩ hi ⟨hs, hx, hI⟩
    have hs : S' = M := hs
    have hx : x = nI i := hx
    subst hs hx
    have hI : isB v (∀ j c, j < i → L[j]? = some c → 1152 ≤ c → Can P (sj c) (tg c)) := hI
    obtain ⟨c, hc⟩ : ∃ c, L[i]? = some c := ⟨L[i], List.getElem?_eq_getElem hi⟩
    obtain ⟨k1, k2⟩ := l3 i c hc
    have hpd := pd_lt c
    have e : ∀ rc : (Zs × Int32 × Int32) → Option (Int32 × Zs), n_X12_areThere_0_b4_l F (fun S x1 x2 => rc (S, x1, x2)) S' v (nI i) = if v = 0 then rc (S', 0, nI (i + 1)) else zcl (n_X12_isOfAll F S' (nI c)) (fun v7 S6 => if v7 = 0 then (zld S6 6 18 (nI i) (fun v8 => zcl (n_X12_firstOf F S6 v8) (fun v10 S9 => zld S9 6 18 (nI i) (fun v11 => zcl (n_X12_formOf F S9 v11) (fun v13 S12 => if v13 = (2 : Int32) then (n_X12_areThere_0_b68 F (fun S x1 x2 => rc (S, x1, x2)) S12 (nI i) (nI (pd c)) v10) else (n_X12_areThere_0_b68 F (fun S x1 x2 => rc (S, x1, x2)) S12 (nI i) (nI (pd c) ^^^ 1) v10)))))) else (n_X12_areThere_0_b74 F (fun S x1 x2 => rc (S, x1, x2)) S6 (nI i))) := by
      intro rc
      unfold n_X12_areThere_0_b4_l n_X12_areThere_0_b78 n_X12_areThere_0_b79
      simp (disch := omega) only [zgf, l1, nI_le_iff, zld_nI, k1, n_sndM F _ k2, zcS, zlet, nI_1]
      rw [if_neg (by omega)]
    have fin : ∀ w, isB w (∀ j c, j < i + 1 → L[j]? = some c → 1152 ≤ c → Can P (sj c) (tg c)) → (∀ rc : (Zs × Int32 × Int32) → Option (Int32 × Zs), n_X12_areThere_0_b4_l F (fun S x1 x2 => rc (S, x1, x2)) S' v (nI i) = rc (S', w, nI (i + 1))) → (∃ c, isB c (∀ c ∈ L, 1152 ≤ c → Can P (sj c) (tg c)) ∧ ∀ rc : (Zs × Int32 × Int32) → Option (Int32 × Zs), n_X12_areThere_0_b4_l F (fun S x1 x2 => rc (S, x1, x2)) S' v (nI i) = n_X12_areThere_0_b88 F S' c 0) ∨ ∃ b : Zs × Int32 × Int32, (b.1 = S' ∧ b.2.2 = nI (i + 1) ∧ isB b.2.1 (∀ j c, j < i + 1 → L[j]? = some c → 1152 ≤ c → Can P (sj c) (tg c))) ∧ ∀ rc : (Zs × Int32 × Int32) → Option (Int32 × Zs), n_X12_areThere_0_b4_l F (fun S x1 x2 => rc (S, x1, x2)) S' v (nI i) = rc b :=
      fun w hw h => Or.inr ⟨(S', w, nI (i + 1)), ⟨rfl, rfl, hw⟩, h⟩
    have up : (∀ j c, j < i → L[j]? = some c → 1152 ≤ c → Can P (sj c) (tg c)) → (1152 ≤ c → Can P (sj c) (tg c)) → ∀ j c, j < i + 1 → L[j]? = some c → 1152 ≤ c → Can P (sj c) (tg c) := by
      intro g1 g2 j d hj hd hd2
      by_cases q : j = i
      · subst q; rw [hc] at hd; rw [← Option.some.inj hd] at hd2 ⊢; exact g2 hd2
      · exact g1 j d (by omega) hd hd2
    by_cases hA : ∀ j c, j < i → L[j]? = some c → 1152 ≤ c → Can P (sj c) (tg c)
    · have hv : ¬ v = 0 := fun g => (isB_0 hI).mp g hA
      rcases Nat.lt_or_ge c 1152 with hu | hu
      · refine fin 1 (Or.inl ⟨rfl, up hA (fun g => by omega)⟩) fun rc => ?_
        rw [e, if_neg hv, n_uniMT F _ hu, zcS, if_neg (by decide)]
        unfold n_X12_areThere_0_b74 n_X12_areThere_0_b79
        simp only [zlet, nI_1]
      · obtain ⟨r, hr, er⟩ := m_can (F := F) hT hB (sj_lt c) (tg_lt c)
        have e2 : ∀ rc : (Zs × Int32 × Int32) → Option (Int32 × Zs), n_X12_areThere_0_b4_l F (fun S x1 x2 => rc (S, x1, x2)) S' v (nI i) = n_X12_areThere_0_b68 F (fun S x1 x2 => rc (S, x1, x2)) S' (nI i) (nI (tg c)) (nI (sj c)) := by
          intro rc
          rw [e, if_neg hv, n_uniMF F _ k2 hu, zcS, if_pos rfl, zld_nI _ _ _ (by omega) (by omega), k1, n_fstM F _ k2, zcS, zld_nI _ _ _ (by omega) (by omega), k1, n_frmM F _ k2, zcS]
          rcases (show fm c = 2 ∨ fm c = 3 by unfold fm; omega) with h | h
          · rw [h, if_pos (show nI 2 = (2 : Int32) from rfl), tg_0 (by omega)]
          · rw [h, if_neg (show ¬ nI 3 = (2 : Int32) by decide), nI_x1 (by omega), tg_1 (by omega)]
        by_cases hcan : Can P (sj c) (tg c)
        · refine fin 1 (Or.inl ⟨rfl, up hA (fun _ => hcan)⟩) fun rc => ?_
          rw [e2]
          unfold n_X12_areThere_0_b68 n_X12_areThere_0_b74 n_X12_areThere_0_b79
          rw [er, zcS, if_neg (fun g => (isB_0 hr).mp g hcan)]
          simp only [zlet, nI_1]
        · refine fin 0 (Or.inr ⟨rfl, fun g => hcan (g i c (by omega) hc hu)⟩) fun rc => ?_
          rw [e2]
          unfold n_X12_areThere_0_b68 n_X12_areThere_0_b78 n_X12_areThere_0_b79
          rw [er, zcS, if_pos ((isB_0 hr).mpr hcan)]
          simp only [zlet, nI_1]
    · refine fin 0 (Or.inr ⟨rfl, fun g => hA fun j d hj => g j d (by omega)⟩) fun rc => ?_
      rw [e, if_pos ((isB_0 hI).mpr hA)]) (by
    rintro ⟨S', v, x⟩ ⟨hs, hx, hI⟩
    have hs : S' = M := hs
    have hx : x = nI L.length := hx
    subst hs hx
    refine ⟨v, isB_iff hI ⟨fun g c hc => ?_, fun g j c _ hc => g c (List.mem_of_getElem? hc)⟩, fun rc => ?_⟩
    · obtain ⟨j, hj⟩ := List.mem_iff_getElem?.mp hc
      obtain ⟨hj2, -⟩ := List.getElem?_eq_some_iff.mp hj
      exact g j c hj2 hj
    · show n_X12_areThere_0_b4_l F (fun S x1 x2 => rc (S, x1, x2)) S' v (nI L.length) = _
      unfold n_X12_areThere_0_b4_l
      simp (disch := omega) only [zgf, l1, nI_le_iff]
      rw [if_pos (by omega)]) F (M, 1, 0) ⟨rfl, rfl, Or.inl ⟨rfl, fun j c hj => absurd hj (by omega)⟩⟩ (by omega)
theorem m_are2 {F : Nat} (hF : 2 ^ 40 < F) {M : Zs} {P A : Nat → Prop} {Q : Prop} {r : Int32} (hr : isB r Q) (hT : TB M 7 P) (hB : isB (M.1 0 20) (¬ Br P)) : ∃ r2, isB r2 (Q ∧ ∀ k, k < 12 → hb (M.1 0 8) k = true → Can P (2 * k) (2 * k)) ∧ n_X12_areThere_0_b88 F M r 0 = some (r2, M) := by
  exact zfix_for (f := fun (rc : (Zs × Int32 × Int32) → Option (Int32 × Zs)) (u : (Zs × Int32 × Int32)) => n_X12_areThere_0_b88_l F  (fun S x1 x2 => rc (S, x1, x2)) u.1 u.2.1 u.2.2) 12 (fun i a => a.1 = M ∧ a.2.2 = nI i ∧ isB a.2.1 (Q ∧ ∀ k, k < i → hb (M.1 0 8) k = true → Can P (2 * k) (2 * k))) (fun r : Int32 => isB r (Q ∧ ∀ k, k < 12 → hb (M.1 0 8) k = true → Can P (2 * k) (2 * k))) (fun r => some (r, M)) (by
    rintro i ⟨S', v, x⟩ hi ⟨hs, hx, hI⟩
    have hs : S' = M := hs
    have hx : x = nI i := hx
    subst hs hx
    have hI : isB v (Q ∧ ∀ k, k < i → hb (S'.1 0 8) k = true → Can P (2 * k) (2 * k)) := hI
    have e : ∀ rc : (Zs × Int32 × Int32) → Option (Int32 × Zs), n_X12_areThere_0_b88_l F (fun S x1 x2 => rc (S, x1, x2)) S' v (nI i) = if v = 0 then rc (S', 0, nI (i + 1)) else if ¬ hb (S'.1 0 8) i = true then rc (S', 1, nI (i + 1)) else zcl (n_X12_can_0 F S' (nI (2 * i)) (nI (2 * i))) (fun v5 S4 => if v5 = 0 then n_X12_areThere_0_b126 F (fun S x1 x2 => rc (S, x1, x2)) S4 (nI i) else n_X12_areThere_0_b122 F (fun S x1 x2 => rc (S, x1, x2)) S4 (nI i)) := by
      intro rc
      unfold n_X12_areThere_0_b88_l
      simp (disch := omega) only [zgf, c12, nI_le_iff, tw, e_has, zcS, bI_eq0]
      rw [if_neg (by omega)]
      unfold n_X12_areThere_0_b126 n_X12_areThere_0_b122 n_X12_areThere_0_b127
      simp only [zlet, nI_1]
    have up : (Q ∧ ∀ k, k < i → hb (S'.1 0 8) k = true → Can P (2 * k) (2 * k)) → (hb (S'.1 0 8) i = true → Can P (2 * i) (2 * i)) → Q ∧ ∀ k, k < i + 1 → hb (S'.1 0 8) k = true → Can P (2 * k) (2 * k) := by
      intro g1 g2
      refine ⟨g1.1, fun k hk => ?_⟩
      by_cases q : k = i
      · subst q; exact g2
      · exact g1.2 k (by omega)
    by_cases hA : Q ∧ ∀ k, k < i → hb (S'.1 0 8) k = true → Can P (2 * k) (2 * k)
    · have hv : ¬ v = 0 := fun g => (isB_0 hI).mp g hA
      by_cases hl : hb (S'.1 0 8) i = true
      · obtain ⟨r, hr, er⟩ := m_can (F := F) hT hB (show 2 * i < 24 by omega) (show 2 * i < 24 by omega)
        by_cases hcan : Can P (2 * i) (2 * i)
        · refine Or.inr ⟨(S', 1, nI (i + 1)), ⟨rfl, rfl, Or.inl ⟨rfl, up hA (fun _ => hcan)⟩⟩, fun rc => ?_⟩
          show n_X12_areThere_0_b88_l F (fun S x1 x2 => rc (S, x1, x2)) S' v (nI i) = _
          rw [e, if_neg hv, if_neg (fun g => g hl), er, zcS, if_neg (fun g => (isB_0 hr).mp g hcan)]
          unfold n_X12_areThere_0_b122 n_X12_areThere_0_b127
          simp only [zlet, nI_1]
        · refine Or.inr ⟨(S', 0, nI (i + 1)), ⟨rfl, rfl, Or.inr ⟨rfl, fun g => hcan (g.2 i (by omega) hl)⟩⟩, fun rc => ?_⟩
          show n_X12_areThere_0_b88_l F (fun S x1 x2 => rc (S, x1, x2)) S' v (nI i) = _
          rw [e, if_neg hv, if_neg (fun g => g hl), er, zcS, if_pos ((isB_0 hr).mpr hcan)]
          unfold n_X12_areThere_0_b126 n_X12_areThere_0_b127
          simp only [zlet, nI_1]
      · refine Or.inr ⟨(S', 1, nI (i + 1)), ⟨rfl, rfl, Or.inl ⟨rfl, up hA (fun g => absurd g hl)⟩⟩, fun rc => ?_⟩
        show n_X12_areThere_0_b88_l F (fun S x1 x2 => rc (S, x1, x2)) S' v (nI i) = _
        rw [e, if_neg hv, if_pos hl]
    · refine Or.inr ⟨(S', 0, nI (i + 1)), ⟨rfl, rfl, Or.inr ⟨rfl, fun g => hA ⟨g.1, fun k hk => g.2 k (by omega)⟩⟩⟩, fun rc => ?_⟩
      show n_X12_areThere_0_b88_l F (fun S x1 x2 => rc (S, x1, x2)) S' v (nI i) = _
      rw [e, if_pos ((isB_0 hI).mpr hA)]) (by
    rintro ⟨S', v, x⟩ ⟨hs, hx, hI⟩
    have hs : S' = M := hs
    have hx : x = nI 12 := hx
    subst hs hx
    refine ⟨v, hI, fun rc => ?_⟩
    show n_X12_areThere_0_b88_l F (fun S x1 x2 => rc (S, x1, x2)) S' v (nI 12) = _
    unfold n_X12_areThere_0_b88_l
    rw [c12, if_pos (nI_le (by omega) (by omega))]
    exact isB_rb hI S') F (M, r, 0) ⟨rfl, rfl, isB_iff hr ⟨fun g => ⟨g, fun k hk => absurd hk (by omega)⟩, fun g => g.1⟩⟩ (by omega)
theorem m_holdsLaid {F : Nat} (hF : 2 ^ 40 < F) {M : Zs} {L : List Nat} (hL : Ld M L) : ∃ r M2, n_X12_holdsLaid_0 F M = some (r, M2) ∧ fr [7] [20] M M2 ∧ isB r (Con L (M.1 0 8)) := by
  obtain ⟨M1, e1, f1, t1, b1⟩ := m_closes hF hL
  obtain ⟨r, hr, er⟩ := m_are1 hF (Ld_fr hL f1 (by decide) (by decide)) t1 b1
  obtain ⟨r2, hr2, er2⟩ := m_are2 (A := fun _ => True) hF hr t1 b1
  rw [f1.1 8 (by decide)] at hr2
  refine ⟨r2, M1, ?_, f1, hr2⟩
  unfold n_X12_holdsLaid_0 n_X12_holdsLaid_0_e
  rw [e1, zcS, er, er2, zcS, isB_rb hr2]
theorem m_followsLaid {F : Nat} (hF : 2 ^ 40 < F) {M : Zs} {L : List Nat} (hL : Ld M L) (hl : L.length < 18) {c : Nat} (hc : c < 2304) : ∃ r M2, n_X12_followsLaid_0 F M (nI c) = some (r, M2) ∧ fr [6, 7] [18, 20] M M2 ∧ isB r (¬ Con (L ++ [ct c]) (M.1 0 8)) := by
  have hm := Ld_more hL hl (ct_lt hc)
  obtain ⟨r, M2, e, f, hr⟩ := m_holdsLaid hF hm
  have hr : isB r (Con (L ++ [ct c]) (M.1 0 8)) := hr
  have f0 : fr [6, 7] [18, 20] M (zp (zp M 6 L.length (nI (ct c))) 0 18 (nI (L.length + 1))) := fr_t (fr_r _ _ (by decide) (by decide)) (fr_p _ (by decide))
  have f1 : fr [6, 7] [18, 20] M M2 := fr_t f0 (fr_w f (by decide) (by decide))
  have e0 : n_X12_followsLaid_0 F M (nI c) = if r = 0 then n_X12_followsLaid_0_b20 F M2 1 else n_X12_followsLaid_0_b20 F M2 0 := by
    unfold n_X12_followsLaid_0 n_X12_followsLaid_0_e
    rw [n_ctrM F M hc, zcS, m_laysMore hL hl (ct_lt hc), zcS, e, zcS]
  by_cases h : Con (L ++ [ct c]) (M.1 0 8)
  · refine ⟨0, zp M2 0 18 (M2.1 0 18 - 1), ?_, fr_t f1 (fr_p _ (by decide)), Or.inr ⟨rfl, fun g => g h⟩⟩
    rw [e0, if_neg (fun g => (isB_0 hr).mp g h)]; exact zrb_0 _
  · refine ⟨1, zp M2 0 18 (M2.1 0 18 - 1), ?_, fr_t f1 (fr_p _ (by decide)), Or.inl ⟨rfl, h⟩⟩
    rw [e0, if_pos ((isB_0 hr).mpr h)]; exact zrb_1 _
def MC (M : Zs) (n : Nat) (cd : Nat → Nat) : Prop := M.1 0 3 = nI n ∧ n ≤ 16 ∧ ∀ i, i < n → M.1 2 i = nI (cd i) ∧ cd i < 2304
theorem MC_fr {R K : List Nat} {M M2 : Zs} {n : Nat} {cd : Nat → Nat} (h : MC M n cd) (f : fr R K M M2) (h1 : 3 ∉ K) (h2 : 2 ∉ R) : MC M2 n cd := by
  obtain ⟨g1, g2, g3⟩ := h
  refine ⟨by rw [f.1 3 h1]; exact g1, g2, fun i hi => ?_⟩
  rw [f.2.1 2 (by decide) h2]; exact g3 i hi
theorem m_followsFrom {F : Nat} (hF : 2 ^ 40 < F) {M : Zs} {n : Nat} {cd : Nat → Nat} (hM : MC M n cd) (b : Int32) {c : Nat} (hc : c < 2304) : ∃ r M2, n_X12_followsFrom_0 F M b (nI c) = some (r, M2) ∧ fr [6, 7] [18, 20] M M2 ∧ isB r (¬ Con (sel cd b n ++ [ct c]) (M.1 0 8)) := by
  obtain ⟨M1, e1, f1, l1⟩ := m_lays hF hM.1 hM.2.1 hM.2.2 b
  have hl := sel_len cd b n
  have hn := hM.2.1
  obtain ⟨r, M2, e2, f2, hr⟩ := m_followsLaid hF l1 (by omega) hc
  rw [f1.1 8 (by decide)] at hr
  refine ⟨r, M2, ?_, fr_t (fr_w f1 (by decide) (by decide)) f2, hr⟩
  unfold n_X12_followsFrom_0 n_X12_followsFrom_0_e
  rw [e1, zcS, e2, zcS, isB_rb hr]
theorem m_holdsBy {F : Nat} (hF : 2 ^ 40 < F) {M : Zs} {n : Nat} {cd : Nat → Nat} (hM : MC M n cd) (b : Int32) : ∃ r M2, n_X12_holdsBy_0 F M b = some (r, M2) ∧ fr [6, 7] [18, 20] M M2 ∧ isB r (Con (sel cd b n) (M.1 0 8)) := by
  obtain ⟨M1, e1, f1, l1⟩ := m_lays hF hM.1 hM.2.1 hM.2.2 b
  obtain ⟨r, M2, e2, f2, hr⟩ := m_holdsLaid hF l1
  rw [f1.1 8 (by decide)] at hr
  refine ⟨r, M2, ?_, fr_t (fr_w f1 (by decide) (by decide)) (fr_w f2 (by decide) (by decide)), hr⟩
  unfold n_X12_holdsBy_0 n_X12_holdsBy_0_e
  rw [e1, zcS, e2, zcS, isB_rb hr]
