/-! mood, figure -/
theorem Th_c {rb rx ry fh fb : Nat} {S : Zs} {P Q : Nat → Prop} {N N2 : List (Nat × Nat)} (h : Th rb rx ry fh fb S P N) (g : ∀ c, c < 1152 → (P c ↔ Q c)) (e : N = N2) : Th rb rx ry fh fb S Q N2 := by
  subst e
  exact Th_same g h
theorem x_holdsWith {F : Nat} (hF : 2 ^ 40 < F) (S : Zs) (lv : Int32) {a b c : Nat} (ha : a < 2304) (hb' : b < 2304) (hc : c < 2304) : ∃ r S2, n_X4_holdsWith_30 F S lv (nI a) (nI b) (nI c) = some (r, S2) ∧ fr [32, 33, 34] [623, 624] S S2 ∧ isB r (¬ Con [a, b, c] lv) := by
  obtain ⟨S1, e1, f1, t1⟩ := th_clear_31 hF S
  obtain ⟨S2, e2, f2, t2⟩ := th_live_31 hF t1 (by show 0 ≤ 17; omega) lv
  have l2 := lvN_len lv 12
  obtain ⟨S3, e3, f3, t3⟩ := th_add_31 hF t2 (by rw [List.nil_append]; omega) ha
  have ln : ∀ q, (nd q).length ≤ 1 := by
    intro q
    unfold nd
    split
    · exact Nat.zero_le 1
    · exact Nat.le_refl 1
  have l3 := ln a
  have l4 := ln b
  obtain ⟨S4, e4, f4, t4⟩ := th_add_31 hF t3 (by rw [List.nil_append, List.length_append]; omega) hb'
  obtain ⟨S5, e5, f5, t5⟩ := th_add_31 hF t4 (by rw [List.nil_append, List.length_append, List.length_append]; omega) hc
  have t6 : Th 32 33 34 623 624 S5 (· ∈ [a, b, c]) (bN lv [a, b, c]) := by
    refine Th_c t5 (fun d _ => ?_) ?_
    · unfold add1
      simp only [List.mem_cons, List.not_mem_nil, or_false, false_or]
      exact or_assoc
    · unfold bN
      rw [List.nil_append, List.flatMap_cons, List.flatMap_cons, List.flatMap_cons, List.flatMap_nil, List.append_nil, List.append_assoc, List.append_assoc]
  obtain ⟨r, hr, er⟩ := th_cons_31 hF t6
  have hr := isB_iff hr (bN_con _ _)
  have f : fr [32, 33, 34] [623, 624] S S5 := fr_t (fr_w f1 (by decide) (by decide)) (fr_t (fr_w f2 (by decide) (by decide)) (fr_t f3 (fr_t f4 f5)))
  have e : n_X4_holdsWith_30 F S lv (nI a) (nI b) (nI c) = if r = 0 then some (1, S5) else some (0, S5) := by
    unfold n_X4_holdsWith_30 n_X4_holdsWith_30_e n_X4_holdsWith_30_b55
    rw [e1, zcS, e2, zcS, e3, zcS, e4, zcS, e5, zcS, er, zcS, zrb_0, zrb_1]
  by_cases h : Con [a, b, c] lv
  · exact ⟨0, S5, by rw [e, if_neg (fun g => (isB_0 hr).mp g h)], f, Or.inr ⟨rfl, fun g => g h⟩⟩
  · exact ⟨1, S5, by rw [e, if_pos ((isB_0 hr).mpr h)], f, Or.inl ⟨rfl, h⟩⟩
def fpr (f a m p : Nat) : Nat := if f % 2 = 1 then 576 * a + 24 * m + p else 576 * a + 24 * p + m
def spr (f b m s : Nat) : Nat := if f ≤ 2 then 576 * b + 24 * s + m else 576 * b + 24 * m + s
theorem x_fpr {F : Nat} (S : Zs) {f : Nat} (hf : F4 f) (a m p : Nat) : n_X4_firstPremise F S (nI f) (nI a) (nI m) (nI p) = some (nI (fpr f a m p), S) := by
  unfold n_X4_firstPremise n_X4_firstPremise_e n_X4_firstPremise_b21
  rw [n_mk, n_mk, zcS, zcS]
  rcases hf with rfl | rfl | rfl | rfl <;> rfl
theorem x_spr {F : Nat} (S : Zs) {f : Nat} (hf : F4 f) (a m p : Nat) : n_X4_secondPremise F S (nI f) (nI a) (nI m) (nI p) = some (nI (spr f a m p), S) := by
  unfold n_X4_secondPremise n_X4_secondPremise_e n_X4_secondPremise_b20
  rw [n_mk, n_mk, zcS, zcS]
  rcases hf with rfl | rfl | rfl | rfl <;> rfl
def fp (f a : Nat) : Nat := fpr f a 2 4
def sp (f b : Nat) : Nat := spr f b 2 0
def tp (c : Nat) : Nat := 576 * c + 24 * 0 + 4
theorem fp_lt {f a : Nat} (ha : a < 4) : fp f a < 2304 := by unfold fp fpr; split <;> omega
theorem sp_lt {f a : Nat} (ha : a < 4) : sp f a < 2304 := by unfold sp spr; split <;> omega
theorem tp_lt {a : Nat} (ha : a < 4) : tp a < 2304 := by unfold tp; omega
/-- a mood holds if these live -/
def Hm (f a b c k : Nat) : Prop := ¬ Con [fp f a, sp f b, ct (tp c)] (nI k)
def bs (k : Nat) : Nat := ([0, 1, 2, 4, 3, 5, 6, 7] : List Nat).getD k 0
theorem xt55 : ∀ k, k < 8 → xt_55 k = nI (bs k) := by decide
/-- what mustLive() tells -/
def ML (h : Nat → Prop) (v : Int32) : Prop := (v = -1 ∧ (¬ h 7 ∨ ∀ j, j < 8 → ¬ h (bs j))) ∨ ∃ j, j < 8 ∧ h (bs j) ∧ (∀ i, i < j → ¬ h (bs i)) ∧ v = nI (bs j)
theorem x_mustLive {F : Nat} (hF : 2 ^ 40 < F) (S : Zs) {f a b c : Nat} (hf : F4 f) (ha : a < 4) (hb' : b < 4) (hc : c < 4) : ∃ v S2, n_X4_mustLive_30 F S (nI a) (nI b) (nI c) (nI f) = some (v, S2) ∧ fr [32, 33, 34] [623, 624] S S2 ∧ ML (Hm f a b c) v := by
  have h1 := fp_lt (f := f) ha
  have h2 := sp_lt (f := f) hb'
  have h3 := ct_lt (tp_lt hc)
  obtain ⟨r, S1, e1, f1, q1⟩ := x_holdsWith hF S 7 h1 h2 h3
  have e0 : n_X4_mustLive_30 F S (nI a) (nI b) (nI c) (nI f) = if r = 0 then some (-1, S1) else n_X4_mustLive_30_b51 F S1 (nI (fp f a)) (nI (sp f b)) (nI (ct (tp c))) 0 := by
    unfold n_X4_mustLive_30 n_X4_mustLive_30_e
    rw [show n_X4_firstPremise F S (nI f) (nI a) 2 4 = some (nI (fp f a), S) from x_fpr S hf a 2 4, zcS, show n_X4_secondPremise F S (nI f) (nI b) 2 0 = some (nI (sp f b), S) from x_spr S hf b 2 0, zcS, show n_X0_make F S (nI c) 0 4 = some (nI (tp c), S) from n_mk F S c 0 4, zcS, n_ctr F S (tp_lt hc), zcS, e1, zcS]
  by_cases g : Hm f a b c 7
  · obtain ⟨⟨v, S2⟩, ⟨hq, f2⟩, e2⟩ : ∃ q : Int32 × Zs, (ML (Hm f a b c) q.1 ∧ fr [32, 33, 34] [623, 624] S q.2) ∧ n_X4_mustLive_30_b51 F S1 (nI (fp f a)) (nI (sp f b)) (nI (ct (tp c))) 0 = some q :=
      zfix_for (f := fun (rc : (Zs × Int32 × Int32 × Int32 × Int32) → Option (Int32 × Zs)) (u : (Zs × Int32 × Int32 × Int32 × Int32)) => n_X4_mustLive_30_b51_l F  (fun S x5 x6 x7 x8 => rc (S, x5, x6, x7, x8)) u.1 u.2.1 u.2.2.1 u.2.2.2.1 u.2.2.2.2) 8 (fun i s => ∃ S', s = (S', nI (fp f a), nI (sp f b), nI (ct (tp c)), nI i) ∧ fr [32, 33, 34] [623, 624] S S' ∧ ∀ j, j < i → ¬ Hm f a b c (bs j)) (fun q : Int32 × Zs => ML (Hm f a b c) q.1 ∧ fr [32, 33, 34] [623, 624] S q.2) (fun q => some q) (by
        rintro i _ hi ⟨S', rfl, hf', hn⟩
        obtain ⟨r, S2, e2, f2, q2⟩ := x_holdsWith hF S' (nI (bs i)) h1 h2 h3
        have e : ∀ rc : (Zs × Int32 × Int32 × Int32 × Int32) → Option (Int32 × Zs), n_X4_mustLive_30_b51_l F (fun S x5 x6 x7 x8 => rc (S, x5, x6, x7, x8)) S' (nI (fp f a)) (nI (sp f b)) (nI (ct (tp c))) (nI i) = if r = 0 then rc (S2, nI (fp f a), nI (sp f b), nI (ct (tp c)), nI (i + 1)) else some (nI (bs i), S2) := by
          intro rc
          unfold n_X4_mustLive_30_b51_l
          rw [if_neg (nI_ge hi (by omega)), zlt_nI _ _ hi (by omega), xt55 i hi, e2, zcS, zlt_nI _ _ hi (by omega), xt55 i hi]
          unfold zlet
          rw [nI_1]
        by_cases w : Hm f a b c (bs i)
        · exact Or.inl ⟨(nI (bs i), S2), ⟨Or.inr ⟨i, hi, w, hn, rfl⟩, fr_t hf' f2⟩, fun rc => (e rc).trans (if_neg (fun k => (isB_0 q2).mp k w))⟩
        · refine Or.inr ⟨_, ⟨S2, rfl, fr_t hf' f2, fun j hj => ?_⟩, fun rc => (e rc).trans (if_pos ((isB_0 q2).mpr w))⟩
          by_cases k : j = i
          · rw [k]; exact w
          · exact hn j (by omega)) (by
        rintro _ ⟨S', rfl, hf', hn⟩
        refine ⟨(-1, S'), ⟨Or.inl ⟨rfl, Or.inr hn⟩, hf'⟩, fun rc => ?_⟩
        show n_X4_mustLive_30_b51_l F (fun S x5 x6 x7 x8 => rc (S, x5, x6, x7, x8)) S' (nI (fp f a)) (nI (sp f b)) (nI (ct (tp c))) (nI 8) = _
        unfold n_X4_mustLive_30_b51_l
        rw [if_pos (nI_le (by omega) (by omega))]) F (S1, nI (fp f a), nI (sp f b), nI (ct (tp c)), 0) ⟨S1, rfl, f1, fun j hj => absurd hj (by omega)⟩ (by omega)
    exact ⟨v, S2, by rw [e0, if_neg (fun k => (isB_0 q1).mp k g), e2], f2, hq⟩
  · exact ⟨-1, S1, by rw [e0, if_pos ((isB_0 q1).mpr g)], f1, Or.inl ⟨rfl, Or.inl g⟩⟩
-- towns of three kinds
/-- there is somebody in the town of x and y -/
def Sm (w x y : Nat) : Prop := ∃ s, s < 8 ∧ w.testBit s = true ∧ ofB s x = true ∧ ofB s y = true
def yy (f y : Nat) : Nat := if f = 0 ∨ f = 3 then y ^^^ 1 else y
theorem yy_lt {f y : Nat} (hy : y < 24) : yy f y < 24 := by
  unfold yy
  split
  · exact x1_lt hy
  · exact hy
def Tt (w f x y : Nat) : Prop := if f < 2 then ¬ Sm w x (yy f y) else Sm w x (yy f y)
theorem c8 : (8 : Int32) = nI 8 := rfl
theorem m_isTrueOf {F : Nat} (hF : 2 ^ 40 < F) (S : Zs) {w f x y : Nat} (hw : w < 256) (hf : f < 4) (hx : x < 24) (hy : y < 24) : ∃ r, isB r (Tt w f x y) ∧ n_X12_isTrueOf F S (nI w) (nI f) (nI x) (nI y) = some (r, S) := by
  exact zfix_for (f := fun (rc : (Zs × Int32 × Int32 × Int32 × Int32 × Int32 × Int32) → Option (Int32 × Zs)) (u : (Zs × Int32 × Int32 × Int32 × Int32 × Int32 × Int32)) => n_X12_isTrueOf_b6_l F  (fun S x0 x1 x2 x3 x4 x5 => rc (S, x0, x1, x2, x3, x4, x5)) u.1 u.2.1 u.2.2.1 u.2.2.2.1 u.2.2.2.2.1 u.2.2.2.2.2.1 u.2.2.2.2.2.2) 8 (fun i a => ∃ v, a = (S, nI w, nI f, nI x, nI y, v, nI i) ∧ isB v (∃ s, s < i ∧ w.testBit s = true ∧ ofB s x = true ∧ ofB s (yy f y) = true)) (fun r : Int32 => isB r (Tt w f x y)) (fun r => some (r, S)) (by
    rintro i _ hi ⟨v, rfl, hv⟩
    have e : ∀ rc : (Zs × Int32 × Int32 × Int32 × Int32 × Int32 × Int32) → Option (Int32 × Zs), n_X12_isTrueOf_b6_l F (fun S x0 x1 x2 x3 x4 x5 => rc (S, x0, x1, x2, x3, x4, x5)) S (nI w) (nI f) (nI x) (nI y) v (nI i) = if v = 0 then (if w.testBit i = true ∧ ofB i x = true ∧ ofB i (yy f y) = true then rc (S, nI w, nI f, nI x, nI y, 1, nI (i + 1)) else rc (S, nI w, nI f, nI x, nI y, 0, nI (i + 1))) else rc (S, nI w, nI f, nI x, nI y, 1, nI (i + 1)) := by
      intro rc
      unfold n_X12_isTrueOf_b6_l n_X12_isTrueOf_b47 n_X12_isTrueOf_b54 n_X12_isTrueOf_b64 n_X12_isTrueOf_b60 n_X12_isTrueOf_b65
      rw [if_neg (show ¬ (8 : Int32) ≤ nI i from nI_ge (b := 8) hi (by omega)), e_has F _ _ (show i < 32 by omega), zcS, m_isOf S (by omega) hx, zcS, m_isOf S (by omega) hy, zcS, nI_x1 (by omega), m_isOf S (by omega) (x1_lt hy), zcS, hbn (by omega)]
      unfold zlet
      dsimp only
      rw [nI_1]
      by_cases h0 : v = 0
      · rw [if_pos h0, if_pos h0]
        by_cases g1 : w.testBit i = true
        · rw [bI_t g1, if_neg (by decide)]
          by_cases g2 : ofB i x = true
          · rw [bI_t g2, if_neg (by decide)]
            have e3 : (if nI f = 0 then (if bI (ofB i (y ^^^ 1) = true) = 0 then rc (S, nI w, nI f, nI x, nI y, 0, nI (i + 1)) else rc (S, nI w, nI f, nI x, nI y, 1, nI (i + 1))) else if nI f = 3 then (if bI (ofB i (y ^^^ 1) = true) = 0 then rc (S, nI w, nI f, nI x, nI y, 0, nI (i + 1)) else rc (S, nI w, nI f, nI x, nI y, 1, nI (i + 1))) else (if bI (ofB i y = true) = 0 then rc (S, nI w, nI f, nI x, nI y, 0, nI (i + 1)) else rc (S, nI w, nI f, nI x, nI y, 1, nI (i + 1)))) = if bI (ofB i (yy f y) = true) = 0 then rc (S, nI w, nI f, nI x, nI y, 0, nI (i + 1)) else rc (S, nI w, nI f, nI x, nI y, 1, nI (i + 1)) := by
              unfold yy
              rcases (show f = 0 ∨ f = 1 ∨ f = 2 ∨ f = 3 by omega) with rfl | rfl | rfl | rfl <;> rfl
            rw [e3]
            by_cases g3 : ofB i (yy f y) = true
            · rw [bI_t g3, if_neg (by decide), if_pos ⟨g1, g2, g3⟩]
            · rw [bI_f g3, if_pos rfl, if_neg (fun k => g3 k.2.2)]
          · rw [bI_f g2, if_pos rfl, if_neg (fun k => g2 k.2.1)]
        · rw [bI_f g1, if_pos rfl, if_neg (fun k => g1 k.1)]
      · rw [if_neg h0, if_neg h0]
    rcases hv with ⟨h1, ⟨s, q1, q2⟩⟩ | ⟨h1, h2⟩
    · exact Or.inr ⟨_, ⟨1, rfl, Or.inl ⟨rfl, s, by omega, q2⟩⟩, fun rc => (e rc).trans (if_neg (by rw [h1]; decide))⟩
    · by_cases g : w.testBit i = true ∧ ofB i x = true ∧ ofB i (yy f y) = true
      · exact Or.inr ⟨_, ⟨1, rfl, Or.inl ⟨rfl, i, by omega, g⟩⟩, fun rc => (e rc).trans (by rw [if_pos h1, if_pos g])⟩
      · refine Or.inr ⟨_, ⟨0, rfl, Or.inr ⟨rfl, ?_⟩⟩, fun rc => (e rc).trans (by rw [if_pos h1, if_neg g])⟩
        rintro ⟨s, q1, q2⟩
        by_cases k : s = i
        · rw [k] at q2; exact g q2
        · exact h2 ⟨s, by omega, q2⟩) (by
    rintro _ ⟨v, rfl, hv⟩
    have hv : isB v (Sm w x (yy f y)) := hv
    have e : ∀ rc : (Zs × Int32 × Int32 × Int32 × Int32 × Int32 × Int32) → Option (Int32 × Zs), n_X12_isTrueOf_b6_l F (fun S x0 x1 x2 x3 x4 x5 => rc (S, x0, x1, x2, x3, x4, x5)) S (nI w) (nI f) (nI x) (nI y) v (nI 8) = if 2 ≤ f then some (v, S) else if v = 0 then some (1, S) else some (0, S) := by
      intro rc
      unfold n_X12_isTrueOf_b6_l n_X12_isTrueOf_b93
      rw [if_pos (show (8 : Int32) ≤ nI 8 from nI_le (a := 8) (by omega) (by omega)), isB_rb hv, zrb_0, zrb_1, show (2 : Int32) = nI 2 from rfl]
      simp (disch := omega) only [nI_le_iff]
    unfold Tt
    by_cases h : 2 ≤ f
    · refine ⟨v, ?_, fun rc => (e rc).trans (if_pos h)⟩
      rw [if_neg (by omega)]; exact hv
    · rw [if_pos (show f < 2 by omega)]
      by_cases g : Sm w x (yy f y)
      · exact ⟨0, Or.inr ⟨rfl, fun k => k g⟩, fun rc => (e rc).trans (by rw [if_neg h, if_neg (fun k => (isB_0 hv).mp k g)])⟩
      · exact ⟨1, Or.inl ⟨rfl, g⟩, fun rc => (e rc).trans (by rw [if_neg h, if_pos ((isB_0 hv).mpr g)])⟩) F (S, nI w, nI f, nI x, nI y, 0, 0) ⟨0, rfl, Or.inr ⟨rfl, fun ⟨s, q, _⟩ => by omega⟩⟩ (by omega)
def jX (f : Nat) : Nat := if f % 2 = 1 then 2 else 4
def jY (f : Nat) : Nat := if f % 2 = 1 then 4 else 2
def iX (f : Nat) : Nat := if f < 3 then 0 else 2
def iY (f : Nat) : Nat := if f < 3 then 2 else 0
theorem m_jX {F : Nat} (S : Zs) {f : Nat} (hf : F4 f) : n_X12_majorX F S (nI f) = some (nI (jX f), S) := by rcases hf with rfl | rfl | rfl | rfl <;> rfl
theorem m_jY {F : Nat} (S : Zs) {f : Nat} (hf : F4 f) : n_X12_majorY F S (nI f) = some (nI (jY f), S) := by rcases hf with rfl | rfl | rfl | rfl <;> rfl
theorem m_iX {F : Nat} (S : Zs) {f : Nat} (hf : F4 f) : n_X12_minorX F S (nI f) = some (nI (iX f), S) := by rcases hf with rfl | rfl | rfl | rfl <;> rfl
theorem m_iY {F : Nat} (S : Zs) {f : Nat} (hf : F4 f) : n_X12_minorY F S (nI f) = some (nI (iY f), S) := by rcases hf with rfl | rfl | rfl | rfl <;> rfl
theorem j_lt (f : Nat) : jX f < 24 ∧ jY f < 24 ∧ iX f < 24 ∧ iY f < 24 := by
  unfold jX jY iX iY
  refine ⟨?_, ?_, ?_, ?_⟩ <;> split <;> omega
/-- the town is full enough, and of it the premises are true -/
def Fl (w k j : Nat) : Prop := ∀ i, i < j → k.testBit i = true → Tt w 2 (2 * i) (2 * i)
def Pw (f a b k w : Nat) : Prop := Fl w k 3 ∧ Tt w a (jX f) (jY f) ∧ Tt w b (iX f) (iY f)
theorem m_holdsIf {F : Nat} (hF : 2 ^ 40 < F) (S : Zs) {f a b c k : Nat} (hf : F4 f) (ha : a < 4) (hb' : b < 4) (hc : c < 4) (hk : k < 8) : ∃ r, isB r (∀ w, w < 256 → Pw f a b k w → Tt w c 0 4) ∧ n_X12_holdsIf F S (nI a) (nI b) (nI c) (nI f) (nI k) = some (r, S) := by
  obtain ⟨l1, l2, l3, l4⟩ := j_lt f
  exact zfix_for (f := fun (rc : (Zs × Int32 × Int32 × Int32 × Int32 × Int32 × Int32) → Option (Int32 × Zs)) (u : (Zs × Int32 × Int32 × Int32 × Int32 × Int32 × Int32)) => n_X12_holdsIf_b3_l F  (fun S x0 x1 x2 x3 x4 x5 => rc (S, x0, x1, x2, x3, x4, x5)) u.1 u.2.1 u.2.2.1 u.2.2.2.1 u.2.2.2.2.1 u.2.2.2.2.2.1 u.2.2.2.2.2.2) 256 (fun i s => s = (S, nI a, nI b, nI c, nI f, nI k, nI i) ∧ ∀ w, w < i → Pw f a b k w → Tt w c 0 4) (fun r : Int32 => isB r (∀ w, w < 256 → Pw f a b k w → Tt w c 0 4)) (fun r => some (r, S)) (by
    rintro i _ hi ⟨rfl, hI⟩
    obtain ⟨r1, q1, g1⟩ := m_isTrueOf hF S hi ha l1 l2
    obtain ⟨r2, q2, g2⟩ := m_isTrueOf hF S hi hb' l3 l4
    obtain ⟨r3, q3, g3⟩ := m_isTrueOf hF S hi hc (show 0 < 24 by omega) (show 4 < 24 by omega)
    have g3 : n_X12_isTrueOf F S (nI i) (nI c) 0 4 = some (r3, S) := g3
    -- the three kinds
    obtain ⟨v, hv, ev⟩ : ∃ v, isB v (Fl i k 3) ∧ ∀ p, n_X12_holdsIf_b17 F p S (nI a) (nI b) (nI c) (nI f) (nI k) (nI i) 1 0 = n_X12_holdsIf_b17_l F p (fun _ _ _ _ _ _ _ _ _ => none) S (nI a) (nI b) (nI c) (nI f) (nI k) (nI i) v (nI 3) := by
      exact zfix_forP (f := fun (p : Zs → Int32 → Int32 → Int32 → Int32 → Int32 → Int32 → Option (Int32 × Zs)) (rc : (Zs × Int32 × Int32 × Int32 × Int32 × Int32 × Int32 × Int32 × Int32) → Option (Int32 × Zs)) (u : (Zs × Int32 × Int32 × Int32 × Int32 × Int32 × Int32 × Int32 × Int32)) => n_X12_holdsIf_b17_l F p (fun S x0 x1 x2 x3 x4 x5 x6 x7 => rc (S, x0, x1, x2, x3, x4, x5, x6, x7)) u.1 u.2.1 u.2.2.1 u.2.2.2.1 u.2.2.2.2.1 u.2.2.2.2.2.1 u.2.2.2.2.2.2.1 u.2.2.2.2.2.2.2.1 u.2.2.2.2.2.2.2.2) 3 (fun j s => ∃ v, s = (S, nI a, nI b, nI c, nI f, nI k, nI i, v, nI j) ∧ isB v (Fl i k j)) (fun v : Int32 => isB v (Fl i k 3)) (fun p v => n_X12_holdsIf_b17_l F p (fun _ _ _ _ _ _ _ _ _ => none) S (nI a) (nI b) (nI c) (nI f) (nI k) (nI i) v (nI 3)) (by
        rintro j _ hj ⟨v, rfl, hv⟩
        obtain ⟨r4, q4, g4⟩ := m_isTrueOf hF S hi (show 2 < 4 by omega) (show 2 * j < 24 by omega) (show 2 * j < 24 by omega)
        have g4 : n_X12_isTrueOf F S (nI i) 2 (nI (2 * j)) (nI (2 * j)) = some (r4, S) := g4
        have e : ∀ (p : Zs → Int32 → Int32 → Int32 → Int32 → Int32 → Int32 → Option (Int32 × Zs)) (rc : (Zs × Int32 × Int32 × Int32 × Int32 × Int32 × Int32 × Int32 × Int32) → Option (Int32 × Zs)), n_X12_holdsIf_b17_l F p (fun S x0 x1 x2 x3 x4 x5 x6 x7 => rc (S, x0, x1, x2, x3, x4, x5, x6, x7)) S (nI a) (nI b) (nI c) (nI f) (nI k) (nI i) v (nI j) = if v = 0 then rc (S, nI a, nI b, nI c, nI f, nI k, nI i, 0, nI (j + 1)) else if k.testBit j = true then (if r4 = 0 then rc (S, nI a, nI b, nI c, nI f, nI k, nI i, 0, nI (j + 1)) else rc (S, nI a, nI b, nI c, nI f, nI k, nI i, 1, nI (j + 1))) else rc (S, nI a, nI b, nI c, nI f, nI k, nI i, 1, nI (j + 1)) := by
          intro p rc
          unfold n_X12_holdsIf_b17_l n_X12_holdsIf_b59 n_X12_holdsIf_b55 n_X12_holdsIf_b60
          rw [if_neg (show ¬ (3 : Int32) ≤ nI j from nI_ge (b := 3) hj (by omega)), e_has F _ _ (show j < 32 by omega), zcS, tw, g4, zcS, hbn (by omega)]
          unfold zlet
          dsimp only
          rw [nI_1]
          by_cases w : k.testBit j = true
          · rw [bI_t w, if_neg (show ¬ (1 : Int32) = 0 by decide), if_pos w]
          · rw [bI_f w, if_pos (show (0 : Int32) = 0 from rfl), if_neg w]
        have up : Fl i k (j + 1) ↔ Fl i k j ∧ (k.testBit j = true → Tt i 2 (2 * j) (2 * j)) := by
          unfold Fl
          refine ⟨fun g => ⟨fun l hl => g l (by omega), g j (by omega)⟩, fun g l hl => ?_⟩
          by_cases w : l = j
          · rw [w]; exact g.2
          · exact g.1 l (by omega)
        rcases hv with ⟨h1, h2⟩ | ⟨h1, h2⟩
        · by_cases w : k.testBit j = true
          · by_cases w2 : Tt i 2 (2 * j) (2 * j)
            · exact Or.inr ⟨_, ⟨1, rfl, Or.inl ⟨rfl, up.mpr ⟨h2, fun _ => w2⟩⟩⟩, fun p rc => (e p rc).trans (by rw [if_neg (by rw [h1]; decide), if_pos w, if_neg (fun g => (isB_0 q4).mp g w2)])⟩
            · exact Or.inr ⟨_, ⟨0, rfl, Or.inr ⟨rfl, fun g => w2 ((up.mp g).2 w)⟩⟩, fun p rc => (e p rc).trans (by rw [if_neg (by rw [h1]; decide), if_pos w, if_pos ((isB_0 q4).mpr w2)])⟩
          · exact Or.inr ⟨_, ⟨1, rfl, Or.inl ⟨rfl, up.mpr ⟨h2, fun g => absurd g w⟩⟩⟩, fun p rc => (e p rc).trans (by rw [if_neg (by rw [h1]; decide), if_neg w])⟩
        · exact Or.inr ⟨_, ⟨0, rfl, Or.inr ⟨rfl, fun g => h2 (up.mp g).1⟩⟩, fun p rc => (e p rc).trans (if_pos h1)⟩) (by
        rintro _ ⟨v, rfl, hv⟩
        refine ⟨v, hv, fun p rc => ?_⟩
        show n_X12_holdsIf_b17_l F p (fun S x0 x1 x2 x3 x4 x5 x6 x7 => rc (S, x0, x1, x2, x3, x4, x5, x6, x7)) S (nI a) (nI b) (nI c) (nI f) (nI k) (nI i) v (nI 3) = _
        unfold n_X12_holdsIf_b17_l
        rw [if_pos (show (3 : Int32) ≤ nI 3 from nI_le (a := 3) (by omega) (by omega)), if_pos (show (3 : Int32) ≤ nI 3 from nI_le (a := 3) (by omega) (by omega))]) F (S, nI a, nI b, nI c, nI f, nI k, nI i, 1, 0) ⟨1, rfl, Or.inl ⟨rfl, fun l hl => absurd hl (by omega)⟩⟩ (by omega)
    have e : ∀ rc : (Zs × Int32 × Int32 × Int32 × Int32 × Int32 × Int32) → Option (Int32 × Zs), n_X12_holdsIf_b3_l F (fun S x0 x1 x2 x3 x4 x5 => rc (S, x0, x1, x2, x3, x4, x5)) S (nI a) (nI b) (nI c) (nI f) (nI k) (nI i) = if v = 0 then rc (S, nI a, nI b, nI c, nI f, nI k, nI (i + 1)) else if r1 = 0 then rc (S, nI a, nI b, nI c, nI f, nI k, nI (i + 1)) else if r2 = 0 then rc (S, nI a, nI b, nI c, nI f, nI k, nI (i + 1)) else if r3 = 0 then some (0, S) else rc (S, nI a, nI b, nI c, nI f, nI k, nI (i + 1)) := by
      intro rc
      unfold n_X12_holdsIf_b3_l
      rw [if_neg (show ¬ (256 : Int32) ≤ nI i from nI_ge (b := 256) hi (by omega)), ev]
      unfold n_X12_holdsIf_b17_l n_X12_holdsIf_b111 n_X12_holdsIf_b112 n_X12_holdsIf_b132
      rw [if_pos (show (3 : Int32) ≤ nI 3 from nI_le (a := 3) (by omega) (by omega)), m_jX S hf, zcS, m_jY S hf, zcS, g1, zcS, m_iX S hf, zcS, m_iY S hf, zcS, g2, zcS, if_pos (show (0 : Int32) = 0 from rfl), if_neg (show ¬ (1 : Int32) = 0 by decide), g3, zcS, zrb_0]
      unfold zlet
      dsimp only
      rw [nI_1]
    have step : (Pw f a b k i → Tt i c 0 4) → ∀ w, w < i + 1 → Pw f a b k w → Tt w c 0 4 := by
      intro g w hw
      by_cases q : w = i
      · rw [q]; exact g
      · exact hI w (by omega)
    by_cases p1 : Fl i k 3
    · by_cases p2 : Tt i a (jX f) (jY f)
      · by_cases p3 : Tt i b (iX f) (iY f)
        · by_cases p4 : Tt i c 0 4
          · exact Or.inr ⟨_, ⟨rfl, step (fun _ => p4)⟩, fun rc => (e rc).trans (by rw [if_neg (fun g => (isB_0 hv).mp g p1), if_neg (fun g => (isB_0 q1).mp g p2), if_neg (fun g => (isB_0 q2).mp g p3), if_neg (fun g => (isB_0 q3).mp g p4)])⟩
          · exact Or.inl ⟨0, Or.inr ⟨rfl, fun g => p4 (g i hi ⟨p1, p2, p3⟩)⟩, fun rc => (e rc).trans (by rw [if_neg (fun g => (isB_0 hv).mp g p1), if_neg (fun g => (isB_0 q1).mp g p2), if_neg (fun g => (isB_0 q2).mp g p3), if_pos ((isB_0 q3).mpr p4)])⟩
        · exact Or.inr ⟨_, ⟨rfl, step (fun g => absurd g.2.2 p3)⟩, fun rc => (e rc).trans (by rw [if_neg (fun g => (isB_0 hv).mp g p1), if_neg (fun g => (isB_0 q1).mp g p2), if_pos ((isB_0 q2).mpr p3)])⟩
      · exact Or.inr ⟨_, ⟨rfl, step (fun g => absurd g.2.1 p2)⟩, fun rc => (e rc).trans (by rw [if_neg (fun g => (isB_0 hv).mp g p1), if_pos ((isB_0 q1).mpr p2)])⟩
    · exact Or.inr ⟨_, ⟨rfl, step (fun g => absurd g.1 p1)⟩, fun rc => (e rc).trans (if_pos ((isB_0 hv).mpr p1))⟩) (by
    rintro _ ⟨rfl, hI⟩
    refine ⟨1, Or.inl ⟨rfl, hI⟩, fun rc => ?_⟩
    show n_X12_holdsIf_b3_l F (fun S x0 x1 x2 x3 x4 x5 => rc (S, x0, x1, x2, x3, x4, x5)) S (nI a) (nI b) (nI c) (nI f) (nI k) (nI 256) = _
    unfold n_X12_holdsIf_b3_l
    rw [if_pos (show (256 : Int32) ≤ nI 256 from nI_le (a := 256) (by omega) (by omega)), zrb_1]) F (S, nI a, nI b, nI c, nI f, nI k, 0) ⟨rfl, fun w hw => absurd hw (by omega)⟩ (by omega)
