/-! mood, figure: the two ways are one -/
theorem mk_t {a x y : Nat} (hx : x < 24) (hy : y < 24) : fm (576 * a + 24 * x + y) = a ∧ sj (576 * a + 24 * x + y) = x ∧ pd (576 * a + 24 * x + y) = y := by
  unfold fm sj pd
  refine ⟨by omega, by omega, by omega⟩
theorem ty_y {q : Nat} (hq : q < 2304) : ty q = yy (fm q) (pd q) := ty_m hq
def TQ (w q : Nat) : Prop := Tt w (fm q) (sj q) (pd q)
theorem x16 : ∀ x, x < 6 → x ^^^ 1 < 6 := by decide
theorem ofB_8 {s t : Nat} (ht : t < 6) : ofB (s % 8) t = ofB s t := by
  unfold ofB
  rw [show (8 : Nat) = 2 ^ 3 from rfl, Nat.testBit_mod_two_pow, decide_eq_true (show t / 2 < 3 by omega), Bool.true_and]
theorem con_town {L : List Nat} (hL : ∀ q ∈ L, q < 2304 ∧ sj q < 6 ∧ pd q < 6) {k : Nat} (hk : k < 8) : Con L (nI k) ↔ ∃ w, w < 256 ∧ Fl w k 3 ∧ ∀ q ∈ L, TQ w q := by
  have ht : ∀ q ∈ L, tg q < 6 := by
    intro q hq
    unfold tg
    rcases (show q / 576 % 2 = 0 ∨ q / 576 % 2 = 1 by omega) with h | h
    · rw [h, Nat.xor_zero]; exact (hL q hq).2.2
    · rw [h]; exact x16 _ (hL q hq).2.2
  have hy : ∀ q ∈ L, q < 1152 → yy (fm q) (pd q) = tg q ^^^ 1 := by
    intro q hq hu
    rw [← ty_y (hL q hq).1]; unfold ty; rw [if_pos hu]
  have hy2 : ∀ q ∈ L, ¬ q < 1152 → yy (fm q) (pd q) = tg q := by
    intro q hq hu
    rw [← ty_y (hL q hq).1]; unfold ty; rw [if_neg hu]
  have hu1 : ∀ q, q < 1152 → fm q < 2 := fun q h => by unfold fm; omega
  have hu2 : ∀ q, ¬ q < 1152 → ¬ fm q < 2 := fun q h => by unfold fm; omega
  constructor
  · rintro ⟨h1, h2⟩
    obtain ⟨w, hw, hb'⟩ := bits_ex (fun s => OkS (· ∈ L) s) 8
    have low : ∀ x y, x < 6 → y < 6 → Can (· ∈ L) x y → Sm w x y := by
      intro x y hx hy' hc
      obtain ⟨s, -, s2, s3, s4⟩ := (can_iff (by omega) (by omega)).mp hc
      refine ⟨s % 8, by omega, (hb' _ (by omega)).mpr ?_, by rw [ofB_8 hx]; exact s3, by rw [ofB_8 hy']; exact s4⟩
      rintro c hc2 hu ⟨g1, g2⟩
      rw [ofB_8 (hL c hc2).2.1] at g1
      rw [ofB_8 (x16 _ (ht c hc2))] at g2
      exact s2 c hc2 hu ⟨g1, g2⟩
    refine ⟨w, hw, fun i hi hki => ?_, fun q hq => ?_⟩
    · have hc := h2 i (by omega) (by rw [hbn (by omega)]; exact hki)
      show Sm w (2 * i) (2 * i)
      exact low _ _ (by omega) (by omega) hc
    · unfold TQ Tt
      by_cases hu : q < 1152
      · rw [if_pos (hu1 q hu), hy q hq hu]
        rintro ⟨s, s1, s2, s3, s4⟩
        exact (hb' s s1).mp s2 q hq hu ⟨s3, s4⟩
      · rw [if_neg (hu2 q hu), hy2 q hq hu]
        exact low _ _ (hL q hq).2.1 (ht q hq) (h1 q hq (by omega))
  · rintro ⟨w, hw, hf, hq⟩
    have ok : ∀ s, s < 8 → w.testBit s = true → OkS (· ∈ L) s := by
      rintro s hs hws c hc hu ⟨g1, g2⟩
      have := hq c hc
      unfold TQ Tt at this
      rw [if_pos (hu1 c hu), hy c hc hu] at this
      exact this ⟨s, hs, hws, g1, g2⟩
    refine ⟨fun q hq' hu => ?_, fun i hi hki => ?_⟩
    · have := hq q hq'
      unfold TQ Tt at this
      rw [if_neg (hu2 q (by omega)), hy2 q hq' (by omega)] at this
      obtain ⟨s, s1, s2, s3, s4⟩ := this
      exact OkS_can (ok s s1 s2) s3 s4
    · rw [hbn (by omega)] at hki
      have hi3 : i < 3 := by
        rcases Nat.lt_or_ge i 3 with g | g
        · exact g
        · rw [Nat.testBit_lt_two_pow (show k < 2 ^ i from Nat.lt_of_lt_of_le (show k < 2 ^ 3 from hk) (Nat.pow_le_pow_right (by omega) g))] at hki
          exact absurd hki (by decide)
      obtain ⟨s, s1, s2, s3, s4⟩ : Sm w (2 * i) (2 * i) := hf i hi3 hki
      exact OkS_can (ok s s1 s2) s3 s4
theorem Tt_ct {w c : Nat} (hc : c < 4) (x y : Nat) : Tt w (3 - c) x y ↔ ¬ Tt w c x y := by
  unfold Tt yy
  rcases (show c = 0 ∨ c = 1 ∨ c = 2 ∨ c = 3 by omega) with rfl | rfl | rfl | rfl
  · rw [if_neg (show ¬ 3 - 0 < 2 by omega), if_pos (show 3 - 0 = 0 ∨ 3 - 0 = 3 by omega), if_pos (show 0 < 2 by omega), if_pos (show 0 = 0 ∨ 0 = 3 by omega)]; exact Classical.not_not.symm
  · rw [if_neg (show ¬ 3 - 1 < 2 by omega), if_neg (show ¬ (3 - 1 = 0 ∨ 3 - 1 = 3) by omega), if_pos (show 1 < 2 by omega), if_neg (show ¬ (1 = 0 ∨ 1 = 3) by omega)]; exact Classical.not_not.symm
  · rw [if_pos (show 3 - 2 < 2 by omega), if_neg (show ¬ (3 - 2 = 0 ∨ 3 - 2 = 3) by omega), if_neg (show ¬ 2 < 2 by omega), if_neg (show ¬ (2 = 0 ∨ 2 = 3) by omega)]
  · rw [if_pos (show 3 - 3 < 2 by omega), if_pos (show 3 - 3 = 0 ∨ 3 - 3 = 3 by omega), if_neg (show ¬ 3 < 2 by omega), if_pos (show 3 = 0 ∨ 3 = 3 by omega)]
theorem fp_t {f a : Nat} (hf : F4 f) : fm (fp f a) = a ∧ sj (fp f a) = jX f ∧ pd (fp f a) = jY f := by
  rcases hf with rfl | rfl | rfl | rfl <;> exact mk_t (by decide) (by decide)
theorem sp_t {f a : Nat} (hf : F4 f) : fm (sp f a) = a ∧ sj (sp f a) = iX f ∧ pd (sp f a) = iY f := by
  rcases hf with rfl | rfl | rfl | rfl <;> exact mk_t (by decide) (by decide)
theorem tp_t {c : Nat} : fm (tp c) = c ∧ sj (tp c) = 0 ∧ pd (tp c) = 4 := mk_t (x := 0) (y := 4) (by decide) (by decide)
theorem ctp_t {c : Nat} : fm (ct (tp c)) = 3 - c ∧ sj (ct (tp c)) = 0 ∧ pd (ct (tp c)) = 4 := by
  have h := tp_t (c := c)
  have e : ct (tp c) = 576 * (3 - c) + 24 * 0 + 4 := by
    show 576 * (3 - fm (tp c)) + 24 * sj (tp c) + pd (tp c) = _
    rw [h.1, h.2.1, h.2.2]
  rw [e]
  exact mk_t (by decide) (by decide)
theorem Hm_iff {f a b c k : Nat} (hf : F4 f) (ha : a < 4) (hb' : b < 4) (hc : c < 4) (hk : k < 8) : (∀ w, w < 256 → Pw f a b k w → Tt w c 0 4) ↔ Hm f a b c k := by
  obtain ⟨p1, p2, p3⟩ := fp_t (a := a) hf
  obtain ⟨q1, q2, q3⟩ := sp_t (a := b) hf
  obtain ⟨r1, r2, r3⟩ := ctp_t (c := c)
  have hj : jX f < 6 ∧ jY f < 6 ∧ iX f < 6 ∧ iY f < 6 := by
    rcases hf with rfl | rfl | rfl | rfl <;> decide
  unfold Hm
  rw [con_town (L := [fp f a, sp f b, ct (tp c)]) (by
    intro q hq
    simp only [List.mem_cons, List.not_mem_nil, or_false] at hq
    rcases hq with rfl | rfl | rfl
    · exact ⟨fp_lt ha, by rw [p2]; exact hj.1, by rw [p3]; exact hj.2.1⟩
    · exact ⟨sp_lt hb', by rw [q2]; exact hj.2.2.1, by rw [q3]; exact hj.2.2.2⟩
    · exact ⟨ct_lt (tp_lt hc), by rw [r2]; omega, by rw [r3]; omega⟩) hk]
  have e : ∀ w, (∀ q ∈ [fp f a, sp f b, ct (tp c)], TQ w q) ↔ Tt w a (jX f) (jY f) ∧ Tt w b (iX f) (iY f) ∧ ¬ Tt w c 0 4 := by
    intro w
    simp only [List.mem_cons, List.not_mem_nil, or_false, forall_eq_or_imp, forall_eq]
    unfold TQ
    rw [p1, p2, p3, q1, q2, q3, r1, r2, r3, Tt_ct hc]
  constructor
  · rintro h ⟨w, hw, h1, h2⟩
    obtain ⟨g1, g2, g3⟩ := (e w).mp h2
    exact g3 (h w hw ⟨h1, g1, g2⟩)
  · intro h w hw hp
    apply Classical.byContradiction
    intro g
    exact h ⟨w, hw, hp.1, (e w).mpr ⟨hp.2.1, hp.2.2, g⟩⟩
theorem Hm_7 {f a b c k : Nat} (hk : k < 8) (h : Hm f a b c k) : Hm f a b c 7 := by
  refine fun g => h ⟨g.1, fun i hi hl => g.2 i hi ?_⟩
  rw [hbn (by omega)] at hl ⊢
  have hi3 : i < 3 := by
    rcases Nat.lt_or_ge i 3 with w | w
    · exact w
    · rw [Nat.testBit_lt_two_pow (show k < 2 ^ i from Nat.lt_of_lt_of_le (show k < 2 ^ 3 from hk) (Nat.pow_le_pow_right (by omega) w))] at hl
      exact absurd hl (by decide)
  exact (show ∀ i, i < 3 → (7 : Nat).testBit i = true by decide) i hi3
-- told of all
def toA (f x y t : Nat) : Bool := (decide (t = x) && decide (f < 2)) || (decide (t = y) && decide (f % 2 = 1))
theorem x_ofAll {F : Nat} (S : Zs) {q t : Nat} (hq : q < 2304) (ht : t < 24) : n_X4_isOfAll F S (nI q) (nI t) = some (bI (toA (fm q) (sj q) (pd q) t = true), S) := by
  have h1 := fm_lt hq
  have h2 := sj_lt q
  have h3 := pd_lt q
  unfold n_X4_isOfAll n_X4_isOfAll_e n_X4_isOfAll_b18 n_X4_isOfAll_b32 n_X4_isOfAll_b36 n_X4_isOfAll_b37 toA
  rw [n_frm F S hq, zcS, n_subj F S hq, zcS, n_pred F S hq, zcS, zrb_0, zrb_1, and1 (by omega), show (2 : Int32) = nI 2 from rfl]
  simp (disch := omega) only [nI_eq, nI_lt_iff]
  rcases (show fm q = 0 ∨ fm q = 1 ∨ fm q = 2 ∨ fm q = 3 by omega) with h | h | h | h <;> rw [h] <;> by_cases g1 : t = sj q <;> by_cases g2 : t = pd q <;> (first | rw [if_pos g1] | rw [if_neg g1]) <;> (first | rw [if_pos g2] | rw [if_neg g2] | skip) <;> (first | rw [decide_eq_true g1] | rw [decide_eq_false g1]) <;> (first | rw [decide_eq_true g2] | rw [decide_eq_false g2]) <;> rfl
theorem m_toldAll {F : Nat} (S : Zs) {f x y t : Nat} (hf : f < 4) (hx : x < 24) (hy : y < 24) (ht : t < 24) : n_X12_isToldOfAll F S (nI t) (nI f) (nI x) (nI y) = some (bI (toA f x y t = true), S) := by
  unfold n_X12_isToldOfAll n_X12_isToldOfAll_e n_X12_isToldOfAll_b10 n_X12_isToldOfAll_b22 n_X12_isToldOfAll_b26 n_X12_isToldOfAll_b27 toA
  rw [zrb_0, zrb_1, rem2 (by omega), show (2 : Int32) = nI 2 from rfl]
  simp (disch := omega) only [nI_eq, nI_lt_iff]
  rcases (show f = 0 ∨ f = 1 ∨ f = 2 ∨ f = 3 by omega) with h | h | h | h <;> rw [h] <;> by_cases g1 : t = x <;> by_cases g2 : t = y <;> (first | rw [if_pos g1] | rw [if_neg g1]) <;> (first | rw [if_pos g2] | rw [if_neg g2] | skip) <;> (first | rw [decide_eq_true g1] | rw [decide_eq_false g1]) <;> (first | rw [decide_eq_true g2] | rw [decide_eq_false g2]) <;> rfl
theorem brk_end {F : Nat} (X M : Zs) {a b c : Nat} (ha : a < 4) (hb' : b < 4) (hc : c < 4) : ∃ v, n_X4_broken_b86 F X (nI a) (nI b) (nI c) = some (v, X) ∧ n_X12_broken_b98 F M (nI a) (nI b) (nI c) = some (v, M) := by
  rcases (show a = 0 ∨ a = 1 ∨ a = 2 ∨ a = 3 by omega) with rfl | rfl | rfl | rfl <;> rcases (show b = 0 ∨ b = 1 ∨ b = 2 ∨ b = 3 by omega) with rfl | rfl | rfl | rfl <;> rcases (show c = 0 ∨ c = 1 ∨ c = 2 ∨ c = 3 by omega) with rfl | rfl | rfl | rfl <;> exact ⟨_, rfl, rfl⟩
theorem brk {F : Nat} (X M : Zs) {f a b c : Nat} (hf : F4 f) (ha : a < 4) (hb' : b < 4) (hc : c < 4) : ∃ v, n_X4_broken F X (nI a) (nI b) (nI c) (nI f) = some (v, X) ∧ n_X12_broken F M (nI a) (nI b) (nI c) (nI f) = some (v, M) := by
  obtain ⟨v, e1, e2⟩ := brk_end (F := F) X M ha hb' hc
  obtain ⟨p1, p2, p3⟩ := fp_t (a := a) hf
  obtain ⟨q1, q2, q3⟩ := sp_t (a := b) hf
  obtain ⟨r1, r2, r3⟩ := tp_t (c := c)
  obtain ⟨l1, l2, l3, l4⟩ := j_lt f
  have a1 : ∀ t, t < 24 → n_X4_isOfAll F X (nI (fp f a)) (nI t) = some (bI (toA a (jX f) (jY f) t = true), X) := fun t ht => by rw [x_ofAll X (fp_lt ha) ht, p1, p2, p3]
  have a2 : ∀ t, t < 24 → n_X4_isOfAll F X (nI (sp f b)) (nI t) = some (bI (toA b (iX f) (iY f) t = true), X) := fun t ht => by rw [x_ofAll X (sp_lt hb') ht, q1, q2, q3]
  have a3 : ∀ t, t < 24 → n_X4_isOfAll F X (nI (tp c)) (nI t) = some (bI (toA c 0 4 t = true), X) := fun t ht => by rw [x_ofAll X (tp_lt hc) ht, r1, r2, r3]
  have b1 : ∀ t, t < 24 → n_X12_isToldOfAll F M (nI t) (nI a) (nI (jX f)) (nI (jY f)) = some (bI (toA a (jX f) (jY f) t = true), M) := fun t ht => m_toldAll M ha l1 l2 ht
  have b2 : ∀ t, t < 24 → n_X12_isToldOfAll F M (nI t) (nI b) (nI (iX f)) (nI (iY f)) = some (bI (toA b (iX f) (iY f) t = true), M) := fun t ht => m_toldAll M hb' l3 l4 ht
  have b3 : ∀ t, t < 24 → n_X12_isToldOfAll F M (nI t) (nI c) 0 4 = some (bI (toA c 0 4 t = true), M) := fun t ht => m_toldAll (x := 0) (y := 4) M hc (by omega) (by omega) ht
  unfold n_X4_broken n_X4_broken_e n_X4_broken_b46 n_X4_broken_b66
  unfold n_X12_broken n_X12_broken_e n_X12_broken_b50 n_X12_broken_b74
  rw [show n_X4_firstPremise F X (nI f) (nI a) 2 4 = some (nI (fp f a), X) from x_fpr X hf a 2 4, zcS, show n_X4_secondPremise F X (nI f) (nI b) 2 0 = some (nI (sp f b), X) from x_spr X hf b 2 0, zcS, show n_X0_make F X (nI c) 0 4 = some (nI (tp c), X) from n_mk F X c 0 4, zcS]
  rw [show n_X4_isOfAll F X (nI (fp f a)) 2 = _ from a1 2 (by omega), zcS, show n_X4_isOfAll F X (nI (sp f b)) 2 = _ from a2 2 (by omega), zcS, show n_X4_isOfAll F X (nI (tp c)) 4 = _ from a3 4 (by omega), zcS, show n_X4_isOfAll F X (nI (fp f a)) 4 = _ from a1 4 (by omega), zcS, show n_X4_isOfAll F X (nI (tp c)) 0 = _ from a3 0 (by omega), zcS, show n_X4_isOfAll F X (nI (sp f b)) 0 = _ from a2 0 (by omega), zcS, e1]
  rw [m_jX M hf, zcS, m_jY M hf, zcS, m_iX M hf, zcS, m_iY M hf, zcS]
  rw [show n_X12_isToldOfAll F M 2 (nI a) (nI (jX f)) (nI (jY f)) = _ from b1 2 (by omega), zcS, show n_X12_isToldOfAll F M 2 (nI b) (nI (iX f)) (nI (iY f)) = _ from b2 2 (by omega), zcS, show n_X12_isToldOfAll F M 4 (nI c) 0 4 = _ from b3 4 (by omega), zcS, show n_X12_isToldOfAll F M 4 (nI a) (nI (jX f)) (nI (jY f)) = _ from b1 4 (by omega), zcS, show n_X12_isToldOfAll F M 0 (nI c) 0 4 = _ from b3 0 (by omega), zcS, show n_X12_isToldOfAll F M 0 (nI b) (nI (iX f)) (nI (iY f)) = _ from b2 0 (by omega), zcS, e2]
  cases toA a (jX f) (jY f) 2 <;> cases toA b (iX f) (iY f) 2 <;> cases toA c 0 4 4 <;> cases toA a (jX f) (jY f) 4 <;> cases toA c 0 4 0 <;> cases toA b (iX f) (iY f) 0 <;> exact ⟨_, rfl, rfl⟩
-- the least that must live
def mBst (h : Nat → Bool) : Nat → Int32
  | 0 => -1
  | i + 1 => if mBst h i < 0 ∨ bcn (i + 1) 32 < bcn (mBst h i).toNatClampNeg 32 then (if h (i + 1) = true then nI (i + 1) else mBst h i) else mBst h i
def pX (h : Nat → Bool) : Int32 := if h 7 = true then (if h 0 = true then nI 0 else if h 1 = true then nI 1 else if h 2 = true then nI 2 else if h 4 = true then nI 4 else if h 3 = true then nI 3 else if h 5 = true then nI 5 else if h 6 = true then nI 6 else nI 7) else -1
def g8 (m k : Nat) : Bool := m.testBit k
theorem pick8 : ∀ m, m < 256 → (g8 m 7 = true ∨ (g8 m 0 = false ∧ g8 m 1 = false ∧ g8 m 2 = false ∧ g8 m 3 = false ∧ g8 m 4 = false ∧ g8 m 5 = false ∧ g8 m 6 = false)) → (g8 m 0 = true ∧ pX (g8 m) = 0) ∨ (g8 m 0 = false ∧ ¬ pX (g8 m) = 0 ∧ pX (g8 m) = mBst (g8 m) 7 ∧ (pX (g8 m) = -1 ↔ g8 m 7 = false) ∧ (pX (g8 m) ≤ 0 ↔ g8 m 7 = false)) := by decide +kernel
theorem mBst_c {h g : Nat → Bool} : ∀ n, (∀ k, k ≤ n → h k = g k) → mBst h n = mBst g n := by
  intro n
  induction n with
  | zero => exact fun _ => rfl
  | succ n ih =>
    intro e
    have h1 := ih fun k hk => e k (by omega)
    have h2 := e (n + 1) (Nat.le_refl _)
    unfold mBst
    rw [h1, h2]
theorem pick (h : Nat → Bool) (hm : ∀ k, k < 8 → h k = true → h 7 = true) : (h 0 = true ∧ pX h = 0) ∨ (h 0 = false ∧ ¬ pX h = 0 ∧ pX h = mBst h 7 ∧ (pX h = -1 ↔ h 7 = false) ∧ (pX h ≤ 0 ↔ h 7 = false)) := by
  obtain ⟨m, hm8, hb'⟩ := bits_ex (fun k => h k = true) 8
  have e : ∀ k, k < 8 → g8 m k = h k := fun k hk => Bool.eq_iff_iff.mpr (hb' k hk)
  have e1 : pX (g8 m) = pX h := by
    unfold pX
    rw [e 0 (by omega), e 1 (by omega), e 2 (by omega), e 3 (by omega), e 4 (by omega), e 5 (by omega), e 6 (by omega), e 7 (by omega)]
  have e2 : mBst (g8 m) 7 = mBst h 7 := mBst_c 7 fun k hk => e k (by omega)
  have := pick8 m hm8 (by
    rw [e 0 (by omega), e 1 (by omega), e 2 (by omega), e 3 (by omega), e 4 (by omega), e 5 (by omega), e 6 (by omega), e 7 (by omega)]
    cases e : h 7 with
    | true => exact Or.inl rfl
    | false =>
      have k : ∀ i, i < 8 → h i = false := fun i hi => by
        cases g : h i with
        | false => rfl
        | true => rw [hm i hi g] at e; exact absurd e (by decide)
      exact Or.inr ⟨k 0 (by omega), k 1 (by omega), k 2 (by omega), k 3 (by omega), k 4 (by omega), k 5 (by omega), k 6 (by omega)⟩)
  rw [e1, e2, e 0 (by omega), e 7 (by omega)] at this
  exact this
theorem ML_pX {p : Nat → Prop} {h : Nat → Bool} (hp : ∀ k, k < 8 → (h k = true ↔ p k)) (hm : ∀ k, k < 8 → p k → p 7) {v : Int32} (hv : ML p v) : v = pX h := by
  unfold pX
  rcases hv with ⟨e, g⟩ | ⟨j, hj, g1, g2, e⟩
  · have : ¬ h 7 = true := by
      rw [hp 7 (by omega)]
      exact g.elim id (fun g => g 7 (by omega))
    rw [if_neg this, e]
  · have h7 : h 7 = true := (hp 7 (by omega)).mpr (hm (bs j) ((show ∀ j, j < 8 → bs j < 8 by decide) j hj) g1)
    rw [if_pos h7, e]
    have no : ∀ i, i < j → ¬ h (bs i) = true := fun i hi k => g2 i hi ((hp _ ((show ∀ j, j < 8 → bs j < 8 by decide) i (by omega))).mp k)
    have ys : h (bs j) = true := (hp _ ((show ∀ j, j < 8 → bs j < 8 by decide) j hj)).mpr g1
    have n0 := fun w => no 0 w
    have n1 := fun w => no 1 w
    have n2 := fun w => no 2 w
    have n3 := fun w => no 3 w
    have n4 := fun w => no 4 w
    have n5 := fun w => no 5 w
    have n6 := fun w => no 6 w
    simp only [bs, List.getD_cons_zero, List.getD_cons_succ] at n0 n1 n2 n3 n4 n5 n6
    rcases (show j = 0 ∨ j = 1 ∨ j = 2 ∨ j = 3 ∨ j = 4 ∨ j = 5 ∨ j = 6 ∨ j = 7 by omega) with rfl | rfl | rfl | rfl | rfl | rfl | rfl | rfl
    · rw [if_pos (show h 0 = true from ys)]; rfl
    · rw [if_neg (n0 (by omega)), if_pos (show h 1 = true from ys)]; rfl
    · rw [if_neg (n0 (by omega)), if_neg (n1 (by omega)), if_pos (show h 2 = true from ys)]; rfl
    · rw [if_neg (n0 (by omega)), if_neg (n1 (by omega)), if_neg (n2 (by omega)), if_pos (show h 4 = true from ys)]; rfl
    · rw [if_neg (n0 (by omega)), if_neg (n1 (by omega)), if_neg (n2 (by omega)), if_neg (n3 (by omega)), if_pos (show h 3 = true from ys)]; rfl
    · rw [if_neg (n0 (by omega)), if_neg (n1 (by omega)), if_neg (n2 (by omega)), if_neg (n3 (by omega)), if_neg (n4 (by omega)), if_pos (show h 5 = true from ys)]; rfl
    · rw [if_neg (n0 (by omega)), if_neg (n1 (by omega)), if_neg (n2 (by omega)), if_neg (n3 (by omega)), if_neg (n4 (by omega)), if_neg (n5 (by omega)), if_pos (show h 6 = true from ys)]; rfl
    · rw [if_neg (n0 (by omega)), if_neg (n1 (by omega)), if_neg (n2 (by omega)), if_neg (n3 (by omega)), if_neg (n4 (by omega)), if_neg (n5 (by omega)), if_neg (n6 (by omega))]; rfl
