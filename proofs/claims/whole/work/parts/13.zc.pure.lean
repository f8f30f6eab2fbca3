/-! MOODS: tables, conclusions; step -/
def gF (k : Nat) : Nat := ([1, 1, 1, 1, 2, 2, 2, 2, 3, 3, 3, 3, 4, 4, 4, 3, 3, 4, 4] : List Nat).getD k 1
def gA (k : Nat) : Nat := ([0, 1, 0, 1, 1, 0, 1, 0, 2, 0, 3, 1, 0, 2, 1, 0, 1, 1, 0] : List Nat).getD k 0
def gB (k : Nat) : Nat := ([0, 0, 2, 2, 0, 1, 2, 3, 0, 2, 0, 2, 1, 0, 2, 0, 0, 0, 0] : List Nat).getD k 0
def gC (k : Nat) : Nat := ([0, 1, 2, 3, 1, 1, 3, 3, 2, 2, 3, 3, 1, 2, 3, 2, 3, 3, 2] : List Nat).getD k 0
theorem xt51 : ∀ k, k < 19 → xt_51 k = nI (gF k) := by decide
theorem xt52 : ∀ k, k < 19 → xt_52 k = nI (gA k) := by decide
theorem xt53 : ∀ k, k < 19 → xt_53 k = nI (gB k) := by decide
theorem xt54 : ∀ k, k < 19 → xt_54 k = nI (gC k) := by decide
theorem gF_b : ∀ k, k < 19 → gF k = 1 ∨ gF k = 2 ∨ gF k = 3 ∨ gF k = 4 := by decide
theorem gA_b : ∀ k, k < 19 → gA k < 4 := by decide
theorem gB_b : ∀ k, k < 19 → gB k < 4 := by decide
theorem gC_b : ∀ k, k < 19 → gC k < 4 := by decide
theorem n19 {k : Nat} (h : k < 19) : k = 0 ∨ k = 1 ∨ k = 2 ∨ k = 3 ∨ k = 4 ∨ k = 5 ∨ k = 6 ∨ k = 7 ∨ k = 8 ∨ k = 9 ∨ k = 10 ∨ k = 11 ∨ k = 12 ∨ k = 13 ∨ k = 14 ∨ k = 15 ∨ k = 16 ∨ k = 17 ∨ k = 18 := by omega
theorem m_chr0 {F : Nat} (S : Zs) {k : Nat} (h : k < 19) : n_J0_charAt_5068e_31_m F S (nI k) = some (nI (gF k + 48), S) := by
  rcases n19 h with rfl | rfl | rfl | rfl | rfl | rfl | rfl | rfl | rfl | rfl | rfl | rfl | rfl | rfl | rfl | rfl | rfl | rfl | rfl <;> rfl
theorem m_fig {F : Nat} (S : Zs) {k : Nat} (h : k < 19) : n_X12_figureOf F S (nI k) = some (nI (gF k), S) := by
  unfold n_X12_figureOf n_X12_figureOf_e
  rw [m_chr0 S h, zcS, show nI (gF k + 48) - 48 = nI (gF k + 48 - 48) from pk_sub (b := 48) (by omega)]; rfl
theorem m_len4 {F : Nat} (S : Zs) : n_J0_length_8abf5_30_m F S = some (nI 4, S) := by
  unfold n_J0_length_8abf5_30_m n_J0_length_8abf5_30_m_e
  rw [show n_J0_coder_7d493_30_m F S = some (0, S) from rfl, zcS, show nI 4 >>> ((0 : Int32) &&& 31) = nI 4 by decide]
theorem m_idxG {F : Nat} (S : Zs) {x y v : Int32} (h1 : ¬ x < 0) (h2 : ¬ 255 < x) (hy : x.toInt8.toInt32 = y) (h : n_J1_indexOfChar_4cfef_33_m_b7 F S (nI 4) y 0 = some (v, S)) : n_J0_indexOf_0f7a4_30_m F S x = some (v, S) := by
  unfold n_J0_indexOf_0f7a4_30_m n_J0_indexOf_0f7a4_30_m_e n_J0_indexOf_7cf53_30_m n_J0_indexOf_7cf53_30_m_e n_J0_indexOf_7cf53_30_m_b36
  rw [show n_J0_isLatin1_aae02_30_m F S = some (1, S) from rfl, zcS, if_neg (by decide), m_len4, zcS]
  unfold n_J1_indexOf_4cfef_33_m n_J1_indexOf_4cfef_33_m_e n_J1_canEncode_9a6ad_m n_J1_canEncode_9a6ad_m_e n_J1_canEncode_9a6ad_m_b16 zlet
  rw [if_neg h1, if_neg h2, zrb_1, zcS, if_neg (by decide), if_neg (show ¬ (0 : Int32) < 0 by decide), if_neg (show ¬ nI 4 < nI 4 by decide)]
  dsimp only
  rw [if_pos (show (0 : Int32) < nI 4 by decide)]
  unfold n_J1_indexOfChar_4cfef_33_m n_J1_indexOfChar_4cfef_33_m_e zlet
  dsimp only
  rw [hy, h, zcS, zcS, zcS]
def aeio (f : Nat) : Int32 := ([65, 69, 73, 79] : List Int32).getD f 0
theorem m_chr1 {F : Nat} (S : Zs) {k : Nat} (h : k < 19) : n_J0_charAt_5068e_32_m F S (3 * nI k + 0) = some (aeio (gA k), S) := by
  rcases n19 h with rfl | rfl | rfl | rfl | rfl | rfl | rfl | rfl | rfl | rfl | rfl | rfl | rfl | rfl | rfl | rfl | rfl | rfl | rfl <;> rfl
theorem m_chr2 {F : Nat} (S : Zs) {k : Nat} (h : k < 19) : n_J0_charAt_5068e_32_m F S (3 * nI k + 1) = some (aeio (gB k), S) := by
  rcases n19 h with rfl | rfl | rfl | rfl | rfl | rfl | rfl | rfl | rfl | rfl | rfl | rfl | rfl | rfl | rfl | rfl | rfl | rfl | rfl <;> rfl
theorem m_chr3 {F : Nat} (S : Zs) {k : Nat} (h : k < 19) : n_J0_charAt_5068e_32_m F S (3 * nI k + 2) = some (aeio (gC k), S) := by
  rcases n19 h with rfl | rfl | rfl | rfl | rfl | rfl | rfl | rfl | rfl | rfl | rfl | rfl | rfl | rfl | rfl | rfl | rfl | rfl | rfl <;> rfl
theorem m_idx {F : Nat} (hF : 2 ^ 40 < F) (S : Zs) {f : Nat} (h : f < 4) : n_J0_indexOf_0f7a4_30_m F S (aeio f) = some (nI f, S) := by
  refine m_idxG S ?_ ?_ ?_ (y := aeio f) (zfix_run (f := fun (rc : (Zs × Int32 × Int32 × Int32) → Option (Int32 × Zs)) (u : (Zs × Int32 × Int32 × Int32)) => n_J1_indexOfChar_4cfef_33_m_b7_l F  (fun S x3 x4 x5 => rc (S, x3, x4, x5)) u.1 u.2.1 u.2.2.1 u.2.2.2) (fun i => (S, nI 4, aeio f, nI i)) f (fun i hi rc => ?_) (fun rc => ?_) F (by omega))
  · exact (show ∀ f, f < 4 → ¬ aeio f < 0 by decide) f h
  · exact (show ∀ f, f < 4 → ¬ 255 < aeio f by decide) f h
  · exact (show ∀ f, f < 4 → (aeio f).toInt8.toInt32 = aeio f by decide) f h
  · rcases (show f = 0 ∨ f = 1 ∨ f = 2 ∨ f = 3 by omega) with rfl | rfl | rfl | rfl <;> rcases (show i = 0 ∨ i = 1 ∨ i = 2 by omega) with rfl | rfl | rfl <;> first | omega | rfl
  · rcases (show f = 0 ∨ f = 1 ∨ f = 2 ∨ f = 3 by omega) with rfl | rfl | rfl | rfl <;> rfl
theorem m_fo1 {F : Nat} (hF : 2 ^ 40 < F) (S : Zs) {k : Nat} (h : k < 19) : n_X12_formOfMood F S (nI k) 0 = some (nI (gA k), S) := by
  unfold n_X12_formOfMood n_X12_formOfMood_e
  rw [m_chr1 S h, zcS, m_idx hF S (gA_b k h), zcS]
theorem m_fo2 {F : Nat} (hF : 2 ^ 40 < F) (S : Zs) {k : Nat} (h : k < 19) : n_X12_formOfMood F S (nI k) 1 = some (nI (gB k), S) := by
  unfold n_X12_formOfMood n_X12_formOfMood_e
  rw [m_chr2 S h, zcS, m_idx hF S (gB_b k h), zcS]
theorem m_fo3 {F : Nat} (hF : 2 ^ 40 < F) (S : Zs) {k : Nat} (h : k < 19) : n_X12_formOfMood F S (nI k) 2 = some (nI (gC k), S) := by
  unfold n_X12_formOfMood n_X12_formOfMood_e
  rw [m_chr3 S h, zcS, m_idx hF S (gC_b k h), zcS]
-- which kinds live
def lkB (lv : Int32) (t : Nat) : Bool := decide (t % 2 = 0) && hb lv (t / 2)
theorem rem2 {t : Nat} (h : t < 2 ^ 30) : nI t - nI t / 2 * 2 = nI (t % 2) := pk_rem (a := t) (d := 2) (by omega) (by omega) (by omega)
theorem div2 {t : Nat} (h : t < 2 ^ 30) : nI t / 2 = nI (t / 2) := pk_div (a := t) (d := 2) (by omega) (by omega) (by omega)
theorem and1 {t : Nat} (h : t < 2 ^ 30) : nI t &&& 1 = nI (t % 2) := pk_andN (n := t) (m := 1) (by omega) 1 (by decide)
theorem x_livK {F : Nat} (S : Zs) (lv : Int32) {t : Nat} (ht : t < 24) : n_X4_isLivingKind F S (nI t) lv = some (bI (lkB lv t = true), S) := by
  unfold n_X4_isLivingKind n_X4_isLivingKind_e n_X4_isLivingKind_b20 n_X4_isLivingKind_b21 lkB
  rw [and1 (by omega), pk_shrN (n := t) (by omega) ((1 : Int32) &&& 31) 1 (by decide), show t / 2 ^ 1 = t / 2 from rfl]
  rcases (show t % 2 = 0 ∨ t % 2 = 1 by omega) with h | h
  · rw [h, if_pos (show nI 0 = 0 from rfl)]
    cases e : hb lv (t / 2) with
    | false => rw [if_pos ((hb_sh0 _ (by omega)).mpr e), zrb_0]; rfl
    | true => rw [if_neg (fun g => by rw [hb_sh0 _ (by omega), e] at g; exact absurd g (by decide)), zrb_1]; rfl
  · rw [h, if_neg (show ¬ nI 1 = 0 by decide), zrb_0]; rfl
theorem m_liv {F : Nat} (S : Zs) {t : Nat} (ht : t < 24) : n_X12_isLiving_0 F S (nI t) = some (bI (lkB (S.1 0 8) t = true), S) := by
  unfold n_X12_isLiving_0 n_X12_isLiving_0_e n_X12_isLiving_0_b23 n_X12_isLiving_0_b24 lkB zgf
  dsimp only
  rw [rem2 (by omega), div2 (by omega), e_has F _ _ (show t / 2 < 32 by omega), zcS]
  rcases (show t % 2 = 0 ∨ t % 2 = 1 by omega) with h | h
  · rw [h, if_pos (show nI 0 = 0 from rfl)]
    cases e : hb (S.1 0 8) (t / 2) with
    | false => rw [bI_f (by decide), if_pos rfl, zrb_0]; rfl
    | true => rw [bI_t rfl, if_neg (by decide), zrb_1]; rfl
  · rw [h, if_neg (show ¬ nI 1 = 0 by decide), zrb_0]; rfl
def alB (k c : Nat) (lv : Int32) : Bool := if k = 15 ∨ k = 16 ∨ k = 18 ∨ k = 21 then lkB lv (sj c) else if k = 17 then lkB lv (pd c) else true
theorem nIk {k : Nat} (h : k < 100) (j : Nat) (hj : j < 100) : (nI k = nI j) = (k = j) := propext (nI_eq (by omega) (by omega))
theorem x_alive {F : Nat} (S : Zs) (lv : Int32) {k c : Nat} (hk : k < 22) (hc : c < 2304) : n_X4_isAlive F S (nI k) (nI c) lv = some (bI (alB k c lv = true), S) := by
  have h1 : n_X4_isAlive_b44 F S (nI c) lv = some (bI (lkB lv (sj c) = true), S) := by
    unfold n_X4_isAlive_b44
    rw [n_subj F S hc, zcS, x_livK S lv (sj_lt c), zcS, zrb_b]
  have h2 : zcl (n_X0_predicate F S (nI c)) (fun v2 S1 => zcl (n_X4_isLivingKind F S1 v2 lv) (fun v4 S3 => zrb v4 S3)) = some (bI (lkB lv (pd c) = true), S) := by
    rw [n_pred F S hc, zcS, x_livK S lv (pd_lt c), zcS, zrb_b]
  unfold n_X4_isAlive n_X4_isAlive_e n_X4_isAlive_b62 alB
  rw [h1, h2, zrb_1]
  have e := fun j hj => nIk (k := k) (by omega) j hj
  rw [show (15 : Int32) = nI 15 from rfl, show (16 : Int32) = nI 16 from rfl, show (17 : Int32) = nI 17 from rfl, show (18 : Int32) = nI 18 from rfl, show (19 : Int32) = nI 19 from rfl, show (20 : Int32) = nI 20 from rfl, show (21 : Int32) = nI 21 from rfl]
  simp only [e 15 (by omega), e 16 (by omega), e 17 (by omega), e 18 (by omega), e 19 (by omega), e 20 (by omega), e 21 (by omega)]
  by_cases g15 : k = 15
  · rw [if_pos g15, if_pos (Or.inl g15)]
  by_cases g16 : k = 16
  · rw [if_neg g15, if_pos g16, if_pos (Or.inr (Or.inl g16))]
  by_cases g17 : k = 17
  · rw [if_neg g15, if_neg g16, if_pos g17, if_neg (by omega), if_pos g17]
  by_cases g18 : k = 18
  · rw [if_neg g15, if_neg g16, if_neg g17, if_pos g18, if_pos (Or.inr (Or.inr (Or.inl g18)))]
  by_cases g21 : k = 21
  · rw [if_neg g15, if_neg g16, if_neg g17, if_neg g18, if_neg (by omega), if_neg (by omega), if_pos g21, if_pos (Or.inr (Or.inr (Or.inr g21)))]
  · rw [if_neg (show ¬ (k = 15 ∨ k = 16 ∨ k = 18 ∨ k = 21) by omega), if_neg g15, if_neg g16, if_neg g17, if_neg g18, if_neg g21, if_neg g17, ite_self, ite_self]; rfl
-- terms of premises
def d1 (f c : Nat) : Nat := if f % 2 = 1 then sj c else pd c
def mj (f c : Nat) : Nat := if f % 2 = 1 then pd c else sj c
def d2 (f c : Nat) : Nat := if f ≤ 2 then pd c else sj c
def mn (f c : Nat) : Nat := if f ≤ 2 then sj c else pd c
def F4 (f : Nat) : Prop := f = 1 ∨ f = 2 ∨ f = 3 ∨ f = 4
theorem d1_lt (f c : Nat) : d1 f c < 24 := by unfold d1; split; exact sj_lt c; exact pd_lt c
theorem mj_lt (f c : Nat) : mj f c < 24 := by unfold mj; split; exact pd_lt c; exact sj_lt c
theorem d2_lt (f c : Nat) : d2 f c < 24 := by unfold d2; split; exact pd_lt c; exact sj_lt c
theorem mn_lt (f c : Nat) : mn f c < 24 := by unfold mn; split; exact sj_lt c; exact pd_lt c
theorem x_d1 {F : Nat} (S : Zs) {f c : Nat} (hf : F4 f) (hc : c < 2304) : n_X4_middleOfFirst F S (nI f) (nI c) = some (nI (d1 f c), S) := by
  unfold n_X4_middleOfFirst n_X4_middleOfFirst_e n_X4_middleOfFirst_b17
  rw [n_subj F S hc, n_pred F S hc, zcS, zcS]
  rcases hf with rfl | rfl | rfl | rfl <;> rfl
theorem x_mj {F : Nat} (S : Zs) {f c : Nat} (hf : F4 f) (hc : c < 2304) : n_X4_majorOf F S (nI f) (nI c) = some (nI (mj f c), S) := by
  unfold n_X4_majorOf n_X4_majorOf_e n_X4_majorOf_b17
  rw [n_subj F S hc, n_pred F S hc, zcS, zcS]
  rcases hf with rfl | rfl | rfl | rfl <;> rfl
theorem x_d2 {F : Nat} (S : Zs) {f c : Nat} (hf : F4 f) (hc : c < 2304) : n_X4_middleOfSecond F S (nI f) (nI c) = some (nI (d2 f c), S) := by
  unfold n_X4_middleOfSecond n_X4_middleOfSecond_e n_X4_middleOfSecond_b16
  rw [n_subj F S hc, n_pred F S hc, zcS, zcS]
  rcases hf with rfl | rfl | rfl | rfl <;> rfl
theorem x_mn {F : Nat} (S : Zs) {f c : Nat} (hf : F4 f) (hc : c < 2304) : n_X4_minorOf F S (nI f) (nI c) = some (nI (mn f c), S) := by
  unfold n_X4_minorOf n_X4_minorOf_e n_X4_minorOf_b16
  rw [n_subj F S hc, n_pred F S hc, zcS, zcS]
  rcases hf with rfl | rfl | rfl | rfl <;> rfl
theorem m_conc {F : Nat} (S : Zs) {f c d : Nat} (hf : F4 f) (hc : c < 2304) (hd : d < 2304) : n_X12_concludes F S (nI f) (nI c) (nI d) = some (if d2 f d = d1 f c then nI (24 * mn f d + mj f c) else -1, S) := by
  have e1 := d1_lt f c
  have e2 := d2_lt f d
  have key : ∀ t : Int32, n_X12_concludes_b73 F S (nI (d1 f c)) (nI (mj f c)) (nI (d2 f d)) (nI (mn f d)) = some (if d2 f d = d1 f c then nI (24 * mn f d + mj f c) else -1, S) := by
    intro _
    unfold n_X12_concludes_b73 n_X12_concludes_b93
    rw [show (24 : Int32) * nI (mn f d) = nI (24 * mn f d) from pk_mul 24 _, nI_add]
    by_cases g : d2 f d = d1 f c
    · rw [if_pos g, if_pos (by rw [g])]
    · rw [if_neg g, if_neg (fun k => g ((nI_eq (by omega) (by omega)).mp k))]
  rw [← key 0]
  unfold n_X12_concludes n_X12_concludes_e n_X12_concludes_b18 n_X12_concludes_b37 n_X12_concludes_b55
  have t1 : ¬ (3 : Int32) ≤ nI 1 := by decide
  have t2 : ¬ (3 : Int32) ≤ nI 2 := by decide
  have t3 : (3 : Int32) ≤ nI 3 := by decide
  have t4 : (3 : Int32) ≤ nI 4 := by decide
  have u1 : nI 1 - nI 1 / 2 * 2 = (1 : Int32) := by decide
  have u2 : ¬ nI 2 - nI 2 / 2 * 2 = (1 : Int32) := by decide
  have u3 : nI 3 - nI 3 / 2 * 2 = (1 : Int32) := by decide
  have u4 : ¬ nI 4 - nI 4 / 2 * 2 = (1 : Int32) := by decide
  rcases hf with rfl | rfl | rfl | rfl
  · rw [if_pos u1, n_fstM F S hc, zcS, if_pos u1, n_sndM F S hc, zcS, if_neg t1, n_sndM F S hd, zcS, if_neg t1, n_fstM F S hd, zcS]; rfl
  · rw [if_neg u2, n_sndM F S hc, zcS, if_neg u2, n_fstM F S hc, zcS, if_neg t2, n_sndM F S hd, zcS, if_neg t2, n_fstM F S hd, zcS]; rfl
  · rw [if_pos u3, n_fstM F S hc, zcS, if_pos u3, n_sndM F S hc, zcS, if_pos t3, n_fstM F S hd, zcS, if_pos t3, n_sndM F S hd, zcS]; rfl
  · rw [if_neg u4, n_sndM F S hc, zcS, if_neg u4, n_fstM F S hc, zcS, if_pos t4, n_fstM F S hd, zcS, if_pos t4, n_sndM F S hd, zcS]; rfl
/-- what a mood makes of its premises -/
def cn (k c d : Nat) : Option Nat :=
  if k < 19 then (if fm c = gA k ∧ fm d = gB k ∧ d1 (gF k) c = d2 (gF k) d then some (576 * gC k + 24 * mn (gF k) d + mj (gF k) c) else none)
  else if k = 19 then (if fm c = 1 ∨ fm c = 2 then some (576 * fm c + 24 * pd c + sj c) else none)
  else if k = 20 then some (576 * (fm c ^^^ 1) + 24 * sj c + (pd c ^^^ 1))
  else if fm c < 2 then some (576 * (fm c + 2) + 24 * sj c + pd c) else none
theorem fm_lt {c : Nat} (h : c < 2304) : fm c < 4 := by unfold fm; omega
theorem x14 : ∀ f, f < 4 → f ^^^ 1 < 4 := by decide
theorem cn_lt {k c d v : Nat} (hc : c < 2304) (h : cn k c d = some v) : v < 2304 := by
  have h1 := fm_lt hc
  have h2 := x14 _ h1
  have h3 := sj_lt c
  have h4 := pd_lt c
  have h5 := x1_lt h4
  unfold cn at h
  by_cases g : k < 19
  · rw [if_pos g] at h
    split at h
    · have e := (Option.some.inj h).symm
      have g3 := gC_b k g
      have g1 := mn_lt (gF k) d
      have g2 := mj_lt (gF k) c
      omega
    · exact absurd h (by simp)
  · rw [if_neg g] at h
    split at h
    · split at h
      · have e := (Option.some.inj h).symm; omega
      · exact absurd h (by simp)
    · split at h
      · have e := (Option.some.inj h).symm; omega
      · split at h
        · have e := (Option.some.inj h).symm; omega
        · exact absurd h (by simp)
def oX : Option Nat → Int32
  | none => -2
  | some v => nI v
theorem nfm {c : Nat} (hc : c < 2304) (j : Nat) (hj : j < 100) : (nI (fm c) = nI j) = (fm c = j) := propext (nI_eq (by have := fm_lt hc; omega) (by omega))
theorem x_single {F : Nat} (S : Zs) {k c : Nat} (hk : 19 ≤ k) (hk2 : k < 22) (hc : c < 2304) (d : Nat) : n_X4_singleConclusion F S (nI k) (nI c) = some (oX (cn k c d), S) := by
  have h1 := fm_lt hc
  have h4 := pd_lt c
  unfold n_X4_singleConclusion n_X4_singleConclusion_e n_X4_singleConclusion_b54 n_X4_singleConclusion_b66 n_X4_singleConclusion_b98 cn
  rw [n_frm F S hc, zcS, n_subj F S hc, zcS, n_pred F S hc, zcS, n_mk, zcS, nI_x1 (by omega), nI_x1 (by omega), n_mk, zcS, show nI (fm c) + 2 = nI (fm c + 2) from nI_add _ 2, n_mk, zcS, if_neg (show ¬ k < 19 by omega)]
  have e := fun j hj => nIk (k := k) (by omega) j hj
  have e' := fun j hj => nfm hc j hj
  have j19 : (nI k = (19 : Int32)) = (k = 19) := e 19 (by omega)
  have j20 : (nI k = (20 : Int32)) = (k = 20) := e 20 (by omega)
  have j1 : (nI (fm c) = (1 : Int32)) = (fm c = 1) := e' 1 (by omega)
  have j2 : (nI (fm c) = (2 : Int32)) = (fm c = 2) := e' 2 (by omega)
  have j3 : ((2 : Int32) ≤ nI (fm c)) = (2 ≤ fm c) := propext (nI_le_iff (a := 2) (by omega) (by omega))
  simp only [j19, j20, j1, j2, j3]
  by_cases g19 : k = 19
  · rw [if_pos g19, if_pos g19]
    by_cases q1 : fm c = 1
    · rw [if_pos q1, if_pos (Or.inl q1)]; rfl
    · by_cases q2 : fm c = 2
      · rw [if_neg q1, if_pos q2, if_pos (Or.inr q2)]; rfl
      · rw [if_neg q1, if_neg q2, if_neg (fun g => g.elim q1 q2)]; rfl
  · rw [if_neg g19, if_neg g19]
    by_cases g20 : k = 20
    · rw [if_pos g20, if_pos g20]; rfl
    · rw [if_neg g20, if_neg g20]
      by_cases q : fm c < 2
      · rw [if_neg (by omega), if_pos q]; rfl
      · rw [if_pos (by omega), if_neg q]; rfl
theorem x_conclusion {F : Nat} (S : Zs) {k c d : Nat} {z : Int32} (hk : k < 22) (hc : c < 2304) (hd : k < 19 → z = nI d ∧ d < 2304) : n_X4_conclusion F S (nI k) (nI c) z = some (oX (cn k c d), S) := by
  unfold n_X4_conclusion n_X4_conclusion_e n_X4_conclusion_b55
  by_cases g : k < 19
  · obtain ⟨rfl, hd2⟩ := hd g
    clear hd
    have hd := hd2
    have e1 := d1_lt (gF k) c
    have e2 := d2_lt (gF k) d
    have e3 := gA_b k g
    have e4 := gB_b k g
    have e5 := fm_lt hc
    have e6 := fm_lt hd
    rw [if_pos (show nI k < (19 : Int32) from nI_lt (b := 19) g (by omega)), zlt_nI _ _ g (by omega), xt51 k g, n_frm F S hc, zcS, zlt_nI _ _ g (by omega), xt52 k g, n_frm F S hd, zcS, zlt_nI _ _ g (by omega), xt53 k g, x_d1 S (gF_b k g) hc, zcS, x_d2 S (gF_b k g) hd, zcS, zlt_nI _ _ g (by omega), xt54 k g, x_mn S (gF_b k g) hd, zcS, x_mj S (gF_b k g) hc, zcS, n_mk, zcS]
    unfold cn
    rw [if_pos g]
    by_cases q1 : fm c = gA k
    · rw [if_pos (by rw [q1])]
      by_cases q2 : fm d = gB k
      · rw [if_pos (by rw [q2])]
        by_cases q3 : d1 (gF k) c = d2 (gF k) d
        · rw [if_pos (by rw [q3]), if_pos ⟨q1, q2, q3⟩]; rfl
        · rw [if_neg (fun w => q3 ((nI_eq (by omega) (by omega)).mp w)), if_neg (fun w => q3 w.2.2)]; rfl
      · rw [if_neg (fun w => q2 ((nI_eq (by omega) (by omega)).mp w)), if_neg (fun w => q2 w.2.1)]; rfl
    · rw [if_neg (fun w => q1 ((nI_eq (by omega) (by omega)).mp w)), if_neg (fun w => q1 w.1)]; rfl
  · rw [if_neg (show ¬ nI k < (19 : Int32) from fun w => by rw [show (19 : Int32) = nI 19 from rfl, nI_lt_iff (by omega) (by omega)] at w; omega), x_single S (by omega) hk hc d, zcS]
/-- the reference's way: -1 is none, and it may ask for life -/
def oM (wl : Int32) (al : Bool) : Option Nat → Int32
  | none => -1
  | some v => if wl = 0 ∨ al = true then nI v else -1
theorem oM_t {wl : Int32} {al : Bool} {v : Nat} (h : wl = 0 ∨ al = true) : oM wl al (some v) = nI v := if_pos h
theorem oM_f {wl : Int32} {al : Bool} {v : Nat} (h : ¬ (wl = 0 ∨ al = true)) : oM wl al (some v) = -1 := if_neg h
theorem m_proves {F : Nat} (hF : 2 ^ 40 < F) (S : Zs) {k c d : Nat} {z wl : Int32} (hk : k < 22) (hc : c < 2304) (hd : k < 19 → z = nI d ∧ d < 2304) : n_X12_proves_0 F S (nI k) (nI c) z wl = some (oM wl (alB k c (S.1 0 8)) (cn k c d), S) := by
  unfold n_X12_proves_0 n_X12_proves_0_e
  have h1 := fm_lt hc
  have h3 := sj_lt c
  have h4 := pd_lt c
  have e := fun j hj => nIk (k := k) (by omega) j hj
  have e' := fun j hj => nfm hc j hj
  by_cases g : k < 19
  · obtain ⟨rfl, hd2⟩ := hd g
    clear hd
    have hd := hd2
    have e1 := d1_lt (gF k) c
    have e2 := d2_lt (gF k) d
    have e3 := gA_b k g
    have e4 := gB_b k g
    have e5 := fm_lt hd
    have e7 := mn_lt (gF k) d
    have e8 := mj_lt (gF k) c
    rw [if_neg (show ¬ (19 : Int32) ≤ nI k from fun w => by rw [show (19 : Int32) = nI 19 from rfl, nI_le_iff (by omega) (by omega)] at w; omega), m_fig S g, zcS, m_conc S (gF_b k g) hc hd, zcS]
    unfold n_X12_proves_0_b46 cn
    rw [if_pos g]
    by_cases q3 : d1 (gF k) c = d2 (gF k) d
    · rw [show (if d2 (gF k) d = d1 (gF k) c then nI (24 * mn (gF k) d + mj (gF k) c) else -1) = nI (24 * mn (gF k) d + mj (gF k) c) from if_pos q3.symm, if_neg (nI_pos (by omega)), n_frmM F S hc, zcS, m_fo1 hF S g, zcS, n_frmM F S hd, zcS, m_fo2 hF S g, zcS, m_fig S g, zcS, n_fstM F S hc, n_sndM F S hc, zcS, zcS]
      by_cases q1 : fm c = gA k
      · rw [if_pos (by rw [q1])]
        by_cases q2 : fm d = gB k
        · rw [if_pos (show nI (fm d) = nI (gB k) by rw [q2]), if_pos (show fm c = gA k ∧ fm d = gB k ∧ d1 (gF k) c = d2 (gF k) d from ⟨q1, q2, q3⟩)]
          -- the life that is asked for
          have hmid : (if (nI (gF k) - nI (gF k) / 2 * 2) = (1 : Int32) then n_X12_proves_0_b69 F S (nI k) wl (nI (24 * mn (gF k) d + mj (gF k) c)) (nI (sj c)) else n_X12_proves_0_b69 F S (nI k) wl (nI (24 * mn (gF k) d + mj (gF k) c)) (nI (pd c))) = n_X12_proves_0_b69 F S (nI k) wl (nI (24 * mn (gF k) d + mj (gF k) c)) (nI (d1 (gF k) c)) := by
            unfold d1
            rcases gF_b k g with w | w | w | w <;> rw [w] <;> rfl
          refine Eq.trans hmid ?_
          have h114 : ∀ t : Int32, n_X12_proves_0_b114 F S (nI k) (nI (24 * mn (gF k) d + mj (gF k) c)) t = some (if t = 0 then -1 else nI (576 * gC k + 24 * mn (gF k) d + mj (gF k) c), S) := by
            intro t
            unfold n_X12_proves_0_b114 n_X12_proves_0_b137
            rw [m_fo3 hF S g, zcS, show (576 : Int32) * nI (gC k) = nI (576 * gC k) from pk_mul 576 _, nI_add, ← Nat.add_assoc]
            by_cases w : t = 0
            · rw [if_pos w, if_pos w]
            · rw [if_neg w, if_neg w]
          have h87 : ∀ t, t < 24 → lkB (S.1 0 8) t = alB k c (S.1 0 8) ∨ k < 15 → n_X12_proves_0_b87 F S (nI k) wl (nI (24 * mn (gF k) d + mj (gF k) c)) (nI t) = some (oM wl (alB k c (S.1 0 8)) (some (576 * gC k + 24 * mn (gF k) d + mj (gF k) c)), S) := by
            intro t ht hl
            unfold n_X12_proves_0_b87 n_X12_proves_0_b109
            rw [m_liv S ht, zcS, h114, h114, if_neg (show ¬ (1 : Int32) = 0 by decide), if_pos (show (0 : Int32) = 0 from rfl)]
            have q15 : (nI k < (15 : Int32)) = (k < 15) := propext (nI_lt_iff (b := 15) (by omega) (by omega))
            simp only [q15]
            by_cases w : k < 15
            · have : alB k c (S.1 0 8) = true := by unfold alB; rw [if_neg (by omega), if_neg (by omega)]
              rw [if_pos w, oM_t (Or.inr this)]
            · rw [if_neg w]
              by_cases w2 : wl = 0
              · rw [if_pos w2, oM_t (Or.inl w2)]
              · rw [if_neg w2, hl.resolve_right w]
                by_cases w3 : alB k c (S.1 0 8) = true
                · rw [bI_t w3, if_neg (by decide), oM_t (Or.inr w3)]
                · rw [bI_f w3, if_pos rfl, oM_f (fun w => w.elim w2 w3)]
          unfold n_X12_proves_0_b69
          have q18 : ((18 : Int32) ≤ nI k) = (18 ≤ k) := propext (nI_le_iff (a := 18) (by omega) (by omega))
          simp only [q18]
          by_cases w : 18 ≤ k
          · rw [if_pos w]
            have hk18 : k = 18 := by omega
            have hr : nI (24 * mn (gF k) d + mj (gF k) c) - nI (24 * mn (gF k) d + mj (gF k) c) / 24 * 24 = nI (mj (gF k) c) := by
              have := pk_rem (a := 24 * mn (gF k) d + mj (gF k) c) (d := 24) (by omega) (by omega) (by omega)
              rw [show (24 * mn (gF k) d + mj (gF k) c) % 24 = mj (gF k) c by omega] at this
              exact this
            rw [hr]
            refine h87 _ e8 (Or.inl ?_)
            subst hk18
            rfl
          · rw [if_neg w]
            refine h87 _ e1 ?_
            by_cases w2 : k < 15
            · exact Or.inr w2
            · refine Or.inl ?_
              rcases (show k = 15 ∨ k = 16 ∨ k = 17 by omega) with rfl | rfl | rfl <;> rfl
        · rw [if_neg (fun w => q2 ((nI_eq (by omega) (by omega)).mp w)), if_neg (fun w => q2 w.2.1)]; rfl
      · rw [if_neg (fun w => q1 ((nI_eq (by omega) (by omega)).mp w)), if_neg (fun w => q1 w.1)]; rfl
    · rw [show (if d2 (gF k) d = d1 (gF k) c then nI (24 * mn (gF k) d + mj (gF k) c) else -1) = -1 from if_neg (fun w => q3 w.symm), if_pos (show (-1 : Int32) < 0 by decide), if_neg (show ¬ (fm c = gA k ∧ fm d = gB k ∧ d1 (gF k) c = d2 (gF k) d) from fun w => q3 w.2.2)]; rfl
  · have h19 : (19 : Int32) ≤ nI k := nI_le (a := 19) (by omega) (by omega)
    unfold n_X12_proves_0_b174 n_X12_proves_0_b187 n_X12_proves_0_b242 n_X12_proves_0_b228 n_X12_proves_0_b243 cn
    rw [if_pos h19, n_frmM F S hc, zcS, n_fstM F S hc, zcS, n_sndM F S hc, zcS, n_mkM, zcS, nI_x1 (by omega), nI_x1 (by omega), n_mkM, zcS, show nI (fm c) + 2 = nI (fm c + 2) from nI_add _ 2, n_mkM, zcS, m_liv S h3, zcS, if_neg (show ¬ k < 19 by omega)]
    have j19 : (nI k = (19 : Int32)) = (k = 19) := e 19 (by omega)
    have j20 : (nI k = (20 : Int32)) = (k = 20) := e 20 (by omega)
    have j1 : (nI (fm c) = (1 : Int32)) = (fm c = 1) := e' 1 (by omega)
    have j2 : (nI (fm c) = (2 : Int32)) = (fm c = 2) := e' 2 (by omega)
    have j3 : ((2 : Int32) ≤ nI (fm c)) = (2 ≤ fm c) := propext (nI_le_iff (a := 2) (by omega) (by omega))
    simp only [j19, j20, j1, j2, j3]
    have ha : k = 19 ∨ k = 20 → alB k c (S.1 0 8) = true := fun w => by unfold alB; rw [if_neg (by omega), if_neg (by omega)]
    by_cases g19 : k = 19
    · rw [if_pos g19, if_pos g19, ha (Or.inl g19)]
      by_cases q1 : fm c = 1
      · rw [if_pos q1, if_pos (Or.inl q1)]; rw [oM_t (Or.inr rfl)]
      · by_cases q2 : fm c = 2
        · rw [if_neg q1, if_pos q2, if_pos (Or.inr q2)]; rw [oM_t (Or.inr rfl)]
        · rw [if_neg q1, if_neg q2, if_neg (fun g => g.elim q1 q2)]; rfl
    · rw [if_neg g19, if_neg g19]
      by_cases g20 : k = 20
      · rw [if_pos g20, if_pos g20, ha (Or.inr g20)]; rw [oM_t (Or.inr rfl)]
      · rw [if_neg g20, if_neg g20]
        have hk21 : k = 21 := by omega
        have hal : alB k c (S.1 0 8) = lkB (S.1 0 8) (sj c) := by unfold alB; rw [if_pos (Or.inr (Or.inr (Or.inr hk21)))]
        rw [hal]
        by_cases q : fm c < 2
        · rw [if_neg (by omega), if_pos q]
          by_cases w2 : wl = 0
          · rw [if_pos w2, oM_t (Or.inl w2)]
          · rw [if_neg w2]
            by_cases w3 : lkB (S.1 0 8) (sj c) = true
            · rw [bI_t w3, if_neg (by decide), oM_t (Or.inr w3), n_mkM, zcS]
            · rw [bI_f w3, if_pos rfl, oM_f (fun w => w.elim w2 w3)]
        · rw [if_pos (by omega), if_neg q]; rfl
theorem l21 (x : Int32) : (21 : Int32) < x ↔ 22 ≤ x := nI_lt_le x (n := 21) (by decide)
/-- step(mood, code, other) -/
theorem p_step {Q : Zs → Nat → (Nat → Nat) → Prop} {F : Nat} (hF : 2 ^ 40 < F) : S_step F (Rel (Kq Q)) := by
  intro X M hR k a b
  have hin : ∀ S, n_X12_in F S k.toInt64 0 21 = some (bI (¬ k < 0 ∧ ¬ 21 < k), S) := fun S => e_X12_in F S k 0 21
  have no : n_X11_step_0 F X k a b = some (-1, X) → n_X12_step_0 F M k a b = some (-1, zp M 0 0 0) → ∃ r X2 M2, n_X11_step_0 F X k a b = some (r, X2) ∧ n_X12_step_0 F M k a b = some (r, M2) ∧ Rel (Kq Q) X2 M2 := fun h1 h2 => ⟨-1, X, zp M 0 0 0, h1, h2, hR.thrown 0⟩
  by_cases h1 : k < 0 ∨ 21 < k
  · refine no ?_ ?_
    · unfold n_X11_step_0 n_X11_step_0_e n_X11_step_0_b17
      by_cases g : k < 0
      · rw [if_pos g]
      · rw [if_neg g, if_pos ((l21 k).mp (h1.resolve_left g))]
    · unfold n_X12_step_0 n_X12_step_0_e n_X12_step_0_b45 zpf
      dsimp only
      rw [hin, zcS, if_pos (bI_f (fun g => h1.elim g.1 g.2))]
  have hx0 : n_X11_step_0 F X k a b = zcl (n_X0_isCode F X a) (fun v2 S1 => if v2 = 0 then some (-1, S1) else (if k < (19 : Int32) then n_X11_step_0_b30 F S1 k a b 0 else n_X11_step_0_b30 F S1 k a b 1)) := by
    unfold n_X11_step_0 n_X11_step_0_e n_X11_step_0_b17
    rw [if_neg (fun g => h1 (Or.inl g)), if_neg (fun g => h1 (Or.inr ((l21 k).mpr g)))]
  have hm0 : n_X12_step_0 F M k a b = zcl (n_X12_isCode F (zp M 0 0 0) a) (fun v5 S4 => if v5 = 0 then some (-1, S4) else (if (19 : Int32) ≤ k then (if b = -1 then n_X12_step_0_b47 F S4 k a b else some (-1, S4)) else zcl (n_X12_isCode F S4 b) (fun v7 S6 => if v7 = 0 then some (-1, S6) else n_X12_step_0_b47 F S6 k a b))) := by
    unfold n_X12_step_0 n_X12_step_0_e n_X12_step_0_b45 zpf
    dsimp only
    rw [hin, zcS, bI_t ⟨fun g => h1 (Or.inl g), fun g => h1 (Or.inr g)⟩, if_neg (by decide)]
  obtain ⟨k, hk, rfl⟩ := in_nI (n := 22) (x := k) (by decide) (fun g => h1 (Or.inl g)) (fun g => h1 (Or.inr ((l21 k).mpr g)))
  by_cases h2 : a < 0 ∨ 2303 < a
  · refine no ?_ ?_
    · rw [hx0, x_code0 h2, zcS, if_pos rfl]
    · rw [hm0, m_code0 h2, zcS, if_pos rfl]
  rw [x_code1 h2, zcS, if_neg (by decide)] at hx0
  rw [m_code1 h2, zcS, if_neg (by decide)] at hm0
  obtain ⟨c, hc, rfl⟩ := code_of h2
  have c19 : (19 : Int32) = nI 19 := rfl
  obtain ⟨n, cd, hX, hB, q, hM, el, -⟩ := Rel_ctx hR
  have yes : ∀ d, (k < 19 → b = nI d ∧ d < 2304) → n_X11_step_0 F X (nI k) (nI c) b = n_X11_step_0_b54 F X (nI k) (nI c) b → n_X12_step_0 F M (nI k) (nI c) b = n_X12_step_0_b47 F (zp M 0 0 0) (nI k) (nI c) b → ∃ r X2 M2, n_X11_step_0 F X (nI k) (nI c) b = some (r, X2) ∧ n_X12_step_0 F M (nI k) (nI c) b = some (r, M2) ∧ Rel (Kq Q) X2 M2 := by
    intro d hd e1 e2
    unfold n_X11_step_0_b54 zgf at e1
    dsimp only at e1
    unfold n_X12_step_0_b47 n_X12_step_0_b69 at e2
    rw [x_alive X _ hk hc, zcS, x_conclusion X hk hc hd, zcS, el] at e1
    rw [m_proves hF (zp M 0 0 0) hk hc hd, zcS] at e2
    have e3 : (zp M 0 0 0).1 0 8 = M.1 0 8 := rfl
    rw [e3] at e2
    by_cases ha : alB k c (M.1 0 8) = true
    · rw [bI_t ha, if_neg (by decide)] at e1
      refine ⟨_, X, zp M 0 0 0, e1, ?_, hR.thrown 0⟩
      rw [e2]
      cases e4 : cn k c d with
      | none => rfl
      | some v =>
        have hv := cn_lt hc e4
        rw [oM_t (Or.inr ha)]
        show _ = some (nI v, _)
        rw [if_pos (Int32.not_lt.mp (nI_pos (by omega)))]
    · rw [bI_f ha, if_pos rfl] at e1
      refine ⟨_, X, zp M 0 0 0, e1, ?_, hR.thrown 0⟩
      rw [e2]
      cases e4 : cn k c d with
      | none => rfl
      | some v =>
        rw [oM_f (fun g => g.elim (fun g => absurd g (by decide)) ha)]; rfl
  by_cases h3 : k < 19
  · have q1 : nI k < (19 : Int32) := by rw [c19, nI_lt_iff (by omega) (by omega)]; exact h3
    rw [if_pos q1] at hx0
    rw [if_neg (Int32.not_le.mpr q1)] at hm0
    unfold n_X11_step_0_b30 n_X11_step_0_b52 at hx0
    rw [if_pos rfl] at hx0
    by_cases h4 : b < 0 ∨ 2303 < b
    · exact no (by rw [hx0, x_code0 h4, zcS, if_pos rfl]) (by rw [hm0, m_code0 h4, zcS, if_pos rfl])
    · rw [x_code1 h4, zcS, if_neg (by decide)] at hx0
      rw [m_code1 h4, zcS, if_neg (by decide)] at hm0
      obtain ⟨d, hd, rfl⟩ := code_of h4
      exact yes d (fun _ => ⟨rfl, hd⟩) hx0 hm0
  · have q1 : ¬ nI k < (19 : Int32) := by rw [c19, nI_lt_iff (by omega) (by omega)]; exact h3
    rw [if_neg q1] at hx0
    rw [if_pos (Int32.not_lt.mp q1)] at hm0
    unfold n_X11_step_0_b30 n_X11_step_0_b52 at hx0
    rw [if_neg (by decide)] at hx0
    by_cases h4 : b = -1
    · rw [if_pos h4] at hx0 hm0
      exact yes 0 (fun g => absurd g h3) hx0 hm0
    · rw [if_neg h4] at hx0 hm0
      exact no hx0 hm0
