/-! judge -/
def ofB (s t : Nat) : Bool := s.testBit (t / 2) == (t % 2 == 0)
theorem x_isOf {F : Nat} (S : Zs) {s t : Nat} (hs : s < 2 ^ 31) (ht : t < 24) : n_X0_isOf F S (nI s) (nI t) = some (bI (ofB s t = true), S) := by
  unfold n_X0_isOf n_X0_isOf_e n_X0_isOf_b18 ofB
  rw [pk_shrN (n := t) (by omega) ((1 : Int32) &&& 31) 1 (by decide), show t / 2 ^ 1 = t / 2 from rfl, sh_and1 _ (show t / 2 < 32 by omega), pk_andN (m := 1) (by omega) 1 (by decide), show t % 2 ^ 1 = t % 2 from rfl, hbn (by omega)]
  rcases (show t % 2 = 0 ∨ t % 2 = 1 by omega) with h | h <;> rw [h] <;> cases s.testBit (t / 2) <;> rfl
theorem m_isOf {F : Nat} (S : Zs) {s t : Nat} (hs : s < 2 ^ 31) (ht : t < 24) : n_X12_isOf F S (nI s) (nI t) = some (bI (ofB s t = true), S) := by
  unfold n_X12_isOf n_X12_isOf_e n_X12_isOf_b18 n_X12_isOf_b26 ofB
  rw [show nI t / 2 = nI (t / 2) from pk_div (d := 2) (by omega) (by omega) (by omega), e_has F _ _ (show t / 2 < 32 by omega), zcS, hbn (by omega)]
  have e : nI t - nI (t / 2) * 2 = nI (t % 2) := by
    have := pk_rem (a := t) (d := 2) (by omega) (by omega) (by omega)
    rw [show nI t / nI 2 = nI (t / 2) from pk_div (d := 2) (by omega) (by omega) (by omega)] at this
    exact this
  rw [e]
  rcases (show t % 2 = 0 ∨ t % 2 = 1 by omega) with h | h <;> rw [h] <;> cases s.testBit (t / 2) <;> rfl
def bothB (s x y : Nat) : Bool := decide (s < 4096) && (ofB s x && ofB s y)
theorem c4096 : (4096 : Int32) = nI 4096 := rfl
theorem x_isBoth {F : Nat} (S : Zs) {s x y : Nat} (hs : s ≤ 4096) (hx : x < 24) (hy : y < 24) : n_X10_isBoth F S (nI s) (nI x) (nI y) = some (bI (bothB s x y = true), S) := by
  unfold n_X10_isBoth n_X10_isBoth_e n_X10_isBoth_b27 n_X10_isBoth_b28 bothB
  by_cases h : s < 4096
  · rw [if_neg (show ¬ (4096 : Int32) ≤ nI s from fun g => by rw [c4096, nI_le_iff (by omega) (by omega)] at g; omega), x_isOf S (by omega) hx, zcS, x_isOf S (by omega) hy, zcS, decide_eq_true h, Bool.true_and]
    by_cases h1 : ofB s x = true
    · rw [bI_t h1, if_neg (by decide), h1, Bool.true_and]
      by_cases h2 : ofB s y = true
      · rw [bI_t h2, if_neg (by decide), zrb_1]
      · rw [bI_f h2, if_pos rfl, zrb_0]
    · rw [bI_f h1, if_pos rfl, zrb_0, bI_f (fun g => h1 ((Bool.and_eq_true _ _).mp g).1)]
  · rw [if_pos (show (4096 : Int32) ≤ nI s from nI_le (a := 4096) (by omega) (by omega)), decide_eq_false h, zrb_0]; rfl
/-- the second of two terms that make a saying true, or an A or E false -/
def ty (c : Nat) : Nat := if c < 1152 then tg c ^^^ 1 else tg c
theorem ty_lt (c : Nat) : ty c < 24 := by
  unfold ty
  split
  · exact x1_lt (tg_lt c)
  · exact tg_lt c
def anyB (a b d x y : Nat) : Bool := bothB a x y || (bothB b x y || bothB d x y)
def truB (c a b d : Nat) : Bool := if c < 1152 then !anyB a b d (sj c) (ty c) else anyB a b d (sj c) (ty c)
theorem x_isTrueOf {F : Nat} (S : Zs) {c a b d : Nat} (hc : c < 2304) (ha : a ≤ 4096) (hb : b ≤ 4096) (hd : d ≤ 4096) : n_X10_isTrueOf F S (nI c) (nI a) (nI b) (nI d) = some (bI (truB c a b d = true), S) := by
  unfold n_X10_isTrueOf n_X10_isTrueOf_e n_X10_isTrueOf_b104 n_X10_isTrueOf_b99 n_X10_isTrueOf_b59 n_X10_isTrueOf_b58 truB anyB
  have hx := sj_lt c
  have hy := tg_lt c
  rcases Nat.lt_or_ge c 1152 with h | h
  · rw [n_subj F S hc, zcS, n_uniT F S h, zcS, if_neg (by decide), n_tgt F S hc, zcS]
    unfold zlet
    dsimp only
    have et : tg c ^^^ 1 = ty c := by unfold ty; rw [if_pos h]
    rw [nI_x1 (show tg c < 2 ^ 31 by omega), et, x_isBoth S ha hx (ty_lt c), zcS, x_isBoth S hb hx (ty_lt c), zcS, x_isBoth S hd hx (ty_lt c), zcS, if_pos h]
    cases bothB a (sj c) (ty c) <;> cases bothB b (sj c) (ty c) <;> cases bothB d (sj c) (ty c) <;> rfl
  · have et : tg c = ty c := by unfold ty; rw [if_neg (by omega)]
    rw [n_subj F S hc, zcS, n_uniF F S hc h, zcS, if_pos rfl, n_tgt F S hc, zcS, et, x_isBoth S ha hx (ty_lt c), zcS, x_isBoth S hb hx (ty_lt c), zcS, x_isBoth S hd hx (ty_lt c), zcS, if_neg (show ¬ c < 1152 by omega)]
    cases bothB a (sj c) (ty c) <;> cases bothB b (sj c) (ty c) <;> cases bothB d (sj c) (ty c) <;> rfl
def Tre (M : Zs) (a b d : Nat) : Prop := M.1 13 0 = nI a ∧ M.1 13 1 = nI b ∧ M.1 13 2 = nI d
def nthB (a b d x y : Nat) : Nat → Bool
  | 0 => false
  | 1 => bothB a x y
  | 2 => bothB a x y || bothB b x y
  | _ => bothB a x y || (bothB b x y || bothB d x y)
def abd (a b d : Nat) : Nat → Nat
  | 0 => a
  | 1 => b
  | _ => d
theorem ty_m {c : Nat} (hc : c < 2304) : ty c = if fm c = 0 ∨ fm c = 3 then pd c ^^^ 1 else pd c := by
  unfold ty
  rcases (show fm c = 0 ∨ fm c = 1 ∨ fm c = 2 ∨ fm c = 3 by unfold fm; omega) with h | h | h | h
  · rw [if_pos (show c < 1152 by unfold fm at h; omega), if_pos (Or.inl h), tg_0 (by omega)]
  · rw [if_pos (show c < 1152 by unfold fm at h; omega), if_neg (by omega), tg_1 (by omega), x1_x1]
  · rw [if_neg (show ¬ c < 1152 by unfold fm at h; omega), if_neg (by omega), tg_0 (by omega)]
  · rw [if_neg (show ¬ c < 1152 by unfold fm at h; omega), if_pos (Or.inr h), tg_1 (by omega)]
theorem m_isTrue {F : Nat} (hF : 2 ^ 40 < F) {M : Zs} {c a b d : Nat} (hc : c < 2304) (ha : a ≤ 4096) (hb : b ≤ 4096) (hd : d ≤ 4096) (hT : Tre M a b d) : n_X12_isTrue_13 F M (nI c) = some (bI (truB c a b d = true), M) := by
  obtain ⟨t0, t1, t2⟩ := hT
  have hx := sj_lt c
  have hp := pd_lt c
  have hf : fm c < 4 := by unfold fm; omega
  have e0 : n_X12_isTrue_13 F M (nI c) = n_X12_isTrue_13_b18 F M (nI c) (nI (fm c)) 0 (nI 3) 0 := by
    unfold n_X12_isTrue_13 n_X12_isTrue_13_e
    rw [n_frmM F M hc, zcS]; rfl
  rw [e0]
  refine zfix_run (f := fun (rc : (Zs × Int32 × Int32 × Int32 × Int32 × Int32) → Option (Int32 × Zs)) (u : (Zs × Int32 × Int32 × Int32 × Int32 × Int32)) => n_X12_isTrue_13_b18_l F  (fun S x0 x2 x3 x5 x6 => rc (S, x0, x2, x3, x5, x6)) u.1 u.2.1 u.2.2.1 u.2.2.2.1 u.2.2.2.2.1 u.2.2.2.2.2) (fun i => (M, nI c, nI (fm c), bI (nthB a b d (sj c) (ty c) i = true), nI 3, nI i)) 3 (fun i hi rc => ?_) (fun rc => ?_) F (by omega)
  · show n_X12_isTrue_13_b18_l F (fun S x0 x2 x3 x5 x6 => rc (S, x0, x2, x3, x5, x6)) M (nI c) (nI (fm c)) (bI (nthB a b d (sj c) (ty c) i = true)) (nI 3) (nI i) = rc (M, nI c, nI (fm c), bI (nthB a b d (sj c) (ty c) (i + 1) = true), nI 3, nI (i + 1))
    have hr : M.1 13 i = nI (abd a b d i) := by
      rcases (show i = 0 ∨ i = 1 ∨ i = 2 by omega) with rfl | rfl | rfl
      · exact t0
      · exact t1
      · exact t2
    have hle : abd a b d i ≤ 4096 := by
      rcases (show i = 0 ∨ i = 1 ∨ i = 2 by omega) with rfl | rfl | rfl
      · exact ha
      · exact hb
      · exact hd
    have hnx : nthB a b d (sj c) (ty c) (i + 1) = (nthB a b d (sj c) (ty c) i || bothB (abd a b d i) (sj c) (ty c)) := by
      rcases (show i = 0 ∨ i = 1 ∨ i = 2 by omega) with rfl | rfl | rfl
      · show bothB a _ _ = (false || bothB a _ _); rw [Bool.false_or]
      · rfl
      · show (bothB a _ _ || (bothB b _ _ || bothB d _ _)) = ((bothB a _ _ || bothB b _ _) || bothB d _ _); rw [Bool.or_assoc]
    rw [hnx]
    generalize abd a b d i = s at *
    generalize nthB a b d (sj c) (ty c) i = o
    have e54 : n_X12_isTrue_13_b18_l F (fun S x0 x2 x3 x5 x6 => rc (S, x0, x2, x3, x5, x6)) M (nI c) (nI (fm c)) (bI (o = true)) (nI 3) (nI i) = n_X12_isTrue_13_b54 F (fun S x0 x2 x3 x5 x6 => rc (S, x0, x2, x3, x5, x6)) M (nI c) (nI (fm c)) (bI (o = true)) (nI 3) (nI i) (nI s) (nI (ty c)) := by
      unfold n_X12_isTrue_13_b18_l n_X12_isTrue_13_b41
      rw [if_neg (nI_ge hi (by omega)), zld_nI _ _ _ (show i < 3 from hi) (by omega), hr, n_sndM F M hc, zcS, zcS, nI_x1 (by omega), ty_m hc]
      rcases (show fm c = 0 ∨ fm c = 1 ∨ fm c = 2 ∨ fm c = 3 by omega) with h | h | h | h <;> rw [h]
      · rw [if_pos (show nI 0 = 0 from rfl), if_pos (Or.inl rfl)]
      · rw [if_neg (by decide), if_neg (by decide), if_neg (by omega)]
      · rw [if_neg (by decide), if_neg (by decide), if_neg (by omega)]
      · rw [if_neg (by decide), if_pos (show nI 3 = (3 : Int32) from rfl), if_pos (Or.inr rfl)]
    rw [e54]
    have e90 : n_X12_isTrue_13_b90 F (fun S x0 x2 x3 x5 x6 => rc (S, x0, x2, x3, x5, x6)) M (nI c) (nI (fm c)) (nI 3) (nI i) = rc (M, nI c, nI (fm c), 1, nI 3, nI (i + 1)) := by
      unfold n_X12_isTrue_13_b90 n_X12_isTrue_13_b95 zlet
      rw [nI_1]
    have e94 : n_X12_isTrue_13_b94 F (fun S x0 x2 x3 x5 x6 => rc (S, x0, x2, x3, x5, x6)) M (nI c) (nI (fm c)) (nI 3) (nI i) = rc (M, nI c, nI (fm c), 0, nI 3, nI (i + 1)) := by
      unfold n_X12_isTrue_13_b94 n_X12_isTrue_13_b95 zlet
      rw [nI_1]
    unfold n_X12_isTrue_13_b54
    rw [e90, e94]
    cases o with
    | true => rw [bI_t rfl, if_neg (by decide)]; rfl
    | false =>
      rw [bI_f (by decide), if_pos rfl, Bool.false_or]
      unfold bothB
      by_cases h : s < 4096
      · rw [if_neg (show ¬ (4096 : Int32) ≤ nI s from fun g => by rw [c4096, nI_le_iff (by omega) (by omega)] at g; omega), n_fstM F M hc, zcS, m_isOf M (by omega) hx, zcS, m_isOf M (by omega) (ty_lt c), zcS, e90, e94, decide_eq_true h, Bool.true_and]
        by_cases h1 : ofB s (sj c) = true
        · rw [bI_t h1, if_neg (by decide), h1, Bool.true_and]
          by_cases h2 : ofB s (ty c) = true
          · rw [bI_t h2, if_neg (by decide)]
          · rw [bI_f h2, if_pos rfl]
        · rw [bI_f h1, if_pos rfl, bI_f (fun g => h1 ((Bool.and_eq_true _ _).mp g).1)]
      · rw [if_pos (show (4096 : Int32) ≤ nI s from nI_le (a := 4096) (by omega) (by omega)), decide_eq_false h]; rfl
  · show n_X12_isTrue_13_b18_l F (fun S x0 x2 x3 x5 x6 => rc (S, x0, x2, x3, x5, x6)) M (nI c) (nI (fm c)) (bI (anyB a b d (sj c) (ty c) = true)) (nI 3) (nI 3) = _
    unfold n_X12_isTrue_13_b18_l n_X12_isTrue_13_b120 truB
    rw [if_pos (nI_le (by omega) (by omega))]
    generalize anyB a b d (sj c) (ty c) = o
    rcases Nat.lt_or_ge c 1152 with h | h
    · rw [if_neg (show ¬ (2 : Int32) ≤ nI (fm c) from fun g => by rw [show (2 : Int32) = nI 2 from rfl, nI_le_iff (by omega) (by omega)] at g; unfold fm at g; omega), if_pos h]
      cases o <;> rfl
    · rw [if_pos (show (2 : Int32) ≤ nI (fm c) from nI_le (a := 2) (by unfold fm; omega) (by omega)), if_neg (show ¬ c < 1152 by omega)]
      cases o <;> rfl
/-- that a kind lives -/
def lvc (k : Nat) : Nat := 576 * 2 + 24 * (2 * k) + 2 * k
theorem x_judge1 {F : Nat} (hF : 2 ^ 40 < F) {X : Zs} {n a b d : Nat} {cd : Nat → Nat} (hX : XC X n cd) (ha : a ≤ 4096) (hb' : b ≤ 4096) (hd : d ≤ 4096) : ∃ v, isW v n (fun i => ¬ hb (X.1 0 64) i = true ∧ ¬ truB (cd i) a b d = true) ∧ n_X11_judge_0_b41 F X (nI a) (nI b) (nI d) 0 0 = n_X11_judge_0_b108 F X (nI a) (nI b) (nI d) v 0 0 := by
  obtain ⟨y1, y2, y3⟩ := hX
  exact zfix_for (f := fun (rc : (Zs × Int32 × Int32 × Int32 × Int32 × Int32) → Option (Int32 × Zs)) (u : (Zs × Int32 × Int32 × Int32 × Int32 × Int32)) => n_X11_judge_0_b41_l F  (fun S x1 x2 x3 x4 x5 => rc (S, x1, x2, x3, x4, x5)) u.1 u.2.1 u.2.2.1 u.2.2.2.1 u.2.2.2.2.1 u.2.2.2.2.2) n (fun i s => ∃ v, s = (X, nI a, nI b, nI d, v, nI i) ∧ isW v i (fun i => ¬ hb (X.1 0 64) i = true ∧ ¬ truB (cd i) a b d = true)) (fun v : Int32 => isW v n (fun i => ¬ hb (X.1 0 64) i = true ∧ ¬ truB (cd i) a b d = true)) (fun v => n_X11_judge_0_b108 F X (nI a) (nI b) (nI d) v 0 0) (by
    rintro i _ hi ⟨v, rfl, hv⟩
    obtain ⟨k1, k2⟩ := y3 i hi
    have hact : hb (actv n (X.1 0 64)) i = !hb (X.1 0 64) i := by
      unfold actv
      rw [hb_and, hb_mask (by omega), decide_eq_true hi, hb_not _ (by omega), Bool.true_and]
    have e : ∀ rc : (Zs × Int32 × Int32 × Int32 × Int32 × Int32) → Option (Int32 × Zs), n_X11_judge_0_b41_l F (fun S x1 x2 x3 x4 x5 => rc (S, x1, x2, x3, x4, x5)) X (nI a) (nI b) (nI d) v (nI i) = if hb (X.1 0 64) i = true then rc (X, nI a, nI b, nI d, v, nI (i + 1)) else if truB (cd i) a b d = true then rc (X, nI a, nI b, nI d, v, nI (i + 1)) else rc (X, nI a, nI b, nI d, v ||| ((1 : Int32) <<< (nI i &&& 31)), nI (i + 1)) := by
      intro rc
      unfold n_X11_judge_0_b41_l n_X11_judge_0_b96
      simp (disch := omega) only [zgf, y1, nI_le_iff, x_active y1, zcS, hb_sh0, hact, zld_nI, k1, x_isTrueOf X k2 ha hb' hd, zlet, nI_1]
      rw [if_neg (by omega)]
      cases hb (X.1 0 64) i with
      | true => rw [if_pos (show (!true) = false from rfl), if_pos (show true = true from rfl)]
      | false =>
        rw [if_neg (show ¬ (!false) = false by decide), if_neg (show ¬ false = true by decide)]
        by_cases h : truB (cd i) a b d = true
        · rw [bI_t h, if_neg (by decide), if_pos h]
        · rw [bI_f h, if_pos rfl, if_neg h]
    by_cases h1 : hb (X.1 0 64) i = true
    · exact Or.inr ⟨_, ⟨v, rfl, isW_f hv (fun g => g.1 h1)⟩, fun rc => (e rc).trans (if_pos h1)⟩
    · by_cases h2 : truB (cd i) a b d = true
      · exact Or.inr ⟨_, ⟨v, rfl, isW_f hv (fun g => g.2 h2)⟩, fun rc => (e rc).trans (by rw [if_neg h1, if_pos h2])⟩
      · exact Or.inr ⟨_, ⟨_, rfl, isW_t hv (by omega) ⟨h1, h2⟩⟩, fun rc => (e rc).trans (by rw [if_neg h1, if_neg h2])⟩) (by
    rintro _ ⟨v, rfl, hv⟩
    refine ⟨v, hv, fun rc => ?_⟩
    show n_X11_judge_0_b41_l F (fun S x1 x2 x3 x4 x5 => rc (S, x1, x2, x3, x4, x5)) X (nI a) (nI b) (nI d) v (nI n) = _
    unfold n_X11_judge_0_b41_l
    simp (disch := omega) only [zgf, y1, nI_le_iff]
    rw [if_pos (by omega)]) F (X, nI a, nI b, nI d, 0, 0) ⟨0, rfl, isW_0 _⟩ (by omega)
theorem x_judge2 {F : Nat} (hF : 2 ^ 40 < F) {X : Zs} {a b d : Nat} (ha : a ≤ 4096) (hb' : b ≤ 4096) (hd : d ≤ 4096) (w : Int32) : ∃ v, isW v 12 (fun k => hb (X.1 0 65) k = true ∧ ¬ truB (lvc k) a b d = true) ∧ n_X11_judge_0_b108 F X (nI a) (nI b) (nI d) w 0 0 = some (if w = 0 then (if v = 0 then 1 else 0) else 0, xTwo X w v) := by
  exact zfix_for (f := fun (rc : (Zs × Int32 × Int32 × Int32 × Int32 × Int32 × Int32) → Option (Int32 × Zs)) (u : (Zs × Int32 × Int32 × Int32 × Int32 × Int32 × Int32)) => n_X11_judge_0_b108_l F  (fun S x1 x2 x3 x4 x5 x6 => rc (S, x1, x2, x3, x4, x5, x6)) u.1 u.2.1 u.2.2.1 u.2.2.2.1 u.2.2.2.2.1 u.2.2.2.2.2.1 u.2.2.2.2.2.2) 12 (fun i s => ∃ v, s = (X, nI a, nI b, nI d, w, v, nI i) ∧ isW v i (fun k => hb (X.1 0 65) k = true ∧ ¬ truB (lvc k) a b d = true)) (fun v : Int32 => isW v 12 (fun k => hb (X.1 0 65) k = true ∧ ¬ truB (lvc k) a b d = true)) (fun v => some (if w = 0 then (if v = 0 then 1 else 0) else 0, xTwo X w v)) (by
    rintro i _ hi ⟨v, rfl, hv⟩
    have hl : lvc i < 2304 := by unfold lvc; omega
    have emk : n_X0_make F X 2 (2 * nI i) (2 * nI i) = some (nI (lvc i), X) := by rw [tw]; exact n_mk F X 2 (2 * i) (2 * i)
    have e : ∀ rc : (Zs × Int32 × Int32 × Int32 × Int32 × Int32 × Int32) → Option (Int32 × Zs), n_X11_judge_0_b108_l F (fun S x1 x2 x3 x4 x5 x6 => rc (S, x1, x2, x3, x4, x5, x6)) X (nI a) (nI b) (nI d) w v (nI i) = if hb (X.1 0 65) i = false then rc (X, nI a, nI b, nI d, w, v, nI (i + 1)) else if truB (lvc i) a b d = true then rc (X, nI a, nI b, nI d, w, v, nI (i + 1)) else rc (X, nI a, nI b, nI d, w, v ||| ((1 : Int32) <<< (nI i &&& 31)), nI (i + 1)) := by
      intro rc
      unfold n_X11_judge_0_b108_l n_X11_judge_0_b164
      rw [emk, zcS]
      simp (disch := omega) only [zgf, c12, nI_le_iff, hb_sh0, x_isTrueOf X hl ha hb' hd, zcS, zlet, nI_1]
      rw [if_neg (by omega)]
      cases hb (X.1 0 65) i with
      | false => rw [if_pos (show false = false from rfl), if_pos (show false = false from rfl)]
      | true =>
        rw [if_neg (show ¬ true = false by decide), if_neg (show ¬ true = false by decide)]
        by_cases h : truB (lvc i) a b d = true
        · rw [bI_t h, if_neg (by decide), if_pos h]
        · rw [bI_f h, if_pos rfl, if_neg h]
    cases h1 : hb (X.1 0 65) i with
    | false => exact Or.inr ⟨_, ⟨v, rfl, isW_f hv (fun g => by rw [h1] at g; exact absurd g.1 (by decide))⟩, fun rc => (e rc).trans (if_pos h1)⟩
    | true =>
      by_cases h2 : truB (lvc i) a b d = true
      · exact Or.inr ⟨_, ⟨v, rfl, isW_f hv (fun g => g.2 h2)⟩, fun rc => (e rc).trans (by rw [h1, if_neg (by decide), if_pos h2])⟩
      · exact Or.inr ⟨_, ⟨_, rfl, isW_t hv (by omega) ⟨h1, h2⟩⟩, fun rc => (e rc).trans (by rw [h1, if_neg (by decide), if_neg h2])⟩) (by
    rintro _ ⟨v, rfl, hv⟩
    refine ⟨v, hv, fun rc => ?_⟩
    show n_X11_judge_0_b108_l F (fun S x1 x2 x3 x4 x5 x6 => rc (S, x1, x2, x3, x4, x5, x6)) X (nI a) (nI b) (nI d) w v (nI 12) = _
    unfold n_X11_judge_0_b108_l n_X11_judge_0_b192 n_X11_judge_0_b193
    rw [if_pos (show (12 : Int32) ≤ nI 12 from nI_le (a := 12) (by omega) (by omega)), x_tellTwo, zcS]
    by_cases g : w = 0
    · rw [if_pos g, if_pos g]
      by_cases g2 : v = 0
      · rw [if_pos g2, if_pos g2]
      · rw [if_neg g2, if_neg g2]
    · rw [if_neg g, if_neg g]) F (X, nI a, nI b, nI d, w, 0, 0) ⟨0, rfl, isW_0 _⟩ (by omega)
theorem m_judge1 {F : Nat} (hF : 2 ^ 40 < F) {M : Zs} {n a b d : Nat} {cd : Nat → Nat} (hM : MC M n cd) (hT : Tre M a b d) (ha : a ≤ 4096) (hb' : b ≤ 4096) (hd : d ≤ 4096) : ∃ v, isW v n (fun i => ¬ hb (M.1 0 7) i = true ∧ ¬ truB (cd i) a b d = true) ∧ n_X12_judge_0_b70 F M 0 0 = n_X12_judge_0_b133 F M v 0 0 := by
  obtain ⟨y1, y2, y3⟩ := hM
  exact zfix_for (f := fun (rc : (Zs × Int32 × Int32) → Option (Int32 × Zs)) (u : (Zs × Int32 × Int32)) => n_X12_judge_0_b70_l F  (fun S x4 x5 => rc (S, x4, x5)) u.1 u.2.1 u.2.2) n (fun i s => ∃ v, s = (M, v, nI i) ∧ isW v i (fun i => ¬ hb (M.1 0 7) i = true ∧ ¬ truB (cd i) a b d = true)) (fun v : Int32 => isW v n (fun i => ¬ hb (M.1 0 7) i = true ∧ ¬ truB (cd i) a b d = true)) (fun v => n_X12_judge_0_b133 F M v 0 0) (by
    rintro i _ hi ⟨v, rfl, hv⟩
    obtain ⟨k1, k2⟩ := y3 i hi
    have e : ∀ rc : (Zs × Int32 × Int32) → Option (Int32 × Zs), n_X12_judge_0_b70_l F (fun S x4 x5 => rc (S, x4, x5)) M v (nI i) = if ¬ hb (M.1 0 7) i = true then (if truB (cd i) a b d = true then rc (M, v, nI (i + 1)) else rc (M, v ||| ((1 : Int32) <<< (nI i &&& 31)), nI (i + 1))) else rc (M, v, nI (i + 1)) := by
      intro rc
      unfold n_X12_judge_0_b70_l n_X12_judge_0_b117 n_X12_judge_0_b118
      simp (disch := omega) only [zgf, y1, nI_le_iff, e_has, zcS, bI_eq0, zld_nI, k1, m_isTrue hF k2 ha hb' hd hT, zlet, nI_1, or_0]
      rw [if_neg (by omega)]
      by_cases h : truB (cd i) a b d = true
      · rw [if_neg (show ¬ ¬ truB (cd i) a b d = true from fun g => g h), if_pos h]
      · rw [if_pos (show ¬ truB (cd i) a b d = true from h), if_neg (show ¬ truB (cd i) a b d = true from h)]
    by_cases h1 : hb (M.1 0 7) i = true
    · exact Or.inr ⟨_, ⟨v, rfl, isW_f hv (fun g => g.1 h1)⟩, fun rc => (e rc).trans (if_neg (fun g => g h1))⟩
    · by_cases h2 : truB (cd i) a b d = true
      · exact Or.inr ⟨_, ⟨v, rfl, isW_f hv (fun g => g.2 h2)⟩, fun rc => (e rc).trans (by rw [if_pos h1, if_pos h2])⟩
      · exact Or.inr ⟨_, ⟨_, rfl, isW_t hv (by omega) ⟨h1, h2⟩⟩, fun rc => (e rc).trans (by rw [if_pos h1, if_neg h2])⟩) (by
    rintro _ ⟨v, rfl, hv⟩
    refine ⟨v, hv, fun rc => ?_⟩
    show n_X12_judge_0_b70_l F (fun S x4 x5 => rc (S, x4, x5)) M v (nI n) = _
    unfold n_X12_judge_0_b70_l
    simp (disch := omega) only [zgf, y1, nI_le_iff]
    rw [if_pos (by omega)]) F (M, 0, 0) ⟨0, rfl, isW_0 _⟩ (by omega)
theorem m_judge2 {F : Nat} (hF : 2 ^ 40 < F) {M : Zs} {a b d : Nat} (hT : Tre M a b d) (ha : a ≤ 4096) (hb' : b ≤ 4096) (hd : d ≤ 4096) (w : Int32) : ∃ v, isW v 12 (fun k => hb (M.1 0 8) k = true ∧ ¬ truB (lvc k) a b d = true) ∧ n_X12_judge_0_b133 F M w 0 0 = some (if w = 0 then (if v = 0 then 1 else 0) else 0, mTwo M w v) := by
  exact zfix_for (f := fun (rc : (Zs × Int32 × Int32 × Int32) → Option (Int32 × Zs)) (u : (Zs × Int32 × Int32 × Int32)) => n_X12_judge_0_b133_l F  (fun S x4 x5 x6 => rc (S, x4, x5, x6)) u.1 u.2.1 u.2.2.1 u.2.2.2) 12 (fun i s => ∃ v, s = (M, w, v, nI i) ∧ isW v i (fun k => hb (M.1 0 8) k = true ∧ ¬ truB (lvc k) a b d = true)) (fun v : Int32 => isW v 12 (fun k => hb (M.1 0 8) k = true ∧ ¬ truB (lvc k) a b d = true)) (fun v => some (if w = 0 then (if v = 0 then 1 else 0) else 0, mTwo M w v)) (by
    rintro i _ hi ⟨v, rfl, hv⟩
    have hl : lvc i < 2304 := by unfold lvc; omega
    have emk : n_X12_codeOf F M 2 (2 * nI i) (2 * nI i) = some (nI (lvc i), M) := by rw [tw]; exact n_mkM F M 2 (2 * i) (2 * i)
    have e : ∀ rc : (Zs × Int32 × Int32 × Int32) → Option (Int32 × Zs), n_X12_judge_0_b133_l F (fun S x4 x5 x6 => rc (S, x4, x5, x6)) M w v (nI i) = if ¬ hb (M.1 0 8) i = true then rc (M, w, v, nI (i + 1)) else if truB (lvc i) a b d = true then rc (M, w, v, nI (i + 1)) else rc (M, w, v ||| ((1 : Int32) <<< (nI i &&& 31)), nI (i + 1)) := by
      intro rc
      unfold n_X12_judge_0_b133_l n_X12_judge_0_b183 n_X12_judge_0_b184
      simp (disch := omega) only [zgf, c12, nI_le_iff, e_has, zcS, bI_eq0, zlet, nI_1, or_0]
      rw [if_neg (by omega), emk, zcS, m_isTrue hF hl ha hb' hd hT, zcS]
      by_cases h : truB (lvc i) a b d = true
      · rw [bI_t h, if_neg (show ¬ (1 : Int32) = 0 by decide), if_pos h]
      · rw [bI_f h, if_pos rfl, if_neg h]
    by_cases h1 : hb (M.1 0 8) i = true
    · by_cases h2 : truB (lvc i) a b d = true
      · exact Or.inr ⟨_, ⟨v, rfl, isW_f hv (fun g => g.2 h2)⟩, fun rc => (e rc).trans (by rw [if_neg (fun g => g h1), if_pos h2])⟩
      · exact Or.inr ⟨_, ⟨_, rfl, isW_t hv (by omega) ⟨h1, h2⟩⟩, fun rc => (e rc).trans (by rw [if_neg (fun g => g h1), if_neg h2])⟩
    · exact Or.inr ⟨_, ⟨v, rfl, isW_f hv (fun g => h1 g.1)⟩, fun rc => (e rc).trans (if_pos h1)⟩) (by
    rintro _ ⟨v, rfl, hv⟩
    refine ⟨v, hv, fun rc => ?_⟩
    show n_X12_judge_0_b133_l F (fun S x4 x5 x6 => rc (S, x4, x5, x6)) M w v (nI 12) = _
    unfold n_X12_judge_0_b133_l n_X12_judge_0_b224 n_X12_judge_0_b225 zpf
    dsimp only
    rw [if_pos (show (12 : Int32) ≤ nI 12 from nI_le (a := 12) (by omega) (by omega)), m_enterOne, zcS, m_enterTwo, zcS]
    by_cases g : w = 0
    · rw [if_pos g, if_pos g]
      by_cases g2 : v = 0
      · rw [if_pos g2, if_pos g2]; rfl
      · rw [if_neg g2, if_neg g2]; rfl
    · rw [if_neg g, if_neg g]; rfl) F (M, w, 0, 0) ⟨0, rfl, isW_0 _⟩ (by omega)
theorem l4096 (x : Int32) : (4096 : Int32) < x ↔ 4097 ≤ x := nI_lt_le x (n := 4096) (by decide)
theorem sort_of {a : Int32} (h : ¬ (a < 0 ∨ 4096 < a)) : ∃ c, c ≤ 4096 ∧ a = nI c := by
  obtain ⟨c, h1, h2⟩ := in_nI (n := 4097) (x := a) (by decide) (fun g => h (Or.inl g)) (fun g => h (Or.inr ((l4096 a).mpr g)))
  exact ⟨c, by omega, h2⟩
/-- judge(a, b, c) -/
theorem p_judge {Q : Zs → Nat → (Nat → Nat) → Prop} (hQ : QOK Q) {F : Nat} (hF : 2 ^ 40 < F) : S_judge F (Rel (Kq Q)) := by
  intro X M hR a b d
  have hin : ∀ (S : Zs) (x : Int32), n_X12_in F S x.toInt64 0 4096 = some (bI (¬ x < 0 ∧ ¬ 4096 < x), S) := fun S x => e_X12_in F S x 0 4096
  have ex0 : n_X11_judge_0 F X a b d = if (a < 0 ∨ 4096 < a) ∨ (b < 0 ∨ 4096 < b) ∨ (d < 0 ∨ 4096 < d) then some (-1, X) else n_X11_judge_0_b41 F X a b d 0 0 := by
    unfold n_X11_judge_0 n_X11_judge_0_e n_X11_judge_0_b33
    by_cases h1 : a < 0
    · rw [if_pos h1, if_pos (Or.inl (Or.inl h1))]
    by_cases h2 : 4096 < a
    · rw [if_neg h1, if_pos h2, if_pos (Or.inl (Or.inr h2))]
    by_cases h3 : b < 0
    · rw [if_neg h1, if_neg h2, if_pos h3, if_pos (Or.inr (Or.inl (Or.inl h3)))]
    by_cases h4 : 4096 < b
    · rw [if_neg h1, if_neg h2, if_neg h3, if_pos h4, if_pos (Or.inr (Or.inl (Or.inr h4)))]
    by_cases h5 : d < 0
    · rw [if_neg h1, if_neg h2, if_neg h3, if_neg h4, if_pos h5, if_pos (Or.inr (Or.inr (Or.inl h5)))]
    by_cases h6 : d ≤ 4096
    · rw [if_neg h1, if_neg h2, if_neg h3, if_neg h4, if_neg h5, if_pos h6, if_neg (show ¬ ((a < 0 ∨ 4096 < a) ∨ (b < 0 ∨ 4096 < b) ∨ (d < 0 ∨ 4096 < d)) from fun g => g.elim (fun g => g.elim h1 h2) (fun g => g.elim (fun g => g.elim h3 h4) (fun g => g.elim h5 (fun g => Int32.not_lt.mpr h6 g))))]
    · rw [if_neg h1, if_neg h2, if_neg h3, if_neg h4, if_neg h5, if_neg h6, if_pos (Or.inr (Or.inr (Or.inr (Int32.not_le.mp h6))))]
  by_cases h : (a < 0 ∨ 4096 < a) ∨ (b < 0 ∨ 4096 < b) ∨ (d < 0 ∨ 4096 < d)
  · refine ⟨-1, X, zp M 0 0 0, by rw [ex0, if_pos h], ?_, hR.thrown 0⟩
    unfold n_X12_judge_0 n_X12_judge_0_e n_X12_judge_0_b41 zpf
    dsimp only
    rw [hin, zcS]
    by_cases h1 : a < 0 ∨ 4096 < a
    · rw [if_pos (bI_f (fun g => h1.elim g.1 g.2))]
    · rw [bI_t ⟨fun g => h1 (Or.inl g), fun g => h1 (Or.inr g)⟩, if_neg (by decide), hin, zcS]
      by_cases h2 : b < 0 ∨ 4096 < b
      · rw [if_pos (bI_f (fun g => h2.elim g.1 g.2))]
      · rw [bI_t ⟨fun g => h2 (Or.inl g), fun g => h2 (Or.inr g)⟩, if_neg (by decide), hin, zcS, if_pos (bI_f (fun g => ((h.resolve_left h1).resolve_left h2).elim g.1 g.2))]
  · have h1 : ¬ (a < 0 ∨ 4096 < a) := fun g => h (Or.inl g)
    have h2 : ¬ (b < 0 ∨ 4096 < b) := fun g => h (Or.inr (Or.inl g))
    have h3 : ¬ (d < 0 ∨ 4096 < d) := fun g => h (Or.inr (Or.inr g))
    have em0 : n_X12_judge_0 F M a b d = n_X12_judge_0_b70 F (zp (zp (zp (zp M 0 0 0) 13 0 a) 13 1 b) 13 2 d) 0 0 := by
      unfold n_X12_judge_0 n_X12_judge_0_e zpf
      dsimp only
      rw [hin, zcS, bI_t ⟨fun g => h1 (Or.inl g), fun g => h1 (Or.inr g)⟩, if_neg (by decide), hin, zcS, bI_t ⟨fun g => h2 (Or.inl g), fun g => h2 (Or.inr g)⟩, if_neg (by decide), hin, zcS, bI_t ⟨fun g => h3 (Or.inl g), fun g => h3 (Or.inr g)⟩, if_neg (by decide)]
      show zst (zp M 0 0 0) 13 3 (nI 0) a (fun S8 => zst S8 13 3 (nI 1) b (fun S9 => zst S9 13 3 (nI 2) d (fun S10 => n_X12_judge_0_b70 F S10 0 0))) = _
      rw [zst_nI _ _ _ _ (by omega) (by omega), zst_nI _ _ _ _ (by omega) (by omega), zst_nI _ _ _ _ (by omega) (by omega)]
    rw [if_neg h] at ex0
    obtain ⟨a, ha, rfl⟩ := sort_of h1
    obtain ⟨b, hb', rfl⟩ := sort_of h2
    obtain ⟨d, hd, rfl⟩ := sort_of h3
    obtain ⟨n, cd, hX, hB, q, hM, el, ed, bd, ew, bw⟩ := Rel_ctx hR
    have fm : fr mR mK M (zp (zp (zp (zp M 0 0 0) 13 0 (nI a)) 13 1 (nI b)) 13 2 (nI d)) := fr_t (f0 M) (fr_t (fr_r _ _ (by decide) (by decide)) (fr_t (fr_r _ _ (by decide) (by decide)) (fr_r _ _ (by decide) (by decide))))
    have hT : Tre (zp (zp (zp (zp M 0 0 0) 13 0 (nI a)) 13 1 (nI b)) 13 2 (nI d)) a b d := by
      refine ⟨?_, ?_, ?_⟩
      · rw [zp_off _ _ (Or.inr (by decide)), zp_off _ _ (Or.inr (by decide)), zp_at]
      · rw [zp_off _ _ (Or.inr (by decide)), zp_at]
      · rw [zp_at]
    generalize zp (zp (zp (zp M 0 0 0) 13 0 (nI a)) 13 1 (nI b)) 13 2 (nI d) = M1 at *
    obtain ⟨v, hv, ev⟩ := x_judge1 hF hX ha hb' hd
    obtain ⟨u, hu, eu⟩ := x_judge2 hF (X := X) ha hb' hd v
    obtain ⟨v', hv', ev'⟩ := m_judge1 hF (MC_fr hM fm (by decide) (by decide)) hT ha hb' hd
    rw [fm.1 7 (by decide)] at hv'
    rw [ew] at hv
    have e1 : v = v' := isW_eq hv hv' (fun _ _ => Iff.rfl)
    subst e1
    obtain ⟨u', hu', eu'⟩ := m_judge2 hF hT ha hb' hd v
    rw [fm.1 8 (by decide)] at hu'
    rw [el] at hu
    have e2 : u = u' := isW_eq hu hu' (fun _ _ => Iff.rfl)
    subst e2
    exact ⟨_, xTwo X v u, mTwo M1 v u, by rw [ex0, ev, eu], by rw [em0, ev', eu'], Rel_two (Kq_ok hQ) (hR.m (fr_m fm (by decide) (by decide))) v u⟩
