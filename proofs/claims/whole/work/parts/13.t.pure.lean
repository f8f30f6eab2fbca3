/-! THE SEARCH of the class -/
def sK : List Nat := [465, 264, 265, 283, 284, 363, 364]
/-- a search: what is enough, of which elements, which are dear -/
def SC (F : Nat) (X0 : Zs) (n : Nat) (cd : Nat → Nat) (E D : Int32) (En : Int32 → Prop) : Prop := (∀ X', fr cR sK X0 X' → KB X' n cd → ∀ s, sb s E → ∃ r X2, n_X6_enough_23 F X' s = some (r, X2) ∧ fr cR cK X' X2 ∧ KB X2 n cd ∧ isB r (En s)) ∧ (∀ s t, sb s t → sb t E → En s → En t) ∧ bnd E 16 ∧ X0.1 0 464 = D
def SI (X0 X' : Zs) (n : Nat) (cd : Nat → Nat) (b : Nat) : Prop := fr cR sK X0 X' ∧ KB X' n cd ∧ X'.1 0 465 = nI b
theorem x_en {F : Nat} {X0 X' : Zs} {n : Nat} {cd : Nat → Nat} {E D : Int32} {En : Int32 → Prop} {b : Nat} (hS : SC F X0 n cd E D En) (h : SI X0 X' n cd b) {s : Int32} (hs : sb s E) : ∃ r X2, n_X6_enough_23 F X' s = some (r, X2) ∧ SI X0 X2 n cd b ∧ isB r (En s) := by
  obtain ⟨r, X2, e, f, k, hr⟩ := hS.1 X' h.1 h.2.1 s hs
  exact ⟨r, X2, e, ⟨fr_t h.1 (fr_w f (by decide) (by decide)), k, by rw [f.1 465 (by decide)]; exact h.2.2⟩, hr⟩
theorem x_cut {F : Nat} (hF : 2 ^ 40 < F) {X0 X' : Zs} {n : Nat} {cd : Nat → Nat} {E D : Int32} {En : Int32 → Prop} {b : Nat} (hS : SC F X0 n cd E D En) (h : SI X0 X' n cd b) {ch op : Int32} (h1 : sb ch E) (h2 : sb op E) : ∃ q : Int32 × Zs, (SI X0 q.2 n cd b ∧ sb ch q.1 ∧ sb q.1 (ch ||| op) ∧ (¬ En ch → ¬ En q.1)) ∧ n_X6_cutOf_23 F X' ch op = some (op &&& (q.1 ^^^ (-1)), q.2) := by
  exact zfix_for (f := fun (rc : (Zs × Int32 × Int32 × Int32) → Option (Int32 × Zs)) (u : (Zs × Int32 × Int32 × Int32)) => n_X6_cutOf_23_b5_l F  (fun S x2 x3 x4 => rc (S, x2, x3, x4)) u.1 u.2.1 u.2.2.1 u.2.2.2) 16 (fun i a => ∃ S g, a = (S, op, g, nI i) ∧ SI X0 S n cd b ∧ sb ch g ∧ sb g (ch ||| op) ∧ (¬ En ch → ¬ En g)) (fun q : Int32 × Zs => SI X0 q.2 n cd b ∧ sb ch q.1 ∧ sb q.1 (ch ||| op) ∧ (¬ En ch → ¬ En q.1)) (fun q => some (op &&& (q.1 ^^^ (-1)), q.2)) (by
    rintro i _ hi ⟨S', g, rfl, hI, g1, g2, g3⟩
    have e : ∀ rc : (Zs × Int32 × Int32 × Int32) → Option (Int32 × Zs), n_X6_cutOf_23_b5_l F (fun S x2 x3 x4 => rc (S, x2, x3, x4)) S' op g (nI i) = if hb op i = false then rc (S', op, g, nI (i + 1)) else zcl (n_X6_enough_23 F S' (g ||| ((1 : Int32) <<< (nI i &&& 31)))) (fun v2 S1 => if v2 = 0 then rc (S1, op, g ||| ((1 : Int32) <<< (nI i &&& 31)), nI (i + 1)) else rc (S1, op, g, nI (i + 1))) := by
      intro rc
      unfold n_X6_cutOf_23_b5_l n_X6_cutOf_23_b41
      simp (disch := omega) only [c16, nI_le_iff, hb_sh0, zlet, nI_1]
      rw [if_neg (by omega)]
    cases hbit : hb op i with
    | false => exact Or.inr ⟨(S', op, g, nI (i + 1)), ⟨S', g, rfl, hI, g1, g2, g3⟩, fun rc => (e rc).trans (if_pos hbit)⟩
    | true =>
      have hgb : sb (g ||| ((1 : Int32) <<< (nI i &&& 31))) (ch ||| op) := sb_o g2 (sb_1 (by omega) (hbo.mpr (Or.inr hbit)))
      obtain ⟨r, X2, e2, hI2, hr⟩ := x_en hS hI (sb_t hgb (sb_o h1 h2))
      by_cases hen : En (g ||| ((1 : Int32) <<< (nI i &&& 31)))
      · refine Or.inr ⟨(X2, op, g, nI (i + 1)), ⟨X2, g, rfl, hI2, g1, g2, g3⟩, fun rc => (e rc).trans ?_⟩
        rw [if_neg (by rw [hbit]; decide), e2, zcS, if_neg (fun q => (isB_0 hr).mp q hen)]
      · refine Or.inr ⟨(X2, op, g ||| ((1 : Int32) <<< (nI i &&& 31)), nI (i + 1)), ⟨X2, _, rfl, hI2, fun k q => hbo.mpr (Or.inl (g1 k q)), hgb, fun _ => hen⟩, fun rc => (e rc).trans ?_⟩
        rw [if_neg (by rw [hbit]; decide), e2, zcS, if_pos ((isB_0 hr).mpr hen)]) (by
    rintro _ ⟨S', g, rfl, hI, g1, g2, g3⟩
    refine ⟨(g, S'), ⟨hI, g1, g2, g3⟩, fun rc => ?_⟩
    show n_X6_cutOf_23_b5_l F (fun S x2 x3 x4 => rc (S, x2, x3, x4)) S' op g (nI 16) = _
    unfold n_X6_cutOf_23_b5_l
    rw [c16, if_pos (nI_le (by omega) (by omega))]) F (X', op, ch, 0) ⟨X', ch, rfl, h, sb_rf _, fun k q => hbo.mpr (Or.inl q), id⟩ (by omega)
/-- what a cut does: each set that is enough has one of it -/
theorem cut_hit {E ch op g : Int32} {En : Int32 → Prop} (hm : ∀ s t, sb s t → sb t E → En s → En t) (h1 : sb ch E) (h2 : sb op E) (g1 : sb ch g) (g2 : sb g (ch ||| op)) (g3 : ¬ En g) {S : Int32} (hS : En S) (hs : sb S (ch ||| op)) : ∃ k, hb S k = true ∧ hb (op &&& (g ^^^ (-1))) k = true := by
  by_cases h : ∃ k, hb S k = true ∧ hb (op &&& (g ^^^ (-1))) k = true
  · exact h
  · exfalso
    refine g3 (hm S g (fun k hk => ?_) (sb_t g2 (sb_o h1 h2)) hS)
    rcases hbo.mp (hs k hk) with q | q
    · exact g1 k q
    · by_cases w : hb g k = true
      · exact w
      · exact absurd ⟨k, hk, hbm.mpr ⟨q, w⟩⟩ h
theorem hb_lt {x : Int32} {k : Nat} (h : hb x k = true) : k < 32 := by
  rcases Nat.lt_or_ge k 32 with g | g
  · exact g
  · rw [hb_ge x g] at h; exact absurd h (by decide)
theorem and_or_d (s t u : Int32) : s &&& (t ||| u) = (s &&& t) ||| (s &&& u) := hb_ext fun k _ => by rw [hb_and, hb_or, hb_or, hb_and, hb_and, Bool.and_or_distrib_left]
theorem x_cuts {F : Nat} (hF : 2 ^ 40 < F) (slf : Zs → Int32 → Int32 → Int32 → Option (Int32 × Zs)) {X0 X' : Zs} {n : Nat} {cd : Nat → Nat} {E D : Int32} {En : Int32 → Prop} {b m : Nat} (hS : SC F X0 n cd E D En) (h : SI X0 X' n cd b) (hm : m ≤ 16) {ch op cut : Int32} (h1 : sb ch E) (h2 : sb op E) (c1 : sb cut op) (c2 : dj ch cut) (c3 : ¬ cut = 0 → ∀ S, En S → sb S (ch ||| op) → ∃ k, hb S k = true ∧ hb cut k = true) : ∃ q : Zs × Int32 × Nat × Nat, (SI X0 q.1 n cd b ∧ bnd q.2.1 16 ∧ q.2.2.1 < 256 ∧ q.2.2.2 ≤ 17 ∧ ∀ S, En S → sb ch S → sb S (ch ||| op) → bc ch 32 + q.2.2.2 ≤ bc S 32 ∧ q.2.2.1 ≤ bc (S &&& D) 32 ∧ tn q.2.1 ≤ tn S) ∧ n_X6_explore_23_b71 F slf X' ch op (nI m) cut ch ch (nI (bc (ch &&& D) 32)) 0 cut = n_X6_explore_23_b155 F slf q.1 ch op (nI m) cut q.2.1 (nI q.2.2.1) (nI q.2.2.2) := by
  have fin : ∀ (taken least : Int32) (dears i : Nat), (∀ S, En S → sb ch S → sb S (ch ||| op) → bc ch 32 + i ≤ bc (S &&& taken) 32 ∧ dears ≤ bc (S &&& taken &&& D) 32 ∧ tn least ≤ tn (S &&& taken)) → ∀ S, En S → sb ch S → sb S (ch ||| op) → bc ch 32 + i ≤ bc S 32 ∧ dears ≤ bc (S &&& D) 32 ∧ tn least ≤ tn S := by
    intro taken least dears i hq S q1 q2 q3
    obtain ⟨w1, w2, w3⟩ := hq S q1 q2 q3
    have s1 : sb (S &&& taken) S := fun k q => (hba.mp q).1
    have s2 : sb (S &&& taken &&& D) (S &&& D) := fun k q => hba.mpr ⟨(hba.mp (hba.mp q).1).1, (hba.mp q).2⟩
    exact ⟨Nat.le_trans w1 (bc_mono s1 _), Nat.le_trans w2 (bc_mono s2 _), Nat.le_trans w3 (tn_mono s1)⟩
  have hE16 := hS.2.2.1
  have hco : sb (ch ||| op) E := sb_o h1 h2
  exact zfix_for (f := fun (rc : (Zs × Int32 × Int32 × Int32 × Int32 × Int32 × Int32 × Int32 × Int32 × Int32) → Option (Int32 × Zs)) (u : (Zs × Int32 × Int32 × Int32 × Int32 × Int32 × Int32 × Int32 × Int32 × Int32)) => n_X6_explore_23_b71_l F slf  (fun S x1 x2 x3 x4 x5 x6 x7 x8 x9 => rc (S, x1, x2, x3, x4, x5, x6, x7, x8, x9)) u.1 u.2.1 u.2.2.1 u.2.2.2.1 u.2.2.2.2.1 u.2.2.2.2.2.1 u.2.2.2.2.2.2.1 u.2.2.2.2.2.2.2.1 u.2.2.2.2.2.2.2.2.1 u.2.2.2.2.2.2.2.2.2) (m + 1) (fun i a => ∃ S' taken least dears next, a = (S', ch, op, nI m, cut, taken, least, nI dears, nI i, next) ∧ SI X0 S' n cd b ∧ sb ch taken ∧ sb taken (ch ||| op) ∧ sb least taken ∧ sb next op ∧ dj taken next ∧ dears ≤ 32 + i ∧ (¬ next = 0 → ∀ S, En S → sb S (ch ||| op) → ∃ k, hb S k = true ∧ hb next k = true) ∧ (∀ S, En S → sb ch S → sb S (ch ||| op) → bc ch 32 + i ≤ bc (S &&& taken) 32 ∧ dears ≤ bc (S &&& taken &&& D) 32 ∧ tn least ≤ tn (S &&& taken))) (fun q : Zs × Int32 × Nat × Nat => SI X0 q.1 n cd b ∧ bnd q.2.1 16 ∧ q.2.2.1 < 256 ∧ q.2.2.2 ≤ 17 ∧ ∀ S, En S → sb ch S → sb S (ch ||| op) → bc ch 32 + q.2.2.2 ≤ bc S 32 ∧ q.2.2.1 ≤ bc (S &&& D) 32 ∧ tn q.2.1 ≤ tn S) (fun q => n_X6_explore_23_b155 F slf q.1 ch op (nI m) cut q.2.1 (nI q.2.2.1) (nI q.2.2.2)) (by
    rintro i _ hi ⟨S', taken, least, dears, next, rfl, hI, t1, t2, l1, n1, n2, d1, hit, hq⟩
    have eD : S'.1 0 464 = D := by rw [hI.1.1 464 (by decide)]; exact hS.2.2.2
    have bl : bnd least 16 := bnd_sb (sb_t l1 (sb_t t2 hco)) hE16
    by_cases hn0 : next = 0
    · refine Or.inl ⟨(S', least, dears, i), ⟨hI, bl, (by show dears < 256; omega), (by show i ≤ 17; omega), fin taken least dears i hq⟩, fun rc => ?_⟩
      show n_X6_explore_23_b71_l F slf (fun S x1 x2 x3 x4 x5 x6 x7 x8 x9 => rc (S, x1, x2, x3, x4, x5, x6, x7, x8, x9)) S' ch op (nI m) cut taken least (nI dears) (nI i) next = _
      unfold n_X6_explore_23_b71_l
      rw [if_pos hn0]
    · have hit := hit hn0
      have low : sb (next &&& (-next)) next := fun k q => (hba.mp q).1
      have tk2 : sb (taken ||| next) (ch ||| op) := sb_o t2 (fun k q => hbo.mpr (Or.inr (n1 k q)))
      have ll : sb (least ||| (next &&& (-next))) (taken ||| next) := sb_o (fun k q => hbo.mpr (Or.inl (l1 k q))) (fun k q => hbo.mpr (Or.inr (low k q)))
      have dl : dj least (next &&& (-next)) := fun k q => n2 k ⟨l1 k q.1, low k q.2⟩
      obtain ⟨t, ht, eT⟩ : ∃ t, t ≤ 1 ∧ ∀ rc : (Zs × Int32 × Int32 × Int32 × Int32 × Int32 × Int32 × Int32 × Int32 × Int32) → Option (Int32 × Zs), (t = 1 → sb next D) ∧ n_X6_explore_23_b71_l F slf (fun S x1 x2 x3 x4 x5 x6 x7 x8 x9 => rc (S, x1, x2, x3, x4, x5, x6, x7, x8, x9)) S' ch op (nI m) cut taken least (nI dears) (nI i) next = n_X6_explore_23_b119 F slf (fun S x1 x2 x3 x4 x5 x6 x7 x8 x9 => rc (S, x1, x2, x3, x4, x5, x6, x7, x8, x9)) S' ch op (nI m) cut (taken ||| next) (least ||| (next &&& (-next))) (nI i) (nI t) (nI dears) := by
        have e : ∀ rc : (Zs × Int32 × Int32 × Int32 × Int32 × Int32 × Int32 × Int32 × Int32 × Int32) → Option (Int32 × Zs), n_X6_explore_23_b71_l F slf (fun S x1 x2 x3 x4 x5 x6 x7 x8 x9 => rc (S, x1, x2, x3, x4, x5, x6, x7, x8, x9)) S' ch op (nI m) cut taken least (nI dears) (nI i) next = if (next &&& (D ^^^ (-1))) = 0 then n_X6_explore_23_b119 F slf (fun S x1 x2 x3 x4 x5 x6 x7 x8 x9 => rc (S, x1, x2, x3, x4, x5, x6, x7, x8, x9)) S' ch op (nI m) cut (taken ||| next) (least ||| (next &&& (-next))) (nI i) 1 (nI dears) else n_X6_explore_23_b119 F slf (fun S x1 x2 x3 x4 x5 x6 x7 x8 x9 => rc (S, x1, x2, x3, x4, x5, x6, x7, x8, x9)) S' ch op (nI m) cut (taken ||| next) (least ||| (next &&& (-next))) (nI i) 0 (nI dears) := by
          intro rc
          unfold n_X6_explore_23_b71_l
          rw [if_neg hn0, if_neg (nI_nlt (by omega) (by omega))]
          unfold zlet zgf
          dsimp only
          rw [eD]
        by_cases hd : (next &&& (D ^^^ (-1))) = 0
        · refine ⟨1, Nat.le_refl 1, fun rc => ⟨fun _ k q => ?_, by rw [e, if_pos hd]; rfl⟩⟩
          by_cases w : hb D k = true
          · exact w
          · exact absurd (hbm.mpr ⟨q, w⟩) (eq0_hb.mp hd k)
        · exact ⟨0, Nat.zero_le 1, fun rc => ⟨fun q => absurd q (by decide), by rw [e, if_neg hd]; rfl⟩⟩
      have cnt2 : ∀ S, En S → sb ch S → sb S (ch ||| op) → bc ch 32 + (i + 1) ≤ bc (S &&& (taken ||| next)) 32 ∧ dears + t ≤ bc (S &&& (taken ||| next) &&& D) 32 ∧ tn (least ||| (next &&& (-next))) ≤ tn (S &&& (taken ||| next)) := by
        intro S q1 q2 q3
        obtain ⟨w1, w2, w3⟩ := hq S q1 q2 q3
        obtain ⟨k, k1, k2⟩ := hit S q1 q3
        have dd : dj (S &&& taken) (S &&& next) := fun j q => n2 j ⟨(hba.mp q.1).2, (hba.mp q.2).2⟩
        have dd2 : dj (S &&& taken &&& D) (S &&& next &&& D) := fun j q => dd j ⟨(hba.mp q.1).1, (hba.mp q.2).1⟩
        have p1 : 1 ≤ bc (S &&& next) 32 := bc_pos (hba.mpr ⟨k1, k2⟩) (hb_lt k1)
        have p2 : t ≤ bc (S &&& next &&& D) 32 := by
          rcases (show t = 0 ∨ t = 1 by omega) with h0 | h0
          · omega
          · have := ((eT (fun _ => none)).1 h0) k k2
            have p := bc_pos (n := 32) (hba.mpr ⟨hba.mpr ⟨k1, k2⟩, this⟩) (hb_lt k1)
            omega
        have p3 := low_le (c := next) (s := S) ⟨k, k1, k2⟩
        have e1 : S &&& (taken ||| next) &&& D = (S &&& taken &&& D) ||| (S &&& next &&& D) := hb_ext fun j _ => by
          rw [hb_and, hb_and, hb_or, hb_or, hb_and, hb_and, hb_and, hb_and]
          cases hb S j <;> cases hb taken j <;> cases hb next j <;> cases hb D j <;> rfl
        rw [e1, and_or_d, bc_or dd, bc_or dd2, tn_or dd, tn_or dl]
        exact ⟨by omega, by omega, by omega⟩
      obtain ⟨r, X2, e2, hI2, hr⟩ := x_en hS hI (sb_t tk2 hco)
      have hnx : nI dears + nI t = nI (dears + t) := nI_add _ _
      by_cases hen : En (taken ||| next)
      · refine Or.inr ⟨(X2, ch, op, nI m, cut, taken ||| next, least ||| (next &&& (-next)), nI (dears + t), nI (i + 1), 0), ⟨X2, _, _, dears + t, 0, rfl, hI2, fun k q => hbo.mpr (Or.inl (t1 k q)), tk2, ll, fun k q => absurd q (eq0_hb.mp rfl k), fun k q => eq0_hb.mp rfl k q.2, by omega, fun q => absurd rfl q, cnt2⟩, fun rc => (eT rc).2.trans ?_⟩
        unfold n_X6_explore_23_b119 n_X6_explore_23_b147 zlet
        dsimp only
        rw [e2, zcS, if_neg (fun q => (isB_0 hr).mp q hen), nI_1, hnx]
      · have h2' : sb (op &&& ((taken ||| next) ^^^ (-1))) E := fun k q => h2 k (hbm.mp q).1
        obtain ⟨⟨g, X3⟩, ⟨hI3, g1, g2, g3⟩, e3⟩ := x_cut hF hS hI2 (sb_t tk2 hco) h2'
        have g3 := g3 hen
        refine Or.inr ⟨(X3, ch, op, nI m, cut, taken ||| next, least ||| (next &&& (-next)), nI (dears + t), nI (i + 1), (op &&& ((taken ||| next) ^^^ (-1))) &&& (g ^^^ (-1))), ⟨X3, _, _, dears + t, _, rfl, hI3, fun k q => hbo.mpr (Or.inl (t1 k q)), tk2, ll, fun k q => (hbm.mp (hbm.mp q).1).1, fun k q => (hbm.mp (hbm.mp q.2).1).2 q.1, by omega, ?_, cnt2⟩, fun rc => (eT rc).2.trans ?_⟩
        · intro _ S q1 q2
          refine cut_hit hS.2.1 (sb_t tk2 hco) h2' g1 g2 g3 q1 (fun k q => ?_)
          rcases hbo.mp (q2 k q) with w | w
          · exact hbo.mpr (Or.inl (hbo.mpr (Or.inl (t1 k w))))
          · by_cases v : hb (taken ||| next) k = true
            · exact hbo.mpr (Or.inl v)
            · exact hbo.mpr (Or.inr (hbm.mpr ⟨w, v⟩))
        · unfold n_X6_explore_23_b119 n_X6_explore_23_b147 zlet
          dsimp only
          rw [e2, zcS, if_pos ((isB_0 hr).mpr hen), e3, zcS, nI_1, hnx]) (by
    rintro _ ⟨S', taken, least, dears, next, rfl, hI, t1, t2, l1, n1, n2, d1, hit, hq⟩
    have bl : bnd least 16 := bnd_sb (sb_t l1 (sb_t t2 hco)) hE16
    refine ⟨(S', least, dears, m + 1), ⟨hI, bl, (by show dears < 256; omega), (by show m + 1 ≤ 17; omega), fin taken least dears (m + 1) hq⟩, fun rc => ?_⟩
    show n_X6_explore_23_b71_l F slf (fun S x1 x2 x3 x4 x5 x6 x7 x8 x9 => rc (S, x1, x2, x3, x4, x5, x6, x7, x8, x9)) S' ch op (nI m) cut taken least (nI dears) (nI (m + 1)) next = _
    unfold n_X6_explore_23_b71_l
    by_cases hn0 : next = 0
    · rw [if_pos hn0]
    · rw [if_neg hn0, if_pos (nI_lt (by omega) (by omega))]) F (X', ch, op, nI m, cut, ch, ch, nI (bc (ch &&& D) 32), 0, cut) ⟨X', ch, ch, bc (ch &&& D) 32, cut, rfl, h, sb_rf _, fun k q => hbo.mpr (Or.inl q), sb_rf _, c1, c2, bc_le _ _, c3, fun S q1 q2 q3 => by
      have e : S &&& ch = ch := hb_ext fun k _ => by
        rw [Bool.eq_iff_iff, hba]
        exact ⟨fun q => q.2, fun q => ⟨q2 k q, q⟩⟩
      rw [e]
      exact ⟨Nat.le_refl _, Nat.le_refl _, Nat.le_refl _⟩⟩ (by omega)
def Cl (En : Int32 → Prop) (ch op : Int32) (m : Nat) (S : Int32) : Prop := En S ∧ sb ch S ∧ sb S (ch ||| op) ∧ bc S 32 ≤ bc ch 32 + m
def EP (F : Nat) (X0 : Zs) (n : Nat) (cd : Nat → Nat) (E D : Int32) (En : Int32 → Prop) (d : Nat) : Prop := ∀ m, m < d → m ≤ 16 → ∀ X' b ch op, SI X0 X' n cd b → b ≤ 2 ^ 24 → sb ch E → sb op E → dj ch op → (∀ S, En S → sb ch S → sb S (ch ||| op) → bc ch 32 + m ≤ bc S 32) → ∃ X2 b2, n_X6_explore_23_r F d X' ch op (nI m) = some (0, X2) ∧ SI X0 X2 n cd b2 ∧ b2 ≤ b ∧ (b2 = b ∨ ∃ S, Cl En ch op m S ∧ rk D S = b2) ∧ ∀ S, Cl En ch op m S → b2 ≤ rk D S
theorem x_branch {F : Nat} (hF : 2 ^ 40 < F) {X0 X' : Zs} {n : Nat} {cd : Nat → Nat} {E D : Int32} {En : Int32 → Prop} {b m d : Nat} (hS : SC F X0 n cd E D En) (ih : EP F X0 n cd E D En d) (hmd : m < d) (hm : m + 1 ≤ 16) (h : SI X0 X' n cd b) (hb2 : b ≤ 2 ^ 24) {ch op cut : Int32} (h1 : sb ch E) (h2 : sb op E) (h3 : dj ch op) (hH : ∀ S, En S → sb ch S → sb S (ch ||| op) → bc ch 32 + (m + 1) ≤ bc S 32) (c1 : sb cut op) (c3 : ∀ S, En S → sb S (ch ||| op) → ∃ k, hb S k = true ∧ hb cut k = true) : ∃ q : Zs × Nat, (SI X0 q.1 n cd q.2 ∧ q.2 ≤ b ∧ (q.2 = b ∨ ∃ S, Cl En ch op (m + 1) S ∧ rk D S = q.2) ∧ ∀ S, Cl En ch op (m + 1) S → q.2 ≤ rk D S) ∧ n_X6_explore_23_b188 F (n_X6_explore_23_r F d) X' ch (nI (m + 1)) cut op 0 = some (0, q.1) := by
  have hE16 := hS.2.2.1
  exact zfix_for (f := fun (rc : (Zs × Int32 × Int32 × Int32 × Int32 × Int32) → Option (Int32 × Zs)) (u : (Zs × Int32 × Int32 × Int32 × Int32 × Int32)) => n_X6_explore_23_b188_l F (n_X6_explore_23_r F d)  (fun S x1 x3 x4 x9 x10 => rc (S, x1, x3, x4, x9, x10)) u.1 u.2.1 u.2.2.1 u.2.2.2.1 u.2.2.2.2.1 u.2.2.2.2.2) 16 (fun i a => ∃ S' left bi, a = (S', ch, nI (m + 1), cut, left, nI i) ∧ SI X0 S' n cd bi ∧ bi ≤ b ∧ (bi = b ∨ ∃ S, Cl En ch op (m + 1) S ∧ rk D S = bi) ∧ (∀ S, Cl En ch op (m + 1) S → (∃ k, k < i ∧ hb S k = true ∧ hb cut k = true) → bi ≤ rk D S) ∧ ∀ k, (hb left k = true ↔ hb op k = true ∧ ¬ (k < i ∧ hb cut k = true))) (fun q : Zs × Nat => SI X0 q.1 n cd q.2 ∧ q.2 ≤ b ∧ (q.2 = b ∨ ∃ S, Cl En ch op (m + 1) S ∧ rk D S = q.2) ∧ ∀ S, Cl En ch op (m + 1) S → q.2 ≤ rk D S) (fun q => some (0, q.1)) (by
    rintro i _ hi ⟨S', left, bi, rfl, hI, hbi, hw, hall, hleft⟩
    have ep : nI (m + 1) - 1 = nI m := nI_pred m
    have e : ∀ rc : (Zs × Int32 × Int32 × Int32 × Int32 × Int32) → Option (Int32 × Zs), n_X6_explore_23_b188_l F (n_X6_explore_23_r F d) (fun S x1 x3 x4 x9 x10 => rc (S, x1, x3, x4, x9, x10)) S' ch (nI (m + 1)) cut left (nI i) = if hb cut i = false then rc (S', ch, nI (m + 1), cut, left, nI (i + 1)) else zcl (n_X6_explore_23_r F d S' (ch ||| ((1 : Int32) <<< (nI i &&& 31))) (offB left i) (nI m)) (fun v3 S2 => rc (S2, ch, nI (m + 1), cut, offB left i, nI (i + 1))) := by
      intro rc
      unfold n_X6_explore_23_b188_l n_X6_explore_23_b231
      simp (disch := omega) only [c16, nI_le_iff, hb_sh0, zlet, nI_1, ep]
      rw [if_neg (by omega)]
      rfl
    cases hbit : hb cut i with
    | false =>
      refine Or.inr ⟨(S', ch, nI (m + 1), cut, left, nI (i + 1)), ⟨S', left, bi, rfl, hI, hbi, hw, fun S q1 q2 => hall S q1 ?_, fun k => ?_⟩, fun rc => (e rc).trans (if_pos hbit)⟩
      · obtain ⟨k, k1, k2, k3⟩ := q2
        refine ⟨k, ?_, k2, k3⟩
        by_cases w : k = i
        · rw [w, hbit] at k3; exact absurd k3 (by decide)
        · omega
      · rw [hleft k]
        refine and_congr_right fun _ => not_congr ⟨fun w => ⟨by omega, w.2⟩, fun w => ⟨?_, w.2⟩⟩
        by_cases v : k = i
        · rw [v, hbit] at w; exact absurd w.2 (by decide)
        · omega
    | true =>
      have hoff : ∀ k, (hb (offB left i) k = true ↔ hb op k = true ∧ ¬ (k < i + 1 ∧ hb cut k = true)) := by
        intro k
        unfold offB
        rw [hbm, hb1 (by omega), hleft k]
        constructor
        · rintro ⟨⟨w1, w2⟩, w3⟩
          exact ⟨w1, fun v => w2 ⟨by omega, v.2⟩⟩
        · rintro ⟨w1, w2⟩
          refine ⟨⟨w1, fun v => w2 ⟨by omega, v.2⟩⟩, fun v => w2 ⟨by omega, by rw [v]; exact hbit⟩⟩
      have hop : hb op i = true := c1 i hbit
      have hni : ¬ hb ch i = true := fun w => h3 i ⟨w, hop⟩
      have dch : dj ch ((1 : Int32) <<< (nI i &&& 31)) := fun k w => by
        have := (hb1 (by omega)).mp w.2
        rw [this] at w; exact hni w.1
      have ebc : bc (ch ||| ((1 : Int32) <<< (nI i &&& 31))) 32 = bc ch 32 + 1 := by rw [bc_or dch, bc_bit (by omega)]
      have sub1 : sb ((ch ||| ((1 : Int32) <<< (nI i &&& 31))) ||| offB left i) (ch ||| op) := sb_o (sb_o (fun k w => hbo.mpr (Or.inl w)) (sb_1 (by omega) (hbo.mpr (Or.inr hop)))) (fun k w => hbo.mpr (Or.inr ((hoff k).mp w).1))
      have sch : sb ch (ch ||| ((1 : Int32) <<< (nI i &&& 31))) := fun k w => hbo.mpr (Or.inl w)
      have up : ∀ S, Cl En (ch ||| ((1 : Int32) <<< (nI i &&& 31))) (offB left i) m S → Cl En ch op (m + 1) S := by
        rintro S ⟨w1, w2, w3, w4⟩
        exact ⟨w1, sb_t sch w2, sb_t w3 sub1, by omega⟩
      obtain ⟨X2, b2, e2, hI2, hb2', hw2, hall2⟩ := ih m hmd (by omega) S' bi (ch ||| ((1 : Int32) <<< (nI i &&& 31))) (offB left i) hI (by omega) (sb_o h1 (sb_1 (by omega) (h2 i hop))) (fun k w => h2 k ((hoff k).mp w).1) (fun k w => by
        rcases hbo.mp w.1 with v | v
        · exact h3 k ⟨v, ((hoff k).mp w.2).1⟩
        · rw [hb1 (by omega)] at v
          exact ((hoff k).mp w.2).2 ⟨by omega, by rw [v]; exact hbit⟩) (fun S w1 w2 w3 => by
        have := hH S w1 (sb_t sch w2) (sb_t w3 sub1)
        omega)
      refine Or.inr ⟨(X2, ch, nI (m + 1), cut, offB left i, nI (i + 1)), ⟨X2, _, b2, rfl, hI2, by omega, ?_, fun S q1 q2 => ?_, hoff⟩, fun rc => (e rc).trans ?_⟩
      · rcases hw2 with w | ⟨S, w1, w2⟩
        · rw [w]; exact hw
        · exact Or.inr ⟨S, up S w1, w2⟩
      · by_cases v : ∃ k, k < i ∧ hb S k = true ∧ hb cut k = true
        · have := hall S q1 v; omega
        · obtain ⟨k, k1, k2, k3⟩ := q2
          have ki : k = i := by
            by_cases w : k = i
            · exact w
            · exact absurd ⟨k, by omega, k2, k3⟩ v
          subst ki
          refine hall2 S ⟨q1.1, sb_o q1.2.1 (sb_1 (by omega) k2), fun j w => ?_, by have := q1.2.2.2; omega⟩
          rcases hbo.mp (q1.2.2.1 j w) with u | u
          · exact hbo.mpr (Or.inl (hbo.mpr (Or.inl u)))
          · by_cases y : j = k
            · exact hbo.mpr (Or.inl (hbo.mpr (Or.inr ((hb1 (by omega)).mpr y))))
            · refine hbo.mpr (Or.inr ((hoff j).mpr ⟨u, fun z => v ⟨j, by omega, w, z.2⟩⟩))
      · rw [if_neg (by rw [hbit]; decide), e2, zcS]) (by
    rintro _ ⟨S', left, bi, rfl, hI, hbi, hw, hall, hleft⟩
    refine ⟨(S', bi), ⟨hI, hbi, hw, fun S q => hall S q ?_⟩, fun rc => ?_⟩
    · obtain ⟨k, k1, k2⟩ := c3 S q.1 q.2.2.1
      refine ⟨k, ?_, k1, k2⟩
      rcases Nat.lt_or_ge k 16 with w | w
      · exact w
      · have := h2 k (c1 k k2)
        rw [bnd_hb hE16 w] at this; exact absurd this (by decide)
    · show n_X6_explore_23_b188_l F (n_X6_explore_23_r F d) (fun S x1 x3 x4 x9 x10 => rc (S, x1, x3, x4, x9, x10)) S' ch (nI (m + 1)) cut left (nI 16) = _
      unfold n_X6_explore_23_b188_l
      rw [c16, if_pos (nI_le (by omega) (by omega))]) F (X', ch, nI (m + 1), cut, op, 0) ⟨X', op, b, rfl, h, Nat.le_refl _, Or.inl rfl, fun S q1 q2 => by
        obtain ⟨k, k1, -⟩ := q2
        omega, fun k => ⟨fun w => ⟨w, fun v => by omega⟩, fun w => w.1⟩⟩ (by omega)
theorem x_explore {F : Nat} (hF : 2 ^ 40 < F) {X0 : Zs} {n : Nat} {cd : Nat → Nat} {E D : Int32} {En : Int32 → Prop} (hS : SC F X0 n cd E D En) : ∀ d, EP F X0 n cd E D En d := by
  have hE16 := hS.2.2.1
  intro d
  induction d with
  | zero => intro m hm; omega
  | succ d ih =>
    intro m hmd hm X' b ch op hI hb2 h1 h2 h3 hH
    have e0 : n_X6_explore_23_r F (d + 1) X' ch op (nI m) = n_X6_explore_23_e F (n_X6_explore_23_r F d) X' ch op (nI m) := rfl
    obtain ⟨r, X1, e1, hI1, hr⟩ := x_en hS hI h1
    have bch : bnd ch 16 := bnd_sb h1 hE16
    have bco : ∀ y, bnd (ch &&& y) 24 := fun y => bnd_le (bnd_and y bch) (by omega)
    have cl0 : ∀ S, sb ch S → bc S 32 ≤ bc ch 32 → S = ch := fun S w1 w2 => (bc_eq w1 w2).symm
    by_cases hen : En ch
    · have hm0 : m = 0 := by
        have := hH ch hen (sb_rf _) (fun k w => hbo.mpr (Or.inl w))
        omega
      subst hm0
      have eD : X1.1 0 464 = D := by rw [hI1.1.1 464 (by decide)]; exact hS.2.2.2
      have hrk : bc (ch &&& D) 32 < 256 := Nat.lt_of_le_of_lt (bc_le _ _) (by omega)
      have htn : tn ch < 2 ^ 16 := bch
      have hbd : bc (ch &&& D) 32 ≤ 32 := bc_le _ _
      have ex : n_X6_explore_23_r F (d + 1) X' ch op (nI 0) = some (0, zp X1 0 465 (nI (if rk D ch < b then rk D ch else b))) := by
        rw [e0]
        unfold n_X6_explore_23_e
        rw [e1, zcS, if_neg (fun w => (isB_0 hr).mp w hen)]
        unfold zgf
        dsimp only
        rw [eD, x_bitCount _ (bco D), zcS, rk_i hrk bch, hI1.2.2]
        unfold zlet zpf
        dsimp only
        unfold rk
        by_cases w : 65536 * bc (ch &&& D) 32 + tn ch < b
        · rw [if_pos ((nI_lt_iff (by omega) (by omega)).mpr w), if_pos w]
        · rw [if_neg (fun v => w ((nI_lt_iff (by omega) (by omega)).mp v)), if_neg w]
      refine ⟨_, if rk D ch < b then rk D ch else b, ex, ⟨fr_t hI1.1 (fr_p _ (by decide)), ?_, rfl⟩, ?_, ?_, ?_⟩
      · refine KB_same (fr_k (R := []) (K := [465]) (fr_p _ (by decide)) (by decide) (by decide)) hI1.2.1
      · split <;> omega
      · by_cases w : rk D ch < b
        · rw [if_pos w]; exact Or.inr ⟨ch, ⟨hen, sb_rf _, fun k v => hbo.mpr (Or.inl v), Nat.le_refl _⟩, rfl⟩
        · rw [if_neg w]; exact Or.inl rfl
      · rintro S ⟨w1, w2, w3, w4⟩
        rw [cl0 S w2 (by omega)]
        split <;> omega
    · have hr0 : r = 0 := (isB_0 hr).mpr hen
      cases m with
      | zero =>
        refine ⟨X1, b, ?_, hI1, Nat.le_refl _, Or.inl rfl, ?_⟩
        · rw [e0]
          unfold n_X6_explore_23_e
          rw [e1, zcS, if_pos hr0, if_neg (show ¬ (0 : Int32) < nI 0 by decide)]
        · rintro S ⟨w1, w2, w3, w4⟩
          rw [cl0 S w2 (by omega)] at w1
          exact absurd w1 hen
      | succ m =>
        obtain ⟨⟨g, X2⟩, ⟨hI2, g1, g2, g3⟩, e2⟩ := x_cut hF hS hI1 h1 h2
        have g3 := g3 hen
        have hI2 : SI X0 X2 n cd b := hI2
        have eD : X2.1 0 464 = D := by rw [hI2.1.1 464 (by decide)]; exact hS.2.2.2
        have hit : ∀ S, En S → sb S (ch ||| op) → ∃ k, hb S k = true ∧ hb (op &&& (g ^^^ (-1))) k = true := fun S w1 w2 => cut_hit hS.2.1 h1 h2 g1 g2 g3 w1 w2
        generalize hcut : op &&& (g ^^^ (-1)) = cut at *
        have c1 : sb cut op := fun k w => by rw [← hcut] at w; exact (hbm.mp w).1
        obtain ⟨⟨X3, least, dears, j⟩, ⟨hI3, bl, hd, hj, hq⟩, e3⟩ := x_cuts hF (n_X6_explore_23_r F d) hS hI2 (show m + 1 ≤ 16 from hm) h1 h2 c1 (fun k w => h3 k ⟨w.1, c1 k w.2⟩) (fun _ => hit)
        have hI3 : SI X0 X3 n cd b := hI3
        have bl : bnd least 16 := bl
        have hd : dears < 256 := hd
        have hj : j ≤ 17 := hj
        have hq : ∀ S, En S → sb ch S → sb S (ch ||| op) → bc ch 32 + j ≤ bc S 32 ∧ dears ≤ bc (S &&& D) 32 ∧ tn least ≤ tn S := hq
        have htn : tn least < 2 ^ 16 := bl
        have ex : n_X6_explore_23_r F (d + 1) X' ch op (nI (m + 1)) = n_X6_explore_23_b155 F (n_X6_explore_23_r F d) X3 ch op (nI (m + 1)) cut least (nI dears) (nI j) := by
          rw [e0]
          unfold n_X6_explore_23_e
          rw [e1, zcS, if_pos hr0, if_pos (show (0 : Int32) < nI (m + 1) from nI_lt (a := 0) (by omega) (by omega)), e2, zcS]
          unfold zgf
          dsimp only
          rw [eD, x_bitCount _ (bco D), zcS]
          exact e3
        have quit : (∀ S, Cl En ch op (m + 1) S → b ≤ rk D S) → n_X6_explore_23_b155 F (n_X6_explore_23_r F d) X3 ch op (nI (m + 1)) cut least (nI dears) (nI j) = some (0, X3) → ∃ X2 b2, n_X6_explore_23_r F (d + 1) X' ch op (nI (m + 1)) = some (0, X2) ∧ SI X0 X2 n cd b2 ∧ b2 ≤ b ∧ (b2 = b ∨ ∃ S, Cl En ch op (m + 1) S ∧ rk D S = b2) ∧ ∀ S, Cl En ch op (m + 1) S → b2 ≤ rk D S :=
          fun w1 w2 => ⟨X3, b, ex.trans w2, hI3, Nat.le_refl _, Or.inl rfl, w1⟩
        by_cases hc0 : cut = 0
        · refine quit (fun S w => ?_) ?_
          · obtain ⟨k, -, k2⟩ := hit S w.1 w.2.2.1
            exact absurd k2 (eq0_hb.mp hc0 k)
          · unfold n_X6_explore_23_b155
            rw [if_pos hc0]; rfl
        · by_cases hjm : m + 1 < j
          · refine quit (fun S w => ?_) ?_
            · have := (hq S w.1 w.2.1 w.2.2.1).1
              have := w.2.2.2
              omega
            · unfold n_X6_explore_23_b155
              rw [if_neg hc0, if_pos (nI_lt hjm (by omega))]; rfl
          · have e5 : n_X6_explore_23_b155 F (n_X6_explore_23_r F d) X3 ch op (nI (m + 1)) cut least (nI dears) (nI j) = if nI (65536 * dears + tn least) < nI b then n_X6_explore_23_b188 F (n_X6_explore_23_r F d) X3 ch (nI (m + 1)) cut op 0 else some (0, X3) := by
              unfold n_X6_explore_23_b155 n_X6_explore_23_b181
              rw [if_neg hc0, if_neg (nI_nlt (by omega) (by omega))]
              unfold zgf
              dsimp only
              rw [rk_i hd bl, hI3.2.2]
            by_cases hbst : 65536 * dears + tn least < b
            · obtain ⟨⟨X4, b4⟩, ⟨q1, q2, q3, q4⟩, e6⟩ := x_branch hF hS ih (by omega) hm hI3 hb2 h1 h2 h3 hH c1 hit
              refine ⟨X4, b4, ?_, q1, q2, q3, q4⟩
              rw [ex, e5, if_pos ((nI_lt_iff (by omega) (by omega)).mpr hbst)]
              exact e6
            · refine quit (fun S w => ?_) ?_
              · obtain ⟨-, v1, v2⟩ := hq S w.1 w.2.1 w.2.2.1
                unfold rk
                have : 65536 * dears ≤ 65536 * bc (S &&& D) 32 := Nat.mul_le_mul_left _ v1
                omega
              · rw [e5, if_neg (fun v => hbst ((nI_lt_iff (by omega) (by omega)).mp v))]
