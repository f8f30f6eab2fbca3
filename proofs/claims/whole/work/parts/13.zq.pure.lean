/-! plead: reading -/
theorem zst_cX {β : Type} (X : Zs) (p : Nat) {r e : Nat} (v : Int32) (f : Zs → Option β) (h : r ≠ 0) (he : e < 40) : zst (cX X p) r 40 (nI e) v f = f (cX (zp X r e v) p) := by rw [zst_nI _ _ _ _ he (by omega), cX_z _ _ _ _ h]
theorem zld_cX {β : Type} (X : Zs) (p : Nat) {r e : Nat} (v : Int32) (f : Int32 → Option β) (h : r ≠ 0) (he : e < 40) : zld (cX (zp X r e v) p) r 40 (nI e) f = f v := by rw [zld_nI _ _ _ he (by omega), cX_r _ _ h, zp_at]
theorem zst_cM {β : Type} (X : Zs) (p : Nat) {r e : Nat} (v : Int32) (f : Zs → Option β) (h : r ≠ 0) (he : e < 40) : zst (cM X p) r 40 (nI e) v f = f (cM (zp X r e v) p) := by rw [zst_nI _ _ _ _ he (by omega), cM_z _ _ _ _ h]
theorem zld_cM {β : Type} (X : Zs) (p : Nat) {r e : Nat} (v : Int32) (f : Int32 → Option β) (h : r ≠ 0) (he : e < 40) : zld (cM (zp X r e v) p) r 40 (nI e) f = f v := by rw [zld_nI _ _ _ he (by omega), cM_r _ _ h, zp_at]
def nmV (sg : Nat → Nat) (T a : Nat) : Option Nat × Nat := if wiB sg T a 48 57 = true then (if wiB sg T (a + 1) 48 57 = true then (some (10 * (sg a - 48) + (sg (a + 1) - 48)), a + 1 + 1) else (some (sg a - 48), a + 1)) else (none, a)
theorem nmV_le {sg : Nat → Nat} {T a : Nat} (h : a ≤ T) : (nmV sg T a).2 ≤ T ∧ a ≤ (nmV sg T a).2 ∧ ∀ x, (nmV sg T a).1 = some x → x < 100 ∧ a + 1 ≤ (nmV sg T a).2 := by
  unfold nmV
  split
  · rename_i g
    obtain ⟨g1, g2, g3⟩ := wiB_t g
    split
    · rename_i k
      obtain ⟨k1, k2, k3⟩ := wiB_t k
      refine ⟨k1, by omega, fun x hx => ?_⟩
      have := Option.some.inj hx
      exact ⟨by omega, by omega⟩
    · refine ⟨g1, by omega, fun x hx => ?_⟩
      have := Option.some.inj hx
      exact ⟨by omega, by omega⟩
  · exact ⟨h, Nat.le_refl _, fun x hx => absurd hx (by simp)⟩
theorem ten (k : Nat) : (10 : Int32) * nI k = nI (10 * k) := pk_mul 10 k
theorem x_number {F : Nat} {X : Zs} {sg : Nat → Nat} {L a : Nat} (h : XB X sg L) (ha : a ≤ min L 76) : n_X8_takeNumber_1 F (cX X a) = some (oN (nmV sg (min L 76) a).1, cX X (nmV sg (min L 76) a).2) := by
  have k1 : n_X8_takeWithin_1 F (cX X a) 48 57 = _ := x_within (F := F) (lo := 48) (hi := 57) h ha (by omega) (by omega)
  unfold n_X8_takeNumber_1 n_X8_takeNumber_1_e n_X8_takeNumber_1_b40 nmV
  rw [k1, zcS]
  cases e1 : wiB sg (min L 76) a 48 57 with
  | false => rw [if_neg (show ¬ false = true by decide), if_pos rfl, if_neg (show ¬ false = true by decide)]; rfl
  | true =>
    obtain ⟨g1, g2, g3⟩ := wiB_t e1
    have k2 : n_X8_takeWithin_1 F (cX X (a + 1)) 48 57 = _ := x_within (F := F) (lo := 48) (hi := 57) h g1 (by omega) (by omega)
    rw [if_pos (show true = true from rfl), if_neg (nI_ne_m1 (by omega)), if_pos (show true = true from rfl), show a + (true).toNat = a + 1 from rfl, k2, zcS]
    cases e2 : wiB sg (min L 76) (a + 1) 48 57 with
    | false => rw [if_neg (show ¬ false = true by decide), if_pos rfl, if_neg (show ¬ false = true by decide)]; rfl
    | true => rw [if_pos (show true = true from rfl), if_neg (nI_ne_m1 (by have := (wiB_t e2).2.2; omega)), if_pos (show true = true from rfl), ten, nI_add]; rfl
theorem m_number {F : Nat} {M : Zs} {sg : Nat → Nat} {L a : Nat} (h : MB M sg L) (ha : a ≤ min L 76) : n_X12_number_0 F (cM M a) = some (oN (nmV sg (min L 76) a).1, cM M (nmV sg (min L 76) a).2) := by
  have k1 : n_X12_digit_0 F (cM M a) 9 = _ := m_digit (F := F) (k := 9) h ha (by omega)
  unfold n_X12_number_0 n_X12_number_0_e n_X12_number_0_b35 nmV
  rw [k1, zcS]
  cases e1 : wiB sg (min L 76) a 48 57 with
  | false => rw [if_neg (show ¬ false = true by decide), if_neg (show ¬ (0 : Int32) ≤ -1 by decide), if_neg (show ¬ false = true by decide)]; rfl
  | true =>
    obtain ⟨g1, g2, g3⟩ := wiB_t e1
    have k2 : n_X12_digit_0 F (cM M (a + 1)) 9 = _ := m_digit (F := F) (k := 9) h g1 (by omega)
    rw [if_pos (show true = true from rfl), if_pos (Int32.not_lt.mp (nI_pos (by omega))), if_pos (show true = true from rfl), show a + (true).toNat = a + 1 from rfl, m_isDigit h g1, zcS, k2, zcS]
    cases e2 : wiB sg (min L 76) (a + 1) 48 57 with
    | false => rw [if_pos (show bI (false = true) = 0 by decide), if_neg (show ¬ false = true by decide)]; rfl
    | true => rw [if_neg (show ¬ bI (true = true) = 0 by decide), if_pos (show true = true from rfl), if_pos (show true = true from rfl), ten, nI_add]; rfl
/-- the end of a plea: its saying -/
def pcV (sg : Nat → Nat) (T l f : Nat) (g : Option Nat) (a : Nat) : Option (Nat × Nat × Option Nat × Nat) × Nat := match cdV sg T a with
  | (none, p) => (none, p)
  | (some c, p) => (some (l, f, g, c), p)
/-- a plea: lawyer, numbers, CODE -/
def plV (sg : Nat → Nat) (T a : Nat) : Option (Nat × Nat × Option Nat × Nat) × Nat :=
  if wiB sg T a 48 51 = true then (if tkB sg T (a + 1) 58 = true then (match nmV sg T (a + 1 + 1) with
    | (none, p) => (none, p)
    | (some f, p) => if tkB sg T p 43 = true then (match nmV sg T (p + 1) with
      | (none, q) => (none, q)
      | (some g, q) => pcV sg T (sg a - 48) f (some g) q) else pcV sg T (sg a - 48) f none p) else (none, a + 1)) else (none, a)
def plOk (l : Nat × Nat × Option Nat × Nat) : Prop := l.1 < 4 ∧ l.2.1 < 100 ∧ (∀ g, l.2.2.1 = some g → g < 100) ∧ l.2.2.2 < 2304
theorem pcV_le {sg : Nat → Nat} {T l f a : Nat} {g : Option Nat} (h : a ≤ T) (h1 : l < 4) (h2 : f < 100) (h3 : ∀ x, g = some x → x < 100) : (pcV sg T l f g a).2 ≤ T ∧ a ≤ (pcV sg T l f g a).2 ∧ ∀ x, (pcV sg T l f g a).1 = some x → plOk x ∧ a + 3 ≤ (pcV sg T l f g a).2 := by
  have hc := cdV_le (sg := sg) h
  unfold pcV
  generalize cdV sg T a = r at *
  obtain ⟨c, p⟩ := r
  cases c with
  | none => exact ⟨hc.1, hc.2.1, fun x hx => absurd hx (by simp)⟩
  | some c =>
    refine ⟨hc.1, hc.2.1, fun x hx => ?_⟩
    have := Option.some.inj hx
    rw [← this]
    exact ⟨⟨h1, h2, h3, (hc.2.2 c rfl).1⟩, (hc.2.2 c rfl).2⟩
theorem plV_le {sg : Nat → Nat} {T a : Nat} (h : a ≤ T) : (plV sg T a).2 ≤ T ∧ ∀ x, (plV sg T a).1 = some x → plOk x ∧ a + 6 ≤ (plV sg T a).2 := by
  unfold plV
  split
  · rename_i g
    obtain ⟨g1, g2, g3⟩ := wiB_t g
    split
    · rename_i k
      have k1 := (tkB_t k).1
      have hn := nmV_le (sg := sg) (show a + 1 + 1 ≤ T from k1)
      generalize nmV sg T (a + 1 + 1) = r at *
      obtain ⟨f, p⟩ := r
      cases f with
      | none => exact ⟨hn.1, fun x hx => absurd hx (by simp)⟩
      | some f =>
        obtain ⟨f1, f2⟩ := hn.2.2 f rfl
        have hp : p ≤ T := hn.1
        dsimp only at f2 ⊢
        split
        · rename_i w
          have w1 := (tkB_t w).1
          have hm := nmV_le (sg := sg) (show p + 1 ≤ T from w1)
          generalize nmV sg T (p + 1) = r2 at *
          obtain ⟨y, q⟩ := r2
          cases y with
          | none => exact ⟨hm.1, fun x hx => absurd hx (by simp)⟩
          | some y =>
            obtain ⟨y1, y2⟩ := hm.2.2 y rfl
            dsimp only at y2 ⊢
            have hc := pcV_le (sg := sg) (l := sg a - 48) (f := f) (g := some y) (show q ≤ T from hm.1) (by omega) f1 (fun x hx => by rw [← Option.some.inj hx]; exact y1)
            exact ⟨hc.1, fun x hx => ⟨(hc.2.2 x hx).1, by have := (hc.2.2 x hx).2; omega⟩⟩
        · have hc := pcV_le (sg := sg) (l := sg a - 48) (f := f) (g := none) hp (by omega) f1 (fun x hx => absurd hx (by simp))
          exact ⟨hc.1, fun x hx => ⟨(hc.2.2 x hx).1, by have := (hc.2.2 x hx).2; omega⟩⟩
    · exact ⟨g1, fun x hx => absurd hx (by simp)⟩
  · exact ⟨h, fun x hx => absurd hx (by simp)⟩
/-- a plea is written at e, and nothing else -/
def Wt (rc rl r1 r2 : Nat) (S S2 : Zs) (e : Nat) : Prop := fr [rc, rl, r1, r2] [] S S2 ∧ ∀ i, i ≠ e → S2.1 rc i = S.1 rc i ∧ S2.1 rl i = S.1 rl i ∧ S2.1 r1 i = S.1 r1 i ∧ S2.1 r2 i = S.1 r2 i
def At (rc rl r1 r2 : Nat) (S : Zs) (e : Nat) (l : Nat × Nat × Option Nat × Nat) : Prop := S.1 rc e = nI l.2.2.2 ∧ S.1 rl e = nI l.1 ∧ S.1 r1 e = nI l.2.1 ∧ S.1 r2 e = oN l.2.2.1
theorem Wt_z {rc rl r1 r2 : Nat} {S S2 : Zs} {e : Nat} (h : Wt rc rl r1 r2 S S2 e) {r : Nat} (v : Int32) (hr : r ∈ [rc, rl, r1, r2]) (h0 : r ≠ 0) : Wt rc rl r1 r2 S (zp S2 r e v) e := by
  refine ⟨fr_t h.1 (fr_r _ _ hr h0), fun i hi => ?_⟩
  rw [zp_off _ _ (Or.inr hi), zp_off _ _ (Or.inr hi), zp_off _ _ (Or.inr hi), zp_off _ _ (Or.inr hi)]
  exact h.2 i hi
theorem Wt_rf (rc rl r1 r2 : Nat) (S : Zs) (e : Nat) : Wt rc rl r1 r2 S S e := ⟨fr_rf _ _ _, fun _ _ => ⟨rfl, rfl, rfl, rfl⟩⟩
theorem x_pend {F : Nat} {X : Zs} {sg : Nat → Nat} {L a e l f : Nat} {g : Option Nat} (hB : XB X sg L) (ha : a ≤ min L 76) (he : e < 40) (h1 : X.1 43 e = nI l) (h2 : X.1 44 e = nI f) (h3 : X.1 45 e = oN g) : ∃ r X2, n_X3_readLine_41_1_b95 F (cX X a) (nI e) = some (r, cX X2 (pcV sg (min L 76) l f g a).2) ∧ Wt 42 43 44 45 X X2 e ∧ isB r ((pcV sg (min L 76) l f g a).1.isSome = true) ∧ ∀ x, (pcV sg (min L 76) l f g a).1 = some x → At 42 43 44 45 X2 e x := by
  have kc := x_takeCode (F := F) hB ha
  have hc := cdV_le (sg := sg) ha
  unfold n_X3_readLine_41_1_b95 n_X3_readLine_41_1_b120 pcV
  rw [kc, zcS]
  generalize cdV sg (min L 76) a = r at *
  obtain ⟨c, p⟩ := r
  cases c with
  | none =>
    refine ⟨0, zp X 42 e (-1), ?_, Wt_z (Wt_rf _ _ _ _ _ _) _ (by decide) (by decide), Or.inr ⟨rfl, by simp⟩, fun x hx => absurd hx (by simp)⟩
    show zst (cX X p) 42 40 (nI e) (-1) _ = _
    rw [zst_cX _ _ _ _ (by decide) he, zld_cX _ _ _ _ (by decide) he, if_pos rfl, zrb_0]
  | some c =>
    have c1 := (hc.2.2 c rfl).1
    refine ⟨1, zp X 42 e (nI c), ?_, Wt_z (Wt_rf _ _ _ _ _ _) _ (by decide) (by decide), Or.inl ⟨rfl, rfl⟩, fun x hx => ?_⟩
    · show zst (cX X p) 42 40 (nI e) (nI c) _ = _
      rw [zst_cX _ _ _ _ (by decide) he, zld_cX _ _ _ _ (by decide) he, if_neg (nI_ne_m1 (by omega)), zrb_1]
    · have := Option.some.inj hx
      rw [← this]
      refine ⟨zp_at _ _ _ _, ?_, ?_, ?_⟩
      · rw [zp_off _ _ (Or.inl (by decide))]; exact h1
      · rw [zp_off _ _ (Or.inl (by decide))]; exact h2
      · rw [zp_off _ _ (Or.inl (by decide))]; exact h3
theorem Wt_t {rc rl r1 r2 : Nat} {A B C : Zs} {e : Nat} (h : Wt rc rl r1 r2 A B e) (g : Wt rc rl r1 r2 B C e) : Wt rc rl r1 r2 A C e := ⟨fr_t h.1 g.1, fun i hi => ⟨(g.2 i hi).1.trans (h.2 i hi).1, (g.2 i hi).2.1.trans (h.2 i hi).2.1, (g.2 i hi).2.2.1.trans (h.2 i hi).2.2.1, (g.2 i hi).2.2.2.trans (h.2 i hi).2.2.2⟩⟩
theorem x_line {F : Nat} {X : Zs} {sg : Nat → Nat} {L a e : Nat} (hB : XB X sg L) (ha : a ≤ min L 76) (he : e < 40) : ∃ r X2, n_X3_readLine_41_1 F (cX X a) (nI e) = some (r, cX X2 (plV sg (min L 76) a).2) ∧ Wt 42 43 44 45 X X2 e ∧ isB r ((plV sg (min L 76) a).1.isSome = true) ∧ ∀ x, (plV sg (min L 76) a).1 = some x → At 42 43 44 45 X2 e x := by
  have kw : n_X8_takeWithin_1 F (cX X a) 48 51 = _ := x_within (F := F) (lo := 48) (hi := 51) hB ha (by omega) (by omega)
  unfold n_X3_readLine_41_1 n_X3_readLine_41_1_e n_X3_readLine_41_1_b33 plV
  rw [kw, zcS, zst_cX _ _ _ _ (by decide) he, zld_cX _ _ _ _ (by decide) he]
  cases e1 : wiB sg (min L 76) a 48 51 with
  | false =>
    rw [if_neg (show ¬ false = true by decide), if_pos rfl, if_neg (show ¬ false = true by decide), zrb_0]
    exact ⟨0, _, rfl, Wt_z (Wt_rf _ _ _ _ _ _) _ (by decide) (by decide), Or.inr ⟨rfl, by simp⟩, fun x hx => absurd hx (by simp)⟩
  | true =>
    obtain ⟨g1, g2, g3⟩ := wiB_t e1
    rw [if_pos (show true = true from rfl), if_neg (nI_ne_m1 (by omega)), if_pos (show true = true from rfl), show a + (true).toNat = a + 1 from rfl]
    generalize hX1 : zp X 43 e (nI (sg a - 48)) = X1
    have w1 : Wt 42 43 44 45 X X1 e := by rw [← hX1]; exact Wt_z (Wt_rf _ _ _ _ _ _) _ (by decide) (by decide)
    have h43 : X1.1 43 e = nI (sg a - 48) := by rw [← hX1]; exact zp_at _ _ _ _
    have hB1 := XB_fr hB w1.1 (by decide) (by decide)
    have k58 : n_X8_take_1 F (cX X1 (a + 1)) 58 = _ := x_take (F := F) (c := 58) hB1 g1 (by omega)
    rw [k58, zcS]
    cases e2 : tkB sg (min L 76) (a + 1) 58 with
    | false =>
      rw [if_pos (show bI (false = true) = 0 by decide), if_neg (show ¬ false = true by decide), zrb_0]
      exact ⟨0, _, rfl, w1, Or.inr ⟨rfl, by simp⟩, fun x hx => absurd hx (by simp)⟩
    | true =>
      have g4 := (tkB_t e2).1
      rw [if_neg (show ¬ bI (true = true) = 0 by decide), if_pos (show true = true from rfl), show a + 1 + (true).toNat = a + 1 + 1 from rfl, x_number hB1 g4, zcS]
      have hn := nmV_le (sg := sg) (show a + 1 + 1 ≤ min L 76 from g4)
      generalize nmV sg (min L 76) (a + 1 + 1) = r at *
      obtain ⟨f, p⟩ := r
      rw [zst_cX _ _ _ _ (by decide) he, zld_cX _ _ _ _ (by decide) he]
      cases f with
      | none =>
        show ∃ r X2, (if (-1 : Int32) = -1 then _ else _) = _ ∧ _
        rw [if_pos rfl, zrb_0]
        exact ⟨0, _, rfl, Wt_z w1 _ (by decide) (by decide), Or.inr ⟨rfl, by simp⟩, fun x hx => absurd hx (by simp)⟩
      | some f =>
        obtain ⟨f1, f2⟩ := hn.2.2 f rfl
        have hp : p ≤ min L 76 := hn.1
        dsimp only
        rw [show oN (some f) = nI f from rfl, if_neg (nI_ne_m1 (by omega)), zst_cX _ _ _ _ (by decide) he]
        generalize hX2 : zp (zp X1 44 e (nI f)) 45 e (-1) = X2
        have w2 : Wt 42 43 44 45 X X2 e := by rw [← hX2]; exact Wt_z (Wt_z w1 _ (by decide) (by decide)) _ (by decide) (by decide)
        have h43b : X2.1 43 e = nI (sg a - 48) := by rw [← hX2, zp_off _ _ (Or.inl (by decide)), zp_off _ _ (Or.inl (by decide))]; exact h43
        have h44 : X2.1 44 e = nI f := by rw [← hX2, zp_off _ _ (Or.inl (by decide)), zp_at]
        have h45 : X2.1 45 e = oN none := by rw [← hX2]; exact zp_at _ _ _ _
        have hB2 := XB_fr hB w2.1 (by decide) (by decide)
        have k43 : n_X8_take_1 F (cX X2 p) 43 = _ := x_take (F := F) (c := 43) hB2 hp (by omega)
        rw [k43, zcS]
        cases e3 : tkB sg (min L 76) p 43 with
        | false =>
          rw [if_pos (show bI (false = true) = 0 by decide), if_neg (show ¬ false = true by decide), show p + (false).toNat = p from rfl]
          obtain ⟨r, X3, q1, q2, q3, q4⟩ := x_pend (F := F) hB2 hp he h43b h44 h45
          exact ⟨r, X3, q1, Wt_t w2 q2, q3, q4⟩
        | true =>
          have g5 := (tkB_t e3).1
          rw [if_neg (show ¬ bI (true = true) = 0 by decide), if_pos (show true = true from rfl), show p + (true).toNat = p + 1 from rfl, x_number hB2 g5, zcS]
          have hm := nmV_le (sg := sg) (show p + 1 ≤ min L 76 from g5)
          generalize nmV sg (min L 76) (p + 1) = r2 at *
          obtain ⟨y, q⟩ := r2
          rw [zst_cX _ _ _ _ (by decide) he, zld_cX _ _ _ _ (by decide) he]
          cases y with
          | none =>
            show ∃ r X2, (if (-1 : Int32) = -1 then _ else _) = _ ∧ _
            rw [if_pos rfl, zrb_0]
            exact ⟨0, _, rfl, Wt_z w2 _ (by decide) (by decide), Or.inr ⟨rfl, by simp⟩, fun x hx => absurd hx (by simp)⟩
          | some y =>
            obtain ⟨y1, y2⟩ := hm.2.2 y rfl
            dsimp only
            rw [show oN (some y) = nI y from rfl, if_neg (nI_ne_m1 (by omega))]
            have w3 := Wt_z w2 (nI y) (show 45 ∈ [42, 43, 44, 45] by decide) (by decide)
            obtain ⟨r, X3, q1, q2, q3, q4⟩ := x_pend (F := F) (l := sg a - 48) (f := f) (g := some y) (XB_fr hB w3.1 (by decide) (by decide)) (show q ≤ min L 76 from hm.1) he (by rw [zp_off _ _ (Or.inl (by decide))]; exact h43b) (by rw [zp_off _ _ (Or.inl (by decide))]; exact h44) (zp_at _ _ _ _)
            exact ⟨r, X3, q1, Wt_t w3 q2, q3, q4⟩
theorem m_pend {F : Nat} (hF : 2 ^ 40 < F) {M : Zs} {sg : Nat → Nat} {L a e l f : Nat} {g : Option Nat} (hB : MB M sg L) (ha : a ≤ min L 76) (he : e < 40) (h36 : M.1 0 36 = nI e) (h1 : M.1 17 e = nI l) (h2 : M.1 18 e = nI f) (h3 : M.1 19 e = oN g) : ∃ r M2, n_X12_readsPlea_0_b94 F (cM M a) (nI e) = some (r, cM (zp M2 0 36 (nI (e + 1))) (pcV sg (min L 76) l f g a).2) ∧ Wt 16 17 18 19 M M2 e ∧ isB r ((pcV sg (min L 76) l f g a).1.isSome = true) ∧ ∀ x, (pcV sg (min L 76) l f g a).1 = some x → At 16 17 18 19 M2 e x := by
  have kc := m_readsCode hF hB ha
  have hc := cdV_le (sg := sg) ha
  have step : ∀ p v, zst (cM M p) 16 40 (nI e) v (fun S3 => zgf S3 36 (fun v4 => zpf S3 36 (v4 + 1) (fun S5 => zld S5 16 40 (nI e) (fun v6 => if v6 < 0 then (n_X12_readsPlea_0_b128 F S5 0) else (n_X12_readsPlea_0_b128 F S5 1))))) = if v < 0 then some (0, cM (zp (zp M 16 e v) 0 36 (nI (e + 1))) p) else some (1, cM (zp (zp M 16 e v) 0 36 (nI (e + 1))) p) := by
    intro p v
    unfold n_X12_readsPlea_0_b128
    rw [zst_cM _ _ _ _ (by decide) he, zgS, zpS, cM_f _ _ (by decide), zp_off _ _ (Or.inl (by decide)), h36, nI_1]
    have ec : zp (cM (zp M 16 e v) p) 0 36 (nI (e + 1)) = cM (zp (zp M 16 e v) 0 36 (nI (e + 1))) p := zpf_c _ _ _ (by decide)
    rw [ec, zld_nI _ _ _ he (by omega), cM_r _ _ (by decide), zp_off _ _ (Or.inl (by decide)), zp_at, zrb_0, zrb_1]
  unfold n_X12_readsPlea_0_b94 pcV
  rw [kc, zcS]
  generalize cdV sg (min L 76) a = r at *
  obtain ⟨c, p⟩ := r
  rw [step]
  cases c with
  | none =>
    refine ⟨0, zp M 16 e (-1), ?_, Wt_z (Wt_rf _ _ _ _ _ _) _ (by decide) (by decide), Or.inr ⟨rfl, by simp⟩, fun x hx => absurd hx (by simp)⟩
    show (if (-1 : Int32) < 0 then _ else _) = _
    rw [if_pos (by decide)]; rfl
  | some c =>
    have c1 := (hc.2.2 c rfl).1
    refine ⟨1, zp M 16 e (nI c), ?_, Wt_z (Wt_rf _ _ _ _ _ _) _ (by decide) (by decide), Or.inl ⟨rfl, rfl⟩, fun x hx => ?_⟩
    · show (if nI c < 0 then _ else _) = _
      rw [if_neg (nI_pos (by omega))]; rfl
    · have := Option.some.inj hx
      rw [← this]
      refine ⟨zp_at _ _ _ _, ?_, ?_, ?_⟩
      · rw [zp_off _ _ (Or.inl (by decide))]; exact h1
      · rw [zp_off _ _ (Or.inl (by decide))]; exact h2
      · rw [zp_off _ _ (Or.inl (by decide))]; exact h3
theorem m_plea {F : Nat} (hF : 2 ^ 40 < F) {M : Zs} {sg : Nat → Nat} {L a e : Nat} (hB : MB M sg L) (ha : a ≤ min L 76) (he : e < 40) (h36 : M.1 0 36 = nI e) : ∃ r M2 v, n_X12_readsPlea_0 F (cM M a) = some (r, cM (zp M2 0 36 v) (plV sg (min L 76) a).2) ∧ Wt 16 17 18 19 M M2 e ∧ isB r ((plV sg (min L 76) a).1.isSome = true) ∧ ∀ x, (plV sg (min L 76) a).1 = some x → At 16 17 18 19 M2 e x ∧ v = nI (e + 1) := by
  have kd : n_X12_digit_0 F (cM M a) 3 = _ := m_digit (F := F) (k := 3) hB ha (by omega)
  have keep : ∀ (M2 : Zs) (p : Nat), Wt 16 17 18 19 M M2 e → cM M2 p = cM (zp M2 0 36 (nI e)) p := fun M2 p w => by rw [zp_id (by rw [w.1.1 36 (by decide)]; exact h36)]
  unfold n_X12_readsPlea_0 n_X12_readsPlea_0_e n_X12_readsPlea_0_b34 plV
  rw [zgS, cM_f _ _ (by decide), h36, kd, zcS, zst_cM _ _ _ _ (by decide) he, zld_cM _ _ _ _ (by decide) he]
  cases e1 : wiB sg (min L 76) a 48 51 with
  | false =>
    rw [if_neg (show ¬ false = true by decide), if_pos (show (-1 : Int32) < 0 by decide), if_neg (show ¬ false = true by decide), zrb_0]
    have w := Wt_z (Wt_rf 16 17 18 19 M e) (-1) (show 17 ∈ [16, 17, 18, 19] by decide) (by decide)
    exact ⟨0, _, nI e, by rw [← keep _ _ w]; rfl, w, Or.inr ⟨rfl, by simp⟩, fun x hx => absurd hx (by simp)⟩
  | true =>
    obtain ⟨g1, g2, g3⟩ := wiB_t e1
    rw [if_pos (show true = true from rfl), if_neg (nI_pos (by omega)), if_pos (show true = true from rfl), show a + (true).toNat = a + 1 from rfl]
    generalize hM1 : zp M 17 e (nI (sg a - 48)) = M1
    have w1 : Wt 16 17 18 19 M M1 e := by rw [← hM1]; exact Wt_z (Wt_rf _ _ _ _ _ _) _ (by decide) (by decide)
    have h17 : M1.1 17 e = nI (sg a - 48) := by rw [← hM1]; exact zp_at _ _ _ _
    have hB1 := MB_fr hB w1.1 (by decide) (by decide)
    have k58 : n_X12_takes_0 F (cM M1 (a + 1)) 58 = _ := m_takes (F := F) (c := 58) hB1 g1 (by omega)
    rw [k58, zcS]
    cases e2 : tkB sg (min L 76) (a + 1) 58 with
    | false =>
      rw [if_pos (show bI (false = true) = 0 by decide), if_neg (show ¬ false = true by decide), zrb_0]
      exact ⟨0, M1, nI e, by rw [← keep _ _ w1]; rfl, w1, Or.inr ⟨rfl, by simp⟩, fun x hx => absurd hx (by simp)⟩
    | true =>
      have g4 := (tkB_t e2).1
      rw [if_neg (show ¬ bI (true = true) = 0 by decide), if_pos (show true = true from rfl), show a + 1 + (true).toNat = a + 1 + 1 from rfl, m_number hB1 g4, zcS]
      have hn := nmV_le (sg := sg) (show a + 1 + 1 ≤ min L 76 from g4)
      generalize nmV sg (min L 76) (a + 1 + 1) = r at *
      obtain ⟨f, p⟩ := r
      rw [zst_cM _ _ _ _ (by decide) he, zld_cM _ _ _ _ (by decide) he]
      cases f with
      | none =>
        show ∃ r M2 v, (if (0 : Int32) ≤ -1 then _ else _) = _ ∧ _
        rw [if_neg (show ¬ (0 : Int32) ≤ -1 by decide), zrb_0]
        have w := Wt_z w1 (-1) (show 18 ∈ [16, 17, 18, 19] by decide) (by decide)
        exact ⟨0, _, nI e, by rw [← keep _ _ w]; rfl, w, Or.inr ⟨rfl, by simp⟩, fun x hx => absurd hx (by simp)⟩
      | some f =>
        obtain ⟨f1, f2⟩ := hn.2.2 f rfl
        have hp : p ≤ min L 76 := hn.1
        dsimp only
        rw [show oN (some f) = nI f from rfl, if_pos (Int32.not_lt.mp (nI_pos (by omega))), zst_cM _ _ _ _ (by decide) he]
        generalize hM2 : zp (zp M1 18 e (nI f)) 19 e (-1) = M2
        have w2 : Wt 16 17 18 19 M M2 e := by rw [← hM2]; exact Wt_z (Wt_z w1 _ (by decide) (by decide)) _ (by decide) (by decide)
        have h17b : M2.1 17 e = nI (sg a - 48) := by rw [← hM2, zp_off _ _ (Or.inl (by decide)), zp_off _ _ (Or.inl (by decide))]; exact h17
        have h18 : M2.1 18 e = nI f := by rw [← hM2, zp_off _ _ (Or.inl (by decide)), zp_at]
        have h19 : M2.1 19 e = oN none := by rw [← hM2]; exact zp_at _ _ _ _
        have hB2 := MB_fr hB w2.1 (by decide) (by decide)
        have h36b : M2.1 0 36 = nI e := by rw [w2.1.1 36 (by decide)]; exact h36
        have k43 : n_X12_takes_0 F (cM M2 p) 43 = _ := m_takes (F := F) (c := 43) hB2 hp (by omega)
        rw [k43, zcS]
        cases e3 : tkB sg (min L 76) p 43 with
        | false =>
          rw [if_pos (show bI (false = true) = 0 by decide), if_neg (show ¬ false = true by decide), show p + (false).toNat = p from rfl]
          obtain ⟨r, M3, q1, q2, q3, q4⟩ := m_pend hF hB2 hp he h36b h17b h18 h19
          exact ⟨r, M3, nI (e + 1), q1, Wt_t w2 q2, q3, fun x hx => ⟨q4 x hx, rfl⟩⟩
        | true =>
          have g5 := (tkB_t e3).1
          rw [if_neg (show ¬ bI (true = true) = 0 by decide), if_pos (show true = true from rfl), show p + (true).toNat = p + 1 from rfl, m_number hB2 g5, zcS]
          have hm := nmV_le (sg := sg) (show p + 1 ≤ min L 76 from g5)
          generalize nmV sg (min L 76) (p + 1) = r2 at *
          obtain ⟨y, q⟩ := r2
          rw [zst_cM _ _ _ _ (by decide) he, zld_cM _ _ _ _ (by decide) he]
          cases y with
          | none =>
            show ∃ r M2 v, (if (0 : Int32) ≤ -1 then _ else _) = _ ∧ _
            rw [if_neg (show ¬ (0 : Int32) ≤ -1 by decide), zrb_0]
            have w := Wt_z w2 (-1) (show 19 ∈ [16, 17, 18, 19] by decide) (by decide)
            exact ⟨0, _, nI e, by rw [← keep _ _ w]; rfl, w, Or.inr ⟨rfl, by simp⟩, fun x hx => absurd hx (by simp)⟩
          | some y =>
            obtain ⟨y1, y2⟩ := hm.2.2 y rfl
            dsimp only
            rw [show oN (some y) = nI y from rfl, if_pos (Int32.not_lt.mp (nI_pos (by omega)))]
            have w3 := Wt_z w2 (nI y) (show 19 ∈ [16, 17, 18, 19] by decide) (by decide)
            obtain ⟨r, M3, q1, q2, q3, q4⟩ := m_pend hF (l := sg a - 48) (f := f) (g := some y) (MB_fr hB w3.1 (by decide) (by decide)) (show q ≤ min L 76 from hm.1) he (by rw [w3.1.1 36 (by decide)]; exact h36) (by rw [zp_off _ _ (Or.inl (by decide))]; exact h17b) (by rw [zp_off _ _ (Or.inl (by decide))]; exact h18) (zp_at _ _ _ _)
            exact ⟨r, M3, nI (e + 1), q1, Wt_t w3 q2, q3, fun x hx => ⟨q4 x hx, rfl⟩⟩
