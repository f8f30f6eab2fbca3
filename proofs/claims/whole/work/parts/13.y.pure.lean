/-! sheet, stands, marks -/
theorem zp_zp (S : Zs) (r i : Nat) (a b : Int32) : zp (zp S r i a) r i b = zp S r i b := by
  refine Prod.ext (funext fun q => funext fun j => ?_) rfl
  rw [zp_get, zp_get, zp_get]
  by_cases h : q = r ∧ j = i
  · rw [if_pos h, if_pos h]
  · rw [if_neg h, if_neg h, if_neg h]
def vae (f st : Int32) : Nat → Int32
  | 0 => f
  | k + 1 => vae f st k + st
def ent (kind x : Int32) : Int32 := if kind = 0 then x.toInt8.toInt32 else if kind = 1 then x.toInt16.toInt32 else x
theorem x_sheet {F : Nat} (hF : 2 ^ 40 < F) (X : Zs) (kind f st : Int32) {m : Nat} (hm : m ≤ 12) : ∃ v, isW v m (fun k => ¬ ent kind (vae f st k) ≤ 0) ∧ n_X0_positiveEntries F X kind (nI m) f st = some (v, X) := by
  exact zfix_for (f := fun (rc : (Zs × Int32 × Int32 × Int32 × Int32 × Int32 × Int32) → Option (Int32 × Zs)) (u : (Zs × Int32 × Int32 × Int32 × Int32 × Int32 × Int32)) => n_X0_positiveEntries_b9_l F  (fun S x0 x1 x3 x4 x5 x6 => rc (S, x0, x1, x3, x4, x5, x6)) u.1 u.2.1 u.2.2.1 u.2.2.2.1 u.2.2.2.2.1 u.2.2.2.2.2.1 u.2.2.2.2.2.2) m (fun i a => ∃ v, a = (X, kind, nI m, st, v, vae f st i, nI i) ∧ isW v i (fun k => ¬ ent kind (vae f st k) ≤ 0)) (fun v : Int32 => isW v m (fun k => ¬ ent kind (vae f st k) ≤ 0)) (fun v => some (v, X)) (by
    rintro i _ hi ⟨v, rfl, hv⟩
    have e : ∀ rc : (Zs × Int32 × Int32 × Int32 × Int32 × Int32 × Int32) → Option (Int32 × Zs), n_X0_positiveEntries_b9_l F (fun S x0 x1 x3 x4 x5 x6 => rc (S, x0, x1, x3, x4, x5, x6)) X kind (nI m) st v (vae f st i) (nI i) = if ent kind (vae f st i) ≤ 0 then rc (X, kind, nI m, st, v, vae f st (i + 1), nI (i + 1)) else rc (X, kind, nI m, st, v ||| ((1 : Int32) <<< (nI i &&& 31)), vae f st (i + 1), nI (i + 1)) := by
      intro rc
      unfold n_X0_positiveEntries_b9_l ent
      rw [if_neg (show ¬ nI m ≤ nI i from nI_ge hi (by omega))]
      unfold n_X0_positiveEntries_b38 n_X0_positiveEntries_b54 zlet
      dsimp only
      rw [nI_1]
      by_cases h0 : kind = 0
      · rw [if_pos h0, if_pos h0]; rfl
      · rw [if_neg h0, if_neg h0]
        by_cases h1 : kind = 1
        · rw [if_pos h1, if_pos h1]; rfl
        · rw [if_neg h1, if_neg h1]; rfl
    by_cases h : ent kind (vae f st i) ≤ 0
    · exact Or.inr ⟨_, ⟨v, rfl, isW_f hv (fun g => g h)⟩, fun rc => (e rc).trans (if_pos h)⟩
    · exact Or.inr ⟨_, ⟨_, rfl, isW_t hv (by omega) h⟩, fun rc => (e rc).trans (if_neg h)⟩) (by
    rintro _ ⟨v, rfl, hv⟩
    refine ⟨v, hv, fun rc => ?_⟩
    show n_X0_positiveEntries_b9_l F (fun S x0 x1 x3 x4 x5 x6 => rc (S, x0, x1, x3, x4, x5, x6)) X kind (nI m) st v (vae f st m) (nI m) = _
    unfold n_X0_positiveEntries_b9_l
    rw [if_pos (nI_le (by omega) (by omega))]) F (X, kind, nI m, st, 0, f, 0) ⟨0, rfl, isW_0 _⟩ (by omega)
theorem m_sheet {F : Nat} (hF : 2 ^ 40 < F) (M : Zs) (kind f st : Int32) (hk : ¬ kind = 3) {m : Nat} (hm : m ≤ 12) : ∃ v, isW v m (fun k => ¬ ent kind (vae f st k) ≤ 0) ∧ n_X12_sheet_0_b48 F (zp M 0 8 0) kind (nI m) st f 0 = n_X12_sheet_0_b120 F (zp M 0 8 v) kind := by
  exact zfix_for (f := fun (rc : (Zs × Int32 × Int32 × Int32 × Int32 × Int32) → Option (Int32 × Zs)) (u : (Zs × Int32 × Int32 × Int32 × Int32 × Int32)) => n_X12_sheet_0_b48_l F  (fun S x1 x2 x4 x5 x6 => rc (S, x1, x2, x4, x5, x6)) u.1 u.2.1 u.2.2.1 u.2.2.2.1 u.2.2.2.2.1 u.2.2.2.2.2) m (fun i a => ∃ v, a = (zp M 0 8 v, kind, nI m, st, vae f st i, nI i) ∧ isW v i (fun k => ¬ ent kind (vae f st k) ≤ 0)) (fun v : Int32 => isW v m (fun k => ¬ ent kind (vae f st k) ≤ 0)) (fun v => n_X12_sheet_0_b120 F (zp M 0 8 v) kind) (by
    rintro i _ hi ⟨v, rfl, hv⟩
    have hvi : v &&& (((1 : Int32) <<< (nI i &&& 31)) ^^^ (-1)) = v := hb_ext fun k _ => by
      rw [Bool.eq_iff_iff, hbm, hb1 (by omega)]
      exact ⟨fun q => q.1, fun q => ⟨q, fun w => by have := ((hv k).mp q).1; omega⟩⟩
    have e : ∀ rc : (Zs × Int32 × Int32 × Int32 × Int32 × Int32) → Option (Int32 × Zs), n_X12_sheet_0_b48_l F (fun S x1 x2 x4 x5 x6 => rc (S, x1, x2, x4, x5, x6)) (zp M 0 8 v) kind (nI m) st (vae f st i) (nI i) = if ent kind (vae f st i) ≤ 0 then rc (zp M 0 8 v, kind, nI m, st, vae f st (i + 1), nI (i + 1)) else rc (zp M 0 8 (v ||| ((1 : Int32) <<< (nI i &&& 31))), kind, nI m, st, vae f st (i + 1), nI (i + 1)) := by
      intro rc
      unfold n_X12_sheet_0_b48_l ent
      rw [if_neg (show ¬ nI m ≤ nI i from nI_ge hi (by omega)), if_neg hk]
      unfold n_X12_sheet_0_b82 n_X12_sheet_0_b101 zlet zgf zpf
      dsimp only
      rw [zp_at, e_X12_with, zcS, e_X12_with, zcS, nI_1, zp_zp, zp_zp]
      have w0 : wB v (nI i) 0 = v := by
        unfold wB; rw [if_pos rfl]; exact hvi
      have w1 : wB v (nI i) 1 = v ||| ((1 : Int32) <<< (nI i &&& 31)) := by
        unfold wB; rw [if_neg (by decide)]
      rw [w0, w1]
      by_cases h0 : kind = 0
      · rw [if_pos h0, if_pos h0]; rfl
      · rw [if_neg h0, if_neg h0]
        by_cases h1 : kind = 1
        · rw [if_pos h1, if_pos h1]; rfl
        · rw [if_neg h1, if_neg h1]; rfl
    by_cases h : ent kind (vae f st i) ≤ 0
    · exact Or.inr ⟨_, ⟨v, rfl, isW_f hv (fun g => g h)⟩, fun rc => (e rc).trans (if_pos h)⟩
    · exact Or.inr ⟨_, ⟨_, rfl, isW_t hv (by omega) h⟩, fun rc => (e rc).trans (if_neg h)⟩) (by
    rintro _ ⟨v, rfl, hv⟩
    refine ⟨v, hv, fun rc => ?_⟩
    show n_X12_sheet_0_b48_l F (fun S x1 x2 x4 x5 x6 => rc (S, x1, x2, x4, x5, x6)) (zp M 0 8 v) kind (nI m) st (vae f st m) (nI m) = _
    unfold n_X12_sheet_0_b48_l
    rw [if_pos (nI_le (by omega) (by omega))]) F (zp M 0 8 0, kind, nI m, st, f, 0) ⟨0, rfl, isW_0 _⟩ (by omega)
theorem Rel_life {K : Zs → Prop} (hK : KOK K) {X M : Zs} (h : Rel K X M) {v : Int32} (hv : bnd v 12) : Rel K (zp X 0 65 v) (zp (zp M 0 0 0) 0 8 v) := by
  obtain ⟨r0, r1, -, r3, r4, r5, r6, r7, r8⟩ := h
  exact ⟨r0, r1, ⟨rfl, hv⟩, r3, r4, r5, r6, r7, hK X _ (kSame_p (by decide)) r8⟩
theorem bnd_0 (n : Nat) : bnd 0 n := Nat.two_pow_pos n
/-- sheet(kind, n, f, step) -/
theorem p_sheet {K : Zs → Prop} (hK : KOK K) {F : Nat} (hF : 2 ^ 40 < F) : S_sheet F (Rel K) := by
  intro X M hR kind n f st
  have hin : ∀ S, n_X12_in F S kind.toInt64 0 3 = some (bI (¬ kind < 0 ∧ ¬ 3 < kind), S) := fun S => e_X12_in F S kind 0 3
  by_cases h1 : kind < 0 ∨ 3 < kind
  · refine ⟨-1, X, zp M 0 0 0, ?_, ?_, hR.thrown 0⟩
    · unfold n_X11_sheet_0 n_X11_sheet_0_e n_X11_sheet_0_b15
      by_cases g : kind < 0
      · rw [if_pos g]
      · rw [if_neg g, if_pos (h1.resolve_left g)]
    · unfold n_X12_sheet_0 n_X12_sheet_0_e n_X12_sheet_0_b23 zpf
      dsimp only
      rw [hin, zcS, if_pos (bI_f (fun g => h1.elim g.1 g.2))]
  have ex0 : n_X11_sheet_0 F X kind n f st = if n ≤ 12 then (if kind = 3 then some (-3, zp X 0 65 0) else if 0 ≤ n then zcl (n_X0_positiveEntries F X kind n f st) (fun v2 S1 => zpf S1 65 v2 (fun S3 => zgf S3 65 (fun v4 => zcl (n_J6_bitCount_0f7a4_x F S3 v4) (fun v6 S5 => some (v6, S5))))) else some (-2, X)) else some (-1, X) := by
    unfold n_X11_sheet_0 n_X11_sheet_0_e n_X11_sheet_0_b15
    rw [if_neg (fun g => h1 (Or.inl g)), if_neg (fun g => h1 (Or.inr g))]; rfl
  have em0 : n_X12_sheet_0 F M kind n f st = if n ≤ 12 then (if kind = 3 then n_X12_sheet_0_b37 F (zp M 0 0 0) kind n f st else if 0 ≤ n then n_X12_sheet_0_b37 F (zp M 0 0 0) kind n f st else some (-2, zp M 0 0 0)) else some (-1, zp M 0 0 0) := by
    unfold n_X12_sheet_0 n_X12_sheet_0_e n_X12_sheet_0_b23 zpf
    dsimp only
    rw [hin, zcS, bI_t ⟨fun g => h1 (Or.inl g), fun g => h1 (Or.inr g)⟩, if_neg (by decide)]
  by_cases h2 : n ≤ 12
  · rw [if_pos h2] at ex0 em0
    by_cases h3 : kind = 3
    · rw [if_pos h3] at ex0 em0
      refine ⟨-3, zp X 0 65 0, zp (zp M 0 0 0) 0 8 0, ex0, em0.trans ?_, Rel_life hK hR (bnd_0 12)⟩
      unfold n_X12_sheet_0_b37 zpf
      dsimp only
      have : ∃ F', F = F' + 1 := ⟨F - 1, by omega⟩
      obtain ⟨F', rfl⟩ := this
      unfold n_X12_sheet_0_b48
      rw [zfix_s]
      show n_X12_sheet_0_b48_l (F' + 1) _ (zp (zp M 0 0 0) 0 8 0) kind n st f 0 = _
      unfold n_X12_sheet_0_b48_l n_X12_sheet_0_b120 n_X12_sheet_0_b137
      rw [if_pos h3, if_pos h3, ite_self]
    · rw [if_neg h3] at ex0 em0
      by_cases h4 : 0 ≤ n
      · rw [if_pos h4] at ex0 em0
        obtain ⟨m, hm, rfl⟩ : ∃ m, m ≤ 12 ∧ n = nI m := nI_of2 (M := 12) (n := 12) (by decide) (Int32.not_lt.mpr h4) h2
        obtain ⟨v, hv, ev⟩ := x_sheet hF X kind f st hm
        obtain ⟨v', hv', ev'⟩ := m_sheet hF (zp M 0 0 0) kind f st h3 hm
        have e : v = v' := isW_eq hv hv' (fun _ _ => Iff.rfl)
        subst e
        have bv : bnd v 12 := bnd_le (isW_bnd hv) hm
        refine ⟨nI (bc v 32), zp X 0 65 v, zp (zp M 0 0 0) 0 8 v, ex0.trans ?_, em0.trans ?_, Rel_life hK hR bv⟩
        · rw [ev, zcS]
          unfold zpf zgf
          dsimp only
          rw [zp_at, x_bitCount _ (bnd_le bv (by omega)), zcS]
        · unfold n_X12_sheet_0_b37 zpf
          dsimp only
          rw [ev']
          unfold n_X12_sheet_0_b120 n_X12_sheet_0_b137 zgf
          dsimp only
          rw [if_neg h3, zp_at, m_bitCount _ (bnd_le bv (by omega)), zcS]
      · rw [if_neg h4] at ex0 em0
        exact ⟨-2, X, zp M 0 0 0, ex0, em0, hR.thrown 0⟩
  · rw [if_neg h2] at ex0 em0
    exact ⟨-1, X, zp M 0 0 0, ex0, em0, hR.thrown 0⟩
-- pleas
def stdB (w b : Int32) (f : Nat) : Bool := if f < 16 then !hb w f else hb b (f - 16)
def cndB (w : Int32) (f1 : Nat → Nat) (f2 : Nat → Option Nat) (b : Int32) (i : Nat) : Bool := stdB w b (f1 i) && (match f2 i with | none => true | some g => stdB w b g)
def sdB (w : Int32) (f1 : Nat → Nat) (f2 : Nat → Option Nat) : Nat → Int32
  | 0 => 0
  | i + 1 => if cndB w f1 f2 (sdB w f1 f2 i) i = true then sdB w f1 f2 i ||| ((1 : Int32) <<< (nI i &&& 31)) else sdB w f1 f2 i
theorem sdB_bnd (w : Int32) (f1 : Nat → Nat) (f2 : Nat → Option Nat) {p : Nat} (hp : p ≤ 24) : bnd (sdB w f1 f2 p) p := by
  induction p with
  | zero => exact bnd_0 0
  | succ p ih =>
    show bnd (if cndB w f1 f2 (sdB w f1 f2 p) p = true then sdB w f1 f2 p ||| ((1 : Int32) <<< (nI p &&& 31)) else sdB w f1 f2 p) (p + 1)
    have := bnd_le (ih (by omega)) (show p ≤ p + 1 by omega)
    split
    · exact bnd_or this (bnd_bit (by omega) (by omega))
    · exact this
/-- what a plea says of its premises -/
def Prm (n i : Nat) (f1 : Nat → Nat) (f2 : Nat → Option Nat) : Prop := (f1 i < n ∨ (16 ≤ f1 i ∧ f1 i < 16 + i)) ∧ ∀ g, f2 i = some g → (g < n ∨ (16 ≤ g ∧ g < 16 + i))
def Pls (S : Zs) (rc rl r1 r2 fp n p : Nat) (sc lw : Nat → Nat) (f1 : Nat → Nat) (f2 : Nat → Option Nat) : Prop := S.1 0 fp = nI p ∧ p ≤ 24 ∧ n ≤ 16 ∧ ∀ i, i < p → S.1 rc i = nI (sc i) ∧ sc i < 2304 ∧ S.1 rl i = nI (lw i) ∧ lw i < 4 ∧ S.1 r1 i = nI (f1 i) ∧ S.1 r2 i = (match f2 i with | none => -1 | some g => nI g) ∧ Prm n i f1 f2
theorem Rel_pleas {K : Zs → Prop} {X M : Zs} {n : Nat} {cd : Nat → Nat} (h : Rel K X M) (hX : XC X n cd) : ∃ p sc lw f1 f2, Pls X 42 43 44 45 826 n p sc lw f1 f2 ∧ Pls M 16 17 18 19 35 n p sc lw f1 f2 := by
  obtain ⟨m, p, hp, e0, hm, e1, e2, hT⟩ := h.2.2.2.2.2.2.1
  have hn := hX.2.1
  have e : m = n := nI_inj (by omega) (by omega) (e0.symm.trans hX.1)
  subst e
  have k : Pls M 16 17 18 19 35 m p (fun i => (M.1 16 i).toNatClampNeg) (fun i => (M.1 17 i).toNatClampNeg) (fun i => (M.1 18 i).toNatClampNeg) (fun i => if M.1 19 i = -1 then none else some (M.1 19 i).toNatClampNeg) := by
    refine ⟨e2, hp, hm, fun i hi => ?_⟩
    obtain ⟨-, ⟨c, hc, ec⟩, ⟨l, hl, el⟩, ⟨f, ef, hf⟩, hs, -⟩ := hT i hi
    unfold Prm
    dsimp only
    rw [ec, el, ef, nI_clamp (show c < 2 ^ 31 by omega), nI_clamp (show l < 2 ^ 31 by omega), nI_clamp (show f < 2 ^ 31 by omega)]
    refine ⟨rfl, hc, rfl, hl, rfl, ?_, hf, ?_⟩
    · rcases hs with hs | ⟨g, eg, hg⟩
      · rw [hs, if_pos rfl]
      · have hne : ¬ nI g = (-1 : Int32) := fun q => by
          have h1 := nI_pos (n := g) (by omega)
          rw [q] at h1
          exact h1 (by decide)
        rw [eg, if_neg hne, nI_clamp (show g < 2 ^ 31 by omega)]
    · intro g hg
      rcases hs with hs | ⟨g', eg, hg'⟩
      · rw [hs, if_pos rfl] at hg; exact absurd hg (by simp)
      · have hne : ¬ nI g' = (-1 : Int32) := fun q => by
          have h1 := nI_pos (n := g') (by omega)
          rw [q] at h1
          exact h1 (by decide)
        rw [eg, if_neg hne, nI_clamp (show g' < 2 ^ 31 by omega)] at hg
        rw [← Option.some.inj hg]; exact hg'
  refine ⟨p, _, _, _, _, ⟨e1, hp, hm, fun i hi => ?_⟩, k⟩
  obtain ⟨⟨t1, t2, t3, t4, -⟩, -⟩ := hT i hi
  rw [t1, t2, t3, t4]
  exact k.2.2.2 i hi
theorem x_isActive {F : Nat} {X : Zs} {n f : Nat} (hX : X.1 0 62 = nI n) (hn : n ≤ 16) (hf : f < n) : n_X2_isActive_3 F X (nI f) = some (bI (¬ hb (X.1 0 64) f = true), X) := by
  unfold n_X2_isActive_3 n_X2_isActive_3_e n_X2_isActive_3_b27 n_X2_isActive_3_b28
  rw [if_neg (nI_pos (by omega))]
  unfold zgf
  dsimp only
  rw [hX, if_neg (nI_ge hf (by omega))]
  cases e : hb (X.1 0 64) f with
  | false => rw [if_pos ((hb_sh0 _ (by omega)).mpr e), zrb_1]; rfl
  | true => rw [if_neg (fun g => by rw [hb_sh0 _ (by omega), e] at g; exact absurd g (by decide)), zrb_0]; rfl
theorem x_isStand {F : Nat} {X : Zs} {n i f : Nat} (hX : X.1 0 62 = nI n) (hn : n ≤ 16) (hi : i ≤ 24) (hf : f < n ∨ (16 ≤ f ∧ f < 16 + i)) (b : Int32) : n_X3_isStanding_41 F X (nI f) b = some (bI (stdB (X.1 0 64) b f = true), X) := by
  unfold n_X3_isStanding_41 n_X3_isStanding_41_e n_X3_isStanding_41_b33 stdB
  rcases hf with hf | hf
  · rw [if_neg (show ¬ (16 : Int32) ≤ nI f from fun g => by rw [c16, nI_le_iff (by omega) (by omega)] at g; omega), x_isActive hX hn hf, zcS, zrb_b, if_pos (show f < 16 by omega)]
    cases hb (X.1 0 64) f <;> rfl
  · rw [if_pos (show (16 : Int32) ≤ nI f from nI_le (a := 16) hf.1 (by omega)), show nI f - 16 = nI (f - 16) from pk_sub (b := 16) hf.1, if_neg (show ¬ f < 16 by omega)]
    cases e : hb b (f - 16) with
    | false => rw [if_pos ((hb_sh0 _ (by omega)).mpr e), zrb_0]; rfl
    | true => rw [if_neg (fun g => by rw [hb_sh0 _ (by omega), e] at g; exact absurd g (by decide)), zrb_1]; rfl
theorem m_isStand {F : Nat} {M : Zs} {n i f : Nat} (hn : n ≤ 16) (hi : i ≤ 24) (hf : f < n ∨ (16 ≤ f ∧ f < 16 + i)) (b : Int32) : n_X12_isStanding_0 F M (nI f) b = some (bI (stdB (M.1 0 7) b f = true), M) := by
  unfold n_X12_isStanding_0 n_X12_isStanding_0_e n_X12_isStanding_0_b35 n_X12_isStanding_0_b39 n_X12_isStanding_0_b40 stdB
  rw [if_neg (nI_pos (by omega))]
  rcases hf with hf | hf
  · rw [if_neg (show ¬ (16 : Int32) ≤ nI f from fun g => by rw [c16, nI_le_iff (by omega) (by omega)] at g; omega), if_pos (show f < 16 by omega)]
    unfold zgf
    dsimp only
    rw [e_has F _ _ (by omega), zcS, zrb_0, zrb_1]
    cases hb (M.1 0 7) f <;> rfl
  · rw [if_pos (show (16 : Int32) ≤ nI f from nI_le (a := 16) hf.1 (by omega)), show nI f - 16 = nI (f - 16) from pk_sub (b := 16) hf.1, if_neg (show ¬ f < 16 by omega), e_has F _ _ (by omega), zcS, zrb_0, zrb_1]
    cases hb b (f - 16) <;> rfl
theorem x_stand {F : Nat} (hF : 2 ^ 40 < F) {X : Zs} {n p : Nat} {sc lw f1 : Nat → Nat} {f2 : Nat → Option Nat} (hX : X.1 0 62 = nI n) (hP : Pls X 42 43 44 45 826 n p sc lw f1 f2) : n_X3_standing_41 F X = some (sdB (X.1 0 64) f1 f2 p, X) := by
  obtain ⟨e1, hp, hn, hT⟩ := hP
  refine zfix_run (f := fun (rc : (Zs × Int32 × Int32) → Option (Int32 × Zs)) (u : (Zs × Int32 × Int32)) => n_X3_standing_41_b4_l F  (fun S x1 x2 => rc (S, x1, x2)) u.1 u.2.1 u.2.2) (fun i => (X, sdB (X.1 0 64) f1 f2 i, nI i)) p (fun i hi rc => ?_) (fun rc => ?_) F (by omega)
  · obtain ⟨-, -, -, -, t1, t2, t3, t4⟩ := hT i hi
    show n_X3_standing_41_b4_l F (fun S x1 x2 => rc (S, x1, x2)) X (sdB (X.1 0 64) f1 f2 i) (nI i) = rc (X, (if cndB (X.1 0 64) f1 f2 (sdB (X.1 0 64) f1 f2 i) i = true then sdB (X.1 0 64) f1 f2 i ||| ((1 : Int32) <<< (nI i &&& 31)) else sdB (X.1 0 64) f1 f2 i), nI (i + 1))
    generalize sdB (X.1 0 64) f1 f2 i = b
    unfold n_X3_standing_41_b4_l n_X3_standing_41_b50 n_X3_standing_41_b56
    simp (disch := omega) only [zgf, e1, nI_le_iff, zld_nI, t1, zlet, nI_1]
    rw [if_neg (by omega), x_isStand hX hn (show i ≤ 24 by omega) t3, zcS]
    unfold cndB
    cases c1 : stdB (X.1 0 64) b (f1 i) with
    | false => rw [bI_f (by decide), if_pos rfl]; rfl
    | true =>
      rw [bI_t rfl, if_neg (by decide), t2]
      cases c2 : f2 i with
      | none => rw [if_pos rfl]; rfl
      | some g =>
        dsimp only
        have hg := t4 g c2
        have hne : ¬ nI g = (-1 : Int32) := fun q => by
          have h1 := nI_pos (n := g) (by omega)
          rw [q] at h1
          exact h1 (by decide)
        rw [if_neg hne, x_isStand hX hn (show i ≤ 24 by omega) hg, zcS]
        by_cases c3 : stdB (X.1 0 64) b g = true
        · rw [bI_t c3, if_neg (by decide), Bool.true_and, if_pos c3]
        · rw [bI_f c3, if_pos rfl, Bool.true_and, if_neg c3]
  · show n_X3_standing_41_b4_l F (fun S x1 x2 => rc (S, x1, x2)) X (sdB (X.1 0 64) f1 f2 p) (nI p) = _
    unfold n_X3_standing_41_b4_l
    simp (disch := omega) only [zgf, e1, nI_le_iff]
    rw [if_pos (by omega)]
theorem m_stand {F : Nat} (hF : 2 ^ 40 < F) {M : Zs} {n p : Nat} {sc lw f1 : Nat → Nat} {f2 : Nat → Option Nat} (hP : Pls M 16 17 18 19 35 n p sc lw f1 f2) : n_X12_standingSteps_0 F M = some (sdB (M.1 0 7) f1 f2 p, M) := by
  obtain ⟨e1, hp, hn, hT⟩ := hP
  refine zfix_run (f := fun (rc : (Zs × Int32 × Int32) → Option (Int32 × Zs)) (u : (Zs × Int32 × Int32)) => n_X12_standingSteps_0_b4_l F  (fun S x1 x2 => rc (S, x1, x2)) u.1 u.2.1 u.2.2) (fun i => (M, sdB (M.1 0 7) f1 f2 i, nI i)) p (fun i hi rc => ?_) (fun rc => ?_) F (by omega)
  · obtain ⟨-, -, -, -, t1, t2, t3, t4⟩ := hT i hi
    show n_X12_standingSteps_0_b4_l F (fun S x1 x2 => rc (S, x1, x2)) M (sdB (M.1 0 7) f1 f2 i) (nI i) = rc (M, (if cndB (M.1 0 7) f1 f2 (sdB (M.1 0 7) f1 f2 i) i = true then sdB (M.1 0 7) f1 f2 i ||| ((1 : Int32) <<< (nI i &&& 31)) else sdB (M.1 0 7) f1 f2 i), nI (i + 1))
    generalize sdB (M.1 0 7) f1 f2 i = b
    unfold n_X12_standingSteps_0_b4_l n_X12_standingSteps_0_b47 n_X12_standingSteps_0_b48
    simp (disch := omega) only [zgf, e1, nI_le_iff, zld_nI, t1, zlet, nI_1, or_0]
    rw [if_neg (by omega), m_isStand hn (show i ≤ 24 by omega) t3, zcS]
    unfold cndB
    cases c1 : stdB (M.1 0 7) b (f1 i) with
    | false => rw [bI_f (by decide), if_pos rfl]; rfl
    | true =>
      rw [bI_t rfl, if_neg (by decide), t2]
      cases c2 : f2 i with
      | none =>
        have : n_X12_isStanding_0 F M (-1) b = some (1, M) := by
          unfold n_X12_isStanding_0 n_X12_isStanding_0_e
          rw [if_pos (by decide)]; exact zrb_1 M
        dsimp only
        rw [this, zcS, if_neg (by decide)]; rfl
      | some g =>
        dsimp only
        have hg := t4 g c2
        rw [m_isStand hn (show i ≤ 24 by omega) hg, zcS]
        by_cases c3 : stdB (M.1 0 7) b g = true
        · rw [bI_t c3, if_neg (by decide), Bool.true_and, if_pos c3]
        · rw [bI_f c3, if_pos rfl, Bool.true_and, if_neg c3]
  · show n_X12_standingSteps_0_b4_l F (fun S x1 x2 => rc (S, x1, x2)) M (sdB (M.1 0 7) f1 f2 p) (nI p) = _
    unfold n_X12_standingSteps_0_b4_l
    simp (disch := omega) only [zgf, e1, nI_le_iff]
    rw [if_pos (by omega)]
/-- stands() -/
theorem p_stands {Q : Zs → Nat → (Nat → Nat) → Prop} {F : Nat} (hF : 2 ^ 40 < F) : S_stands F (Rel (Kq Q)) := by
  intro X M hR
  obtain ⟨n, cd, hX, hB, q, hM, el, ed, bd, ew, bw⟩ := Rel_ctx hR
  obtain ⟨p, sc, lw, f1, f2, hP1, hP2⟩ := Rel_pleas hR hX
  refine ⟨sdB (M.1 0 7) f1 f2 p, X, zp M 0 0 0, ?_, ?_, hR.thrown 0⟩
  · unfold n_X11_stands_0 n_X11_stands_0_e
    rw [x_stand hF hX.1 hP1, zcS, ew]
  · unfold n_X12_stands_0 n_X12_stands_0_e zpf
    dsimp only
    rw [m_stand hF (M := zp M 0 0 0) hP2, zcS]; rfl
