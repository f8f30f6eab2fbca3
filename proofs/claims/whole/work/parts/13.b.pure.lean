/-! THE RELATION of the two states -/
def bnd (x : Int32) (k : Nat) : Prop := x.toBitVec.toNat < 2 ^ k
def RText (X M : Zs) : Prop := ∃ L, L ≤ 80 ∧ X.1 0 21 = nI L ∧ M.1 0 13 = nI L ∧ ∀ i, i < L → X.1 2 i = M.1 5 i ∧ ∃ c, c < 256 ∧ M.1 5 i = nI c
def RSay (X M : Zs) : Prop := ∃ n, n ≤ 16 ∧ X.1 0 62 = nI n ∧ M.1 0 3 = nI n ∧ (∀ i, i < n → X.1 4 i = M.1 2 i ∧ X.1 5 i = M.1 3 i ∧ (∃ c, c < 2304 ∧ M.1 2 i = nI c) ∧ ∃ w, w < 8 ∧ M.1 3 i = nI w) ∧ X.1 0 63 = M.1 0 6 ∧ bnd (M.1 0 6) n ∧ X.1 0 64 = M.1 0 7 ∧ bnd (M.1 0 7) n
def RLife (X M : Zs) : Prop := X.1 0 65 = M.1 0 8 ∧ bnd (M.1 0 8) 12
def RMood (X M : Zs) : Prop := X.1 0 66 = M.1 0 11 ∧ bnd (M.1 0 11) 22
def RWant (X M : Zs) : Prop := ∃ w, w ≤ 6 ∧ X.1 0 68 = nI w ∧ M.1 0 9 = nI w ∧ ∀ i, i < w → X.1 6 i = M.1 4 i ∧ ∃ c, c < 2304 ∧ M.1 4 i = nI c
def RRow (X M : Zs) : Prop := ∃ r, r ≤ 24 ∧ X.1 0 10 = nI r ∧ M.1 0 1 = nI r ∧ ∀ i, i < r → X.1 47 i = M.1 1 i
def RPlea (X M : Zs) : Prop := ∃ n p, p ≤ 24 ∧ X.1 0 62 = nI n ∧ n ≤ 16 ∧ X.1 0 826 = nI p ∧ M.1 0 35 = nI p ∧ ∀ i, i < p → (X.1 42 i = M.1 16 i ∧ X.1 43 i = M.1 17 i ∧ X.1 44 i = M.1 18 i ∧ X.1 45 i = M.1 19 i ∧ X.1 46 i = M.1 20 i) ∧ (∃ c, c < 2304 ∧ M.1 16 i = nI c) ∧ (∃ w, w < 4 ∧ M.1 17 i = nI w) ∧ (∃ f, M.1 18 i = nI f ∧ (f < n ∨ (16 ≤ f ∧ f < 16 + i))) ∧ (M.1 19 i = -1 ∨ ∃ f, M.1 19 i = nI f ∧ (f < n ∨ (16 ≤ f ∧ f < 16 + i))) ∧ ∃ m, m < 22 ∧ M.1 20 i = nI m
def RKept (X M : Zs) : Prop := ∃ n, X.1 0 62 = nI n ∧ n ≤ 16 ∧ ∀ i, i < 3 → X.1 7 i = M.1 21 i ∧ (M.1 21 i = 0 ∨ (M.1 21 i = 1 ∧ ∃ j, j ≤ n ∧ M.1 22 (5 * i + 4) = nI j ∧ X.1 8 i = nI (2 ^ j - 1) ∧ X.1 9 i = M.1 22 (5 * i) ∧ bnd (M.1 22 (5 * i)) j ∧ X.1 10 i = M.1 22 (5 * i + 1) ∧ bnd (M.1 22 (5 * i + 1)) j ∧ X.1 11 i = M.1 22 (5 * i + 2) ∧ bnd (M.1 22 (5 * i + 2)) 12 ∧ X.1 12 i = M.1 22 (5 * i + 3) ∧ bnd (M.1 22 (5 * i + 3)) 22))
/-- what the class's caches rest on -/
def kFields : List Nat := [62, 264, 265, 283, 284, 482, 483, 484, 706, 707, 708, 709, 710, 711]
def kRows : List Nat := [4, 15, 16, 17, 36, 37, 38, 39]
def kSame (X X2 : Zs) : Prop := (∀ k ∈ kFields, X2.1 0 k = X.1 0 k) ∧ (∀ r ∈ kRows, X2.1 r = X.1 r) ∧ X2.2 = X.2
/-- K: the caches are true of what they say (to be chosen); it rests on kFields, kRows and the words alone -/
def KOK (K : Zs → Prop) : Prop := ∀ X X2, kSame X X2 → K X → K X2
def Rel (K : Zs → Prop) (X M : Zs) : Prop := RText X M ∧ RSay X M ∧ RLife X M ∧ RMood X M ∧ RWant X M ∧ RRow X M ∧ RPlea X M ∧ RKept X M ∧ K X
theorem kSame_rf (X : Zs) : kSame X X := ⟨fun _ _ => rfl, fun _ _ => rfl, rfl⟩
theorem kSame_p {X : Zs} {k : Nat} {v : Int32} (h : k ∉ kFields) : kSame X (zp X 0 k v) := by
  refine ⟨fun j hj => zp_off X v (Or.inr fun e => h (e ▸ hj)), fun r hr => zp_row X k v (fun e => ?_), rfl⟩
  subst e
  exact absurd hr (by decide)
theorem kSame_r {X : Zs} {r i : Nat} {v : Int32} (h : r ∉ kRows) (h0 : r ≠ 0) : kSame X (zp X r i v) :=
  ⟨fun j _ => zp_off X v (Or.inl (Ne.symm h0)), fun q hq => zp_row X i v (fun e => h (e ▸ hq)), rfl⟩
theorem kSame_t {X Y Z : Zs} (h : kSame X Y) (g : kSame Y Z) : kSame X Z := ⟨fun k hk => (g.1 k hk).trans (h.1 k hk), fun r hr => (g.2.1 r hr).trans (h.2.1 r hr), g.2.2.trans h.2.2⟩
/-- the reference's flag 'thrown' is no part of it -/
theorem Rel.thrown {K : Zs → Prop} {X M : Zs} (v : Int32) (h : Rel K X M) : Rel K X (zp M 0 0 v) := h
theorem nI_0' : (0 : Int32) = nI 0 := rfl
theorem nI_inj {a b : Nat} (ha : a < 2 ^ 31) (hb : b < 2 ^ 31) (h : nI a = nI b) : a = b := (nI_eq ha hb).mp h
/-- end(n) -/
theorem p_end {K : Zs → Prop} (hK : KOK K) (F : Nat) : S_end F (Rel K) := by
  intro X M hR a
  obtain ⟨⟨L, hL, e1, e2, hT⟩, hrest⟩ := id hR
  have em : n_X12_end_0 F M a = (if a < 0 ∨ nI L < a then some (0, zp M 0 0 0) else some (1, zp (zp M 0 0 0) 0 13 a)) := by
    show zcl (n_X12_in F (zp M 0 0 0) a.toInt64 (0 : Int32).toInt64 ((zp M 0 0 0).1 0 13).toInt64) (fun v4 S3 => if v4 = 0 then zrb 0 S3 else zpf S3 13 a (fun S5 => zrb 1 S5)) = _
    rw [show (zp M 0 0 0).1 0 13 = nI L from e2, e_X12_in, zcl_some]
    by_cases h : a < 0 ∨ nI L < a
    · rw [if_pos h, if_pos (bI_f (fun g => h.elim g.1 g.2))]; rfl
    · rw [if_neg h, bI_t ⟨fun g => h (Or.inl g), fun g => h (Or.inr g)⟩]; rfl
  have ex : n_X11_end_0 F X a = (if a < 0 ∨ nI L < a then some (0, X) else some (1, zp X 0 21 a)) := by
    show zcl (if a < 0 then zrb 0 X else if a ≤ X.1 0 21 then zrb 1 (zp X 0 21 a) else zrb 0 X) (fun v2 S1 => zrb v2 S1) = _
    rw [e1]
    by_cases h1 : a < 0
    · rw [if_pos h1, if_pos (Or.inl h1), zrb_0, zcl_some, zrb_0]
    · by_cases h2 : a ≤ nI L
      · rw [if_neg h1, if_pos h2, if_neg (fun g => g.elim h1 (fun g => Int32.not_lt.mpr h2 g)), zrb_1, zcl_some, zrb_1]
      · rw [if_neg h1, if_neg h2, if_pos (Or.inr (Int32.not_le.mp h2)), zrb_0, zcl_some, zrb_0]
  by_cases h : a < 0 ∨ nI L < a
  · exact ⟨0, X, zp M 0 0 0, by rw [ex, if_pos h], by rw [em, if_pos h], hR.thrown 0⟩
  · refine ⟨1, zp X 0 21 a, zp (zp M 0 0 0) 0 13 a, by rw [ex, if_neg h], by rw [em, if_neg h], ?_⟩
    obtain ⟨j, hj, rfl⟩ : ∃ j, j ≤ L ∧ a = nI j := by
      obtain ⟨j, hj, e⟩ := nI_of (fun g => h (Or.inl g))
      refine ⟨j, ?_, e⟩
      have h2 : ¬ nI L < nI j := fun g => h (Or.inr (e ▸ g))
      rcases Nat.lt_or_ge L j with g | g
      · exact absurd (nI_lt g hj) h2
      · exact g
    obtain ⟨r1, r2, r3, r4, r5, r6, r7, r8⟩ := hrest
    exact ⟨⟨j, by omega, rfl, rfl, fun i hi => hT i (by omega)⟩, r1, r2, r3, r4, r5, r6, r7, hK X _ (kSame_p (by decide)) r8⟩
/-- forget() -/
theorem p_forget {K : Zs → Prop} (hK : KOK K) (F : Nat) : S_forget F (Rel K) := by
  intro X M hR
  obtain ⟨r0, r1, r2, r3, ⟨w, hw, e1, e2, hT⟩, r5, r6, r7, r8⟩ := id hR
  refine ⟨nI w, zp X 0 68 0, zp (zp M 0 0 0) 0 9 0, ?_, ?_, r0, r1, r2, r3, ⟨0, by omega, rfl, rfl, fun i hi => absurd hi (by omega)⟩, r5, r6, r7, hK X _ (kSame_p (by decide)) r8⟩
  · show some (X.1 0 68, zp X 0 68 0) = _
    rw [e1]
  · show some ((zp M 0 0 0).1 0 9, zp (zp M 0 0 0) 0 9 0) = _
    rw [show (zp M 0 0 0).1 0 9 = nI w from e2]
/-- allow(moods) -/
theorem bnd_of {j k : Nat} (h : j < 2 ^ k) (h2 : j < 2 ^ 31) : bnd (nI j) k := by
  unfold bnd
  rw [pk_tn (by omega)]
  exact h
theorem p_allow {K : Zs → Prop} (hK : KOK K) (F : Nat) : S_allow F (Rel K) := by
  intro X M hR a
  obtain ⟨r0, r1, r2, ⟨e1, e2⟩, r4, r5, r6, r7, r8⟩ := id hR
  have em : n_X12_allow_0 F M a = (if a < 0 ∨ 4194303 < a then some (-1, zp M 0 0 0) else some (M.1 0 11, zp (zp M 0 0 0) 0 11 a)) := by
    show zcl (n_X12_in F (zp M 0 0 0) a.toInt64 (0 : Int32).toInt64 (4194303 : Int32).toInt64) (fun v3 S2 => if v3 = 0 then some (-1, S2) else zgf S2 11 (fun v4 => zpf S2 11 a (fun S5 => some (v4, S5)))) = _
    rw [e_X12_in, zcl_some]
    by_cases h : a < 0 ∨ 4194303 < a
    · rw [if_pos h, if_pos (bI_f (fun g => h.elim g.1 g.2))]
    · rw [if_neg h, bI_t ⟨fun g => h (Or.inl g), fun g => h (Or.inr g)⟩]; rfl
  have ex : n_X11_allow_0 F X a = (if a < 0 ∨ 4194303 < a then some (-1, X) else some (X.1 0 66, zp X 0 66 a)) := by
    show (if a < 0 then some (-1, X) else if a ≤ 4194303 then some (X.1 0 66, zp X 0 66 a) else some (-1, X)) = _
    by_cases h1 : a < 0
    · rw [if_pos h1, if_pos (Or.inl h1)]
    · by_cases h2 : a ≤ 4194303
      · rw [if_neg h1, if_pos h2, if_neg (fun g => g.elim h1 (fun g => Int32.not_lt.mpr h2 g))]
      · rw [if_neg h1, if_neg h2, if_pos (Or.inr (Int32.not_le.mp h2))]
  by_cases h : a < 0 ∨ 4194303 < a
  · exact ⟨-1, X, zp M 0 0 0, by rw [ex, if_pos h], by rw [em, if_pos h], hR.thrown 0⟩
  · refine ⟨X.1 0 66, zp X 0 66 a, zp (zp M 0 0 0) 0 11 a, by rw [ex, if_neg h], by rw [em, if_neg h, e1], r0, r1, r2, ⟨rfl, ?_⟩, r4, r5, r6, r7, hK X _ (kSame_p (by decide)) r8⟩
    obtain ⟨j, hj, e⟩ := nI_of (fun g => h (Or.inl g))
    show bnd a 22
    rw [e]
    refine bnd_of ?_ hj
    rcases Nat.lt_or_ge j (2 ^ 22) with g | g
    · exact g
    · exact absurd (show (4194303 : Int32) < a from by rw [e]; exact nI_lt (a := 4194303) (by omega) hj) (fun q => h (Or.inr q))
/-- strike() -/
theorem p_strike {K : Zs → Prop} (hK : KOK K) (F : Nat) : S_strike F (Rel K) := by
  intro X M hR
  obtain ⟨r0, r1, r2, r3, r4, r5, ⟨n, p, hp, en, hn, e1, e2, hT⟩, r7, r8⟩ := id hR
  have em : n_X12_strike_0 F M = (if M.1 0 35 = 0 then some (-1, zp M 0 0 0) else some (M.1 0 35 - 1, zp (zp M 0 0 0) 0 35 (M.1 0 35 - 1))) := rfl
  have ex : n_X11_strike_0 F X = (if X.1 0 826 = 0 then some (-1, X) else some (X.1 0 826 - 1, zp X 0 826 (X.1 0 826 - 1))) := rfl
  rw [e2] at em
  rw [e1] at ex
  cases p with
  | zero => exact ⟨-1, X, zp M 0 0 0, by rw [ex]; rfl, by rw [em]; rfl, hR.thrown 0⟩
  | succ p =>
    have h0 : ¬ nI (p + 1) = 0 := nI_ne0 (by omega) (by omega)
    rw [if_neg h0, nI_pred] at em ex
    refine ⟨nI p, zp X 0 826 (nI p), zp (zp M 0 0 0) 0 35 (nI p), ex, em, r0, r1, r2, r3, r4, r5, ⟨n, p, by omega, en, hn, rfl, rfl, fun i hi => hT i (by omega)⟩, r7, hK X _ (kSame_p (by decide)) r8⟩
