theorem bnd_or {x y : Int32} {k : Nat} (hx : bnd x k) (hy : bnd y k) : bnd (x ||| y) k := by
  unfold bnd at *
  rw [Int32.toBitVec_or, BitVec.toNat_or]
  exact Nat.or_lt_two_pow hx hy
theorem bnd_and {x : Int32} {k : Nat} (y : Int32) (hx : bnd x k) : bnd (x &&& y) k := by
  unfold bnd at *
  rw [Int32.toBitVec_and, BitVec.toNat_and]
  exact Nat.lt_of_le_of_lt Nat.and_le_left hx
theorem bit_nI : ∀ k, k < 31 → (1 : Int32) <<< (nI k &&& 31) = nI (2 ^ k) := by decide +kernel
theorem bnd_bit {j k : Nat} (h : j < k) (hk : k ≤ 31) : bnd ((1 : Int32) <<< (nI j &&& 31)) k := by
  rw [bit_nI j (by omega)]
  have h1 : 2 ^ j < 2 ^ k := Nat.pow_lt_pow_right (by omega) h
  have h2 : 2 ^ k ≤ 2 ^ 31 := Nat.pow_le_pow_right (by omega) hk
  exact bnd_of h1 (by omega)
theorem bnd_wB {x v : Int32} {j k : Nat} (hx : bnd x k) (h : j < k) (hk : k ≤ 31) : bnd (wB x (nI j) v) k := by
  unfold wB
  split
  · exact bnd_and _ hx
  · exact bnd_or hx (bnd_bit h hk)
theorem in_nI {x : Int32} {n : Nat} (hn : n < 2 ^ 31) (h1 : ¬ x < 0) (h2 : ¬ nI n ≤ x) : ∃ j, j < n ∧ x = nI j := by
  rcases pk_ix x hn with h | h | h
  · exact absurd h h1
  · exact absurd h h2
  · exact h
theorem nI_lt_le (x : Int32) {n : Nat} (hn : n + 1 < 2 ^ 31) : nI n < x ↔ nI (n + 1) ≤ x := by
  rw [Int32.lt_iff_toInt_lt, Int32.le_iff_toInt_le, nI_toInt (by omega), nI_toInt hn]
  omega
theorem l11 (x : Int32) : (11 : Int32) < x ↔ 12 ≤ x := nI_lt_le x (n := 11) (by decide)
theorem l2303 (x : Int32) : (2303 : Int32) < x ↔ 2304 ≤ x := nI_lt_le x (n := 2303) (by decide)
/-- lives(kind, is) -/
theorem p_lives {K : Zs → Prop} (hK : KOK K) (F : Nat) : S_lives F (Rel K) := by
  intro X M hR a b
  obtain ⟨r0, r1, ⟨e1, e2⟩, r3, r4, r5, r6, r7, r8⟩ := id hR
  have em : n_X12_lives_0 F M a b = (if a < 0 ∨ 11 < a then some (0, zp M 0 0 0) else some (1, zp (zp M 0 0 0) 0 8 (wB (M.1 0 8) a b))) := by
    show zcl (n_X12_in F (zp M 0 0 0) a.toInt64 (0 : Int32).toInt64 (11 : Int32).toInt64) (fun v3 S2 => if v3 = 0 then zrb 0 S2 else zgf S2 8 (fun v4 => zcl (n_X12_with F S2 v4 a b) (fun v6 S5 => zpf S5 8 v6 (fun S7 => zrb 1 S7)))) = _
    rw [e_X12_in, zcl_some]
    by_cases h : a < 0 ∨ 11 < a
    · rw [if_pos h, if_pos (bI_f (fun g => h.elim g.1 g.2))]; rfl
    · rw [if_neg h, bI_t ⟨fun g => h (Or.inl g), fun g => h (Or.inr g)⟩]
      show zcl (n_X12_with F (zp M 0 0 0) (M.1 0 8) a b) (fun v6 S5 => zpf S5 8 v6 (fun S7 => zrb 1 S7)) = _
      rw [e_X12_with]; rfl
  have ex : n_X11_lives_0 F X a b = (if a < 0 ∨ 11 < a then some (0, X) else some (1, zp X 0 65 (wB (X.1 0 65) a b))) := by
    show (if a < 0 then zrb 0 X else if a < 12 then zcl (n_X0_withBit F X (X.1 0 65) a b) (fun v3 S2 => zpf S2 65 v3 (fun S4 => zrb 1 S4)) else zrb 0 X) = _
    rw [e_X0_withBit, zcl_some]
    by_cases h1 : a < 0
    · rw [if_pos h1, if_pos (Or.inl h1)]; rfl
    · by_cases h2 : a < 12
      · rw [if_neg h1, if_pos h2, if_neg (fun g => g.elim h1 (fun g => Int32.not_le.mpr h2 ((l11 a).mp g)))]; rfl
      · rw [if_neg h1, if_neg h2, if_pos (Or.inr ((l11 a).mpr (Int32.not_lt.mp h2)))]; rfl
  by_cases h : a < 0 ∨ 11 < a
  · exact ⟨0, X, zp M 0 0 0, by rw [ex, if_pos h], by rw [em, if_pos h], hR.thrown 0⟩
  · refine ⟨1, zp X 0 65 (wB (X.1 0 65) a b), zp (zp M 0 0 0) 0 8 (wB (M.1 0 8) a b), by rw [ex, if_neg h], by rw [em, if_neg h], r0, r1, ⟨?_, ?_⟩, r3, r4, r5, r6, r7, hK X _ (kSame_p (by decide)) r8⟩
    · show wB (X.1 0 65) a b = wB (M.1 0 8) a b
      rw [e1]
    · show bnd (wB (M.1 0 8) a b) 12
      obtain ⟨j, hj, rfl⟩ := in_nI (n := 12) (x := a) (by decide) (fun g => h (Or.inl g)) (fun g => h (Or.inr ((l11 a).mpr g)))
      exact bnd_wB e2 hj (by omega)
/-- want(code) -/
theorem p_want {K : Zs → Prop} (hK : KOK K) (F : Nat) : S_want F (Rel K) := by
  intro X M hR a
  obtain ⟨r0, r1, r2, r3, ⟨w, hw, e1, e2, hT⟩, r5, r6, r7, r8⟩ := id hR
  have em : n_X12_want_0 F M a = (if a < 0 ∨ 2303 < a then some (-1, zp M 0 0 0) else if w = 6 then some (-1, zp M 0 0 0) else some (nI (w + 1), zp (zp (zp M 0 0 0) 4 w a) 0 9 (nI (w + 1)))) := by
    show zcl (n_X12_isCode F (zp M 0 0 0) a) (fun v3 S2 => if v3 = 0 then n_X12_want_0_b21 F S2 else zgf S2 9 (fun v4 => if v4 = 6 then n_X12_want_0_b21 F S2 else zgf S2 9 (fun v5 => zst S2 4 6 v5 a (fun S6 => zgf S6 9 (fun v7 => zpf S6 9 (v7 + 1) (fun S8 => zgf S8 9 (fun v9 => some (v9, S8)))))))) = _
    rw [e_X12_isCode, zcl_some]
    by_cases h : a < 0 ∨ 2303 < a
    · rw [if_pos h, if_pos (bI_f (fun g => h.elim g.1 g.2))]; rfl
    · rw [if_neg h, bI_t ⟨fun g => h (Or.inl g), fun g => h (Or.inr g)⟩]
      show (if (zp M 0 0 0).1 0 9 = 6 then some ((-1 : Int32), zp M 0 0 0) else zst (zp M 0 0 0) 4 6 ((zp M 0 0 0).1 0 9) a (fun S6 => some (S6.1 0 9 + 1, zp S6 0 9 (S6.1 0 9 + 1)))) = _
      rw [show (zp M 0 0 0).1 0 9 = nI w from e2]
      by_cases h6 : w = 6
      · rw [if_pos h6, h6]; rfl
      · rw [if_neg h6, if_neg (show ¬ nI w = (6 : Int32) from fun g => h6 (nI_inj (b := 6) (by omega) (by omega) g)), zst_nI _ _ _ _ (by omega) (by omega)]
        show some ((zp (zp M 0 0 0) 4 w a).1 0 9 + 1, zp (zp (zp M 0 0 0) 4 w a) 0 9 ((zp (zp M 0 0 0) 4 w a).1 0 9 + 1)) = _
        rw [show (zp (zp M 0 0 0) 4 w a).1 0 9 = nI w from e2, nI_1]
  have ex : n_X11_want_0 F X a = (if a < 0 ∨ 2303 < a then some (-1, X) else if w = 6 then some (-1, X) else some (nI (w + 1), zp (zp X 6 w a) 0 68 (nI (w + 1)))) := by
    show zcl (n_X0_isCode F X a) (fun v2 S1 => if v2 = 0 then some (-1, S1) else zcl (zgf S1 68 (fun v1 => if v1 < 6 then zgf S1 68 (fun v2 => zst S1 6 6 v2 a (fun S3 => zgf S3 68 (fun v4 => zpf S3 68 (v4 + 1) (fun S5 => zgf S5 68 (fun v6 => some (v6, S5)))))) else some (-1, S1))) (fun v4 S3 => some (v4, S3))) = _
    rw [e_X0_isCode, zcl_some]
    by_cases h : a < 0 ∨ 2303 < a
    · rw [if_pos h, if_pos (bI_f (fun g => h.elim g.1 (fun q => g.2 ((l2303 a).mp q))))]
    · rw [if_neg h, bI_t ⟨fun g => h (Or.inl g), fun g => h (Or.inr ((l2303 a).mpr g))⟩]
      show zcl (if X.1 0 68 < 6 then zst X 6 6 (X.1 0 68) a (fun S3 => some (S3.1 0 68 + 1, zp S3 0 68 (S3.1 0 68 + 1))) else some (-1, X)) (fun v4 S3 => some (v4, S3)) = _
      rw [e1]
      by_cases h6 : w = 6
      · rw [if_pos h6, h6]; rfl
      · rw [if_neg h6, if_pos (show nI w < (6 : Int32) from nI_lt (a := w) (b := 6) (by omega) (by omega)), zst_nI _ _ _ _ (by omega) (by omega)]
        show some ((zp X 6 w a).1 0 68 + 1, zp (zp X 6 w a) 0 68 ((zp X 6 w a).1 0 68 + 1)) = _
        rw [show (zp X 6 w a).1 0 68 = nI w from e1, nI_1]
  by_cases h : a < 0 ∨ 2303 < a
  · exact ⟨-1, X, zp M 0 0 0, by rw [ex, if_pos h], by rw [em, if_pos h], hR.thrown 0⟩
  · by_cases h6 : w = 6
    · exact ⟨-1, X, zp M 0 0 0, by rw [ex, if_neg h, if_pos h6], by rw [em, if_neg h, if_pos h6], hR.thrown 0⟩
    · refine ⟨nI (w + 1), zp (zp X 6 w a) 0 68 (nI (w + 1)), zp (zp (zp M 0 0 0) 4 w a) 0 9 (nI (w + 1)), by rw [ex, if_neg h, if_neg h6], by rw [em, if_neg h, if_neg h6], r0, r1, r2, r3, ⟨w + 1, by omega, rfl, rfl, fun i hi => ?_⟩, r5, r6, r7, hK X _ (kSame_t (kSame_r (by decide) (by decide)) (kSame_p (by decide))) r8⟩
      show (zp X 6 w a).1 6 i = (zp (zp M 0 0 0) 4 w a).1 4 i ∧ ∃ c, c < 2304 ∧ (zp (zp M 0 0 0) 4 w a).1 4 i = nI c
      by_cases hi2 : i = w
      · subst hi2
        rw [zp_at, zp_at]
        refine ⟨rfl, ?_⟩
        exact in_nI (n := 2304) (x := a) (by decide) (fun g => h (Or.inl g)) (fun g => h (Or.inr ((l2303 a).mpr g)))
      · rw [zp_off X a (Or.inr hi2), zp_off (zp M 0 0 0) a (Or.inr hi2)]
        exact hT i (by omega)
