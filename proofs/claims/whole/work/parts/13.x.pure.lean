/-! sign, sheet, stands, marks -/
theorem hb_255 : ∀ k, k < 32 → hb (255 : Int32) k = decide (k < 8) := by decide +kernel
def byt (v : Int32) (k : Nat) : Int32 := nI (tn v / 2 ^ k % 256)
theorem hb_ss (v s : Int32) {k : Nat} (hs : (s.toBitVec.smod 32).toNat = k) {j : Nat} (h : j + k < 32) : hb (v >>> s) j = hb v (j + k) := by
  have h1 : (v >>> s).toBitVec = v.toBitVec.sshiftRight k := by
    rw [Int32.toBitVec_shiftRight]
    show v.toBitVec.sshiftRight (s.toBitVec.smod 32).toNat = _
    rw [hs]
  unfold hb
  rw [h1, BitVec.getLsbD_sshiftRight]
  have h2 : ¬ 32 ≤ j := by omega
  have h3 : k + j < 32 := by omega
  rw [Nat.add_comm j k]
  simp [h2, h3]
theorem byt_m (v s : Int32) {k : Nat} (hs : (s.toBitVec.smod 32).toNat = k) (hk : k ≤ 24) : (v >>> s) &&& 255 = byt v k := hb_ext fun j hj => by
  unfold byt
  rw [hb_and, hb_255 j hj, hbn (by omega), show (256 : Nat) = 2 ^ 8 from rfl, Nat.testBit_mod_two_pow]
  by_cases h : j < 8
  · rw [decide_eq_true h, Bool.and_true, Bool.true_and, hb_ss v s hs (by omega), hb_tn, Nat.testBit_div_two_pow]
  · rw [decide_eq_false h, Bool.and_false, Bool.false_and]
theorem byt_x (v s : Int32) {k : Nat} (hs : ((s.toUInt32 &&& Int32.toUInt32 31).toBitVec % 32).toNat = k) : vp_nar .char (((((v.toUInt32 >>> (s.toUInt32 &&& Int32.toUInt32 31)).toInt32) &&& (255 : Int32)).toUInt32 % 65536).toInt32) = byt v k := by
  rw [pk_vc, pk_char, pk_and (m := 255) _ 8 (by decide), pk_ushr v s k hs]
  unfold byt
  have h : tn v / 2 ^ k % 256 < 256 := Nat.mod_lt _ (by omega)
  have e : (nI (v.toBitVec.toNat / 2 ^ k % 2 ^ 8)).toBitVec.toNat = tn v / 2 ^ k % 256 := pk_tn (Nat.lt_trans h (by decide))
  rw [e, Nat.mod_eq_of_lt (by omega)]
/-- sign(v) -/
def xs4 (X : Zs) (L : Nat) (v : Int32) : Nat → Zs
  | 0 => X
  | i + 1 => zp (zp (xs4 X L v i) 2 (L + i) (byt v (24 - 8 * i))) 0 21 (nI (L + i + 1))
def ms4 (M : Zs) (L : Nat) (v : Int32) : Nat → Zs
  | 0 => M
  | i + 1 => zp (ms4 M L v i) 5 (L + i) (byt v (24 - 8 * i))
def shx : Nat → Int32
  | 0 => 24
  | 1 => 16
  | 2 => 8
  | 3 => 0
  | _ => -8
theorem shx_s : ∀ i, i < 4 → ((shx i).toUInt32 &&& Int32.toUInt32 31).toBitVec % 32 = BitVec.ofNat 32 (24 - 8 * i) ∧ shx i + (-8) = shx (i + 1) ∧ ¬ shx i < 0 ∧ ((24 - 8 * nI i &&& 31).toBitVec.smod 32).toNat = 24 - 8 * i := by decide +kernel
theorem xs4_len (X : Zs) {L : Nat} (v : Int32) (h : X.1 0 21 = nI L) (i : Nat) : (xs4 X L v i).1 0 21 = nI (L + i) := by
  cases i with
  | zero => exact h
  | succ i => exact zp_at _ _ _ _
theorem ms4_f (M : Zs) (L : Nat) (v : Int32) (i k : Nat) : (ms4 M L v i).1 0 k = M.1 0 k := by
  induction i with
  | zero => rfl
  | succ i ih => exact (zp_off _ _ (Or.inl (by decide))).trans ih
theorem x_sign {F : Nat} (hF : 2 ^ 40 < F) {X : Zs} {L : Nat} (h : X.1 0 21 = nI L) (hL : L + 4 ≤ 80) (v : Int32) : n_X8_write_1_b16 F X v 24 = some (nI (L + 4), xs4 X L v 4) := by
  refine zfix_run (f := fun (rc : (Zs × Int32 × Int32) → Option (Int32 × Zs)) (u : (Zs × Int32 × Int32)) => n_X8_write_1_b16_l F  (fun S x1 x2 => rc (S, x1, x2)) u.1 u.2.1 u.2.2) (fun i => (xs4 X L v i, v, shx i)) 4 (fun i hi rc => ?_) (fun rc => ?_) F (by omega)
  · obtain ⟨h1, h2, h3, -⟩ := shx_s i hi
    show n_X8_write_1_b16_l F (fun S x1 x2 => rc (S, x1, x2)) (xs4 X L v i) v (shx i) = rc (xs4 X L v (i + 1), v, shx (i + 1))
    have e1 : (zp (xs4 X L v i) 2 (L + i) (byt v (24 - 8 * i))).1 0 21 = nI (L + i) := by rw [zp_off _ _ (Or.inl (by decide)), xs4_len X v h]
    have hs : (((shx i).toUInt32 &&& Int32.toUInt32 31).toBitVec % 32).toNat = 24 - 8 * i := by
      rw [h1, BitVec.toNat_ofNat, Nat.mod_eq_of_lt (by omega)]
    unfold n_X8_write_1_b16_l
    rw [if_neg h3, byt_x v (shx i) hs]
    unfold zgf zpf zlet
    dsimp only
    rw [xs4_len X v h, zst_nI _ _ _ _ (by omega) (by omega), e1, h2, nI_1]
    rfl
  · show n_X8_write_1_b16_l F (fun S x1 x2 => rc (S, x1, x2)) (xs4 X L v 4) v (shx 4) = _
    unfold n_X8_write_1_b16_l
    rw [if_pos (by decide)]
    unfold zgf
    dsimp only
    rw [xs4_len X v h]
theorem m_sign {F : Nat} (hF : 2 ^ 40 < F) {M : Zs} {L : Nat} (h : M.1 0 13 = nI L) (hL : L + 4 ≤ 80) (v : Int32) : n_X12_sign_0_b18 F M v 0 = some (nI (L + 4), zp (ms4 M L v 4) 0 13 (nI (L + 4))) := by
  refine zfix_run (f := fun (rc : (Zs × Int32 × Int32) → Option (Int32 × Zs)) (u : (Zs × Int32 × Int32)) => n_X12_sign_0_b18_l F  (fun S x1 x2 => rc (S, x1, x2)) u.1 u.2.1 u.2.2) (fun i => (ms4 M L v i, v, nI i)) 4 (fun i hi rc => ?_) (fun rc => ?_) F (by omega)
  · obtain ⟨-, -, -, h4⟩ := shx_s i hi
    show n_X12_sign_0_b18_l F (fun S x1 x2 => rc (S, x1, x2)) (ms4 M L v i) v (nI i) = rc (ms4 M L v (i + 1), v, nI (i + 1))
    unfold n_X12_sign_0_b18_l
    rw [if_neg (show ¬ (4 : Int32) ≤ nI i from fun g => by rw [show (4 : Int32) = nI 4 from rfl, nI_le_iff (by omega) (by omega)] at g; omega), byt_m v _ h4 (by omega)]
    unfold zgf zlet
    dsimp only
    rw [ms4_f, h, nI_add, zst_nI _ _ _ _ (by omega) (by omega), nI_1]
    rfl
  · show n_X12_sign_0_b18_l F (fun S x1 x2 => rc (S, x1, x2)) (ms4 M L v 4) v (nI 4) = _
    unfold n_X12_sign_0_b18_l
    rw [if_pos (by decide)]
    unfold zgf zpf
    dsimp only
    rw [ms4_f, h, zp_at, show nI L + 4 = nI (L + 4) from nI_add L 4]
theorem xs4_o (X : Zs) (L : Nat) (v : Int32) (i : Nat) : fr [2] [21] X (xs4 X L v i) := by
  induction i with
  | zero => exact fr_rf _ _ _
  | succ i ih => exact fr_t ih (fr_t (fr_r _ _ (by decide) (by decide)) (fr_p _ (by decide)))
theorem ms4_o (M : Zs) (L : Nat) (v : Int32) (i : Nat) : fr [5] [13] M (ms4 M L v i) := by
  induction i with
  | zero => exact fr_rf _ _ _
  | succ i ih => exact fr_t ih (fr_r _ _ (by decide) (by decide))
theorem xs4_g (X : Zs) (L : Nat) (v : Int32) (i j : Nat) : (xs4 X L v i).1 2 j = if L ≤ j ∧ j < L + i then byt v (24 - 8 * (j - L)) else X.1 2 j := by
  induction i with
  | zero => rw [if_neg (by omega)]; rfl
  | succ i ih =>
    show (zp (zp (xs4 X L v i) 2 (L + i) (byt v (24 - 8 * i))) 0 21 (nI (L + i + 1))).1 2 j = _
    rw [zp_off _ _ (Or.inl (by decide))]
    by_cases e : j = L + i
    · subst e
      rw [zp_at, if_pos (by omega), show L + i - L = i by omega]
    · rw [zp_off _ _ (Or.inr e), ih]
      by_cases h : L ≤ j ∧ j < L + i
      · rw [if_pos h, if_pos (by omega)]
      · rw [if_neg h, if_neg (by omega)]
theorem ms4_g (M : Zs) (L : Nat) (v : Int32) (i j : Nat) : (ms4 M L v i).1 5 j = if L ≤ j ∧ j < L + i then byt v (24 - 8 * (j - L)) else M.1 5 j := by
  induction i with
  | zero => rw [if_neg (by omega)]; rfl
  | succ i ih =>
    show (zp (ms4 M L v i) 5 (L + i) (byt v (24 - 8 * i))).1 5 j = _
    by_cases e : j = L + i
    · subst e
      rw [zp_at, if_pos (by omega), show L + i - L = i by omega]
    · rw [zp_off _ _ (Or.inr e), ih]
      by_cases h : L ≤ j ∧ j < L + i
      · rw [if_pos h, if_pos (by omega)]
      · rw [if_neg h, if_neg (by omega)]
/-- only the text has changed -/
theorem Rel_text {K : Zs → Prop} (hK : KOK K) {X M X2 M2 : Zs} (h : Rel K X M) (fx : fr [2] [21] X X2) (fm : fr [5] [0, 13] M M2) (ht : RText X2 M2) : Rel K X2 M2 := by
  obtain ⟨-, h2, h3, h4, h5, h6, h7, h8, h9⟩ := h
  have xf := fun k (hk : k ∉ [21]) => (fx.1 k hk).symm
  have xr := fun r (h0 : r ≠ 0) (hr : r ∉ [2]) => (fx.2.1 r h0 hr).symm
  have mf := fun k (hk : k ∉ [0, 13]) => (fm.1 k hk).symm
  have mr := fun r (h0 : r ≠ 0) (hr : r ∉ [5]) => (fm.2.1 r h0 hr).symm
  unfold RSay at h2
  unfold RLife at h3
  unfold RMood at h4
  unfold RWant at h5
  unfold RRow at h6
  unfold RPlea at h7
  unfold RKept at h8
  rw [xf 62 (by decide), xf 63 (by decide), xf 64 (by decide), xr 4 (by decide) (by decide), xr 5 (by decide) (by decide), mf 3 (by decide), mf 6 (by decide), mf 7 (by decide), mr 2 (by decide) (by decide), mr 3 (by decide) (by decide)] at h2
  rw [xf 65 (by decide), mf 8 (by decide)] at h3
  rw [xf 66 (by decide), mf 11 (by decide)] at h4
  rw [xf 68 (by decide), xr 6 (by decide) (by decide), mf 9 (by decide), mr 4 (by decide) (by decide)] at h5
  rw [xf 10 (by decide), xr 47 (by decide) (by decide), mf 1 (by decide), mr 1 (by decide) (by decide)] at h6
  rw [xf 62 (by decide), xf 826 (by decide), xr 42 (by decide) (by decide), xr 43 (by decide) (by decide), xr 44 (by decide) (by decide), xr 45 (by decide) (by decide), xr 46 (by decide) (by decide), mf 35 (by decide), mr 16 (by decide) (by decide), mr 17 (by decide) (by decide), mr 18 (by decide) (by decide), mr 19 (by decide) (by decide), mr 20 (by decide) (by decide)] at h7
  rw [xf 62 (by decide), xr 7 (by decide) (by decide), xr 8 (by decide) (by decide), xr 9 (by decide) (by decide), xr 10 (by decide) (by decide), xr 11 (by decide) (by decide), xr 12 (by decide) (by decide), mr 21 (by decide) (by decide), mr 22 (by decide) (by decide)] at h8
  exact ⟨ht, h2, h3, h4, h5, h6, h7, h8, hK X X2 (fr_k fx (by decide) (by decide)) h9⟩
theorem p_sign {K : Zs → Prop} (hK : KOK K) {F : Nat} (hF : 2 ^ 40 < F) : S_sign F (Rel K) := by
  intro X M hR v
  obtain ⟨L, hL, e1, e2, hT⟩ := hR.1
  have ex : n_X11_sign_0 F X v = if L + 4 ≤ 80 then zcl (n_X8_write_1_b16 F X v 24) (fun v2 S1 => some (v2, S1)) else some (-1, X) := by
    show zcl (if X.1 0 21 + 4 ≤ 80 then n_X8_write_1_b16 F X v 24 else some (-1, X)) (fun v2 S1 => some (v2, S1)) = _
    rw [e1, show nI L + 4 = nI (L + 4) from nI_add L 4]
    by_cases h : L + 4 ≤ 80
    · rw [if_pos h, if_pos (show nI (L + 4) ≤ (80 : Int32) from nI_le (b := 80) h (by omega))]
    · rw [if_neg h, if_neg (show ¬ nI (L + 4) ≤ (80 : Int32) from fun g => by rw [show (80 : Int32) = nI 80 from rfl, nI_le_iff (by omega) (by omega)] at g; omega), zcS]
  have em : n_X12_sign_0 F M v = if L + 4 ≤ 80 then n_X12_sign_0_b18 F (zp M 0 0 0) v 0 else some (-1, zp M 0 0 0) := by
    show (if (zp M 0 0 0).1 0 13 ≤ 76 then n_X12_sign_0_b18 F (zp M 0 0 0) v 0 else some (-1, zp M 0 0 0)) = _
    rw [show (zp M 0 0 0).1 0 13 = nI L from e2]
    by_cases h : L + 4 ≤ 80
    · rw [if_pos h, if_pos (show nI L ≤ (76 : Int32) from nI_le (b := 76) (by omega) (by omega))]
    · rw [if_neg h, if_neg (show ¬ nI L ≤ (76 : Int32) from fun g => by rw [show (76 : Int32) = nI 76 from rfl, nI_le_iff (by omega) (by omega)] at g; omega)]
  by_cases h : L + 4 ≤ 80
  · rw [if_pos h, x_sign hF e1 h, zcS] at ex
    rw [if_pos h, m_sign hF (M := zp M 0 0 0) e2 h] at em
    refine ⟨nI (L + 4), _, _, ex, em, Rel_text hK hR (xs4_o X L v 4) (fr_t (fr_p _ (by decide)) (fr_t (fr_w (ms4_o (zp M 0 0 0) L v 4) (by decide) (by decide)) (fr_p _ (by decide)))) ⟨L + 4, h, xs4_len X v e1 4, rfl, fun i hi => ?_⟩⟩
    rw [zp_off _ _ (Or.inl (by decide)), xs4_g, ms4_g]
    by_cases g : L ≤ i ∧ i < L + 4
    · rw [if_pos g, if_pos g]
      exact ⟨rfl, _, Nat.mod_lt _ (by omega), rfl⟩
    · rw [if_neg g, if_neg g]
      exact hT i (by omega)
  · rw [if_neg h] at ex em
    exact ⟨-1, X, zp M 0 0 0, ex, em, hR.thrown 0⟩
