theorem bnd_le {x : Int32} {a b : Nat} (h : bnd x a) (hb : a ≤ b) : bnd x b := Nat.lt_of_lt_of_le h (Nat.pow_le_pow_right (by omega) hb)
theorem five_j (j : Nat) : (5 : Int32) * nI j = nI (5 * j) := pk_mul 5 j
theorem five_k (j k : Nat) : nI (5 * j) + nI k = nI (5 * j + k) := nI_add _ _
/-- keep(i) -/
theorem p_keep {K : Zs → Prop} (hK : KOK K) (F : Nat) : S_keep F (Rel K) := by
  intro X M hR a
  obtain ⟨r0, r1, r2, r3, r4, r5, r6, ⟨n, en, hn, hT⟩, r8⟩ := id hR
  obtain ⟨n', hn', en', m0, hS, xd, bd, xw, bw⟩ := r1
  have enn : n' = n := nI_inj (by omega) (by omega) (en'.symm.trans en)
  subst enn
  have i1 : ∀ S, n_X12_in F S a.toInt64 0 2 = some (bI (¬ a < 0 ∧ ¬ 2 < a), S) := fun S => e_X12_in F S a 0 2
  by_cases h : a < 0 ∨ 2 < a
  · refine ⟨0, X, zp M 0 0 0, ?_, ?_, hR.thrown 0⟩
    · show zcl (if a < 0 then some (0, X) else if a < 3 then _ else some (0, X)) (fun v2 S1 => zrb v2 S1) = _
      by_cases h1 : a < 0
      · rw [if_pos h1, zcl_some, zrb_0]
      · rw [if_neg h1, if_neg (fun g => Int32.not_le.mpr g ((z3 a).mp (h.resolve_left h1))), zcl_some, zrb_0]
    · unfold n_X12_keep_0 n_X12_keep_0_e
      simp only [zpf, i1, zcl_some]
      rw [if_pos (bI_f (fun g => h.elim g.1 g.2))]; rfl
  · obtain ⟨j, hj, rfl⟩ := in_nI (n := 3) (x := a) (by decide) (fun g => h (Or.inl g)) (fun g => h (Or.inr ((z3 a).mpr g)))
    refine ⟨1, zp (zp (zp (zp (zp (zp X 7 j 1) 8 j (nI (2 ^ n' - 1))) 9 j (X.1 0 63)) 10 j (X.1 0 64)) 11 j (X.1 0 65)) 12 j (X.1 0 66), zp (zp (zp (zp (zp (zp (zp M 0 0 0) 21 j 1) 22 (5 * j) (M.1 0 6)) 22 (5 * j + 1) (M.1 0 7)) 22 (5 * j + 2) (M.1 0 8)) 22 (5 * j + 3) (M.1 0 11)) 22 (5 * j + 4) (nI n'), ?_, ?_, r0, ⟨n', by omega, en, m0, hS, xd, bd, xw, bw⟩, r2, r3, r4, r5, r6, ⟨n', en, hn, ?_⟩, hK X _ ?_ r8⟩
    · show zcl (if nI j < 0 then some (0, X) else if nI j < 3 then zst X 7 3 (nI j) 1 (fun S1 => zst S1 8 3 (nI j) (((1 : Int32) <<< (S1.1 0 62 &&& 31)) - 1) (fun S4 => zst S4 9 3 (nI j) (S4.1 0 63) (fun S6 => zst S6 10 3 (nI j) (S6.1 0 64) (fun S8 => zst S8 11 3 (nI j) (S8.1 0 65) (fun S10 => zst S10 12 3 (nI j) (S10.1 0 66) (fun S12 => zrb 1 S12)))))) else some (0, X)) (fun v2 S1 => zrb v2 S1) = _
      rw [if_neg (fun g => h (Or.inl g)), if_pos (show nI j < (3 : Int32) from nI_lt (b := 3) hj (by omega))]
      simp only [zst_nI _ _ _ _ hj (show (3 : Nat) < 2 ^ 31 by decide)]
      rw [show (zp X 7 j 1).1 0 62 = nI n' from en, mask_nI n' (by omega), zrb_1, zcl_some, zrb_1]
      rfl
    · unfold n_X12_keep_0 n_X12_keep_0_e
      simp only [zpf, zgf, i1, zcl_some]
      rw [if_neg (fun g => bI_eq0.mp g ⟨fun q => h (Or.inl q), fun q => h (Or.inr q)⟩), five_j, show nI (5 * j) + 1 = nI (5 * j + 1) from five_k j 1, show nI (5 * j) + 2 = nI (5 * j + 2) from five_k j 2, show nI (5 * j) + 3 = nI (5 * j + 3) from five_k j 3, show nI (5 * j) + 4 = nI (5 * j + 4) from five_k j 4]
      simp only [zst_nI _ _ _ _ hj (show (3 : Nat) < 2 ^ 31 by decide), zst_nI _ _ _ _ (show 5 * j < 15 by omega) (show (15 : Nat) < 2 ^ 31 by decide), zst_nI _ _ _ _ (show 5 * j + 1 < 15 by omega) (show (15 : Nat) < 2 ^ 31 by decide), zst_nI _ _ _ _ (show 5 * j + 2 < 15 by omega) (show (15 : Nat) < 2 ^ 31 by decide), zst_nI _ _ _ _ (show 5 * j + 3 < 15 by omega) (show (15 : Nat) < 2 ^ 31 by decide), zst_nI _ _ _ _ (show 5 * j + 4 < 15 by omega) (show (15 : Nat) < 2 ^ 31 by decide)]
      rw [← m0]
      rfl
    · intro i hi
      by_cases e : i = j
      · subst e
        simp [zp_get]
        exact ⟨n', Nat.le_refl _, rfl, rfl, xd, bd, xw, bw, r2.1, r2.2, r3.1, r3.2⟩
      · have e1 : ¬ 5 * i = 5 * j := by omega
        have e2 : ∀ k, k < 5 → ∀ l, l < 5 → ¬ 5 * i + k = 5 * j + l := by omega
        have e3 : ∀ l, l < 5 → ¬ 5 * i = 5 * j + l := by omega
        have e4 : ∀ k, k < 5 → ¬ 5 * i + k = 5 * j := by omega
        simpa [zp_get, e, e1, e2, e3, e4] using hT i hi
    · exact kSame_t (kSame_r (by decide) (by decide)) (kSame_t (kSame_r (by decide) (by decide)) (kSame_t (kSame_r (by decide) (by decide)) (kSame_t (kSame_r (by decide) (by decide)) (kSame_t (kSame_r (by decide) (by decide)) (kSame_r (by decide) (by decide))))))
/-- again(i) -/
theorem p_again {K : Zs → Prop} (hK : KOK K) (F : Nat) : S_again F (Rel K) := by
  intro X M hR a
  obtain ⟨r0, r1, r2, r3, r4, r5, r6, ⟨n, en, hn, hT⟩, r8⟩ := id hR
  obtain ⟨n', hn', en', m0, hS, xd, bd, xw, bw⟩ := r1
  have enn : n' = n := nI_inj (by omega) (by omega) (en'.symm.trans en)
  subst enn
  have i1 : ∀ S, n_X12_in F S a.toInt64 0 2 = some (bI (¬ a < 0 ∧ ¬ 2 < a), S) := fun S => e_X12_in F S a 0 2
  by_cases h : a < 0 ∨ 2 < a
  · refine ⟨0, X, zp M 0 0 0, ?_, ?_, hR.thrown 0⟩
    · show zcl (if a < 0 then some (0, X) else if 3 ≤ a then some (0, X) else _) (fun v2 S1 => zrb v2 S1) = _
      by_cases h1 : a < 0
      · rw [if_pos h1, zcl_some, zrb_0]
      · rw [if_neg h1, if_pos ((z3 a).mp (h.resolve_left h1)), zcl_some, zrb_0]
    · unfold n_X12_again_0 n_X12_again_0_e
      simp only [zpf, i1, zcl_some]
      rw [if_pos (bI_f (fun g => h.elim g.1 g.2))]; rfl
  · have h3 : ¬ 3 ≤ a := fun g => h (Or.inr ((z3 a).mpr g))
    obtain ⟨j, hj, rfl⟩ := in_nI (n := 3) (x := a) (by decide) (fun g => h (Or.inl g)) h3
    obtain ⟨x7, hk⟩ := hT j hj
    have em : n_X12_again_0 F M (nI j) = if M.1 21 j = 0 then some (0, zp M 0 0 0) else some (1, zp (zp (zp (zp (zp M 0 0 0) 0 6 ((M.1 0 6 &&& ((((1 : Int32) <<< (M.1 22 (5 * j + 4) &&& 31)) - 1) ^^^ (-1))) ||| M.1 22 (5 * j))) 0 7 ((M.1 0 7 &&& ((((1 : Int32) <<< (M.1 22 (5 * j + 4) &&& 31)) - 1) ^^^ (-1))) ||| M.1 22 (5 * j + 1))) 0 8 (M.1 22 (5 * j + 2))) 0 11 (M.1 22 (5 * j + 3))) := by
      unfold n_X12_again_0 n_X12_again_0_e
      simp only [zpf, zgf, zlet, i1, zcl_some]
      rw [if_neg (fun g => bI_eq0.mp g ⟨fun q => h (Or.inl q), fun q => h (Or.inr q)⟩), five_j, show nI (5 * j) + 1 = nI (5 * j + 1) from five_k j 1, show nI (5 * j) + 2 = nI (5 * j + 2) from five_k j 2, show nI (5 * j) + 3 = nI (5 * j + 3) from five_k j 3, show nI (5 * j) + 4 = nI (5 * j + 4) from five_k j 4]
      simp only [zld_nI _ _ _ hj (show (3 : Nat) < 2 ^ 31 by decide), zld_nI _ _ _ (show 5 * j < 15 by omega) (show (15 : Nat) < 2 ^ 31 by decide), zld_nI _ _ _ (show 5 * j + 1 < 15 by omega) (show (15 : Nat) < 2 ^ 31 by decide), zld_nI _ _ _ (show 5 * j + 2 < 15 by omega) (show (15 : Nat) < 2 ^ 31 by decide), zld_nI _ _ _ (show 5 * j + 3 < 15 by omega) (show (15 : Nat) < 2 ^ 31 by decide), zld_nI _ _ _ (show 5 * j + 4 < 15 by omega) (show (15 : Nat) < 2 ^ 31 by decide)]
      rfl
    have ex : n_X11_again_0 F X (nI j) = if X.1 7 j = 0 then some (0, X) else some (1, zp (zp (zp (zp X 0 63 (X.1 9 j ||| (X.1 0 63 &&& (X.1 8 j ^^^ (-1))))) 0 64 (X.1 10 j ||| (X.1 0 64 &&& (X.1 8 j ^^^ (-1))))) 0 65 (X.1 11 j)) 0 66 (X.1 12 j)) := by
      unfold n_X11_again_0 n_X11_again_0_e n_X2_restore_3 n_X2_restore_3_e
      rw [if_neg (fun g => h (Or.inl g)), if_neg h3]
      simp only [zpf, zgf, zlet, zld_nI _ _ _ hj (show (3 : Nat) < 2 ^ 31 by decide)]
      by_cases h7 : X.1 7 j = 0
      · rw [if_pos h7, if_pos h7]; unfold n_X2_restore_3_b18; rw [zrb_0, zcl_some, zrb_0]
      · rw [if_neg h7, if_neg h7, zrb_1, zcl_some, zrb_1]; rfl
    rcases hk with hk | ⟨hk, l, hl, e4, x8, x9, b9, x10, b10, x11, b11, x12, b12⟩
    · exact ⟨0, X, zp M 0 0 0, by rw [ex, if_pos (x7.trans hk)], by rw [em, if_pos hk], hR.thrown 0⟩
    · have hm : (((1 : Int32) <<< (nI l &&& 31)) - 1) = nI (2 ^ l - 1) := mask_nI l (by omega)
      rw [if_neg (by rw [x7, hk]; decide), x8] at ex
      rw [if_neg (by rw [hk]; decide), e4, hm] at em
      refine ⟨1, _, _, ex, em, r0, ⟨n', by omega, en, m0, hS, ?_, ?_, ?_, ?_⟩, ⟨x11, b11⟩, ⟨x12, b12⟩, r4, r5, r6, ⟨n', en, hn, hT⟩, hK X _ ?_ r8⟩
      · show X.1 9 j ||| (X.1 0 63 &&& _) = (M.1 0 6 &&& _) ||| M.1 22 (5 * j)
        rw [x9, xd, Int32.or_comm]
      · show bnd ((M.1 0 6 &&& _) ||| M.1 22 (5 * j)) n'
        exact bnd_or (bnd_and _ bd) (bnd_le b9 hl)
      · show X.1 10 j ||| (X.1 0 64 &&& _) = (M.1 0 7 &&& _) ||| M.1 22 (5 * j + 1)
        rw [x10, xw, Int32.or_comm]
      · show bnd ((M.1 0 7 &&& _) ||| M.1 22 (5 * j + 1)) n'
        exact bnd_or (bnd_and _ bw) (bnd_le b10 hl)
      · exact kSame_t (kSame_p (by decide)) (kSame_t (kSame_p (by decide)) (kSame_t (kSame_p (by decide)) (kSame_p (by decide))))
