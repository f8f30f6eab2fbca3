theorem nI_m1_lt (x : Int32) {n : Nat} (hn : n < 2 ^ 30) : nI n - 1 < x ↔ nI n ≤ x := by
  rw [Int32.lt_iff_toInt_lt, Int32.le_iff_toInt_le, show (nI n - 1).toInt = (n : Int) - 1 from pk_sub_toInt (b := 1) hn (by decide), nI_toInt (by omega)]
  omega
/-- row(i) -/
theorem p_row {K : Zs → Prop} (F : Nat) : S_row F (Rel K) := by
  intro X M hR a
  obtain ⟨r0, r1, r2, r3, r4, ⟨r, hr, e1, e2, hT⟩, r6, r7, r8⟩ := id hR
  have em : n_X12_row_0 F M a = (if a < 0 ∨ nI r ≤ a then some (0, zp (zp M 0 0 0) 0 0 1) else zld (zp M 0 0 0) 1 32 a (fun v5 => some (v5, zp M 0 0 0))) := by
    show zcl (n_X12_in F (zp M 0 0 0) a.toInt64 (0 : Int32).toInt64 ((zp M 0 0 0).1 0 1 - 1).toInt64) (fun v4 S3 => if v4 = 0 then zpf S3 0 1 (fun S6 => some (0, S6)) else zld S3 1 32 a (fun v5 => some (v5, S3))) = _
    rw [show (zp M 0 0 0).1 0 1 = nI r from e2, e_X12_in, zcl_some]
    by_cases h : a < 0 ∨ nI r ≤ a
    · rw [if_pos h, if_pos (bI_f (fun g => h.elim g.1 (fun q => g.2 ((nI_m1_lt a (by omega)).mpr q))))]; rfl
    · rw [if_neg h, bI_t ⟨fun g => h (Or.inl g), fun g => h (Or.inr ((nI_m1_lt a (by omega)).mp g))⟩]; rfl
  have ex : n_X11_row_0 F X a = (if a < 0 then none else if a < nI r then zld X 47 24 a (fun v2 => some (v2, X)) else none) := by
    show (if a < 0 then none else if a < X.1 0 10 then zld X 47 24 a (fun v2 => some (v2, X)) else none) = _
    rw [e1]
  by_cases h : a < 0 ∨ nI r ≤ a
  · refine ⟨0, zp (zp M 0 0 0) 0 0 1, by rw [em, if_pos h], Or.inr ⟨?_, ?_, rfl, hR⟩⟩
    · rw [ex]
      by_cases h1 : a < 0
      · rw [if_pos h1]
      · rw [if_neg h1, if_neg (Int32.not_lt.mpr (h.resolve_left h1))]
    · show a < 0 ∨ X.1 0 10 ≤ a
      rw [e1]; exact h
  · obtain ⟨j, hj, rfl⟩ := in_nI (n := r) (x := a) (by omega) (fun g => h (Or.inl g)) (fun g => h (Or.inr g))
    refine ⟨M.1 1 j, zp M 0 0 0, ?_, Or.inl ⟨X, ?_, ?_, rfl, hR.thrown 0⟩⟩
    · rw [em, if_neg h, zld_nI _ _ _ (by omega) (by omega)]; rfl
    · rw [ex, if_neg (fun g => h (Or.inl g)), if_pos (nI_lt hj (by omega)), zld_nI _ _ _ (by omega) (by omega), hT j hj]
    · show ¬ (nI j < 0 ∨ X.1 0 10 ≤ nI j)
      rw [e1]; exact h
/-- count(what) -/
theorem p_count {K : Zs → Prop} (F : Nat) : S_count F (Rel K) := by
  intro X M hR a
  obtain ⟨⟨L, -, x7, m7, -⟩, ⟨n, hn, x0, m0, -, -, -, xw, -⟩, ⟨x2, -⟩, ⟨x3, -⟩, ⟨w, -, x1, m1, -⟩, ⟨r, -, x6, m6, -⟩, ⟨-, q, -, -, -, x4, m4, -⟩, -, -⟩ := id hR
  have hT := hR.thrown 0
  by_cases h0 : a = 0
  · subst h0; exact ⟨M.1 0 3, X, zp M 0 0 0, (show some (X.1 0 62, X) = _ by rw [x0, m0]), rfl, hT⟩
  by_cases h1 : a = 1
  · subst h1; exact ⟨M.1 0 9, X, zp M 0 0 0, (show some (X.1 0 68, X) = _ by rw [x1, m1]), rfl, hT⟩
  by_cases h2 : a = 2
  · subst h2; exact ⟨M.1 0 8, X, zp M 0 0 0, (show some (X.1 0 65, X) = _ by rw [x2]), rfl, hT⟩
  by_cases h3 : a = 3
  · subst h3; exact ⟨M.1 0 11, X, zp M 0 0 0, (show some (X.1 0 66, X) = _ by rw [x3]), rfl, hT⟩
  by_cases h4 : a = 4
  · subst h4; exact ⟨M.1 0 35, X, zp M 0 0 0, (show some (X.1 0 826, X) = _ by rw [x4, m4]), rfl, hT⟩
  by_cases h5 : a = 5
  · subst h5
    refine ⟨(((1 : Int32) <<< (M.1 0 3 &&& 31)) - 1) &&& (M.1 0 7 ^^^ (-1)), X, zp M 0 0 0, ?_, rfl, hT⟩
    show some ((((1 : Int32) <<< (X.1 0 62 &&& 31)) - 1) &&& (X.1 0 64 ^^^ (-1)), X) = _
    rw [x0, m0, xw]
  by_cases h6 : a = 6
  · subst h6; exact ⟨M.1 0 1, X, zp M 0 0 0, (show some (X.1 0 10, X) = _ by rw [x6, m6]), rfl, hT⟩
  by_cases h7 : a = 7
  · subst h7; exact ⟨M.1 0 13, X, zp M 0 0 0, (show some (X.1 0 21, X) = _ by rw [x7, m7]), rfl, hT⟩
  · refine ⟨-1, X, zp M 0 0 0, ?_, ?_, hT⟩
    · unfold n_X11_count_0 n_X11_count_0_e
      rw [if_neg h0, if_neg h1, if_neg h2, if_neg h3, if_neg h4, if_neg h5, if_neg h6, if_neg h7]
    · unfold n_X12_count_0 n_X12_count_0_e zpf
      dsimp only
      rw [if_neg h0, if_neg h1, if_neg h2, if_neg h3, if_neg h4, if_neg h5, if_neg h6, if_neg h7]
theorem e_X12_isSaying {M : Zs} {n : Nat} (F : Nat) (hn : n ≤ 16) (e : M.1 0 3 = nI n) (a : Int32) : n_X12_isSaying_0 F M a = some (bI (¬ (a < 0 ∨ nI n ≤ a)), M) := by
  show zcl (n_X12_in F M a.toInt64 (0 : Int32).toInt64 (M.1 0 3 - 1).toInt64) (fun v3 S2 => zrb v3 S2) = _
  rw [e, e_X12_in, zcl_some, zrb_b]
  refine congrArg (fun q => some (q, M)) (bI_cong ⟨?_, ?_⟩)
  · rintro ⟨g1, g2⟩ (g | g)
    · exact g1 g
    · exact g2 ((nI_m1_lt a (by omega)).mpr g)
  · intro g
    exact ⟨fun q => g (Or.inl q), fun q => g (Or.inr ((nI_m1_lt a (by omega)).mp q))⟩
/-- mark(i, what, is) -/
theorem l1 (x : Int32) : (1 : Int32) < x ↔ 2 ≤ x := nI_lt_le x (n := 1) (by decide)
theorem two_of {x : Int32} (h1 : ¬ x < 0) (h2 : ¬ 1 < x) : x = 0 ∨ x = 1 := by
  obtain ⟨j, hj, rfl⟩ := in_nI (n := 2) (x := x) (by decide) h1 (fun g => h2 ((l1 x).mpr g))
  rcases (show j = 0 ∨ j = 1 by omega) with rfl | rfl
  · exact Or.inl rfl
  · exact Or.inr rfl
theorem p_mark {K : Zs → Prop} (hK : KOK K) (F : Nat) : S_mark F (Rel K) := by
  intro X M hR a b c
  obtain ⟨r0, ⟨n, hn, x0, m0, hT, xd, bd, xw, bw⟩, r2, r3, r4, r5, r6, r7, r8⟩ := id hR
  have em : n_X12_mark_0 F M a b c = (if a < 0 ∨ nI n ≤ a then some (0, zp M 0 0 0) else if b < 0 ∨ 1 < b then some (0, zp M 0 0 0) else if b = 0 then some (1, zp (zp (zp M 0 0 0) 0 6 (wB (M.1 0 6) a c)) 0 7 (M.1 0 7)) else some (1, zp (zp (zp M 0 0 0) 0 6 (M.1 0 6)) 0 7 (if b = 1 then wB (M.1 0 7) a c else M.1 0 7))) := by
    show zcl (n_X12_isSaying_0 F (zp M 0 0 0) a) (fun v3 S2 => if v3 = 0 then zrb 0 S2 else zcl (n_X12_in F S2 b.toInt64 (0 : Int32).toInt64 (1 : Int32).toInt64) (fun v5 S4 => if v5 = 0 then zrb 0 S4 else if b = 0 then zgf S4 6 (fun v7 => zcl (n_X12_with F S4 v7 a c) (fun v9 S8 => n_X12_mark_0_b46 F S8 a b c v9)) else zgf S4 6 (fun v6 => n_X12_mark_0_b46 F S4 a b c v6))) = _
    rw [e_X12_isSaying (M := zp M 0 0 0) F hn m0, zcl_some]
    by_cases h : a < 0 ∨ nI n ≤ a
    · rw [if_pos h, if_pos (bI_f (fun g => g h))]; rfl
    · rw [if_neg h, bI_t h, if_neg (by decide), e_X12_in, zcl_some]
      by_cases h2 : b < 0 ∨ 1 < b
      · rw [if_pos h2, if_pos (bI_f (fun g => h2.elim g.1 g.2))]; rfl
      · rw [if_neg h2, bI_t ⟨fun g => h2 (Or.inl g), fun g => h2 (Or.inr g)⟩, if_neg (by decide)]
        by_cases h3 : b = 0
        · subst h3
          show zcl (n_X12_with F (zp M 0 0 0) (M.1 0 6) a c) (fun v9 S8 => n_X12_mark_0_b46 F S8 a 0 c v9) = _
          rw [e_X12_with]; rfl
        · rw [if_neg h3, if_neg h3]
          have h4 : b = 1 := (two_of (fun g => h2 (Or.inl g)) (fun g => h2 (Or.inr g))).resolve_left h3
          subst h4
          show zcl (n_X12_with F (zp (zp M 0 0 0) 0 6 (M.1 0 6)) (M.1 0 7) a c) (fun v5 S4 => n_X12_mark_0_b71 F  S4 v5) = _
          rw [e_X12_with]; rfl
  have ex : n_X11_mark_0 F X a b c = (if a < 0 ∨ nI n ≤ a then some (0, X) else if b < 0 ∨ 1 < b then some (0, X) else if b = 0 then some (1, zp X 0 63 (wB (X.1 0 63) a c)) else some (1, zp X 0 64 (wB (X.1 0 64) a c))) := by
    show (if a < 0 then some (0, X) else if X.1 0 62 ≤ a then some (0, X) else if b < 0 then some (0, X) else if b ≤ 1 then (if b = 0 then zcl (n_X0_withBit F X (X.1 0 63) a c) (fun v8 S7 => zpf S7 63 v8 (fun S9 => n_X11_mark_0_b71 F  S9)) else zcl (n_X0_withBit F X (X.1 0 64) a c) (fun v4 S3 => zpf S3 64 v4 (fun S5 => n_X11_mark_0_b71 F  S5))) else some (0, X)) = _
    rw [x0, e_X0_withBit, e_X0_withBit, zcl_some, zcl_some]
    by_cases h1 : a < 0
    · rw [if_pos h1, if_pos (Or.inl h1)]
    · by_cases h2 : nI n ≤ a
      · rw [if_neg h1, if_pos h2, if_pos (Or.inr h2)]
      · rw [if_neg h1, if_neg h2, if_neg (show ¬ (a < 0 ∨ nI n ≤ a) from fun g => g.elim h1 h2)]
        by_cases h3 : b < 0
        · rw [if_pos h3, if_pos (Or.inl h3)]
        · by_cases h4 : b ≤ 1
          · rw [if_neg h3, if_pos h4, if_neg (show ¬ (b < 0 ∨ 1 < b) from fun g => g.elim h3 (fun g => Int32.not_lt.mpr h4 g))]; rfl
          · rw [if_neg h3, if_neg h4, if_pos (Or.inr (Int32.not_le.mp h4))]
  by_cases h : a < 0 ∨ nI n ≤ a
  · exact ⟨0, X, zp M 0 0 0, by rw [ex, if_pos h], by rw [em, if_pos h], hR.thrown 0⟩
  by_cases h2 : b < 0 ∨ 1 < b
  · exact ⟨0, X, zp M 0 0 0, by rw [ex, if_neg h, if_pos h2], by rw [em, if_neg h, if_pos h2], hR.thrown 0⟩
  obtain ⟨j, hj, rfl⟩ := in_nI (n := n) (x := a) (by omega) (fun g => h (Or.inl g)) (fun g => h (Or.inr g))
  rcases two_of (fun g => h2 (Or.inl g)) (fun g => h2 (Or.inr g)) with rfl | rfl
  · refine ⟨1, zp X 0 63 (wB (X.1 0 63) (nI j) c), zp (zp (zp M 0 0 0) 0 6 (wB (M.1 0 6) (nI j) c)) 0 7 (M.1 0 7), by rw [ex, if_neg h, if_neg h2, if_pos rfl], by rw [em, if_neg h, if_neg h2, if_pos rfl], r0, ⟨n, hn, x0, m0, hT, ?_, bnd_wB bd hj (by omega), xw, bw⟩, r2, r3, r4, r5, r6, r7, hK X _ (kSame_p (by decide)) r8⟩
    show wB (X.1 0 63) (nI j) c = wB (M.1 0 6) (nI j) c
    rw [xd]
  · refine ⟨1, zp X 0 64 (wB (X.1 0 64) (nI j) c), zp (zp (zp M 0 0 0) 0 6 (M.1 0 6)) 0 7 (wB (M.1 0 7) (nI j) c), by rw [ex, if_neg h, if_neg h2, if_neg (by decide)], by rw [em, if_neg h, if_neg h2, if_neg (by decide), if_pos rfl], r0, ⟨n, hn, x0, m0, hT, xd, bd, ?_, bnd_wB bw hj (by omega)⟩, r2, r3, r4, r5, r6, r7, hK X _ (kSame_p (by decide)) r8⟩
    show wB (X.1 0 64) (nI j) c = wB (M.1 0 7) (nI j) c
    rw [xw]
