theorem fourOf {x : Int32} (h1 : ¬ x < 0) (h2 : ¬ 3 < x) : x = 0 ∨ x = 1 ∨ x = 2 ∨ x = 3 := by
  obtain ⟨j, hj, rfl⟩ := in_nI (n := 4) (x := x) (by decide) h1 (fun g => h2 ((nI_lt_le x (n := 3) (by decide)).mpr g))
  rcases (show j = 0 ∨ j = 1 ∨ j = 2 ∨ j = 3 by omega) with rfl | rfl | rfl | rfl <;> simp [nI]
theorem fiveOf {x : Int32} (h1 : ¬ x < 0) (h2 : ¬ 4 < x) : x = 0 ∨ x = 1 ∨ x = 2 ∨ x = 3 ∨ x = 4 := by
  obtain ⟨j, hj, rfl⟩ := in_nI (n := 5) (x := x) (by decide) h1 (fun g => h2 ((nI_lt_le x (n := 4) (by decide)).mpr g))
  rcases (show j = 0 ∨ j = 1 ∨ j = 2 ∨ j = 3 ∨ j = 4 by omega) with rfl | rfl | rfl | rfl | rfl <;> simp [nI]
theorem threeOf {x : Int32} (h1 : ¬ x < 0) (h2 : ¬ 2 < x) : x = 0 ∨ x = 1 ∨ x = 2 := by
  obtain ⟨j, hj, rfl⟩ := in_nI (n := 3) (x := x) (by decide) h1 (fun g => h2 ((nI_lt_le x (n := 2) (by decide)).mpr g))
  rcases (show j = 0 ∨ j = 1 ∨ j = 2 by omega) with rfl | rfl | rfl <;> simp [nI]
theorem e_flag_b {c : Prop} [Decidable c] (F : Nat) (S : Zs) : n_X12_flag F S (bI c) = some (bI c, S) := by
  rw [e_X12_flag]; exact congrArg (fun q => some (q, S)) (bI_cong (by rw [bI_eq0]; exact Decidable.not_not))
theorem bI_hb (b : Bool) : bI (b = true) = nI b.toNat := by cases b <;> rfl
theorem z3 (x : Int32) : (2 : Int32) < x ↔ 3 ≤ x := nI_lt_le x (n := 2) (by decide)
/-- saying(i, what) -/
theorem p_saying {K : Zs → Prop} (F : Nat) : S_saying F (Rel K) := by
  intro X M hR a b
  obtain ⟨r0, ⟨n, hn, x0, m0, hT, xd, bd, xw, bw⟩, r2, r3, r4, r5, r6, r7, r8⟩ := id hR
  have i1 := e_X12_isSaying (M := zp M 0 0 0) F hn m0 a
  have i3 : ∀ S, n_X12_in F S b.toInt64 0 3 = some (bI (¬ b < 0 ∧ ¬ 3 < b), S) := fun S => e_X12_in F S b 0 3
  have em : n_X12_saying_0 F M a b = (if (a < 0 ∨ nI n ≤ a) ∨ (b < 0 ∨ 3 < b) then some (0, zp (zp M 0 0 0) 0 0 1) else if b = 0 then zld (zp M 0 0 0) 2 16 a (fun v => some (v, zp M 0 0 0)) else if b = 1 then zld (zp M 0 0 0) 3 16 a (fun v => some (v, zp M 0 0 0)) else if b = 2 then n_X12_saying_0_b73 F (zp M 0 0 0) a (M.1 0 6) else n_X12_saying_0_b73 F (zp M 0 0 0) a (M.1 0 7)) := by
    unfold n_X12_saying_0 n_X12_saying_0_e
    simp only [zpf, i1, zcl_some, bI_eq0, i3]
    by_cases h1 : a < 0 ∨ nI n ≤ a
    · rw [if_pos (fun g => g h1), if_pos (Or.inl h1)]; rfl
    · rw [if_neg (fun g => g h1)]
      by_cases h2 : b < 0 ∨ 3 < b
      · rw [if_pos (fun g => h2.elim g.1 g.2), if_pos (Or.inr h2)]; rfl
      · rw [if_neg (fun g => g ⟨fun q => h2 (Or.inl q), fun q => h2 (Or.inr q)⟩), if_neg (show ¬ ((a < 0 ∨ nI n ≤ a) ∨ (b < 0 ∨ 3 < b)) from fun g => g.elim h1 h2)]; rfl
  have ex : n_X11_saying_0 F X a b = (if (a < 0 ∨ nI n ≤ a) ∨ (b < 0 ∨ 3 < b) then none else zcl (n_X2_tellOf_3 F X a b) (fun v3 S2 => some (v3, S2))) := by
    unfold n_X11_saying_0 n_X11_saying_0_e zgf
    dsimp only
    rw [x0]
    by_cases h1 : a < 0
    · rw [if_pos h1, if_pos (Or.inl (Or.inl h1))]
    · by_cases h2 : nI n ≤ a
      · rw [if_neg h1, if_pos h2, if_pos (Or.inl (Or.inr h2))]
      · by_cases h3 : b < 0
        · rw [if_neg h1, if_neg h2, if_pos h3, if_pos (Or.inr (Or.inl h3))]
        · by_cases h4 : b ≤ 3
          · rw [if_neg h1, if_neg h2, if_neg h3, if_pos h4, if_neg (show ¬ ((a < 0 ∨ nI n ≤ a) ∨ (b < 0 ∨ 3 < b)) from fun g => g.elim (fun g => g.elim h1 h2) (fun g => g.elim h3 (fun g => Int32.not_lt.mpr h4 g)))]
          · rw [if_neg h1, if_neg h2, if_neg h3, if_neg h4, if_pos (Or.inr (Or.inr (Int32.not_le.mp h4)))]
  have hbad : bad_saying X a b ↔ ((a < 0 ∨ nI n ≤ a) ∨ (b < 0 ∨ 3 < b)) := by
    unfold bad_saying
    rw [x0]
    constructor
    · rintro (g | g | g)
      · exact Or.inl (Or.inl g)
      · exact Or.inl (Or.inr g)
      · exact Or.inr g
    · rintro ((g | g) | g)
      · exact Or.inl g
      · exact Or.inr (Or.inl g)
      · exact Or.inr (Or.inr g)
  by_cases h : (a < 0 ∨ nI n ≤ a) ∨ (b < 0 ∨ 3 < b)
  · exact ⟨0, zp (zp M 0 0 0) 0 0 1, by rw [em, if_pos h], Or.inr ⟨by rw [ex, if_pos h], hbad.mpr h, rfl, hR⟩⟩
  · rw [em, ex, if_neg h, if_neg h]
    obtain ⟨j, hj, rfl⟩ := in_nI (n := n) (x := a) (by omega) (fun g => h (Or.inl (Or.inl g))) (fun g => h (Or.inl (Or.inr g)))
    have hnb := fun g => h (hbad.mp g)
    obtain ⟨t1, t2, -, -⟩ := hT j hj
    rcases fourOf (fun g => h (Or.inr (Or.inl g))) (fun g => h (Or.inr (Or.inr g))) with rfl | rfl | rfl | rfl
    · refine ⟨M.1 2 j, zp M 0 0 0, ?_, Or.inl ⟨X, ?_, hnb, rfl, hR.thrown 0⟩⟩
      · rw [if_pos rfl, zld_nI _ _ _ (by omega) (by omega)]; rfl
      · show zcl (zld X 4 16 (nI j) (fun v1 => some (v1, X))) (fun v3 S2 => some (v3, S2)) = _
        rw [zld_nI _ _ _ (by omega) (by omega), t1]; rfl
    · refine ⟨M.1 3 j, zp M 0 0 0, ?_, Or.inl ⟨X, ?_, hnb, rfl, hR.thrown 0⟩⟩
      · rw [if_neg (by decide), if_pos rfl, zld_nI _ _ _ (by omega) (by omega)]; rfl
      · show zcl (zld X 5 16 (nI j) (fun v1 => some (v1, X))) (fun v3 S2 => some (v3, S2)) = _
        rw [zld_nI _ _ _ (by omega) (by omega), t2]; rfl
    · refine ⟨bI (hb (M.1 0 6) j = true), zp M 0 0 0, ?_, Or.inl ⟨X, ?_, hnb, rfl, hR.thrown 0⟩⟩
      · rw [if_neg (by decide), if_neg (by decide), if_pos rfl]
        unfold n_X12_saying_0_b73
        rw [e_has F _ _ (by omega), zcl_some, e_flag_b]; rfl
      · show some ((X.1 0 63 >>> (nI j &&& 31)) &&& 1, X) = _
        rw [xd, sh_and1 _ (by omega), bI_hb]
    · refine ⟨bI (hb (M.1 0 7) j = true), zp M 0 0 0, ?_, Or.inl ⟨X, ?_, hnb, rfl, hR.thrown 0⟩⟩
      · rw [if_neg (by decide), if_neg (by decide), if_neg (by decide)]
        unfold n_X12_saying_0_b73
        rw [e_has F _ _ (by omega), zcl_some, e_flag_b]; rfl
      · show some ((X.1 0 64 >>> (nI j &&& 31)) &&& 1, X) = _
        rw [xw, sh_and1 _ (by omega), bI_hb]
/-- pleaded(step, what) -/
theorem p_pleaded {K : Zs → Prop} (F : Nat) : S_pleaded F (Rel K) := by
  intro X M hR a b
  obtain ⟨r0, r1, r2, r3, r4, r5, ⟨n, p, hp, en, hn, x0, m0, hT⟩, r7, r8⟩ := id hR
  have i1 : ∀ S : Zs, S.1 0 35 = nI p → n_X12_in F S a.toInt64 0 (nI p - 1).toInt64 = some (bI (¬ a < 0 ∧ ¬ nI p - 1 < a), S) := fun S _ => e_X12_in F S a 0 (nI p - 1)
  have i3 : ∀ S, n_X12_in F S b.toInt64 0 4 = some (bI (¬ b < 0 ∧ ¬ 4 < b), S) := fun S => e_X12_in F S b 0 4
  have em : n_X12_pleaded_0 F M a b = (if (a < 0 ∨ nI p ≤ a) ∨ (b < 0 ∨ 4 < b) then some (0, zp (zp M 0 0 0) 0 0 1) else if b = 0 then zld (zp M 0 0 0) 16 40 a (fun v => some (v, zp M 0 0 0)) else if b = 1 then zld (zp M 0 0 0) 17 40 a (fun v => some (v, zp M 0 0 0)) else if b = 2 then zld (zp M 0 0 0) 18 40 a (fun v => some (v, zp M 0 0 0)) else if b = 3 then zld (zp M 0 0 0) 19 40 a (fun v => some (v, zp M 0 0 0)) else zld (zp M 0 0 0) 20 40 a (fun v => some (v, zp M 0 0 0))) := by
    unfold n_X12_pleaded_0 n_X12_pleaded_0_e
    simp only [zpf, zgf]
    rw [show (zp M 0 0 0).1 0 35 = nI p from m0, i1 (zp M 0 0 0) m0]
    simp only [zcl_some, bI_eq0, i3]
    by_cases h1 : a < 0 ∨ nI p ≤ a
    · rw [if_pos (fun g => h1.elim g.1 (fun q => g.2 ((nI_m1_lt a (by omega)).mpr q))), if_pos (Or.inl h1)]; rfl
    · rw [if_neg (fun g => g ⟨fun q => h1 (Or.inl q), fun q => h1 (Or.inr ((nI_m1_lt a (by omega)).mp q))⟩)]
      by_cases h2 : b < 0 ∨ 4 < b
      · rw [if_pos (fun g => h2.elim g.1 g.2), if_pos (Or.inr h2)]; rfl
      · rw [if_neg (fun g => g ⟨fun q => h2 (Or.inl q), fun q => h2 (Or.inr q)⟩), if_neg (show ¬ ((a < 0 ∨ nI p ≤ a) ∨ (b < 0 ∨ 4 < b)) from fun g => g.elim h1 h2)]; rfl
  have ex : n_X11_pleaded_0 F X a b = (if (a < 0 ∨ nI p ≤ a) ∨ (b < 0 ∨ 4 < b) then none else zcl (n_X3_tellOf_41 F X a b) (fun v3 S2 => some (v3, S2))) := by
    unfold n_X11_pleaded_0 n_X11_pleaded_0_e zgf
    dsimp only
    rw [x0]
    by_cases h1 : a < 0
    · rw [if_pos h1, if_pos (Or.inl (Or.inl h1))]
    · by_cases h2 : nI p ≤ a
      · rw [if_neg h1, if_pos h2, if_pos (Or.inl (Or.inr h2))]
      · by_cases h3 : b < 0
        · rw [if_neg h1, if_neg h2, if_pos h3, if_pos (Or.inr (Or.inl h3))]
        · by_cases h4 : b ≤ 4
          · rw [if_neg h1, if_neg h2, if_neg h3, if_pos h4, if_neg (show ¬ ((a < 0 ∨ nI p ≤ a) ∨ (b < 0 ∨ 4 < b)) from fun g => g.elim (fun g => g.elim h1 h2) (fun g => g.elim h3 (fun g => Int32.not_lt.mpr h4 g)))]
          · rw [if_neg h1, if_neg h2, if_neg h3, if_neg h4, if_pos (Or.inr (Or.inr (Int32.not_le.mp h4)))]
  have hbad : bad_pleaded X a b ↔ ((a < 0 ∨ nI p ≤ a) ∨ (b < 0 ∨ 4 < b)) := by
    unfold bad_pleaded
    rw [x0]
    constructor
    · rintro (g | g | g)
      · exact Or.inl (Or.inl g)
      · exact Or.inl (Or.inr g)
      · exact Or.inr g
    · rintro ((g | g) | g)
      · exact Or.inl g
      · exact Or.inr (Or.inl g)
      · exact Or.inr (Or.inr g)
  by_cases h : (a < 0 ∨ nI p ≤ a) ∨ (b < 0 ∨ 4 < b)
  · exact ⟨0, zp (zp M 0 0 0) 0 0 1, by rw [em, if_pos h], Or.inr ⟨by rw [ex, if_pos h], hbad.mpr h, rfl, hR⟩⟩
  · rw [em, ex, if_neg h, if_neg h]
    obtain ⟨j, hj, rfl⟩ := in_nI (n := p) (x := a) (by omega) (fun g => h (Or.inl (Or.inl g))) (fun g => h (Or.inl (Or.inr g)))
    have hnb := fun g => h (hbad.mp g)
    obtain ⟨⟨t1, t2, t3, t4, t5⟩, -⟩ := hT j hj
    rcases fiveOf (fun g => h (Or.inr (Or.inl g))) (fun g => h (Or.inr (Or.inr g))) with rfl | rfl | rfl | rfl | rfl
    · refine ⟨M.1 16 j, zp M 0 0 0, ?_, Or.inl ⟨X, ?_, hnb, rfl, hR.thrown 0⟩⟩
      · rw [if_pos rfl, zld_nI _ _ _ (by omega) (by omega)]; rfl
      · show zcl (zld X 42 40 (nI j) (fun v1 => some (v1, X))) (fun v3 S2 => some (v3, S2)) = _
        rw [zld_nI _ _ _ (by omega) (by omega), t1]; rfl
    · refine ⟨M.1 17 j, zp M 0 0 0, ?_, Or.inl ⟨X, ?_, hnb, rfl, hR.thrown 0⟩⟩
      · rw [if_neg (by decide), if_pos rfl, zld_nI _ _ _ (by omega) (by omega)]; rfl
      · show zcl (zld X 43 40 (nI j) (fun v1 => some (v1, X))) (fun v3 S2 => some (v3, S2)) = _
        rw [zld_nI _ _ _ (by omega) (by omega), t2]; rfl
    · refine ⟨M.1 18 j, zp M 0 0 0, ?_, Or.inl ⟨X, ?_, hnb, rfl, hR.thrown 0⟩⟩
      · rw [if_neg (by decide), if_neg (by decide), if_pos rfl, zld_nI _ _ _ (by omega) (by omega)]; rfl
      · show zcl (zld X 44 40 (nI j) (fun v1 => some (v1, X))) (fun v3 S2 => some (v3, S2)) = _
        rw [zld_nI _ _ _ (by omega) (by omega), t3]; rfl
    · refine ⟨M.1 19 j, zp M 0 0 0, ?_, Or.inl ⟨X, ?_, hnb, rfl, hR.thrown 0⟩⟩
      · rw [if_neg (by decide), if_neg (by decide), if_neg (by decide), if_pos rfl, zld_nI _ _ _ (by omega) (by omega)]; rfl
      · show zcl (zld X 45 40 (nI j) (fun v1 => some (v1, X))) (fun v3 S2 => some (v3, S2)) = _
        rw [zld_nI _ _ _ (by omega) (by omega), t4]; rfl
    · refine ⟨M.1 20 j, zp M 0 0 0, ?_, Or.inl ⟨X, ?_, hnb, rfl, hR.thrown 0⟩⟩
      · rw [if_neg (by decide), if_neg (by decide), if_neg (by decide), if_neg (by decide), zld_nI _ _ _ (by omega) (by omega)]; rfl
      · show zcl (zld X 46 40 (nI j) (fun v1 => some (v1, X))) (fun v3 S2 => some (v3, S2)) = _
        rw [zld_nI _ _ _ (by omega) (by omega), t5]; rfl
