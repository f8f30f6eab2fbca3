/-! towns: the reference's cover and row -/
theorem min_I2 {a b : Nat} (ha : a < 2 ^ 30) (hb' : b < 2 ^ 30) : (if nI a < nI b then nI a else nI b) = nI (min a b) := by
  by_cases h : a < b
  · rw [if_pos (nI_lt h (by omega)), show min a b = a by omega]
  · rw [if_neg (fun w => by rw [nI_lt_iff (by omega) (by omega)] at w; exact h w), show min a b = b by omega]
theorem sd_le (l m : Nat) : sd l m ≤ l := by
  have : sd l m &&& l = sd l m := sub_and.mpr fun i hi => by
    rw [sd_bit, Bool.and_eq_true] at hi
    exact hi.1
  rw [← this]
  exact Nat.and_le_right
theorem sd_less {l m : Nat} (h : ¬ m &&& l = 0) : sd l m < l := by
  refine Nat.lt_of_le_of_ne (sd_le l m) fun e => h (Nat.eq_of_testBit_eq fun i => ?_)
  have := sd_bit l m i
  rw [e] at this
  rw [Nat.testBit_and, Nat.zero_testBit]
  cases e1 : l.testBit i <;> cases e2 : m.testBit i <;> rw [e1, e2] at this <;> first | rfl | exact absurd this (by decide)
def Co (P : Nat → Prop) (N : List (Nat × Nat)) (M : Zs) (j : Nat) : Prop := ∀ b, b < j → ∃ k, k ≤ 12 ∧ M.1 12 b = nI k ∧ Fw (Cs P) (Dm N b) k
theorem lt_bits {b n : Nat} (h : b < 2 ^ n) : ∀ i, b.testBit i = true → i < n := fun i hi => by
  by_cases q : i < n
  · exact q
  · rw [Nat.testBit_lt_two_pow (Nat.lt_of_lt_of_le h (Nat.pow_le_pow_right (by omega) (by omega)))] at hi
    exact absurd hi (by decide)
theorem m_cover {F : Nat} (hF : 2 ^ 40 < F) {M : Zs} {P : Nat → Prop} {N : List (Nat × Nat)} (h12 : N.length ≤ 12) (hl : Lf P N M 4096) (hmet : ∀ p ∈ N, ∃ s, Cs P s ∧ Mt s p) : ∃ M2, (fr [12] [] M M2 ∧ Co P N M2 (2 ^ N.length)) ∧ n_X12_towns_0_b118 F (zp M 12 0 0) (nI (2 ^ N.length - 1)) 1 = n_X12_towns_0_b201 F (zp M2 0 1 0) (nI (2 ^ N.length - 1)) (nI (2 ^ N.length - 1)) (-1) := by
  have hp12 : 2 ^ N.length ≤ 2 ^ 12 := Nat.pow_le_pow_right (by omega) h12
  have hpos : 0 < 2 ^ N.length := Nat.two_pow_pos _
  exact zfix_for (f := fun (rc : (Zs × Int32 × Int32) → Option (Int32 × Zs)) (u : (Zs × Int32 × Int32)) => n_X12_towns_0_b118_l F  (fun S x1 x2 => rc (S, x1, x2)) u.1 u.2.1 u.2.2) (2 ^ N.length - 1) (fun i u => ∃ T, u = (T, nI (2 ^ N.length - 1), nI (1 + i)) ∧ fr [12] [] M T ∧ Co P N T (1 + i)) (fun M2 : Zs => fr [12] [] M M2 ∧ Co P N M2 (2 ^ N.length)) (fun M2 => n_X12_towns_0_b201 F (zp M2 0 1 0) (nI (2 ^ N.length - 1)) (nI (2 ^ N.length - 1)) (-1)) (by
    rintro i _ hi ⟨U, rfl, hf, hco⟩
    generalize hL : 1 + i = l at *
    have hl2 : l < 2 ^ N.length := by omega
    obtain ⟨kl, kl1, kl2⟩ := Fw_bit hmet l
    have kl0 : ∃ k', kl = k' + 1 := by
      refine ⟨kl - 1, ?_⟩
      by_cases q : kl = 0
      · rw [q] at kl2
        have := (bits0 (lt_bits hl2)).mpr (Cv_0.mp kl2.1)
        omega
      · omega
    obtain ⟨T2, ⟨q1, q2, q3⟩, q4⟩ := zfix_forP (π := (Zs × Int32 × Int32) → Option (Int32 × Zs)) (f := fun rc2 (rc : (Zs × Int32 × Int32 × Int32) → Option (Int32 × Zs)) (u : (Zs × Int32 × Int32 × Int32)) => n_X12_towns_0_b133_l F (fun S x1 x2 => rc2 (S, x1, x2)) (fun S x1 x2 x3 => rc (S, x1, x2, x3)) u.1 u.2.1 u.2.2.1 u.2.2.2) (2 ^ N.length - 1) (fun j u => ∃ T c, u = (T, nI (2 ^ N.length - 1), nI l, nI (1 + j)) ∧ fr [12] [] M T ∧ (∀ b, b ≠ l → T.1 12 b = U.1 12 b) ∧ T.1 12 l = nI c ∧ c ≤ 1000000 ∧ (c = 1000000 ∨ Cv (Cs P) (Dm N l) c) ∧ ∀ m s, 1 ≤ m → m < 1 + j → Cs P s → MB' N s m → ¬ m &&& l = 0 → ∀ k, Fw (Cs P) (Dm N (sd l m)) k → c ≤ 1 + k) (fun T2 : Zs => fr [12] [] M T2 ∧ (∀ b, b ≠ l → T2.1 12 b = U.1 12 b) ∧ T2.1 12 l = nI kl) (fun rc2 T2 => rc2 (T2, nI (2 ^ N.length - 1), nI (l + 1))) (by
      rintro j _ hj ⟨T, c, rfl, f1, f2, f3, f4, f5, f6⟩
      generalize hm : 1 + j = m at *
      have hm2 : m < 2 ^ N.length := by omega
      have t11 : T.1 11 = M.1 11 := f1.2.1 11 (by decide) (by decide)
      have skip : ∀ T', (¬ ∃ s, Cs P s ∧ MB' N s m) ∨ m &&& l = 0 → T' = T → ∃ T c, (T', nI (2 ^ N.length - 1), nI l, nI (1 + (j + 1))) = (T, nI (2 ^ N.length - 1), nI l, nI (1 + (j + 1))) ∧ fr [12] [] M T ∧ (∀ b, b ≠ l → T.1 12 b = U.1 12 b) ∧ T.1 12 l = nI c ∧ c ≤ 1000000 ∧ (c = 1000000 ∨ Cv (Cs P) (Dm N l) c) ∧ ∀ m s, 1 ≤ m → m < 1 + (j + 1) → Cs P s → MB' N s m → ¬ m &&& l = 0 → ∀ k, Fw (Cs P) (Dm N (sd l m)) k → c ≤ 1 + k := by
        rintro T' w rfl
        refine ⟨T', c, rfl, f1, f2, f3, f4, f5, fun m' s' g1 g2 g3 g4 g5 k hk => ?_⟩
        by_cases e : m' = m
        · rw [e] at g4 g5
          rcases w with w | w
          · exact absurd ⟨s', g3, g4⟩ w
          · exact absurd w g5
        · exact f6 m' s' g1 (by omega) g3 g4 g5 k hk
      have eb : ∀ (rc2 : (Zs × Int32 × Int32) → Option (Int32 × Zs)) (rc : (Zs × Int32 × Int32 × Int32) → Option (Int32 × Zs)), n_X12_towns_0_b133_l F (fun S x1 x2 => rc2 (S, x1, x2)) (fun S x1 x2 x3 => rc (S, x1, x2, x3)) T (nI (2 ^ N.length - 1)) (nI l) (nI m) = if T.1 11 m < 0 then rc (T, nI (2 ^ N.length - 1), nI l, nI (1 + (j + 1))) else if m &&& l = 0 then rc (T, nI (2 ^ N.length - 1), nI l, nI (1 + (j + 1))) else rc (zp T 12 l (if (1 + T.1 12 (sd l m)) < T.1 12 l then (1 + T.1 12 (sd l m)) else T.1 12 l), nI (2 ^ N.length - 1), nI l, nI (1 + (j + 1))) := by
        intro rc2 rc
        have ml : m &&& l < 2 ^ 12 := Nat.lt_of_le_of_lt Nat.and_le_left (by omega)
        have sl := sd_le l m
        unfold n_X12_towns_0_b133_l n_X12_towns_0_b180
        rw [if_neg (fun w => by rw [nI_lt_iff (by omega) (by omega)] at w; omega), zld_nI _ _ _ (show m < 4096 by omega) (by omega), and_I (by omega) (by omega), sd_I (by omega) (by omega), zld_nI _ _ _ (show l < 4096 by omega) (by omega), zld_nI _ _ _ (show sd l m < 4096 by omega) (by omega), zlS, zlS, zst_nI _ _ _ _ (show l < 4096 by omega) (by omega), zlS, nI_1, show m + 1 = 1 + (j + 1) by omega]
        by_cases w : T.1 11 m < 0
        · rw [if_pos w, if_pos w]
        · rw [if_neg w, if_neg w]
          by_cases w2 : m &&& l = 0
          · rw [if_pos w2, if_pos (by rw [w2]; rfl)]
          · rw [if_neg w2, if_neg (nI_ne0 (by omega) (by omega))]
      rcases hl m hm2 with ⟨a, b⟩ | ⟨s, a, b, cS, cM', -⟩
      · exact Or.inr ⟨_, skip T (Or.inl fun ⟨s, s1, s2⟩ => b s s1.1 s1 s2) rfl, fun rc2 rc => (eb rc2 rc).trans (if_pos (by rw [t11, a]; decide))⟩
      · have neg : ¬ T.1 11 m < 0 := by rw [t11, a]; exact nI_pos (by omega)
        by_cases w2 : m &&& l = 0
        · exact Or.inr ⟨_, skip T (Or.inr w2) rfl, fun rc2 rc => (eb rc2 rc).trans ((if_neg neg).trans (if_pos w2))⟩
        · have sl := sd_less w2
          obtain ⟨k, k1, k2, k3⟩ := hco (sd l m) sl
          have k2' : T.1 12 (sd l m) = nI k := (f2 _ (by omega)).trans k2
          refine Or.inr ⟨_, ⟨zp T 12 l (nI (min (1 + k) c)), min (1 + k) c, rfl, fr_t f1 (fr_r _ _ (by decide) (by decide)), fun b hb' => ?_, zp_at _ _ _ _, by omega, ?_, fun m' s' g1 g2 g3 g4 g5 k' hk' => ?_⟩, fun rc2 rc => (eb rc2 rc).trans ((if_neg neg).trans ((if_neg w2).trans ?_))⟩
          · rw [zp_off _ _ (Or.inr hb')]; exact f2 b hb'
          · rcases (show min (1 + k) c = 1 + k ∨ min (1 + k) c = c by omega) with z | z
            · rw [z]
              refine Or.inr ?_
              rw [Nat.add_comm]
              exact Cv_s cS ((Cv_c (fun p => Dm_wo cM' p)).mp k3.1)
            · rw [z]; exact f5
          · by_cases e : m' = m
            · rw [e] at hk'
              have := Fw_eq hk' k3
              omega
            · have := f6 m' s' g1 (by omega) g3 g4 g5 k' hk'
              omega
          · rw [k2', f3, show (1 : Int32) + nI k = nI (1 + k) from nI_add 1 k, min_I2 (by omega) (by omega)]) (by
      rintro _ ⟨T, c, rfl, f1, f2, f3, f4, f5, f6⟩
      refine ⟨T, ⟨f1, f2, ?_⟩, fun rc2 rc => ?_⟩
      · obtain ⟨k', hk'⟩ := kl0
        rw [hk'] at kl2
        obtain ⟨s, s1, s2⟩ := Fw_nx kl2
        obtain ⟨m, m1, m2⟩ := met_ex N h12 s
        have hml : ¬ m &&& l = 0 := fun w => by
          have : ∀ p, Wo (Dm N l) s p ↔ Dm N l p := fun p => ⟨fun z => z.1, fun z => ⟨z, fun y => by
            obtain ⟨j, j1, j2⟩ := z
            have : (m &&& l).testBit j = true := by rw [Nat.testBit_and, (m2 j).mpr ⟨p, j2, y⟩, j1]; rfl
            rw [w, Nat.zero_testBit] at this
            exact absurd this (by decide)⟩⟩
          have := Fw_eq ((Fw_c this).mp s2) kl2
          omega
        have m0 : 1 ≤ m := by
          by_cases z : m = 0
          · rw [z, Nat.zero_and] at hml; exact absurd rfl hml
          · omega
        have cb := f6 m s m0 (by omega) s1 m2 hml k' ((Fw_c (fun p => Dm_wo m2 p)).mpr s2)
        have cv' : Cv (Cs P) (Dm N l) c := f5.resolve_left (by omega)
        have := Fw_ge kl2 cv'
        rw [f3, hk', show c = k' + 1 by omega]
      · show n_X12_towns_0_b133_l F (fun S x1 x2 => rc2 (S, x1, x2)) (fun S x1 x2 x3 => rc (S, x1, x2, x3)) T (nI (2 ^ N.length - 1)) (nI l) (nI (1 + (2 ^ N.length - 1))) = _
        unfold n_X12_towns_0_b133_l
        rw [if_pos (nI_lt (by omega) (by omega)), zlS, nI_1]) F (zp U 12 l 1000000, nI (2 ^ N.length - 1), nI l, 1) ⟨zp U 12 l 1000000, 1000000, rfl, fr_t hf (fr_r _ _ (by decide) (by decide)), fun b hb' => zp_off _ _ (Or.inr hb'), zp_at _ _ _ _, Nat.le_refl _, Or.inl rfl, fun m s g1 g2 => absurd g2 (by omega)⟩ (by omega)
    refine Or.inr ⟨_, ⟨T2, rfl, q1, fun b hb' => ?_⟩, fun rc => ?_⟩
    · by_cases e : b = l
      · rw [e]; exact ⟨kl, by omega, q3, kl2⟩
      · rw [q2 b e]; exact hco b (by omega)
    · show n_X12_towns_0_b118_l F (fun S x1 x2 => rc (S, x1, x2)) U (nI (2 ^ N.length - 1)) (nI l) = _
      unfold n_X12_towns_0_b118_l
      rw [if_neg (fun w => by rw [nI_lt_iff (by omega) (by omega)] at w; omega), zst_nI _ _ _ _ (show l < 4096 by omega) (by omega)]
      refine (q4 rc).trans ?_
      rw [← hL, Nat.add_assoc]) (by
    rintro _ ⟨T, rfl, hf, hco⟩
    refine ⟨T, ⟨hf, fun b hb' => hco b (by omega)⟩, fun rc => ?_⟩
    show n_X12_towns_0_b118_l F (fun S x1 x2 => rc (S, x1, x2)) T (nI (2 ^ N.length - 1)) (nI (1 + (2 ^ N.length - 1))) = _
    unfold n_X12_towns_0_b118_l
    rw [if_pos (nI_lt (by omega) (by omega)), zpS]) F (zp M 12 0 0, nI (2 ^ N.length - 1), 1) ⟨zp M 12 0 0, rfl, fr_r _ _ (by decide) (by decide), fun b hb' => ⟨0, by omega, by rw [show b = 0 by omega, zp_at]; rfl, by rw [show b = 0 by omega]; exact Fw_0 ((bits0 (lt_bits hpos)).mp rfl)⟩⟩ (by omega)
