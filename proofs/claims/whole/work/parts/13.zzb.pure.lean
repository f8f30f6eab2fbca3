/-! towns: the reference's row -/
def Row1 (S : Zs) (T : List Nat) : Prop := S.1 0 1 = nI T.length ∧ ∀ j r, T[j]? = some r → S.1 1 j = nI r
theorem Row1_s {S : Zs} {T : List Nat} {s : Nat} (h : Row1 S T) : Row1 (zp (zp S 1 T.length (nI s)) 0 1 (nI (T.length + 1))) (T ++ [s]) := by
  refine ⟨by rw [zp_at, List.length_append]; rfl, fun j r hj => ?_⟩
  rw [zp_off _ _ (Or.inl (by decide))]
  by_cases e : j < T.length
  · rw [List.getElem?_append_left e] at hj
    rw [zp_off _ _ (Or.inr (show j ≠ T.length by omega))]
    exact h.2 j r hj
  · rw [List.getElem?_append_right (by omega)] at hj
    have e2 : j - T.length = 0 := by
      refine Classical.byContradiction fun w => ?_
      rw [List.getElem?_eq_none (by show 1 ≤ j - T.length; omega)] at hj
      exact absurd hj (by simp)
    rw [e2] at hj
    rw [show j = T.length by omega, zp_at, ← Option.some.inj (show some s = some r from hj)]
theorem m_townRow {F : Nat} (hF : 2 ^ 40 < F) {M : Zs} {P : Nat → Prop} {N : List (Nat × Nat)} (h12 : N.length ≤ 12) (hl : Lf P N M 4096) (hc : Co P N M (2 ^ N.length)) (h1 : M.1 0 1 = 0) {sz : Nat} (hsz : sz ≤ 12) (hfw0 : Fw (Cs P) (Dm N (2 ^ N.length - 1)) sz) : ∃ q : List Nat × Zs, (Gr (Cs P) sz (Dm N (2 ^ N.length - 1)) q.1 ∧ fr [1] [1] M q.2 ∧ Row1 q.2 q.1) ∧ n_X12_towns_0_b201 F M (nI (2 ^ N.length - 1)) (nI (2 ^ N.length - 1)) (-1) = some (nI sz, q.2) := by
  have hp12 : 2 ^ N.length ≤ 2 ^ 12 := Nat.pow_le_pow_right (by omega) h12
  have hpos : 0 < 2 ^ N.length := Nat.two_pow_pos _
  exact zfix_for (f := fun (rc : (Zs × Int32 × Int32 × Int32) → Option (Int32 × Zs)) (u : (Zs × Int32 × Int32 × Int32)) => n_X12_towns_0_b201_l F  (fun S x1 x2 x3 => rc (S, x1, x2, x3)) u.1 u.2.1 u.2.2.1 u.2.2.2) sz (fun i u => ∃ M' b T ah, u = (M', nI (2 ^ N.length - 1), nI b, ah) ∧ T.length = i ∧ b < 2 ^ N.length ∧ Fw (Cs P) (Dm N b) (sz - i) ∧ fr [1] [1] M M' ∧ Row1 M' T ∧ (∀ k, sz - i = k + 1 → ∀ t, Cs P t → Fw (Cs P) (Wo (Dm N b) t) k → ah < nI t) ∧ (-1 : Int32) ≤ ah ∧ ∀ R', Gr (Cs P) (sz - i) (Dm N b) R' → Gr (Cs P) sz (Dm N (2 ^ N.length - 1)) (T ++ R')) (fun q : List Nat × Zs => Gr (Cs P) sz (Dm N (2 ^ N.length - 1)) q.1 ∧ fr [1] [1] M q.2 ∧ Row1 q.2 q.1) (fun q => some (nI sz, q.2)) (by
    rintro i _ hi ⟨M', b, T, ah, rfl, hT, hb', hfw, hf, hrow, hinv, hah, hgr⟩
    obtain ⟨k, hk⟩ : ∃ k, sz - i = k + 1 := ⟨sz - i - 1, by omega⟩
    rw [hk] at hfw
    have hinv := hinv k hk
    have r11 : M'.1 11 = M.1 11 := hf.2.1 11 (by decide) (by decide)
    have r12 : M'.1 12 = M.1 12 := hf.2.1 12 (by decide) (by decide)
    have hb0 : ¬ b = 0 := fun e => by
      have := Fw_eq hfw (Fw_0 ((bits0 (lt_bits hb')).mp e))
      omega
    have eb : M'.1 12 b = nI (k + 1) := by
      obtain ⟨k', -, k2, k3⟩ := hc b hb'
      rw [r12, k2, Fw_eq k3 hfw]
    -- which masks do
    generalize hS : (fun m s => m < 2 ^ N.length ∧ M.1 11 m = nI s ∧ Cs P s ∧ MB' N s m ∧ Fw (Cs P) (Wo (Dm N b) s) k) = Sa
    have hSa : ∀ m s, Sa m s ↔ m < 2 ^ N.length ∧ M.1 11 m = nI s ∧ Cs P s ∧ MB' N s m ∧ Fw (Cs P) (Wo (Dm N b) s) k := fun m s => by rw [← hS]
    have Sau : ∀ m s s', Sa m s → Sa m s' → s = s' := fun m s s' x y => by
      have x := (hSa m s).mp x
      have y := (hSa m s').mp y
      have := x.2.2.1.1
      have := y.2.2.1.1
      exact nI_inj (by omega) (by omega) (x.2.1.symm.trans y.2.1)
    obtain ⟨⟨m, s⟩, ⟨sa1, sa2⟩, q4⟩ := zfix_forP (π := (Zs × Int32 × Int32 × Int32) → Option (Int32 × Zs)) (f := fun rc2 (rc : (Zs × Int32 × Int32 × Int32 × Int32 × Int32) → Option (Int32 × Zs)) (u : (Zs × Int32 × Int32 × Int32 × Int32 × Int32)) => n_X12_towns_0_b211_l F (fun S x1 x2 x3 => rc2 (S, x1, x2, x3)) (fun S x1 x2 x3 x4 x5 => rc (S, x1, x2, x3, x4, x5)) u.1 u.2.1 u.2.2.1 u.2.2.2.1 u.2.2.2.2.1 u.2.2.2.2.2) (2 ^ N.length - 1) (fun j u => ∃ be, u = (M', nI (2 ^ N.length - 1), nI b, ah, be, nI (1 + j)) ∧ ((be = -1 ∧ ∀ m s, 1 ≤ m → m < 1 + j → ¬ Sa m s) ∨ ∃ m s, be = nI m ∧ Sa m s ∧ ∀ m' s', 1 ≤ m' → m' < 1 + j → Sa m' s' → s ≤ s')) (fun q : Nat × Nat => Sa q.1 q.2 ∧ ∀ m' s', 1 ≤ m' → Sa m' s' → q.2 ≤ s') (fun rc2 q => rc2 (zp (zp M' 1 T.length (nI q.2)) 0 1 (nI (T.length + 1)), nI (2 ^ N.length - 1), nI (sd b q.1), nI q.2)) (by
      rintro j _ hj ⟨be, rfl, hbe⟩
      generalize hm : 1 + j = m at *
      have hm2 : m < 2 ^ N.length := by omega
      have hsb := sd_le b m
      obtain ⟨k1, k11, k12, k13⟩ := hc (sd b m) (by omega)
      have e289 : ∀ (rc2 : (Zs × Int32 × Int32 × Int32) → Option (Int32 × Zs)) (rc : (Zs × Int32 × Int32 × Int32 × Int32 × Int32) → Option (Int32 × Zs)) (t : Int32), n_X12_towns_0_b291 F (fun S x1 x2 x3 => rc2 (S, x1, x2, x3)) (fun S x1 x2 x3 x4 x5 => rc (S, x1, x2, x3, x4, x5)) M' (nI (2 ^ N.length - 1)) (nI b) ah (nI m) t = rc (M', nI (2 ^ N.length - 1), nI b, ah, t, nI (1 + (j + 1))) := by
        intro rc2 rc t
        unfold n_X12_towns_0_b291
        rw [zlS, nI_1, show m + 1 = 1 + (j + 1) by omega]
      have eb1 : ∀ (rc2 : (Zs × Int32 × Int32 × Int32) → Option (Int32 × Zs)) (rc : (Zs × Int32 × Int32 × Int32 × Int32 × Int32) → Option (Int32 × Zs)), n_X12_towns_0_b211_l F (fun S x1 x2 x3 => rc2 (S, x1, x2, x3)) (fun S x1 x2 x3 x4 x5 => rc (S, x1, x2, x3, x4, x5)) M' (nI (2 ^ N.length - 1)) (nI b) ah be (nI m) = if M.1 11 m ≤ ah then rc (M', nI (2 ^ N.length - 1), nI b, ah, be, nI (1 + (j + 1))) else if k1 = k then (if be < 0 then rc (M', nI (2 ^ N.length - 1), nI b, ah, nI m, nI (1 + (j + 1))) else zld M' 11 4096 be (fun v2 => if v2 ≤ M.1 11 m then rc (M', nI (2 ^ N.length - 1), nI b, ah, be, nI (1 + (j + 1))) else rc (M', nI (2 ^ N.length - 1), nI b, ah, nI m, nI (1 + (j + 1))))) else rc (M', nI (2 ^ N.length - 1), nI b, ah, be, nI (1 + (j + 1))) := by
        intro rc2 rc
        unfold n_X12_towns_0_b211_l n_X12_towns_0_b254 n_X12_towns_0_b255 n_X12_towns_0_b289 n_X12_towns_0_b284
        rw [if_neg (fun w => by rw [nI_lt_iff (by omega) (by omega)] at w; omega), zld_nI _ _ _ (show m < 4096 by omega) (by omega), sd_I (by omega) (by omega), zld_nI _ _ _ (show sd b m < 4096 by omega) (by omega), zld_nI _ _ _ (show b < 4096 by omega) (by omega), zld_nI _ _ _ (show m < 4096 by omega) (by omega), eb, r11, r12, k12, show nI (k + 1) - 1 = nI k from pk_sub (b := 1) (by omega), if_pos (show (0 : Int32) = 0 from rfl), if_neg (show ¬ (1 : Int32) = 0 by decide), e289, e289, ifI (by omega) (by omega)]
      have keepOn : (∀ s, ¬ Sa m s) → ((be = -1 ∧ ∀ m s, 1 ≤ m → m < 1 + (j + 1) → ¬ Sa m s) ∨ ∃ m s, be = nI m ∧ Sa m s ∧ ∀ m' s', 1 ≤ m' → m' < 1 + (j + 1) → Sa m' s' → s ≤ s') := by
        intro w
        refine hbe.imp (fun ⟨x, y⟩ => ⟨x, fun m' s' g1 g2 g3 => ?_⟩) (fun ⟨m0, s0, x, y, z⟩ => ⟨m0, s0, x, y, fun m' s' g1 g2 g3 => ?_⟩)
        · by_cases e : m' = m
          · rw [e] at g3; exact w s' g3
          · exact y m' s' g1 (by omega) g3
        · by_cases e : m' = m
          · rw [e] at g3; exact absurd g3 (w s')
          · exact z m' s' g1 (by omega) g3
      rcases hl m hm2 with ⟨a, a2⟩ | ⟨s, a, a1, a2, a3, -⟩
      · refine Or.inr ⟨_, ⟨be, rfl, keepOn fun s w => ?_⟩, fun rc2 rc => (eb1 rc2 rc).trans (if_pos (by rw [a]; exact hah))⟩
        have w := (hSa m s).mp w
        exact a2 s w.2.2.1.1 w.2.2.1 w.2.2.2.1
      · have k13' : Fw (Cs P) (Wo (Dm N b) s) k1 := (Fw_c (fun p => Dm_wo a3 p)).mp k13
        by_cases g : k1 = k
        · subst g
          have hsa : Sa m s := (hSa m s).mpr ⟨hm2, a, a2, a3, k13'⟩
          have hlt := hinv s a2 k13'
          have nle : ¬ M.1 11 m ≤ ah := by rw [a]; exact Int32.not_le.mpr hlt
          rcases hbe with ⟨rfl, y⟩ | ⟨m0, s0, rfl, y, z⟩
          · refine Or.inr ⟨_, ⟨nI m, rfl, Or.inr ⟨m, s, rfl, hsa, fun m' s' g1 g2 g3 => ?_⟩⟩, fun rc2 rc => (eb1 rc2 rc).trans ((if_neg nle).trans ((if_pos rfl).trans (if_pos (by decide))))⟩
            by_cases e : m' = m
            · rw [e] at g3; exact Nat.le_of_eq (Sau m s s' hsa g3)
            · exact absurd g3 (y m' s' g1 (by omega))
          · have y' := (hSa m0 s0).mp y
            have s0l := y'.2.2.1.1
            have eb2 : ∀ (rc2 : (Zs × Int32 × Int32 × Int32) → Option (Int32 × Zs)) (rc : (Zs × Int32 × Int32 × Int32 × Int32 × Int32) → Option (Int32 × Zs)), n_X12_towns_0_b211_l F (fun S x1 x2 x3 => rc2 (S, x1, x2, x3)) (fun S x1 x2 x3 x4 x5 => rc (S, x1, x2, x3, x4, x5)) M' (nI (2 ^ N.length - 1)) (nI b) ah (nI m0) (nI m) = if s0 ≤ s then rc (M', nI (2 ^ N.length - 1), nI b, ah, nI m0, nI (1 + (j + 1))) else rc (M', nI (2 ^ N.length - 1), nI b, ah, nI m, nI (1 + (j + 1))) := by
              intro rc2 rc
              rw [eb1 rc2 rc, if_neg nle, if_pos rfl, if_neg (nI_pos (by omega)), zld_nI _ _ _ (show m0 < 4096 by omega) (by omega), r11, y'.2.1, a]
              by_cases w : s0 ≤ s
              · rw [if_pos w, if_pos (nI_le w (by omega))]
              · rw [if_neg w, if_neg (nI_ge (by omega) (by omega))]
            by_cases w : s0 ≤ s
            · refine Or.inr ⟨_, ⟨nI m0, rfl, Or.inr ⟨m0, s0, rfl, y, fun m' s' g1 g2 g3 => ?_⟩⟩, fun rc2 rc => (eb2 rc2 rc).trans (if_pos w)⟩
              by_cases e : m' = m
              · rw [e] at g3; rw [← Sau m s s' hsa g3]; exact w
              · exact z m' s' g1 (by omega) g3
            · refine Or.inr ⟨_, ⟨nI m, rfl, Or.inr ⟨m, s, rfl, hsa, fun m' s' g1 g2 g3 => ?_⟩⟩, fun rc2 rc => (eb2 rc2 rc).trans (if_neg w)⟩
              by_cases e : m' = m
              · rw [e] at g3; exact Nat.le_of_eq (Sau m s s' hsa g3)
              · have := z m' s' g1 (by omega) g3
                omega
        · have nsa : ∀ s', ¬ Sa m s' := fun s' w => by
            have w := (hSa m s').mp w
            have e : s' = s := nI_inj (by have := w.2.2.1.1; omega) (by omega) (w.2.1.symm.trans a)
            rw [e] at w
            exact g (Fw_eq k13' w.2.2.2.2)
          by_cases w : M.1 11 m ≤ ah
          · exact Or.inr ⟨_, ⟨be, rfl, keepOn nsa⟩, fun rc2 rc => (eb1 rc2 rc).trans (if_pos w)⟩
          · exact Or.inr ⟨_, ⟨be, rfl, keepOn nsa⟩, fun rc2 rc => (eb1 rc2 rc).trans ((if_neg w).trans (if_neg g))⟩) (by
      rintro _ ⟨be, rfl, hbe⟩
      -- some mask does
      have ex : ∃ m s, 1 ≤ m ∧ m < 1 + (2 ^ N.length - 1) ∧ Sa m s := by
        obtain ⟨t, t1, t2⟩ := Fw_nx hfw
        obtain ⟨m, m1, m2⟩ := met_ex N h12 t
        have m0 : 1 ≤ m := by
          by_cases z : m = 0
          · have : ∀ p, Wo (Dm N b) t p ↔ Dm N b p := fun p => ⟨fun z => z.1, fun y => ⟨y, fun x => by
              obtain ⟨j, j1, j2⟩ := y
              have := (m2 j).mpr ⟨p, j2, x⟩
              rw [z, Nat.zero_testBit] at this
              exact absurd this (by decide)⟩⟩
            have := Fw_eq ((Fw_c this).mp t2) hfw
            omega
          · omega
        rcases hl m m1 with ⟨a, a2⟩ | ⟨s, a, a1, a2, a3, -⟩
        · exact absurd m2 (a2 t t1.1 t1)
        · refine ⟨m, s, m0, by omega, (hSa m s).mpr ⟨m1, a, a2, a3, (Fw_c (fun p => (Dm_wo m2 p).symm.trans (Dm_wo a3 p))).mp t2⟩⟩
      rcases hbe with ⟨-, y⟩ | ⟨m, s, rfl, y, z⟩
      · obtain ⟨m, s, x1, x2, x3⟩ := ex
        exact absurd x3 (y m s x1 x2)
      · have y' := (hSa m s).mp y
        refine ⟨(m, s), ⟨y, fun m' s' g1 g2 => z m' s' g1 (by have := ((hSa m' s').mp g2).1; omega) g2⟩, fun rc2 rc => ?_⟩
        show n_X12_towns_0_b211_l F (fun S x1 x2 x3 => rc2 (S, x1, x2, x3)) (fun S x1 x2 x3 x4 x5 => rc (S, x1, x2, x3, x4, x5)) M' (nI (2 ^ N.length - 1)) (nI b) ah (nI m) (nI (1 + (2 ^ N.length - 1))) = _
        unfold n_X12_towns_0_b211_l
        rw [if_pos (nI_lt (by omega) (by omega)), zld_nI _ _ _ (show m < 4096 by omega) (by omega), r11, y'.2.1, m_enters F hrow.1 (by omega), zcS, zld_nI _ _ _ (show m < 4096 by omega) (by omega), zp_off _ _ (Or.inl (by decide)), zp_off _ _ (Or.inl (by decide)), r11, y'.2.1, sd_I (by omega) (by omega), zlS]) F (M', nI (2 ^ N.length - 1), nI b, ah, -1, 1) ⟨-1, rfl, Or.inl ⟨rfl, fun m s g1 g2 => absurd g2 (by omega)⟩⟩ (by omega)
    have sa := (hSa m s).mp sa1
    have hDw : ∀ p, Dm N (sd b m) p ↔ Wo (Dm N b) s p := fun p => Dm_wo sa.2.2.2.1 p
    have hnx : Nx (Cs P) (Dm N b) k s := by
      refine ⟨sa.2.2.1, sa.2.2.2.2, fun t ht hC w => ?_⟩
      obtain ⟨mt, mt1, mt2⟩ := met_ex N h12 t
      have m0 : 1 ≤ mt := by
        by_cases z : mt = 0
        · have : ∀ p, Wo (Dm N b) t p ↔ Dm N b p := fun p => ⟨fun z => z.1, fun y => ⟨y, fun x => by
            obtain ⟨j, j1, j2⟩ := y
            have := (mt2 j).mpr ⟨p, j2, x⟩
            rw [z, Nat.zero_testBit] at this
            exact absurd this (by decide)⟩⟩
          have := Fw_eq ((Fw_c this).mp w) hfw
          omega
        · omega
      rcases hl mt mt1 with ⟨a, a2⟩ | ⟨s', a, a1, a2, a3, a4⟩
      · exact a2 t hC.1 hC mt2
      · have := sa2 mt s' m0 ((hSa mt s').mpr ⟨mt1, a, a2, a3, (Fw_c (fun p => (Dm_wo mt2 p).symm.trans (Dm_wo a3 p))).mp w⟩)
        have hs't : s' ≤ t := by
          by_cases z : t < s'
          · exact absurd mt2 (a4 t z hC)
          · omega
        have : s ≤ s' := this
        omega
    have hs4 := sa.2.2.1.1
    refine Or.inr ⟨_, ⟨_, sd b m, T ++ [s], nI s, rfl, by rw [List.length_append, hT]; rfl, Nat.lt_of_le_of_lt (sd_le b m) hb', ?_, fr_t hf (fr_t (fr_r _ _ (by decide) (by decide)) (fr_p _ (by decide))), Row1_s hrow, fun k2 hk2 t hC w => ?_, ?_, fun R' hR' => ?_⟩, fun rc => ?_⟩
    · rw [show sz - (i + 1) = k by omega]
      exact (Fw_c hDw).mpr sa.2.2.2.2
    · have e : k = k2 + 1 := by omega
      rw [e] at hnx hfw
      have ht := hC.1
      refine nI_lt ?_ (by omega)
      refine Classical.byContradiction fun z => ?_
      exact Nx_inv hfw hnx (show t ≤ s by omega) hC ((Fw_c (Wo_c hDw t)).mp w)
    · exact Int32.le_trans (by decide) (Int32.not_lt.mp (nI_pos (show s < 2 ^ 31 by omega)))
    · rw [show sz - (i + 1) = k by omega] at hR'
      rw [List.append_assoc]
      refine hgr (s :: R') ?_
      rw [hk]
      exact ⟨hnx, Gr_c _ _ _ _ hDw hR'⟩
    · show n_X12_towns_0_b201_l F (fun S x1 x2 x3 => rc (S, x1, x2, x3)) M' (nI (2 ^ N.length - 1)) (nI b) ah = _
      unfold n_X12_towns_0_b201_l
      rw [if_neg (nI_ne0 (by omega) (by omega))]
      exact q4 rc) (by
    rintro _ ⟨M', b, T, ah, rfl, hT, hb', hfw, hf, hrow, hinv, hah, hgr⟩
    rw [Nat.sub_self] at hfw hgr
    have hb0 : b = 0 := (bits0 (lt_bits hb')).mpr (Cv_0.mp hfw.1)
    refine ⟨(T, M'), ⟨by have := hgr [] rfl; rw [List.append_nil] at this; exact this, hf, hrow⟩, fun rc => ?_⟩
    show n_X12_towns_0_b201_l F (fun S x1 x2 x3 => rc (S, x1, x2, x3)) M' (nI (2 ^ N.length - 1)) (nI b) ah = some (nI sz, M')
    unfold n_X12_towns_0_b201_l
    obtain ⟨k', -, k2, k3⟩ := hc (2 ^ N.length - 1) (by omega)
    rw [if_pos (by rw [hb0]; rfl), zld_nI _ _ _ (show 2 ^ N.length - 1 < 4096 by omega) (by omega), hf.2.1 12 (by decide) (by decide), k2, Fw_eq k3 hfw0]) F (M, nI (2 ^ N.length - 1), nI (2 ^ N.length - 1), -1) ⟨M, 2 ^ N.length - 1, [], -1, rfl, rfl, by omega, hfw0, fr_rf _ _ _, ⟨h1, fun j r hj => absurd hj (by simp)⟩, fun k _ t hC _ => Int32.lt_of_lt_of_le (by decide : (-1 : Int32) < 0) (Int32.not_lt.mp (nI_pos (by have := hC.1; omega))), by decide, fun R' hR' => hR'⟩ (by omega)
