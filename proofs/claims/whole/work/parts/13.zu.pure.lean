/-! plead: the call -/
def HS (W : Nat → Nat → Nat → Prop) (m : Nat) : Option (Nat × Nat) → Prop
  | none => ∀ j, j < m → ∃ k, W j 0 k
  | some r => r.1 < m ∧ (∀ j, j < r.1 → ∃ k, W j 0 k) ∧ r.2 ≠ 0 ∧ ∃ k, W r.1 r.2 k
theorem HS_eq {W : Nat → Nat → Nat → Prop} {m : Nat} (hu : ∀ j v k v2 k2, W j v k → W j v2 k2 → v = v2) {o o2 : Option (Nat × Nat)} (h : HS W m o) (h2 : HS W m o2) : o = o2 := by
  cases o with
  | none => cases o2 with
    | none => rfl
    | some r =>
      obtain ⟨k, hk⟩ := h r.1 h2.1
      obtain ⟨k2, hk2⟩ := h2.2.2.2
      exact absurd (hu _ _ _ _ _ hk2 hk) h2.2.2.1
  | some r => cases o2 with
    | none =>
      obtain ⟨k, hk⟩ := h2 r.1 h.1
      obtain ⟨k2, hk2⟩ := h.2.2.2
      exact absurd (hu _ _ _ _ _ hk2 hk) h.2.2.1
    | some s =>
      obtain ⟨k, hk⟩ := h.2.2.2
      obtain ⟨k2, hk2⟩ := h2.2.2.2
      have e : r.1 = s.1 := by
        rcases Nat.lt_trichotomy r.1 s.1 with q | q | q
        · obtain ⟨k3, hk3⟩ := h2.2.1 _ q
          exact absurd (hu _ _ _ _ _ hk hk3) h.2.2.1
        · exact q
        · obtain ⟨k3, hk3⟩ := h.2.1 _ q
          exact absurd (hu _ _ _ _ _ hk2 hk3) h2.2.2.1
      rw [e] at hk
      exact congrArg some (Prod.ext e (hu _ _ _ _ _ hk hk2))
theorem x_hear {F : Nat} (hF : 2 ^ 40 < F) {S : Zs} {w m : Nat} {W : Nat → Nat → Nat → Prop} (hm : m < 40) (hw0 : w < 40) (h826 : S.1 0 826 = nI w) (hv : ∀ j v k, W j v k → v < 7) (hw : ∀ S', fr [46] [] S S' → ∀ j, j < m → ∃ q : Nat × Nat, W j q.1 q.2 ∧ n_X3_weigh_41 F S' (nI (w + j)) = some (nI q.1, if q.1 = 0 then zp S' 46 (w + j) (nI q.2) else S')) : ∃ q : Option (Nat × Nat) × Zs, (HS W m q.1 ∧ fr [46] [] S q.2 ∧ (∀ i, i < w → q.2.1 46 i = S.1 46 i) ∧ (q.1 = none → ∀ j, j < m → ∃ k, W j 0 k ∧ q.2.1 46 (w + j) = nI k)) ∧ n_X3_hear_41_1_b8 F S (nI m) 0 = match q.1 with
    | none => some (nI m, if m = 0 then q.2 else zp q.2 0 826 (nI (w + m)))
    | some r => some (-100 - 10 * nI r.1 - nI r.2, q.2) := by
  exact zfix_for (f := fun (rc : (Zs × Int32 × Int32) → Option (Int32 × Zs)) (u : (Zs × Int32 × Int32)) => n_X3_hear_41_1_b8_l F  (fun S x2 x3 => rc (S, x2, x3)) u.1 u.2.1 u.2.2) m (fun i s => ∃ S', s = (S', nI m, nI i) ∧ fr [46] [] S S' ∧ (∀ i, i < w → S'.1 46 i = S.1 46 i) ∧ ∀ j, j < i → ∃ k, W j 0 k ∧ S'.1 46 (w + j) = nI k) (fun q : Option (Nat × Nat) × Zs => HS W m q.1 ∧ fr [46] [] S q.2 ∧ (∀ i, i < w → q.2.1 46 i = S.1 46 i) ∧ (q.1 = none → ∀ j, j < m → ∃ k, W j 0 k ∧ q.2.1 46 (w + j) = nI k)) (fun q => match q.1 with
    | none => some (nI m, if m = 0 then q.2 else zp q.2 0 826 (nI (w + m)))
    | some r => some (-100 - 10 * nI r.1 - nI r.2, q.2)) (by
    rintro i _ hi' ⟨S', rfl, hf, hlo, hj⟩
    obtain ⟨⟨v, k⟩, hk, ek⟩ := hw S' hf i hi'
    have hk : W i v k := hk
    have hv7 := hv _ _ _ hk
    have e1 : ∀ rc : (Zs × Int32 × Int32) → Option (Int32 × Zs), n_X3_hear_41_1_b8_l F (fun S x2 x3 => rc (S, x2, x3)) S' (nI m) (nI i) = if v = 0 then rc (zp S' 46 (w + i) (nI k), nI m, nI (i + 1)) else some (-100 - 10 * nI i - nI v, S') := by
      intro rc
      unfold n_X3_hear_41_1_b8_l
      rw [if_neg (nI_ge hi' (by omega)), zgS, hf.1 826 (by decide), h826, nI_add, ek, zcS, zlS, nI_1]
      by_cases g : v = 0
      · rw [if_pos g, if_pos g, if_pos (show nI v = 0 by rw [g]; rfl)]
      · rw [if_neg g, if_neg g, if_neg (nI_ne0 (by omega) (by omega))]
    by_cases g : v = 0
    · refine Or.inr ⟨_, ⟨_, rfl, fr_t hf (fr_r _ _ (by decide) (by decide)), fun j hj' => ?_, fun j hj' => ?_⟩, fun rc => (e1 rc).trans (if_pos g)⟩
      · rw [zp_off _ _ (Or.inr (by omega))]; exact hlo j hj'
      · by_cases q : j = i
        · rw [q]; exact ⟨k, by rw [g] at hk; exact hk, zp_at _ _ _ _⟩
        · rw [zp_off _ _ (Or.inr (by omega))]; exact hj j (by omega)
    · exact Or.inl ⟨(some (i, v), S'), ⟨⟨hi', fun j hj' => (hj j hj').imp fun _ z => z.1, g, k, hk⟩, hf, hlo, fun z => absurd z (by simp)⟩, fun rc => (e1 rc).trans (if_neg g)⟩) (by
    rintro _ ⟨S', rfl, hf, hlo, hj⟩
    refine ⟨(none, S'), ⟨fun j hj' => (hj j hj').imp fun _ z => z.1, hf, hlo, fun _ => hj⟩, fun rc => ?_⟩
    show n_X3_hear_41_1_b8_l F (fun S x2 x3 => rc (S, x2, x3)) S' (nI m) (nI m) = some (nI m, if m = 0 then S' else zp S' 0 826 (nI (w + m)))
    unfold n_X3_hear_41_1_b8_l n_X3_hear_41_1_b61
    rw [if_pos (nI_le (Nat.le_refl _) (by omega)), zgS, zpS, hf.1 826 (by decide), h826, nI_add]
    by_cases g : m = 0
    · rw [if_pos g, if_pos (show nI m ≤ 0 by rw [g]; decide)]
    · rw [if_neg g, if_neg (show ¬ nI m ≤ 0 from nI_ge (a := 0) (by omega) (by omega))]) F (S, nI m, 0) ⟨S, rfl, fr_rf _ _ _, fun _ _ => rfl, fun j hj => absurd hj (by omega)⟩ (by omega)
theorem m_hear {F : Nat} (hF : 2 ^ 40 < F) {S : Zs} {w m : Nat} {W : Nat → Nat → Nat → Prop} (hm : m < 40) (hw0 : w < 40) (h35 : S.1 0 35 = nI w) (h36 : S.1 0 36 = nI (w + m)) (hv : ∀ j v k, W j v k → v < 7) (hw : ∀ S', fr [20] [] S S' → ∀ j, j < m → ∃ v k S2, W j v k ∧ n_X12_whyNot_0 F S' (nI (w + j)) = some (nI v, S2) ∧ fr [20] [] S' S2 ∧ (∀ i, i ≠ w + j → S2.1 20 i = S'.1 20 i) ∧ (v = 0 → S2.1 20 (w + j) = nI k)) : ∃ q : Option (Nat × Nat) × Zs, (HS W m q.1 ∧ fr [20] [] S q.2 ∧ (∀ i, i < w → q.2.1 20 i = S.1 20 i) ∧ (q.1 = none → ∀ j, j < m → ∃ k, W j 0 k ∧ q.2.1 20 (w + j) = nI k)) ∧ n_X12_plead_0_b83 F S (nI w) = match q.1 with
    | none => some (nI m, zp q.2 0 35 (nI (w + m)))
    | some r => some (-100 - 10 * nI r.1 - nI r.2, q.2) := by
  exact zfix_for (f := fun (rc : (Zs × Int32) → Option (Int32 × Zs)) (u : (Zs × Int32)) => n_X12_plead_0_b83_l F  (fun S x5 => rc (S, x5)) u.1 u.2) m (fun i s => ∃ S', s = (S', nI (w + i)) ∧ fr [20] [] S S' ∧ (∀ i, i < w → S'.1 20 i = S.1 20 i) ∧ ∀ j, j < i → ∃ k, W j 0 k ∧ S'.1 20 (w + j) = nI k) (fun q : Option (Nat × Nat) × Zs => HS W m q.1 ∧ fr [20] [] S q.2 ∧ (∀ i, i < w → q.2.1 20 i = S.1 20 i) ∧ (q.1 = none → ∀ j, j < m → ∃ k, W j 0 k ∧ q.2.1 20 (w + j) = nI k)) (fun q => match q.1 with
    | none => some (nI m, zp q.2 0 35 (nI (w + m)))
    | some r => some (-100 - 10 * nI r.1 - nI r.2, q.2)) (by
    rintro i _ hi' ⟨S', rfl, hf, hlo, hj⟩
    obtain ⟨v, k, S2, hk, ek, f2, o2, a2⟩ := hw S' hf i hi'
    have hv7 := hv _ _ _ hk
    have e1 : ∀ rc : (Zs × Int32) → Option (Int32 × Zs), n_X12_plead_0_b83_l F (fun S x5 => rc (S, x5)) S' (nI (w + i)) = if v = 0 then rc (S2, nI (w + (i + 1))) else some (-100 - 10 * nI i - nI v, S2) := by
      intro rc
      unfold n_X12_plead_0_b83_l
      rw [zgS, hf.1 36 (by decide), h36, if_neg (nI_ge (by omega) (by omega)), ek, zcS, zlS, nI_1, zgS, f2.1 35 (by decide), hf.1 35 (by decide), h35, pk_sub (by omega), show w + i - w = i by omega]
      by_cases g : v = 0
      · rw [if_pos g, if_pos (show nI v ≤ 0 by rw [g]; decide), Nat.add_assoc]
      · rw [if_neg g, if_neg (show ¬ nI v ≤ 0 from nI_ge (a := 0) (by omega) (by omega))]
    have hlo2 : ∀ i, i < w → S2.1 20 i = S.1 20 i := fun j hj' => (o2 j (by omega)).trans (hlo j hj')
    by_cases g : v = 0
    · refine Or.inr ⟨_, ⟨_, rfl, fr_t hf f2, hlo2, fun j hj' => ?_⟩, fun rc => (e1 rc).trans (if_pos g)⟩
      by_cases q : j = i
      · rw [q]; exact ⟨k, by rw [g] at hk; exact hk, a2 g⟩
      · rw [o2 _ (by omega)]; exact hj j (by omega)
    · exact Or.inl ⟨(some (i, v), S2), ⟨⟨hi', fun j hj' => (hj j hj').imp fun _ z => z.1, g, k, hk⟩, fr_t hf f2, hlo2, fun z => absurd z (by simp)⟩, fun rc => (e1 rc).trans (if_neg g)⟩) (by
    rintro _ ⟨S', rfl, hf, hlo, hj⟩
    refine ⟨(none, S'), ⟨fun j hj' => (hj j hj').imp fun _ z => z.1, hf, hlo, fun _ => hj⟩, fun rc => ?_⟩
    show n_X12_plead_0_b83_l F (fun S x5 => rc (S, x5)) S' (nI (w + m)) = some (nI m, zp S' 0 35 (nI (w + m)))
    unfold n_X12_plead_0_b83_l
    rw [zgS, hf.1 36 (by decide), h36, if_pos (nI_le (Nat.le_refl _) (by omega)), zgS, zgS, zlS, zgS, zpS, hf.1 36 (by decide), h36, hf.1 35 (by decide), h35, pk_sub (by omega), show w + m - w = m by omega]) F (S, nI w) ⟨S, rfl, fr_rf _ _ _, fun _ _ => rfl, fun j hj => absurd hj (by omega)⟩ (by omega)
theorem WS_v {n : Nat} {wd : Int32} {cw : Nat → Nat} {al lv : Int32} {e f : Nat} {g : Option Nat} {c v k : Nat} (h : WS n wd cw al lv e f g c v k) : v < 7 ∧ (v = 0 → KA n wd e f g ∧ e < 24 ∧ k < 22) := by
  rcases h with ⟨a, b⟩ | ⟨a, ⟨c1, c2⟩ | ⟨c1, ⟨d1', d2'⟩ | ⟨d1', h⟩⟩⟩
  · exact ⟨by omega, fun w => by omega⟩
  · exact ⟨by omega, fun w => by omega⟩
  · exact ⟨by omega, fun w => by omega⟩
  · have := (lo_hi (g.map cw)).2
    rcases h with ⟨h1, h2, h3, -⟩ | ⟨-, ⟨h1, -⟩ | ⟨-, ⟨h1, -⟩ | ⟨h1, -⟩⟩⟩
    · exact ⟨by omega, fun w => ⟨a, c1, by omega⟩⟩
    · exact ⟨by omega, fun w => by omega⟩
    · exact ⟨by omega, fun w => by omega⟩
    · exact ⟨by omega, fun w => by omega⟩
def PE (n : Nat) (X M : Zs) (i : Nat) : Prop := (X.1 42 i = M.1 16 i ∧ X.1 43 i = M.1 17 i ∧ X.1 44 i = M.1 18 i ∧ X.1 45 i = M.1 19 i ∧ X.1 46 i = M.1 20 i) ∧ (∃ c, c < 2304 ∧ M.1 16 i = nI c) ∧ (∃ w, w < 4 ∧ M.1 17 i = nI w) ∧ (∃ f, M.1 18 i = nI f ∧ (f < n ∨ (16 ≤ f ∧ f < 16 + i))) ∧ (M.1 19 i = -1 ∨ ∃ f, M.1 19 i = nI f ∧ (f < n ∨ (16 ≤ f ∧ f < 16 + i))) ∧ ∃ m, m < 22 ∧ M.1 20 i = nI m
theorem Rel_plead {Q : Zs → Nat → (Nat → Nat) → Prop} (hQ : QOK Q) {X M X2 M2 : Zs} {n p : Nat} (hR : Rel (Kq Q) X M) (hn : X.1 0 62 = nI n) (hn' : n ≤ 16) (fx : fr [42, 43, 44, 45, 46] [21, 22, 826] X X2) (fm : fr [16, 17, 18, 19, 20] [0, 13, 14, 15, 35, 36] M M2) (x21 : X2.1 0 21 = 0) (m13 : M2.1 0 13 = 0) (hp : p ≤ 24) (x826 : X2.1 0 826 = nI p) (m35 : M2.1 0 35 = nI p) (hE : ∀ i, i < p → PE n X2 M2 i) : Rel (Kq Q) X2 M2 := by
  obtain ⟨-, r1, r2, r3, r4, r5, -, r7, r8⟩ := hR
  refine ⟨⟨0, by omega, x21, m13, fun i hi => absurd hi (by omega)⟩, ?_, ?_, ?_, ?_, ?_, ⟨n, p, hp, ?_, hn', x826, m35, hE⟩, ?_, Kq_ok hQ _ _ (fr_k fx (by decide) (by decide)) r8⟩
  · unfold RSay
    rw [fx.1 62 (by decide), fm.1 3 (by decide), fx.2.1 4 (by decide) (by decide), fx.2.1 5 (by decide) (by decide), fm.2.1 2 (by decide) (by decide), fm.2.1 3 (by decide) (by decide), fx.1 63 (by decide), fm.1 6 (by decide), fx.1 64 (by decide), fm.1 7 (by decide)]; exact r1
  · unfold RLife
    rw [fx.1 65 (by decide), fm.1 8 (by decide)]; exact r2
  · unfold RMood
    rw [fx.1 66 (by decide), fm.1 11 (by decide)]; exact r3
  · unfold RWant
    rw [fx.1 68 (by decide), fm.1 9 (by decide), fx.2.1 6 (by decide) (by decide), fm.2.1 4 (by decide) (by decide)]; exact r4
  · unfold RRow
    rw [fx.1 10 (by decide), fm.1 1 (by decide), fx.2.1 47 (by decide) (by decide), fm.2.1 1 (by decide) (by decide)]; exact r5
  · rw [fx.1 62 (by decide)]; exact hn
  · unfold RKept
    rw [fx.1 62 (by decide), fx.2.1 7 (by decide) (by decide), fx.2.1 8 (by decide) (by decide), fx.2.1 9 (by decide) (by decide), fx.2.1 10 (by decide) (by decide), fx.2.1 11 (by decide) (by decide), fx.2.1 12 (by decide) (by decide), fm.2.1 21 (by decide) (by decide), fm.2.1 22 (by decide) (by decide)]; exact r7
/-- plead() -/
theorem p_plead {Q : Zs → Nat → (Nat → Nat) → Prop} (hQ : QOK Q) {F : Nat} (hF : 2 ^ 40 < F) : S_plead F (Rel (Kq Q)) := by
  intro X M hR
  obtain ⟨n, cd, hX, hB, q, hM, el, ed, bd, ew, bw⟩ := Rel_ctx hR
  obtain ⟨L, sg, hXB, h13, h5⟩ := Rel_sg hR
  have hL := hXB.2.1
  have hn := hX.2.1
  have emo : X.1 0 66 = M.1 0 11 := hR.2.2.2.1.1
  obtain ⟨n', w, hw, e62, hn2, h826, h35, hE⟩ := hR.2.2.2.2.2.2.1
  have en : n' = n := nI_inj (by omega) (by omega) (e62.symm.trans hX.1)
  subst en
  generalize hb0 : (!decide (L = 0)) = b0
  have hb1 : bI (b0 = true) = if L = 0 then 0 else 1 := by
    rw [← hb0]
    by_cases g : L = 0
    · rw [decide_eq_true g, if_pos g]; rfl
    · rw [decide_eq_false g, if_neg g]; rfl
  obtain ⟨S, ⟨fS, loS, atS, leS, okS⟩, eS⟩ := x_pread hF hw hXB b0
  have f36 : fr [] [0, 13, 14, 15, 36] M (zp (mBg M L) 0 36 (nI w)) := fr_t (fr_p _ (by decide)) (fr_t (fr_p _ (by decide)) (fr_t (fr_p _ (by decide)) (fr_t (fr_p _ (by decide)) (fr_p _ (by decide)))))
  have hMB : MB (zp (mBg M L) 0 36 (nI w)) sg L := MB_fr (MB_bg hL h5) (fr_p (R := []) (K := [36]) _ (by decide)) (by decide) (by decide)
  obtain ⟨N, ⟨fN, loN, okN⟩, eN⟩ := m_pread hF hw (M := zp (mBg M L) 0 36 (nI w)) (zp_at _ _ _ _) hMB b0
  generalize pq sg (min L 76) 12 b0 0 = out at *
  obtain ⟨Ls, g, p⟩ := out
  have leS : p ≤ min L 76 := leS
  have atS : S.1 0 22 = nI p := atS
  have s21 : S.1 0 21 = nI L := by rw [fS.1 21 (by decide)]; exact hXB.1
  have s826 : S.1 0 826 = nI w := by rw [fS.1 826 (by decide)]; exact h826
  -- the class
  have ux : n_X11_plead_0 F X = zcl (zcl (n_X3_read_41_1_b22 F (cX X 0) (nI w) (bI (b0 = true))) (fun v2 S1 => n_X3_hear_41_1_b8 F S1 v2 0)) (fun v2 S1 => some (v2, zp S1 0 21 0)) := by
    unfold n_X11_plead_0 n_X11_plead_0_e n_X3_hear_41_1 n_X3_hear_41_1_e n_X3_read_41_1 n_X3_read_41_1_e n_X3_read_41_1_b21 n_X8_open_1 n_X8_open_1_e n_X8_wipe_1 n_X8_wipe_1_e
    simp only [zpS, zcS, zgS]
    rw [show zp X 0 22 0 = cX X 0 from rfl, cX_f X 0 (by decide), h826]
    have ir : n_X8_isRead_1 F (cX X 0) = some (if L = 0 then 1 else 0, cX X 0) := by
      unfold n_X8_isRead_1 n_X8_isRead_1_e n_X8_isRead_1_b16
      simp only [zgS]
      rw [cX_at, cX_f X 0 (by decide), hXB.1, zrb_0, zrb_1]
      by_cases w : L = 0
      · rw [if_pos (by rw [w]), if_pos w]
      · rw [if_neg (fun k => w ((nI_eq (by omega) (by omega)).mp k).symm), if_neg w]
    rw [ir, zcS, hb1]
    by_cases w : L = 0
    · rw [if_pos w, if_pos w, if_neg (by decide)]
    · rw [if_neg w, if_neg w, if_pos rfl]
  have ir2 : n_X8_isRead_1 F S = some (if p = L then 1 else 0, S) := by
    unfold n_X8_isRead_1 n_X8_isRead_1_e n_X8_isRead_1_b16
    simp only [zgS]
    rw [atS, s21, zrb_0, zrb_1]
    by_cases w : p = L
    · rw [if_pos (by rw [w]), if_pos w]
    · rw [if_neg (fun k => w ((nI_eq (by omega) (by omega)).mp k)), if_neg w]
  have wr2 : n_X8_wrong_1 F S = some (-1 - nI p, S) := by
    unfold n_X8_wrong_1 n_X8_wrong_1_e
    rw [zgS, atS]
  rw [eS] at ux
  -- the reference
  have um : n_X12_plead_0 F M = n_X12_plead_0_b30 F (cM (zp (mBg M L) 0 36 (nI w)) 0) (nI L) 1 (bI (b0 = true)) := by
    have ec : cM (zp (mBg M L) 0 36 (nI w)) 0 = zp (mBg M L) 0 36 (nI w) := zp_id (by
      rw [zp_off _ _ (Or.inr (by decide)), mBg, zp_off _ _ (Or.inr (by decide)), zp_at]; rfl)
    rw [ec]
    unfold n_X12_plead_0 n_X12_plead_0_e n_X12_plead_0_b29
    have e35 : (mBg M L).1 0 35 = nI w := by
      rw [mBg, zp_off _ _ (Or.inr (by decide)), zp_off _ _ (Or.inr (by decide)), zp_off _ _ (Or.inr (by decide)), zp_off _ _ (Or.inr (by decide))]; exact h35
    rw [zpS, m_begins h13 hL, zcS, zgS, zpS, e35, hb1]
    by_cases w : L = 0
    · rw [if_pos w, if_pos (show nI L ≤ 0 by rw [w]; decide)]
    · rw [if_neg w, if_neg (show ¬ nI L ≤ 0 from nI_ge (a := 0) (by omega) (by omega))]
  rw [eN] at um
  unfold n_X12_plead_0_b30_l at um
  have hNB := MB_fr hMB fN (by decide) (by decide)
  rw [if_pos rfl, m_fault hNB (show p ≤ min L 76 from leS), zcS] at um
  have fN' : fr [16, 17, 18, 19, 20] [0, 13, 14, 15, 35, 36] M (cM N p) := fr_t (fr_w f36 (by decide) (by decide)) (fr_t (fr_w fN (by decide) (by decide)) (fr_p _ (by decide)))
  have fN20 : fr [16, 17, 18, 19] [0, 13, 14, 15, 36] M (cM N p) := fr_t (fr_w f36 (by decide) (by decide)) (fr_t (fr_w fN (by decide) (by decide)) (fr_p _ (by decide)))
  have n13 : (cM N p).1 0 13 = 0 := by
    rw [cM_f _ _ (by decide), fN.1 13 (by decide), zp_off _ _ (Or.inr (by decide)), mBg, zp_off _ _ (Or.inr (by decide)), zp_off _ _ (Or.inr (by decide)), zp_at]
  have n35 : (cM N p).1 0 35 = nI w := by rw [fN20.1 35 (by decide)]; exact h35
  have loN' : LoP 16 17 18 19 (cM N p) M w := fun i hi => by
    have := loN i hi
    rw [cM_r _ _ (by decide), cM_r _ _ (by decide), cM_r _ _ (by decide), cM_r _ _ (by decide)]
    exact this
  -- the old lines stay
  have old : ∀ X2 M2 : Zs, (∀ r ∈ [42, 43, 44, 45], X2.1 r = S.1 r) → (∀ i, i < w → X2.1 46 i = X.1 46 i) → (∀ r ∈ [16, 17, 18, 19], M2.1 r = (cM N p).1 r) → (∀ i, i < w → M2.1 20 i = M.1 20 i) → ∀ i, i < w → PE n' X2 M2 i := by
    intro X2 M2 a1 a2 a3 a4 i hi
    unfold PE
    obtain ⟨b1, b2, b3, b4⟩ := loS i hi
    obtain ⟨c1, c2, c3, c4⟩ := loN' i hi
    rw [a1 42 (by decide), a1 43 (by decide), a1 44 (by decide), a1 45 (by decide), a2 i hi, a3 16 (by decide), a3 17 (by decide), a3 18 (by decide), a3 19 (by decide), a4 i hi, b1, b2, b3, b4, c1, c2, c3, c4]
    exact hE i hi
  have failed : ¬ (g = true ∧ p = L) → n_X11_plead_0 F X = some (-1 - nI p, zp S 0 21 0) → ∃ r X2 M2, n_X11_plead_0 F X = some (r, X2) ∧ n_X12_plead_0 F M = some (r, M2) ∧ Rel (Kq Q) X2 M2 := by
    intro z hx
    have hfl : flt g L p = -1 - nI p := if_neg z
    dsimp only at um
    rw [hfl, if_neg (neg77 p (by omega))] at um
    refine ⟨_, _, _, hx, um, Rel_plead hQ hR hX.1 hn (fr_t (fr_w fS (by decide) (by decide)) (fr_p _ (by decide))) fN' (zp_at _ _ _ _) n13 hw ?_ n35 (old _ _ (fun r hr => ?_) (fun i hi => ?_) (fun r _ => rfl) (fun i hi => ?_))⟩
    · rw [zp_off _ _ (Or.inr (by decide))]; exact s826
    · exact zp_row _ _ _ (by rintro rfl; exact absurd hr (by decide))
    · rw [zp_off _ _ (Or.inl (by decide)), fS.2.1 46 (by decide) (by decide)]
    · rw [fN20.2.1 20 (by decide) (by decide)]
  have le0 : -1 - nI p ≤ 0 := Int32.le_of_lt (Int32.not_le.mp (neg77 p (by omega)))
  have b8 : n_X3_hear_41_1_b8 F S (-1 - nI p) 0 = some (-1 - nI p, S) := by
    obtain ⟨-, -, h⟩ := zfix_for (f := fun (rc : (Zs × Int32 × Int32) → Option (Int32 × Zs)) (u : (Zs × Int32 × Int32)) => n_X3_hear_41_1_b8_l F  (fun S x2 x3 => rc (S, x2, x3)) u.1 u.2.1 u.2.2) 0 (fun _ s => s = (S, -1 - nI p, 0)) (fun _ : Unit => True) (fun _ => some (-1 - nI p, S)) (fun i a hi => absurd hi (by omega)) (by
      rintro _ rfl
      refine ⟨(), trivial, fun rc => ?_⟩
      show n_X3_hear_41_1_b8_l F (fun S x2 x3 => rc (S, x2, x3)) S (-1 - nI p) 0 = _
      unfold n_X3_hear_41_1_b8_l n_X3_hear_41_1_b61
      rw [if_pos le0, if_pos le0]) F (S, -1 - nI p, 0) rfl (by omega)
    exact h
  cases g with
  | false =>
    refine failed (fun z => absurd z.1 (by decide)) ?_
    rw [ux]
    dsimp only
    rw [if_neg (by decide), zcS, b8, zcS]
  | true =>
    by_cases hpL : p = L
    · obtain ⟨x1, x2⟩ := okS rfl
      obtain ⟨y1, y2⟩ := okN rfl
      dsimp only at x1 x2 y1 y2 ux um
      have hfl : flt true L p = 0 := if_pos ⟨rfl, hpL⟩
      rw [hfl, if_pos (by decide), zgS, n35] at um
      unfold n_X3_read_41_1_b59 n_X3_read_41_1_b79 at ux
      rw [if_pos rfl, ir2, zcS, if_pos hpL, if_neg (by decide), zgS, s826, pk_sub (by omega), show w + Ls.length - w = Ls.length by omega, zcS] at ux
      have n36 : (cM N p).1 0 36 = nI (w + Ls.length) := by rw [cM_f _ _ (by decide)]; exact y2
      have gt : ∀ j, j < Ls.length → ∃ l, Ls[j]? = some l := fun j h1 => ⟨Ls[j], List.getElem?_eq_getElem h1⟩
      have y1' : LnP 16 17 18 19 (cM N p) w Ls := fun j l hl => ⟨by
        have := (y1 j l hl).1
        unfold At
        rw [cM_r _ _ (by decide), cM_r _ _ (by decide), cM_r _ _ (by decide), cM_r _ _ (by decide)]
        exact this, (y1 j l hl).2⟩
      -- codes of steps
      obtain ⟨sc, hsc⟩ : ∃ sc : Nat → Nat, ∀ i, i < w + Ls.length → S.1 42 i = nI (sc i) ∧ (cM N p).1 16 i = nI (sc i) ∧ sc i < 2304 ∧ ∀ j l, i = w + j → Ls[j]? = some l → sc i = l.2.2.2 := by
        refine ⟨fun i => if i < w then (M.1 16 i).toNatClampNeg else (Ls.getD (i - w) (0, 0, none, 0)).2.2.2, fun i hi => ?_⟩
        dsimp only
        by_cases z : i < w
        · rw [if_pos z, (loS i z).1, (loN' i z).1]
          obtain ⟨⟨t1, -⟩, ⟨c, c1, c2⟩, -⟩ := hE i z
          rw [t1, c2, nI_clamp (by omega)]
          exact ⟨rfl, rfl, c1, fun j l h1 _ => by omega⟩
        · obtain ⟨l, hl⟩ := gt (i - w) (by omega)
          rw [if_neg z, List.getD_eq_getElem?_getD, hl, Option.getD_some]
          have a1 := x1 _ l hl
          have a2 := y1' _ l hl
          rw [show w + (i - w) = i by omega] at a1 a2
          refine ⟨a1.1.1, a2.1.1, a1.2.2.2.2, fun j l2 h1 h2 => ?_⟩
          rw [show i - w = j by omega, h2] at hl
          rw [Option.some.inj hl]
      generalize hW : (fun (j v k : Nat) => ∃ l, Ls[j]? = some l ∧ WS n' (M.1 0 7) (cv cd sc) (M.1 0 11) (M.1 0 8) (w + j) l.2.1 l.2.2.1 l.2.2.2 v k) = W
      have hWi : ∀ j v k, W j v k ↔ ∃ l, Ls[j]? = some l ∧ WS n' (M.1 0 7) (cv cd sc) (M.1 0 11) (M.1 0 8) (w + j) l.2.1 l.2.2.1 l.2.2.2 v k := fun j v k => by rw [← hW]
      have hWv : ∀ j v k, W j v k → v < 7 := fun j v k h => by
        obtain ⟨l, -, h⟩ := (hWi j v k).mp h
        exact (WS_v h).1
      have hWu : ∀ j v k v2 k2, W j v k → W j v2 k2 → v = v2 ∧ (v = 0 → k = k2) := fun j v k v2 k2 h h2 => by
        obtain ⟨l, a, h⟩ := (hWi j v k).mp h
        obtain ⟨l2, a2, h2⟩ := (hWi j v2 k2).mp h2
        rw [a] at a2
        rw [← Option.some.inj a2] at h2
        exact WS_eq h h2
      obtain ⟨⟨o1, SX⟩, ⟨hs1, fX, lX, mX⟩, eX⟩ := x_hear hF (W := W) (m := Ls.length) (by omega) (by omega) s826 hWv (fun S' hf j hj => by
        obtain ⟨l, hl⟩ := gt j hj
        obtain ⟨⟨a1, a2, a3, a4⟩, b1, b2, b3, b4⟩ := x1 j l hl
        have hXS : XC S' n' cd := by
          unfold XC
          rw [hf.1 62 (by decide), hf.2.1 4 (by decide) (by decide), fS.1 62 (by decide), fS.2.1 4 (by decide) (by decide)]
          exact hX
        obtain ⟨q, hq, eq⟩ := x_weigh hF hXS (e := w + j) (f := l.2.1) (g := l.2.2.1) (c := l.2.2.2) (sc := sc) (by omega) (fun i hi => by rw [hf.2.1 42 (by decide) (by decide)]; exact ⟨(hsc i (by omega)).1, (hsc i (by omega)).2.2.1⟩) (by rw [hf.2.1 44 (by decide) (by decide)]; exact a3) b2 (by rw [hf.2.1 45 (by decide) (by decide)]; exact a4) b3 ((hsc (w + j) (by omega)).2.2.2 j l rfl hl)
        refine ⟨q, (hWi _ _ _).mpr ⟨l, hl, ?_⟩, eq⟩
        rw [hf.1 64 (by decide), hf.1 65 (by decide), hf.1 66 (by decide), fS.1 64 (by decide), fS.1 65 (by decide), fS.1 66 (by decide), ew, el, emo] at hq
        exact hq)
      obtain ⟨⟨o2, SM⟩, ⟨hs2, fM, lM, mM⟩, eM⟩ := m_hear hF (W := W) (m := Ls.length) (by omega) (by omega) n35 n36 hWv (fun S' hf j hj => by
        obtain ⟨l, hl⟩ := gt j hj
        obtain ⟨⟨a1, a2, a3, a4⟩, b1, b2, b3, b4⟩ := y1' j l hl
        have hMS : MC S' n' cd := by
          unfold MC
          rw [hf.1 3 (by decide), hf.2.1 2 (by decide) (by decide), fN20.1 3 (by decide), fN20.2.1 2 (by decide) (by decide)]
          exact hM
        obtain ⟨v, k, M2, hq, eq, f2, o2, z2⟩ := m_why hF hMS (e := w + j) (f := l.2.1) (g := l.2.2.1) (c := l.2.2.2) (sc := sc) (by omega) (fun i hi => by rw [hf.2.1 16 (by decide) (by decide)]; exact ⟨(hsc i (by omega)).2.1, (hsc i (by omega)).2.2.1⟩) (by rw [hf.2.1 18 (by decide) (by decide)]; exact a3) b2 (by rw [hf.2.1 19 (by decide) (by decide)]; exact a4) b3 ((hsc (w + j) (by omega)).2.2.2 j l rfl hl)
        refine ⟨v, k, M2, (hWi _ _ _).mpr ⟨l, hl, ?_⟩, eq, f2, o2, z2⟩
        rw [hf.1 7 (by decide), hf.1 8 (by decide), hf.1 11 (by decide), fN20.1 7 (by decide), fN20.1 8 (by decide), fN20.1 11 (by decide)] at hq
        exact hq)
      have eo : o1 = o2 := HS_eq (fun j v k v2 k2 h h2 => (hWu j v k v2 k2 h h2).1) hs1 hs2
      subst eo
      dsimp only at eX eM lX lM mX mM
      rw [eX] at ux
      rw [eM] at um
      have gX : fr [42, 43, 44, 45, 46] [21, 22, 826] X SX := fr_t (fr_w fS (by decide) (by decide)) (fr_w fX (by decide) (by decide))
      have gM : fr [16, 17, 18, 19, 20] [0, 13, 14, 15, 35, 36] M SM := fr_t fN' (fr_w fM (by decide) (by decide))
      have sX : ∀ r ∈ [42, 43, 44, 45], SX.1 r = S.1 r := fun r hr => fX.2.1 r (by rintro rfl; exact absurd hr (by decide)) (fun z => by rw [List.mem_singleton.mp z] at hr; exact absurd hr (by decide))
      have sM : ∀ r ∈ [16, 17, 18, 19], SM.1 r = (cM N p).1 r := fun r hr => fM.2.1 r (by rintro rfl; exact absurd hr (by decide)) (fun z => by rw [List.mem_singleton.mp z] at hr; exact absurd hr (by decide))
      have lX' : ∀ i, i < w → SX.1 46 i = X.1 46 i := fun i hi => by rw [lX i hi, fS.2.1 46 (by decide) (by decide)]
      have lM' : ∀ i, i < w → SM.1 20 i = M.1 20 i := fun i hi => by rw [lM i hi, fN20.2.1 20 (by decide) (by decide)]
      have x826 : SX.1 0 826 = nI w := by rw [fX.1 826 (by decide)]; exact s826
      have m35 : SM.1 0 35 = nI w := by rw [fM.1 35 (by decide)]; exact n35
      have m13 : SM.1 0 13 = 0 := by rw [fM.1 13 (by decide)]; exact n13
      cases o1 with
      | some r =>
        dsimp only at ux um
        rw [zcS] at ux
        refine ⟨_, _, _, ux, um, Rel_plead hQ hR hX.1 hn (fr_t gX (fr_p _ (by decide))) gM (zp_at _ _ _ _) m13 hw ?_ m35 (old _ _ (fun r hr => ?_) (fun i hi => ?_) sM lM')⟩
        · rw [zp_off _ _ (Or.inr (by decide))]; exact x826
        · rw [zp_row _ _ _ (by rintro rfl; exact absurd hr (by decide))]; exact sX r hr
        · rw [zp_off _ _ (Or.inl (by decide))]; exact lX' i hi
      | none =>
        dsimp only at ux um
        rw [zcS] at ux
        have mX := mX rfl
        have mM := mM rfl
        have hp : w + Ls.length ≤ 24 := by
          by_cases z : Ls.length = 0
          · omega
          · obtain ⟨k, hk, -⟩ := mX (Ls.length - 1) (by omega)
            obtain ⟨l, -, h⟩ := (hWi _ _ _).mp hk
            have := ((WS_v h).2 rfl).2.1
            omega
        generalize hX3 : (if Ls.length = 0 then SX else zp SX 0 826 (nI (w + Ls.length))) = X3 at ux
        have f3 : fr [] [826] SX X3 := by
          rw [← hX3]
          by_cases z : Ls.length = 0
          · rw [if_pos z]; exact fr_rf _ _ _
          · rw [if_neg z]; exact fr_p _ (by decide)
        have x3 : X3.1 0 826 = nI (w + Ls.length) := by
          rw [← hX3]
          by_cases z : Ls.length = 0
          · rw [if_pos z, x826, z]; rfl
          · rw [if_neg z]; exact zp_at _ _ _ _
        have r3 : ∀ r, r ≠ 0 → X3.1 r = SX.1 r := fun r hr => f3.2.1 r hr (by simp)
        refine ⟨_, _, _, ux, um, Rel_plead hQ hR hX.1 hn (fr_t gX (fr_t (fr_w f3 (by decide) (by decide)) (fr_p _ (by decide)))) (fr_t gM (fr_p _ (by decide))) (zp_at _ _ _ _) ?_ hp ?_ (zp_at _ _ _ _) (fun i hi => ?_)⟩
        · rw [zp_off _ _ (Or.inr (by decide))]; exact m13
        · rw [zp_off _ _ (Or.inr (by decide))]; exact x3
        · by_cases z : i < w
          · refine old _ _ (fun r hr => ?_) (fun i hi => ?_) (fun r hr => ?_) (fun i hi => ?_) i z
            · have h0 : r ≠ 0 := by rintro rfl; exact absurd hr (by decide)
              rw [zp_row _ _ _ h0, r3 r h0]; exact sX r hr
            · rw [zp_off _ _ (Or.inl (by decide)), r3 46 (by decide)]; exact lX' i hi
            · rw [zp_row _ _ _ (by rintro rfl; exact absurd hr (by decide))]; exact sM r hr
            · rw [zp_off _ _ (Or.inl (by decide))]; exact lM' i hi
          · obtain ⟨k, hk, ek⟩ := mX (i - w) (by omega)
            obtain ⟨k2, hk2, ek2⟩ := mM (i - w) (by omega)
            have e2 := (hWu _ _ _ _ _ hk hk2).2 rfl
            obtain ⟨l, hl, h⟩ := (hWi _ _ _).mp hk
            obtain ⟨⟨ka1, ka2⟩, -, k22⟩ := (WS_v h).2 rfl
            rw [show w + (i - w) = i by omega] at ek ek2 ka1 ka2
            obtain ⟨⟨a1, a2, a3, a4⟩, b1, b2, b3, b4⟩ := x1 _ l hl
            obtain ⟨⟨c1, c2, c3, c4⟩, -⟩ := y1' _ l hl
            rw [show w + (i - w) = i by omega] at a1 a2 a3 a4 c1 c2 c3 c4
            unfold PE
            rw [zp_row _ _ _ (show (42 : Nat) ≠ 0 by decide), zp_row _ _ _ (show (43 : Nat) ≠ 0 by decide), zp_row _ _ _ (show (44 : Nat) ≠ 0 by decide), zp_row _ _ _ (show (45 : Nat) ≠ 0 by decide), zp_row _ _ _ (show (46 : Nat) ≠ 0 by decide), zp_row _ _ _ (show (16 : Nat) ≠ 0 by decide), zp_row _ _ _ (show (17 : Nat) ≠ 0 by decide), zp_row _ _ _ (show (18 : Nat) ≠ 0 by decide), zp_row _ _ _ (show (19 : Nat) ≠ 0 by decide), zp_row _ _ _ (show (20 : Nat) ≠ 0 by decide)]
            rw [r3 42 (by decide), r3 43 (by decide), r3 44 (by decide), r3 45 (by decide), r3 46 (by decide), sX 42 (by decide), sX 43 (by decide), sX 44 (by decide), sX 45 (by decide), sM 16 (by decide), sM 17 (by decide), sM 18 (by decide), sM 19 (by decide), a1, a2, a3, a4, c1, c2, c3, c4, ek, ek2, e2]
            refine ⟨⟨rfl, rfl, rfl, rfl, rfl⟩, ⟨_, b4, rfl⟩, ⟨_, b1, rfl⟩, ⟨_, rfl, Kn_lt ka1⟩, ?_, ⟨k2, by omega, rfl⟩⟩
            cases hg : l.2.2.1 with
            | none => exact Or.inl rfl
            | some x => exact Or.inr ⟨x, rfl, Kn_lt (ka2 x hg)⟩
    · refine failed (fun z => hpL z.2) ?_
      rw [ux]
      dsimp only
      unfold n_X3_read_41_1_b59 n_X3_read_41_1_b79
      rw [if_pos rfl, ir2, zcS, if_neg hpL, if_pos rfl, wr2, zcS, zcS, b8, zcS]
