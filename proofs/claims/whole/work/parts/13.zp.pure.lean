/-! told: the call -/
theorem sel_cd {cd cd2 : Nat → Nat} {b : Int32} : ∀ n, (∀ i, i < n → cd2 i = cd i) → sel cd2 b n = sel cd b n := by
  intro n
  induction n with
  | zero => exact fun _ => rfl
  | succ n ih =>
    intro h
    have := ih fun i hi => h i (by omega)
    cases e : hb b n with
    | true => rw [sel_t e, sel_t e, this, h n (by omega)]
    | false => rw [sel_f e, sel_f e, this]
theorem sel_n {cd cd2 : Nat → Nat} {b : Int32} {n : Nat} (hb' : bnd b n) (h : ∀ i, i < n → cd2 i = cd i) : ∀ k, sel cd2 b (n + k) = sel cd b n := by
  intro k
  induction k with
  | zero => exact sel_cd n h
  | succ k ih => rw [← Nat.add_assoc, sel_f (bnd_hb hb' (by omega)), ih]
theorem KB_n {X X2 : Zs} {n n2 : Nat} {cd cd2 : Nat → Nat} (f : fr [4, 5] [21, 22, 62, 63] X X2) (hn : n ≤ n2) (h : ∀ i, i < n → cd2 i = cd i) (hK : KB X n cd) : KB X2 n2 cd2 := by
  unfold KB
  rw [f.1 264 (by decide), f.1 265 (by decide)]
  refine hK.imp id fun g => ⟨bnd_le g.1 hn, ?_⟩
  have e := sel_n g.1 h (n2 - n)
  rw [show n + (n2 - n) = n2 by omega] at e
  rw [e]
  exact Th_fr g.2 f (by decide) (by decide) (by decide) (by decide) (by decide)
theorem Rel_told {Q : Zs → Nat → (Nat → Nat) → Prop} (hQ : QOK Q) {X M X2 M2 : Zs} {n n2 : Nat} {cd cd2 wt : Nat → Nat} (hR : Rel (Kq Q) X M) (hX : XC X n cd) (hB : KB X n cd) (q : Q X n cd) (fx : fr [4, 5] [21, 22, 62, 63] X X2) (fm : fr [2, 3] [0, 3, 6, 13, 14, 15, 16] M M2) (x21 : X2.1 0 21 = 0) (m13 : M2.1 0 13 = 0) (hn : n ≤ n2) (hn2 : n2 ≤ 16) (x62 : X2.1 0 62 = nI n2) (m3 : M2.1 0 3 = nI n2) (hc : ∀ i, i < n2 → X2.1 4 i = nI (cd2 i) ∧ M2.1 2 i = nI (cd2 i) ∧ cd2 i < 2304) (hw : ∀ i, i < n2 → X2.1 5 i = nI (wt i) ∧ M2.1 3 i = nI (wt i) ∧ wt i < 8) (h63 : X2.1 0 63 = M2.1 0 6) (hb' : bnd (M2.1 0 6) n2) (hcd : ∀ i, i < n → cd2 i = cd i) : Rel (Kq Q) X2 M2 := by
  obtain ⟨-, r1, r2, r3, r4, r5, r6, r7, -⟩ := hR
  have hnX := hX.2.1
  refine ⟨⟨0, by omega, x21, m13, fun i hi => absurd hi (by omega)⟩, ?_, ?_, ?_, ?_, ?_, ?_, ?_, ⟨n2, cd2, ⟨x62, hn2, fun i hi => ⟨(hc i hi).1, (hc i hi).2.2⟩⟩, KB_n fx hn hcd hB, hQ X X2 n n2 cd cd2 (fr_q fx (by decide) (by decide)) hn hcd q⟩⟩
  · obtain ⟨m, hm, e1, e2, -, -, -, w1, w2⟩ := r1
    have e : m = n := nI_inj (by omega) (by omega) (e1.symm.trans hX.1)
    subst e
    refine ⟨n2, hn2, x62, m3, fun i hi => ⟨(hc i hi).1.trans (hc i hi).2.1.symm, (hw i hi).1.trans (hw i hi).2.1.symm, ⟨_, (hc i hi).2.2, (hc i hi).2.1⟩, ⟨_, (hw i hi).2.2, (hw i hi).2.1⟩⟩, h63, hb', ?_, ?_⟩
    · rw [fx.1 64 (by decide), fm.1 7 (by decide)]; exact w1
    · rw [fm.1 7 (by decide)]; exact bnd_le w2 hn
  · unfold RLife
    rw [fx.1 65 (by decide), fm.1 8 (by decide)]; exact r2
  · unfold RMood
    rw [fx.1 66 (by decide), fm.1 11 (by decide)]; exact r3
  · unfold RWant
    rw [fx.1 68 (by decide), fm.1 9 (by decide), fx.2.1 6 (by decide) (by decide), fm.2.1 4 (by decide) (by decide)]; exact r4
  · unfold RRow
    rw [fx.1 10 (by decide), fm.1 1 (by decide), fx.2.1 47 (by decide) (by decide), fm.2.1 1 (by decide) (by decide)]; exact r5
  · obtain ⟨m, p, hp, e1, hm, e2, e3, hT⟩ := r6
    have e : m = n := nI_inj (by omega) (by omega) (e1.symm.trans hX.1)
    subst e
    refine ⟨n2, p, hp, x62, hn2, ?_, ?_, fun i hi => ?_⟩
    · rw [fx.1 826 (by decide)]; exact e2
    · rw [fm.1 35 (by decide)]; exact e3
    · rw [fx.2.1 42 (by decide) (by decide), fx.2.1 43 (by decide) (by decide), fx.2.1 44 (by decide) (by decide), fx.2.1 45 (by decide) (by decide), fx.2.1 46 (by decide) (by decide), fm.2.1 16 (by decide) (by decide), fm.2.1 17 (by decide) (by decide), fm.2.1 18 (by decide) (by decide), fm.2.1 19 (by decide) (by decide), fm.2.1 20 (by decide) (by decide)]
      obtain ⟨t1, t2, t3, ⟨f, f1, f2⟩, t5, t6⟩ := hT i hi
      refine ⟨t1, t2, t3, ⟨f, f1, f2.imp (fun g => by omega) id⟩, t5.imp id (fun ⟨g, g1, g2⟩ => ⟨g, g1, g2.imp (fun w => by omega) id⟩), t6⟩
  · obtain ⟨m, e1, hm, hT⟩ := r7
    have e : m = n := nI_inj (by omega) (by omega) (e1.symm.trans hX.1)
    subst e
    refine ⟨n2, x62, hn2, fun i hi => ?_⟩
    rw [fx.2.1 7 (by decide) (by decide), fx.2.1 8 (by decide) (by decide), fx.2.1 9 (by decide) (by decide), fx.2.1 10 (by decide) (by decide), fx.2.1 11 (by decide) (by decide), fx.2.1 12 (by decide) (by decide), fm.2.1 21 (by decide) (by decide), fm.2.1 22 (by decide) (by decide)]
    refine ⟨(hT i hi).1, (hT i hi).2.imp id fun ⟨g1, j, g2, g3⟩ => ⟨g1, j, by omega, g3⟩⟩
theorem zp_id {S : Zs} {r i : Nat} {v : Int32} (h : S.1 r i = v) : zp S r i v = S := by
  refine Prod.ext (funext fun a => funext fun b => ?_) rfl
  rw [zp_get]
  by_cases q : a = r ∧ b = i
  · rw [if_pos q, q.1, q.2, h]
  · rw [if_neg q]
theorem neg77 : ∀ p, p < 77 → ¬ (0 : Int32) ≤ -1 - nI p := by decide +kernel
/-- the text as both have it -/
theorem Rel_sg {K : Zs → Prop} {X M : Zs} (h : Rel K X M) : ∃ L sg, XB X sg L ∧ M.1 0 13 = nI L ∧ ∀ i, i < L → M.1 5 i = nI (sg i) ∧ sg i < 256 := by
  obtain ⟨L, hL, e1, e2, hT⟩ := h.1
  have k : ∀ i, i < L → M.1 5 i = nI (M.1 5 i).toNatClampNeg ∧ (M.1 5 i).toNatClampNeg < 256 := fun i hi => by
    obtain ⟨-, c, hc, e⟩ := hT i hi
    rw [e, nI_clamp (by omega)]; exact ⟨rfl, hc⟩
  exact ⟨L, fun i => (M.1 5 i).toNatClampNeg, ⟨e1, hL, fun i hi => ⟨(hT i hi).1.trans (k i hi).1, (k i hi).2⟩⟩, e2, k⟩
def mBg (M : Zs) (L : Nat) : Zs := zp (zp (zp (zp M 0 0 0) 0 13 0) 0 14 0) 0 15 (nI (min L 76))
theorem m_begins {F : Nat} {M : Zs} {L : Nat} (h : M.1 0 13 = nI L) (hL : L ≤ 80) : n_X12_begins_0 F (zp M 0 0 0) = some (nI L, mBg M L) := by
  unfold n_X12_begins_0 n_X12_begins_0_e
  simp only [zgS, zpS, zlS]
  rw [zp_off M _ (Or.inr (by decide)), h]
  by_cases g : 76 < L
  · rw [if_pos (show (76 : Int32) < nI L from nI_lt (a := 76) g (by omega)), show (76 : Int32) = nI (min L 76) by rw [show min L 76 = 76 by omega]; rfl]; rfl
  · rw [if_neg (show ¬ (76 : Int32) < nI L from fun w => by rw [show (76 : Int32) = nI 76 from rfl, nI_lt_iff (by omega) (by omega)] at w; omega)]
    unfold mBg
    rw [show min L 76 = L by omega]
theorem MB_bg {M : Zs} {L : Nat} {sg : Nat → Nat} (hL : L ≤ 80) (h : ∀ i, i < L → M.1 5 i = nI (sg i) ∧ sg i < 256) : MB (mBg M L) sg L := ⟨zp_at _ _ _ _, hL, fun i hi => h i hi⟩
/-- told() -/
theorem p_told {Q : Zs → Nat → (Nat → Nat) → Prop} (hQ : QOK Q) {F : Nat} (hF : 2 ^ 40 < F) : S_told F (Rel (Kq Q)) := by
  intro X M hR
  obtain ⟨n, cd, hX, hB, q, hM, el, ed, bd, ew, bw⟩ := Rel_ctx hR
  obtain ⟨wt, hw1, hw2⟩ := Rel_wit hR hX
  obtain ⟨L, sg, hXB, h13, h5⟩ := Rel_sg hR
  have hL := hXB.2.1
  have hn := hX.2.1
  generalize hb0 : (!decide (L = 0)) = b0
  have hb1 : bI (b0 = true) = if L = 0 then 0 else 1 := by
    rw [← hb0]
    by_cases g : L = 0
    · rw [decide_eq_true g, if_pos g]; rfl
    · rw [decide_eq_false g, if_neg g]; rfl
  obtain ⟨⟨S, d⟩, ⟨fS, loS, atS, leS, okS⟩, eS⟩ := x_told hF hn hXB b0
  have f16 : fr [] [0, 13, 14, 15, 16] M (zp (mBg M L) 0 16 0) := fr_t (fr_p _ (by decide)) (fr_t (fr_p _ (by decide)) (fr_t (fr_p _ (by decide)) (fr_t (fr_p _ (by decide)) (fr_p _ (by decide)))))
  have hMB : MB (zp (mBg M L) 0 16 0) sg L := MB_fr (MB_bg hL h5) (fr_p (R := []) (K := [16]) 0 (by decide)) (by decide) (by decide)
  obtain ⟨⟨N, v⟩, ⟨fN, loN, okN⟩, eN⟩ := m_told hF (M := zp (mBg M L) 0 16 0) (by rw [f16.1 3 (by decide)]; exact hM.1) hn (zp_at _ _ _ _) hMB b0
  generalize pl sg (min L 76) 17 n b0 0 = out at *
  obtain ⟨Ls, g, p⟩ := out
  have leS : p ≤ min L 76 := leS
  have atS : S.1 0 22 = nI p := atS
  have s21 : S.1 0 21 = nI L := by rw [fS.1 21 (by decide)]; exact hXB.1
  have s62 : S.1 0 62 = nI n := by rw [fS.1 62 (by decide)]; exact hX.1
  -- the class
  have ux : n_X11_told_0 F X = zcl (n_X2_hear_3_1_b28 F (cX X 0) (nI n) 0 (bI (b0 = true)) 0) (fun v2 S1 => some (v2, zp S1 0 21 0)) := by
    unfold n_X11_told_0 n_X11_told_0_e n_X2_hear_3_1 n_X2_hear_3_1_e n_X2_hear_3_1_b23 n_X8_open_1 n_X8_open_1_e n_X8_wipe_1 n_X8_wipe_1_e
    simp only [zpS, zcS, zgS]
    rw [show zp X 0 22 0 = cX X 0 from rfl, cX_f X 0 (by decide), hX.1]
    have ir : n_X8_isRead_1 F (cX X 0) = some (if L = 0 then 1 else 0, cX X 0) := by
      unfold n_X8_isRead_1 n_X8_isRead_1_e n_X8_isRead_1_b16
      simp only [zgS]
      rw [cX_at, cX_f X 0 (by decide), hXB.1, zrb_0, zrb_1]
      by_cases w : L = 0
      · rw [if_pos (by rw [w]), if_pos w]
      · rw [if_neg (fun k => w ((nI_eq (by omega) (by omega)).mp k).symm), if_neg w]
    rw [ir, zcS, hb1]
    by_cases w : L = 0
    · rw [if_pos w, if_pos w, if_neg (by decide)]
    · rw [if_neg w, if_neg w, if_pos rfl]
  have ir2 : n_X8_isRead_1 F S = some (if p = L then 1 else 0, S) := by
    unfold n_X8_isRead_1 n_X8_isRead_1_e n_X8_isRead_1_b16
    simp only [zgS]
    rw [atS, s21, zrb_0, zrb_1]
    by_cases w : p = L
    · rw [if_pos (by rw [w]), if_pos w]
    · rw [if_neg (fun k => w ((nI_eq (by omega) (by omega)).mp k)), if_neg w]
  have wr2 : n_X8_wrong_1 F S = some (-1 - nI p, S) := by
    unfold n_X8_wrong_1 n_X8_wrong_1_e
    rw [zgS, atS]
  rw [eS] at ux
  -- the reference
  have um : n_X12_told_0 F M = n_X12_told_0_b30 F (cM (zp (mBg M L) 0 16 0) 0) (nI L) 0 1 (bI (b0 = true)) := by
    have ec : cM (zp (mBg M L) 0 16 0) 0 = zp (mBg M L) 0 16 0 := zp_id (by
      rw [zp_off _ _ (Or.inr (by decide)), mBg, zp_off _ _ (Or.inr (by decide)), zp_at]; rfl)
    rw [ec]
    unfold n_X12_told_0 n_X12_told_0_e n_X12_told_0_b28
    rw [zpS, m_begins h13 hL, zcS, zpS, hb1]
    by_cases w : L = 0
    · rw [if_pos w, if_pos (show nI L ≤ 0 by rw [w]; decide)]
    · rw [if_neg w, if_neg (show ¬ nI L ≤ 0 from nI_ge (a := 0) (by omega) (by omega))]
  rw [eN] at um
  unfold n_X12_told_0_b30_l at um
  have hNB := MB_fr hMB fN (by decide) (by decide)
  rw [if_pos rfl, m_fault hNB (show p ≤ min L 76 from leS), zcS] at um
  have fN' : fr [2, 3] [0, 13, 14, 15, 16] M (cM N p) := fr_t (fr_w f16 (by decide) (by decide)) (fr_t (fr_w fN (by decide) (by decide)) (fr_p _ (by decide)))
  have n13 : (cM N p).1 0 13 = 0 := by
    rw [cM_f _ _ (by decide), fN.1 13 (by decide), zp_off _ _ (Or.inr (by decide)), mBg, zp_off _ _ (Or.inr (by decide)), zp_off _ _ (Or.inr (by decide)), zp_at]
  have loN' : Low (cM N p) M 2 3 n := fun i hi => by
    rw [cM_r _ _ (by decide), cM_r _ _ (by decide), (loN i hi).1, (loN i hi).2, f16.2.1 2 (by decide) (by decide), f16.2.1 3 (by decide) (by decide)]
    exact ⟨rfl, rfl⟩
  have failed : ¬ (g = true ∧ p = L) → n_X11_told_0 F X = some (-1 - nI p, zp S 0 21 0) → ∃ r X2 M2, n_X11_told_0 F X = some (r, X2) ∧ n_X12_told_0 F M = some (r, M2) ∧ Rel (Kq Q) X2 M2 := by
    intro w hx
    have hfl : flt g L p = -1 - nI p := if_neg w
    dsimp only at um
    rw [hfl, if_neg (neg77 p (by omega))] at um
    refine ⟨_, _, _, hx, um, Rel_told hQ hR hX hB q (fr_t (fr_w fS (by decide) (by decide)) (fr_p _ (by decide))) (fr_w fN' (by decide) (by decide)) (zp_at _ _ _ _) n13 (Nat.le_refl _) hn ?_ ?_ (cd2 := cd) (wt := wt) (fun i hi => ⟨?_, ?_, (hX.2.2 i hi).2⟩) (fun i hi => ⟨?_, ?_, (hw1 i hi).2⟩) ?_ ?_ (fun _ _ => rfl)⟩
    · rw [zp_off _ _ (Or.inr (by decide))]; exact s62
    · rw [fN'.1 3 (by decide)]; exact hM.1
    · rw [zp_off _ _ (Or.inl (by decide)), (loS i hi).1]; exact (hX.2.2 i hi).1
    · rw [(loN' i hi).1]; exact (hM.2.2 i hi).1
    · rw [zp_off _ _ (Or.inl (by decide)), (loS i hi).2]; exact (hw1 i hi).1
    · rw [(loN' i hi).2]; exact (hw2 i hi).1
    · rw [zp_off _ _ (Or.inr (by decide)), fS.1 63 (by decide), fN'.1 6 (by decide)]; exact ed
    · rw [fN'.1 6 (by decide)]; exact bd
  cases g with
  | false =>
    refine failed (fun w => absurd w.1 (by decide)) ?_
    rw [ux]
    dsimp only
    rw [if_neg (by decide), zcS]
  | true =>
    by_cases hpL : p = L
    · obtain ⟨x1, x2, x3⟩ := okS rfl
      obtain ⟨y1, y2, y3⟩ := okN rfl
      dsimp only at x1 x2 x3 y1 y2 y3 ux um
      have edb := DB_eq x2 y2
      have hfl : flt true L p = 0 := if_pos ⟨rfl, hpL⟩
      rw [hfl, if_pos (by decide)] at um
      simp only [zgS, zpS] at um
      rw [cM_f _ _ (by decide), fN.1 3 (by decide), f16.1 3 (by decide), hM.1, y3, nI_add] at um
      rw [zp_off _ _ (Or.inr (by decide)), cM_f _ _ (by decide), fN.1 6 (by decide), f16.1 6 (by decide), zp_off _ _ (Or.inr (by decide)), cM_f _ _ (by decide)] at um
      unfold n_X2_hear_3_1_b143 at ux
      rw [if_pos rfl, ir2, zcS, if_pos hpL, if_neg (by decide)] at ux
      simp only [zgS, zpS, zlS] at ux
      rw [zcS, s62, pk_sub (by omega), show n + Ls.length - n = Ls.length by omega, fS.1 63 (by decide)] at ux
      have gt : ∀ i, i < n + Ls.length → ¬ i < n → ∃ l, Ls[i - n]? = some l ∧ n + (i - n) = i := fun i h1 h2 => ⟨Ls[i - n], List.getElem?_eq_getElem (by omega), by omega⟩
      refine ⟨_, _, _, ux, um, Rel_told hQ hR hX hB q (fr_t (fr_w fS (by decide) (by decide)) (fr_t (fr_p _ (by decide)) (fr_t (fr_p _ (by decide)) (fr_p _ (by decide))))) (fr_t (fr_w fN' (by decide) (by decide)) (fr_t (fr_p _ (by decide)) (fr_p _ (by decide)))) (zp_at _ _ _ _) ?_ (Nat.le_add_right n Ls.length) x3 ?_ ?_ (cd2 := fun i => if i < n then cd i else (Ls.getD (i - n) (0, 0, false)).1) (wt := fun i => if i < n then wt i else (Ls.getD (i - n) (0, 0, false)).2.1) (fun i hi => ?_) (fun i hi => ?_) ?_ ?_ (fun i hi => if_pos hi)⟩
      · rw [zp_off _ _ (Or.inr (by decide)), zp_off _ _ (Or.inr (by decide))]; exact n13
      · rw [zp_off _ _ (Or.inr (by decide)), zp_at]
      · rw [zp_off _ _ (Or.inr (by decide)), zp_at]
      · rw [zp_off _ _ (Or.inl (by decide)), zp_off _ _ (Or.inl (by decide)), zp_off _ _ (Or.inl (by decide)), zp_off _ _ (Or.inl (by decide)), zp_off _ _ (Or.inl (by decide))]
        by_cases w : i < n
        · rw [if_pos w, (loS i w).1, (loN' i w).1]
          exact ⟨(hX.2.2 i w).1, (hM.2.2 i w).1, (hX.2.2 i w).2⟩
        · obtain ⟨l, l1, l2⟩ := gt i hi w
          rw [if_neg w, List.getD_eq_getElem?_getD, l1, Option.getD_some, cM_r _ _ (by decide)]
          have a1 := x1 _ l l1
          have a2 := y1 _ l l1
          rw [l2] at a1 a2
          exact ⟨a1.1, a2.1, a1.2.2.1⟩
      · rw [zp_off _ _ (Or.inl (by decide)), zp_off _ _ (Or.inl (by decide)), zp_off _ _ (Or.inl (by decide)), zp_off _ _ (Or.inl (by decide)), zp_off _ _ (Or.inl (by decide))]
        by_cases w : i < n
        · rw [if_pos w, (loS i w).2, (loN' i w).2]
          exact ⟨(hw1 i w).1, (hw2 i w).1, (hw1 i w).2⟩
        · obtain ⟨l, l1, l2⟩ := gt i hi w
          rw [if_neg w, List.getD_eq_getElem?_getD, l1, Option.getD_some, cM_r _ _ (by decide)]
          have a1 := x1 _ l l1
          have a2 := y1 _ l l1
          rw [l2] at a1 a2
          exact ⟨a1.2.1, a2.2.1, a1.2.2.2⟩
      · rw [zp_off _ _ (Or.inr (by decide)), zp_off _ _ (Or.inr (by decide)), zp_at, zp_at, ed, edb]
      · rw [zp_at]
        exact bnd_or (bnd_le bd (Nat.le_add_right _ _)) (DB_bnd y2)
    · refine failed (fun w => hpL w.2) ?_
      rw [ux]
      dsimp only
      unfold n_X2_hear_3_1_b143
      rw [if_pos rfl, ir2, zcS, if_neg hpL, if_pos rfl, wr2, zcS, zcS]
