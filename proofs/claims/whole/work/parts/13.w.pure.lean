/-! clash, liars, convicts -/
theorem dif_i {a b : Nat} (ha : a ≤ 32) (hb : b ≤ 32) : (nI a - nI b).toInt = (a : Int) - b := pk_sub_toInt (by omega) (by omega)
theorem dif_lt {a b : Nat} (ha : a ≤ 32) (hb : b ≤ 32) : nI a - nI b < 0 ↔ a < b := by
  rw [Int32.lt_iff_toInt_lt, dif_i ha hb, show (0 : Int32).toInt = 0 from rfl]; omega
theorem dif_0 {a b : Nat} (ha : a ≤ 32) (hb : b ≤ 32) : nI a - nI b = 0 ↔ a = b := by
  rw [← Int32.toInt_inj, dif_i ha hb, show (0 : Int32).toInt = 0 from rfl]; omega
theorem dif_ge {a b : Nat} (ha : a ≤ 32) (hb : b ≤ 32) : 0 ≤ nI a - nI b ↔ b ≤ a := by
  rw [Int32.le_iff_toInt_le, dif_i ha hb, show (0 : Int32).toInt = 0 from rfl]; omega
theorem pos_of_bnd {v : Int32} (h : bnd v 16) : 0 ≤ v ∧ ¬ v = -1 ∧ ¬ v < 0 := by
  obtain ⟨j, hj, rfl⟩ := bnd_nI h (by omega)
  have h1 := nI_pos (n := j) (by omega)
  exact ⟨nI_pos' (by omega), fun g => by rw [g] at h1; exact h1 (by decide), h1⟩
theorem m_clash {F : Nat} (hF : 2 ^ 40 < F) {M : Zs} {n : Nat} {cd : Nat → Nat} (hM : MC M n cd) {A : Int32} (hA : bnd A 16) (hEn : EnC cd n (M.1 0 8) A A) : ∃ q : Zs × Int32, (fr mR mK M q.1 ∧ Best A (M.1 0 6 ^^^ (-1)) (EnC cd n (M.1 0 8) A) q.2) ∧ n_X12_clash_0_b14 F M A (-1) 0 = some (nI (bc q.2 32), mOne q.1 q.2) := by
  have htn : tn A < 2 ^ 16 := hA
  have eA := nI_tn hA (by omega)
  exact zfix_for (f := fun (rc : (Zs × Int32 × Int32 × Int32) → Option (Int32 × Zs)) (u : (Zs × Int32 × Int32 × Int32)) => n_X12_clash_0_b14_l F  (fun S x1 x2 x3 => rc (S, x1, x2, x3)) u.1 u.2.1 u.2.2.1 u.2.2.2) (tn A + 1) (fun i a => ∃ S v, a = (S, A, v, nI i) ∧ fr mR mK M S ∧ BB A (M.1 0 6 ^^^ (-1)) (EnC cd n (M.1 0 8) A) i v) (fun q : Zs × Int32 => fr mR mK M q.1 ∧ Best A (M.1 0 6 ^^^ (-1)) (EnC cd n (M.1 0 8) A) q.2) (fun q => some (nI (bc q.2 32), mOne q.1 q.2)) (by
    rintro i _ hi ⟨S', v, rfl, hf, hBB⟩
    have hlt : ¬ A < nI i := by
      rw [eA, nI_lt_iff (by omega) (by omega)]; omega
    have hb16 : bnd (nI i) 16 := bnd_of (by omega) (by omega)
    have e6 : S'.1 0 6 = M.1 0 6 := hf.1 6 (by decide)
    obtain ⟨r, M1, e1, f1, h1⟩ := m_holdsBy hF (MC_fr hM hf (by decide) (by decide)) (A &&& (nI i ^^^ (-1)))
    rw [hf.1 8 (by decide)] at h1
    have h1 : isB r (EnC cd n (M.1 0 8) A (nI i)) := h1
    have e97 : ∀ rc : (Zs × Int32 × Int32 × Int32) → Option (Int32 × Zs), n_X12_clash_0_b97 F (fun S x1 x2 x3 => rc (S, x1, x2, x3)) S' A v (nI i) = if r = 0 then rc (M1, A, v, nI (i + 1)) else rc (M1, A, nI i, nI (i + 1)) := by
      intro rc
      unfold n_X12_clash_0_b97 n_X12_clash_0_b111
      rw [e1, zcS]
      simp only [zlet, nI_1]
    have e111 : ∀ rc : (Zs × Int32 × Int32 × Int32) → Option (Int32 × Zs), n_X12_clash_0_b111 F (fun S x1 x2 x3 => rc (S, x1, x2, x3)) S' A v (nI i) = rc (S', A, v, nI (i + 1)) := by
      intro rc
      unfold n_X12_clash_0_b111
      simp only [zlet, nI_1]
    by_cases hs : nI i &&& (A ^^^ (-1)) = 0
    · have hsub := sub_iff.mp hs
      have go : (∀ rc : (Zs × Int32 × Int32 × Int32) → Option (Int32 × Zs), n_X12_clash_0_b14_l F (fun S x1 x2 x3 => rc (S, x1, x2, x3)) S' A v (nI i) = n_X12_clash_0_b97 F (fun S x1 x2 x3 => rc (S, x1, x2, x3)) S' A v (nI i)) → (v = -1 ∨ bc (nI i) 32 < bc v 32 ∨ (bc (nI i) 32 = bc v 32 ∧ bc (nI i &&& (M.1 0 6 ^^^ (-1))) 32 < bc (v &&& (M.1 0 6 ^^^ (-1))) 32)) → (∃ c, (fun q : Zs × Int32 => fr mR mK M q.1 ∧ Best A (M.1 0 6 ^^^ (-1)) (EnC cd n (M.1 0 8) A) q.2) c ∧ ∀ rc : (Zs × Int32 × Int32 × Int32) → Option (Int32 × Zs), n_X12_clash_0_b14_l F (fun S x1 x2 x3 => rc (S, x1, x2, x3)) S' A v (nI i) = some (nI (bc c.2 32), mOne c.1 c.2)) ∨ ∃ b : Zs × Int32 × Int32 × Int32, (∃ S v, b = (S, A, v, nI (i + 1)) ∧ fr mR mK M S ∧ BB A (M.1 0 6 ^^^ (-1)) (EnC cd n (M.1 0 8) A) (i + 1) v) ∧ ∀ rc : (Zs × Int32 × Int32 × Int32) → Option (Int32 × Zs), n_X12_clash_0_b14_l F (fun S x1 x2 x3 => rc (S, x1, x2, x3)) S' A v (nI i) = rc b := by
        intro w1 w2
        by_cases hen : EnC cd n (M.1 0 8) A (nI i)
        · refine Or.inr ⟨(M1, A, nI i, nI (i + 1)), ⟨M1, nI i, rfl, fr_t hf (fw f1), BB_take hBB (by omega) hA hen hsub w2⟩, fun rc => ((w1 rc).trans (e97 rc)).trans ?_⟩
          rw [if_neg (fun g => (isB_0 h1).mp g hen)]
        · refine Or.inr ⟨(M1, A, v, nI (i + 1)), ⟨M1, v, rfl, fr_t hf (fw f1), BB_no hBB (by omega) (fun g => hen g.1)⟩, fun rc => ((w1 rc).trans (e97 rc)).trans ?_⟩
          rw [if_pos ((isB_0 h1).mpr hen)]
      rcases id hBB with ⟨rfl, -⟩ | ⟨b1, b2, -, -⟩
      · refine go (fun rc => ?_) (Or.inl rfl)
        unfold n_X12_clash_0_b14_l n_X12_clash_0_b47 n_X12_clash_0_b80
        rw [if_neg hlt, if_pos hs, if_neg (by decide), if_neg (by decide), if_pos (by decide)]
      · have bv : bnd v 16 := bnd_sb b2 hA
        obtain ⟨p1, p2, p3⟩ := pos_of_bnd bv
        have l1 := bc_le (nI i) 32
        have l2 := bc_le v 32
        have l3 := bc_le (nI i &&& (M.1 0 6 ^^^ (-1))) 32
        have l4 := bc_le (v &&& (M.1 0 6 ^^^ (-1))) 32
        have e : ∀ rc : (Zs × Int32 × Int32 × Int32) → Option (Int32 × Zs), n_X12_clash_0_b14_l F (fun S x1 x2 x3 => rc (S, x1, x2, x3)) S' A v (nI i) = n_X12_clash_0_b80 F (fun S x1 x2 x3 => rc (S, x1, x2, x3)) S' A v (nI i) (nI (bc (nI i) 32) - nI (bc v 32)) (nI (bc (nI i &&& (M.1 0 6 ^^^ (-1))) 32) - nI (bc (v &&& (M.1 0 6 ^^^ (-1))) 32)) := by
          intro rc
          unfold n_X12_clash_0_b14_l n_X12_clash_0_b47
          rw [if_neg hlt, if_pos hs, if_pos p1, m_bitCount _ (bnd_le hb16 (by omega)), zcS, m_bitCount _ (bnd_le bv (by omega)), zcS, if_pos p1]
          unfold zgf
          dsimp only
          rw [e6, m_bitCount _ (bnd_le (bnd_and _ hb16) (by omega)), zcS, e6, m_bitCount _ (bnd_le (bnd_and _ bv) (by omega)), zcS]
        unfold n_X12_clash_0_b80 at e
        by_cases c1 : bc (nI i) 32 < bc v 32
        · refine go (fun rc => ?_) (Or.inr (Or.inl c1))
          rw [e, if_pos ((dif_lt l1 l2).mpr c1)]
        · by_cases c2 : bc (nI i) 32 = bc v 32
          · by_cases c3 : bc (nI i &&& (M.1 0 6 ^^^ (-1))) 32 < bc (v &&& (M.1 0 6 ^^^ (-1))) 32
            · refine go (fun rc => ?_) (Or.inr (Or.inr ⟨c2, c3⟩))
              rw [e, if_neg (fun g => c1 ((dif_lt l1 l2).mp g)), if_pos ((dif_0 l1 l2).mpr c2), if_neg (fun g => by have := (dif_ge l3 l4).mp g; omega)]
            · refine Or.inr ⟨(S', A, v, nI (i + 1)), ⟨S', v, rfl, hf, BB_keep hBB p2 (by omega) (fun g => by omega)⟩, fun rc => ((e rc).trans ?_).trans (e111 rc)⟩
              rw [if_neg (fun g => c1 ((dif_lt l1 l2).mp g)), if_pos ((dif_0 l1 l2).mpr c2), if_pos ((dif_ge l3 l4).mpr (by omega))]
          · refine Or.inr ⟨(S', A, v, nI (i + 1)), ⟨S', v, rfl, hf, BB_keep hBB p2 (by omega) (fun g => by omega)⟩, fun rc => ((e rc).trans ?_).trans (e111 rc)⟩
            rw [if_neg (fun g => c1 ((dif_lt l1 l2).mp g)), if_neg (fun g => c2 ((dif_0 l1 l2).mp g))]
    · refine Or.inr ⟨(S', A, v, nI (i + 1)), ⟨S', v, rfl, hf, BB_no hBB (by omega) (fun g => hs (sub_iff.mpr g.2))⟩, fun rc => Eq.trans ?_ (e111 rc)⟩
      show n_X12_clash_0_b14_l F (fun S x1 x2 x3 => rc (S, x1, x2, x3)) S' A v (nI i) = _
      unfold n_X12_clash_0_b14_l
      rw [if_neg hlt, if_neg hs]) (by
    rintro _ ⟨S', v, rfl, hf, hBB⟩
    rcases BB_end hBB (by omega) with ⟨-, h2⟩ | hbest
    · exact absurd hEn h2
    · have bv : bnd v 16 := bnd_sb hbest.2.1 hA
      refine ⟨(S', v), ⟨hf, hbest⟩, fun rc => ?_⟩
      show n_X12_clash_0_b14_l F (fun S x1 x2 x3 => rc (S, x1, x2, x3)) S' A v (nI (tn A + 1)) = _
      unfold n_X12_clash_0_b14_l
      have hlt : A < nI (tn A + 1) := by
        have := nI_lt (a := tn A) (b := tn A + 1) (by omega) (by omega)
        rwa [← eA] at this
      rw [if_pos hlt]
      unfold zpf
      dsimp only
      rw [m_enterOne, zcS, m_bitCount _ (bnd_le bv (by omega)), zcS]) F (M, A, -1, 0) ⟨M, -1, rfl, fr_rf _ _ _, BB_0 _ _ _⟩ (by omega)
theorem EnC_all (cd : Nat → Nat) (n : Nat) (lv A : Int32) : EnC cd n lv A A := by
  unfold EnC
  rw [sel_none (fun k _ h => (hbm.mp h).2 (hbm.mp h).1)]
  exact Con_nil lv
/-- clash() -/
theorem p_clash {Q : Zs → Nat → (Nat → Nat) → Prop} (hQ : QOK Q) {F : Nat} (hF : 2 ^ 40 < F) : S_clash F (Rel (Kq Q)) := by
  intro X M hR
  obtain ⟨n, cd, hX, hB, q, hM, el, ed, bd, ew, bw⟩ := Rel_ctx hR
  have hA16 : bnd (actv n (X.1 0 64)) 16 := bnd_le (bnd_actv hX.2.1 _) hX.2.1
  have hS : SC F (s0 X 1 (-1) (X.1 0 63 ^^^ (-1))) n cd (actv n (X.1 0 64)) (X.1 0 63 ^^^ (-1)) (EnC cd n (X.1 0 65) (actv n (X.1 0 64))) := by
    refine ⟨fun X' f k s hs => ?_, fun s t h1 _ h2 => EnC_m h1 h2, hA16, rfl⟩
    have f' : fr cR sF X X' := fr_t (fr_s0 X 1 (-1) (X.1 0 63 ^^^ (-1))) (fr_w f (by decide) (by decide))
    obtain ⟨r, X2, e, g1, g2, g3⟩ := x_en1 hF (XC_fr hX f' (by decide) (by decide)) k (by rw [f.1 462 (by decide)]; rfl) s
    rw [f'.1 65 (by decide), f'.1 64 (by decide)] at g3
    exact ⟨r, X2, e, g1, g2, g3⟩
  obtain ⟨X2, fx, kb, hres⟩ := x_smallest hF hB hS
  rw [ew, el, ed] at hres
  rw [ew] at hA16
  obtain ⟨⟨M2, T⟩, ⟨f2, hB2⟩, e2⟩ := m_clash hF (MC_fr hM (f0 M) (by decide) (by decide)) hA16 (EnC_all _ _ _ _)
  have hB2 : Best (actv n (M.1 0 7)) (M.1 0 6 ^^^ (-1)) (EnC cd n (M.1 0 8) (actv n (M.1 0 7))) T := hB2
  rcases hres with ⟨hno, -⟩ | ⟨S, hbest, ex⟩
  · exact absurd (EnC_all _ _ _ _) hno
  · have eST : S = T := Best_eq hA16 hbest hB2
    subst eST
    have bS : bnd S 16 := bnd_sb hbest.2.1 hA16
    refine ⟨nI (bc S 32), xOne X2 S, mOne M2 S, ?_, ?_, Rel_one (Kq_ok hQ) (Rel_search hQ hR hX q fx kb (fr_t (f0 M) f2)) S⟩
    · unfold n_X11_clash_0 n_X11_clash_0_e
      rw [x_active hX.1, zcS]
      unfold zgf
      dsimp only
      rw [ew, ed, ex, zcS, x_tellSmallest X2 bS, zcS]
    · unfold n_X12_clash_0 n_X12_clash_0_e zpf
      dsimp only
      rw [m_standing (M := zp M 0 0 0) hM.1, zcS]
      exact e2
-- witnesses
theorem b255 : bnd (255 : Int32) 8 := by
  show (255 : Nat) < 2 ^ 8
  omega
theorem b255' : bnd (255 : Int32) 16 := bnd_le b255 (by omega)
theorem hb255 {k : Nat} (h : k < 8) : hb (255 : Int32) k = true := (show ∀ k, k < 8 → hb (255 : Int32) k = true by decide) k h
theorem sb255 {i : Nat} (h : i < 256) : sb (nI i) 255 := by
  intro k q
  refine hb255 ?_
  rcases Nat.lt_or_ge k 8 with g | g
  · exact g
  · rw [bnd_hb (bnd_of (k := 8) (by omega) (by omega)) g] at q; exact absurd q (by decide)
theorem EnL_all {cd wt : Nat → Nat} {n : Nat} (hn : n ≤ 16) (lv A : Int32) (hA : bnd A n) (hw : ∀ i, i < n → wt i < 8) : EnL cd wt n lv A 255 := by
  obtain ⟨v, hv⟩ := isW_ex (fun k => hb (255 : Int32) (wt k) = true) (show n ≤ 31 by omega)
  refine ⟨v, hv, ?_⟩
  rw [sel_none (fun k hk h => (hbm.mp h).2 ((hv k).mpr ⟨hk, hb255 (hw k hk)⟩))]
  exact Con_nil lv
theorem c256 : (256 : Int32) = nI 256 := rfl
theorem m_liars {F : Nat} (hF : 2 ^ 40 < F) {M : Zs} {n : Nat} {cd wt : Nat → Nat} (hM : MC M n cd) (hw : Wit M 3 n wt) (hEn : EnL cd wt n (M.1 0 8) (actv n (M.1 0 7)) 255) : ∃ q : Zs × Int32, (fr mR mK M q.1 ∧ Best 255 0 (EnL cd wt n (M.1 0 8) (actv n (M.1 0 7))) q.2) ∧ n_X12_liars_0_b9 F M (-1) 0 = some (nI (bc q.2 32), mOne q.1 q.2) := by
  exact zfix_for (f := fun (rc : (Zs × Int32 × Int32) → Option (Int32 × Zs)) (u : (Zs × Int32 × Int32)) => n_X12_liars_0_b9_l F  (fun S x1 x2 => rc (S, x1, x2)) u.1 u.2.1 u.2.2) 256 (fun i a => ∃ S v, a = (S, v, nI i) ∧ fr mR mK M S ∧ BB 255 0 (EnL cd wt n (M.1 0 8) (actv n (M.1 0 7))) i v) (fun q : Zs × Int32 => fr mR mK M q.1 ∧ Best 255 0 (EnL cd wt n (M.1 0 8) (actv n (M.1 0 7))) q.2) (fun q => some (nI (bc q.2 32), mOne q.1 q.2)) (by
    rintro i _ hi ⟨S', v, rfl, hf, hBB⟩
    have hb16 : bnd (nI i) 16 := bnd_of (by omega) (by omega)
    have hlt : ¬ (256 : Int32) ≤ nI i := by rw [c256, nI_le_iff (by omega) (by omega)]; omega
    have hM' := MC_fr hM hf (by decide) (by decide)
    obtain ⟨b, hb, eb⟩ := m_saidBy hF hM'.1 hM'.2.1 (Wit_fr hw hf (by decide) (by decide)) (nI i)
    obtain ⟨r, M1, e1, f1, h1⟩ := m_holdsBy hF hM' (actv n (M.1 0 7) &&& (b ^^^ (-1)))
    rw [hf.1 8 (by decide)] at h1
    have h1 : isB r (EnL cd wt n (M.1 0 8) (actv n (M.1 0 7)) (nI i)) := isB_iff h1 ⟨fun g => ⟨b, hb, g⟩, fun ⟨v2, g1, g2⟩ => by rw [isW_eq hb g1 (fun _ _ => Iff.rfl)]; exact g2⟩
    have e31 : ∀ rc : (Zs × Int32 × Int32) → Option (Int32 × Zs), n_X12_liars_0_b31 F (fun S x1 x2 => rc (S, x1, x2)) S' v (nI i) = if r = 0 then rc (M1, v, nI (i + 1)) else rc (M1, nI i, nI (i + 1)) := by
      intro rc
      unfold n_X12_liars_0_b31 n_X12_liars_0_b36 n_X12_liars_0_b62
      rw [if_neg (by decide), m_standing hM'.1, zcS, eb, zcS, hf.1 7 (by decide), e1, zcS]
      simp only [zlet, nI_1]
    have go : (∀ rc : (Zs × Int32 × Int32) → Option (Int32 × Zs), n_X12_liars_0_b9_l F (fun S x1 x2 => rc (S, x1, x2)) S' v (nI i) = n_X12_liars_0_b31 F (fun S x1 x2 => rc (S, x1, x2)) S' v (nI i)) → (v = -1 ∨ bc (nI i) 32 < bc v 32 ∨ (bc (nI i) 32 = bc v 32 ∧ bc (nI i &&& 0) 32 < bc (v &&& 0) 32)) → (∃ c, (fun q : Zs × Int32 => fr mR mK M q.1 ∧ Best 255 0 (EnL cd wt n (M.1 0 8) (actv n (M.1 0 7))) q.2) c ∧ ∀ rc : (Zs × Int32 × Int32) → Option (Int32 × Zs), n_X12_liars_0_b9_l F (fun S x1 x2 => rc (S, x1, x2)) S' v (nI i) = some (nI (bc c.2 32), mOne c.1 c.2)) ∨ ∃ b : Zs × Int32 × Int32, (∃ S v, b = (S, v, nI (i + 1)) ∧ fr mR mK M S ∧ BB 255 0 (EnL cd wt n (M.1 0 8) (actv n (M.1 0 7))) (i + 1) v) ∧ ∀ rc : (Zs × Int32 × Int32) → Option (Int32 × Zs), n_X12_liars_0_b9_l F (fun S x1 x2 => rc (S, x1, x2)) S' v (nI i) = rc b := by
      intro w1 w2
      by_cases hen : EnL cd wt n (M.1 0 8) (actv n (M.1 0 7)) (nI i)
      · refine Or.inr ⟨(M1, nI i, nI (i + 1)), ⟨M1, nI i, rfl, fr_t hf (fw f1), BB_take hBB (by omega) b255' hen (sb255 hi) w2⟩, fun rc => ((w1 rc).trans (e31 rc)).trans ?_⟩
        rw [if_neg (fun g => (isB_0 h1).mp g hen)]
      · refine Or.inr ⟨(M1, v, nI (i + 1)), ⟨M1, v, rfl, fr_t hf (fw f1), BB_no hBB (by omega) (fun g => hen g.1)⟩, fun rc => ((w1 rc).trans (e31 rc)).trans ?_⟩
        rw [if_pos ((isB_0 h1).mpr hen)]
    rcases id hBB with ⟨rfl, -⟩ | ⟨b1, b2, -, -⟩
    · refine go (fun rc => ?_) (Or.inl rfl)
      unfold n_X12_liars_0_b9_l
      rw [if_neg hlt, if_pos (by decide)]
    · have bv : bnd v 16 := bnd_sb b2 b255'
      obtain ⟨p1, p2, p3⟩ := pos_of_bnd bv
      have l1 := bc_le (nI i) 32
      have l2 := bc_le v 32
      have e : ∀ rc : (Zs × Int32 × Int32) → Option (Int32 × Zs), n_X12_liars_0_b9_l F (fun S x1 x2 => rc (S, x1, x2)) S' v (nI i) = if bc v 32 ≤ bc (nI i) 32 then rc (S', v, nI (i + 1)) else n_X12_liars_0_b31 F (fun S x1 x2 => rc (S, x1, x2)) S' v (nI i) := by
        intro rc
        unfold n_X12_liars_0_b9_l
        rw [if_neg hlt, if_neg p3, m_bitCount _ (bnd_le hb16 (by omega)), zcS, m_bitCount _ (bnd_le bv (by omega)), zcS]
        by_cases c : bc v 32 ≤ bc (nI i) 32
        · rw [if_pos c, if_pos ((nI_le_iff (by omega) (by omega)).mpr c)]
          unfold n_X12_liars_0_b36 n_X12_liars_0_b62
          rw [if_pos rfl]
          simp only [zlet, nI_1]
        · rw [if_neg c, if_neg (fun g => c ((nI_le_iff (by omega) (by omega)).mp g))]
      by_cases c : bc v 32 ≤ bc (nI i) 32
      · refine Or.inr ⟨(S', v, nI (i + 1)), ⟨S', v, rfl, hf, BB_keep hBB p2 (by omega) (fun g => by
          rw [and_z, and_z] at g; omega)⟩, fun rc => (e rc).trans (if_pos c)⟩
      · exact go (fun rc => (e rc).trans (if_neg c)) (Or.inr (Or.inl (by omega)))) (by
    rintro _ ⟨S', v, rfl, hf, hBB⟩
    rcases BB_end hBB (by show tn 255 < 256; decide) with ⟨-, h2⟩ | hbest
    · exact absurd hEn h2
    · have bv : bnd v 16 := bnd_sb hbest.2.1 b255'
      refine ⟨(S', v), ⟨hf, hbest⟩, fun rc => ?_⟩
      show n_X12_liars_0_b9_l F (fun S x1 x2 => rc (S, x1, x2)) S' v (nI 256) = _
      unfold n_X12_liars_0_b9_l
      rw [if_pos (show (256 : Int32) ≤ nI 256 from nI_le (a := 256) (by omega) (by omega))]
      unfold zpf
      dsimp only
      rw [m_enterOne, zcS, m_bitCount _ (bnd_le bv (by omega)), zcS]) F (M, -1, 0) ⟨M, -1, rfl, fr_rf _ _ _, BB_0 _ _ _⟩ (by omega)
/-- liars() -/
theorem p_liars {Q : Zs → Nat → (Nat → Nat) → Prop} (hQ : QOK Q) {F : Nat} (hF : 2 ^ 40 < F) : S_liars F (Rel (Kq Q)) := by
  intro X M hR
  obtain ⟨n, cd, hX, hB, q, hM, el, ed, bd, ew, bw⟩ := Rel_ctx hR
  obtain ⟨wt, hw1, hw2⟩ := Rel_wit hR hX
  have hn := hX.2.1
  have hS : SC F (s0 X 2 (-1) 0) n cd 255 0 (EnL cd wt n (X.1 0 65) (actv n (X.1 0 64))) := by
    refine ⟨fun X' f k s hs => ?_, fun s t h1 _ h2 => EnL_m hn h1 h2, b255', rfl⟩
    have f' : fr cR sF X X' := fr_t (fr_s0 X 2 (-1) 0) (fr_w f (by decide) (by decide))
    obtain ⟨r, X2, e, g1, g2, g3⟩ := x_en2 hF (XC_fr hX f' (by decide) (by decide)) (Wit_fr hw1 f' (by decide) (by decide)) k (by rw [f.1 462 (by decide)]; rfl) s
    rw [f'.1 65 (by decide), f'.1 64 (by decide)] at g3
    exact ⟨r, X2, e, g1, g2, g3⟩
  obtain ⟨X2, fx, kb, hres⟩ := x_smallest hF hB hS
  rw [ew, el] at hres
  have hall : EnL cd wt n (M.1 0 8) (actv n (M.1 0 7)) 255 := EnL_all hn _ _ (bnd_actv hn _) (fun i hi => (hw2 i hi).2)
  obtain ⟨⟨M2, T⟩, ⟨f2, hB2⟩, e2⟩ := m_liars hF (MC_fr hM (f0 M) (by decide) (by decide)) (Wit_fr hw2 (f0 M) (by decide) (by decide)) hall
  have hB2 : Best 255 0 (EnL cd wt n (M.1 0 8) (actv n (M.1 0 7))) T := hB2
  rcases hres with ⟨hno, -⟩ | ⟨S, hbest, ex⟩
  · exact absurd hall hno
  · have eST : S = T := Best_eq b255' hbest hB2
    subst eST
    have bS : bnd S 16 := bnd_sb hbest.2.1 b255'
    refine ⟨nI (bc S 32), xOne X2 S, mOne M2 S, ?_, ?_, Rel_one (Kq_ok hQ) (Rel_search hQ hR hX q fx kb (fr_t (f0 M) f2)) S⟩
    · unfold n_X11_liars_0 n_X11_liars_0_e
      rw [ex, zcS, x_tellSmallest X2 bS, zcS]
    · unfold n_X12_liars_0 n_X12_liars_0_e zpf
      dsimp only
      exact e2
theorem m_convicts {F : Nat} (hF : 2 ^ 40 < F) {M : Zs} {n : Nat} {cd wt : Nat → Nat} (hM : MC M n cd) (hw : Wit M 3 n wt) {c : Nat} (hc : c < 2304) : ∃ q : Zs × Int32, (fr mR mK M q.1 ∧ ((q.2 = -1 ∧ ¬ EnV cd wt n (M.1 0 8) (actv n (M.1 0 7)) c 255) ∨ Best 255 0 (EnV cd wt n (M.1 0 8) (actv n (M.1 0 7)) c) q.2)) ∧ n_X12_convicts_0_b18 F M (nI c) (-1) 0 = (if 0 ≤ q.2 then some (nI (bc q.2 32), mOne q.1 q.2) else some (-2, q.1)) := by
  exact zfix_for (f := fun (rc : (Zs × Int32 × Int32 × Int32) → Option (Int32 × Zs)) (u : (Zs × Int32 × Int32 × Int32)) => n_X12_convicts_0_b18_l F  (fun S x1 x2 x3 => rc (S, x1, x2, x3)) u.1 u.2.1 u.2.2.1 u.2.2.2) 256 (fun i a => ∃ S v, a = (S, nI c, v, nI i) ∧ fr mR mK M S ∧ BB 255 0 (EnV cd wt n (M.1 0 8) (actv n (M.1 0 7)) c) i v) (fun q : Zs × Int32 => fr mR mK M q.1 ∧ ((q.2 = -1 ∧ ¬ EnV cd wt n (M.1 0 8) (actv n (M.1 0 7)) c 255) ∨ Best 255 0 (EnV cd wt n (M.1 0 8) (actv n (M.1 0 7)) c) q.2)) (fun q => if 0 ≤ q.2 then some (nI (bc q.2 32), mOne q.1 q.2) else some (-2, q.1)) (by
    rintro i _ hi ⟨S', v, rfl, hf, hBB⟩
    have hb16 : bnd (nI i) 16 := bnd_of (by omega) (by omega)
    have hlt : ¬ (256 : Int32) ≤ nI i := by rw [c256, nI_le_iff (by omega) (by omega)]; omega
    have hM' := MC_fr hM hf (by decide) (by decide)
    obtain ⟨b, hb, eb⟩ := m_saidBy hF hM'.1 hM'.2.1 (Wit_fr hw hf (by decide) (by decide)) (nI i)
    obtain ⟨r, M1, e1, f1, h1⟩ := m_followsFrom hF hM' (actv n (M.1 0 7) &&& b) hc
    rw [hf.1 8 (by decide)] at h1
    have h1 : isB r (EnV cd wt n (M.1 0 8) (actv n (M.1 0 7)) c (nI i)) := isB_iff h1 ⟨fun g => ⟨b, hb, g⟩, fun ⟨v2, g1, g2⟩ => by rw [isW_eq hb g1 (fun _ _ => Iff.rfl)]; exact g2⟩
    have e40 : ∀ rc : (Zs × Int32 × Int32 × Int32) → Option (Int32 × Zs), n_X12_convicts_0_b40 F (fun S x1 x2 x3 => rc (S, x1, x2, x3)) S' (nI c) v (nI i) = if r = 0 then rc (M1, nI c, v, nI (i + 1)) else rc (M1, nI c, nI i, nI (i + 1)) := by
      intro rc
      unfold n_X12_convicts_0_b40 n_X12_convicts_0_b45 n_X12_convicts_0_b74 n_X12_convicts_0_b75
      rw [if_neg (by decide), m_standing hM'.1, zcS, eb, zcS, hf.1 7 (by decide), e1, zcS]
      simp only [zlet, nI_1]
    have go : (∀ rc : (Zs × Int32 × Int32 × Int32) → Option (Int32 × Zs), n_X12_convicts_0_b18_l F (fun S x1 x2 x3 => rc (S, x1, x2, x3)) S' (nI c) v (nI i) = n_X12_convicts_0_b40 F (fun S x1 x2 x3 => rc (S, x1, x2, x3)) S' (nI c) v (nI i)) → (v = -1 ∨ bc (nI i) 32 < bc v 32 ∨ (bc (nI i) 32 = bc v 32 ∧ bc (nI i &&& 0) 32 < bc (v &&& 0) 32)) → (∃ q, (fun q : Zs × Int32 => fr mR mK M q.1 ∧ ((q.2 = -1 ∧ ¬ EnV cd wt n (M.1 0 8) (actv n (M.1 0 7)) c 255) ∨ Best 255 0 (EnV cd wt n (M.1 0 8) (actv n (M.1 0 7)) c) q.2)) q ∧ ∀ rc : (Zs × Int32 × Int32 × Int32) → Option (Int32 × Zs), n_X12_convicts_0_b18_l F (fun S x1 x2 x3 => rc (S, x1, x2, x3)) S' (nI c) v (nI i) = (if 0 ≤ q.2 then some (nI (bc q.2 32), mOne q.1 q.2) else some (-2, q.1))) ∨ ∃ b : Zs × Int32 × Int32 × Int32, (∃ S v, b = (S, nI c, v, nI (i + 1)) ∧ fr mR mK M S ∧ BB 255 0 (EnV cd wt n (M.1 0 8) (actv n (M.1 0 7)) c) (i + 1) v) ∧ ∀ rc : (Zs × Int32 × Int32 × Int32) → Option (Int32 × Zs), n_X12_convicts_0_b18_l F (fun S x1 x2 x3 => rc (S, x1, x2, x3)) S' (nI c) v (nI i) = rc b := by
      intro w1 w2
      by_cases hen : EnV cd wt n (M.1 0 8) (actv n (M.1 0 7)) c (nI i)
      · refine Or.inr ⟨(M1, nI c, nI i, nI (i + 1)), ⟨M1, nI i, rfl, fr_t hf (fw f1), BB_take hBB (by omega) b255' hen (sb255 hi) w2⟩, fun rc => ((w1 rc).trans (e40 rc)).trans ?_⟩
        rw [if_neg (fun g => (isB_0 h1).mp g hen)]
      · refine Or.inr ⟨(M1, nI c, v, nI (i + 1)), ⟨M1, v, rfl, fr_t hf (fw f1), BB_no hBB (by omega) (fun g => hen g.1)⟩, fun rc => ((w1 rc).trans (e40 rc)).trans ?_⟩
        rw [if_pos ((isB_0 h1).mpr hen)]
    rcases id hBB with ⟨rfl, -⟩ | ⟨b1, b2, -, -⟩
    · refine go (fun rc => ?_) (Or.inl rfl)
      unfold n_X12_convicts_0_b18_l
      rw [if_neg hlt, if_pos (by decide)]
    · have bv : bnd v 16 := bnd_sb b2 b255'
      obtain ⟨p1, p2, p3⟩ := pos_of_bnd bv
      have l1 := bc_le (nI i) 32
      have l2 := bc_le v 32
      have e : ∀ rc : (Zs × Int32 × Int32 × Int32) → Option (Int32 × Zs), n_X12_convicts_0_b18_l F (fun S x1 x2 x3 => rc (S, x1, x2, x3)) S' (nI c) v (nI i) = if bc v 32 ≤ bc (nI i) 32 then rc (S', nI c, v, nI (i + 1)) else n_X12_convicts_0_b40 F (fun S x1 x2 x3 => rc (S, x1, x2, x3)) S' (nI c) v (nI i) := by
        intro rc
        unfold n_X12_convicts_0_b18_l
        rw [if_neg hlt, if_neg p3, m_bitCount _ (bnd_le hb16 (by omega)), zcS, m_bitCount _ (bnd_le bv (by omega)), zcS]
        by_cases d : bc v 32 ≤ bc (nI i) 32
        · rw [if_pos d, if_pos ((nI_le_iff (by omega) (by omega)).mpr d)]
          unfold n_X12_convicts_0_b45 n_X12_convicts_0_b74 n_X12_convicts_0_b75
          rw [if_pos rfl]
          simp only [zlet, nI_1]
        · rw [if_neg d, if_neg (fun g => d ((nI_le_iff (by omega) (by omega)).mp g))]
      by_cases d : bc v 32 ≤ bc (nI i) 32
      · refine Or.inr ⟨(S', nI c, v, nI (i + 1)), ⟨S', v, rfl, hf, BB_keep hBB p2 (by omega) (fun g => by
          rw [and_z, and_z] at g; omega)⟩, fun rc => (e rc).trans (if_pos d)⟩
      · exact go (fun rc => (e rc).trans (if_neg d)) (Or.inr (Or.inl (by omega)))) (by
    rintro _ ⟨S', v, rfl, hf, hBB⟩
    refine ⟨(S', v), ⟨hf, BB_end hBB (by show tn 255 < 256; decide)⟩, fun rc => ?_⟩
    show n_X12_convicts_0_b18_l F (fun S x1 x2 x3 => rc (S, x1, x2, x3)) S' (nI c) v (nI 256) = (if 0 ≤ v then some (nI (bc v 32), mOne S' v) else some (-2, S'))
    unfold n_X12_convicts_0_b18_l
    rw [if_pos (show (256 : Int32) ≤ nI 256 from nI_le (a := 256) (by omega) (by omega))]
    rcases BB_end hBB (by show tn 255 < 256; decide) with ⟨rfl, -⟩ | hbest
    · rw [if_neg (by decide), if_neg (by decide)]
    · have bv : bnd v 16 := bnd_sb hbest.2.1 b255'
      rw [if_pos (pos_of_bnd bv).1, if_pos (pos_of_bnd bv).1]
      unfold zpf
      dsimp only
      rw [m_enterOne, zcS, m_bitCount _ (bnd_le bv (by omega)), zcS]) F (M, nI c, -1, 0) ⟨M, -1, rfl, fr_rf _ _ _, BB_0 _ _ _⟩ (by omega)
/-- convicts(code) -/
theorem p_convicts {Q : Zs → Nat → (Nat → Nat) → Prop} (hQ : QOK Q) {F : Nat} (hF : 2 ^ 40 < F) : S_convicts F (Rel (Kq Q)) := by
  intro X M hR a
  by_cases h : a < 0 ∨ 2303 < a
  · refine ⟨-1, X, zp M 0 0 0, ?_, ?_, hR.thrown 0⟩
    · unfold n_X11_convicts_0 n_X11_convicts_0_e
      rw [x_code0 h, zcS, if_pos rfl]
    · unfold n_X12_convicts_0 n_X12_convicts_0_e zpf
      dsimp only
      rw [m_code0 h, zcS, if_pos rfl]
  obtain ⟨c, hc, rfl⟩ := code_of h
  obtain ⟨n, cd, hX, hB, q, hM, el, ed, bd, ew, bw⟩ := Rel_ctx hR
  obtain ⟨wt, hw1, hw2⟩ := Rel_wit hR hX
  have hn := hX.2.1
  have hS : SC F (s0 X 3 (nI c) 0) n cd 255 0 (EnV cd wt n (X.1 0 65) (actv n (X.1 0 64)) c) := by
    refine ⟨fun X' f k s hs => ?_, fun s t h1 _ h2 => EnV_m hn h1 h2, b255', rfl⟩
    have f' : fr cR sF X X' := fr_t (fr_s0 X 3 (nI c) 0) (fr_w f (by decide) (by decide))
    obtain ⟨r, X2, e, g1, g2, g3⟩ := x_en3 hF (XC_fr hX f' (by decide) (by decide)) (Wit_fr hw1 f' (by decide) (by decide)) k (by rw [f.1 462 (by decide)]; rfl) hc (by rw [f.1 463 (by decide)]; rfl) s
    rw [f'.1 65 (by decide), f'.1 64 (by decide)] at g3
    exact ⟨r, X2, e, g1, g2, g3⟩
  obtain ⟨X2, fx, kb, hres⟩ := x_smallest hF hB hS
  rw [ew, el] at hres
  obtain ⟨⟨M2, T⟩, ⟨f2, hB2⟩, e2⟩ := m_convicts hF (MC_fr hM (f0 M) (by decide) (by decide)) (Wit_fr hw2 (f0 M) (by decide) (by decide)) hc
  have hB2 : (T = -1 ∧ ¬ EnV cd wt n (M.1 0 8) (actv n (M.1 0 7)) c 255) ∨ Best 255 0 (EnV cd wt n (M.1 0 8) (actv n (M.1 0 7)) c) T := hB2
  have e2 : n_X12_convicts_0_b18 F (zp M 0 0 0) (nI c) (-1) 0 = (if 0 ≤ T then some (nI (bc T 32), mOne M2 T) else some (-2, M2)) := e2
  have em : n_X12_convicts_0 F M (nI c) = (if 0 ≤ T then some (nI (bc T 32), mOne M2 T) else some (-2, M2)) := by
    unfold n_X12_convicts_0 n_X12_convicts_0_e zpf
    dsimp only
    rw [m_code1 h, zcS, if_neg (by decide)]
    exact e2
  have ex0 : ∀ r X3, n_X6_smallest_23 F X 3 (nI c) 255 0 = some (r, X3) → n_X11_convicts_0 F X (nI c) = zcl (n_X11_tellSmallest_0 F X3 r) (fun v6 S5 => some (v6, S5)) := by
    intro r X3 e
    unfold n_X11_convicts_0 n_X11_convicts_0_e
    rw [x_code1 h, zcS, if_neg (by decide), e, zcS]
  rcases hres with ⟨hno, ex⟩ | ⟨S, hbest, ex⟩
  · rcases hB2 with ⟨rfl, -⟩ | hb
    · refine ⟨-2, X2, M2, ?_, by rw [em, if_neg (by decide)], Rel_search hQ hR hX q fx kb (fr_t (f0 M) f2)⟩
      rw [ex0 _ _ ex, x_tellNone, zcS]
    · exact absurd (EnV_m hn hb.2.1 hb.1) hno
  · rcases hB2 with ⟨-, hno⟩ | hb
    · exact absurd (EnV_m hn hbest.2.1 hbest.1) hno
    · have eST : S = T := Best_eq b255' hbest hb
      subst eST
      have bS : bnd S 16 := bnd_sb hbest.2.1 b255'
      refine ⟨nI (bc S 32), xOne X2 S, mOne M2 S, ?_, by rw [em, if_pos (pos_of_bnd bS).1], Rel_one (Kq_ok hQ) (Rel_search hQ hR hX q fx kb (fr_t (f0 M) f2)) S⟩
      rw [ex0 _ _ ex, x_tellSmallest X2 bS, zcS]
