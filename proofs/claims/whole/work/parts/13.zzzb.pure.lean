/-! rests(code) -/
theorem p_rests {F : Nat} (hF : 2 ^ 40 < F) : S_rests F (Rel (Kq (Qs KP))) := by
  intro X M hR a
  have hK := Kq_ok Qs_ok
  by_cases h : a < 0 ∨ 2303 < a
  · refine ⟨-1, X, zp M 0 0 0, ?_, ?_, hR.thrown 0⟩
    · unfold n_X11_rests_0 n_X11_rests_0_e
      rw [x_code0 h, zcS, if_pos rfl]
    · unfold n_X12_rests_0 n_X12_rests_0_e
      rw [zpS, m_code0 h, zcS, if_pos rfl]
  obtain ⟨c, hc, rfl⟩ := code_of h
  obtain ⟨n, cd, hX, hB, ⟨hS, hP⟩, hM, el, -, -, ew, -⟩ := Rel_ctx hR
  have ea := Rel_md hR
  obtain ⟨X2, sx, l, fx, h1, h2, h3, h4, ex⟩ := x_stepsTo hF hX hP
  have kp2 := KP_settled hX.2.1 h1 h2 h3 h4
  obtain ⟨M2, sm, em, fm2, g⟩ := m_provesM hF (MC_fr hM (f0 M) (by decide) (by decide))
  have g : Mk (M.1 0 11) (M.1 0 8) (Tld n (M.1 0 7) cd) M2 sm := g
  rw [← ea, ← el, ← ew] at g
  have fm' : fr mR mK M M2 := fr_t (f0 M) (fr_w fm2 (by decide) (by decide))
  obtain ⟨t1, t2⟩ := g.1 c hc
  have ux : n_X11_rests_0 F X (nI c) = zcl (n_X5_stepsTo_35 F X (nI c)) (fun v4 S3 => if 0 ≤ v4 then (zcl (n_X5_trace_35 F S3 (nI c)) (fun v6 S5 => zgf S5 716 (fun v7 => zgf S5 717 (fun v8 => zcl (n_X11_tellTwo_0 F S5 v7 v8) (fun v10 S9 => zgf S9 715 (fun v11 => some (v11, S9))))))) else (some ((-2 : Int32), S3))) := by
    unfold n_X11_rests_0 n_X11_rests_0_e
    rw [x_code1 h, zcS, if_neg (by decide)]
  have um : n_X12_rests_0 F M (nI c) = if nI (sm c) = (1000000 : Int32) then (some ((-2 : Int32), M2)) else (zcl (n_X12_restsOn_0_15 F (zp M2 0 33 0) (nI c)) (fun v9 S8 => zpf S8 1 (0 : Int32) (fun S10 => zgf S10 33 (fun v11 => zcl (n_X12_enters_0 F S10 v11) (fun v13 S12 => zld S12 15 1 (0 : Int32) (fun v14 => zcl (n_X12_enters_0 F S12 v14) (fun v16 S15 => some (v9, S15)))))))) := by
    unfold n_X12_rests_0 n_X12_rests_0_e
    rw [zpS, m_code1 h, zcS, if_neg (by decide), em, zcS, zld_nI _ _ _ hc (by omega), t1, zpS]
  rcases st_both h4 g hc with ⟨q1, q2, q3⟩ | ⟨q1, q2, q3⟩
  · have sc : sx c < 268435456 := by omega
    have e64 : X2.1 0 64 = X.1 0 64 := fx.1 64 (by decide)
    obtain ⟨X3, D, e3, f3, c1, c2, c3, c4, c5⟩ := x_trace hF (XC_fr hX fx (by decide) (by decide)) (by rw [e64]; exact h4) h3 h2 hc sc
    rw [e64] at c1 c2 c4 c5
    have kp3 : KP X3 n cd := KP_e kp2 (f3.2.1 36 (by decide) (by decide)) (f3.2.1 37 (by decide) (by decide)) (fun k k1 k2 => f3.1 k (by simp; omega)) (Nat.le_refl _) (fun _ _ => rfl)
    have fx3 : fr pR pK X X3 := fr_t (fr_w fx (by decide) (by decide)) (fr_w f3 (by decide) (by decide))
    -- the reference
    have f33 : fr mR mK M (zp M2 0 33 0) := fr_t fm' (fr_p _ (by decide))
    obtain ⟨mu, mu1, mu2⟩ := dep_ex (T := Tld n (X.1 0 64) cd) (fun c ⟨i, i1, _, i3⟩ => by rw [← i3]; exact (hX.2.2 i i1).2) g.2.2
    obtain ⟨v, M3, D2, e4, f4, d4, r1, r2, r3, r4⟩ := m_restsOn hF (al := X.1 0 66) (lv := X.1 0 65) (wd := X.1 0 64) (n := n) (cd := cd) (st := sm) (mu := mu) (fun i hi => (hX.2.2 i hi).2) mu2 2000 (zp M2 0 33 0) c ⟨fun b hb' => by rw [zp_off _ _ (Or.inl (by decide))]; exact g.1 b hb', g.2⟩ (MC_fr hM f33 (by decide) (by decide)) ((f33.1 11 (by decide)).trans ea.symm) ((f33.1 8 (by decide)).trans el.symm) ((f33.1 7 (by decide)).trans ew.symm) hc q2 (by have := mu1 c hc q2; omega)
    have fm3 : fr mR mK M M3 := fr_t f33 (fr_w f4 (by decide) (by decide))
    have ev : X3.1 0 715 = v := hb_ext fun i _ => Bool.eq_iff_iff.mpr ((c1 i).trans (r1 i).symm)
    have emo : X3.1 0 716 = M3.1 0 33 := hb_ext fun k _ => Bool.eq_iff_iff.mpr ((c2 k).trans ((r2 k).trans (by
      rw [zp_at, hb_0]
      exact ⟨fun w => w.elim (fun w => absurd w (by decide)) id, Or.inr⟩)).symm)
    have eD : D = D2 := by
      obtain ⟨x, x1, x2⟩ := r4
      have b1 := c4 x D2 x1 x2
      rcases c5 with w | ⟨y, y1, y2⟩
      · omega
      · have := r3 y D y1 y2
        omega
    rw [ex c hc, zcS, if_pos sc, if_pos (show (0 : Int32) ≤ nI (sx c) from nI_le (a := 0) (by omega) (by omega)), e3, zcS, zgS, zgS, x_tellTwo, zcS, zgS, (fx_two X3 _ _).1 715 (by decide)] at ux
    rw [if_neg (show ¬ nI (sm c) = (1000000 : Int32) from fun z => by have := (nI_eq (b := 1000000) (by omega) (by omega)).mp z; omega)] at um
    have e4' : n_X12_restsOn_0_15 F (zp M2 0 33 0) (nI c) = some (v, M3) := e4
    rw [e4', zcS, zpS, zgS, zp_off _ _ (Or.inr (by decide)), m_enterOne, zcS, show (0 : Int32) = nI 0 from rfl, zld_nI _ _ _ (by omega) (by omega), (fm_one M3 _).2.1 15 (by decide) (by decide), d4, m_enterTwo, zcS] at um
    refine ⟨v, _, _, by rw [ux, ev], um, ?_⟩
    rw [emo, c3, eD]
    exact Rel_two hK (Rel_prf hR hX hB hS fx3 kp3 fm3) _ _
  · refine ⟨-2, X2, M2, ?_, ?_, Rel_prf hR hX hB hS (fr_w fx (by decide) (by decide)) kp2 fm'⟩
    · rw [ux, ex c hc, zcS, if_neg (show ¬ sx c < 268435456 by omega), if_neg (show ¬ (0 : Int32) ≤ -2 by decide)]
    · rw [um, q2, if_pos (by decide)]
