/-! told: the reference, the call -/
theorem m_saying {F : Nat} (hF : 2 ^ 40 < F) {M : Zs} {sg : Nat → Nat} {L a e : Nat} (hB : MB M sg L) (ha : a ≤ min L 76) (he : e < 16) : (∀ p, lnV sg (min L 76) a = (none, p) → ∃ M2, n_X12_readsSaying_0 F (cM M a) (nI e) = some (0, cM M2 p) ∧ fr [2, 3] [] M M2 ∧ ∀ i, i < e → M2.1 2 i = M.1 2 i ∧ M2.1 3 i = M.1 3 i) ∧ ∀ l p, lnV sg (min L 76) a = (some l, p) → n_X12_readsSaying_0 F (cM M a) (nI e) = some (1, cM (zp (zp (zp M 2 e (nI l.1)) 3 e (nI l.2.1)) 0 16 (if l.2.2 = true then M.1 0 16 ||| ((1 : Int32) <<< (nI e &&& 31)) else M.1 0 16)) p) := by
  have hcd := cdV_le (sg := sg) ha
  have kc := m_readsCode hF hB ha
  generalize hT : min L 76 = T at *
  have e1 : n_X12_readsSaying_0 F (cM M a) (nI e) = zcl (n_X12_readsCode_0 F (cM M a)) (fun v2 S1 => zst S1 2 16 (nI e) v2 (fun S3 => zld S3 2 16 (nI e) (fun v4 => if v4 < 0 then (n_X12_readsSaying_0_b36 F S3) else (zcl (n_X12_takes_0 F S3 (64 : Int32)) (fun v6 S5 => if v6 = 0 then (n_X12_readsSaying_0_b36 F S5) else (zcl (n_X12_digit_0 F S5 (7 : Int32)) (fun v8 S7 => zst S7 3 16 (nI e) v8 (fun S9 => zld S9 3 16 (nI e) (fun v10 => if 0 ≤ v10 then (zgf S9 16 (fun v11 => zcl (n_X12_takes_0 F S9 (63 : Int32)) (fun v13 S12 => if v13 = 0 then (n_X12_readsSaying_0_b82 F S12 (0 : Int32) v11) else (n_X12_readsSaying_0_b82 F S12 ((1 : Int32) <<< (nI e &&& 31)) v11)))) else (zrb (0 : Int32) S9)))))))))) := by
    unfold n_X12_readsSaying_0 n_X12_readsSaying_0_e
    rw [if_pos (show nI e < (16 : Int32) from nI_lt (b := 16) he (by omega))]
  rw [kc, zcS, zst_nI _ _ _ _ he (by omega), zld_nI _ _ _ he (by omega), cM_z _ _ _ _ (by decide), cM_r _ _ (by decide), zp_at] at e1
  unfold lnV
  generalize cdV sg T a = r at *
  obtain ⟨c, p0⟩ := r
  cases c with
  | none =>
    refine ⟨fun p hp => ?_, fun l p hp => absurd (Prod.mk.inj hp).1 (by simp)⟩
    have hp : (none, p0) = (none, p) := hp
    obtain ⟨-, rfl⟩ := Prod.mk.inj hp
    refine ⟨zp M 2 e (-1), ?_, fr_r _ _ (by decide) (by decide), fun i hi => ⟨zp_off _ _ (Or.inr (by omega)), zp_off _ _ (Or.inl (by decide))⟩⟩
    rw [e1, show oN (none, p0).1 = (-1 : Int32) from rfl, if_pos (by decide)]
    exact zrb_0 _
  | some c =>
    obtain ⟨c1, c2⟩ := hcd.2.2 c rfl
    have hp0 : p0 ≤ T := hcd.1
    dsimp only at e1 ⊢
    rw [show oN (some c) = nI c from rfl, if_neg (nI_pos (by omega))] at e1
    have hB2 : MB (zp M 2 e (nI c)) sg L := MB_fr hB (fr_r (R := [2]) (K := []) _ _ (by decide) (by decide)) (by decide) (by decide)
    have k64 : n_X12_takes_0 F (cM (zp M 2 e (nI c)) p0) 64 = _ := m_takes (F := F) (c := 64) hB2 (show p0 ≤ min L 76 by rw [hT]; exact hp0) (by omega)
    rw [hT] at k64
    rw [k64, zcS] at e1
    cases e64 : tkB sg T p0 64 with
    | false =>
      rw [e64, if_pos (show bI (false = true) = 0 by decide)] at e1
      rw [if_neg (show ¬ false = true by decide)]
      refine ⟨fun p hp => ?_, fun l p hp => absurd (Prod.mk.inj hp).1 (by simp)⟩
      obtain ⟨-, rfl⟩ := Prod.mk.inj hp
      refine ⟨zp M 2 e (nI c), ?_, fr_r _ _ (by decide) (by decide), fun i hi => ⟨zp_off _ _ (Or.inr (by omega)), zp_off _ _ (Or.inl (by decide))⟩⟩
      rw [e1]
      exact zrb_0 _
    | true =>
      rw [e64, if_neg (show ¬ bI (true = true) = 0 by decide), show p0 + (true).toNat = p0 + 1 from rfl] at e1
      have hp1 : p0 + 1 ≤ T := (tkB_t e64).1
      have kd : n_X12_digit_0 F (cM (zp M 2 e (nI c)) (p0 + 1)) 7 = _ := m_digit (F := F) (k := 7) hB2 (show p0 + 1 ≤ min L 76 by rw [hT]; exact hp1) (by omega)
      rw [hT] at kd
      rw [kd, zcS, zst_nI _ _ _ _ he (by omega), zld_nI _ _ _ he (by omega), cM_z _ _ _ _ (by decide), cM_r _ _ (by decide), zp_at] at e1
      rw [if_pos (show true = true from rfl)]
      cases ew : wiB sg T (p0 + 1) 48 55 with
      | false =>
        rw [show wiB sg T (p0 + 1) 48 (48 + 7) = false from ew, if_neg (show ¬ false = true by decide), if_neg (show ¬ (0 : Int32) ≤ -1 by decide), zrb_0] at e1
        rw [if_neg (show ¬ false = true by decide)]
        refine ⟨fun p hp => ?_, fun l p hp => absurd (Prod.mk.inj hp).1 (by simp)⟩
        obtain ⟨-, rfl⟩ := Prod.mk.inj hp
        refine ⟨zp (zp M 2 e (nI c)) 3 e (-1), e1, fr_t (fr_r _ _ (by decide) (by decide)) (fr_r _ _ (by decide) (by decide)), fun i hi => ⟨?_, ?_⟩⟩
        · rw [zp_off _ _ (Or.inl (by decide)), zp_off _ _ (Or.inr (by omega))]
        · rw [zp_off _ _ (Or.inr (by omega)), zp_off _ _ (Or.inl (by decide))]
      | true =>
        obtain ⟨w1, w2, w3⟩ := wiB_t ew
        rw [show wiB sg T (p0 + 1) 48 (48 + 7) = true from ew, if_pos (show true = true from rfl), if_pos (Int32.not_lt.mp (nI_pos (by omega))), show p0 + 1 + (true).toNat = p0 + 1 + 1 from rfl, zgS] at e1
        rw [if_pos (show true = true from rfl)]
        have hB3 : MB (zp (zp M 2 e (nI c)) 3 e (nI (sg (p0 + 1) - 48))) sg L := MB_fr hB2 (fr_r (R := [3]) (K := []) _ _ (by decide) (by decide)) (by decide) (by decide)
        have k63 : n_X12_takes_0 F (cM (zp (zp M 2 e (nI c)) 3 e (nI (sg (p0 + 1) - 48))) (p0 + 1 + 1)) 63 = _ := m_takes (F := F) (c := 63) hB3 (show p0 + 1 + 1 ≤ min L 76 by rw [hT]; exact w1) (by omega)
        rw [hT] at k63
        rw [k63, zcS, cM_f _ _ (by decide), zp_off _ _ (Or.inl (by decide)), zp_off _ _ (Or.inl (by decide))] at e1
        refine ⟨fun p hp => absurd (Prod.mk.inj hp).1 (by simp), fun l p hp => ?_⟩
        obtain ⟨hl, rfl⟩ := Prod.mk.inj hp
        have hl := Option.some.inj hl
        subst hl
        have b82 : ∀ (q : Nat) (t1 t0 : Int32), n_X12_readsSaying_0_b82 F (cM (zp (zp M 2 e (nI c)) 3 e (nI (sg (p0 + 1) - 48))) q) t0 t1 = some (1, cM (zp (zp (zp M 2 e (nI c)) 3 e (nI (sg (p0 + 1) - 48))) 0 16 (t1 ||| t0)) q) := by
          intro q t1 t0
          unfold n_X12_readsSaying_0_b82
          rw [zpS, zrb_1]
          unfold cM
          rw [zpf_c _ _ _ (by decide)]
        rw [e1, b82, b82]
        cases ed : tkB sg T (p0 + 1 + 1) 63 with
        | true => rw [if_neg (show ¬ bI (true = true) = 0 by decide)]; rfl
        | false => rw [if_pos (show bI (false = true) = 0 by decide), or_0]; rfl
def flt (g : Bool) (L a : Nat) : Int32 := if g = true ∧ a = L then 0 else -1 - nI a
theorem m_fault {F : Nat} {M : Zs} {sg : Nat → Nat} {L a : Nat} (hB : MB M sg L) (ha : a ≤ min L 76) (g : Bool) : n_X12_faultOf_0 F (cM M a) (nI L) (bI (g = true)) = some (flt g L a, cM M a) := by
  obtain ⟨h1, h2, h3⟩ := hB
  have e76 : (-77 : Int32) = -1 - nI 76 := by decide
  have b43 : ∀ t, n_X12_faultOf_0_b43 F (cM M a) t = if t = 0 then some (-1 - nI a, cM M a) else some (0, cM M a) := by
    intro t
    unfold n_X12_faultOf_0_b43 n_X12_faultOf_0_b57
    rw [zgS, cM_at]
  have hc : ((nI L : Int32) ≤ 76) = (L ≤ 76) := propext (nI_le_iff (b := 76) (by omega) (by omega))
  have hc2 : ((nI a : Int32) < 76) = (a < 76) := propext (nI_lt_iff (b := 76) (by omega) (by omega))
  have b20 : ∀ t, n_X12_faultOf_0_b20 F (cM M a) (nI L) t = if L ≤ 76 then (if t = 0 then some (-1 - nI a, cM M a) else some (0, cM M a)) else if t = 0 then some (-1 - nI a, cM M a) else some (-77, cM M a) := by
    intro t
    unfold n_X12_faultOf_0_b20 n_X12_faultOf_0_b40
    rw [b43, zgS, cM_at]
    simp only [hc, hc2]
    by_cases q : L ≤ 76
    · rw [if_pos q, if_pos q]
    · rw [if_neg q, if_neg q]
      by_cases q2 : t = 0
      · rw [if_pos q2, if_pos q2]
        by_cases q3 : a < 76
        · rw [if_pos q3, if_pos q2]
        · rw [if_neg q3, if_pos q2, e76, show a = 76 by omega]
      · rw [if_neg q2, if_neg q2]
  unfold n_X12_faultOf_0 n_X12_faultOf_0_e n_X12_faultOf_0_b19 flt
  rw [b20, b20, zgS, zgS, cM_at, cM_f _ _ (by decide), h1]
  cases g with
  | false =>
    rw [if_pos (show bI (false = true) = 0 by decide), if_neg (show ¬ (false = true ∧ a = L) from fun w => absurd w.1 (by decide)), if_pos rfl, if_pos rfl, ite_self]
  | true =>
    rw [if_neg (show ¬ bI (true = true) = 0 by decide)]
    by_cases q : a = min L 76
    · rw [if_pos (by rw [q]), if_neg (show ¬ (1 : Int32) = 0 by decide), if_neg (show ¬ (1 : Int32) = 0 by decide)]
      by_cases q2 : L ≤ 76
      · rw [if_pos q2, if_pos ⟨rfl, by omega⟩]
      · rw [if_neg q2, if_neg (show ¬ (true = true ∧ a = L) from fun w => by have := w.2; omega), e76, show a = 76 by omega]
    · rw [if_neg (fun w => q ((nI_eq (by omega) (by omega)).mp w)), if_pos rfl, if_pos rfl, ite_self, if_neg (show ¬ (true = true ∧ a = L) from fun w => by have := w.2; omega)]
theorem m_told {F : Nat} (hF : 2 ^ 40 < F) {M : Zs} {sg : Nat → Nat} {n L : Nat} (h3 : M.1 0 3 = nI n) (hn : n ≤ 16) (h16 : M.1 0 16 = 0) (hB : MB M sg L) (b0 : Bool) : ∃ q : Zs × Int32, (fr [2, 3] [16] M q.1 ∧ Low q.1 M 2 3 n ∧ ((pl sg (min L 76) 17 n b0 0).2.1 = true → Lns q.1 2 3 n (pl sg (min L 76) 17 n b0 0).1 ∧ DB (q.1.1 0 16) n (pl sg (min L 76) 17 n b0 0).1 ∧ q.2 = nI (pl sg (min L 76) 17 n b0 0).1.length)) ∧ n_X12_told_0_b30 F (cM M 0) (nI L) 0 1 (bI (b0 = true)) = n_X12_told_0_b30_l F (fun _ _ _ _ _ => none) (cM q.1 (pl sg (min L 76) 17 n b0 0).2.2) (nI L) q.2 (bI ((pl sg (min L 76) 17 n b0 0).2.1 = true)) 0 := by
  generalize hT : min L 76 = T at *
  exact zfix_for (f := fun (rc : (Zs × Int32 × Int32 × Int32 × Int32) → Option (Int32 × Zs)) (u : (Zs × Int32 × Int32 × Int32 × Int32)) => n_X12_told_0_b30_l F  (fun S x1 x2 x3 x4 => rc (S, x1, x2, x3, x4)) u.1 u.2.1 u.2.2.1 u.2.2.2.1 u.2.2.2.2) 18 (fun m s => ∃ M' v g a b Lp, s = (cM M' a, nI L, v, bI (g = true), bI (b = true)) ∧ fr [2, 3] [16] M M' ∧ Low M' M 2 3 n ∧ a ≤ T ∧ ((g = true ∧ v = nI m ∧ Lns M' 2 3 n Lp ∧ DB (M'.1 0 16) n Lp ∧ Lp.length = m ∧ n + m ≤ 16 ∧ pl sg T 17 n b0 0 = (Lp ++ (pl sg T (17 - m) (n + m) b a).1, (pl sg T (17 - m) (n + m) b a).2)) ∨ (g = false ∧ b = false ∧ pl sg T 17 n b0 0 = (Lp, false, a)))) (fun q : Zs × Int32 => fr [2, 3] [16] M q.1 ∧ Low q.1 M 2 3 n ∧ ((pl sg T 17 n b0 0).2.1 = true → Lns q.1 2 3 n (pl sg T 17 n b0 0).1 ∧ DB (q.1.1 0 16) n (pl sg T 17 n b0 0).1 ∧ q.2 = nI (pl sg T 17 n b0 0).1.length)) (fun q => n_X12_told_0_b30_l F (fun _ _ _ _ _ => none) (cM q.1 (pl sg T 17 n b0 0).2.2) (nI L) q.2 (bI ((pl sg T 17 n b0 0).2.1 = true)) 0) (by
    rintro m _ hm ⟨M', v, g, a, b, Lp, rfl, hf, hlo, ha, hcs⟩
    have hB' := MB_fr hB hf (by decide) (by decide)
    have e0 : ∀ rc : (Zs × Int32 × Int32 × Int32 × Int32) → Option (Int32 × Zs), n_X12_told_0_b30_l F (fun S x1 x2 x3 x4 => rc (S, x1, x2, x3, x4)) (cM M' a) (nI L) v (bI (g = true)) 0 = n_X12_told_0_b30_l F (fun _ _ _ _ _ => none) (cM M' a) (nI L) v (bI (g = true)) 0 := by
      intro rc
      unfold n_X12_told_0_b30_l
      rw [if_pos rfl, if_pos rfl]
    rcases hcs with ⟨rfl, rfl, hln, hdb, hlen, hnm, hpl⟩ | ⟨rfl, rfl, hpl⟩
    · cases b with
      | false =>
        obtain ⟨k, hk⟩ : ∃ k, 17 - m = k + 1 := ⟨16 - m, by omega⟩
        rw [hk, pl_f, List.append_nil] at hpl
        rw [hpl]
        exact Or.inl ⟨(M', nI m), ⟨hf, hlo, fun _ => ⟨hln, hdb, by rw [hlen]⟩⟩, e0⟩
      | true =>
        obtain ⟨k, hk⟩ : ∃ k, 17 - m = k + 1 := ⟨16 - m, by omega⟩
        rw [hk] at hpl
        have h3' : (cM M' a).1 0 3 = nI n := by rw [cM_f _ _ (by decide), hf.1 3 (by decide)]; exact h3
        have e1 : ∀ rc : (Zs × Int32 × Int32 × Int32 × Int32) → Option (Int32 × Zs), n_X12_told_0_b30_l F (fun S x1 x2 x3 x4 => rc (S, x1, x2, x3, x4)) (cM M' a) (nI L) (nI m) (bI (true = true)) (bI (true = true)) = zcl (n_X12_readsSaying_0 F (cM M' a) (nI (n + m))) (fun v10 S9 => if v10 = 0 then rc (S9, nI L, nI (m + 1), v10, 0) else (zcl (n_X12_takes_0 F S9 (59 : Int32)) (fun v13 S12 => if v13 = 0 then rc (S12, nI L, nI (m + 1), v10, 0) else rc (S12, nI L, nI (m + 1), v10, 1)))) := by
          intro rc
          unfold n_X12_told_0_b30_l n_X12_told_0_b66 n_X12_told_0_b67
          rw [if_neg (show ¬ bI (true = true) = 0 by decide)]
          simp only [zgS, zlS, nI_1]
          rw [h3', nI_add]
        have fail : ∀ M2 p, p ≤ T → fr [2, 3] [16] M M2 → Low M2 M 2 3 n → pl sg T (k + 1) (n + m) true a = ([], false, p) → (∀ rc : (Zs × Int32 × Int32 × Int32 × Int32) → Option (Int32 × Zs), n_X12_told_0_b30_l F (fun S x1 x2 x3 x4 => rc (S, x1, x2, x3, x4)) (cM M' a) (nI L) (nI m) (bI (true = true)) (bI (true = true)) = rc (cM M2 p, nI L, nI (m + 1), 0, 0)) → ∃ s : Zs × Int32 × Int32 × Int32 × Int32, (∃ M' v g a b Lp, s = (cM M' a, nI L, v, bI (g = true), bI (b = true)) ∧ fr [2, 3] [16] M M' ∧ Low M' M 2 3 n ∧ a ≤ T ∧ ((g = true ∧ v = nI (m + 1) ∧ Lns M' 2 3 n Lp ∧ DB (M'.1 0 16) n Lp ∧ Lp.length = m + 1 ∧ n + (m + 1) ≤ 16 ∧ pl sg T 17 n b0 0 = (Lp ++ (pl sg T (17 - (m + 1)) (n + (m + 1)) b a).1, (pl sg T (17 - (m + 1)) (n + (m + 1)) b a).2)) ∨ (g = false ∧ b = false ∧ pl sg T 17 n b0 0 = (Lp, false, a)))) ∧ ∀ rc : (Zs × Int32 × Int32 × Int32 × Int32) → Option (Int32 × Zs), n_X12_told_0_b30_l F (fun S x1 x2 x3 x4 => rc (S, x1, x2, x3, x4)) (cM M' a) (nI L) (nI m) (bI (true = true)) (bI (true = true)) = rc s := by
          intro M2 p hp f2 l2 h1 h2
          rw [h1] at hpl
          exact ⟨_, ⟨M2, nI (m + 1), false, p, false, Lp ++ [], rfl, f2, l2, hp, Or.inr ⟨rfl, rfl, hpl⟩⟩, h2⟩
        by_cases g16 : n + m < 16
        · obtain ⟨s1, s2⟩ := m_saying hF hB' (show a ≤ min L 76 by rw [hT]; exact ha) g16
          rw [hT] at s1 s2
          have hln' := lnV_le (sg := sg) ha
          cases el : lnV sg T a with
          | mk o p =>
            rw [el] at hln'
            cases o with
            | none =>
              obtain ⟨M2, q1, q2, q3⟩ := s1 p el
              refine Or.inr (fail M2 p hln'.1 (fr_t hf (fr_w q2 (by decide) (by decide))) (fun i hi => ?_) (pl_n g16 el) fun rc => ?_)
              · rw [(q3 i (by omega)).1, (q3 i (by omega)).2]; exact hlo i hi
              · rw [e1, q1, zcS, if_pos rfl]
            | some l =>
              have q1 := s2 l p el
              obtain ⟨l1, l2⟩ := hln'.2 l rfl
              have hp : p ≤ T := hln'.1
              generalize hM2 : zp (zp (zp M' 2 (n + m) (nI l.1)) 3 (n + m) (nI l.2.1)) 0 16 (if l.2.2 = true then M'.1 0 16 ||| ((1 : Int32) <<< (nI (n + m) &&& 31)) else M'.1 0 16) = M2 at q1
              have f2 : fr [2, 3] [16] M' M2 := by
                rw [← hM2]
                exact fr_t (fr_r _ _ (by decide) (by decide)) (fr_t (fr_r _ _ (by decide) (by decide)) (fr_p _ (by decide)))
              have hB2 := MB_fr hB' f2 (by decide) (by decide)
              have k59 : n_X12_takes_0 F (cM M2 p) 59 = _ := m_takes (F := F) (c := 59) hB2 (show p ≤ min L 76 by rw [hT]; exact hp) (by omega)
              rw [hT] at k59
              refine Or.inr ⟨(cM M2 (p + (tkB sg T p 59).toNat), nI L, nI (m + 1), bI (true = true), bI (tkB sg T p 59 = true)), ⟨M2, nI (m + 1), true, _, _, Lp ++ [l], rfl, fr_t hf f2, ?_, tk_le hp, Or.inl ⟨rfl, rfl, ?_, ?_, by rw [List.length_append, hlen]; rfl, by omega, ?_⟩⟩, fun rc => ?_⟩
              · rw [← hM2]
                intro i hi
                rw [zp_row _ _ _ (show (2 : Nat) ≠ 0 by decide), zp_row _ _ _ (show (3 : Nat) ≠ 0 by decide)]
                exact Low_z (Low_z hlo (by omega) _ _) (by omega) _ _ i hi
              · rw [← hM2]
                have := Lns_snoc hln l1 l2 (show (2 : Nat) ≠ 3 by decide)
                rw [hlen] at this
                intro j x hx
                rw [zp_row _ _ _ (show (2 : Nat) ≠ 0 by decide), zp_row _ _ _ (show (3 : Nat) ≠ 0 by decide)]
                exact this j x hx
              · rw [← hM2, zp_at]
                obtain ⟨c, w, dd⟩ := l
                cases dd with
                | true =>
                  have := DB_t hdb (by omega) c w
                  rw [hlen] at this
                  exact this
                | false => exact DB_f hdb c w
              · rw [hpl, pl_l g16 el, show 17 - (m + 1) = k by omega, List.append_assoc]; rfl
              · rw [e1, q1, zcS, if_neg (by decide), k59, zcS]
                cases tkB sg T p 59 with
                | true => rw [if_neg (show ¬ bI (true = true) = 0 by decide)]; rfl
                | false => rw [if_pos (show bI (false = true) = 0 by decide)]; rfl
        · refine Or.inr (fail M' a ha hf hlo (pl_16 sg T k a g16) fun rc => ?_)
          rw [e1]
          unfold n_X12_readsSaying_0 n_X12_readsSaying_0_e
          rw [if_neg (show ¬ nI (n + m) < (16 : Int32) from fun w => by rw [c16, nI_lt_iff (by omega) (by omega)] at w; omega), zrb_0, zcS, if_pos rfl]
    · rw [hpl]
      exact Or.inl ⟨(M', v), ⟨hf, hlo, fun w => absurd w (by simp)⟩, e0⟩) (by
    rintro _ ⟨M', v, g, a, b, Lp, rfl, hf, hlo, ha, hcs⟩
    rcases hcs with ⟨-, -, -, -, -, hnm, -⟩ | ⟨rfl, rfl, hpl⟩
    · omega
    · rw [hpl]
      refine ⟨(M', v), ⟨hf, hlo, fun w => absurd w (by simp)⟩, fun rc => ?_⟩
      show n_X12_told_0_b30_l F (fun S x1 x2 x3 x4 => rc (S, x1, x2, x3, x4)) (cM M' a) (nI L) v (bI (false = true)) (bI (false = true)) = _
      unfold n_X12_told_0_b30_l
      rw [if_pos (show bI (false = true) = 0 by decide), if_pos rfl]) F (cM M 0, nI L, 0, 1, bI (b0 = true)) ⟨M, 0, true, 0, b0, [], rfl, fr_rf _ _ _, fun _ _ => ⟨rfl, rfl⟩, by omega, Or.inl ⟨rfl, rfl, fun j l h => absurd h (by simp), by rw [h16]; exact DB_0 n, rfl, by omega, rfl⟩⟩ (by omega)
