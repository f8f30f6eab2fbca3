/-! proofs: proof, proved, gap -/
def pR : List Nat := [36, 37, 38, 39, 40]
def pK : List Nat := [706, 707, 708, 709, 710, 711, 712, 713, 714, 715, 716, 717]
theorem KS_e {X X2 : Zs} {n n2 : Nat} {cd cd2 : Nat → Nat} (h : KS X n cd) (e1 : X2.1 0 482 = X.1 0 482) (e2 : X2.1 0 483 = X.1 0 483) (e3 : X2.1 0 484 = X.1 0 484) (e4 : X2.2 = X.2) (hn : n ≤ n2) (hc : ∀ i, i < n → cd2 i = cd i) : KS X2 n2 cd2 := by
  unfold KS
  rw [e2, e3]
  refine h.imp id fun g => ⟨bnd_le g.1 hn, ?_⟩
  have e := sel_n g.1 hc (n2 - n)
  rw [show n + (n2 - n) = n2 by omega] at e
  have ep : PS cd2 n2 (X.1 0 483) (X.1 0 484) = PS cd n (X.1 0 483) (X.1 0 484) := by
    funext c
    unfold PS
    rw [e]
  rw [ep]
  obtain ⟨g1, g2⟩ := g.2
  refine ⟨fun s hs => ?_, e1.trans g2⟩
  have := g1 s hs
  unfold HW at *
  rw [e4]
  exact this
theorem Qs_ok : QOK (Qs KP) := by
  intro X X2 n n2 cd cd2 h hn hc q
  refine ⟨KS_e q.1 (h.1 482 (by decide)) (h.1 483 (by decide)) (h.1 484 (by decide)) h.2.2 hn hc, KP_e q.2 (h.2.1 36 (by decide)) (h.2.1 37 (by decide)) (fun k h1 h2 => h.1 k ?_) hn hc⟩
  rcases (show k = 706 ∨ k = 707 ∨ k = 708 ∨ k = 709 ∨ k = 710 ∨ k = 711 by omega) with e | e | e | e | e | e <;> rw [e] <;> decide
theorem KB_p {X X2 : Zs} {n : Nat} {cd : Nat → Nat} {R K : List Nat} (f : fr R K X X2) (h : KB X n cd) (h1 : 264 ∉ K ∧ 265 ∉ K ∧ 283 ∉ K ∧ 284 ∉ K) (h2 : 15 ∉ R ∧ 16 ∉ R ∧ 17 ∉ R) : KB X2 n cd := by
  unfold KB
  rw [f.1 264 h1.1, f.1 265 h1.2.1]
  exact h.imp id fun g => ⟨g.1, Th_fr g.2 f ⟨by decide, h2.1⟩ ⟨by decide, h2.2.1⟩ ⟨by decide, h2.2.2⟩ h1.2.2.1 h1.2.2.2⟩
/-- proofs have been written on -/
theorem Rel_prf {X M X2 M2 : Zs} {n : Nat} {cd : Nat → Nat} (h : Rel (Kq (Qs KP)) X M) (hX : XC X n cd) (hB : KB X n cd) (hS : KS X n cd) (f : fr pR pK X X2) (kp : KP X2 n cd) (fm : fr mR mK M M2) : Rel (Kq (Qs KP)) X2 M2 :=
  (h.x (fr_x f (by decide) (by decide)) ⟨n, cd, XC_fr hX f (by decide) (by decide), KB_p f hB (by decide) (by decide), KS_e hS (f.1 482 (by decide)) (f.1 483 (by decide)) (f.1 484 (by decide)) f.2.2 (Nat.le_refl _) (fun _ _ => rfl), kp⟩).m (fr_m fm (by decide) (by decide))
theorem x_stepsTo {F : Nat} (hF : 2 ^ 40 < F) {X : Zs} {n : Nat} {cd : Nat → Nat} (hX : XC X n cd) (hK : KP X n cd) : ∃ X2 st l, fr [36, 37, 38, 39] [706, 707, 708, 709, 710, 711] X X2 ∧ X2.1 0 709 = actv n (X.1 0 64) ∧ X2.1 0 710 = X.1 0 65 ∧ X2.1 0 711 = X.1 0 66 ∧ Pk (X.1 0 66) (X.1 0 65) (Tld n (X.1 0 64) cd) X2 st l ∧ ∀ c, c < 2304 → n_X5_stepsTo_35 F X (nI c) = some (if st c < 268435456 then nI (st c) else -2, X2) := by
  obtain ⟨X2, st, l, e, f, h1, h2, h3, h4⟩ := x_settleP hF hX hK
  refine ⟨X2, st, l, f, h1, h2, h3, h4, fun c hc => ?_⟩
  obtain ⟨s1, s2⟩ := h4.1.1 c hc
  unfold n_X5_stepsTo_35 n_X5_stepsTo_35_e n_X5_stepsTo_35_b26
  rw [e, zcS, zld_nI _ _ _ hc (by omega), zld_nI _ _ _ hc (by omega), s1]
  by_cases w : st c < 268435456
  · rw [if_pos w, if_neg (show ¬ (268435456 : Int32) ≤ nI (st c) from nI_ge (b := 268435456) w (by omega))]
  · rw [if_neg w, if_pos (show (268435456 : Int32) ≤ nI (st c) from nI_le (a := 268435456) (by omega) (by omega))]
def xThree (X : Zs) (u v w : Int32) : Zs := zp (zp (xTwo X u v) 47 2 w) 0 10 3
def mThree (M : Zs) (u v w : Int32) : Zs := zp (zp (mTwo M u v) 1 2 w) 0 1 3
theorem m_enterThree (F : Nat) (M : Zs) (u v w : Int32) : n_X12_enters_0 F (mTwo M u v) w = some (0, mThree M u v w) := m_enters F (M := mTwo M u v) (r := 2) rfl (by decide) w
theorem Rel_three {K : Zs → Prop} (hK : KOK K) {X M : Zs} (h : Rel K X M) (u v w : Int32) : Rel K (xThree X u v w) (mThree M u v w) := by
  refine Rel_row hK h (fr_t (fx_two X u v) (fr_t (fr_r _ _ (by decide) (by decide)) (fr_p _ (by decide)))) (fr_t (fm_two M u v) (fr_t (fr_r _ _ (by decide) (by decide)) (fr_p _ (by decide)))) ⟨3, by omega, rfl, rfl, fun i hi => ?_⟩
  show (zp (zp (xTwo X u v) 47 2 w) 0 10 3).1 47 i = (zp (zp (mTwo M u v) 1 2 w) 0 1 3).1 1 i
  rw [zp_row _ _ _ (show 47 ≠ 0 by decide), zp_row _ _ _ (show 1 ≠ 0 by decide)]
  by_cases e : i = 2
  · rw [e, zp_at, zp_at]
  · rw [zp_off _ _ (Or.inr e), zp_off _ _ (Or.inr e)]
    show (zp (zp (zp X 47 0 u) 47 1 v) 0 10 2).1 47 i = (zp (zp (mOne M u) 1 1 v) 0 1 2).1 1 i
    rw [zp_row _ _ _ (show 47 ≠ 0 by decide), zp_row _ _ _ (show 1 ≠ 0 by decide)]
    by_cases e1 : i = 1
    · rw [e1, zp_at, zp_at]
    · rw [zp_off _ _ (Or.inr e1), zp_off _ _ (Or.inr e1), show i = 0 by omega, zp_at]
      show u = (zp (zp (zp M 0 1 0) 1 0 u) 0 1 1).1 1 0
      rw [zp_off _ _ (Or.inl (by decide)), zp_at]
theorem Rel_md {K : Zs → Prop} {X M : Zs} (h : Rel K X M) : X.1 0 66 = M.1 0 11 := h.2.2.2.1.1
/-- proof(code) -/
theorem p_proof {F : Nat} (hF : 2 ^ 40 < F) : S_proof F (Rel (Kq (Qs KP))) := by
  intro X M hR a
  have hK := Kq_ok Qs_ok
  by_cases h : a < 0 ∨ 2303 < a
  · refine ⟨-1, X, zp M 0 0 0, ?_, ?_, hR.thrown 0⟩
    · unfold n_X11_proof_0 n_X11_proof_0_e
      rw [x_code0 h, zcS, if_pos rfl]
    · unfold n_X12_proof_0 n_X12_proof_0_e
      rw [zpS, m_code0 h, zcS, if_pos rfl]
  obtain ⟨c, hc, rfl⟩ := code_of h
  obtain ⟨n, cd, hX, hB, ⟨hS, hP⟩, hM, el, -, -, ew, -⟩ := Rel_ctx hR
  have ea := Rel_md hR
  obtain ⟨X2, sx, l, fx, h1, h2, h3, h4, ex⟩ := x_stepsTo hF hX hP
  have kp2 := KP_settled hX.2.1 h1 h2 h3 h4
  obtain ⟨M2, sm, em, fm2, g⟩ := m_provesM hF (MC_fr hM (f0 M) (by decide) (by decide))
  have g : Mk (M.1 0 11) (M.1 0 8) (Tld n (M.1 0 7) cd) M2 sm := g
  rw [← ea, ← el, ← ew] at g
  have fm' : fr mR mK M M2 := fr_t (f0 M) (fr_w fm2 (by decide) (by decide))
  obtain ⟨t1, t2⟩ := g.1 c hc
  have s2 := (h4.1.1 c hc).2
  have ux : n_X11_proof_0 F X (nI c) = zcl (n_X5_stepsTo_35 F X (nI c)) (fun v4 S3 => if v4 < 0 then (n_X11_proof_0_b66 F  S3 v4) else (zcl (n_X5_findLast_35 F S3 (nI c)) (fun v6 S5 => zgf S5 712 (fun v7 => zgf S5 713 (fun v8 => zcl (n_X11_tellTwo_0 F S5 v7 v8) (fun v10 S9 => zgf S9 714 (fun v11 => zst S9 47 24 (2 : Int32) v11 (fun S12 => zpf S12 10 (3 : Int32) (fun S13 => n_X11_proof_0_b66 F  S13 v4))))))))) := by
    unfold n_X11_proof_0 n_X11_proof_0_e
    rw [x_code1 h, zcS, if_neg (by decide)]
  have um : n_X12_proof_0 F M (nI c) = if nI (sm c) = (1000000 : Int32) then (some ((-2 : Int32), M2)) else (if nI (sm c) ≤ 0 then (n_X12_proof_0_b46 F M2 (nI c)) else (zcl (n_X12_looks_0 F M2 (nI c)) (fun v9 S8 => n_X12_proof_0_b46 F S8 (nI c)))) := by
    unfold n_X12_proof_0 n_X12_proof_0_e
    rw [zpS, m_code1 h, zcS, if_neg (by decide), em, zcS, zld_nI _ _ _ hc (by omega), zld_nI _ _ _ hc (by omega), t1]
  rcases st_both h4 g hc with ⟨q1, q2, q3⟩ | ⟨q1, q2, q3⟩
  · have sc : sx c < 268435456 := by omega
    rw [ex c hc, zcS, if_pos sc, if_neg (nI_pos (by omega)), q1] at ux
    rw [if_neg (show ¬ nI (sm c) = (1000000 : Int32) from fun z => by have := (nI_eq (b := 1000000) (by omega) (by omega)).mp z; omega)] at um
    obtain ⟨X3, e3, f3, g3⟩ := x_last hF h4 h3 h2 hc sc
    have kp3 : KP X3 n cd := KP_e kp2 (f3.2.1 36 (by decide) (by decide)) (f3.2.1 37 (by decide) (by decide)) (fun k k1 k2 => f3.1 k (by simp; omega)) (Nat.le_refl _) (fun _ _ => rfl)
    have fx3 : fr pR pK X X3 := fr_t (fr_w fx (by decide) (by decide)) (fr_w f3 (by decide) (by decide))
    rw [e3, zcS, zgS, zgS, x_tellTwo, zcS, zgS, show (2 : Int32) = nI 2 from rfl, zst_nI _ _ _ _ (by omega) (by omega), zpS] at ux
    have e714 : (xTwo X3 (X3.1 0 712) (X3.1 0 713)).1 0 714 = X3.1 0 714 := (fx_two X3 _ _).1 714 (by decide)
    rw [e714] at ux
    have ux : n_X11_proof_0 F X (nI c) = some (nI (sm c), xThree X3 (X3.1 0 712) (X3.1 0 713) (X3.1 0 714)) := ux
    rcases g3 with ⟨z, y1, y2, y3⟩ | ⟨k, a, og, z, y1, y2, y3, y4⟩
    · have z : sm c = 0 := by omega
      refine ⟨nI (sm c), _, mThree M2 (-1) (-1) (-1), ux, ?_, ?_⟩
      · rw [um, z, if_pos (by decide)]
        unfold n_X12_proof_0_b46 n_X12_proof_0_b60 n_X12_proof_0_b79 n_X12_proof_0_b95 n_X12_proof_0_b111
        rw [zld_nI _ _ _ hc (by omega), t1, z, if_pos (by decide), zpS, if_pos rfl, m_enterOne, zcS, if_pos rfl, m_enterTwo, zcS, if_pos rfl, m_enterThree, zcS, zld_nI _ _ _ hc (by omega)]
        have e14 : (mThree M2 (-1) (-1) (-1)).1 14 c = M2.1 14 c := by
          show (zp (zp (zp (zp (zp (zp (zp M2 0 1 0) 1 0 (-1)) 0 1 1) 1 1 (-1)) 0 1 2) 1 2 (-1)) 0 1 3).1 14 c = _
          rw [zp_off _ _ (Or.inl (by decide)), zp_off _ _ (Or.inl (by decide)), zp_off _ _ (Or.inl (by decide)), zp_off _ _ (Or.inl (by decide)), zp_off _ _ (Or.inl (by decide)), zp_off _ _ (Or.inl (by decide)), zp_off _ _ (Or.inl (by decide))]
        rw [e14, t1, z]
      · rw [y1, y2, y3]
        exact Rel_three hK (Rel_prf hR hX hB hS fx3 kp3 fm') _ _ _
    · have z : 0 < sm c := by omega
      obtain ⟨M3, k', a', og', e4, f4, w1, w2, w3, w4⟩ := m_last hF g (by rw [ea]; exact fm'.1 11 (by decide)) (by rw [el]; exact fm'.1 8 (by decide)) hc z q2
      obtain ⟨p1', p2', p3'⟩ := Pick_u hc y4 w4
      subst p1' p2' p3'
      refine ⟨nI (sm c), _, mThree M3 (nI k) (nI a) (oN og), ux, ?_, ?_⟩
      · have zn : ¬ nI (sm c) ≤ 0 := fun z' => by rw [show (0 : Int32) = nI 0 from rfl, nI_le_iff (by omega) (by omega)] at z'; omega
        rw [um, if_neg zn, e4, zcS]
        have t1' : M3.1 14 c = nI (sm c) := by rw [f4.2.1 14 (by decide) (by decide)]; exact t1
        unfold n_X12_proof_0_b46 n_X12_proof_0_b60 n_X12_proof_0_b79 n_X12_proof_0_b95 n_X12_proof_0_b111
        rw [zld_nI _ _ _ hc (by omega), t1', if_neg zn, zpS, if_neg (by decide), zgS, zp_off _ _ (Or.inr (by decide)), w1, m_enterOne, zcS, if_neg (by decide), zgS]
        have e31 : (mOne M3 (nI k)).1 0 31 = nI a := ((fm_one M3 _).1 31 (by decide)).trans w2
        rw [e31, m_enterTwo, zcS, if_neg (by decide), zgS]
        have e32 : (mTwo M3 (nI k) (nI a)).1 0 32 = oN og := ((fm_two M3 _ _).1 32 (by decide)).trans w3
        rw [e32, m_enterThree, zcS, zld_nI _ _ _ hc (by omega)]
        have e14 : (mThree M3 (nI k) (nI a) (oN og)).1 14 c = M3.1 14 c := by
          show (zp (zp (zp (zp (zp (zp (zp M3 0 1 0) 1 0 _) 0 1 1) 1 1 _) 0 1 2) 1 2 _) 0 1 3).1 14 c = _
          rw [zp_off _ _ (Or.inl (by decide)), zp_off _ _ (Or.inl (by decide)), zp_off _ _ (Or.inl (by decide)), zp_off _ _ (Or.inl (by decide)), zp_off _ _ (Or.inl (by decide)), zp_off _ _ (Or.inl (by decide)), zp_off _ _ (Or.inl (by decide))]
        rw [e14, t1']
      · rw [y1, y2, y3]
        exact Rel_three hK (Rel_prf hR hX hB hS fx3 kp3 (fr_t fm' (fr_w f4 (by decide) (by decide)))) _ _ _
  · refine ⟨-2, X2, M2, ?_, ?_, Rel_prf hR hX hB hS (fr_w fx (by decide) (by decide)) kp2 fm'⟩
    · rw [ux, ex c hc, zcS, if_neg (show ¬ sx c < 268435456 by omega), if_pos (show (-2 : Int32) < 0 by decide)]
      rfl
    · rw [um, q2, if_pos (by decide)]
theorem nd_cnt : ∀ N (l : List Nat), l.Nodup → (∀ x ∈ l, x < N) → cnt (fun c => c ∈ l) N = l.length := by
  intro N
  induction N with
  | zero =>
    intro l _ h
    cases l with
    | nil => rfl
    | cons x l => have := h x (by simp); omega
  | succ N ih =>
    intro l hn h
    by_cases g : N ∈ l
    · have h1 := ih (l.erase N) (hn.erase _) (fun x hx => by
        have h2 := (List.Nodup.mem_erase_iff hn).mp hx
        have := h x h2.2
        have := h2.1
        omega)
      rw [cnt_t g, ← cnt_c (P := fun c => c ∈ l.erase N) (R := fun c => c ∈ l) (fun k hk => by
        rw [List.Nodup.mem_erase_iff hn]
        exact ⟨fun z => z.2, fun z => ⟨by omega, z⟩⟩), h1, List.length_erase_of_mem g]
      have : 0 < l.length := List.length_pos_of_mem g
      omega
    · rw [cnt_f g]
      exact ih l hn (fun x hx => by
        have := h x hx
        by_cases e : x = N
        · rw [e] at hx; exact absurd hx g
        · omega)
/-- proved() -/
theorem p_proved {F : Nat} (hF : 2 ^ 40 < F) : S_proved F (Rel (Kq (Qs KP))) := by
  intro X M hR
  have hK := Kq_ok Qs_ok
  obtain ⟨n, cd, hX, hB, ⟨hS, hP⟩, hM, el, -, -, ew, -⟩ := Rel_ctx hR
  have ea := Rel_md hR
  obtain ⟨X2, sx, l, ex, fx, h1, h2, h3, h4⟩ := x_settleP hF hX hP
  have kp2 := KP_settled hX.2.1 h1 h2 h3 h4
  obtain ⟨M2, sm, em, fm2, g⟩ := m_provesM hF (MC_fr hM (f0 M) (by decide) (by decide))
  have g : Mk (M.1 0 11) (M.1 0 8) (Tld n (M.1 0 7) cd) M2 sm := g
  rw [← ea, ← el, ← ew] at g
  have fm' : fr mR mK M M2 := fr_t (f0 M) (fr_w fm2 (by decide) (by decide))
  obtain ⟨q, hq, e⟩ := zfix_for (f := fun (rc : (Zs × Int32 × Int32 × Int32) → Option (Int32 × Zs)) (u : (Zs × Int32 × Int32 × Int32)) => n_X12_proved_0_b15_l F  (fun S x1 x2 x3 => rc (S, x1, x2, x3)) u.1 u.2.1 u.2.2.1 u.2.2.2) 2304 (fun i u => ∃ t, u = (M2, nI (cnt (fun c => sm c < 1000000) i), nI t, nI i) ∧ t < 1000000 ∧ (∀ c, c < i → sm c < 1000000 → sm c ≤ t) ∧ (t = 0 ∨ ∃ c, c < i ∧ sm c < 1000000 ∧ sm c = t)) (fun t : Nat => (∀ c, c < 2304 → sm c < 1000000 → sm c ≤ t) ∧ (t = 0 ∨ ∃ c, c < 2304 ∧ sm c < 1000000 ∧ sm c = t)) (fun t => some (nI (cnt (fun c => sm c < 1000000) 2304), mOne M2 (nI t))) (by
    rintro i _ hi ⟨t, rfl, y1, y2, y3⟩
    obtain ⟨t1, t2⟩ := g.1 i hi
    have cl := cnt_le (fun c => sm c < 1000000) i
    by_cases w : sm i < 1000000
    · refine Or.inr ⟨(M2, nI (cnt (fun c => sm c < 1000000) (i + 1)), nI (max t (sm i)), nI (i + 1)), ⟨max t (sm i), rfl, by omega, fun c hc hc2 => ?_, ?_⟩, fun rc => ?_⟩
      · by_cases ec : c = i
        · rw [ec]; omega
        · have := y2 c (by omega) hc2; omega
      · rcases (show max t (sm i) = t ∨ max t (sm i) = sm i by omega) with z | z
        · rw [z]; exact y3.imp id fun ⟨c, c1, c2⟩ => ⟨c, by omega, c2⟩
        · rw [z]; exact Or.inr ⟨i, by omega, w, rfl⟩
      · show n_X12_proved_0_b15_l F (fun S x1 x2 x3 => rc (S, x1, x2, x3)) M2 (nI (cnt (fun c => sm c < 1000000) i)) (nI t) (nI i) = _
        unfold n_X12_proved_0_b15_l n_X12_proved_0_b39 n_X12_proved_0_b69
        rw [if_neg (show ¬ (2304 : Int32) ≤ nI i from nI_ge (b := 2304) hi (by omega)), zld_nI _ _ _ hi (by omega), t1, if_neg (show ¬ (1000000 : Int32) ≤ nI (sm i) from nI_ge (b := 1000000) w (by omega)), e_X12_flag, bI_t (by decide), zcS, zlS, nI_1, zld_nI _ _ _ hi (by omega), t1, if_neg (show ¬ (1000000 : Int32) ≤ nI (sm i) from nI_ge (b := 1000000) w (by omega)), zld_nI _ _ _ hi (by omega), t1, zlS, zlS, nI_1, cnt_t (P := fun c => sm c < 1000000) w]
        by_cases z : t < sm i
        · rw [if_pos (by rw [nI_lt_iff (by omega) (by omega)]; exact z), show max t (sm i) = sm i by omega]
        · rw [if_neg (fun z' => by rw [nI_lt_iff (by omega) (by omega)] at z'; exact z z'), show max t (sm i) = t by omega]
    · refine Or.inr ⟨(M2, nI (cnt (fun c => sm c < 1000000) (i + 1)), nI t, nI (i + 1)), ⟨t, rfl, y1, fun c hc hc2 => ?_, y3.imp id fun ⟨c, c1, c2⟩ => ⟨c, by omega, c2⟩⟩, fun rc => ?_⟩
      · by_cases ec : c = i
        · rw [ec] at hc2; exact absurd hc2 w
        · exact y2 c (by omega) hc2
      · show n_X12_proved_0_b15_l F (fun S x1 x2 x3 => rc (S, x1, x2, x3)) M2 (nI (cnt (fun c => sm c < 1000000) i)) (nI t) (nI i) = _
        unfold n_X12_proved_0_b15_l n_X12_proved_0_b39 n_X12_proved_0_b69
        rw [if_neg (show ¬ (2304 : Int32) ≤ nI i from nI_ge (b := 2304) hi (by omega)), zld_nI _ _ _ hi (by omega), t1, if_pos (show (1000000 : Int32) ≤ nI (sm i) from nI_le (a := 1000000) (by omega) (by omega)), e_X12_flag, bI_f (fun z => z rfl), zcS, zlS, zld_nI _ _ _ hi (by omega), t1, if_pos (show (1000000 : Int32) ≤ nI (sm i) from nI_le (a := 1000000) (by omega) (by omega)), zlS, nI_1, cnt_f (P := fun c => sm c < 1000000) w, show nI (cnt (fun c => sm c < 1000000) i) + 0 = nI (cnt (fun c => sm c < 1000000) i + 0) from nI_add _ 0]
        rfl) (by
    rintro _ ⟨t, rfl, y1, y2, y3⟩
    refine ⟨t, ⟨y2, y3⟩, fun rc => ?_⟩
    show n_X12_proved_0_b15_l F (fun S x1 x2 x3 => rc (S, x1, x2, x3)) M2 (nI (cnt (fun c => sm c < 1000000) 2304)) (nI t) (nI 2304) = _
    unfold n_X12_proved_0_b15_l
    rw [if_pos (show (2304 : Int32) ≤ nI 2304 by decide), zpS, m_enterOne, zcS]) F (M2, 0, 0, 0) ⟨0, rfl, by decide, fun c hc => by omega, Or.inl rfl⟩ (by omega)
  obtain ⟨lam, l1, l2, l3⟩ := h4.2.2.2.1
  have mem : ∀ c, c < 2304 → (c ∈ l ↔ sm c < 1000000) := fun c hc => by
    rcases st_both h4 g hc with ⟨q1, q2, q3⟩ | ⟨q1, q2, q3⟩
    · exact ⟨fun _ => q2, fun _ => q3⟩
    · exact ⟨fun z => absurd z q3, fun z => by omega⟩
  have same : ∀ c, c ∈ l → c < 2304 ∧ sx c = sm c := fun c hc => by
    have := (h4.1.2.2.2.2 c).mp hc
    rcases st_both h4 g this.1 with ⟨q1, q2, q3⟩ | ⟨q1, q2, q3⟩
    · exact ⟨this.1, q1⟩
    · exact absurd hc q3
  have elam : lam = q := by
    have a1 : lam ≤ q := by
      rcases l3 with z | ⟨c, c1, c2⟩
      · omega
      · obtain ⟨d1, d2⟩ := same c c1
        have := hq.1 c d1 ((mem c d1).mp c1)
        omega
    have a2 : q ≤ lam := by
      rcases hq.2 with z | ⟨c, c1, c2, c3⟩
      · omega
      · have c4 := (mem c c1).mpr c2
        have := l2 c c4
        have := (same c c4).2
        omega
    omega
  have ecnt : cnt (fun c => sm c < 1000000) 2304 = l.length := by
    rw [← nd_cnt 2304 l h4.1.2.1 (fun x hx => (same x hx).1)]
    exact (cnt_c fun k hk => mem k hk).symm
  refine ⟨nI l.length, xOne X2 (nI lam), mOne M2 (nI lam), ?_, ?_, Rel_one hK (Rel_prf hR hX hB hS (fr_w fx (by decide) (by decide)) kp2 fm') _⟩
  · unfold n_X11_proved_0 n_X11_proved_0_e
    rw [ex, zcS, zgS, l1, x_tellOne, zcS, zgS, (fx_one X2 _).1 707 (by decide), h4.2.1]
  · unfold n_X12_proved_0 n_X12_proved_0_e
    rw [zpS, em, zcS, ← ecnt, elam]
    exact e
/-- gap() -/
theorem p_gap {F : Nat} (hF : 2 ^ 40 < F) : S_gap F (Rel (Kq (Qs KP))) := by
  intro X M hR
  obtain ⟨n, cd, hX, hB, ⟨hS, hP⟩, hM, el, -, -, ew, -⟩ := Rel_ctx hR
  have ea := Rel_md hR
  obtain ⟨w, wc, hW1, hW2⟩ := Rel_want hR
  have bA := bnd_actv hX.2.1 (X.1 0 64)
  obtain ⟨M2, sm, em, fm2, g⟩ := m_provesM hF (MC_fr hM (f0 M) (by decide) (by decide))
  have g : Mk (M.1 0 11) (M.1 0 8) (Tld n (M.1 0 7) cd) M2 sm := g
  rw [← ea, ← el, ← ew] at g
  have fm' : fr mR mK M M2 := fr_t (f0 M) (fr_w fm2 (by decide) (by decide))
  obtain ⟨⟨v, X9⟩, ⟨a1, a2, a3, a4⟩, e1⟩ := zfix_for (f := fun (rc : (Zs × Int32 × Int32) → Option (Int32 × Zs)) (u : (Zs × Int32 × Int32)) => n_X11_gap_0_b4_l F  (fun S x1 x2 => rc (S, x1, x2)) u.1 u.2.1 u.2.2) w (fun i u => ∃ Y v, u = (Y, v, nI i) ∧ fr (cR ++ pR) (cK ++ pK) X Y ∧ KB Y n cd ∧ KP Y n cd ∧ isW v i (fun k => ¬ Con (sel cd (actv n (X.1 0 64)) n ++ [ct (wc k)]) (X.1 0 65) ∧ ¬ sm (wc k) < 1000000)) (fun q : Int32 × Zs => fr (cR ++ pR) (cK ++ pK) X q.2 ∧ KB q.2 n cd ∧ KP q.2 n cd ∧ isW q.1 w (fun k => ¬ Con (sel cd (actv n (X.1 0 64)) n ++ [ct (wc k)]) (X.1 0 65) ∧ ¬ sm (wc k) < 1000000)) (fun q => some (q.1, q.2)) (by
    rintro i _ hi ⟨Y, v, rfl, f1, f2, f3, f4⟩
    have hXY := XC_fr hX f1 (by decide) (by decide)
    have hWY := WC_fr hW1 f1 (by decide) (by decide) (by decide)
    obtain ⟨i1, i2⟩ := hWY.2.2 i hi
    have hw6 := hW1.2.1
    have e64 : Y.1 0 64 = X.1 0 64 := f1.1 64 (by decide)
    have e65 : Y.1 0 65 = X.1 0 65 := f1.1 65 (by decide)
    obtain ⟨r, Y1, y1, y2, y3, y4⟩ := x_entails hF hXY f2 bA i2
    rw [e65] at y3
    have f5 : fr (cR ++ pR) (cK ++ pK) X Y1 := fr_t f1 (fr_w y2 (by decide) (by decide))
    have kp1 : KP Y1 n cd := KP_e f3 (y2.2.1 36 (by decide) (by decide)) (y2.2.1 37 (by decide) (by decide)) (fun k k1 k2 => y2.1 k (by unfold cK; simp; omega)) (Nat.le_refl _) (fun _ _ => rfl)
    have pre : ∀ rc : (Zs × Int32 × Int32) → Option (Int32 × Zs), n_X11_gap_0_b4_l F (fun S x1 x2 => rc (S, x1, x2)) Y v (nI i) = if r = 0 then rc (Y1, v, nI (i + 1)) else (zcl (n_X5_stepsTo_35 F Y1 (nI (wc i))) (fun v8 S7 => if 0 ≤ v8 then rc (S7, v, nI (i + 1)) else rc (S7, v ||| ((1 : Int32) <<< (nI i &&& 31)), nI (i + 1)))) := by
      intro rc
      unfold n_X11_gap_0_b4_l n_X11_gap_0_b60
      rw [zgS, hWY.1, if_neg (fun w => by rw [nI_le_iff (by omega) (by omega)] at w; omega), zld_nI _ _ _ (by omega) (by omega), i1, x_active hXY.1, zcS, e64, y1, zcS]
      simp only [zlS, nI_1]
    by_cases r0 : r = 0
    · refine Or.inr ⟨(Y1, v, nI (i + 1)), ⟨Y1, v, rfl, f5, y4, kp1, isW_f f4 fun z => (isB_0 y3).mp r0 z.1⟩, fun rc => (pre rc).trans (by rw [if_pos r0])⟩
    · have fol := Classical.byContradiction fun z => r0 ((isB_0 y3).mpr z)
      obtain ⟨Y2, sx, l, z1, z2, z3, z4, z5, z6⟩ := x_stepsTo hF (XC_fr hXY y2 (by decide) (by decide)) kp1
      have kp2 := KP_settled hX.2.1 z2 z3 z4 z5
      rw [f5.1 66 (by decide), f5.1 65 (by decide), f5.1 64 (by decide)] at z5
      have f6 : fr (cR ++ pR) (cK ++ pK) X Y2 := fr_t f5 (fr_w z1 (by decide) (by decide))
      have kb2 : KB Y2 n cd := KB_p z1 y4 (by decide) (by decide)
      rcases st_both z5 g i2 with ⟨q1, q2, q3⟩ | ⟨q1, q2, q3⟩
      · refine Or.inr ⟨(Y2, v, nI (i + 1)), ⟨Y2, v, rfl, f6, kb2, kp2, isW_f f4 fun z => z.2 q2⟩, fun rc => (pre rc).trans ?_⟩
        rw [if_neg r0, z6 _ i2, zcS, if_pos (show sx (wc i) < 268435456 by omega), if_pos (show (0 : Int32) ≤ nI (sx (wc i)) from nI_le (a := 0) (by omega) (by omega))]
      · refine Or.inr ⟨(Y2, v ||| ((1 : Int32) <<< (nI i &&& 31)), nI (i + 1)), ⟨Y2, _, rfl, f6, kb2, kp2, isW_t f4 (by omega) ⟨fol, by omega⟩⟩, fun rc => (pre rc).trans ?_⟩
        rw [if_neg r0, z6 _ i2, zcS, if_neg (show ¬ sx (wc i) < 268435456 by omega), if_neg (show ¬ (0 : Int32) ≤ -2 by decide)]) (by
    rintro _ ⟨Y, v, rfl, f1, f2, f3, f4⟩
    refine ⟨(v, Y), ⟨f1, f2, f3, f4⟩, fun rc => ?_⟩
    have hWY := WC_fr hW1 f1 (by decide) (by decide) (by decide)
    have hw6 := hW1.2.1
    show n_X11_gap_0_b4_l F (fun S x1 x2 => rc (S, x1, x2)) Y v (nI w) = _
    unfold n_X11_gap_0_b4_l
    rw [zgS, hWY.1, if_pos (by rw [nI_le_iff (by omega) (by omega)]; omega)]) F (X, 0, 0) ⟨X, 0, rfl, fr_rf _ _ _, hB, hP, isW_0 _⟩ (by have := hW1.2.1; omega)
  dsimp only at a1 a2 a3 a4 e1
  obtain ⟨⟨v2, M9⟩, ⟨b1, b4⟩, e2⟩ := zfix_for (f := fun (rc : (Zs × Int32 × Int32) → Option (Int32 × Zs)) (u : (Zs × Int32 × Int32)) => n_X12_gap_0_b13_l F  (fun S x1 x2 => rc (S, x1, x2)) u.1 u.2.1 u.2.2) w (fun i u => ∃ Y v, u = (Y, v, nI i) ∧ fr [6, 7] [18, 20] M2 Y ∧ isW v i (fun k => ¬ Con (sel cd (actv n (X.1 0 64)) n ++ [ct (wc k)]) (X.1 0 65) ∧ ¬ sm (wc k) < 1000000)) (fun q : Int32 × Zs => fr [6, 7] [18, 20] M2 q.2 ∧ isW q.1 w (fun k => ¬ Con (sel cd (actv n (X.1 0 64)) n ++ [ct (wc k)]) (X.1 0 65) ∧ ¬ sm (wc k) < 1000000)) (fun q => some (q.1, q.2)) (by
    rintro i _ hi ⟨Y, v, rfl, f1, f4⟩
    have fY : fr mR mK M Y := fr_t fm' (fw f1)
    have hMY := MC_fr hM fY (by decide) (by decide)
    have hWY := WC_fr hW2 fY (by decide) (by decide) (by decide)
    obtain ⟨i1, i2⟩ := hWY.2.2 i hi
    have hw6 := hW1.2.1
    obtain ⟨t1, t2⟩ := g.1 _ i2
    have t1' : Y.1 14 (wc i) = nI (sm (wc i)) := by rw [f1.2.1 14 (by decide) (by decide)]; exact t1
    by_cases p : sm (wc i) < 1000000
    · refine Or.inr ⟨(Y, v, nI (i + 1)), ⟨Y, v, rfl, f1, isW_f f4 fun z => z.2 p⟩, fun rc => ?_⟩
      show n_X12_gap_0_b13_l F (fun S x1 x2 => rc (S, x1, x2)) Y v (nI i) = _
      unfold n_X12_gap_0_b13_l n_X12_gap_0_b61 n_X12_gap_0_b62
      rw [zgS, hWY.1, if_neg (fun w => by rw [nI_le_iff (by omega) (by omega)] at w; omega), zld_nI _ _ _ (by omega) (by omega), i1, zld_nI _ _ _ i2 (by omega), t1', if_neg (show ¬ nI (sm (wc i)) = (1000000 : Int32) from fun z => by have := (nI_eq (b := 1000000) (by omega) (by omega)).mp z; omega), zlS, zlS, nI_1, Int32.or_zero]
    · obtain ⟨r, Y1, y1, y2, y3⟩ := m_followsFrom hF hMY (actv n (M.1 0 7)) i2
      rw [fY.1 8 (by decide), ← el, ← ew] at y3
      have pre : ∀ rc : (Zs × Int32 × Int32) → Option (Int32 × Zs), n_X12_gap_0_b13_l F (fun S x1 x2 => rc (S, x1, x2)) Y v (nI i) = if r = 0 then rc (Y1, v, nI (i + 1)) else rc (Y1, v ||| ((1 : Int32) <<< (nI i &&& 31)), nI (i + 1)) := by
        intro rc
        unfold n_X12_gap_0_b13_l n_X12_gap_0_b61 n_X12_gap_0_b62
        rw [zgS, hWY.1, if_neg (fun w => by rw [nI_le_iff (by omega) (by omega)] at w; omega), zld_nI _ _ _ (by omega) (by omega), i1, zld_nI _ _ _ i2 (by omega), t1', if_pos (show nI (sm (wc i)) = (1000000 : Int32) by rw [show sm (wc i) = 1000000 by omega]; rfl), m_standing hMY.1, zcS, fY.1 7 (by decide), zld_nI _ _ _ (by omega) (by omega), i1, y1, zcS]
        simp only [zlS, nI_1, Int32.or_zero]
      by_cases r0 : r = 0
      · exact Or.inr ⟨(Y1, v, nI (i + 1)), ⟨Y1, v, rfl, fr_t f1 y2, isW_f f4 fun z => (isB_0 y3).mp r0 z.1⟩, fun rc => (pre rc).trans (by rw [if_pos r0])⟩
      · have fol := Classical.byContradiction fun z => r0 ((isB_0 y3).mpr z)
        exact Or.inr ⟨(Y1, v ||| ((1 : Int32) <<< (nI i &&& 31)), nI (i + 1)), ⟨Y1, _, rfl, fr_t f1 y2, isW_t f4 (by omega) ⟨fol, p⟩⟩, fun rc => (pre rc).trans (by rw [if_neg r0])⟩) (by
    rintro _ ⟨Y, v, rfl, f1, f4⟩
    refine ⟨(v, Y), ⟨f1, f4⟩, fun rc => ?_⟩
    have fY : fr mR mK M Y := fr_t fm' (fw f1)
    have hWY := WC_fr hW2 fY (by decide) (by decide) (by decide)
    have hw6 := hW1.2.1
    show n_X12_gap_0_b13_l F (fun S x1 x2 => rc (S, x1, x2)) Y v (nI w) = _
    unfold n_X12_gap_0_b13_l
    rw [zgS, hWY.1, if_pos (by rw [nI_le_iff (by omega) (by omega)]; omega)]) F (M2, 0, 0) ⟨M2, 0, rfl, fr_rf _ _ _, isW_0 _⟩ (by have := hW1.2.1; omega)
  dsimp only at b1 b4 e2
  have ev : v = v2 := isW_eq a4 b4 fun _ _ => Iff.rfl
  subst ev
  refine ⟨v, X9, M9, ?_, ?_, ?_⟩
  · unfold n_X11_gap_0 n_X11_gap_0_e
    exact e1
  · unfold n_X12_gap_0 n_X12_gap_0_e
    rw [zpS, em, zcS]
    exact e2
  · refine (hR.x (fr_x a1 (by decide) (by decide)) ⟨n, cd, XC_fr hX a1 (by decide) (by decide), a2, KS_e hS (a1.1 482 (by decide)) (a1.1 483 (by decide)) (a1.1 484 (by decide)) a1.2.2 (Nat.le_refl _) (fun _ _ => rfl), a3⟩).m (fr_m (fr_t fm' (fw b1)) (by decide) (by decide))
