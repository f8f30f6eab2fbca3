/-! proofs: the class settles all -/
/-- the rows are true of what is told -/
def Pk (al lv : Int32) (T : Nat → Prop) (S : Zs) (st : Nat → Nat) (l : List Nat) : Prop := Dk S st l ∧ S.1 0 707 = nI l.length ∧ (∀ i j c d : Nat, i ≤ j → l[i]? = some c → l[j]? = some d → st c ≤ st d) ∧ (∃ lam, S.1 0 708 = nI lam ∧ (∀ c, c ∈ l → st c ≤ lam) ∧ (lam = 0 ∨ ∃ c, c ∈ l ∧ st c = lam)) ∧ (∀ c, c < 2304 → st c < 268435456 → st c < 1000000 ∧ Ls al lv T c (st c)) ∧ ∀ c n, Cost al lv T c n → st c < 268435456
theorem Pf_all {l : List Nat} {c : Nat} : Pf l l.length c ↔ c ∈ l := by
  rw [List.mem_iff_getElem?]
  exact ⟨fun ⟨i, _, h⟩ => ⟨i, h⟩, fun ⟨i, h⟩ => ⟨i, gt_lt h, h⟩⟩
theorem Sd_Pk {al lv : Int32} {T : Nat → Prop} (hT : ∀ c, T c → c < 2304) {S : Zs} {st : Nat → Nat} {l : List Nat} (h : Sd al lv T S st l l.length) : Pk al lv T S st l := by
  obtain ⟨h1, h2, h3, h4, h5, h6, ⟨lam, l1, l2, l3, l4⟩, h8, h9, h10, h11⟩ := h
  have mem := h1.2.2.2.2
  have key := Ls_of (B := 268435456) h8 (fun c hc => ⟨hT c hc, h9 c hc⟩) (fun k a c og r ha => Ru_lt r ha) (fun a c r hb' => h10 a c (Pf_all.mpr ((mem a).mpr ⟨r.1, by omega⟩)) r) (fun a d c r hb' => h11 a d c (Pf_all.mpr ((mem a).mpr ⟨r.1, by omega⟩)) (Pf_all.mpr ((mem d).mpr ⟨r.2.1, by omega⟩)) r)
  refine ⟨h1, h2, fun i j c d hij hi hj => h6 i j c d hij (gt_lt hj) hi hj, ⟨lam, l1, fun c hc => l3 c (Pf_all.mpr hc), l4.imp id fun ⟨c, c1, c2⟩ => ⟨c, Pf_all.mp c1, c2⟩⟩, fun c hc hc2 => ⟨Ls_bnd hT (key.2 c hc hc2), key.2 c hc hc2⟩, fun c n g => ?_⟩
  obtain ⟨m, m1, -, m3⟩ := Cost_bnd hT g
  have := key.1 c m m3.1 (by omega)
  omega
theorem x_fill36 {F : Nat} (hF : 2 ^ 40 < F) (S : Zs) : ∃ X, (fr [36] [] S X ∧ ∀ b, b < 2304 → X.1 36 b = nI 268435456) ∧ n_X5_settle_35_b74 F S 0 = n_X5_settle_35_b97 F X 0 := by
  obtain ⟨q, hq, e⟩ := zfix_for (f := fun (rc : (Zs × Int32) → Option (Int32 × Zs)) (u : (Zs × Int32)) => n_X5_settle_35_b74_l F  (fun S x2 => rc (S, x2)) u.1 u.2) 2304 (fun i u => ∃ X, u = (X, nI i) ∧ fr [36] [] S X ∧ ∀ b, b < i → X.1 36 b = nI 268435456) (fun X : Zs => fr [36] [] S X ∧ ∀ b, b < 2304 → X.1 36 b = nI 268435456) (fun X => n_X5_settle_35_b97 F X 0) (by
    rintro i _ hi ⟨X, rfl, f1, f2⟩
    refine Or.inr ⟨(zp X 36 i (nI 268435456), nI (i + 1)), ⟨_, rfl, fr_t f1 (fr_r _ _ (by decide) (by decide)), fun b hb' => ?_⟩, fun rc => ?_⟩
    · by_cases e : b = i
      · rw [e, zp_at]
      · rw [zp_off _ _ (Or.inr e)]; exact f2 b (by omega)
    · show n_X5_settle_35_b74_l F (fun S x2 => rc (S, x2)) X (nI i) = _
      unfold n_X5_settle_35_b74_l
      rw [if_neg (show ¬ (2304 : Int32) ≤ nI i from nI_ge (b := 2304) hi (by omega)), zst_nI _ _ _ _ hi (by omega), zlS, nI_1]; rfl) (by
    rintro _ ⟨X, rfl, f1, f2⟩
    refine ⟨X, ⟨f1, f2⟩, fun rc => ?_⟩
    show n_X5_settle_35_b74_l F (fun S x2 => rc (S, x2)) X (nI 2304) = _
    unfold n_X5_settle_35_b74_l
    rw [if_pos (show (2304 : Int32) ≤ nI 2304 by decide)]) F (S, 0) ⟨S, rfl, fr_rf _ _ _, fun b hb' => by omega⟩ (by omega)
  exact ⟨q, hq, e⟩
theorem x_fill38 {F : Nat} (hF : 2 ^ 40 < F) (S : Zs) : ∃ X, (fr [38, 39] [] S X ∧ ∀ b, b < 96 → X.1 38 b = 0 ∧ X.1 39 b = 0) ∧ n_X5_settle_35_b97 F S 0 = n_X5_settle_35_b133 F (zp X 0 706 0) 0 := by
  obtain ⟨q, hq, e⟩ := zfix_for (f := fun (rc : (Zs × Int32) → Option (Int32 × Zs)) (u : (Zs × Int32)) => n_X5_settle_35_b97_l F  (fun S x2 => rc (S, x2)) u.1 u.2) 96 (fun i u => ∃ X, u = (X, nI i) ∧ fr [38, 39] [] S X ∧ ∀ b, b < i → X.1 38 b = 0 ∧ X.1 39 b = 0) (fun X : Zs => fr [38, 39] [] S X ∧ ∀ b, b < 96 → X.1 38 b = 0 ∧ X.1 39 b = 0) (fun X => n_X5_settle_35_b133 F (zp X 0 706 0) 0) (by
    rintro i _ hi ⟨X, rfl, f1, f2⟩
    refine Or.inr ⟨(zp (zp X 38 i 0) 39 i 0, nI (i + 1)), ⟨_, rfl, fr_t f1 (fr_t (fr_r _ _ (by decide) (by decide)) (fr_r _ _ (by decide) (by decide))), fun b hb' => ?_⟩, fun rc => ?_⟩
    · by_cases e : b = i
      · rw [e, zp_at, zp_off _ _ (Or.inl (by decide)), zp_at]; exact ⟨rfl, rfl⟩
      · rw [zp_off _ _ (Or.inl (by decide)), zp_off _ _ (Or.inr e), zp_off _ _ (Or.inr e), zp_off _ _ (Or.inl (by decide))]; exact f2 b (by omega)
    · show n_X5_settle_35_b97_l F (fun S x2 => rc (S, x2)) X (nI i) = _
      unfold n_X5_settle_35_b97_l
      rw [if_neg (fun w => by rw [nI_le_iff (by omega) (by omega)] at w; omega), zst_nI _ _ _ _ hi (by omega), zst_nI _ _ _ _ hi (by omega), zlS, nI_1]) (by
    rintro _ ⟨X, rfl, f1, f2⟩
    refine ⟨X, ⟨f1, f2⟩, fun rc => ?_⟩
    show n_X5_settle_35_b97_l F (fun S x2 => rc (S, x2)) X (nI 96) = _
    unfold n_X5_settle_35_b97_l
    rw [if_pos (by decide), zpS]) F (S, 0) ⟨S, rfl, fr_rf _ _ _, fun b hb' => by omega⟩ (by omega)
  exact ⟨q, hq, e⟩
theorem x_toldP {F : Nat} (hF : 2 ^ 40 < F) {S : Zs} {n : Nat} {cd : Nat → Nat} (hX : XC S n cd) (h : Dk S (fun _ => 268435456) []) : ∃ q : Zs × (Nat → Nat) × List Nat, (fr [36, 37] [706] S q.1 ∧ Dk q.1 q.2.1 q.2.2 ∧ Rx (fun c v => v = 0 ∧ Tld n (S.1 0 64) cd c) (fun _ => 268435456) q.2.1) ∧ n_X5_settle_35_b133 F S 0 = n_X5_settle_35_b187 F (zp (zp q.1 0 707 0) 0 708 0) 0 := by
  obtain ⟨x1, x2, x3⟩ := hX
  obtain ⟨q, hq, e⟩ := zfix_for (f := fun (rc : (Zs × Int32) → Option (Int32 × Zs)) (u : (Zs × Int32)) => n_X5_settle_35_b133_l F  (fun S x2 => rc (S, x2)) u.1 u.2) n (fun i u => ∃ X st l, u = (X, nI i) ∧ fr [36, 37] [706] S X ∧ Dk X st l ∧ Rx (fun c v => v = 0 ∧ Tld i (S.1 0 64) cd c) (fun _ => 268435456) st) (fun q : Zs × (Nat → Nat) × List Nat => fr [36, 37] [706] S q.1 ∧ Dk q.1 q.2.1 q.2.2 ∧ Rx (fun c v => v = 0 ∧ Tld n (S.1 0 64) cd c) (fun _ => 268435456) q.2.1) (fun q => n_X5_settle_35_b187 F (zp (zp q.1 0 707 0) 0 708 0) 0) (by
    rintro i _ hi ⟨X, st, l, rfl, f1, f2, f3⟩
    have e62 : X.1 0 62 = nI n := (f1.1 62 (by decide)).trans x1
    have e64 : X.1 0 64 = S.1 0 64 := f1.1 64 (by decide)
    have e4 : X.1 4 i = nI (cd i) := by rw [f1.2.1 4 (by decide) (by decide)]; exact (x3 i hi).1
    by_cases w : hb (S.1 0 64) i = true
    · refine Or.inr ⟨(X, nI (i + 1)), ⟨X, st, l, rfl, f1, f2, Rx_c f3 fun c v => and_congr Iff.rfl ⟨fun ⟨k, k1, k2⟩ => ⟨k, by omega, k2⟩, fun ⟨k, k1, k2, k3⟩ => ⟨k, by
        by_cases ek : k = i
        · rw [ek] at k2; exact absurd w k2
        · omega, k2, k3⟩⟩⟩, fun rc => ?_⟩
      show n_X5_settle_35_b133_l F (fun S x2 => rc (S, x2)) X (nI i) = _
      unfold n_X5_settle_35_b133_l n_X5_settle_35_b169
      rw [zgS, e62, if_neg (fun w => by rw [nI_le_iff (by omega) (by omega)] at w; omega), x_isActive e62 x2 hi, zcS, e64, bI_f (fun z => z w), if_pos rfl, zlS, nI_1]
    · obtain ⟨X2, l2, y1, y2, y3, -⟩ := x_offer (F := F) f2 (x3 i hi).2 (show 0 < 2 ^ 30 by decide)
      refine Or.inr ⟨(X2, nI (i + 1)), ⟨X2, _, l2, rfl, fr_t f1 y2, y3, Rx_c (Rx_1 f3 (cd i) 0) fun c v => ?_⟩, fun rc => ?_⟩
      · constructor
        · rintro (⟨z1, k, k1, k2⟩ | ⟨z1, z2⟩)
          · exact ⟨z1, k, by omega, k2⟩
          · exact ⟨z2, i, by omega, w, z1.symm⟩
        · rintro ⟨z1, k, k1, k2, k3⟩
          by_cases ek : k = i
          · rw [ek] at k3; exact Or.inr ⟨k3.symm, z1⟩
          · exact Or.inl ⟨z1, k, by omega, k2, k3⟩
      · show n_X5_settle_35_b133_l F (fun S x2 => rc (S, x2)) X (nI i) = _
        unfold n_X5_settle_35_b133_l n_X5_settle_35_b169
        rw [zgS, e62, if_neg (fun w => by rw [nI_le_iff (by omega) (by omega)] at w; omega), x_isActive e62 x2 hi, zcS, e64, bI_t w, if_neg (by decide), zld_nI _ _ _ (by omega) (by omega), e4, show (0 : Int32) = nI 0 from rfl, y1, zcS, zlS, nI_1]) (by
    rintro _ ⟨X, st, l, rfl, f1, f2, f3⟩
    refine ⟨(X, st, l), ⟨f1, f2, f3⟩, fun rc => ?_⟩
    show n_X5_settle_35_b133_l F (fun S x2 => rc (S, x2)) X (nI n) = _
    unfold n_X5_settle_35_b133_l
    rw [zgS, (f1.1 62 (by decide)).trans x1, if_pos (by rw [nI_le_iff (by omega) (by omega)]; omega), zpS, zpS]) F (S, 0) ⟨S, _, [], rfl, fr_rf _ _ _, h, Rx_c (Rx_0 _) fun c v => ⟨fun z => absurd z id, fun ⟨_, k, z, _⟩ => by omega⟩⟩ (by omega)
  exact ⟨q, hq, e⟩
theorem x_rounds {F : Nat} (hF : 2 ^ 40 < F) {S : Zs} {T : Nat → Prop} {st : Nat → Nat} {l : List Nat} (h : Sd (S.1 0 711) (S.1 0 710) T S st l 0) : ∃ q : Zs × (Nat → Nat) × List Nat, (fr [36, 37, 38, 39] [706, 707, 708] S q.1 ∧ Sd (S.1 0 711) (S.1 0 710) T q.1 q.2.1 q.2.2 q.2.2.length) ∧ n_X5_settle_35_b187 F S 0 = some (0, q.1) := by
  obtain ⟨q, hq, e⟩ := zfix_for (f := fun (rc : (Zs × Int32) → Option (Int32 × Zs)) (u : (Zs × Int32)) => n_X5_settle_35_b187_l F  (fun S x2 => rc (S, x2)) u.1 u.2) 2304 (fun i u => ∃ X st l p, u = (X, nI i) ∧ fr [36, 37, 38, 39] [706, 707, 708] S X ∧ Sd (S.1 0 711) (S.1 0 710) T X st l p ∧ i ≤ p) (fun q : Zs × (Nat → Nat) × List Nat => fr [36, 37, 38, 39] [706, 707, 708] S q.1 ∧ Sd (S.1 0 711) (S.1 0 710) T q.1 q.2.1 q.2.2 q.2.2.length) (fun q => some (0, q.1)) (by
    rintro i _ hi ⟨X, st, l, p, rfl, f1, f2, f3⟩
    have hlen := Dk_len f2.1
    have hple := f2.2.2.1
    by_cases w : p < l.length
    · have e711 : X.1 0 711 = S.1 0 711 := f1.1 711 (by decide)
      have e710 : X.1 0 710 = S.1 0 710 := f1.1 710 (by decide)
      obtain ⟨X2, st2, l2, p2, y1, y2, y3, y4⟩ := x_short hF (by rw [e711, e710]; exact f2) w
      rw [e711, e710] at y3
      refine Or.inr ⟨(X2, nI (i + 1)), ⟨X2, st2, l2, p2, rfl, fr_t f1 y2, y3, by omega⟩, fun rc => ?_⟩
      show n_X5_settle_35_b187_l F (fun S x2 => rc (S, x2)) X (nI i) = _
      unfold n_X5_settle_35_b187_l
      rw [if_neg (show ¬ (2304 : Int32) ≤ nI i from nI_ge (b := 2304) hi (by omega)), zgS, zgS, f2.2.1, f2.1.2.2.1, if_neg (fun w => by rw [nI_le_iff (by omega) (by omega)] at w; omega), y1, zcS, zlS, nI_1]
    · have ep : p = l.length := by omega
      refine Or.inl ⟨(X, st, l), ⟨f1, by rw [ep] at f2; exact f2⟩, fun rc => ?_⟩
      show n_X5_settle_35_b187_l F (fun S x2 => rc (S, x2)) X (nI i) = _
      unfold n_X5_settle_35_b187_l n_X5_settle_35_b215
      rw [if_neg (show ¬ (2304 : Int32) ≤ nI i from nI_ge (b := 2304) hi (by omega)), zgS, zgS, f2.2.1, f2.1.2.2.1, if_pos (by rw [nI_le_iff (by omega) (by omega)]; omega)]) (by
    rintro _ ⟨X, st, l, p, rfl, f1, f2, f3⟩
    have hlen := Dk_len f2.1
    have ep : p = l.length := by have := f2.2.2.1; omega
    refine ⟨(X, st, l), ⟨f1, by rw [ep] at f2; exact f2⟩, fun rc => ?_⟩
    show n_X5_settle_35_b187_l F (fun S x2 => rc (S, x2)) X (nI 2304) = _
    unfold n_X5_settle_35_b187_l n_X5_settle_35_b215
    rw [if_pos (show (2304 : Int32) ≤ nI 2304 by decide)]) F (S, 0) ⟨S, st, l, 0, rfl, fr_rf _ _ _, h, Nat.le_refl _⟩ (by omega)
  exact ⟨q, hq, e⟩
/-- told, by bits -/
def Tb (b : Int32) (cd : Nat → Nat) (n c : Nat) : Prop := ∃ i, i < n ∧ hb b i = true ∧ cd i = c
theorem Tb_actv {n : Nat} (hn : n ≤ 16) (w : Int32) (cd : Nat → Nat) : Tb (actv n w) cd n = Tld n w cd := by
  funext c
  refine propext ⟨fun ⟨i, i1, i2, i3⟩ => ⟨i, i1, fun z => ?_, i3⟩, fun ⟨i, i1, i2, i3⟩ => ⟨i, i1, ?_, i3⟩⟩
  · unfold actv at i2
    rw [hb_and, hb_not _ (by omega), z] at i2
    simp at i2
  · unfold actv
    rw [hb_and, hb_not _ (by omega), hb_mask (by omega)]
    simp [i1, i2]
/-- what the class keeps of proofs -/
def KP (X : Zs) (n : Nat) (cd : Nat → Nat) : Prop := X.1 0 709 = -1 ∨ (bnd (X.1 0 709) n ∧ ∃ st l, Pk (X.1 0 711) (X.1 0 710) (Tb (X.1 0 709) cd n) X st l)
theorem Dk_e {S S2 : Zs} {st : Nat → Nat} {l : List Nat} (h : Dk S st l) (e : S2.1 36 = S.1 36) (e2 : S2.1 37 = S.1 37) (e3 : S2.1 0 706 = S.1 0 706) : Dk S2 st l := by
  unfold Dk; rw [e, e2, e3]; exact h
theorem Pk_e {al lv : Int32} {T : Nat → Prop} {S S2 : Zs} {st : Nat → Nat} {l : List Nat} (h : Pk al lv T S st l) (e : S2.1 36 = S.1 36) (e2 : S2.1 37 = S.1 37) (e3 : S2.1 0 706 = S.1 0 706) (e4 : S2.1 0 707 = S.1 0 707) (e5 : S2.1 0 708 = S.1 0 708) : Pk al lv T S2 st l := by
  obtain ⟨h1, h2, h3, h4, h5⟩ := h
  exact ⟨Dk_e h1 e e2 e3, e4.trans h2, h3, by rw [e5]; exact h4, h5⟩
theorem KP_e {X X2 : Zs} {n n2 : Nat} {cd cd2 : Nat → Nat} (h : KP X n cd) (e : X2.1 36 = X.1 36) (e2 : X2.1 37 = X.1 37) (hf : ∀ k, 706 ≤ k → k ≤ 711 → X2.1 0 k = X.1 0 k) (hn : n ≤ n2) (hc : ∀ i, i < n → cd2 i = cd i) : KP X2 n2 cd2 := by
  unfold KP
  rw [hf 709 (by omega) (by omega), hf 710 (by omega) (by omega), hf 711 (by omega) (by omega)]
  refine h.imp id fun ⟨h1, st, l, h2⟩ => ⟨bnd_le h1 hn, st, l, ?_⟩
  have et : Tb (X.1 0 709) cd2 n2 = Tb (X.1 0 709) cd n := by
    funext c
    refine propext ⟨fun ⟨i, i1, i2, i3⟩ => ?_, fun ⟨i, i1, i2, i3⟩ => ⟨i, by omega, i2, by rw [hc i i1]; exact i3⟩⟩
    have : i < n := Nat.lt_of_not_le fun z => by rw [bnd_hb h1 z] at i2; exact absurd i2 (by decide)
    exact ⟨i, this, i2, by rw [← hc i this]; exact i3⟩
  rw [et]
  exact Pk_e h2 e e2 (hf 706 (by omega) (by omega)) (hf 707 (by omega) (by omega)) (hf 708 (by omega) (by omega))
theorem KP_ok : PS_ok KP := fun X X2 n cd f h => KP_e h (f.2 36 (by decide)) (f.2 37 (by decide)) (fun k h1 h2 => f.1 k (by simp; omega)) (Nat.le_refl _) (fun _ _ => rfl)
theorem x_settleP {F : Nat} (hF : 2 ^ 40 < F) {X : Zs} {n : Nat} {cd : Nat → Nat} (hX : XC X n cd) (hK : KP X n cd) : ∃ X2 st l, n_X5_settle_35 F X = some (0, X2) ∧ fr [36, 37, 38, 39] [706, 707, 708, 709, 710, 711] X X2 ∧ X2.1 0 709 = actv n (X.1 0 64) ∧ X2.1 0 710 = X.1 0 65 ∧ X2.1 0 711 = X.1 0 66 ∧ Pk (X.1 0 66) (X.1 0 65) (Tld n (X.1 0 64) cd) X2 st l := by
  obtain ⟨x1, x2, x3⟩ := id hX
  have ha := bnd_actv x2 (X.1 0 64)
  by_cases w : X.1 0 709 = actv n (X.1 0 64) ∧ X.1 0 710 = X.1 0 65 ∧ X.1 0 711 = X.1 0 66
  · obtain ⟨w1, w2, w3⟩ := w
    rcases hK with k | ⟨k1, st, l, k2⟩
    · exfalso
      rw [k] at w1
      have := bnd_hb ha (k := 20) (by omega)
      rw [← w1] at this
      exact absurd this (by decide)
    · rw [w1, w2, w3, Tb_actv x2] at k2
      refine ⟨X, st, l, ?_, fr_rf _ _ _, w1, w2, w3, k2⟩
      unfold n_X5_settle_35 n_X5_settle_35_e
      rw [x_active x1, zcS, zgS, if_pos w1, zgS, zgS, if_pos w2, zgS, zgS, if_pos w3]
  · have e0 : n_X5_settle_35 F X = n_X5_settle_35_b45 F X (actv n (X.1 0 64)) := by
      unfold n_X5_settle_35 n_X5_settle_35_e
      rw [x_active x1, zcS, zgS]
      by_cases w1 : X.1 0 709 = actv n (X.1 0 64)
      · rw [if_pos w1, zgS, zgS]
        by_cases w2 : X.1 0 710 = X.1 0 65
        · rw [if_pos w2, zgS, zgS, if_neg (fun z => w ⟨w1, w2, z⟩)]
        · rw [if_neg w2]
      · rw [if_neg w1]
    let Y := zp (zp (zp X 0 709 (actv n (X.1 0 64))) 0 710 (X.1 0 65)) 0 711 (X.1 0 66)
    have fY : fr [36, 37, 38, 39] [706, 707, 708, 709, 710, 711] X Y := fr_t (fr_p _ (by decide)) (fr_t (fr_p _ (by decide)) (fr_p _ (by decide)))
    have e1 : n_X5_settle_35_b45 F X (actv n (X.1 0 64)) = n_X5_settle_35_b74 F Y 0 := by
      unfold n_X5_settle_35_b45
      rw [zpS, zgS, zp_off _ _ (Or.inr (by decide)), zpS, zgS, zp_off _ _ (Or.inr (by decide)), zp_off _ _ (Or.inr (by decide)), zpS]
    have y709 : Y.1 0 709 = actv n (X.1 0 64) := by
      show (zp (zp (zp X 0 709 _) 0 710 _) 0 711 _).1 0 709 = _
      rw [zp_off _ _ (Or.inr (by decide)), zp_off _ _ (Or.inr (by decide)), zp_at]
    have y710 : Y.1 0 710 = X.1 0 65 := by
      show (zp (zp (zp X 0 709 _) 0 710 _) 0 711 _).1 0 710 = _
      rw [zp_off _ _ (Or.inr (by decide)), zp_at]
    have y711 : Y.1 0 711 = X.1 0 66 := zp_at _ _ _ _
    obtain ⟨A, ⟨a1, a2⟩, e2⟩ := x_fill36 hF Y
    obtain ⟨B, ⟨b1, b2⟩, e3⟩ := x_fill38 hF A
    have fB : fr [36, 37, 38, 39] [706, 707, 708, 709, 710, 711] X (zp B 0 706 0) := fr_t fY (fr_t (fr_w a1 (by decide) (by decide)) (fr_t (fr_w b1 (by decide) (by decide)) (fr_p _ (by decide))))
    have kB : ∀ k, k ≠ 706 → (zp B 0 706 0).1 0 k = Y.1 0 k := fun k hk => by
      rw [zp_off _ _ (Or.inr hk), b1.1 k (by simp), a1.1 k (by simp)]
    have xB : XC (zp B 0 706 0) n cd := XC_fr hX fB (by decide) (by decide)
    have dB : Dk (zp B 0 706 0) (fun _ => 268435456) [] := by
      refine ⟨fun b hb' => ⟨?_, Nat.le_refl _⟩, List.nodup_nil, zp_at _ _ _ _, fun i c hi => by simp at hi, fun c => ⟨fun hc => by simp at hc, fun hc => absurd hc.2 (Nat.lt_irrefl _)⟩⟩
      rw [zp_off _ _ (Or.inl (by decide)), b1.2.1 36 (by decide) (by decide)]
      exact a2 b hb'
    obtain ⟨⟨C, st, l⟩, ⟨c1, c2, c3⟩, e4⟩ := x_toldP hF xB dB
    dsimp only at c1 c2 c3 e4
    rw [kB 64 (by decide), fY.1 64 (by decide)] at c3
    let D := zp (zp C 0 707 0) 0 708 0
    have fCD : fr [] [707, 708] C D := fr_t (fr_p _ (by decide)) (fr_p _ (by decide))
    have d711 : D.1 0 711 = X.1 0 66 := by rw [fCD.1 711 (by decide), c1.1 711 (by decide), kB 711 (by decide), y711]
    have d710 : D.1 0 710 = X.1 0 65 := by rw [fCD.1 710 (by decide), c1.1 710 (by decide), kB 710 (by decide), y710]
    have d709 : D.1 0 709 = actv n (X.1 0 64) := by rw [fCD.1 709 (by decide), c1.1 709 (by decide), kB 709 (by decide), y709]
    have np : ∀ c, ¬ Pf l 0 c := fun c ⟨i, i1, _⟩ => by omega
    have sD : Sd (X.1 0 66) (X.1 0 65) (Tld n (X.1 0 64) cd) D st l 0 := by
      refine ⟨Dk_e c2 (fCD.2.1 36 (by decide) (by decide)) (fCD.2.1 37 (by decide) (by decide)) (fCD.1 706 (by decide)), ?_, Nat.zero_le _, ?_, fun c d hc => absurd hc (np c), fun i j c d hij hj => by omega, ⟨0, ?_, by decide, fun c hc => absurd hc (np c), Or.inl rfl⟩, fun c hc hc2 => ?_, fun c hc => ?_, fun a c ha' => absurd ha' (np a), fun a d c ha' => absurd ha' (np a)⟩
      · show (zp (zp C 0 707 0) 0 708 0).1 0 707 = _
        rw [zp_off _ _ (Or.inr (by decide)), zp_at]; rfl
      · intro f x y hf hx hy
        rw [fCD.2.1 38 (by decide) (by decide), fCD.2.1 39 (by decide) (by decide), c1.2.1 38 (by decide) (by decide), c1.2.1 39 (by decide) (by decide), zp_off _ _ (Or.inl (by decide)), zp_off _ _ (Or.inl (by decide)), (b2 (24 * f + x) (by omega)).1, (b2 (24 * f + y) (by omega)).2, hb_0, hb_0]
        exact ⟨⟨fun z => absurd z (by decide), fun z => absurd z (np _)⟩, ⟨fun z => absurd z (by decide), fun z => absurd z (np _)⟩⟩
      · show (zp (zp C 0 707 0) 0 708 0).1 0 708 = _
        rw [zp_at]; rfl
      · rcases c3.2.1 c with z | ⟨z1, z2⟩
        · rw [show st c = 268435456 from z] at hc2; omega
        · rw [z1]; exact Cost_t z2
      · have := c3.2.2 c 0 ⟨rfl, hc⟩
        omega
    obtain ⟨⟨E, st2, l2⟩, ⟨g1, g2⟩, e5⟩ := x_rounds hF (S := D) (T := Tld n (X.1 0 64) cd) (by rw [d711, d710]; exact sD)
    dsimp only at g1 g2 e5
    rw [d711, d710] at g2
    refine ⟨E, st2, l2, ?_, fr_t fB (fr_t (fr_w c1 (by decide) (by decide)) (fr_t (fr_w fCD (by decide) (by decide)) (fr_w g1 (by decide) (by decide)))), (g1.1 709 (by decide)).trans d709, (g1.1 710 (by decide)).trans d710, (g1.1 711 (by decide)).trans d711, Sd_Pk (fun c ⟨i, i1, _, i3⟩ => by rw [← i3]; exact (x3 i i1).2) g2⟩
    rw [e0, e1, e2, e3, e4]
    exact e5
theorem KP_settled {X X2 : Zs} {n : Nat} {cd : Nat → Nat} (hn : n ≤ 16) {st : Nat → Nat} {l : List Nat} (h1 : X2.1 0 709 = actv n (X.1 0 64)) (h2 : X2.1 0 710 = X.1 0 65) (h3 : X2.1 0 711 = X.1 0 66) (h : Pk (X.1 0 66) (X.1 0 65) (Tld n (X.1 0 64) cd) X2 st l) : KP X2 n cd := by
  refine Or.inr ⟨by rw [h1]; exact bnd_actv hn _, st, l, ?_⟩
  rw [h1, h2, h3, Tb_actv hn]
  exact h
