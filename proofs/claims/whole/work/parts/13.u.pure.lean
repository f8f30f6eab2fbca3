/-! THE SMALLEST SET -/
def Best (E D : Int32) (En : Int32 → Prop) (S : Int32) : Prop := En S ∧ sb S E ∧ ∀ T, En T → sb T E → bc S 32 < bc T 32 ∨ (bc S 32 = bc T 32 ∧ rk D S ≤ rk D T)
theorem tn_inj {x y : Int32} (h : tn x = tn y) : x = y := hb_ext fun k _ => by rw [hb_tn, hb_tn, h]
theorem Best_eq {E D : Int32} {En : Int32 → Prop} {S T : Int32} (hE : bnd E 16) (h : Best E D En S) (g : Best E D En T) : S = T := by
  obtain ⟨h1, h2, h3⟩ := h
  obtain ⟨g1, g2, g3⟩ := g
  have e1 := h3 T g1 g2
  have e2 := g3 S h1 h2
  have t1 : tn S < 2 ^ 16 := bnd_sb h2 hE
  have t2 : tn T < 2 ^ 16 := bnd_sb g2 hE
  have e : rk D S = rk D T := by omega
  unfold rk at e
  exact tn_inj (by omega)
theorem bc16 {x : Int32} (h : bnd x 16) : bc x 32 ≤ 16 := by
  have h1 : tn x < 2 ^ 16 := h
  unfold bc
  rw [show (32 : Nat) = 16 + 16 from rfl, bcn_top h1]
  exact bc_le x 16
theorem rk_lt {D x : Int32} (h : bnd x 16) : rk D x < 2 ^ 24 := by
  have h1 : tn x < 2 ^ 16 := h
  have h2 := bc_le (x &&& D) 32
  unfold rk
  omega
theorem x_forced {F : Nat} (hF : 2 ^ 40 < F) {X0 X' : Zs} {n : Nat} {cd : Nat → Nat} {E D : Int32} {En : Int32 → Prop} {b : Nat} (hS : SC F X0 n cd E D En) (h : SI X0 X' n cd b) : ∃ q : Int32 × Zs, (SI X0 q.2 n cd b ∧ isW q.1 16 (fun k => hb E k = true ∧ ¬ En (offB E k))) ∧ n_X6_smallest_23_b39 F X' E 0 0 = n_X6_smallest_23_b88 F q.2 E q.1 0 := by
  exact zfix_for (f := fun (rc : (Zs × Int32 × Int32 × Int32) → Option (Int32 × Zs)) (u : (Zs × Int32 × Int32 × Int32)) => n_X6_smallest_23_b39_l F  (fun S x3 x5 x6 => rc (S, x3, x5, x6)) u.1 u.2.1 u.2.2.1 u.2.2.2) 16 (fun i a => ∃ S v, a = (S, E, v, nI i) ∧ SI X0 S n cd b ∧ isW v i (fun k => hb E k = true ∧ ¬ En (offB E k))) (fun q : Int32 × Zs => SI X0 q.2 n cd b ∧ isW q.1 16 (fun k => hb E k = true ∧ ¬ En (offB E k))) (fun q => n_X6_smallest_23_b88 F q.2 E q.1 0) (by
    rintro i _ hi ⟨S', v, rfl, hI, hv⟩
    have e : ∀ rc : (Zs × Int32 × Int32 × Int32) → Option (Int32 × Zs), n_X6_smallest_23_b39_l F (fun S x3 x5 x6 => rc (S, x3, x5, x6)) S' E v (nI i) = if hb E i = false then rc (S', E, v, nI (i + 1)) else zcl (n_X6_enough_23 F S' (offB E i)) (fun v2 S1 => if v2 = 0 then rc (S1, E, v ||| ((1 : Int32) <<< (nI i &&& 31)), nI (i + 1)) else rc (S1, E, v, nI (i + 1))) := by
      intro rc
      unfold n_X6_smallest_23_b39_l n_X6_smallest_23_b79
      simp (disch := omega) only [c16, nI_le_iff, hb_sh0, zlet, nI_1]
      rw [if_neg (by omega)]
      rfl
    cases hbit : hb E i with
    | false => exact Or.inr ⟨(S', E, v, nI (i + 1)), ⟨S', v, rfl, hI, isW_f hv (fun g => by rw [hbit] at g; exact absurd g.1 (by decide))⟩, fun rc => (e rc).trans (if_pos hbit)⟩
    | true =>
      obtain ⟨r, X2, e2, hI2, hr⟩ := x_en hS hI (show sb (offB E i) E from fun k q => (hbm.mp q).1)
      by_cases hen : En (offB E i)
      · refine Or.inr ⟨(X2, E, v, nI (i + 1)), ⟨X2, v, rfl, hI2, isW_f hv (fun g => g.2 hen)⟩, fun rc => (e rc).trans ?_⟩
        rw [if_neg (by rw [hbit]; decide), e2, zcS, if_neg (fun q => (isB_0 hr).mp q hen)]
      · refine Or.inr ⟨(X2, E, v ||| ((1 : Int32) <<< (nI i &&& 31)), nI (i + 1)), ⟨X2, _, rfl, hI2, isW_t hv (by omega) ⟨hbit, hen⟩⟩, fun rc => (e rc).trans ?_⟩
        rw [if_neg (by rw [hbit]; decide), e2, zcS, if_pos ((isB_0 hr).mpr hen)]) (by
    rintro _ ⟨S', v, rfl, hI, hv⟩
    refine ⟨(v, S'), ⟨hI, hv⟩, fun rc => ?_⟩
    show n_X6_smallest_23_b39_l F (fun S x3 x5 x6 => rc (S, x3, x5, x6)) S' E v (nI 16) = _
    unfold n_X6_smallest_23_b39_l
    rw [c16, if_pos (nI_le (by omega) (by omega))]) F (X', E, 0, 0) ⟨X', 0, rfl, h, isW_0 _⟩ (by omega)
theorem x_deepen {F : Nat} (hF : 2 ^ 40 < F) {X0 X' : Zs} {n : Nat} {cd : Nat → Nat} {E D : Int32} {En : Int32 → Prop} (hS : SC F X0 n cd E D En) (h : SI X0 X' n cd (2 ^ 24)) (hEn : En E) {fo : Int32} (hfo : isW fo 16 (fun k => hb E k = true ∧ ¬ En (offB E k))) : ∃ q : Int32 × Zs, (fr cR sK X0 q.2 ∧ KB q.2 n cd ∧ Best E D En q.1) ∧ n_X6_smallest_23_b88 F X' E fo 0 = some q := by
  have hE16 := hS.2.2.1
  have f1 : sb fo E := fun k q => ((hfo k).mp q).2.1
  have f2 : ∀ T, En T → sb T E → sb fo T := by
    intro T t1 t2 k q
    obtain ⟨-, q1, q2⟩ := (hfo k).mp q
    by_cases w : hb T k = true
    · exact w
    · refine absurd (hS.2.1 T (offB E k) (fun j v => ?_) (fun j v => (hbm.mp v).1) t1) q2
      unfold offB
      rw [hbm]
      refine ⟨t2 j v, fun u => w ?_⟩
      rw [hb1 (hb_lt q1)] at u
      rw [← u]; exact v
  have hall : ∀ T, sb T E ↔ sb T (fo ||| (E &&& (fo ^^^ (-1)))) := by
    intro T
    refine ⟨fun w k q => ?_, fun w => sb_t w (sb_o f1 (fun k q => (hbm.mp q).1))⟩
    by_cases u : hb fo k = true
    · exact hbo.mpr (Or.inl u)
    · exact hbo.mpr (Or.inr (hbm.mpr ⟨w k q, u⟩))
  have done : ∀ S' b T, SI X0 S' n cd b → Best E D En T → rk D T = b → n_X6_smallest_23_b124 F S' = some (T, S') := by
    intro S' b T hI hB hb
    unfold n_X6_smallest_23_b124 zgf
    dsimp only
    have t1 : bnd T 16 := bnd_sb hB.2.1 hE16
    have t2 : tn T < 2 ^ 16 := t1
    have h24 := rk_lt (D := D) t1
    rw [hI.2.2, ← hb, pk_andN (m := 65535) (by omega) 16 (by decide)]
    have : rk D T % 2 ^ 16 = tn T := by unfold rk; omega
    rw [this, ← nI_tn t1 (by omega)]
  exact zfix_for (f := fun (rc : (Zs × Int32 × Int32 × Int32) → Option (Int32 × Zs)) (u : (Zs × Int32 × Int32 × Int32)) => n_X6_smallest_23_b88_l F  (fun S x3 x5 x6 => rc (S, x3, x5, x6)) u.1 u.2.1 u.2.2.1 u.2.2.2) 17 (fun i a => ∃ S b, a = (S, E, fo, nI i) ∧ SI X0 S n cd b ∧ ((b = 2 ^ 24 ∧ ∀ T, En T → sb T E → bc fo 32 + i ≤ bc T 32) ∨ ∃ T, Best E D En T ∧ rk D T = b)) (fun q : Int32 × Zs => fr cR sK X0 q.2 ∧ KB q.2 n cd ∧ Best E D En q.1) (fun q => some q) (by
    rintro i _ hi ⟨S', b, rfl, hI, hc⟩
    have e : ∀ rc : (Zs × Int32 × Int32 × Int32) → Option (Int32 × Zs), n_X6_smallest_23_b88_l F (fun S x3 x5 x6 => rc (S, x3, x5, x6)) S' E fo (nI i) = if nI b = (16777216 : Int32) then zcl (n_X6_explore_23 F S' fo (E &&& (fo ^^^ (-1))) (nI i)) (fun v3 S2 => rc (S2, E, fo, nI (i + 1))) else n_X6_smallest_23_b124 F S' := by
      intro rc
      unfold n_X6_smallest_23_b88_l
      rw [if_neg (show ¬ (16 : Int32) < nI i from fun g => by rw [c16, nI_lt_iff (by omega) (by omega)] at g; omega)]
      unfold zgf zlet
      dsimp only
      rw [hI.2.2, nI_1]
    rcases hc with ⟨hb, hmin⟩ | ⟨T, hB, hT⟩
    · obtain ⟨X2, b2, e2, hI2, hb2, hw, hal⟩ := x_explore hF hS 20 i (by omega) (by omega) S' b fo (E &&& (fo ^^^ (-1))) hI (by omega) f1 (fun k q => (hbm.mp q).1) (fun k q => (hbm.mp q.2).2 q.1) (fun S w1 w2 w3 => hmin S w1 ((hall S).mpr w3))
      refine Or.inr ⟨(X2, E, fo, nI (i + 1)), ⟨X2, b2, rfl, hI2, ?_⟩, fun rc => (e rc).trans ?_⟩
      · rcases hw with hw | ⟨S, hC, hk⟩
        · refine Or.inl ⟨by omega, fun T t1 t2 => ?_⟩
          have hmT := hmin T t1 t2
          rcases Nat.lt_or_ge (bc fo 32 + i) (bc T 32) with g | g
          · omega
          · have := hal T ⟨t1, f2 T t1 t2, (hall T).mp t2, g⟩
            have := rk_lt (D := D) (bnd_sb t2 hE16)
            omega
        · refine Or.inr ⟨S, ⟨hC.1, (hall S).mpr hC.2.2.1, fun T t1 t2 => ?_⟩, hk⟩
          have h1 := hmin S hC.1 ((hall S).mpr hC.2.2.1)
          have h2 := hC.2.2.2
          have h3 := hmin T t1 t2
          rcases Nat.lt_or_ge (bc S 32) (bc T 32) with g | g
          · exact Or.inl g
          · refine Or.inr ⟨by omega, ?_⟩
            rw [hk]
            exact hal T ⟨t1, f2 T t1 t2, (hall T).mp t2, by omega⟩
      · rw [if_pos (by rw [hb]; rfl)]
        unfold n_X6_explore_23
        rw [e2, zcS]
    · have h24 := rk_lt (D := D) (bnd_sb hB.2.1 hE16)
      refine Or.inl ⟨(T, S'), ⟨hI.1, hI.2.1, hB⟩, fun rc => (e rc).trans ?_⟩
      rw [if_neg (show ¬ nI b = (16777216 : Int32) from fun g => by
        have := nI_inj (b := 16777216) (by omega) (by omega) g
        omega)]
      exact done S' b T hI hB hT) (by
    rintro _ ⟨S', b, rfl, hI, hc⟩
    rcases hc with ⟨hb, hmin⟩ | ⟨T, hB, hT⟩
    · have h1 := hmin E hEn (sb_rf _)
      have h2 := bc16 hE16
      omega
    · refine ⟨(T, S'), ⟨hI.1, hI.2.1, hB⟩, fun rc => ?_⟩
      show n_X6_smallest_23_b88_l F (fun S x3 x5 x6 => rc (S, x3, x5, x6)) S' E fo (nI 17) = _
      unfold n_X6_smallest_23_b88_l
      rw [if_pos (show (16 : Int32) < nI 17 by decide)]
      exact done S' b T hI hB hT) F (X', E, fo, 0) ⟨X', 2 ^ 24, rfl, h, Or.inl ⟨rfl, fun T t1 t2 => bc_mono (f2 T t1 t2) 32⟩⟩ (by omega)
/-- what a search begins with -/
def s0 (X : Zs) (q c D : Int32) : Zs := zp (zp (zp (zp X 0 462 q) 0 463 c) 0 464 D) 0 465 16777216
def sF : List Nat := [462, 463, 464, 465, 264, 265, 283, 284, 363, 364]
theorem fr_s0 (X : Zs) (q c D : Int32) : fr cR sF X (s0 X q c D) := fr_t (fr_p _ (by decide)) (fr_t (fr_p _ (by decide)) (fr_t (fr_p _ (by decide)) (fr_p _ (by decide))))
theorem k_s0 (X : Zs) (q c D : Int32) : kSame X (s0 X q c D) := fr_k (R := []) (K := [462, 463, 464, 465]) (fr_t (fr_p _ (by decide)) (fr_t (fr_p _ (by decide)) (fr_t (fr_p _ (by decide)) (fr_p _ (by decide))))) (by decide) (by decide)
theorem x_smallest {F : Nat} (hF : 2 ^ 40 < F) {X : Zs} {n : Nat} {cd : Nat → Nat} (hK : KB X n cd) {q c E D : Int32} {En : Int32 → Prop} (hS : SC F (s0 X q c D) n cd E D En) : ∃ X2, fr cR sF X X2 ∧ KB X2 n cd ∧ ((¬ En E ∧ n_X6_smallest_23 F X q c E D = some (-2, X2)) ∨ ∃ S, Best E D En S ∧ n_X6_smallest_23 F X q c E D = some (S, X2)) := by
  have hI : SI (s0 X q c D) (s0 X q c D) n cd (2 ^ 24) := ⟨fr_rf _ _ _, KB_same (k_s0 X q c D) hK, rfl⟩
  obtain ⟨r, X1, e1, hI1, hr⟩ := x_en hS hI (sb_rf E)
  have e : n_X6_smallest_23 F X q c E D = if r = 0 then some (-2, X1) else n_X6_smallest_23_b39 F X1 E 0 0 := by
    show zcl (n_X6_enough_23 F (s0 X q c D) E) (fun v6 S5 => if v6 = 0 then some (-2, S5) else n_X6_smallest_23_b39 F S5 E 0 0) = _
    rw [e1, zcS]
  by_cases hen : En E
  · obtain ⟨⟨fo, X2⟩, ⟨hI2, hfo⟩, e2⟩ := x_forced hF hS hI1
    obtain ⟨⟨S, X3⟩, ⟨f3, k3, hB⟩, e3⟩ := x_deepen hF hS hI2 hen hfo
    refine ⟨X3, fr_t (fr_s0 X q c D) (fr_w f3 (by decide) (by decide)), k3, Or.inr ⟨S, hB, ?_⟩⟩
    rw [e, if_neg (fun g => (isB_0 hr).mp g hen), e2, e3]
  · exact ⟨X1, fr_t (fr_s0 X q c D) (fr_w hI1.1 (by decide) (by decide)), hI1.2.1, Or.inl ⟨hen, by rw [e, if_pos ((isB_0 hr).mpr hen)]⟩⟩
theorem x_tellSmallest {F : Nat} (X : Zs) {S : Int32} (h : bnd S 16) : n_X11_tellSmallest_0 F X S = some (nI (bc S 32), xOne X S) := by
  unfold n_X11_tellSmallest_0 n_X11_tellSmallest_0_e
  have h0 : (0 : Int32) ≤ S := by
    obtain ⟨j, hj, rfl⟩ := bnd_nI h (by omega)
    exact nI_pos' (by omega)
  rw [if_pos h0, x_tellOne, zcS, x_bitCount _ (bnd_le h (by omega)), zcS]
theorem x_tellNone {F : Nat} (X : Zs) : n_X11_tellSmallest_0 F X (-2) = some (-2, X) := by
  unfold n_X11_tellSmallest_0 n_X11_tellSmallest_0_e
  rw [if_neg (by decide)]
theorem Rel_search {Q : Zs → Nat → (Nat → Nat) → Prop} (hQ : QOK Q) {X M X2 M2 : Zs} {n : Nat} {cd : Nat → Nat} (h : Rel (Kq Q) X M) (hX : XC X n cd) (q : Q X n cd) (fx : fr cR sF X X2) (kb : KB X2 n cd) (fm : fr mR mK M M2) : Rel (Kq Q) X2 M2 :=
  (h.x (fr_x fx (by decide) (by decide)) ⟨n, cd, XC_fr hX fx (by decide) (by decide), kb, hQ X X2 n n cd cd (fr_q fx (by decide) (by decide)) (Nat.le_refl _) (fun _ _ => rfl) q⟩).m (fr_m fm (by decide) (by decide))
-- the reference's scan
def BB (E D : Int32) (En : Int32 → Prop) (t : Nat) (v : Int32) : Prop := (v = -1 ∧ ∀ T, En T → sb T E → ¬ tn T < t) ∨ (En v ∧ sb v E ∧ tn v < t ∧ ∀ T, En T → sb T E → tn T < t → bc v 32 < bc T 32 ∨ (bc v 32 = bc T 32 ∧ rk D v ≤ rk D T))
theorem BB_0 (E D : Int32) (En : Int32 → Prop) : BB E D En 0 (-1) := Or.inl ⟨rfl, fun _ _ _ h => absurd h (by omega)⟩
theorem BB_no {E D : Int32} {En : Int32 → Prop} {t : Nat} {v : Int32} (h : BB E D En t v) (ht : t < 2 ^ 31) (g : ¬ (En (nI t) ∧ sb (nI t) E)) : BB E D En (t + 1) v := by
  have k : ∀ T, En T → sb T E → tn T < t + 1 → tn T < t := by
    intro T t1 t2 t3
    by_cases e : tn T = t
    · have : T = nI t := tn_inj (by rw [tn_nI (by omega), e])
      rw [this] at t1 t2
      exact absurd ⟨t1, t2⟩ g
    · omega
  rcases h with ⟨h1, h2⟩ | ⟨h1, h2, h3, h4⟩
  · exact Or.inl ⟨h1, fun T t1 t2 t3 => h2 T t1 t2 (k T t1 t2 t3)⟩
  · exact Or.inr ⟨h1, h2, by omega, fun T t1 t2 t3 => h4 T t1 t2 (k T t1 t2 t3)⟩
theorem BB_keep {E D : Int32} {En : Int32 → Prop} {t : Nat} {v : Int32} (h : BB E D En t v) (hv : ¬ v = -1) (ht : t < 2 ^ 31) (g : ¬ (bc (nI t) 32 < bc v 32 ∨ (bc (nI t) 32 = bc v 32 ∧ bc (nI t &&& D) 32 < bc (v &&& D) 32))) : BB E D En (t + 1) v := by
  rcases h with ⟨h1, -⟩ | ⟨h1, h2, h3, h4⟩
  · exact absurd h1 hv
  · refine Or.inr ⟨h1, h2, by omega, fun T t1 t2 t3 => ?_⟩
    by_cases e : tn T = t
    · have e2 : T = nI t := tn_inj (by rw [tn_nI (by omega), e])
      subst e2
      rcases Nat.lt_or_ge (bc v 32) (bc (nI t) 32) with w | w
      · exact Or.inl w
      · refine Or.inr ⟨by omega, ?_⟩
        unfold rk
        have : bc (v &&& D) 32 ≤ bc (nI t &&& D) 32 := by omega
        have := Nat.mul_le_mul_left 65536 this
        omega
    · exact h4 T t1 t2 (by omega)
theorem BB_take {E D : Int32} {En : Int32 → Prop} {t : Nat} {v : Int32} (h : BB E D En t v) (ht : t < 2 ^ 16) (hE : bnd E 16) (h1 : En (nI t)) (h2 : sb (nI t) E) (g : v = -1 ∨ bc (nI t) 32 < bc v 32 ∨ (bc (nI t) 32 = bc v 32 ∧ bc (nI t &&& D) 32 < bc (v &&& D) 32)) : BB E D En (t + 1) (nI t) := by
  refine Or.inr ⟨h1, h2, by rw [tn_nI (by omega)]; omega, fun T t1 t2 t3 => ?_⟩
  by_cases e : tn T = t
  · have e2 : T = nI t := tn_inj (by rw [tn_nI (by omega), e])
    rw [e2]; exact Or.inr ⟨rfl, Nat.le_refl _⟩
  · have t3 : tn T < t := by omega
    rcases h with ⟨-, w⟩ | ⟨w1, w2, w3, w4⟩
    · exact absurd t3 (w T t1 t2)
    · have hv1 : ¬ v = -1 := by
        intro q
        have := bnd_sb w2 hE
        rw [q] at this
        have this : (4294967295 : Nat) < 2 ^ 16 := this
        omega
      have hT := w4 T t1 t2 t3
      have hv : tn v < 2 ^ 16 := bnd_sb w2 hE
      have g := g.resolve_left hv1
      rcases Nat.lt_or_ge (bc (nI t) 32) (bc T 32) with u | u
      · exact Or.inl u
      · refine Or.inr ⟨by omega, ?_⟩
        rcases g with g | g
        · omega
        · have hr := (hT.resolve_left (by omega)).2
          unfold rk at hr ⊢
          rw [tn_nI (by omega)]
          have := Nat.mul_le_mul_left 65536 (show bc (nI t &&& D) 32 + 1 ≤ bc (v &&& D) 32 by omega)
          have : tn T < 2 ^ 16 := bnd_sb t2 hE
          omega
theorem BB_end {E D : Int32} {En : Int32 → Prop} {t : Nat} {v : Int32} (h : BB E D En t v) (ht : tn E < t) : (v = -1 ∧ ¬ En E) ∨ Best E D En v := by
  rcases h with ⟨h1, h2⟩ | ⟨h1, h2, h3, h4⟩
  · exact Or.inl ⟨h1, fun g => h2 E g (sb_rf _) ht⟩
  · exact Or.inr ⟨h1, h2, fun T t1 t2 => h4 T t1 t2 (Nat.lt_of_le_of_lt (tn_mono t2) ht)⟩
