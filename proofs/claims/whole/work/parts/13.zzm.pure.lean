/-! proofs: the class uses a code alone -/
/-- costs after offers -/
def Rx (O : Nat → Nat → Prop) (st st2 : Nat → Nat) : Prop := (∀ c, st2 c ≤ st c) ∧ (∀ c, st2 c = st c ∨ O c (st2 c)) ∧ ∀ c v, O c v → st2 c ≤ v
theorem Rx_c {O O2 : Nat → Nat → Prop} {st st2 : Nat → Nat} (h : Rx O st st2) (g : ∀ c v, O c v ↔ O2 c v) : Rx O2 st st2 := ⟨h.1, fun c => (h.2.1 c).imp id (g c _).mp, fun c v w => h.2.2 c v ((g c v).mpr w)⟩
theorem Rx_0 (st : Nat → Nat) : Rx (fun _ _ => False) st st := ⟨fun _ => Nat.le_refl _, fun _ => Or.inl rfl, fun _ _ h => absurd h id⟩
theorem Rx_1 {O : Nat → Nat → Prop} {st st2 : Nat → Nat} (h : Rx O st st2) (c v : Nat) : Rx (fun c' v' => O c' v' ∨ (c' = c ∧ v' = v)) st (updN st2 c (min v (st2 c))) := by
  refine ⟨fun x => ?_, fun x => ?_, fun x w z => ?_⟩
  · unfold updN
    have := h.1 x
    by_cases e : x = c
    · rw [if_pos e, ← e]; omega
    · rw [if_neg e]; exact this
  · unfold updN
    by_cases e : x = c
    · rw [if_pos e, e]
      rcases (show min v (st2 c) = v ∨ min v (st2 c) = st2 c by omega) with q | q
      · rw [q]; exact Or.inr (Or.inr ⟨rfl, rfl⟩)
      · rw [q]; exact (h.2.1 c).imp id Or.inl
    · rw [if_neg e]; exact (h.2.1 x).imp id Or.inl
  · unfold updN
    rcases z with z | ⟨z1, z2⟩
    · have := h.2.2 x w z
      by_cases e : x = c
      · rw [if_pos e, ← e]; omega
      · rw [if_neg e]; exact this
    · rw [if_pos z1]; omega
theorem x_allowedP {F : Nat} (S : Zs) {k : Nat} (hk : k < 32) : n_X5_isAllowed_35 F S (nI k) = some (bI (hb (S.1 0 711) k = true), S) := by
  unfold n_X5_isAllowed_35 n_X5_isAllowed_35_e n_X5_isAllowed_35_b16
  rw [zgS]
  cases e : hb (S.1 0 711) k with
  | false => rw [if_pos ((hb_sh0 _ hk).mpr e), zrb_0]; rfl
  | true => rw [if_neg (fun w => by rw [hb_sh0 _ hk, e] at w; exact absurd w (by decide)), zrb_1]; rfl
theorem x_useAlone {F : Nat} (hF : 2 ^ 40 < F) {S : Zs} {st : Nat → Nat} {l : List Nat} (h : Dk S st l) {a : Nat} (ha : a < 2304) : ∃ q : Zs × (Nat → Nat) × List Nat, (fr [36, 37] [706] S q.1 ∧ Dk q.1 q.2.1 q.2.2 ∧ (∃ l3, q.2.2 = l ++ l3) ∧ Rx (fun c v => v = st a + 1 ∧ ∃ k, Ru (S.1 0 711) (S.1 0 710) k a none c) st q.2.1) ∧ n_X5_useAlone_35 F S (nI a) = some (0, q.1) := by
  obtain ⟨q, ⟨q1, q2, q3, q4⟩, e⟩ := zfix_for (f := fun (rc : (Zs × Int32 × Int32) → Option (Int32 × Zs)) (u : (Zs × Int32 × Int32)) => n_X5_useAlone_35_b3_l F  (fun S x1 x2 => rc (S, x1, x2)) u.1 u.2.1 u.2.2) 3 (fun i u => ∃ X st2 l2, u = (X, nI a, nI (19 + i)) ∧ fr [36, 37] [706] S X ∧ Dk X st2 l2 ∧ (∃ l3, l2 = l ++ l3) ∧ Rx (fun c v => v = st a + 1 ∧ ∃ k, k < 19 + i ∧ Ru (S.1 0 711) (S.1 0 710) k a none c) st st2) (fun q : Zs × (Nat → Nat) × List Nat => fr [36, 37] [706] S q.1 ∧ Dk q.1 q.2.1 q.2.2 ∧ (∃ l3, q.2.2 = l ++ l3) ∧ Rx (fun c v => v = st a + 1 ∧ ∃ k, k < 22 ∧ Ru (S.1 0 711) (S.1 0 710) k a none c) st q.2.1) (fun q => some (0, q.1)) (by
    rintro i _ hi ⟨X, st2, l2, rfl, f1, f2, f3, f4⟩
    generalize hk : 19 + i = k at *
    have k1 : 19 ≤ k := by omega
    have k2 : k < 22 := by omega
    obtain ⟨s1, s2⟩ := f2.1 a ha
    have sa : st2 a = st a := by
      rcases f4.2.1 a with z | ⟨z, -⟩
      · exact z
      · have := f4.1 a; omega
    have e1 : ∀ rc : (Zs × Int32 × Int32) → Option (Int32 × Zs), n_X5_useAlone_35_b3_l F (fun S x1 x2 => rc (S, x1, x2)) X (nI a) (nI k) = match cn k a 0 with
        | none => rc (X, nI a, nI (k + 1))
        | some c => if hb (S.1 0 711) k = true then (if alB k a (S.1 0 710) = true then zcl (n_X5_offer_35 F X (nI c) (nI (st a + 1))) (fun _ S9 => rc (S9, nI a, nI (k + 1))) else rc (X, nI a, nI (k + 1))) else rc (X, nI a, nI (k + 1)) := by
      intro rc
      unfold n_X5_useAlone_35_b3_l n_X5_useAlone_35_b52
      rw [if_neg (show ¬ (22 : Int32) ≤ nI k from nI_ge (b := 22) k2 (by omega)), x_single X k1 k2 ha 0, zcS]
      simp only [zlS, nI_1]
      cases hcn : cn k a 0 with
      | none => rw [if_pos (by decide)]
      | some c =>
        have hc := cn_lt ha hcn
        rw [show oX (some c) = nI c from rfl, if_neg (nI_pos (by omega)), x_allowedP X (by omega), zcS, f1.1 711 (by decide)]
        dsimp only
        by_cases g1 : hb (S.1 0 711) k = true
        · rw [bI_t g1, if_neg (by decide), if_pos g1, zgS, f1.1 710 (by decide), x_alive X _ k2 ha, zcS]
          by_cases g2 : alB k a (S.1 0 710) = true
          · rw [bI_t g2, if_neg (by decide), if_pos g2, zld_nI _ _ _ ha (by omega), s1, nI_1, sa]
          · rw [bI_f g2, if_pos rfl, if_neg g2]
        · rw [bI_f g1, if_pos rfl, if_neg g1]
    have skip : (∀ c, ¬ Ru (S.1 0 711) (S.1 0 710) k a none c) → Rx (fun c v => v = st a + 1 ∧ ∃ k', k' < 19 + (i + 1) ∧ Ru (S.1 0 711) (S.1 0 710) k' a none c) st st2 := fun w => Rx_c f4 fun c v => and_congr Iff.rfl ⟨fun ⟨k', z1, z2⟩ => ⟨k', by omega, z2⟩, fun ⟨k', z1, z2⟩ => ⟨k', by
      by_cases e : k' = k
      · rw [e] at z2; exact absurd z2 (w c)
      · omega, z2⟩⟩
    have kk : k + 1 = 19 + (i + 1) := by omega
    rw [kk] at e1
    cases hcn : cn k a 0 with
    | none =>
      rw [hcn] at e1
      exact Or.inr ⟨_, ⟨X, st2, l2, rfl, f1, f2, f3, skip fun c z => by have y := z.2.2.2.2; rw [hcn] at y; exact absurd y (by simp)⟩, e1⟩
    | some c =>
      rw [hcn] at e1
      dsimp only at e1
      have hc := cn_lt ha hcn
      by_cases g : hb (S.1 0 711) k = true ∧ alB k a (S.1 0 710) = true
      · obtain ⟨X2, l4, x1, x2, x3, l5, x4⟩ := x_offer (F := F) f2 hc (show st a + 1 < 2 ^ 30 by omega)
        obtain ⟨l3, f3⟩ := f3
        refine Or.inr ⟨_, ⟨X2, _, l4, rfl, fr_t f1 x2, x3, ⟨l3 ++ l5, by rw [x4, f3, List.append_assoc]⟩, Rx_c (Rx_1 f4 c (st a + 1)) fun c' v' => ?_⟩, fun rc => (e1 rc).trans (by rw [if_pos g.1, if_pos g.2, x1, zcS])⟩
        constructor
        · rintro (⟨z1, k', z2, z3⟩ | ⟨rfl, z2⟩)
          · exact ⟨z1, k', by omega, z3⟩
          · exact ⟨z2, k, by omega, g.1, g.2, k1, k2, hcn⟩
        · rintro ⟨z1, k', z2, z3⟩
          by_cases e : k' = k
          · rw [e] at z3
            have := z3.2.2.2.2
            rw [hcn] at this
            exact Or.inr ⟨(Option.some.inj this).symm, z1⟩
          · exact Or.inl ⟨z1, k', by omega, z3⟩
      · refine Or.inr ⟨_, ⟨X, st2, l2, rfl, f1, f2, f3, skip fun c' z => g ⟨z.1, z.2.1⟩⟩, fun rc => (e1 rc).trans ?_⟩
        by_cases g1 : hb (S.1 0 711) k = true
        · rw [if_pos g1, if_neg (fun z => g ⟨g1, z⟩)]
        · rw [if_neg g1]) (by
    rintro _ ⟨X, st2, l2, rfl, f1, f2, f3, f4⟩
    refine ⟨(X, st2, l2), ⟨f1, f2, f3, f4⟩, fun rc => ?_⟩
    show n_X5_useAlone_35_b3_l F (fun S x1 x2 => rc (S, x1, x2)) X (nI a) (nI 22) = _
    unfold n_X5_useAlone_35_b3_l
    rw [if_pos (show (22 : Int32) ≤ nI 22 by decide)]) F (S, nI a, 19) ⟨S, st, l, rfl, fr_rf _ _ _, h, ⟨[], by simp⟩, Rx_c (Rx_0 st) fun c v => ⟨fun z => absurd z id, fun ⟨_, k, z1, z2⟩ => by have := z2.2.2.1; omega⟩⟩ (by omega)
  refine ⟨q, ⟨q1, q2, q3, Rx_c q4 fun c v => and_congr Iff.rfl ⟨fun ⟨k, _, z⟩ => ⟨k, z⟩, fun ⟨k, z⟩ => ⟨k, z.2.2.2.1, z⟩⟩⟩, e⟩
