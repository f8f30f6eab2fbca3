/-! proofs: the class settles the shortest -/
def Pf (l : List Nat) (p c : Nat) : Prop := ∃ i, i < p ∧ l[i]? = some c
theorem Nd_i {l : List Nat} : l.Nodup ↔ ∀ i j c : Nat, l[i]? = some c → l[j]? = some c → i = j := by
  rw [List.nodup_iff_pairwise_ne, List.pairwise_iff_getElem]
  constructor
  · intro h i j c h1 h2
    obtain ⟨i1, i2⟩ := List.getElem?_eq_some_iff.mp h1
    obtain ⟨j1, j2⟩ := List.getElem?_eq_some_iff.mp h2
    rcases Nat.lt_trichotomy i j with q | q | q
    · exact absurd (i2.trans j2.symm) (h i j i1 j1 q)
    · exact q
    · exact absurd (j2.trans i2.symm) (h j i j1 i1 q)
  · intro h i j i1 j1 q e
    have := h i j l[j] (by rw [List.getElem?_eq_getElem i1, e]) (List.getElem?_eq_getElem j1)
    omega
theorem gt_some {l : List Nat} {i : Nat} (h : i < l.length) : ∃ c, l[i]? = some c := ⟨l[i], List.getElem?_eq_getElem h⟩
theorem gt_lt {l : List Nat} {i c : Nat} (h : l[i]? = some c) : i < l.length := (List.getElem?_eq_some_iff.mp h).1
theorem Bt_c {S : Zs} {P P2 : Nat → Prop} (h : Bt S P) (g : ∀ c, P c ↔ P2 c) : Bt S P2 := fun f x y a b c => ⟨(h f x y a b c).1.trans (g _), (h f x y a b c).2.trans (g _)⟩
theorem Bt_add {S : Zs} {P : Nat → Prop} {c : Nat} (h : Bt S P) (hc : c < 2304) : Bt (zp (zp S 38 (c / 24) (S.1 38 (c / 24) ||| ((1 : Int32) <<< (nI (pd c) &&& 31)))) 39 (24 * fm c + pd c) (S.1 39 (24 * fm c + pd c) ||| ((1 : Int32) <<< (nI (sj c) &&& 31)))) (fun x => P x ∨ x = c) := by
  have e := parts c
  have z1 := sj_lt c
  have z2 := pd_lt c
  have z3 := fm_lt hc
  have e24 : c / 24 = 24 * fm c + sj c := by unfold fm sj; omega
  intro f x y hf hx hy
  obtain ⟨h1, h2⟩ := h f x y hf hx hy
  constructor
  · show _ ↔ P _ ∨ _ = c
    rw [zp_off _ _ (Or.inl (by decide)), ← h1]
    by_cases q : 24 * f + x = c / 24
    · rw [q, zp_at, hb_or, hb_one (by omega), Bool.or_eq_true, decide_eq_true_iff]
      constructor
      · rintro (w | w)
        · exact Or.inl w
        · exact Or.inr (by omega)
      · rintro (w | w)
        · exact Or.inl w
        · exact Or.inr (by omega)
    · rw [zp_off _ _ (Or.inr q)]
      exact ⟨Or.inl, fun w => w.resolve_right (by omega)⟩
  · show _ ↔ P _ ∨ _ = c
    rw [← h2]
    by_cases q : 24 * f + y = 24 * fm c + pd c
    · rw [q, zp_at, hb_or, hb_one (by omega), Bool.or_eq_true, decide_eq_true_iff]
      constructor
      · rintro (w | w)
        · exact Or.inl w
        · exact Or.inr (by omega)
      · rintro (w | w)
        · exact Or.inl w
        · exact Or.inr (by omega)
    · rw [zp_off _ _ (Or.inr q), zp_off _ _ (Or.inl (by decide))]
      exact ⟨Or.inl, fun w => w.resolve_right (by omega)⟩
/-- the least cost of those that wait -/
theorem x_level {F : Nat} (hF : 2 ^ 40 < F) {S : Zs} {st : Nat → Nat} {l : List Nat} {p : Nat} (h : Dk S st l) (h7 : S.1 0 707 = nI p) (hp : p ≤ l.length) : ∃ v, (v ≤ 268435456 ∧ (∀ j c, p ≤ j → l[j]? = some c → v ≤ st c) ∧ (v = 268435456 ∨ ∃ j c, p ≤ j ∧ l[j]? = some c ∧ st c = v)) ∧ n_X5_settleShortest_35 F S = n_X5_settleShortest_35_b45 F S (nI v) (nI p) (nI p) := by
  have hlen := Dk_len h
  obtain ⟨h1, h2, h3, h4, h5⟩ := h
  obtain ⟨q, hq, e⟩ := zfix_for (f := fun (rc : (Zs × Int32 × Int32) → Option (Int32 × Zs)) (u : (Zs × Int32 × Int32)) => n_X5_settleShortest_35_b8_l F  (fun S x1 x2 => rc (S, x1, x2)) u.1 u.2.1 u.2.2) (l.length - p) (fun i u => ∃ v, u = (S, nI v, nI (p + i)) ∧ v ≤ 268435456 ∧ (∀ j c, p ≤ j → j < p + i → l[j]? = some c → v ≤ st c) ∧ (v = 268435456 ∨ ∃ j c, p ≤ j ∧ l[j]? = some c ∧ st c = v)) (fun v : Nat => v ≤ 268435456 ∧ (∀ j c, p ≤ j → l[j]? = some c → v ≤ st c) ∧ (v = 268435456 ∨ ∃ j c, p ≤ j ∧ l[j]? = some c ∧ st c = v)) (fun v => n_X5_settleShortest_35_b45 F S (nI v) (nI p) (nI p)) (by
    rintro i _ hi ⟨v, rfl, v1, v2, v3⟩
    obtain ⟨c, hc⟩ := gt_some (show p + i < l.length by omega)
    have hcl := ((h5 c).mp (List.mem_iff_getElem?.mpr ⟨_, hc⟩)).1
    obtain ⟨s1, s2⟩ := h1 c hcl
    refine Or.inr ⟨(S, nI (min (st c) v), nI (p + (i + 1))), ⟨min (st c) v, rfl, by omega, fun j d j1 j2 j3 => ?_, ?_⟩, fun rc => ?_⟩
    · by_cases ej : j = p + i
      · rw [ej, hc] at j3
        rw [← Option.some.inj j3]; omega
      · have := v2 j d j1 (by omega) j3; omega
    · rcases (show min (st c) v = st c ∨ min (st c) v = v by omega) with w | w
      · rw [w]; exact Or.inr ⟨p + i, c, by omega, hc, rfl⟩
      · rw [w]; exact v3
    · show n_X5_settleShortest_35_b8_l F (fun S x1 x2 => rc (S, x1, x2)) S (nI v) (nI (p + i)) = _
      unfold n_X5_settleShortest_35_b8_l
      rw [zgS, h3, if_neg (fun w => by rw [nI_le_iff (by omega) (by omega)] at w; omega), zld_nI _ _ _ (by omega) (by omega), h4 _ _ hc, zld_nI _ _ _ hcl (by omega), s1, zlS, zlS, nI_1, show p + (i + 1) = p + i + 1 by omega]
      by_cases w : st c < v
      · rw [if_pos (by rw [nI_lt_iff (by omega) (by omega)]; exact w), show min (st c) v = st c by omega]
      · rw [if_neg (fun z => by rw [nI_lt_iff (by omega) (by omega)] at z; exact w z), show min (st c) v = v by omega]) (by
    rintro _ ⟨v, rfl, v1, v2, v3⟩
    refine ⟨v, ⟨v1, fun j c j1 j2 => v2 j c j1 (by have := gt_lt j2; omega) j2, v3⟩, fun rc => ?_⟩
    show n_X5_settleShortest_35_b8_l F (fun S x1 x2 => rc (S, x1, x2)) S (nI v) (nI (p + (l.length - p))) = _
    unfold n_X5_settleShortest_35_b8_l
    rw [zgS, h3, if_pos (by rw [nI_le_iff (by omega) (by omega)]; omega), zgS, h7]) F (S, 268435456, nI p) ⟨268435456, rfl, Nat.le_refl _, fun j c j1 j2 => by omega, Or.inl rfl⟩ (by omega)
  refine ⟨q, hq, ?_⟩
  unfold n_X5_settleShortest_35 n_X5_settleShortest_35_e
  rw [zgS, h7]
  exact e
/-- those of the level come to the front -/
theorem x_front {F : Nat} (hF : 2 ^ 40 < F) {S : Zs} {st : Nat → Nat} {l : List Nat} {p v : Nat} (h : Dk S st l) (h7 : S.1 0 707 = nI p) (hp : p ≤ l.length) (hB : Bt S (Pf l p)) (hv : v ≤ 268435456) : ∃ q : Zs × List Nat × Nat, (fr [37, 38, 39] [707, 708] S q.1 ∧ Dk q.1 st q.2.1 ∧ q.1.1 0 707 = nI q.2.2 ∧ q.1.1 0 708 = nI v ∧ p ≤ q.2.2 ∧ q.2.2 ≤ q.2.1.length ∧ q.2.1.length = l.length ∧ (∀ j, j < p → q.2.1[j]? = l[j]?) ∧ (∀ j c, p ≤ j → j < q.2.2 → q.2.1[j]? = some c → st c = v) ∧ (∀ j c, q.2.2 ≤ j → q.2.1[j]? = some c → st c ≠ v) ∧ Bt q.1 (Pf q.2.1 q.2.2)) ∧ n_X5_settleShortest_35_b45 F S (nI v) (nI p) (nI p) = n_X5_settleShortest_35_b170 F q.1 (nI p) := by
  have hlen := Dk_len h
  obtain ⟨q, hq, e⟩ := zfix_for (f := fun (rc : (Zs × Int32 × Int32 × Int32) → Option (Int32 × Zs)) (u : (Zs × Int32 × Int32 × Int32)) => n_X5_settleShortest_35_b45_l F  (fun S x1 x2 x3 => rc (S, x1, x2, x3)) u.1 u.2.1 u.2.2.1 u.2.2.2) (l.length - p) (fun i u => ∃ X l2 p2, u = (X, nI v, nI p, nI (p + i)) ∧ fr [37, 38, 39] [707, 708] S X ∧ Dk X st l2 ∧ X.1 0 707 = nI p2 ∧ p ≤ p2 ∧ p2 ≤ p + i ∧ l2.length = l.length ∧ (∀ j, j < p → l2[j]? = l[j]?) ∧ (∀ j c, p ≤ j → j < p2 → l2[j]? = some c → st c = v) ∧ (∀ j c, p2 ≤ j → j < p + i → l2[j]? = some c → st c ≠ v) ∧ Bt X (Pf l2 p2)) (fun q : Zs × List Nat × Nat => fr [37, 38, 39] [707, 708] S q.1 ∧ Dk q.1 st q.2.1 ∧ q.1.1 0 707 = nI q.2.2 ∧ q.1.1 0 708 = nI v ∧ p ≤ q.2.2 ∧ q.2.2 ≤ q.2.1.length ∧ q.2.1.length = l.length ∧ (∀ j, j < p → q.2.1[j]? = l[j]?) ∧ (∀ j c, p ≤ j → j < q.2.2 → q.2.1[j]? = some c → st c = v) ∧ (∀ j c, q.2.2 ≤ j → q.2.1[j]? = some c → st c ≠ v) ∧ Bt q.1 (Pf q.2.1 q.2.2)) (fun q => n_X5_settleShortest_35_b170 F q.1 (nI p)) (by
    rintro i _ hi ⟨X, l2, p2, rfl, f1, f2, f3, f4, f5, f6, f7, f8, f9, f10⟩
    have f2' := f2
    obtain ⟨h1, h2, h3, h4, h5⟩ := f2
    obtain ⟨c, hc⟩ := gt_some (show p + i < l2.length by omega)
    have hcl := ((h5 c).mp (List.mem_iff_getElem?.mpr ⟨_, hc⟩)).1
    obtain ⟨s1, s2⟩ := h1 c hcl
    have pre : ∀ rc : (Zs × Int32 × Int32 × Int32) → Option (Int32 × Zs), ∀ w : Option (Int32 × Zs), True := fun _ _ => trivial
    by_cases w : st c = v
    · obtain ⟨d, hd⟩ := gt_some (show p2 < l2.length by omega)
      have z1 := sj_lt c
      have z2 := pd_lt c
      have z3 := fm_lt hcl
      -- the swapped row
      have sw : ∀ j, ((l2.set (p + i) d).set p2 c)[j]? = if j = p2 then some c else if j = p + i then some d else l2[j]? := by
        intro j
        rw [List.getElem?_set, List.getElem?_set, List.length_set]
        by_cases e1 : j = p2
        · rw [if_pos e1, if_pos e1.symm, if_pos (by omega)]
        · rw [if_neg e1, if_neg (fun z => e1 z.symm)]
          by_cases e2 : j = p + i
          · rw [if_pos e2, if_pos e2.symm, if_pos (by omega)]
          · rw [if_neg e2, if_neg (fun z => e2 z.symm)]
      generalize hl3 : (l2.set (p + i) d).set p2 c = l3 at sw
      have len3 : l3.length = l2.length := by rw [← hl3, List.length_set, List.length_set]
      have back : ∀ j x, l3[j]? = some x → ∃ k, l2[k]? = some x ∧ (k = if j = p2 then p + i else if j = p + i then p2 else j) := by
        intro j x hx
        rw [sw j] at hx
        by_cases e1 : j = p2
        · rw [if_pos e1] at hx ⊢; exact ⟨p + i, by rw [← hx]; exact hc, rfl⟩
        · rw [if_neg e1] at hx ⊢
          by_cases e2 : j = p + i
          · rw [if_pos e2] at hx ⊢; exact ⟨p2, by rw [← hx]; exact hd, rfl⟩
          · rw [if_neg e2] at hx ⊢; exact ⟨j, hx, rfl⟩
      have nd3 : l3.Nodup := Nd_i.mpr fun a b x ha hb' => by
        obtain ⟨a2, a3, a4⟩ := back a x ha
        obtain ⟨b2, b3, b4⟩ := back b x hb'
        have ab := Nd_i.mp h2 a2 b2 x a3 b3
        rw [a4, b4] at ab
        by_cases a5 : a = p2
        · rw [if_pos a5] at ab
          by_cases b5 : b = p2
          · omega
          · rw [if_neg b5] at ab
            by_cases b6 : b = p + i
            · rw [if_pos b6] at ab; omega
            · rw [if_neg b6] at ab; omega
        · rw [if_neg a5] at ab
          by_cases a6 : a = p + i
          · rw [if_pos a6] at ab
            by_cases b5 : b = p2
            · rw [if_pos b5] at ab; omega
            · rw [if_neg b5] at ab
              by_cases b6 : b = p + i
              · omega
              · rw [if_neg b6] at ab; omega
          · rw [if_neg a6] at ab
            by_cases b5 : b = p2
            · rw [if_pos b5] at ab; omega
            · rw [if_neg b5] at ab
              by_cases b6 : b = p + i
              · rw [if_pos b6] at ab; omega
              · rw [if_neg b6] at ab; exact ab
      have mem3 : ∀ x, x ∈ l3 ↔ x ∈ l2 := by
        intro x
        rw [List.mem_iff_getElem?, List.mem_iff_getElem?]
        constructor
        · rintro ⟨j, hj⟩
          obtain ⟨k, k1, -⟩ := back j x hj
          exact ⟨k, k1⟩
        · rintro ⟨j, hj⟩
          by_cases e1 : j = p2
          · refine ⟨p + i, ?_⟩
            rw [sw]
            by_cases e2 : p + i = p2
            · rw [if_pos e2]; rw [e1, ← e2, hc] at hj; exact hj
            · rw [if_neg e2, if_pos rfl]; rw [e1, hd] at hj; exact hj
          · by_cases e2 : j = p + i
            · refine ⟨p2, ?_⟩
              rw [sw, if_pos rfl]
              rw [e2, hc] at hj; exact hj
            · exact ⟨j, by rw [sw, if_neg e1, if_neg e2]; exact hj⟩
      have pf3 : ∀ x, (Pf l2 p2 x ∨ x = c) ↔ Pf l3 (p2 + 1) x := by
        intro x
        constructor
        · rintro (⟨k, k1, k2⟩ | rfl)
          · exact ⟨k, by omega, by rw [sw, if_neg (by omega), if_neg (by omega)]; exact k2⟩
          · exact ⟨p2, by omega, by rw [sw, if_pos rfl]⟩
        · rintro ⟨k, k1, k2⟩
          rw [sw] at k2
          by_cases e1 : k = p2
          · rw [if_pos e1] at k2; exact Or.inr (Option.some.inj k2).symm
          · rw [if_neg e1, if_neg (by omega)] at k2
            exact Or.inl ⟨k, by omega, k2⟩
      let X1 := zp X 37 (p + i) (nI d)
      let X2 := zp X1 37 p2 (nI c)
      let X3 := zp X2 0 707 (nI (p2 + 1))
      let X4 := zp X3 38 (c / 24) (X3.1 38 (c / 24) ||| ((1 : Int32) <<< (nI (pd c) &&& 31)))
      let X5 := zp X4 39 (24 * fm c + pd c) (X3.1 39 (24 * fm c + pd c) ||| ((1 : Int32) <<< (nI (sj c) &&& 31)))
      have g3 : Bt X3 (Pf l2 p2) := Bt_fr f10 (by
        show (zp (zp (zp X 37 (p + i) (nI d)) 37 p2 (nI c)) 0 707 (nI (p2 + 1))).1 38 = _
        rw [zp_row _ _ _ (by decide), zp_row _ _ _ (by decide), zp_row _ _ _ (by decide)]) (by
        show (zp (zp (zp X 37 (p + i) (nI d)) 37 p2 (nI c)) 0 707 (nI (p2 + 1))).1 39 = _
        rw [zp_row _ _ _ (by decide), zp_row _ _ _ (by decide), zp_row _ _ _ (by decide)])
      have gB : Bt X5 (Pf l3 (p2 + 1)) := Bt_c (Bt_add g3 hcl) pf3
      have r36 : X5.1 36 = X.1 36 := by
        show (zp (zp (zp (zp (zp X 37 (p + i) (nI d)) 37 p2 (nI c)) 0 707 (nI (p2 + 1))) 38 _ _) 39 _ _).1 36 = _
        rw [zp_row _ _ _ (by decide), zp_row _ _ _ (by decide), zp_row _ _ _ (by decide), zp_row _ _ _ (by decide), zp_row _ _ _ (by decide)]
      have r37 : X5.1 37 = X2.1 37 := by
        show (zp (zp (zp X2 0 707 (nI (p2 + 1))) 38 _ _) 39 _ _).1 37 = _
        rw [zp_row _ _ _ (by decide), zp_row _ _ _ (by decide), zp_row _ _ _ (by decide)]
      have r706 : X5.1 0 706 = X.1 0 706 := by
        show (zp (zp (zp (zp (zp X 37 (p + i) (nI d)) 37 p2 (nI c)) 0 707 (nI (p2 + 1))) 38 _ _) 39 _ _).1 0 706 = _
        rw [zp_off _ _ (Or.inl (by decide)), zp_off _ _ (Or.inl (by decide)), zp_off _ _ (Or.inr (by decide)), zp_off _ _ (Or.inl (by decide)), zp_off _ _ (Or.inl (by decide))]
      have r707 : X5.1 0 707 = nI (p2 + 1) := by
        show (zp (zp (zp X2 0 707 (nI (p2 + 1))) 38 _ _) 39 _ _).1 0 707 = _
        rw [zp_off _ _ (Or.inl (by decide)), zp_off _ _ (Or.inl (by decide)), zp_at]
      have gD : Dk X5 st l3 := by
        refine ⟨fun b hb' => by rw [r36]; exact h1 b hb', nd3, by rw [r706, h3, len3], fun j x hx => ?_, fun x => (mem3 x).trans (h5 x)⟩
        rw [r37]
        show (zp (zp X 37 (p + i) (nI d)) 37 p2 (nI c)).1 37 j = _
        rw [sw] at hx
        by_cases e1 : j = p2
        · rw [if_pos e1] at hx
          rw [e1, zp_at, Option.some.inj hx]
        · rw [if_neg e1] at hx
          rw [zp_off _ _ (Or.inr e1)]
          by_cases e2 : j = p + i
          · rw [if_pos e2] at hx
            rw [e2, zp_at, Option.some.inj hx]
          · rw [if_neg e2] at hx
            rw [zp_off _ _ (Or.inr e2)]
            exact h4 j x hx
      refine Or.inr ⟨(X5, nI v, nI p, nI (p + (i + 1))), ⟨X5, l3, p2 + 1, rfl, ?_, gD, r707, by omega, by omega, by omega, fun j hj => ?_, fun j x j1 j2 j3 => ?_, fun j x j1 j2 j3 => ?_, gB⟩, fun rc => ?_⟩
      · exact fr_t f1 (fr_t (fr_r _ _ (by decide) (by decide)) (fr_t (fr_r _ _ (by decide) (by decide)) (fr_t (fr_p _ (by decide)) (fr_t (fr_r _ _ (by decide) (by decide)) (fr_r _ _ (by decide) (by decide))))))
      · rw [sw, if_neg (by omega), if_neg (by omega)]; exact f7 j hj
      · rw [sw] at j3
        by_cases e1 : j = p2
        · rw [if_pos e1] at j3; rw [← Option.some.inj j3]; exact w
        · rw [if_neg e1, if_neg (by omega)] at j3; exact f8 j x j1 (by omega) j3
      · rw [sw, if_neg (by omega)] at j3
        by_cases e2 : j = p + i
        · rw [if_pos e2] at j3
          rw [← Option.some.inj j3]
          exact f9 p2 d (Nat.le_refl _) (by omega) hd
        · rw [if_neg e2] at j3; exact f9 j x (by omega) (by omega) j3
      · show n_X5_settleShortest_35_b45_l F (fun S x1 x2 x3 => rc (S, x1, x2, x3)) X (nI v) (nI p) (nI (p + i)) = _
        unfold n_X5_settleShortest_35_b45_l n_X5_settleShortest_35_b157
        rw [zgS, h3, if_neg (fun w => by rw [nI_le_iff (by omega) (by omega)] at w; omega), zld_nI _ _ _ (by omega) (by omega), h4 _ _ hc, zld_nI _ _ _ hcl (by omega), s1, w, if_pos rfl, zgS, f3, zld_nI _ _ _ (by omega) (by omega), h4 _ _ hd, zst_nI _ _ _ _ (by omega) (by omega), zgS, zp_off _ _ (Or.inl (by decide)), f3, zst_nI _ _ _ _ (by omega) (by omega), zgS, zp_off _ _ (Or.inl (by decide)), zp_off _ _ (Or.inl (by decide)), f3, zpS, nI_1, zlS, e_24 hcl, zld_nI _ _ _ (by omega) (by omega), n_pred F _ hcl, zcS, zst_nI _ _ _ _ (by omega) (by omega), n_frm F _ hcl, zcS, n_pred F _ hcl, zcS, zlS, show (24 : Int32) * nI (fm c) = nI (24 * fm c) from pk_mul 24 _, nI_add, zld_nI _ _ _ (by omega) (by omega), n_subj F _ hcl, zcS, zst_nI _ _ _ _ (by omega) (by omega), zlS, nI_1, show p + (i + 1) = p + i + 1 by omega, zp_row _ _ _ (show 39 ≠ 38 by decide)]
    · refine Or.inr ⟨(X, nI v, nI p, nI (p + (i + 1))), ⟨X, l2, p2, rfl, f1, f2', f3, f4, by omega, f6, f7, f8, fun j x j1 j2 j3 => ?_, f10⟩, fun rc => ?_⟩
      · by_cases ej : j = p + i
        · rw [ej, hc] at j3
          rw [← Option.some.inj j3]; exact w
        · exact f9 j x j1 (by omega) j3
      · show n_X5_settleShortest_35_b45_l F (fun S x1 x2 x3 => rc (S, x1, x2, x3)) X (nI v) (nI p) (nI (p + i)) = _
        unfold n_X5_settleShortest_35_b45_l n_X5_settleShortest_35_b157
        rw [zgS, h3, if_neg (fun w => by rw [nI_le_iff (by omega) (by omega)] at w; omega), zld_nI _ _ _ (by omega) (by omega), h4 _ _ hc, zld_nI _ _ _ hcl (by omega), s1, if_neg (fun z => w ((nI_eq (by omega) (by omega)).mp z)), zlS, nI_1, show p + (i + 1) = p + i + 1 by omega]) (by
    rintro _ ⟨X, l2, p2, rfl, f1, f2, f3, f4, f5, f6, f7, f8, f9, f10⟩
    obtain ⟨h1, h2, h3, h4, h5⟩ := f2
    refine ⟨(zp X 0 708 (nI v), l2, p2), ⟨fr_t f1 (fr_p _ (by decide)), ⟨fun b hb' => ?_, h2, ?_, fun j x hx => ?_, h5⟩, ?_, zp_at _ _ _ _, f4, by show p2 ≤ l2.length; omega, f6, f7, f8, fun j c j1 j2 => f9 j c j1 (by have := gt_lt (show l2[j]? = some c from j2); omega) j2, Bt_fr f10 (zp_row _ _ _ (by decide)) (zp_row _ _ _ (by decide))⟩, fun rc => ?_⟩
    · rw [zp_off _ _ (Or.inl (by decide))]; exact h1 b hb'
    · rw [zp_off _ _ (Or.inr (by decide))]; exact h3
    · rw [zp_off _ _ (Or.inl (by decide))]; exact h4 j x hx
    · rw [zp_off _ _ (Or.inr (by decide))]; exact f3
    · show n_X5_settleShortest_35_b45_l F (fun S x1 x2 x3 => rc (S, x1, x2, x3)) X (nI v) (nI p) (nI (p + (l.length - p))) = _
      unfold n_X5_settleShortest_35_b45_l
      rw [zgS, h3, if_pos (by rw [nI_le_iff (by omega) (by omega)]; omega), zpS]) F (S, nI v, nI p, nI p) ⟨S, l, p, rfl, fr_rf _ _ _, h, h7, Nat.le_refl _, by omega, rfl, fun _ _ => rfl, fun j c j1 j2 => by omega, fun j c j1 j2 => by omega, hB⟩ (by omega)
  exact ⟨q, hq, e⟩
