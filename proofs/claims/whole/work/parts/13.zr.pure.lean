/-! plead: all lines -/
def pq (sg : Nat → Nat) (T : Nat) : Nat → Bool → Nat → List (Nat × Nat × Option Nat × Nat) × Bool × Nat
  | 0, b, a => ([], !b, a)
  | k + 1, b, a => if b = true then (match plV sg T a with
      | (none, p) => ([], false, p)
      | (some l, p) => (l :: (pq sg T k (tkB sg T p 59) (p + (tkB sg T p 59).toNat)).1, (pq sg T k (tkB sg T p 59) (p + (tkB sg T p 59).toNat)).2)) else ([], true, a)
theorem pq_f (sg : Nat → Nat) (T k a : Nat) : pq sg T (k + 1) false a = ([], true, a) := by
  unfold pq; rw [if_neg (by decide)]
theorem pq_n {sg : Nat → Nat} {T k a p : Nat} (g : plV sg T a = (none, p)) : pq sg T (k + 1) true a = ([], false, p) := by
  unfold pq; rw [if_pos rfl, g]
theorem pq_l {sg : Nat → Nat} {T k a p : Nat} {l : Nat × Nat × Option Nat × Nat} (g : plV sg T a = (some l, p)) : pq sg T (k + 1) true a = (l :: (pq sg T k (tkB sg T p 59) (p + (tkB sg T p 59).toNat)).1, (pq sg T k (tkB sg T p 59) (p + (tkB sg T p 59).toNat)).2) := by
  conv => lhs; unfold pq
  rw [if_pos rfl, g]
def LnP (rc rl r1 r2 : Nat) (S : Zs) (w : Nat) (L : List (Nat × Nat × Option Nat × Nat)) : Prop := ∀ j l, L[j]? = some l → At rc rl r1 r2 S (w + j) l ∧ plOk l
def LoP (rc rl r1 r2 : Nat) (S S0 : Zs) (w : Nat) : Prop := ∀ i, i < w → S.1 rc i = S0.1 rc i ∧ S.1 rl i = S0.1 rl i ∧ S.1 r1 i = S0.1 r1 i ∧ S.1 r2 i = S0.1 r2 i
theorem LoP_w {rc rl r1 r2 w e : Nat} {S S2 S0 : Zs} (h : LoP rc rl r1 r2 S S0 w) (g : Wt rc rl r1 r2 S S2 e) (he : w ≤ e) : LoP rc rl r1 r2 S2 S0 w := fun i hi => by
  obtain ⟨q1, q2, q3, q4⟩ := g.2 i (by omega)
  rw [q1, q2, q3, q4]; exact h i hi
theorem LnP_w {rc rl r1 r2 w : Nat} {S S2 : Zs} {L : List (Nat × Nat × Option Nat × Nat)} {l : Nat × Nat × Option Nat × Nat} (h : LnP rc rl r1 r2 S w L) (g : Wt rc rl r1 r2 S S2 (w + L.length)) (ha : At rc rl r1 r2 S2 (w + L.length) l) (hl : plOk l) : LnP rc rl r1 r2 S2 w (L ++ [l]) := by
  intro j x hx
  rw [get_app] at hx
  by_cases q : j < L.length
  · rw [if_pos q] at hx
    obtain ⟨q1, q2, q3, q4⟩ := g.2 (w + j) (by omega)
    have := h j x hx
    unfold At at this ⊢
    rw [q1, q2, q3, q4]; exact this
  · rw [if_neg q] at hx
    by_cases q2 : j = L.length
    · rw [if_pos q2] at hx
      rw [q2, ← Option.some.inj hx]; exact ⟨ha, hl⟩
    · rw [if_neg q2] at hx; exact absurd hx (by simp)
theorem At_z {rc rl r1 r2 : Nat} {S : Zs} {e k : Nat} {v : Int32} {l : Nat × Nat × Option Nat × Nat} (h0 : rc ≠ 0 ∧ rl ≠ 0 ∧ r1 ≠ 0 ∧ r2 ≠ 0) (h : At rc rl r1 r2 S e l) : At rc rl r1 r2 (zp S 0 k v) e l := by
  unfold At at *
  rw [zp_off _ _ (Or.inl h0.1), zp_off _ _ (Or.inl h0.2.1), zp_off _ _ (Or.inl h0.2.2.1), zp_off _ _ (Or.inl h0.2.2.2)]; exact h
theorem x_pread {F : Nat} (hF : 2 ^ 40 < F) {X : Zs} {sg : Nat → Nat} {w L : Nat} (hw : w ≤ 24) (hB : XB X sg L) (b0 : Bool) : ∃ S : Zs, (fr [42, 43, 44, 45] [22] X S ∧ LoP 42 43 44 45 S X w ∧ S.1 0 22 = nI (pq sg (min L 76) 12 b0 0).2.2 ∧ (pq sg (min L 76) 12 b0 0).2.2 ≤ min L 76 ∧ ((pq sg (min L 76) 12 b0 0).2.1 = true → LnP 42 43 44 45 S w (pq sg (min L 76) 12 b0 0).1 ∧ (pq sg (min L 76) 12 b0 0).1.length ≤ 11)) ∧ n_X3_read_41_1_b22 F (cX X 0) (nI w) (bI (b0 = true)) = if (pq sg (min L 76) 12 b0 0).2.1 = true then n_X3_read_41_1_b59 F S (nI (w + (pq sg (min L 76) 12 b0 0).1.length)) else some (-1 - nI (pq sg (min L 76) 12 b0 0).2.2, S) := by
  generalize hT : min L 76 = T at *
  exact zfix_for (f := fun (rc : (Zs × Int32 × Int32) → Option (Int32 × Zs)) (u : (Zs × Int32 × Int32)) => n_X3_read_41_1_b22_l F  (fun S x2 x3 => rc (S, x2, x3)) u.1 u.2.1 u.2.2) 12 (fun m s => ∃ X' a b Lp, s = (cX X' a, nI (w + m), bI (b = true)) ∧ fr [42, 43, 44, 45] [] X X' ∧ LoP 42 43 44 45 X' X w ∧ LnP 42 43 44 45 X' w Lp ∧ Lp.length = m ∧ a ≤ T ∧ 7 * m ≤ a + 1 ∧ (b = true → 7 * m ≤ a) ∧ pq sg T 12 b0 0 = (Lp ++ (pq sg T (12 - m) b a).1, (pq sg T (12 - m) b a).2)) (fun S : Zs => fr [42, 43, 44, 45] [22] X S ∧ LoP 42 43 44 45 S X w ∧ S.1 0 22 = nI (pq sg T 12 b0 0).2.2 ∧ (pq sg T 12 b0 0).2.2 ≤ T ∧ ((pq sg T 12 b0 0).2.1 = true → LnP 42 43 44 45 S w (pq sg T 12 b0 0).1 ∧ (pq sg T 12 b0 0).1.length ≤ 11)) (fun S => if (pq sg T 12 b0 0).2.1 = true then n_X3_read_41_1_b59 F S (nI (w + (pq sg T 12 b0 0).1.length)) else some (-1 - nI (pq sg T 12 b0 0).2.2, S)) (by
    rintro m _ hm ⟨X', a, b, Lp, rfl, hf, hlo, hln, hlen, ha, h7, h7b, hpl⟩
    have hB' := XB_fr hB hf (by decide) (by decide)
    have fcx : ∀ (Y : Zs) p, fr [42, 43, 44, 45] [] X Y → fr [42, 43, 44, 45] [22] X (cX Y p) := fun Y p h => fr_t (fr_w h (by decide) (by decide)) (fr_p _ (by decide))
    have loc : ∀ (Y : Zs) p, LoP 42 43 44 45 Y X w → LoP 42 43 44 45 (cX Y p) X w := fun Y p h i hi => by
      rw [cX_r Y p (by decide), cX_r Y p (by decide), cX_r Y p (by decide), cX_r Y p (by decide)]; exact h i hi
    obtain ⟨k, hk⟩ : ∃ k, 12 - m = k + 1 := ⟨11 - m, by omega⟩
    rw [hk] at hpl
    cases b with
    | false =>
      rw [pq_f, List.append_nil] at hpl
      rw [hpl]
      refine Or.inl ⟨cX X' a, ⟨fcx X' a hf, loc X' a hlo, cX_at X' a, ha, fun _ => ⟨fun j l hl => ?_, by rw [hlen]; omega⟩⟩, fun rc => ?_⟩
      · have := hln j l hl
        exact ⟨At_z (by decide) this.1, this.2⟩
      · show n_X3_read_41_1_b22_l F (fun S x2 x3 => rc (S, x2, x3)) (cX X' a) (nI (w + m)) (bI (false = true)) = _
        unfold n_X3_read_41_1_b22_l
        rw [if_pos (show bI (false = true) = 0 by decide), if_pos rfl, hlen]
    | true =>
      have h7' := h7b rfl
      have he : w + m < 40 := by omega
      obtain ⟨r, X2, q1, q2, q3, q4⟩ := x_line (F := F) (e := w + m) hB' (show a ≤ min L 76 by rw [hT]; exact ha) he
      rw [hT] at q1 q3 q4
      have hle := plV_le (sg := sg) ha
      have f2 := fr_t hf q2.1
      have lo2 := LoP_w hlo q2 (by omega)
      have e1 : ∀ rc : (Zs × Int32 × Int32) → Option (Int32 × Zs), n_X3_read_41_1_b22_l F (fun S x2 x3 => rc (S, x2, x3)) (cX X' a) (nI (w + m)) (bI (true = true)) = if r = 0 then (zcl (n_X8_wrong_1 F (cX X2 (plV sg T a).2)) (fun v7 S6 => some (v7, S6))) else (zcl (n_X8_take_1 F (cX X2 (plV sg T a).2) (59 : Int32)) (fun v5 S4 => rc (S4, nI (w + m + 1), v5))) := by
        intro rc
        unfold n_X3_read_41_1_b22_l
        rw [if_neg (show ¬ bI (true = true) = 0 by decide), if_neg (show ¬ (40 : Int32) ≤ nI (w + m) from nI_ge (b := 40) he (by omega)), q1, zcS, zlS, nI_1]
      cases el : plV sg T a with
      | mk o p =>
        rw [el] at e1 q3 q4 hle
        cases o with
        | none =>
          rw [pq_n el, List.append_nil] at hpl
          rw [hpl]
          refine Or.inl ⟨cX X2 p, ⟨fcx X2 p f2, loc X2 p lo2, cX_at X2 p, hle.1, fun g => absurd g (by simp)⟩, fun rc => ?_⟩
          refine (e1 rc).trans ?_
          rw [if_pos ((isB_0 q3).mpr (by simp))]
          unfold n_X8_wrong_1 n_X8_wrong_1_e
          rw [zgS, cX_at, zcS, if_neg (by simp)]
        | some l =>
          obtain ⟨ok, hp6⟩ := hle.2 l rfl
          have hp : p ≤ T := hle.1
          have k59 : n_X8_take_1 F (cX X2 p) 59 = _ := x_take (F := F) (c := 59) (XB_fr hB f2 (by decide) (by decide)) (show p ≤ min L 76 by rw [hT]; exact hp) (by omega)
          rw [hT] at k59
          have hp6 : a + 6 ≤ p := hp6
          refine Or.inr ⟨(cX X2 (p + (tkB sg T p 59).toNat), nI (w + m + 1), bI (tkB sg T p 59 = true)), ⟨X2, _, _, Lp ++ [l], rfl, f2, lo2, ?_, by rw [List.length_append, hlen]; rfl, tk_le hp, by omega, fun g => ?_, ?_⟩, fun rc => (e1 rc).trans ?_⟩
          · exact LnP_w hln (by rw [hlen]; exact q2) (by rw [hlen]; exact q4 l rfl) ok
          · rw [g]; show 7 * (m + 1) ≤ p + 1; omega
          · rw [hpl, pq_l el, show 12 - (m + 1) = k by omega, List.append_assoc]; rfl
          · rw [if_neg (fun z => (isB_0 q3).mp z (by simp))]
            dsimp only
            rw [k59, zcS]) (by
    rintro _ ⟨X', a, b, Lp, rfl, hf, hlo, hln, hlen, ha, h7, h7b, hpl⟩
    omega) F (cX X 0, nI w, bI (b0 = true)) ⟨X, 0, b0, [], rfl, fr_rf _ _ _, fun _ _ => ⟨rfl, rfl, rfl, rfl⟩, fun j l h => absurd h (by simp), rfl, by omega, by omega, fun _ => by omega, rfl⟩ (by omega)
theorem m_pread {F : Nat} (hF : 2 ^ 40 < F) {M : Zs} {sg : Nat → Nat} {w L : Nat} (hw : w ≤ 24) (h36 : M.1 0 36 = nI w) (hB : MB M sg L) (b0 : Bool) : ∃ q : Zs, (fr [16, 17, 18, 19] [36] M q ∧ LoP 16 17 18 19 q M w ∧ ((pq sg (min L 76) 12 b0 0).2.1 = true → LnP 16 17 18 19 q w (pq sg (min L 76) 12 b0 0).1 ∧ q.1 0 36 = nI (w + (pq sg (min L 76) 12 b0 0).1.length))) ∧ n_X12_plead_0_b30 F (cM M 0) (nI L) 1 (bI (b0 = true)) = n_X12_plead_0_b30_l F (fun _ _ _ _ => none) (cM q (pq sg (min L 76) 12 b0 0).2.2) (nI L) (bI ((pq sg (min L 76) 12 b0 0).2.1 = true)) 0 := by
  generalize hT : min L 76 = T at *
  exact zfix_for (f := fun (rc : (Zs × Int32 × Int32 × Int32) → Option (Int32 × Zs)) (u : (Zs × Int32 × Int32 × Int32)) => n_X12_plead_0_b30_l F  (fun S x1 x2 x3 => rc (S, x1, x2, x3)) u.1 u.2.1 u.2.2.1 u.2.2.2) 13 (fun m s => ∃ M' g a b Lp, s = (cM M' a, nI L, bI (g = true), bI (b = true)) ∧ fr [16, 17, 18, 19] [36] M M' ∧ LoP 16 17 18 19 M' M w ∧ a ≤ T ∧ ((g = true ∧ M'.1 0 36 = nI (w + m) ∧ LnP 16 17 18 19 M' w Lp ∧ Lp.length = m ∧ 7 * m ≤ a + 1 ∧ (b = true → 7 * m ≤ a) ∧ pq sg T 12 b0 0 = (Lp ++ (pq sg T (12 - m) b a).1, (pq sg T (12 - m) b a).2)) ∨ (g = false ∧ b = false ∧ pq sg T 12 b0 0 = (Lp, false, a)))) (fun q : Zs => fr [16, 17, 18, 19] [36] M q ∧ LoP 16 17 18 19 q M w ∧ ((pq sg T 12 b0 0).2.1 = true → LnP 16 17 18 19 q w (pq sg T 12 b0 0).1 ∧ q.1 0 36 = nI (w + (pq sg T 12 b0 0).1.length))) (fun q => n_X12_plead_0_b30_l F (fun _ _ _ _ => none) (cM q (pq sg T 12 b0 0).2.2) (nI L) (bI ((pq sg T 12 b0 0).2.1 = true)) 0) (by
    rintro m _ hm ⟨M', g, a, b, Lp, rfl, hf, hlo, ha, hcs⟩
    have hB' := MB_fr hB hf (by decide) (by decide)
    have e0 : ∀ rc : (Zs × Int32 × Int32 × Int32) → Option (Int32 × Zs), n_X12_plead_0_b30_l F (fun S x1 x2 x3 => rc (S, x1, x2, x3)) (cM M' a) (nI L) (bI (g = true)) 0 = n_X12_plead_0_b30_l F (fun _ _ _ _ => none) (cM M' a) (nI L) (bI (g = true)) 0 := by
      intro rc
      unfold n_X12_plead_0_b30_l
      rw [if_pos rfl, if_pos rfl]
    rcases hcs with ⟨rfl, h36', hln, hlen, h7, h7b, hpl⟩ | ⟨rfl, rfl, hpl⟩
    · cases b with
      | false =>
        obtain ⟨k, hk⟩ : ∃ k, 12 - m = k + 1 := ⟨11 - m, by omega⟩
        rw [hk, pq_f, List.append_nil] at hpl
        rw [hpl]
        exact Or.inl ⟨M', ⟨hf, hlo, fun _ => ⟨hln, by rw [hlen]; exact h36'⟩⟩, e0⟩
      | true =>
        have h7' := h7b rfl
        obtain ⟨k, hk⟩ : ∃ k, 12 - m = k + 1 := ⟨11 - m, by omega⟩
        rw [hk] at hpl
        have he : w + m < 40 := by omega
        obtain ⟨r, M2, v, q1, q2, q3, q4⟩ := m_plea hF (e := w + m) hB' (show a ≤ min L 76 by rw [hT]; exact ha) he h36'
        rw [hT] at q1 q3 q4
        have hle := plV_le (sg := sg) ha
        have f2 : fr [16, 17, 18, 19] [36] M (zp M2 0 36 v) := fr_t hf (fr_t (fr_w q2.1 (by decide) (by decide)) (fr_p _ (by decide)))
        have lo2 : LoP 16 17 18 19 (zp M2 0 36 v) M w := fun i hi => by
          rw [zp_off _ _ (Or.inl (by decide)), zp_off _ _ (Or.inl (by decide)), zp_off _ _ (Or.inl (by decide)), zp_off _ _ (Or.inl (by decide))]
          exact LoP_w hlo q2 (by omega) i hi
        have e1 : ∀ rc : (Zs × Int32 × Int32 × Int32) → Option (Int32 × Zs), n_X12_plead_0_b30_l F (fun S x1 x2 x3 => rc (S, x1, x2, x3)) (cM M' a) (nI L) (bI (true = true)) (bI (true = true)) = if r = 0 then rc (cM (zp M2 0 36 v) (plV sg T a).2, nI L, r, 0) else (zcl (n_X12_takes_0 F (cM (zp M2 0 36 v) (plV sg T a).2) (59 : Int32)) (fun v7 S6 => if v7 = 0 then rc (S6, nI L, r, 0) else rc (S6, nI L, r, 1))) := by
          intro rc
          unfold n_X12_plead_0_b30_l n_X12_plead_0_b56 n_X12_plead_0_b57
          rw [if_neg (show ¬ bI (true = true) = 0 by decide), q1, zcS]
        cases el : plV sg T a with
        | mk o p =>
          rw [el] at e1 q3 q4 hle
          cases o with
          | none =>
            rw [pq_n el, List.append_nil] at hpl
            have r0 := (isB_0 q3).mpr (by simp)
            refine Or.inr ⟨_, ⟨zp M2 0 36 v, false, p, false, Lp, rfl, f2, lo2, hle.1, Or.inr ⟨rfl, rfl, hpl⟩⟩, fun rc => (e1 rc).trans ?_⟩
            rw [if_pos r0, r0]; rfl
          | some l =>
            obtain ⟨ok, hp6⟩ := hle.2 l rfl
            have hp : p ≤ T := hle.1
            have hp6 : a + 6 ≤ p := hp6
            obtain ⟨q5, q6⟩ := q4 l rfl
            have k59 : n_X12_takes_0 F (cM (zp M2 0 36 v) p) 59 = _ := m_takes (F := F) (c := 59) (MB_fr hB f2 (by decide) (by decide)) (show p ≤ min L 76 by rw [hT]; exact hp) (by omega)
            rw [hT] at k59
            have r1 : r = 1 := q3.elim (fun z => z.1) (fun z => absurd (by simp) z.2)
            refine Or.inr ⟨(cM (zp M2 0 36 v) (p + (tkB sg T p 59).toNat), nI L, bI (true = true), bI (tkB sg T p 59 = true)), ⟨zp M2 0 36 v, true, _, _, Lp ++ [l], rfl, f2, lo2, tk_le hp, Or.inl ⟨rfl, by rw [zp_at, q6]; rfl, ?_, by rw [List.length_append, hlen]; rfl, by omega, fun g => ?_, ?_⟩⟩, fun rc => (e1 rc).trans ?_⟩
            · intro j x hx
              have := LnP_w hln (by rw [hlen]; exact q2) (by rw [hlen]; exact q5) ok j x hx
              exact ⟨At_z (by decide) this.1, this.2⟩
            · rw [g]; show 7 * (m + 1) ≤ p + 1; omega
            · rw [hpl, pq_l el, show 12 - (m + 1) = k by omega, List.append_assoc]; rfl
            · rw [r1, if_neg (by decide)]
              dsimp only
              rw [k59, zcS]
              cases tkB sg T p 59 with
              | true => rw [if_neg (show ¬ bI (true = true) = 0 by decide)]; rfl
              | false => rw [if_pos (show bI (false = true) = 0 by decide)]; rfl
    · rw [hpl]
      exact Or.inl ⟨M', ⟨hf, hlo, fun z => absurd z (by simp)⟩, e0⟩) (by
    rintro _ ⟨M', g, a, b, Lp, rfl, hf, hlo, ha, hcs⟩
    rcases hcs with ⟨-, -, -, -, h7, -, -⟩ | ⟨rfl, rfl, hpl⟩
    · omega
    · rw [hpl]
      refine ⟨M', ⟨hf, hlo, fun z => absurd z (by simp)⟩, fun rc => ?_⟩
      show n_X12_plead_0_b30_l F (fun S x1 x2 x3 => rc (S, x1, x2, x3)) (cM M' a) (nI L) (bI (false = true)) (bI (false = true)) = _
      unfold n_X12_plead_0_b30_l
      rw [if_pos (show bI (false = true) = 0 by decide), if_pos rfl]) F (cM M 0, nI L, 1, bI (b0 = true)) ⟨M, true, 0, b0, [], rfl, fr_rf _ _ _, fun _ _ => ⟨rfl, rfl, rfl, rfl⟩, by omega, Or.inl ⟨rfl, h36, fun j l h => absurd h (by simp), rfl, by omega, fun _ => by omega, rfl⟩⟩ (by omega)
