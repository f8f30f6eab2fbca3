/-! proofs: no shortest proof is long -/
theorem R1_fm {al lv : Int32} {a c : Nat} (h : R1 al lv a c) : c < 2304 ∧ a < 2304 ∧ ((hb al 19 = true ∧ fm a = fm c ∧ (fm c = 1 ∨ fm c = 2)) ∨ (hb al 20 = true ∧ fm a = fm c ^^^ 1) ∨ (fm c = fm a + 2 ∧ fm a < 2)) := by
  obtain ⟨ha, k, r1, r2, r3, r4, r5⟩ := h
  have hc := cn_lt ha r5
  refine ⟨hc, ha, ?_⟩
  have z1 := sj_lt c
  have z2 := pd_lt c
  have z3 := fm_lt hc
  rw [cn_single r3 r4 ha hc] at r5
  unfold sP at r5
  by_cases k19 : k = 19
  · rw [if_pos k19] at r5
    rw [k19] at r1
    split at r5
    · rename_i q
      refine Or.inl ⟨r1, ?_, q⟩
      rw [← Option.some.inj r5]
      exact (cdP z2 z1).1
    · exact absurd r5 (by simp)
  · rw [if_neg k19] at r5
    by_cases k20 : k = 20
    · rw [if_pos k20] at r5
      rw [k20] at r1
      refine Or.inr (Or.inl ⟨r1, ?_⟩)
      rw [← Option.some.inj r5]
      exact (cdP z1 (x11 _ z2).1).1
    · rw [if_neg k20] at r5
      split at r5
      · exact absurd r5 (by simp)
      · rename_i q
        refine Or.inr (Or.inr ?_)
        rw [← Option.some.inj r5, (cdP z1 z2).1]
        omega
theorem R2_fm {al lv : Int32} {a d c : Nat} (h : R2 al lv a d c) : c < 2304 ∧ a < 2304 ∧ d < 2304 ∧ ∃ k, k < 19 ∧ hb al k = true ∧ fm a = gA k ∧ fm d = gB k ∧ fm c = gC k := by
  obtain ⟨ha, hd, k, r1, r2, r3, r4⟩ := h
  have hc := cn_lt ha r4
  refine ⟨hc, ha, hd, k, r3, r1, ?_⟩
  have q := ((cn_pair r3 hc).mp r4).1
  unfold cn at r4
  rw [if_pos r3] at r4
  split at r4
  · rename_i y; exact ⟨y.1, y.2.1, q⟩
  · exact absurd r4 (by simp)
theorem mt_p : ∀ k, k < 19 → gA k < 2 ∨ gB k < 2 := by decide
theorem mt_u : ∀ k, k < 19 → gC k < 2 → gA k < 2 ∧ gB k < 2 := by decide
theorem mt_0 : ∀ k, k < 19 → gC k = 0 → k = 0 := by decide
theorem mt_1 : ∀ k, k < 19 → gC k = 1 → (gA k = 1 ∧ gB k = 0) ∨ (gA k = 0 ∧ gB k = 1) := by decide
theorem mt_2 : ∀ k, k < 19 → gC k = 2 → (gA k = 0 ∧ gB k = 2) ∨ (gA k = 2 ∧ gB k = 0) ∨ (gA k = 0 ∧ gB k = 0) := by decide
theorem mt_3 : ∀ k, k < 19 → gC k = 3 → (gA k = 1 ∧ gB k = 2) ∨ (gA k = 0 ∧ gB k = 3) ∨ (gA k = 3 ∧ gB k = 0) ∨ (gA k = 1 ∧ gB k = 0) := by decide
theorem fm_r {c f : Nat} : fm c = f ↔ 576 * f ≤ c ∧ c < 576 * f + 576 := by unfold fm; omega
theorem x1p {f : Nat} (hf : f < 4) : (f ^^^ 1 < 2 ↔ f < 2) := (show ∀ f, f < 4 → (f ^^^ 1 < 2 ↔ f < 2) by decide) f hf
/-- if mood 20 is allowed -/
theorem bnd20 {al lv : Int32} {T : Nat → Prop} (hT : ∀ c, T c → c < 2304) (h : hb al 20 = true) : ∀ c m, Ls al lv T c m → (c < 1152 → m ≤ 840) ∧ m < 1000000 := by
  have hu : ∀ c m, Ls al lv T c m → c < 1152 → m ≤ 840 := fun c m g hc => by
    obtain ⟨i, i1, i2⟩ := uni20 hT h c m g.1 hc
    have := Ls_le g i2
    omega
  intro c m g
  refine ⟨hu c m g, ?_⟩
  have hc := Cost_lt hT g.1
  by_cases q : c < 1152
  · have := hu c m g q; omega
  · have := chain_le (al := al) (lv := lv) (T := T) (lo := 1152) (N := 1152) (i := 1681) (w := 840) (fun c m h1 h2 g => by
      cases m with
      | zero => exact Or.inl (by omega)
      | succ n =>
        rcases Ls_inv g with ⟨a, r, l1⟩ | ⟨a, d, s, t, r, l1, l2, e⟩
        · by_cases qa : a < 1152
          · have := hu a n l1 qa
            exact Or.inl (by omega)
          · exact Or.inr ⟨a, n, by omega, by have := r.1; omega, l1, by omega, by omega⟩
        · obtain ⟨-, ha, hd, k, k1, -, k3, k4, -⟩ := R2_fm r
          have kp := mt_p k k1
          rw [← k3, ← k4] at kp
          by_cases qa : a < 1152
          · have := hu a s l1 qa
            by_cases qd : d < 1152
            · have := hu d t l2 qd
              exact Or.inl (by omega)
            · exact Or.inr ⟨d, t, by omega, by omega, l2, by omega, by omega⟩
          · have qd : d < 1152 := by unfold fm at kp; omega
            have := hu d t l2 qd
            exact Or.inr ⟨a, s, by omega, by omega, l1, by omega, by omega⟩) c m (by omega) (by omega) g
    omega
theorem walkA {al lv : Int32} {T : Nat → Prop} (h0 : hb al 0 = true) : ∀ (w : List Bool) (a b : Nat), a < 24 → b < 24 → (∀ x ∈ w, x = true) → w ≠ [] → Wlk (fun a b => T (24 * a + b)) w a b → Cost al lv T (24 * a + b) (w.length - 1) := by
  intro w
  induction w with
  | nil => exact fun _ _ _ _ _ g _ => absurd rfl g
  | cons x w ih =>
    rintro a b ha hb' g _ ⟨m, m1, m2, m3⟩
    rw [g x (by simp), if_pos rfl] at m2
    by_cases e : w = []
    · rw [e] at m3 ⊢
      rw [← show m = b from m3]
      exact Cost_t m2
    · have c2 := ih m b m1 hb' (fun x hx => g x (by simp [hx])) e m3
      have r := r2_of (lv := lv) h0 (by decide) ha hb' m1
      rw [show pA 0 b m = 576 * 0 + 24 * m + b from rfl, show pB 0 a m = 576 * 0 + 24 * a + m from rfl, show 576 * gC 0 + 24 * a + b = 576 * 0 + 24 * a + b from rfl, show 576 * 0 + 24 * m + b = 24 * m + b by omega, show 576 * 0 + 24 * a + m = 24 * a + m by omega, show 576 * 0 + 24 * a + b = 24 * a + b by omega] at r
      have l := ln1 e
      have := Cost_2 r c2 (Cost_t m2)
      rw [show w.length - 1 + 0 + 1 = (x :: w).length - 1 by rw [List.length_cons]; omega] at this
      exact this
/-- all A are cheap, if mood 20 is not allowed -/
theorem bndA {al lv : Int32} {T : Nat → Prop} (h : ¬ hb al 20 = true) : ∀ c m, Ls al lv T c m → c < 576 → m ≤ 71 := by
  have key : ∀ c n, Cost al lv T c n → c < 576 → ∃ w, (w = [true] ∨ (hb al 0 = true ∧ w ≠ [] ∧ w.all (fun x => x) = true)) ∧ Wlk (fun a b => T (24 * a + b)) w (sj c) (pd c) := by
    intro c n g
    refine g (fun c _ => c < 576 → ∃ w, (w = [true] ∨ (hb al 0 = true ∧ w ≠ [] ∧ w.all (fun x => x) = true)) ∧ Wlk (fun a b => T (24 * a + b)) w (sj c) (pd c)) (fun c q hc' => ?_) (fun a c n r ih hc' => ?_) (fun a d c s t r ih ih2 hc' => ?_)
    · refine ⟨[true], Or.inl rfl, pd c, pd_lt c, ?_, rfl⟩
      rw [if_pos rfl]
      show T (24 * sj c + pd c)
      rw [show 24 * sj c + pd c = c by have e := parts c; rw [show fm c = 0 by unfold fm; omega] at e; omega]
      exact q
    · exfalso
      have f0 : fm c = 0 := by unfold fm; omega
      rcases (R1_fm r).2.2 with ⟨-, -, q⟩ | ⟨q, -⟩ | ⟨q, -⟩
      · omega
      · exact h q
      · omega
    · obtain ⟨ha, hd, k, r1, r2, r3, r4⟩ := r
      have z1 := sj_lt c
      have z2 := pd_lt c
      obtain ⟨q1, m, q2, q3, q4⟩ := (cn_pair r3 (by omega)).mp r4
      have k0 := mt_0 k r3 (by rw [← q1]; unfold fm; omega)
      rw [k0] at r1 q3 q4
      rw [show pA 0 (pd c) m = 576 * 0 + 24 * m + pd c from rfl] at q3
      rw [show pB 0 (sj c) m = 576 * 0 + 24 * sj c + m from rfl] at q4
      obtain ⟨u, u1, u2⟩ := ih (by omega)
      obtain ⟨v, v1, v2⟩ := ih2 (by omega)
      rw [q3, (cdP q2 z2).2.1, (cdP q2 z2).2.2] at u2
      rw [q4, (cdP z1 q2).2.1, (cdP z1 q2).2.2] at v2
      have u3 : u ≠ [] ∧ u.all (fun x => x) = true := by
        rcases u1 with u1 | u1
        · rw [u1]; exact ⟨by simp, rfl⟩
        · exact u1.2
      have v3 : v ≠ [] ∧ v.all (fun x => x) = true := by
        rcases v1 with v1 | v1
        · rw [v1]; exact ⟨by simp, rfl⟩
        · exact v1.2
      exact ⟨v ++ u, Or.inr ⟨r1, fun e => v3.1 (List.append_eq_nil_iff.mp e).1, by rw [List.all_append, u3.2, v3.2]; rfl⟩, (Wlk_app v u _ _ z1).mpr ⟨m, q2, v2, u2⟩⟩
  intro c m g hc
  obtain ⟨w, w1, w2⟩ := key c m g.1 hc
  have z1 := sj_lt c
  have z2 := pd_lt c
  have ec : 24 * sj c + pd c = c := by have e := parts c; rw [show fm c = 0 by unfold fm; omega] at e; omega
  rcases w1 with w1 | ⟨w0, w3, w1⟩
  · rw [w1] at w2
    obtain ⟨i, i1, i2, i3⟩ := w2
    rw [if_pos rfl] at i2
    have i2 : T (24 * sj c + i) := i2
    rw [show i = pd c from i3, ec] at i2
    have := Ls_le g (Cost_t i2)
    omega
  · obtain ⟨x, x1, x2, x3⟩ := shr z1 colA_b colA_c w2
    have l0 := ln1 w3
    have y : x.all (fun x => x) = true := by
      refine Classical.byContradiction fun z => ?_
      unfold colA at x2
      rw [if_neg z, if_pos w1] at x2
      omega
    have yn : x ≠ [] := fun e => by
      unfold colA at x2
      rw [if_pos y, if_pos w1, e, List.length_nil] at x2
      omega
    have := walkA (lv := lv) w0 x _ _ z1 z2 (fun z hz => List.all_eq_true.mp y z hz) yn x1
    rw [ec] at this
    have := Ls_le g this
    omega
theorem bndE {al lv : Int32} {T : Nat → Prop} (h : ¬ hb al 20 = true) : ∀ c m, Ls al lv T c m → fm c = 1 → m ≤ 41472 := by
  intro c m g hc
  rw [fm_r] at hc
  have := chain_le (al := al) (lv := lv) (T := T) (lo := 576) (N := 576) (i := 0) (w := 71) (fun c m h1 h2 g => by
    have fc : fm c = 1 := by unfold fm; omega
    cases m with
    | zero => exact Or.inl (by omega)
    | succ n =>
      rcases Ls_inv g with ⟨a, r, l1⟩ | ⟨a, d, s, t, r, l1, l2, e⟩
      · have q := (R1_fm r).2.2
        have q : fm a = 1 := by
          rcases q with ⟨-, q, -⟩ | ⟨q, -⟩ | ⟨q, -⟩
          · omega
          · exact absurd q h
          · omega
        rw [fm_r] at q
        exact Or.inr ⟨a, n, by omega, by omega, l1, by omega, by omega⟩
      · obtain ⟨-, ha, hd, k, k1, -, k3, k4, k5⟩ := R2_fm r
        rcases mt_1 k k1 (by omega) with ⟨q1, q2⟩ | ⟨q1, q2⟩
        · rw [← k3, fm_r] at q1
          rw [← k4, fm_r] at q2
          have := bndA h d t l2 (by omega)
          exact Or.inr ⟨a, s, by omega, by omega, l1, by omega, by omega⟩
        · rw [← k3, fm_r] at q1
          rw [← k4, fm_r] at q2
          have := bndA h a s l1 (by omega)
          exact Or.inr ⟨d, t, by omega, by omega, l2, by omega, by omega⟩) c m (by omega) (by omega) g
  omega
theorem bndI {al lv : Int32} {T : Nat → Prop} (h : ¬ hb al 20 = true) : ∀ c m, Ls al lv T c m → fm c = 2 → m ≤ 41615 := by
  intro c m g hc
  rw [fm_r] at hc
  have := chain_le (al := al) (lv := lv) (T := T) (lo := 1152) (N := 576) (i := 143) (w := 71) (fun c m h1 h2 g => by
    have fc : fm c = 2 := by unfold fm; omega
    cases m with
    | zero => exact Or.inl (by omega)
    | succ n =>
      rcases Ls_inv g with ⟨a, r, l1⟩ | ⟨a, d, s, t, r, l1, l2, e⟩
      · rcases (R1_fm r).2.2 with ⟨-, q, -⟩ | ⟨q, -⟩ | ⟨q, -⟩
        · have q : fm a = 2 := by omega
          rw [fm_r] at q
          exact Or.inr ⟨a, n, by omega, by omega, l1, by omega, by omega⟩
        · exact absurd q h
        · have q : fm a = 0 := by omega
          rw [fm_r] at q
          have := bndA h a n l1 (by omega)
          exact Or.inl (by omega)
      · obtain ⟨-, ha, hd, k, k1, -, k3, k4, k5⟩ := R2_fm r
        rcases mt_2 k k1 (by omega) with ⟨q1, q2⟩ | ⟨q1, q2⟩ | ⟨q1, q2⟩
        · rw [← k3, fm_r] at q1
          rw [← k4, fm_r] at q2
          have := bndA h a s l1 (by omega)
          exact Or.inr ⟨d, t, by omega, by omega, l2, by omega, by omega⟩
        · rw [← k3, fm_r] at q1
          rw [← k4, fm_r] at q2
          have := bndA h d t l2 (by omega)
          exact Or.inr ⟨a, s, by omega, by omega, l1, by omega, by omega⟩
        · rw [← k3, fm_r] at q1
          rw [← k4, fm_r] at q2
          have := bndA h d t l2 (by omega)
          have := bndA h a s l1 (by omega)
          exact Or.inl (by omega)) c m (by omega) (by omega) g
  omega
theorem bndO {al lv : Int32} {T : Nat → Prop} (h : ¬ hb al 20 = true) : ∀ c m, Ls al lv T c m → fm c = 3 → m ≤ 124560 := by
  intro c m g hc
  rw [fm_r] at hc
  have := chain_le (al := al) (lv := lv) (T := T) (lo := 1728) (N := 576) (i := 83088) (w := 71) (fun c m h1 h2 g => by
    have fc : fm c = 3 := by unfold fm; omega
    cases m with
    | zero => exact Or.inl (by omega)
    | succ n =>
      rcases Ls_inv g with ⟨a, r, l1⟩ | ⟨a, d, s, t, r, l1, l2, e⟩
      · rcases (R1_fm r).2.2 with ⟨-, -, q⟩ | ⟨q, -⟩ | ⟨q, -⟩
        · omega
        · exact absurd q h
        · have := bndE h a n l1 (by omega)
          exact Or.inl (by omega)
      · obtain ⟨-, ha, hd, k, k1, -, k3, k4, k5⟩ := R2_fm r
        rcases mt_3 k k1 (by omega) with ⟨q1, q2⟩ | ⟨q1, q2⟩ | ⟨q1, q2⟩ | ⟨q1, q2⟩
        · have := bndE h a s l1 (by omega)
          have := bndI h d t l2 (by omega)
          exact Or.inl (by omega)
        · rw [← k3, fm_r] at q1
          rw [← k4, fm_r] at q2
          have := bndA h a s l1 (by omega)
          exact Or.inr ⟨d, t, by omega, by omega, l2, by omega, by omega⟩
        · rw [← k3, fm_r] at q1
          rw [← k4, fm_r] at q2
          have := bndA h d t l2 (by omega)
          exact Or.inr ⟨a, s, by omega, by omega, l1, by omega, by omega⟩
        · have := bndE h a s l1 (by omega)
          rw [← k4, fm_r] at q2
          have := bndA h d t l2 (by omega)
          exact Or.inl (by omega)) c m (by omega) (by omega) g
  omega
/-- no shortest proof takes a million steps -/
theorem Ls_bnd {al lv : Int32} {T : Nat → Prop} (hT : ∀ c, T c → c < 2304) {c m : Nat} (g : Ls al lv T c m) : m < 1000000 := by
  by_cases h : hb al 20 = true
  · exact (bnd20 hT h c m g).2
  · have hc := fm_lt (Cost_lt hT g.1)
    rcases (show fm c = 0 ∨ fm c = 1 ∨ fm c = 2 ∨ fm c = 3 by omega) with q | q | q | q
    · rw [fm_r] at q
      have := bndA h c m g (by omega)
      omega
    · have := bndE h c m g q; omega
    · have := bndI h c m g q; omega
    · have := bndO h c m g q; omega
theorem Cost_bnd {al lv : Int32} {T : Nat → Prop} (hT : ∀ c, T c → c < 2304) {c n : Nat} (g : Cost al lv T c n) : ∃ m, m < 1000000 ∧ m ≤ n ∧ Ls al lv T c m := by
  obtain ⟨m, m1, m2⟩ := Ls_ex n g
  exact ⟨m, Ls_bnd hT m2, m1, m2⟩
-- depth
def ctd (st : Nat → Nat) (lo v : Nat) : Nat → Nat
  | 0 => 0
  | n + 1 => ctd st lo v n + if st (lo + n) ≤ v then 1 else 0
theorem ctd_le (st : Nat → Nat) (lo v : Nat) : ∀ n, ctd st lo v n ≤ n := by
  intro n
  induction n with
  | zero => exact Nat.le_refl _
  | succ n ih => show ctd st lo v n + (if st (lo + n) ≤ v then 1 else 0) ≤ n + 1; split <;> omega
theorem ctd_m {st : Nat → Nat} {lo v v2 : Nat} (h : v ≤ v2) : ∀ n, ctd st lo v n ≤ ctd st lo v2 n := by
  intro n
  induction n with
  | zero => exact Nat.le_refl _
  | succ n ih =>
    show ctd st lo v n + (if st (lo + n) ≤ v then 1 else 0) ≤ ctd st lo v2 n + (if st (lo + n) ≤ v2 then 1 else 0)
    by_cases g : st (lo + n) ≤ v
    · rw [if_pos g, if_pos (by omega)]; omega
    · rw [if_neg g]; split <;> omega
theorem ctd_s {st : Nat → Nat} {lo v v2 x : Nat} (h : v < v2) (h1 : v < st (lo + x)) (h2 : st (lo + x) ≤ v2) : ∀ n, x < n → ctd st lo v n < ctd st lo v2 n := by
  intro n
  induction n with
  | zero => intro q; omega
  | succ n ih =>
    intro q
    show ctd st lo v n + (if st (lo + n) ≤ v then 1 else 0) < ctd st lo v2 n + (if st (lo + n) ≤ v2 then 1 else 0)
    have m := ctd_m (st := st) (lo := lo) (Nat.le_of_lt h) n
    by_cases e : x = n
    · rw [← e, if_neg (by omega), if_pos h2]
      rw [e]
      omega
    · have := ih (by omega)
      by_cases g : st (lo + n) ≤ v
      · rw [if_pos g, if_pos (by omega)]; omega
      · rw [if_neg g]; split <;> omega
theorem ctd_1 {st : Nat → Nat} {lo v x : Nat} (h2 : st (lo + x) ≤ v) : ∀ n, x < n → 1 ≤ ctd st lo v n := by
  intro n
  induction n with
  | zero => intro q; omega
  | succ n ih =>
    intro q
    show 1 ≤ ctd st lo v n + (if st (lo + n) ≤ v then 1 else 0)
    by_cases e : x = n
    · rw [← e, if_pos h2]; omega
    · have := ih (by omega); omega
/-- how deep a shortest proof can be -/
theorem dep_ex {al lv : Int32} {T : Nat → Prop} (hT : ∀ c, T c → c < 2304) {st : Nat → Nat} (hs : ∀ c, c < 2304 → st c < 1000000 → Ls al lv T c (st c)) : ∃ mu : Nat → Nat, (∀ c, c < 2304 → st c < 1000000 → mu c < 1996) ∧ ∀ c a, c < 2304 → st c < 1000000 → st a < st c → (R1 al lv a c ∨ ∃ d, R2 al lv a d c ∨ R2 al lv d a c) → mu a < mu c := by
  by_cases h : hb al 20 = true
  · have hu : ∀ c, c < 1152 → st c < 1000000 → st c ≤ 840 := fun c hc g => (bnd20 hT h c _ (hs c (by omega) g)).1 hc
    refine ⟨fun c => if c < 1152 then st c + 1 else 841 + ctd st 1152 (st c) 1152, fun c hc g => ?_, fun c a hc g ga r => ?_⟩
    · show (if c < 1152 then st c + 1 else 841 + ctd st 1152 (st c) 1152) < 1996
      have := ctd_le st 1152 (st c) 1152
      split
      · have := hu c (by omega) g; omega
      · omega
    · show (if a < 1152 then st a + 1 else 841 + ctd st 1152 (st a) 1152) < (if c < 1152 then st c + 1 else 841 + ctd st 1152 (st c) 1152)
      have au : c < 1152 → a < 1152 := fun q => by
        rcases r with r | ⟨d, r | r⟩
        · have fl := fm_lt hc
          rcases (R1_fm r).2.2 with ⟨-, z, -⟩ | ⟨-, z⟩ | ⟨z, -⟩
          · unfold fm at z; omega
          · have := (x1p fl).mpr (by unfold fm; omega)
            rw [← z] at this
            unfold fm at this; omega
          · unfold fm at z; omega
        · obtain ⟨-, -, -, k, k1, -, k3, k4, k5⟩ := R2_fm r
          have := mt_u k k1 (by rw [← k5]; unfold fm; omega)
          rw [← k3] at this
          unfold fm at this; omega
        · obtain ⟨-, -, -, k, k1, -, k3, k4, k5⟩ := R2_fm r
          have := mt_u k k1 (by rw [← k5]; unfold fm; omega)
          rw [← k4] at this
          unfold fm at this; omega
      by_cases q : c < 1152
      · rw [if_pos q, if_pos (au q)]; omega
      · rw [if_neg q]
        have ex : 1152 + (c - 1152) = c := by omega
        by_cases q2 : a < 1152
        · rw [if_pos q2]
          have := hu a q2 (by omega)
          have := ctd_1 (st := st) (lo := 1152) (v := st c) (x := c - 1152) (by rw [ex]; exact Nat.le_refl _) 1152 (by omega)
          omega
        · rw [if_neg q2]
          have := ctd_s (st := st) (lo := 1152) (x := c - 1152) ga (by rw [ex]; exact ga) (by rw [ex]; exact Nat.le_refl _) 1152 (by omega)
          omega
  · have hA : ∀ c, c < 576 → st c < 1000000 → st c ≤ 71 := fun c hc g => bndA h c _ (hs c (by omega) g) hc
    refine ⟨fun c => if c < 576 then st c + 1 else if c < 1152 then 72 + ctd st 576 (st c) 576 else 841 + ctd st 1152 (st c) 1152, fun c hc g => ?_, fun c a hc g ga r => ?_⟩
    · show (if c < 576 then st c + 1 else if c < 1152 then 72 + ctd st 576 (st c) 576 else 841 + ctd st 1152 (st c) 1152) < 1996
      have := ctd_le st 1152 (st c) 1152
      have := ctd_le st 576 (st c) 576
      split
      · have := hA c (by omega) g; omega
      · split <;> omega
    · show (if a < 576 then st a + 1 else if a < 1152 then 72 + ctd st 576 (st a) 576 else 841 + ctd st 1152 (st a) 1152) < (if c < 576 then st c + 1 else if c < 1152 then 72 + ctd st 576 (st c) 576 else 841 + ctd st 1152 (st c) 1152)
      have au : (c < 1152 → a < 1152) ∧ (c < 576 → a < 576) := by
        rcases r with r | ⟨d, r | r⟩
        · rcases (R1_fm r).2.2 with ⟨-, z, -⟩ | ⟨z, -⟩ | ⟨z, -⟩
          · unfold fm at z; omega
          · exact absurd z h
          · unfold fm at z; omega
        · obtain ⟨-, -, -, k, k1, -, k3, k4, k5⟩ := R2_fm r
          refine ⟨fun q => ?_, fun q => ?_⟩
          · have := mt_u k k1 (by rw [← k5]; unfold fm; omega)
            rw [← k3] at this
            unfold fm at this; omega
          · have := mt_0 k k1 (by rw [← k5]; unfold fm; omega)
            rw [this, show gA 0 = 0 from rfl] at k3
            unfold fm at k3; omega
        · obtain ⟨-, -, -, k, k1, -, k3, k4, k5⟩ := R2_fm r
          refine ⟨fun q => ?_, fun q => ?_⟩
          · have := mt_u k k1 (by rw [← k5]; unfold fm; omega)
            rw [← k4] at this
            unfold fm at this; omega
          · have := mt_0 k k1 (by rw [← k5]; unfold fm; omega)
            rw [this, show gB 0 = 0 from rfl] at k4
            unfold fm at k4; omega
      by_cases q0 : c < 576
      · rw [if_pos q0, if_pos (au.2 q0)]; omega
      · rw [if_neg q0]
        by_cases q : c < 1152
        · rw [if_pos q]
          have ex : 576 + (c - 576) = c := by omega
          by_cases q2 : a < 576
          · rw [if_pos q2]
            have := hA a q2 (by omega)
            have := ctd_1 (st := st) (lo := 576) (v := st c) (x := c - 576) (by rw [ex]; exact Nat.le_refl _) 576 (by omega)
            omega
          · rw [if_neg q2, if_pos (au.1 q)]
            have := ctd_s (st := st) (lo := 576) (x := c - 576) ga (by rw [ex]; exact ga) (by rw [ex]; exact Nat.le_refl _) 576 (by omega)
            omega
        · rw [if_neg q]
          have ex : 1152 + (c - 1152) = c := by omega
          have c1 := ctd_1 (st := st) (lo := 1152) (v := st c) (x := c - 1152) (by rw [ex]; exact Nat.le_refl _) 1152 (by omega)
          by_cases q2 : a < 1152
          · have := ctd_le st 576 (st a) 576
            by_cases q3 : a < 576
            · rw [if_pos q3]
              have := hA a q3 (by omega); omega
            · rw [if_neg q3, if_pos q2]; omega
          · rw [if_neg (by omega), if_neg q2]
            have := ctd_s (st := st) (lo := 1152) (x := c - 1152) ga (by rw [ex]; exact ga) (by rw [ex]; exact Nat.le_refl _) 1152 (by omega)
            omega
