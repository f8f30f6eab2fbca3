/-! proofs: universals cost little, if mood 20 is allowed -/
def Etd (T : Nat → Prop) (a b : Nat) : Prop := T (24 * a + b) ∨ T (576 + 24 * a + (b ^^^ 1))
/-- both codes of an edge -/
def De (al lv : Int32) (T : Nat → Prop) (a b n : Nat) : Prop := (∃ m, m ≤ n ∧ Cost al lv T (24 * a + b) m) ∧ ∃ m, m ≤ n ∧ Cost al lv T (576 + 24 * a + (b ^^^ 1)) m
theorem cdP {f a b : Nat} (ha : a < 24) (hb' : b < 24) : fm (576 * f + 24 * a + b) = f ∧ sj (576 * f + 24 * a + b) = a ∧ pd (576 * f + 24 * a + b) = b := by unfold fm sj pd; omega
theorem r1_ob {al lv : Int32} (h : hb al 20 = true) {f a b : Nat} (hf : f < 4) (ha : a < 24) (hb' : b < 24) : R1 al lv (576 * f + 24 * a + b) (576 * (f ^^^ 1) + 24 * a + (b ^^^ 1)) := by
  obtain ⟨c1, c2, c3⟩ := cdP (f := f) ha hb'
  refine ⟨by omega, 20, h, rfl, by decide, by decide, ?_⟩
  show some (576 * (fm _ ^^^ 1) + 24 * sj _ + (pd _ ^^^ 1)) = _
  rw [c1, c2, c3]
theorem al_15 {k : Nat} (hk : k < 15) (a : Nat) (lv : Int32) : alB k a lv = true := by
  unfold alB; rw [if_neg (by omega), if_neg (by omega)]
theorem r2_of {al lv : Int32} {k s p m : Nat} (h : hb al k = true) (hk : k < 15) (hs : s < 24) (hp : p < 24) (hm : m < 24) : R2 al lv (pA k p m) (pB k s m) (576 * gC k + 24 * s + p) := by
  obtain ⟨c1, c2, c3⟩ := cdP (f := gC k) hs hp
  have hc := gC_b k (by omega)
  exact ⟨pA_lt (by omega) hp hm, pB_lt (by omega) hs hm, k, h, al_15 hk _ _, by omega, (cn_pair (by omega) (by omega)).mpr ⟨c1, m, hm, by rw [c3], by rw [c2]⟩⟩
theorem De_of {al lv : Int32} {T : Nat → Prop} (h : hb al 20 = true) {a b m n : Nat} (ha : a < 24) (hb' : b < 24) (hn : m + 1 ≤ n) (g : Cost al lv T (24 * a + b) m ∨ Cost al lv T (576 + 24 * a + (b ^^^ 1)) m) : De al lv T a b n := by
  rcases g with g | g
  · have r := r1_ob (lv := lv) h (f := 0) (by omega) ha hb'
    rw [show 576 * 0 + 24 * a + b = 24 * a + b by omega, show 576 * (0 ^^^ 1) + 24 * a + (b ^^^ 1) = 576 + 24 * a + (b ^^^ 1) from rfl] at r
    exact ⟨⟨m, by omega, g⟩, m + 1, hn, Cost_1 r g⟩
  · have r := r1_ob (lv := lv) h (f := 1) (by omega) ha (x11 b hb').1
    rw [show 576 * 1 + 24 * a + (b ^^^ 1) = 576 + 24 * a + (b ^^^ 1) by omega, show 576 * (1 ^^^ 1) + 24 * a + (b ^^^ 1 ^^^ 1) = 576 * 0 + 24 * a + (b ^^^ 1 ^^^ 1) from rfl, (x11 b hb').2, show 576 * 0 + 24 * a + b = 24 * a + b by omega] at r
    exact ⟨⟨m + 1, hn, Cost_1 r g⟩, m, by omega, g⟩
theorem De_m {al lv : Int32} {T : Nat → Prop} {a b m n : Nat} (h : De al lv T a b m) (hn : m ≤ n) : De al lv T a b n := by
  obtain ⟨⟨i, i1, i2⟩, j, j1, j2⟩ := h
  exact ⟨⟨i, by omega, i2⟩, j, by omega, j2⟩
theorem De_e {al lv : Int32} {T : Nat → Prop} (h : hb al 20 = true) {a b : Nat} (ha : a < 24) (hb' : b < 24) (g : Etd T a b) : De al lv T a b 1 := De_of h ha hb' (Nat.le_refl _) (g.imp Cost_t Cost_t)
theorem De_c {al lv : Int32} {T : Nat → Prop} (h : hb al 20 = true) (hc : hb al 0 = true ∨ hb al 1 = true) {a m b n n2 : Nat} (ha : a < 24) (hm : m < 24) (hb' : b < 24) (g : De al lv T a m n) (g2 : De al lv T m b n2) : De al lv T a b (n + n2 + 2) := by
  obtain ⟨⟨i, i1, i2⟩, -⟩ := g
  obtain ⟨⟨j, j1, j2⟩, k, k1, k2⟩ := g2
  rcases hc with hc | hc
  · have r := r2_of (lv := lv) hc (by decide) ha hb' hm
    rw [show pA 0 b m = 576 * 0 + 24 * m + b from rfl, show pB 0 a m = 576 * 0 + 24 * a + m from rfl, show 576 * gC 0 + 24 * a + b = 576 * 0 + 24 * a + b from rfl, show 576 * 0 + 24 * m + b = 24 * m + b by omega, show 576 * 0 + 24 * a + m = 24 * a + m by omega, show 576 * 0 + 24 * a + b = 24 * a + b by omega] at r
    exact De_of h ha hb' (by omega) (Or.inl (Cost_2 r j2 i2))
  · have r := r2_of (lv := lv) hc (by decide) ha (x11 b hb').1 hm
    rw [show pA 1 (b ^^^ 1) m = 576 * 1 + 24 * m + (b ^^^ 1) from rfl, show pB 1 a m = 576 * 0 + 24 * a + m from rfl, show 576 * gC 1 + 24 * a + (b ^^^ 1) = 576 * 1 + 24 * a + (b ^^^ 1) from rfl, Nat.mul_one, show 576 * 0 + 24 * a + m = 24 * a + m by omega] at r
    exact De_of h ha hb' (by omega) (Or.inr (Cost_2 r k2 i2))
theorem De_2 {al lv : Int32} {T : Nat → Prop} (h : hb al 20 = true) (hc : hb al 4 = true ∨ hb al 5 = true) {a m p n n2 : Nat} (ha : a < 24) (hm : m < 24) (hp : p < 24) (g : De al lv T a m n) (g2 : De al lv T p (m ^^^ 1) n2) : De al lv T a (p ^^^ 1) (n + n2 + 2) := by
  obtain ⟨⟨i, i1, i2⟩, i', i3, i4⟩ := g
  obtain ⟨⟨j, j1, j2⟩, k, k1, k2⟩ := g2
  have hp1 := x11 p hp
  rw [(x11 m hm).2] at k2
  have fin : ∀ v, v ≤ n + n2 + 1 → Cost al lv T (576 + 24 * a + p) v → De al lv T a (p ^^^ 1) (n + n2 + 2) := fun v hv g => De_of h ha hp1.1 (show v + 1 ≤ _ by omega) (Or.inr (by rw [hp1.2]; exact g))
  rcases hc with hc | hc
  · have r := r2_of (lv := lv) hc (by decide) ha hp hm
    rw [show pA 4 p m = 576 * 1 + 24 * p + m from rfl, show pB 4 a m = 576 * 0 + 24 * a + m from rfl, show 576 * gC 4 + 24 * a + p = 576 * 1 + 24 * a + p from rfl, Nat.mul_one, show 576 * 0 + 24 * a + m = 24 * a + m by omega] at r
    exact fin _ (by omega) (Cost_2 r k2 i2)
  · have r := r2_of (lv := lv) hc (by decide) ha hp (x11 m hm).1
    rw [show pA 5 p (m ^^^ 1) = 576 * 0 + 24 * p + (m ^^^ 1) from rfl, show pB 5 a (m ^^^ 1) = 576 * 1 + 24 * a + (m ^^^ 1) from rfl, show 576 * gC 5 + 24 * a + p = 576 * 1 + 24 * a + p from rfl, Nat.mul_one, show 576 * 0 + 24 * p + (m ^^^ 1) = 24 * p + (m ^^^ 1) by omega] at r
    exact fin _ (by omega) (Cost_2 r j2 i4)
theorem De_3 {al lv : Int32} {T : Nat → Prop} (h : hb al 20 = true) (hc : hb al 12 = true) {p m s n n2 : Nat} (hp : p < 24) (hm : m < 24) (hs : s < 24) (g : De al lv T p m n) (g2 : De al lv T m (s ^^^ 1) n2) : De al lv T s (p ^^^ 1) (n + n2 + 2) := by
  obtain ⟨⟨i, i1, i2⟩, -⟩ := g
  obtain ⟨-, k, k1, k2⟩ := g2
  have hp1 := x11 p hp
  rw [(x11 s hs).2] at k2
  have r := r2_of (lv := lv) hc (by decide) hs hp hm
  rw [show pA 12 p m = 576 * 0 + 24 * p + m from rfl, show pB 12 s m = 576 * 1 + 24 * m + s from rfl, show 576 * gC 12 + 24 * s + p = 576 * 1 + 24 * s + p from rfl, Nat.mul_one, show 576 * 0 + 24 * p + m = 24 * p + m by omega] at r
  exact De_of h hs hp1.1 (show i + k + 1 + 1 ≤ _ by omega) (Or.inr (by rw [hp1.2]; exact Cost_2 r i2 k2))
theorem De_t {al lv : Int32} {T : Nat → Prop} (h : hb al 20 = true) (hc : hb al 19 = true) {p s n : Nat} (hp : p < 24) (hs : s < 24) (g : De al lv T p (s ^^^ 1) n) : De al lv T s (p ^^^ 1) (n + 2) := by
  obtain ⟨-, k, k1, k2⟩ := g
  have hp1 := x11 p hp
  rw [(x11 s hs).2] at k2
  obtain ⟨c1, c2, c3⟩ := cdP (f := 1) hp hs
  have r : R1 al lv (576 * 1 + 24 * p + s) (576 * 1 + 24 * s + p) := by
    refine ⟨by omega, 19, hc, rfl, by decide, by decide, ?_⟩
    show (if fm _ = 1 ∨ fm _ = 2 then some (576 * fm _ + 24 * pd _ + sj _) else none) = _
    rw [c1, c2, c3, if_pos (Or.inl rfl)]
  rw [Nat.mul_one] at r
  exact De_of h hs hp1.1 (show k + 1 + 1 ≤ _ by omega) (Or.inr (by rw [hp1.2]; exact Cost_1 r k2))
def eb (c : Nat) : Nat := if fm c = 0 then pd c else pd c ^^^ 1
theorem gC_u : ∀ k, k < 19 → gC k < 2 → k = 0 ∨ k = 1 ∨ k = 4 ∨ k = 5 ∨ k = 12 := by decide
theorem eb_A {a b : Nat} (ha : a < 24) (hb' : b < 24) : sj (576 * 0 + 24 * a + b) = a ∧ eb (576 * 0 + 24 * a + b) = b := by
  obtain ⟨c1, c2, c3⟩ := cdP (f := 0) ha hb'
  refine ⟨c2, ?_⟩
  unfold eb; rw [if_pos c1, c3]
theorem eb_E {a b : Nat} (ha : a < 24) (hb' : b < 24) : sj (576 * 1 + 24 * a + b) = a ∧ eb (576 * 1 + 24 * a + b) = b ^^^ 1 := by
  obtain ⟨c1, c2, c3⟩ := cdP (f := 1) ha hb'
  refine ⟨c2, ?_⟩
  unfold eb; rw [if_neg (by rw [c1]; decide), c3]
/-- what holds of told edges and stays so holds of all that is proved -/
theorem uv_ind {al lv : Int32} {T : Nat → Prop} (hT : ∀ c, T c → c < 2304) {V : Nat → Nat → Prop} (he : ∀ a b, a < 24 → b < 24 → Etd T a b → V a b) (hc : (hb al 0 = true ∨ hb al 1 = true) → ∀ a m b, a < 24 → m < 24 → b < 24 → V a m → V m b → V a b) (h2 : (hb al 4 = true ∨ hb al 5 = true) → ∀ a m p, a < 24 → m < 24 → p < 24 → V a m → V p (m ^^^ 1) → V a (p ^^^ 1)) (h3 : hb al 12 = true → ∀ p m s, p < 24 → m < 24 → s < 24 → V p m → V m (s ^^^ 1) → V s (p ^^^ 1)) (ht : hb al 19 = true → ∀ p s, p < 24 → s < 24 → V p (s ^^^ 1) → V s (p ^^^ 1)) : ∀ c n, Cost al lv T c n → c < 1152 → V (sj c) (eb c) := by
  intro c n h
  refine h (fun c _ => c < 1152 → V (sj c) (eb c)) (fun c g hc' => ?_) (fun a c n r ih hc' => ?_) (fun a d c s t r ih ih2 hc' => ?_)
  · have e := parts c
    have z1 := sj_lt c
    have z2 := pd_lt c
    have hf : fm c = 0 ∨ fm c = 1 := by unfold fm; omega
    unfold eb
    rcases hf with hf | hf
    · rw [if_pos hf]
      exact he _ _ z1 z2 (Or.inl (by rw [hf] at e; rw [show 24 * sj c + pd c = c by omega]; exact g))
    · rw [if_neg (by omega)]
      exact he _ _ z1 (x11 _ z2).1 (Or.inr (by rw [(x11 _ z2).2]; rw [hf] at e; rw [show 576 + 24 * sj c + pd c = c by omega]; exact g))
  · obtain ⟨ha, k, r1, r2, r3, r4, r5⟩ := r
    have z1 := sj_lt c
    have z2 := pd_lt c
    have hf : fm c = 0 ∨ fm c = 1 := by unfold fm; omega
    rw [cn_single r3 r4 ha (by omega)] at r5
    unfold sP at r5
    by_cases k19 : k = 19
    · rw [if_pos k19] at r5
      rw [k19] at r1
      split at r5
      · rename_i q
        have q1 : fm c = 1 := by omega
        have r5 := Option.some.inj r5
        rw [q1] at r5
        obtain ⟨e1, e2⟩ := eb_E z2 z1
        rw [r5] at e1 e2
        have := ih (by omega)
        rw [e1, e2] at this
        have key := ht r1 _ _ z2 z1 this
        unfold eb
        rw [if_neg (by omega)]
        exact key
      · exact absurd r5 (by simp)
    · rw [if_neg k19] at r5
      by_cases k20 : k = 20
      · rw [if_pos k20] at r5
        have r5 := Option.some.inj r5
        have y := x11 _ z2
        rcases hf with hf | hf
        · rw [hf, show (0 : Nat) ^^^ 1 = 1 from rfl] at r5
          obtain ⟨e1, e2⟩ := eb_E z1 y.1
          rw [r5] at e1 e2
          have := ih (by omega)
          rw [e1, e2, y.2] at this
          unfold eb
          rw [if_pos hf]
          exact this
        · rw [hf, show (1 : Nat) ^^^ 1 = 0 from rfl] at r5
          obtain ⟨e1, e2⟩ := eb_A z1 y.1
          rw [r5] at e1 e2
          have := ih (by omega)
          rw [e1, e2] at this
          unfold eb
          rw [if_neg (by omega)]
          exact this
      · rw [if_neg k20, if_pos (by omega)] at r5
        exact absurd r5 (by simp)
  · obtain ⟨ha, hd, k, r1, r2, r3, r4⟩ := r
    have z1 := sj_lt c
    have z2 := pd_lt c
    have hf : fm c < 2 := by unfold fm; omega
    obtain ⟨q1, m, q2, q3, q4⟩ := (cn_pair r3 (by omega)).mp r4
    have y := x11 _ z2
    have ec0 : fm c = 0 → eb c = pd c := fun w => by unfold eb; rw [if_pos w]
    have ec1 : fm c = 1 → eb c = pd c ^^^ 1 := fun w => by unfold eb; rw [if_neg (by omega)]
    rcases gC_u k r3 (by omega) with rfl | rfl | rfl | rfl | rfl
    · rw [show pA 0 (pd c) m = 576 * 0 + 24 * m + pd c from rfl] at q3
      rw [show pB 0 (sj c) m = 576 * 0 + 24 * sj c + m from rfl] at q4
      have i1 := ih (by omega)
      have i2 := ih2 (by omega)
      rw [q3, (eb_A q2 z2).1, (eb_A q2 z2).2] at i1
      rw [q4, (eb_A z1 q2).1, (eb_A z1 q2).2] at i2
      rw [ec0 q1]
      exact hc (Or.inl r1) _ _ _ z1 q2 z2 i2 i1
    · rw [show pA 1 (pd c) m = 576 * 1 + 24 * m + pd c from rfl] at q3
      rw [show pB 1 (sj c) m = 576 * 0 + 24 * sj c + m from rfl] at q4
      have i1 := ih (by omega)
      have i2 := ih2 (by omega)
      rw [q3, (eb_E q2 z2).1, (eb_E q2 z2).2] at i1
      rw [q4, (eb_A z1 q2).1, (eb_A z1 q2).2] at i2
      rw [ec1 q1]
      exact hc (Or.inr r1) _ _ _ z1 q2 y.1 i2 i1
    · rw [show pA 4 (pd c) m = 576 * 1 + 24 * pd c + m from rfl] at q3
      rw [show pB 4 (sj c) m = 576 * 0 + 24 * sj c + m from rfl] at q4
      have i1 := ih (by omega)
      have i2 := ih2 (by omega)
      rw [q3, (eb_E z2 q2).1, (eb_E z2 q2).2] at i1
      rw [q4, (eb_A z1 q2).1, (eb_A z1 q2).2] at i2
      rw [ec1 q1]
      exact h2 (Or.inl r1) _ _ _ z1 q2 z2 i2 i1
    · rw [show pA 5 (pd c) m = 576 * 0 + 24 * pd c + m from rfl] at q3
      rw [show pB 5 (sj c) m = 576 * 1 + 24 * sj c + m from rfl] at q4
      have i1 := ih (by omega)
      have i2 := ih2 (by omega)
      rw [q3, (eb_A z2 q2).1, (eb_A z2 q2).2] at i1
      rw [q4, (eb_E z1 q2).1, (eb_E z1 q2).2] at i2
      rw [ec1 q1]
      exact h2 (Or.inr r1) _ _ _ z1 (x11 m q2).1 z2 i2 (by rw [(x11 m q2).2]; exact i1)
    · rw [show pA 12 (pd c) m = 576 * 0 + 24 * pd c + m from rfl] at q3
      rw [show pB 12 (sj c) m = 576 * 1 + 24 * m + sj c from rfl] at q4
      have i1 := ih (by omega)
      have i2 := ih2 (by omega)
      rw [q3, (eb_A z2 q2).1, (eb_A z2 q2).2] at i1
      rw [q4, (eb_E q2 z1).1, (eb_E q2 z1).2] at i2
      rw [ec1 q1]
      exact h3 r1 _ _ _ z2 q2 z1 i1 i2
/-- words of what is proved -/
theorem uvG {al lv : Int32} {T : Nat → Prop} (hT : ∀ c, T c → c < 2304) {G : List Bool → Prop} (g1 : G [true]) (hc : (hb al 0 = true ∨ hb al 1 = true) → ∀ u v, G u → G v → G (u ++ v)) (h2 : (hb al 4 = true ∨ hb al 5 = true) → ∀ u v, G u → G v → G (u ++ wt v)) (h3 : hb al 12 = true → ∀ u v, G u → G v → G (wt (u ++ v))) (ht : hb al 19 = true → ∀ u, G u → G (wt u)) : ∀ c n, Cost al lv T c n → c < 1152 → ∃ w, G w ∧ Wlk (Etd T) w (sj c) (eb c) := by
  refine uv_ind hT (V := fun a b => ∃ w, G w ∧ Wlk (Etd T) w a b) (fun a b ha hb' e => ⟨[true], g1, b, hb', by rw [if_pos rfl]; exact e, rfl⟩) (fun q a m b ha hm hb' ⟨u, u1, u2⟩ ⟨v, v1, v2⟩ => ⟨u ++ v, hc q u v u1 v1, (Wlk_app u v a b ha).mpr ⟨m, hm, u2, v2⟩⟩) (fun q a m p ha hm hp ⟨u, u1, u2⟩ ⟨v, v1, v2⟩ => ⟨u ++ wt v, h2 q u v u1 v1, (Wlk_app u _ a _ ha).mpr ⟨m, hm, u2, ?_⟩⟩) (fun q p m s hp hm hs ⟨u, u1, u2⟩ ⟨v, v1, v2⟩ => ⟨wt (u ++ v), h3 q u v u1 v1, ?_⟩) (fun q p s hp hs ⟨u, u1, u2⟩ => ⟨wt u, ht q u u1, ?_⟩)
  · have := Wlk_t v p _ hp v2
    rw [(x11 m hm).2] at this
    exact this
  · have := Wlk_t (u ++ v) p _ hp ((Wlk_app u v p _ hp).mpr ⟨m, hm, u2, v2⟩)
    rw [(x11 s hs).2] at this
    exact this
  · have := Wlk_t u p _ hp u2
    rw [(x11 s hs).2] at this
    exact this
def Dn (al lv : Int32) (T : Nat → Prop) (w : List Bool) : Prop := ∀ a b, a < 24 → b < 24 → Wlk (Etd T) w a b → De al lv T a b (3 * w.length - 2)
theorem Dn_s {al lv : Int32} {T : Nat → Prop} (h : hb al 20 = true) : Dn al lv T [true] := by
  rintro a b ha hb' ⟨m, h1, h2, h3⟩
  rw [if_pos rfl, show m = b from h3] at h2
  exact De_e h ha hb' h2
theorem ln1 {w : List Bool} (h : w ≠ []) : 1 ≤ w.length := by
  cases w with
  | nil => exact absurd rfl h
  | cons x w => rw [List.length_cons]; omega
theorem Dn_c {al lv : Int32} {T : Nat → Prop} (h : hb al 20 = true) (hc : hb al 0 = true ∨ hb al 1 = true) (u v : List Bool) (hu : u ≠ []) (hv : v ≠ []) (g : Dn al lv T u) (g2 : Dn al lv T v) : Dn al lv T (u ++ v) := by
  intro a b ha hb' w
  obtain ⟨m, hm, w1, w2⟩ := (Wlk_app u v a b ha).mp w
  have := ln1 hu
  have := ln1 hv
  rw [List.length_append]
  exact De_m (De_c h hc ha hm hb' (g a m ha hm w1) (g2 m b hm hb' w2)) (by omega)
theorem Dn_2 {al lv : Int32} {T : Nat → Prop} (h : hb al 20 = true) (hc : hb al 4 = true ∨ hb al 5 = true) (u v : List Bool) (hu : u ≠ []) (hv : v ≠ []) (g : Dn al lv T u) (g2 : Dn al lv T (wt v)) : Dn al lv T (u ++ v) := by
  intro a b ha hb' w
  obtain ⟨m, hm, w1, w2⟩ := (Wlk_app u v a b ha).mp w
  have := ln1 hu
  have := ln1 hv
  have d2 := g2 _ _ (x11 b hb').1 (x11 m hm).1 (Wlk_t v m b hm w2)
  have := De_2 h hc ha hm (x11 b hb').1 (g a m ha hm w1) d2
  rw [(x11 b hb').2, wt_len] at this
  rw [List.length_append]
  exact De_m this (by omega)
theorem Dn_3 {al lv : Int32} {T : Nat → Prop} (h : hb al 20 = true) (hc : hb al 12 = true) (u v : List Bool) (hu : u ≠ []) (hv : v ≠ []) (g : Dn al lv T (wt u)) (g2 : Dn al lv T (wt v)) : Dn al lv T (u ++ v) := by
  intro a b ha hb' w
  obtain ⟨m, hm, w1, w2⟩ := (Wlk_app u v a b ha).mp w
  have := ln1 hu
  have := ln1 hv
  have d1 := g _ _ (x11 m hm).1 (x11 a ha).1 (Wlk_t u a m ha w1)
  have d2 := g2 _ _ (x11 b hb').1 (x11 m hm).1 (Wlk_t v m b hm w2)
  have := De_3 h hc (x11 b hb').1 (x11 m hm).1 ha d2 d1
  rw [(x11 b hb').2, wt_len, wt_len] at this
  rw [List.length_append]
  exact De_m this (by omega)
