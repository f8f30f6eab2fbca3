/-! chain -/
theorem zlS {α β : Type} (a : α) (f : α → Option β) : zlet a f = f a := Eq.trans (b := f a) rfl rfl
theorem zgS {β : Type} (S : Zs) (k : Nat) (f : Int32 → Option β) : zgf S k f = f (S.1 0 k) := Eq.trans (b := f (S.1 0 k)) rfl rfl
theorem zpS {β : Type} (S : Zs) (k : Nat) (v : Int32) (f : Zs → Option β) : zpf S k v f = f (zp S 0 k v) := Eq.trans (b := f (zp S 0 k v)) rfl rfl
/-- where an A or E leads from a term -/
def nx (c t : Nat) : Option Nat := if c < 1152 then (if t = sj c then some (tg c) else if t = tg c ^^^ 1 then some (sj c ^^^ 1) else none) else none
theorem nx_iff {c t u : Nat} : nx c t = some u ↔ c < 1152 ∧ ((t = sj c ∧ u = tg c) ∨ (t = tg c ^^^ 1 ∧ u = sj c ^^^ 1)) := by
  unfold nx
  by_cases h : c < 1152
  · rw [if_pos h]
    by_cases h1 : t = sj c
    · rw [if_pos h1]
      constructor
      · intro g; exact ⟨h, Or.inl ⟨h1, (Option.some.inj g).symm⟩⟩
      · rintro ⟨-, ⟨-, g⟩ | ⟨g1, g2⟩⟩
        · rw [g]
        · rw [g2, ← h1, g1, x1_x1]
    · rw [if_neg h1]
      by_cases h2 : t = tg c ^^^ 1
      · rw [if_pos h2]
        constructor
        · intro g; exact ⟨h, Or.inr ⟨h2, (Option.some.inj g).symm⟩⟩
        · rintro ⟨-, ⟨g, -⟩ | ⟨g1, g2⟩⟩
          · exact absurd g h1
          · rw [g2]
      · rw [if_neg h2]
        constructor
        · intro g; exact absurd g (by simp)
        · rintro ⟨-, ⟨g, -⟩ | ⟨g1, g2⟩⟩
          · exact absurd g h1
          · exact absurd g1 h2
  · rw [if_neg h]
    constructor
    · intro g; exact absurd g (by simp)
    · rintro ⟨g, -⟩; exact absurd g h
theorem nx_lt {c t u : Nat} (h : nx c t = some u) : t < 24 ∧ u < 24 := by
  obtain ⟨-, ⟨rfl, rfl⟩ | ⟨rfl, rfl⟩⟩ := nx_iff.mp h
  · exact ⟨sj_lt c, tg_lt c⟩
  · exact ⟨x1_lt (tg_lt c), x1_lt (sj_lt c)⟩
/-- one link -/
def Lk (cd : Nat → Nat) (w : Int32) (n t u : Nat) : Prop := ∃ i, i < n ∧ ¬ hb w i = true ∧ nx (cd i) t = some u
/-- so many links to y -/
def Wk (St : Nat → Nat → Prop) (y : Nat) : Nat → Nat → Prop
  | 0, t => t = y
  | n + 1, t => ∃ u, St t u ∧ Wk St y n u
def Lv (St : Nat → Nat → Prop) (y n t : Nat) : Prop := Wk St y n t ∧ ∀ m, m < n → ¬ Wk St y m t
theorem Lv_s {St : Nat → Nat → Prop} {y n t : Nat} (h : Lv St y (n + 1) t) : ∃ u, St t u ∧ Lv St y n u := by
  obtain ⟨⟨u, h1, h2⟩, h3⟩ := h
  exact ⟨u, h1, h2, fun m hm g => h3 (m + 1) (by omega) ⟨u, h1, g⟩⟩
theorem Lv_i {St : Nat → Nat → Prop} {y n t u : Nat} (h : Lv St y n u) (s : St t u) (g : ∀ m, m ≤ n → ¬ Wk St y m t) : Lv St y (n + 1) t := ⟨⟨u, s, h.1⟩, fun m hm => g m (by omega)⟩
theorem Lv_e {St : Nat → Nat → Prop} {y n m t : Nat} (h : Lv St y n t) (g : Lv St y m t) : n = m := by
  rcases Nat.lt_trichotomy n m with q | q | q
  · exact absurd h.1 (g.2 n q)
  · exact q
  · exact absurd g.1 (h.2 m q)
theorem Wk_lv {St : Nat → Nat → Prop} {y t : Nat} : ∀ n, Wk St y n t → ∃ m, m ≤ n ∧ Lv St y m t := by
  intro n
  induction n using Nat.strongRecOn with
  | ind n ih =>
    intro h
    by_cases g : ∃ m, m < n ∧ Wk St y m t
    · obtain ⟨m, h1, h2⟩ := g
      obtain ⟨k, h3, h4⟩ := ih m h1 h2
      exact ⟨k, by omega, h4⟩
    · exact ⟨n, Nat.le_refl _, h, fun m hm k => g ⟨m, hm, k⟩⟩
/-- the distances up to N are known -/
def Ds (St : Nat → Nat → Prop) (y : Nat) (ds : Nat → Nat) (N far : Nat) : Prop := ∀ t, t < 24 → (∃ m, m ≤ N ∧ Lv St y m t ∧ ds t = m) ∨ ((∀ m, m ≤ N → ¬ Wk St y m t) ∧ ds t = far)
def Rd (S : Zs) (r : Nat) (ds : Nat → Nat) : Prop := ∀ t, t < 24 → S.1 r t = nI (ds t)
/-- a pass marks some terms with L -/
def RW (S : Zs) (r : Nat) (ds : Nat → Nat) (L far : Nat) (E : Nat → Prop) : Prop := ∀ t, t < 24 → (E t ∧ S.1 r t = nI L ∧ ds t = far) ∨ (¬ E t ∧ S.1 r t = nI (ds t))
theorem Ds_val {St : Nat → Nat → Prop} {y N far : Nat} {ds : Nat → Nat} (h : Ds St y ds N far) {t : Nat} (ht : t < 24) : ds t ≤ N ∨ ds t = far := by
  rcases h t ht with ⟨m, h1, -, h3⟩ | ⟨-, h2⟩
  · exact Or.inl (by omega)
  · exact Or.inr h2
/-- what a pass comes to -/
theorem Ds_pass {St : Nat → Nat → Prop} {y L far : Nat} {ds : Nat → Nat} (h : Ds St y ds L far) (hf : L + 1 < far) (hs : ∀ t u, St t u → t < 24 ∧ u < 24) {t : Nat} (ht : t < 24) : (ds t = far ∧ ∃ u, St t u ∧ ds u = L) ↔ Lv St y (L + 1) t := by
  constructor
  · rintro ⟨h1, u, h2, h3⟩
    have n : ∀ m, m ≤ L → ¬ Wk St y m t := by
      rcases h t ht with ⟨m, q1, -, q3⟩ | ⟨q, -⟩
      · omega
      · exact q
    rcases h u (hs t u h2).2 with ⟨m, q1, q2, q3⟩ | ⟨-, q⟩
    · rw [show m = L by omega] at q2
      exact Lv_i q2 h2 n
    · omega
  · intro g
    obtain ⟨u, h1, h2⟩ := Lv_s g
    refine ⟨?_, u, h1, ?_⟩
    · rcases h t ht with ⟨m, q1, q2, -⟩ | ⟨-, q⟩
      · have := Lv_e g q2; omega
      · exact q
    · rcases h u (hs t u h1).2 with ⟨m, q1, q2, q3⟩ | ⟨q, -⟩
      · rw [q3, Lv_e q2 h2]
      · exact absurd h2.1 (q L (Nat.le_refl _))
theorem Ds_next {St : Nat → Nat → Prop} {y L far : Nat} {ds : Nat → Nat} (h : Ds St y ds L far) (hf : L + 1 < far) (hs : ∀ t u, St t u → t < 24 ∧ u < 24) {S : Zs} {r : Nat} {E : Nat → Prop} (hw : RW S r ds (L + 1) far E) (hE : ∀ t, t < 24 → (E t ↔ ds t = far ∧ ∃ u, St t u ∧ ds u = L)) : ∃ ds2, Rd S r ds2 ∧ Ds St y ds2 (L + 1) far := by
  refine ⟨fun t => @ite Nat (E t) (Classical.propDecidable _) (L + 1) (ds t), fun t ht => ?_, fun t ht => ?_⟩
  · dsimp only
    rcases hw t ht with ⟨q1, q2, -⟩ | ⟨q1, q2⟩
    · rw [if_pos q1]; exact q2
    · rw [if_neg q1]; exact q2
  · dsimp only
    by_cases q : E t
    · refine Or.inl ⟨L + 1, Nat.le_refl _, (Ds_pass h hf hs ht).mp ((hE t ht).mp q), by rw [if_pos q]⟩
    · rw [if_neg q]
      rcases h t ht with ⟨m, q1, q2, q3⟩ | ⟨q1, q2⟩
      · exact Or.inl ⟨m, by omega, q2, q3⟩
      · refine Or.inr ⟨fun m hm g => ?_, q2⟩
        rcases Nat.lt_or_ge m (L + 1) with w | w
        · exact q1 m (by omega) g
        · have e : m = L + 1 := by omega
          subst e
          exact q ((hE t ht).mpr ((Ds_pass h hf hs ht).mpr ⟨g, fun k hk => q1 k (by omega)⟩))
/-- no new one: there is none farther off -/
theorem Ds_stop {St : Nat → Nat → Prop} {y L far : Nat} {ds : Nat → Nat} (h : Ds St y ds L far) (hs : ∀ t u, St t u → t < 24 ∧ u < 24) (hn : ∀ t, t < 24 → ¬ Lv St y L t) : ∀ N, L ≤ N → Ds St y ds N far := by
  have none : ∀ k t, t < 24 → ¬ Lv St y (L + k) t := by
    intro k
    induction k with
    | zero => exact hn
    | succ k ih =>
      intro t ht g
      obtain ⟨u, h1, h2⟩ := Lv_s g
      exact ih u (hs t u h1).2 h2
  intro N hN t ht
  rcases h t ht with ⟨m, q1, q2, q3⟩ | ⟨q1, q2⟩
  · exact Or.inl ⟨m, by omega, q2, q3⟩
  · refine Or.inr ⟨fun m _ g => ?_, q2⟩
    obtain ⟨k, k1, k2⟩ := Wk_lv m g
    rcases Nat.lt_or_ge k (L + 1) with w | w
    · exact q1 k (by omega) k2.1
    · exact none (k - L) t ht (by rw [show L + (k - L) = k by omega]; exact k2)
-- the class
def oN : Option Nat → Int32
  | none => -1
  | some u => nI u
theorem x_next {F : Nat} (S : Zs) {c t : Nat} (hc : c < 2304) (ht : t < 24) : n_X1_next F S (nI c) (nI t) = some (oN (nx c t), S) := by
  have h1 := sj_lt c
  have h2 := tg_lt c
  have h3 := x1_lt h2
  unfold n_X1_next n_X1_next_e n_X1_next_b40 nx
  rw [n_subj F S hc, zcS, n_tgt F S hc, zcS]
  rcases Nat.lt_or_ge c 1152 with hu | hu
  · rw [n_uniT F S hu, zcS, if_neg (by decide), if_pos hu, nI_x1 (by omega), nI_x1 (by omega)]
    by_cases g1 : t = sj c
    · rw [if_pos (show nI t = nI (sj c) by rw [g1]), if_pos g1]; rfl
    · rw [if_neg (show ¬ nI t = nI (sj c) from fun k => g1 ((nI_eq (by omega) (by omega)).mp k)), if_neg g1]
      by_cases g2 : t = tg c ^^^ 1
      · rw [if_pos (show nI t = nI (tg c ^^^ 1) by rw [g2]), if_pos g2]; rfl
      · rw [if_neg (show ¬ nI t = nI (tg c ^^^ 1) from fun k => g2 ((nI_eq (by omega) (by omega)).mp k)), if_neg g2]; rfl
  · rw [n_uniF F S hc hu, zcS, if_pos rfl, if_neg (show ¬ c < 1152 by omega)]; rfl
theorem x_reaches {F : Nat} {S : Zs} {ds : Nat → Nat} {L : Nat} {E : Nat → Prop} (hL : L + 1 < 25) (hv : ∀ t, t < 24 → ds t ≤ L ∨ ds t = 25) (hw : RW S 22 ds (L + 1) 25 E) {t u : Nat} (ht : t < 24) (hu : u < 24) : ∃ r S2, n_X1_reaches_13 F S (nI t) (nI u) (nI (L + 1)) = some (r, S2) ∧ fr [22] [] S S2 ∧ RW S2 22 ds (L + 1) 25 (fun k => E k ∨ (k = t ∧ ds u = L ∧ ds t = 25)) ∧ isB r (¬ E t ∧ ds u = L ∧ ds t = 25) := by
  have e0 : n_X1_reaches_13 F S (nI t) (nI u) (nI (L + 1)) = if S.1 22 u = nI L then (if nI (L + 1) < S.1 22 t then some (1, zp S 22 t (nI (L + 1))) else some (0, S)) else some (0, S) := by
    unfold n_X1_reaches_13 n_X1_reaches_13_e n_X1_reaches_13_b22
    rw [zld_nI _ _ _ hu (by omega), zld_nI _ _ _ ht (by omega), zst_nI _ _ _ _ ht (by omega), nI_pred, zrb_0, zrb_1]
  have hu0 : S.1 22 u = nI L ↔ ds u = L := by
    have b := hv u hu
    rcases hw u hu with ⟨q1, q2, q3⟩ | ⟨q1, q2⟩
    · rw [q2, nI_eq (by omega) (by omega)]; omega
    · rw [q2, nI_eq (by omega) (by omega)]
  have ht0 : nI (L + 1) < S.1 22 t ↔ ¬ E t ∧ ds t = 25 := by
    have b := hv t ht
    rcases hw t ht with ⟨q1, q2, q3⟩ | ⟨q1, q2⟩
    · rw [q2, nI_lt_iff (by omega) (by omega)]
      exact ⟨fun g => by omega, fun g => absurd q1 g.1⟩
    · rw [q2, nI_lt_iff (by omega) (by omega)]
      exact ⟨fun g => ⟨q1, by omega⟩, fun g => by omega⟩
  have same : ¬ (¬ E t ∧ ds u = L ∧ ds t = 25) → RW S 22 ds (L + 1) 25 (fun k => E k ∨ (k = t ∧ ds u = L ∧ ds t = 25)) := by
    intro g k hk
    have hE : (E k ∨ (k = t ∧ ds u = L ∧ ds t = 25)) ↔ E k := by
      refine ⟨fun q => q.elim id fun q => ?_, Or.inl⟩
      rw [q.1]
      exact Classical.byContradiction fun w => g ⟨w, q.2⟩
    rcases hw k hk with ⟨q1, q2⟩ | ⟨q1, q2⟩
    · exact Or.inl ⟨hE.mpr q1, q2⟩
    · exact Or.inr ⟨fun w => q1 (hE.mp w), q2⟩
  by_cases g1 : ds u = L
  · rw [if_pos (hu0.mpr g1)] at e0
    by_cases g2 : ¬ E t ∧ ds t = 25
    · rw [if_pos (ht0.mpr g2)] at e0
      refine ⟨1, _, e0, fr_r _ _ (by decide) (by decide), fun k hk => ?_, Or.inl ⟨rfl, g2.1, g1, g2.2⟩⟩
      by_cases q : k = t
      · refine Or.inl ⟨Or.inr ⟨q, g1, g2.2⟩, by rw [q, zp_at], by rw [q]; exact g2.2⟩
      · rw [zp_off _ _ (Or.inr q)]
        have hE : (E k ∨ (k = t ∧ ds u = L ∧ ds t = 25)) ↔ E k := ⟨fun w => w.elim id fun w => absurd w.1 q, Or.inl⟩
        rcases hw k hk with ⟨q1, q2⟩ | ⟨q1, q2⟩
        · exact Or.inl ⟨hE.mpr q1, q2⟩
        · exact Or.inr ⟨fun w => q1 (hE.mp w), q2⟩
    · rw [if_neg (fun w => g2 (ht0.mp w))] at e0
      have g3 : ¬ (¬ E t ∧ ds u = L ∧ ds t = 25) := fun w => g2 ⟨w.1, w.2.2⟩
      exact ⟨0, S, e0, fr_rf _ _ _, same g3, Or.inr ⟨rfl, g3⟩⟩
  · rw [if_neg (fun w => g1 (hu0.mp w))] at e0
    have g3 : ¬ (¬ E t ∧ ds u = L ∧ ds t = 25) := fun w => g1 w.2.1
    exact ⟨0, S, e0, fr_rf _ _ _, same g3, Or.inr ⟨rfl, g3⟩⟩
theorem isB_or {r s : Int32} {p q : Prop} (h : isB r p) (g : isB s q) : isB (r ||| s) (p ∨ q) := by
  rcases h with ⟨h1, h2⟩ | ⟨h1, h2⟩
  · rcases g with ⟨g1, g2⟩ | ⟨g1, g2⟩
    · rw [h1, g1, or_self32]; exact Or.inl ⟨rfl, Or.inl h2⟩
    · rw [h1, g1, or_0]; exact Or.inl ⟨rfl, Or.inl h2⟩
  · rcases g with ⟨g1, g2⟩ | ⟨g1, g2⟩
    · rw [h1, g1, Int32.or_comm, or_0]; exact Or.inl ⟨rfl, Or.inr g2⟩
    · rw [h1, g1, or_0]; exact Or.inr ⟨rfl, fun w => w.elim h2 g2⟩
theorem RW_c {S : Zs} {r L far : Nat} {ds : Nat → Nat} {E E2 : Nat → Prop} (h : RW S r ds L far E) (g : ∀ t, t < 24 → (E t ↔ E2 t)) : RW S r ds L far E2 := fun t ht => (h t ht).imp (fun q => ⟨(g t ht).mp q.1, q.2⟩) (fun q => ⟨fun w => q.1 ((g t ht).mpr w), q.2⟩)
theorem x_pass_e {F : Nat} {S' : Zs} {n L i : Nat} {cd : Nat → Nat} {w v : Int32} (z1 : S'.1 0 62 = nI n) (z2 : n ≤ 16) (hi : i < n) (k1 : S'.1 4 i = nI (cd i)) (e64 : S'.1 0 64 = w) (p : Zs → Int32 → Int32 → Option (Int32 × Zs)) (rc : (Zs × Int32 × Int32 × Int32) → Option (Int32 × Zs)) : n_X1_measureDistances_13_b50_l F p (fun S x2 x3 x4 => rc (S, x2, x3, x4)) S' v (nI (L + 1)) (nI i) = if hb w i = true then rc (S', v, nI (L + 1), nI (i + 1)) else zcl (n_X0_isUniversal F S' (nI (cd i))) (fun v7 S6 => if v7 = 0 then rc (S6, v, nI (L + 1), nI (i + 1)) else (zcl (n_X0_subject F S6 (nI (cd i))) (fun v9 S8 => zcl (n_X0_target F S8 (nI (cd i))) (fun v11 S10 => zcl (n_X1_reaches_13 F S10 v9 v11 (nI (L + 1))) (fun v13 S12 => zcl (n_X0_target F S12 (nI (cd i))) (fun v16 S15 => zcl (n_X0_subject F S15 (nI (cd i))) (fun v18 S17 => zcl (n_X1_reaches_13 F S17 (v16 ^^^ (1 : Int32)) (v18 ^^^ (1 : Int32)) (nI (L + 1))) (fun v20 S19 => rc (S19, (v ||| v13) ||| v20, nI (L + 1), nI (i + 1)))))))))) := by
  unfold n_X1_measureDistances_13_b50_l n_X1_measureDistances_13_b134
  simp (disch := omega) only [zgS, z1, nI_le_iff, zld_nI, k1, x_isActive z1 z2 hi, zcS, zlS, nI_1, e64]
  rw [if_neg (by omega)]
  by_cases g : hb w i = true
  · rw [if_pos (show bI (¬ hb w i = true) = 0 from bI_f (fun w => w g)), if_pos g]
  · rw [if_neg (show ¬ bI (¬ hb w i = true) = 0 by rw [bI_t g]; decide), if_neg g]
theorem x_pass {F : Nat} (hF : 2 ^ 40 < F) {X : Zs} {n L : Nat} {cd ds : Nat → Nat} (hX : XC X n cd) (hL : L + 1 < 25) (hv : ∀ t, t < 24 → ds t ≤ L ∨ ds t = 25) (hr : Rd X 22 ds) : ∃ q : Int32 × Zs, (fr [22] [] X q.2 ∧ RW q.2 22 ds (L + 1) 25 (fun t => ds t = 25 ∧ ∃ u, Lk cd (X.1 0 64) n t u ∧ ds u = L) ∧ isB q.1 (∃ t, t < 24 ∧ ds t = 25 ∧ ∃ u, Lk cd (X.1 0 64) n t u ∧ ds u = L)) ∧ ∀ p, n_X1_measureDistances_13_b50 F p X 0 (nI (L + 1)) 0 = p q.2 q.1 (nI (L + 1 + 1)) := by
  obtain ⟨y1, y2, y3⟩ := id hX
  have up : ∀ i t, (ds t = 25 ∧ ∃ u, Lk cd (X.1 0 64) (i + 1) t u ∧ ds u = L) ↔ ((ds t = 25 ∧ ∃ u, Lk cd (X.1 0 64) i t u ∧ ds u = L) ∨ (ds t = 25 ∧ ∃ u, (¬ hb (X.1 0 64) i = true ∧ nx (cd i) t = some u) ∧ ds u = L)) := by
    intro i t
    constructor
    · rintro ⟨h1, u, ⟨j, j1, j2, j3⟩, h2⟩
      by_cases q : j = i
      · rw [q] at j2 j3; exact Or.inr ⟨h1, u, ⟨j2, j3⟩, h2⟩
      · exact Or.inl ⟨h1, u, ⟨j, by omega, j2, j3⟩, h2⟩
    · rintro (⟨h1, u, ⟨j, j1, j2, j3⟩, h2⟩ | ⟨h1, u, ⟨j2, j3⟩, h2⟩)
      · exact ⟨h1, u, ⟨j, by omega, j2, j3⟩, h2⟩
      · exact ⟨h1, u, ⟨i, by omega, j2, j3⟩, h2⟩
  exact zfix_forP (f := fun (p : Zs → Int32 → Int32 → Option (Int32 × Zs)) (rc : (Zs × Int32 × Int32 × Int32) → Option (Int32 × Zs)) (u : (Zs × Int32 × Int32 × Int32)) => n_X1_measureDistances_13_b50_l F p (fun S x2 x3 x4 => rc (S, x2, x3, x4)) u.1 u.2.1 u.2.2.1 u.2.2.2) n (fun i a => ∃ S v, a = (S, v, nI (L + 1), nI i) ∧ fr [22] [] X S ∧ RW S 22 ds (L + 1) 25 (fun t => ds t = 25 ∧ ∃ u, Lk cd (X.1 0 64) i t u ∧ ds u = L) ∧ isB v (∃ t, t < 24 ∧ ds t = 25 ∧ ∃ u, Lk cd (X.1 0 64) i t u ∧ ds u = L)) (fun q : Int32 × Zs => fr [22] [] X q.2 ∧ RW q.2 22 ds (L + 1) 25 (fun t => ds t = 25 ∧ ∃ u, Lk cd (X.1 0 64) n t u ∧ ds u = L) ∧ isB q.1 (∃ t, t < 24 ∧ ds t = 25 ∧ ∃ u, Lk cd (X.1 0 64) n t u ∧ ds u = L)) (fun p q => p q.2 q.1 (nI (L + 1 + 1))) (by
    rintro i _ hi ⟨S', v, rfl, hf, hw, hb'⟩
    obtain ⟨z1, z2, z3⟩ := XC_fr hX hf (by decide) (by decide)
    obtain ⟨k1, k2⟩ := z3 i hi
    have e64 : S'.1 0 64 = X.1 0 64 := hf.1 64 (by decide)
    have hs := sj_lt (cd i)
    have ht := tg_lt (cd i)
    have e := fun p rc => x_pass_e (F := F) (L := L) (v := v) (cd := cd) z1 z2 hi k1 e64 p rc
    by_cases g : hb (X.1 0 64) i = true
    · refine Or.inr ⟨_, ⟨S', v, rfl, hf, RW_c hw fun t _ => ?_, isB_iff hb' ?_⟩, fun p rc => (e p rc).trans (if_pos g)⟩
      · rw [up]; exact ⟨Or.inl, fun w => w.elim id fun ⟨_, u, w, _⟩ => absurd g w.1⟩
      · constructor
        · rintro ⟨t, h1, h2⟩; exact ⟨t, h1, (up i t).mpr (Or.inl h2)⟩
        · rintro ⟨t, h1, h2⟩; exact ⟨t, h1, ((up i t).mp h2).elim id fun ⟨_, u, w, _⟩ => absurd g w.1⟩
    · rcases Nat.lt_or_ge (cd i) 1152 with hu | hu
      · obtain ⟨r1, S1, e1, f1, w1, b1⟩ := x_reaches (F := F) hL hv hw hs ht
        obtain ⟨r2, S2, e2, f2, w2, b2⟩ := x_reaches (F := F) hL hv w1 (x1_lt ht) (x1_lt hs)
        have hE : ∀ t, t < 24 → ((((ds t = 25 ∧ ∃ u, Lk cd (X.1 0 64) i t u ∧ ds u = L) ∨ (t = sj (cd i) ∧ ds (tg (cd i)) = L ∧ ds (sj (cd i)) = 25)) ∨ (t = tg (cd i) ^^^ 1 ∧ ds (sj (cd i) ^^^ 1) = L ∧ ds (tg (cd i) ^^^ 1) = 25)) ↔ (ds t = 25 ∧ ∃ u, Lk cd (X.1 0 64) (i + 1) t u ∧ ds u = L)) := by
          intro t _
          rw [up]
          constructor
          · rintro ((q | ⟨q1, q2, q3⟩) | ⟨q1, q2, q3⟩)
            · exact Or.inl q
            · exact Or.inr ⟨by rw [q1]; exact q3, _, ⟨g, nx_iff.mpr ⟨hu, Or.inl ⟨q1, rfl⟩⟩⟩, q2⟩
            · exact Or.inr ⟨by rw [q1]; exact q3, _, ⟨g, nx_iff.mpr ⟨hu, Or.inr ⟨q1, rfl⟩⟩⟩, q2⟩
          · rintro (q | ⟨q1, u, ⟨-, q3⟩, q4⟩)
            · exact Or.inl (Or.inl q)
            · obtain ⟨-, ⟨w1, w2⟩ | ⟨w1, w2⟩⟩ := nx_iff.mp q3
              · exact Or.inl (Or.inr ⟨w1, by rw [← w2]; exact q4, by rw [← w1]; exact q1⟩)
              · exact Or.inr ⟨w1, by rw [← w2]; exact q4, by rw [← w1]; exact q1⟩
        refine Or.inr ⟨(S2, (v ||| r1) ||| r2, nI (L + 1), nI (i + 1)), ⟨S2, _, rfl, fr_t hf (fr_t f1 f2), RW_c w2 hE, isB_iff (isB_or (isB_or hb' b1) b2) ?_⟩, fun p rc => (e p rc).trans ?_⟩
        · constructor
          · rintro ((⟨t, h1, h2⟩ | ⟨-, h2⟩) | ⟨-, h2⟩)
            · exact ⟨t, h1, (hE t h1).mp (Or.inl (Or.inl h2))⟩
            · exact ⟨_, hs, (hE _ hs).mp (Or.inl (Or.inr ⟨rfl, h2⟩))⟩
            · exact ⟨_, x1_lt ht, (hE _ (x1_lt ht)).mp (Or.inr ⟨rfl, h2⟩)⟩
          · rintro ⟨t, h1, h2⟩
            by_cases q1 : ds t = 25 ∧ ∃ u, Lk cd (X.1 0 64) i t u ∧ ds u = L
            · exact Or.inl (Or.inl ⟨t, h1, q1⟩)
            · rcases (hE t h1).mpr h2 with (q | q) | q
              · exact absurd q q1
              · refine Or.inl (Or.inr ⟨?_, q.2⟩)
                rw [← q.1]; exact q1
              · by_cases q5 : t = sj (cd i) ∧ ds (tg (cd i)) = L ∧ ds (sj (cd i)) = 25
                · refine Or.inl (Or.inr ⟨?_, q5.2⟩)
                  rw [← q5.1]; exact q1
                · refine Or.inr ⟨?_, q.2⟩
                  rw [← q.1]; exact fun w => w.elim q1 q5
        · rw [if_neg g, n_uniT F _ hu, zcS, if_neg (by decide), n_subj F _ k2, zcS, n_tgt F _ k2, zcS, e1, zcS, n_tgt F _ k2, zcS, n_subj F _ k2, zcS, nI_x1 (by omega), nI_x1 (by omega), e2, zcS]
      · have hnx : ∀ t u, ¬ nx (cd i) t = some u := fun t u w => by have := (nx_iff.mp w).1; omega
        refine Or.inr ⟨_, ⟨S', v, rfl, hf, RW_c hw fun t _ => ?_, isB_iff hb' ?_⟩, fun p rc => (e p rc).trans (by rw [if_neg g, n_uniF F _ k2 hu, zcS, if_pos rfl])⟩
        · rw [up]; exact ⟨Or.inl, fun w => w.elim id fun ⟨_, u, w, _⟩ => absurd w.2 (hnx t u)⟩
        · constructor
          · rintro ⟨t, h1, h2⟩; exact ⟨t, h1, (up i t).mpr (Or.inl h2)⟩
          · rintro ⟨t, h1, h2⟩; exact ⟨t, h1, ((up i t).mp h2).elim id fun ⟨_, u, w, _⟩ => absurd w.2 (hnx t u)⟩) (by
    rintro _ ⟨S', v, rfl, hf, hw, hb'⟩
    refine ⟨(v, S'), ⟨hf, hw, hb'⟩, fun p rc => ?_⟩
    obtain ⟨z1, z2, z3⟩ := XC_fr hX hf (by decide) (by decide)
    show n_X1_measureDistances_13_b50_l F p (fun S x2 x3 x4 => rc (S, x2, x3, x4)) S' v (nI (L + 1)) (nI n) = _
    unfold n_X1_measureDistances_13_b50_l
    simp (disch := omega) only [zgS, z1, nI_le_iff, zlS, nI_1]
    rw [if_pos (by omega)]) F (X, 0, nI (L + 1), 0) ⟨X, 0, rfl, fr_rf _ _ _, fun t ht => Or.inr ⟨fun ⟨_, u, ⟨j, hj, _⟩, _⟩ => absurd hj (by omega), hr t ht⟩, Or.inr ⟨rfl, fun ⟨t, _, _, u, ⟨j, hj, _⟩, _⟩ => absurd hj (by omega)⟩⟩ (by omega)
theorem Lk_lt {cd : Nat → Nat} {w : Int32} {n : Nat} : ∀ t u, Lk cd w n t u → t < 24 ∧ u < 24 := fun _ _ ⟨_, _, _, h⟩ => nx_lt h
theorem x_dist0 {F : Nat} (hF : 2 ^ 40 < F) (X : Zs) {y : Nat} (hy : y < 24) : ∃ X2, (fr [22] [] X X2 ∧ Rd X2 22 (fun t => if t = y then 0 else 25)) ∧ n_X1_measureDistances_13 F X (nI y) = n_X1_measureDistances_13_b35 F X2 1 1 := by
  exact zfix_for (f := fun (rc : (Zs × Int32 × Int32) → Option (Int32 × Zs)) (u : (Zs × Int32 × Int32)) => n_X1_measureDistances_13_b2_l F  (fun S x1 x2 => rc (S, x1, x2)) u.1 u.2.1 u.2.2) 24 (fun i a => ∃ S, a = (S, nI y, nI i) ∧ fr [22] [] X S ∧ ∀ t, t < i → S.1 22 t = nI (if t = y then 0 else 25)) (fun X2 : Zs => fr [22] [] X X2 ∧ Rd X2 22 (fun t => if t = y then 0 else 25)) (fun X2 => n_X1_measureDistances_13_b35 F X2 1 1) (by
    rintro i _ hi ⟨S', rfl, hf, hd⟩
    refine Or.inr ⟨(zp S' 22 i (nI (if i = y then 0 else 25)), nI y, nI (i + 1)), ⟨_, rfl, fr_t hf (fr_r _ _ (by decide) (by decide)), fun t ht => ?_⟩, fun rc => ?_⟩
    · by_cases q : t = i
      · rw [q, zp_at]
      · rw [zp_off _ _ (Or.inr q)]; exact hd t (by omega)
    · show n_X1_measureDistances_13_b2_l F (fun S x1 x2 => rc (S, x1, x2)) S' (nI y) (nI i) = _
      unfold n_X1_measureDistances_13_b2_l n_X1_measureDistances_13_b24 zlet
      rw [if_neg (show ¬ (24 : Int32) ≤ nI i from nI_ge (b := 24) hi (by omega)), zst_nI _ _ _ _ hi (by omega), zst_nI _ _ _ _ hi (by omega), nI_1]
      by_cases q : i = y
      · rw [if_pos (show nI i = nI y by rw [q]), if_pos q]; rfl
      · rw [if_neg (show ¬ nI i = nI y from fun k => q ((nI_eq (by omega) (by omega)).mp k)), if_neg q]; rfl) (by
    rintro _ ⟨S', rfl, hf, hd⟩
    refine ⟨S', ⟨hf, hd⟩, fun rc => ?_⟩
    show n_X1_measureDistances_13_b2_l F (fun S x1 x2 => rc (S, x1, x2)) S' (nI y) (nI 24) = _
    unfold n_X1_measureDistances_13_b2_l
    rw [if_pos (show (24 : Int32) ≤ nI 24 from nI_le (a := 24) (by omega) (by omega))]) F (X, nI y, 0) ⟨X, rfl, fr_rf _ _ _, fun t ht => absurd ht (by omega)⟩ (by omega)
theorem Ds_0 {St : Nat → Nat → Prop} {y far : Nat} : Ds St y (fun t => if t = y then 0 else far) 0 far := by
  intro t ht
  by_cases q : t = y
  · exact Or.inl ⟨0, Nat.le_refl _, ⟨q, fun m hm => absurd hm (by omega)⟩, if_pos q⟩
  · refine Or.inr ⟨fun m hm g => ?_, if_neg q⟩
    rw [show m = 0 by omega] at g
    exact q g
theorem x_measure {F : Nat} (hF : 2 ^ 40 < F) {X : Zs} {n y : Nat} {cd : Nat → Nat} (hX : XC X n cd) (hy : y < 24) : ∃ X2, (fr [22] [] X X2 ∧ ∃ ds, Rd X2 22 ds ∧ Ds (Lk cd (X.1 0 64) n) y ds 23 25) ∧ n_X1_measureDistances_13 F X (nI y) = some (0, X2) := by
  obtain ⟨X1, ⟨f1, d1⟩, e1⟩ := x_dist0 hF X hy
  rw [e1]
  exact zfix_for (f := fun (rc : (Zs × Int32 × Int32) → Option (Int32 × Zs)) (u : (Zs × Int32 × Int32)) => n_X1_measureDistances_13_b35_l F  (fun S x2 x3 => rc (S, x2, x3)) u.1 u.2.1 u.2.2) 23 (fun i a => ∃ S v ds, a = (S, v, nI (i + 1)) ∧ fr [22] [] X S ∧ Rd S 22 ds ∧ Ds (Lk cd (X.1 0 64) n) y ds i 25 ∧ (v = 0 → ∀ t, t < 24 → ¬ Lv (Lk cd (X.1 0 64) n) y i t)) (fun X2 : Zs => fr [22] [] X X2 ∧ ∃ ds, Rd X2 22 ds ∧ Ds (Lk cd (X.1 0 64) n) y ds 23 25) (fun X2 => some (0, X2)) (by
    rintro i _ hi ⟨S', v, ds, rfl, hf, hd, hD, hz⟩
    have e : ∀ rc : (Zs × Int32 × Int32) → Option (Int32 × Zs), n_X1_measureDistances_13_b35_l F (fun S x2 x3 => rc (S, x2, x3)) S' v (nI (i + 1)) = if v = 0 then some (0, S') else n_X1_measureDistances_13_b50 F (fun S x2 x3 => rc (S, x2, x3)) S' 0 (nI (i + 1)) 0 := by
      intro rc
      unfold n_X1_measureDistances_13_b35_l n_X1_measureDistances_13_b146
      rw [if_neg (show ¬ (24 : Int32) ≤ nI (i + 1) from nI_ge (b := 24) (by omega) (by omega))]
    by_cases g : v = 0
    · exact Or.inl ⟨S', ⟨hf, ds, hd, Ds_stop hD Lk_lt (hz g) 23 (by omega)⟩, fun rc => (e rc).trans (if_pos g)⟩
    · obtain ⟨⟨v2, S2⟩, ⟨f2, w2, b2⟩, e2⟩ := x_pass hF (XC_fr hX hf (by decide) (by decide)) (show i + 1 < 25 by omega) (fun t ht => Ds_val hD ht) hd
      rw [hf.1 64 (by decide)] at w2 b2
      obtain ⟨ds2, hd2, hD2⟩ := Ds_next hD (by omega) Lk_lt w2 (fun t _ => Iff.rfl)
      refine Or.inr ⟨(S2, v2, nI (i + 1 + 1)), ⟨S2, v2, ds2, rfl, fr_t hf f2, hd2, hD2, fun k t ht q => (isB_0 b2).mp k ⟨t, ht, (Ds_pass hD (by omega) Lk_lt ht).mpr q⟩⟩, fun rc => (e rc).trans ?_⟩
      rw [if_neg g, e2]) (by
    rintro _ ⟨S', v, ds, rfl, hf, hd, hD, hz⟩
    refine ⟨S', ⟨hf, ds, hd, hD⟩, fun rc => ?_⟩
    show n_X1_measureDistances_13_b35_l F (fun S x2 x3 => rc (S, x2, x3)) S' v (nI (23 + 1)) = _
    unfold n_X1_measureDistances_13_b35_l n_X1_measureDistances_13_b146
    rw [if_pos (show (24 : Int32) ≤ nI (23 + 1) from nI_le (a := 24) (by omega) (by omega))]) F (X1, 1, 1) ⟨X1, 1, _, rfl, f1, d1, Ds_0, fun k => absurd k (by decide)⟩ (by omega)
