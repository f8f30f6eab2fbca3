/-! SORTS: what A and E leave; of which terms there can be a sort -/
theorem x1_half : ∀ t, t < 24 → (t ^^^ 1) / 2 = t / 2 ∧ ((t ^^^ 1) % 2 == 0) = !(t % 2 == 0) := by decide
theorem ofB_x1 (s : Nat) {t : Nat} (ht : t < 24) : ofB s (t ^^^ 1) = !ofB s t := by
  unfold ofB
  rw [(x1_half t ht).1, (x1_half t ht).2]
  cases s.testBit (t / 2) <;> cases (t % 2 == 0) <;> rfl
theorem ofB_nx {s t : Nat} (ht : t < 24) : ofB s (t ^^^ 1) = true ↔ ¬ ofB s t = true := by
  rw [ofB_x1 s ht]
  cases ofB s t
  · exact ⟨fun _ g => absurd g (by decide), fun _ => rfl⟩
  · exact ⟨fun g => absurd g (by decide), fun g => absurd rfl g⟩
/-- a sort that A and E leave -/
def OkS (P : Nat → Prop) (s : Nat) : Prop := ∀ c, P c → c < 1152 → ¬ (ofB s (sj c) = true ∧ ofB s (tg c ^^^ 1) = true)
theorem OkS_ed {P : Nat → Prop} {s : Nat} (h : OkS P s) {a b : Nat} (e : Ed P a b) (g : ofB s a = true) : ofB s b = true := by
  obtain ⟨c, hc, hu, ⟨rfl, rfl⟩ | ⟨rfl, rfl⟩⟩ := e
  · by_cases k : ofB s (tg c) = true
    · exact k
    · exact absurd ⟨g, (ofB_nx (tg_lt c)).mpr k⟩ (h c hc hu)
  · rw [ofB_nx (sj_lt c)]
    exact fun k => h c hc hu ⟨k, g⟩
theorem OkS_rc {P : Nat → Prop} {s : Nat} (h : OkS P s) {a b : Nat} (e : Rc P a b) : ofB s a = true → ofB s b = true :=
  e (fun a b => ofB s a = true → ofB s b = true) (fun _ _ g => g) (fun _ _ _ p q g => q (p g)) (fun _ _ k g => OkS_ed h k g)
theorem OkS_of {P : Nat → Prop} {s : Nat} (h : ∀ a b, Rc P a b → ofB s a = true → ofB s b = true) : OkS P s := by
  rintro c hc hu ⟨g1, g2⟩
  exact (ofB_nx (tg_lt c)).mp g2 (h _ _ (Rc_e ⟨c, hc, hu, Or.inl ⟨rfl, rfl⟩⟩) g1)
theorem OkS_can {P : Nat → Prop} {s : Nat} (h : OkS P s) {x y : Nat} (hx : ofB s x = true) (hy : ofB s y = true) : Can P x y := by
  refine ⟨?_, ?_⟩
  · rintro ⟨t, ht, h1, h2⟩
    by_cases k : ofB s t = true
    · exact (ofB_nx ht).mp (OkS_rc h h1 k) k
    · exact k (OkS_rc h h2 ((ofB_nx ht).mpr k))
  · rintro z hz ⟨h1, h2⟩
    have k1 : ofB s z = true := h1.elim (fun g => OkS_rc h g hx) (fun g => OkS_rc h g hy)
    have k2 : ofB s (z ^^^ 1) = true := h2.elim (fun g => OkS_rc h g hx) (fun g => OkS_rc h g hy)
    exact (ofB_nx hz).mp k2 k1
/-- closed and not torn -/
def ClT (P A : Nat → Prop) : Prop := (∀ a b, A a → Rc P a b → A b) ∧ ∀ t, t < 24 → ¬ (A t ∧ A (t ^^^ 1))
theorem ClT_more {P A : Nat → Prop} (h : ClT P A) {p : Nat} (hp : p < 24) (h1 : ¬ Rc P p (p ^^^ 1)) (h3 : ¬ A (p ^^^ 1)) : ClT P (fun t => A t ∨ Rc P p t) := by
  refine ⟨fun a b g k => g.elim (fun g => Or.inl (h.1 a b g k)) (fun g => Or.inr (Rc_t g k)), fun t ht => ?_⟩
  rintro ⟨g1 | g1, g2 | g2⟩
  · exact h.2 t ht ⟨g1, g2⟩
  · have k := Rc_op g2
    rw [x1_x1] at k
    exact h3 (h.1 _ _ g1 k)
  · exact h3 (h.1 _ _ g2 (Rc_op g1))
  · have k := Rc_op g2
    rw [x1_x1] at k
    exact h1 (Rc_t g1 k)
theorem ClT_all {P : Nat → Prop} (hB : ¬ Br P) {A : Nat → Prop} (h : ClT P A) : ∀ k, k ≤ 12 → ∃ B : Nat → Prop, ClT P B ∧ (∀ t, A t → B t) ∧ ∀ j, j < k → B (2 * j) ∨ B (2 * j + 1) := by
  intro k
  induction k with
  | zero => exact fun _ => ⟨A, h, fun _ g => g, fun j hj => absurd hj (by omega)⟩
  | succ k ih =>
    intro hk
    obtain ⟨B, hB1, hB2, hB3⟩ := ih (by omega)
    obtain ⟨e1, e2⟩ := x1_2 k (by omega)
    by_cases g1 : B (2 * k)
    · exact ⟨B, hB1, hB2, fun j hj => by
        rcases Nat.lt_or_ge j k with q | q
        · exact hB3 j q
        · rw [show j = k by omega]; exact Or.inl g1⟩
    by_cases g2 : B (2 * k + 1)
    · exact ⟨B, hB1, hB2, fun j hj => by
        rcases Nat.lt_or_ge j k with q | q
        · exact hB3 j q
        · rw [show j = k by omega]; exact Or.inr g2⟩
    by_cases g3 : Rc P (2 * k) (2 * k + 1)
    · have g4 : ¬ Rc P (2 * k + 1) (2 * k) := fun g4 => hB ⟨2 * k, by omega, by rw [e1]; exact g3, by rw [e1]; exact g4⟩
      refine ⟨_, ClT_more hB1 (p := 2 * k + 1) (by omega) (by rw [e2]; exact g4) (by rw [e2]; exact g1), fun t ht => Or.inl (hB2 t ht), fun j hj => ?_⟩
      rcases Nat.lt_or_ge j k with q | q
      · exact (hB3 j q).imp Or.inl Or.inl
      · rw [show j = k by omega]; exact Or.inr (Or.inr (Rc_rf P (by omega)))
    · refine ⟨_, ClT_more hB1 (p := 2 * k) (by omega) (by rw [e1]; exact g3) (by rw [e1]; exact g2), fun t ht => Or.inl (hB2 t ht), fun j hj => ?_⟩
      rcases Nat.lt_or_ge j k with q | q
      · exact (hB3 j q).imp Or.inl Or.inl
      · rw [show j = k by omega]; exact Or.inl (Or.inr (Rc_rf P (by omega)))
theorem bits_ex (p : Nat → Prop) : ∀ n, ∃ s, s < 2 ^ n ∧ ∀ k, k < n → (s.testBit k = true ↔ p k) := by
  intro n
  induction n with
  | zero => exact ⟨0, by decide, fun k hk => absurd hk (by omega)⟩
  | succ n ih =>
    obtain ⟨s, h1, h2⟩ := ih
    have hp : 2 ^ n < 2 ^ (n + 1) := Nat.pow_lt_pow_right (by omega) (by omega)
    by_cases g : p n
    · refine ⟨s ||| 2 ^ n, Nat.or_lt_two_pow (by omega) hp, fun k hk => ?_⟩
      rw [Nat.testBit_or, Nat.testBit_two_pow, Bool.or_eq_true, decide_eq_true_iff]
      rcases Nat.lt_or_ge k n with q | q
      · exact ⟨fun w => w.elim (h2 k q).mp fun w => absurd w (by omega), fun w => Or.inl ((h2 k q).mpr w)⟩
      · rw [show k = n by omega]; exact ⟨fun _ => g, fun _ => Or.inr rfl⟩
    · refine ⟨s, by omega, fun k hk => ?_⟩
      rcases Nat.lt_or_ge k n with q | q
      · exact h2 k q
      · rw [show k = n by omega, Nat.testBit_lt_two_pow h1]; exact ⟨fun w => absurd w (by decide), fun w => absurd w g⟩
/-- terms no two of which hinder one another have a sort -/
theorem sat {P : Nat → Prop} (hB : ¬ Br P) (T : Nat → Prop) (hT : ∀ x y, T x → T y → Can P x y) (h24 : ∀ x, T x → x < 24) : ∃ s, s < 4096 ∧ OkS P s ∧ ∀ x, T x → ofB s x = true := by
  have h0 : ClT P (fun t => ∃ x, T x ∧ Rc P x t) := by
    refine ⟨fun a b ⟨x, h1, h2⟩ k => ⟨x, h1, Rc_t h2 k⟩, fun t ht => ?_⟩
    rintro ⟨⟨x, h1, h2⟩, ⟨y, g1, g2⟩⟩
    exact (hT x y h1 g1).2 t ht ⟨Or.inl h2, Or.inr g2⟩
  obtain ⟨B, hB1, hB2, hB3⟩ := ClT_all hB h0 12 (Nat.le_refl _)
  obtain ⟨s, hs, hk⟩ := bits_ex (fun k => B (2 * k)) 12
  have key : ∀ t, t < 24 → (ofB s t = true ↔ B t) := by
    intro t ht
    have h1 := hk (t / 2) (by omega)
    obtain ⟨e1, e2⟩ := x1_2 (t / 2) (by omega)
    have h2 := hB1.2 (2 * (t / 2)) (by omega)
    rw [e1] at h2
    have h3 := hB3 (t / 2) (by omega)
    unfold ofB
    rcases (show t = 2 * (t / 2) ∨ t = 2 * (t / 2) + 1 by omega) with e | e
    · have e3 : (t % 2 == 0) = true := by rw [beq_iff_eq]; omega
      rw [e3, beq_true, h1]
      exact Eq.to_iff (congrArg B e.symm)
    · have e3 : (t % 2 == 0) = false := by rw [beq_eq_false_iff_ne]; omega
      rw [e3, beq_false, Bool.not_eq_true', ← Bool.not_eq_true, h1]
      rw [show B t = B (2 * (t / 2) + 1) from congrArg B e]
      exact ⟨fun g => h3.resolve_left g, fun g k => h2 ⟨k, g⟩⟩
  refine ⟨s, hs, OkS_of fun a b e g => ?_, fun x hx => (key x (h24 x hx)).mpr (hB2 x ⟨x, hx, Rc_rf P (h24 x hx)⟩)⟩
  obtain ⟨ha, hb'⟩ := Rc_lt e
  exact (key b hb').mpr (hB1.1 a b ((key a ha).mp g) e)
theorem Can_l {P : Nat → Prop} {x y : Nat} (h : Can P x y) : Can P x x := ⟨h.1, fun z hz g => h.2 z hz ⟨g.1.elim Or.inl Or.inl, g.2.elim Or.inl Or.inl⟩⟩
theorem Can_s {P : Nat → Prop} {x y : Nat} (h : Can P x y) : Can P y x := ⟨h.1, fun z hz g => h.2 z hz ⟨g.1.symm, g.2.symm⟩⟩
theorem can_iff {P : Nat → Prop} {x y : Nat} (hx : x < 24) (hy : y < 24) : Can P x y ↔ ∃ s, s < 4096 ∧ OkS P s ∧ ofB s x = true ∧ ofB s y = true := by
  constructor
  · intro h
    obtain ⟨s, h1, h2, h3⟩ := sat h.1 (fun t => t = x ∨ t = y) (by
      rintro a b (rfl | rfl) (rfl | rfl)
      · exact Can_l h
      · exact h
      · exact Can_s h
      · exact Can_l (Can_s h)) (by
      rintro a (rfl | rfl)
      · exact hx
      · exact hy)
    exact ⟨s, h1, h2, h3 x (Or.inl rfl), h3 y (Or.inr rfl)⟩
  · rintro ⟨s, -, h2, h3, h4⟩
    exact OkS_can h2 h3 h4
theorem OkS_c {P Q : Nat → Prop} (h : ∀ c, c < 1152 → (P c ↔ Q c)) {s : Nat} : OkS P s ↔ OkS Q s := ⟨fun g c hc hu => g c ((h c hu).mpr hc) hu, fun g c hc hu => g c ((h c hu).mp hc) hu⟩
