/-! towns: fewest sorts, and the least row -/
def Mt (s : Nat) (p : Nat × Nat) : Prop := ofB s p.1 = true ∧ ofB s p.2 = true
def Cv (C : Nat → Prop) (D : Nat × Nat → Prop) (k : Nat) : Prop := ∃ R : List Nat, R.length ≤ k ∧ (∀ r ∈ R, C r) ∧ ∀ p, D p → ∃ r ∈ R, Mt r p
def Fw (C : Nat → Prop) (D : Nat × Nat → Prop) (k : Nat) : Prop := Cv C D k ∧ ∀ j, j < k → ¬ Cv C D j
def Wo (D : Nat × Nat → Prop) (s : Nat) (p : Nat × Nat) : Prop := D p ∧ ¬ Mt s p
theorem Cv_le {C : Nat → Prop} {D : Nat × Nat → Prop} {j k : Nat} (h : Cv C D j) (g : j ≤ k) : Cv C D k := by
  obtain ⟨R, h1, h2⟩ := h
  exact ⟨R, by omega, h2⟩
theorem Cv_mono {C : Nat → Prop} {D D2 : Nat × Nat → Prop} {k : Nat} (h : Cv C D k) (g : ∀ p, D2 p → D p) : Cv C D2 k := by
  obtain ⟨R, h1, h2, h3⟩ := h
  exact ⟨R, h1, h2, fun p hp => h3 p (g p hp)⟩
theorem Cv_c {C : Nat → Prop} {D D2 : Nat × Nat → Prop} (g : ∀ p, D p ↔ D2 p) {k : Nat} : Cv C D k ↔ Cv C D2 k := ⟨fun h => Cv_mono h fun p => (g p).mpr, fun h => Cv_mono h fun p => (g p).mp⟩
theorem Fw_c {C : Nat → Prop} {D D2 : Nat × Nat → Prop} (g : ∀ p, D p ↔ D2 p) {k : Nat} : Fw C D k ↔ Fw C D2 k := ⟨fun h => ⟨(Cv_c g).mp h.1, fun j hj w => h.2 j hj ((Cv_c g).mpr w)⟩, fun h => ⟨(Cv_c g).mpr h.1, fun j hj w => h.2 j hj ((Cv_c g).mp w)⟩⟩
theorem Fw_eq {C : Nat → Prop} {D : Nat × Nat → Prop} {j k : Nat} (h : Fw C D j) (g : Fw C D k) : j = k := by
  rcases Nat.lt_trichotomy j k with q | q | q
  · exact absurd h.1 (g.2 j q)
  · exact q
  · exact absurd g.1 (h.2 k q)
theorem Fw_ge {C : Nat → Prop} {D : Nat × Nat → Prop} {j k : Nat} (h : Fw C D j) (g : Cv C D k) : j ≤ k := by
  by_cases q : k < j
  · exact absurd g (h.2 k q)
  · omega
theorem Fw_ex {C : Nat → Prop} {D : Nat × Nat → Prop} : ∀ k, Cv C D k → ∃ j, j ≤ k ∧ Fw C D j := by
  intro k
  induction k using Nat.strongRecOn with
  | ind k ih =>
    intro h
    by_cases q : ∃ j, j < k ∧ Cv C D j
    · obtain ⟨j, h1, h2⟩ := q
      obtain ⟨i, i1, i2⟩ := ih j h1 h2
      exact ⟨i, by omega, i2⟩
    · exact ⟨k, Nat.le_refl _, h, fun j hj w => q ⟨j, hj, w⟩⟩
theorem Cv_0 {C : Nat → Prop} {D : Nat × Nat → Prop} : Cv C D 0 ↔ ∀ p, ¬ D p := by
  constructor
  · rintro ⟨R, h1, -, h3⟩ p hp
    obtain ⟨r, hr, -⟩ := h3 p hp
    rw [List.eq_nil_of_length_eq_zero (show R.length = 0 by omega)] at hr
    exact absurd hr (by simp)
  · intro h
    exact ⟨[], by simp, by simp, fun p hp => absurd hp (h p)⟩
theorem Fw_0 {C : Nat → Prop} {D : Nat × Nat → Prop} (h : ∀ p, ¬ D p) : Fw C D 0 := ⟨Cv_0.mpr h, fun j hj => absurd hj (by omega)⟩
theorem Cv_s {C : Nat → Prop} {D : Nat × Nat → Prop} {s k : Nat} (hs : C s) (h : Cv C (Wo D s) k) : Cv C D (k + 1) := by
  obtain ⟨R, h1, h2, h3⟩ := h
  refine ⟨s :: R, by simp; omega, fun r hr => ?_, fun p hp => ?_⟩
  · rcases List.mem_cons.mp hr with e | e
    · rw [e]; exact hs
    · exact h2 r e
  · by_cases q : Mt s p
    · exact ⟨s, by simp, q⟩
    · obtain ⟨r, r1, r2⟩ := h3 p ⟨hp, q⟩
      exact ⟨r, List.mem_cons_of_mem _ r1, r2⟩
/-- a row that does: any one of it may go first -/
theorem Cv_at {C : Nat → Prop} {D : Nat × Nat → Prop} {k : Nat} (h : Cv C D (k + 1)) {p : Nat × Nat} (hp : D p) : ∃ s, C s ∧ Mt s p ∧ Cv C (Wo D s) k := by
  obtain ⟨R, h1, h2, h3⟩ := h
  obtain ⟨r, r1, r2⟩ := h3 p hp
  obtain ⟨A, B, e⟩ := List.append_of_mem r1
  refine ⟨r, h2 r r1, r2, A ++ B, ?_, fun x hx => h2 x ?_, fun q hq => ?_⟩
  · rw [e] at h1
    simp only [List.length_append, List.length_cons] at h1 ⊢
    omega
  · rw [e]
    rcases List.mem_append.mp hx with w | w
    · exact List.mem_append_left _ w
    · exact List.mem_append_right _ (List.mem_cons_of_mem _ w)
  · obtain ⟨x, x1, x2⟩ := h3 q hq.1
    rw [e] at x1
    rcases List.mem_append.mp x1 with w | w
    · exact ⟨x, List.mem_append_left _ w, x2⟩
    · rcases List.mem_cons.mp w with w | w
      · rw [w] at x2; exact absurd x2 hq.2
      · exact ⟨x, List.mem_append_right _ w, x2⟩
theorem Fw_wo {C : Nat → Prop} {D : Nat × Nat → Prop} {k s : Nat} (h : Fw C D (k + 1)) (hs : C s) {j : Nat} (hj : j < k) : ¬ Cv C (Wo D s) j := fun w => h.2 (j + 1) (by omega) (Cv_s hs w)
/-- some sort takes one off -/
theorem Fw_nx {C : Nat → Prop} {D : Nat × Nat → Prop} {k : Nat} (h : Fw C D (k + 1)) : ∃ s, C s ∧ Fw C (Wo D s) k := by
  have hD : ∃ p, D p := by
    refine Classical.byContradiction fun w => ?_
    exact h.2 0 (by omega) (Cv_0.mpr fun p hp => w ⟨p, hp⟩)
  obtain ⟨p, hp⟩ := hD
  obtain ⟨s, s1, -, s2⟩ := Cv_at h.1 hp
  exact ⟨s, s1, s2, fun j hj => Fw_wo h s1 hj⟩
def Nx (C : Nat → Prop) (D : Nat × Nat → Prop) (k s : Nat) : Prop := C s ∧ Fw C (Wo D s) k ∧ ∀ t, t < s → C t → ¬ Fw C (Wo D t) k
theorem Nx_eq {C : Nat → Prop} {D : Nat × Nat → Prop} {k s t : Nat} (h : Nx C D k s) (g : Nx C D k t) : s = t := by
  rcases Nat.lt_trichotomy s t with q | q | q
  · exact absurd h.2.1 (g.2.2 s q h.1)
  · exact q
  · exact absurd g.2.1 (h.2.2 t q g.1)
/-- what was passed over stays passed over -/
theorem Nx_inv {C : Nat → Prop} {D : Nat × Nat → Prop} {k s : Nat} (hf : Fw C D (k + 1 + 1)) (h : Nx C D (k + 1) s) {t : Nat} (ht : t ≤ s) (hC : C t) : ¬ Fw C (Wo (Wo D s) t) k := by
  intro w
  by_cases q : t = s
  · subst q
    have := (Fw_c (fun p => show Wo (Wo D t) t p ↔ Wo D t p from ⟨fun z => z.1, fun z => ⟨z, z.2⟩⟩)).mp w
    have := Fw_eq this h.2.1
    omega
  · refine h.2.2 t (by omega) hC ⟨Cv_s h.1 ((Cv_c (fun p => ?_)).mpr w.1), fun j hj => Fw_wo hf hC hj⟩
    exact ⟨fun z => ⟨⟨z.1.1, z.2⟩, z.1.2⟩, fun z => ⟨⟨z.1.1, z.2⟩, z.1.2⟩⟩
/-- the least row -/
def Gr (C : Nat → Prop) : Nat → (Nat × Nat → Prop) → List Nat → Prop
  | 0, _, R => R = []
  | _ + 1, _, [] => False
  | k + 1, D, s :: R => Nx C D k s ∧ Gr C k (Wo D s) R
theorem Gr_len {C : Nat → Prop} : ∀ k D R, Gr C k D R → R.length = k := by
  intro k
  induction k with
  | zero => intro D R h; rw [show R = [] from h]; rfl
  | succ k ih =>
    intro D R h
    cases R with
    | nil => exact absurd h (by exact id)
    | cons s R => rw [List.length_cons, ih _ R h.2]
theorem Gr_eq {C : Nat → Prop} : ∀ k D R R2, Gr C k D R → Gr C k D R2 → R = R2 := by
  intro k
  induction k with
  | zero => intro D R R2 h h2; rw [show R = [] from h, show R2 = [] from h2]
  | succ k ih =>
    intro D R R2 h h2
    cases R with
    | nil => exact absurd h (by exact id)
    | cons s R =>
      cases R2 with
      | nil => exact absurd h2 (by exact id)
      | cons t R2 =>
        have e := Nx_eq h.1 h2.1
        subst e
        rw [ih _ R R2 h.2 h2.2]
theorem Wo_c {D D2 : Nat × Nat → Prop} (g : ∀ p, D p ↔ D2 p) (s : Nat) (p : Nat × Nat) : Wo D s p ↔ Wo D2 s p := ⟨fun z => ⟨(g p).mp z.1, z.2⟩, fun z => ⟨(g p).mpr z.1, z.2⟩⟩
theorem Nx_c {C : Nat → Prop} {D D2 : Nat × Nat → Prop} (g : ∀ p, D p ↔ D2 p) {k s : Nat} (h : Nx C D k s) : Nx C D2 k s := ⟨h.1, (Fw_c (Wo_c g s)).mp h.2.1, fun t ht hC w => h.2.2 t ht hC ((Fw_c (Wo_c g t)).mpr w)⟩
theorem Gr_c {C : Nat → Prop} : ∀ k D D2 R, (∀ p, D p ↔ D2 p) → Gr C k D R → Gr C k D2 R := by
  intro k
  induction k with
  | zero => intro D D2 R _ h; exact h
  | succ k ih =>
    intro D D2 R g h
    cases R with
    | nil => exact h
    | cons s R => exact ⟨Nx_c g h.1, ih _ _ R (Wo_c g s) h.2⟩
-- sets of demands by bits
def Dm (N : List (Nat × Nat)) (b : Nat) (p : Nat × Nat) : Prop := ∃ i, b.testBit i = true ∧ N[i]? = some p
def sd (a b : Nat) : Nat := a ^^^ (a &&& b)
theorem sd_bit (a b i : Nat) : (sd a b).testBit i = (a.testBit i && !b.testBit i) := by
  unfold sd
  rw [Nat.testBit_xor, Nat.testBit_and]
  cases a.testBit i <;> cases b.testBit i <;> rfl
theorem sd_lt {a b n : Nat} (h : a < 2 ^ n) : sd a b < 2 ^ n := Nat.xor_lt_two_pow h (Nat.lt_of_le_of_lt Nat.and_le_left h)
theorem sd_I {a b : Nat} (ha : a < 2 ^ 31) (hb' : b < 2 ^ 31) : nI a &&& (nI b ^^^ -1) = nI (sd a b) := hb_ext fun k hk => by
  rw [hb_and, hb_xor, hbn (by omega), hbn (by omega), hbn (Nat.lt_trans (sd_lt ha) (by decide)), sd_bit, hb_all hk]
  cases a.testBit k <;> cases b.testBit k <;> rfl
theorem and_I {a b : Nat} (ha : a < 2 ^ 31) (hb' : b < 2 ^ 31) : nI a &&& nI b = nI (a &&& b) := hb_ext fun k hk => by
  rw [hb_and, hbn (by omega), hbn (by omega), hbn (Nat.lt_of_le_of_lt Nat.and_le_left (by omega)), Nat.testBit_and]
/-- the bits that a sort meets -/
def MB' (N : List (Nat × Nat)) (s m : Nat) : Prop := ∀ i, m.testBit i = true ↔ ∃ p, N[i]? = some p ∧ Mt s p
theorem Dm_wo {N : List (Nat × Nat)} {s m b : Nat} (h : MB' N s m) (p : Nat × Nat) : Dm N (sd b m) p ↔ Wo (Dm N b) s p := by
  constructor
  · rintro ⟨i, h1, h2⟩
    rw [sd_bit, Bool.and_eq_true, Bool.not_eq_true'] at h1
    exact ⟨⟨i, h1.1, h2⟩, fun w => by rw [(h i).mpr ⟨p, h2, w⟩] at h1; exact absurd h1.2 (by decide)⟩
  · rintro ⟨⟨i, h1, h2⟩, h3⟩
    refine ⟨i, ?_, h2⟩
    rw [sd_bit, h1, Bool.true_and, Bool.not_eq_true']
    cases e : m.testBit i with
    | false => rfl
    | true =>
      obtain ⟨q, q1, q2⟩ := (h i).mp e
      rw [h2] at q1
      rw [← Option.some.inj q1] at q2
      exact absurd q2 h3
theorem bits0 {N : List (Nat × Nat)} {b : Nat} (hb' : ∀ i, b.testBit i = true → i < N.length) : b = 0 ↔ ∀ p, ¬ Dm N b p := by
  constructor
  · rintro rfl p ⟨i, h, -⟩
    rw [Nat.zero_testBit] at h
    exact absurd h (by decide)
  · intro h
    refine Nat.eq_of_testBit_eq fun i => ?_
    rw [Nat.zero_testBit]
    cases e : b.testBit i with
    | false => rfl
    | true =>
      have hi := hb' i e
      exact absurd ⟨i, e, List.getElem?_eq_getElem hi⟩ (h _)
/-- every demand can be met: a row of as many sorts does -/
theorem Cv_all {C : Nat → Prop} {N : List (Nat × Nat)} (h : ∀ p ∈ N, ∃ s, C s ∧ Mt s p) : Cv C (fun p => p ∈ N) N.length := by
  induction N with
  | nil => exact ⟨[], by simp, by simp, fun p hp => absurd hp (by simp)⟩
  | cons a N ih =>
    obtain ⟨R, h1, h2, h3⟩ := ih fun p hp => h p (List.mem_cons_of_mem _ hp)
    obtain ⟨s, s1, s2⟩ := h a (by simp)
    refine ⟨s :: R, by simp; omega, fun r hr => ?_, fun p hp => ?_⟩
    · rcases List.mem_cons.mp hr with e | e
      · rw [e]; exact s1
      · exact h2 r e
    · rcases List.mem_cons.mp hp with e | e
      · rw [e]; exact ⟨s, by simp, s2⟩
      · obtain ⟨r, r1, r2⟩ := h3 p e
        exact ⟨r, List.mem_cons_of_mem _ r1, r2⟩
theorem Dm_in {N : List (Nat × Nat)} {b : Nat} {p : Nat × Nat} (h : Dm N b p) : p ∈ N := by
  obtain ⟨i, -, h⟩ := h
  exact List.mem_of_getElem? h
theorem Fw_bit {C : Nat → Prop} {N : List (Nat × Nat)} (h : ∀ p ∈ N, ∃ s, C s ∧ Mt s p) (b : Nat) : ∃ k, k ≤ N.length ∧ Fw C (Dm N b) k := Fw_ex _ (Cv_mono (Cv_all h) fun _ => Dm_in)
