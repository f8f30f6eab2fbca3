/-! proofs: words of straight and turned edges -/
def wt (w : List Bool) : List Bool := (w.map not).reverse
theorem wt_len (w : List Bool) : (wt w).length = w.length := by unfold wt; simp
theorem wt_app (u v : List Bool) : wt (u ++ v) = wt v ++ wt u := by unfold wt; simp
theorem wt_wt (w : List Bool) : wt (wt w) = w := by
  induction w with
  | nil => rfl
  | cons x w ih =>
    rw [show x :: w = [x] ++ w from rfl, wt_app, wt_app, ih]
    cases x <;> rfl
theorem wt_one (x : Bool) : wt [x] = [!x] := rfl
theorem wt_nil {w : List Bool} (h : w ≠ []) : wt w ≠ [] := fun e => h (List.length_eq_zero_iff.mp (by rw [← wt_len, e]; rfl))
/-- a walk whose edges are straight or turned -/
def Wlk (E : Nat → Nat → Prop) : List Bool → Nat → Nat → Prop
  | [], a, b => a = b
  | x :: w, a, b => ∃ m, m < 24 ∧ (if x = true then E a m else E (m ^^^ 1) (a ^^^ 1)) ∧ Wlk E w m b
theorem x11 : ∀ a, a < 24 → a ^^^ 1 < 24 ∧ a ^^^ 1 ^^^ 1 = a := by decide
theorem Wlk_app {E : Nat → Nat → Prop} : ∀ (u v : List Bool) (a b : Nat), a < 24 → (Wlk E (u ++ v) a b ↔ ∃ m, m < 24 ∧ Wlk E u a m ∧ Wlk E v m b) := by
  intro u
  induction u with
  | nil => exact fun v a b ha => ⟨fun h => ⟨a, ha, rfl, h⟩, fun ⟨m, _, h1, h2⟩ => by rw [show a = m from h1]; exact h2⟩
  | cons x u ih =>
    intro v a b ha
    constructor
    · rintro ⟨m, h1, h2, h3⟩
      obtain ⟨i, i1, i2, i3⟩ := (ih v m b h1).mp h3
      exact ⟨i, i1, ⟨m, h1, h2, i2⟩, i3⟩
    · rintro ⟨i, i1, ⟨m, h1, h2, i2⟩, i3⟩
      exact ⟨m, h1, h2, (ih v m b h1).mpr ⟨i, i1, i2, i3⟩⟩
theorem Wlk_end {E : Nat → Nat → Prop} : ∀ (w : List Bool) (a b : Nat), a < 24 → Wlk E w a b → b < 24 := by
  intro w
  induction w with
  | nil => intro a b ha h; rw [← show a = b from h]; exact ha
  | cons x w ih => rintro a b ha ⟨m, h1, h2, h3⟩; exact ih m b h1 h3
theorem Wlk_t {E : Nat → Nat → Prop} : ∀ (w : List Bool) (a b : Nat), a < 24 → Wlk E w a b → Wlk E (wt w) (b ^^^ 1) (a ^^^ 1) := by
  intro w
  induction w with
  | nil => intro a b ha h; rw [show a = b from h]; rfl
  | cons x w ih =>
    rintro a b ha ⟨m, h1, h2, h3⟩
    have hb' := Wlk_end w m b h1 h3
    rw [show x :: w = [x] ++ w from rfl, wt_app]
    refine (Wlk_app _ _ _ _ (x11 b hb').1).mpr ⟨m ^^^ 1, (x11 m h1).1, ih m b h1 h3, ?_⟩
    rw [wt_one]
    refine ⟨a ^^^ 1, (x11 a ha).1, ?_, rfl⟩
    cases x with
    | true =>
      rw [if_pos rfl] at h2
      rw [if_neg (by decide), (x11 a ha).2, (x11 m h1).2]
      exact h2
    | false =>
      rw [if_neg (by decide)] at h2
      rw [if_pos (by decide)]
      exact h2
-- a shortest way through colours
def Rwk (E : Nat → Nat → Prop) (col : List Bool → Nat) (a n s : Nat) : Prop := ∃ w b, w.length = n ∧ Wlk E w a b ∧ s = 24 * col w + b
theorem Rwk_least {E : Nat → Nat → Prop} {col : List Bool → Nat} {a : Nat} : ∀ n s, Rwk E col a n s → ∃ m, m ≤ n ∧ Rwk E col a m s ∧ ∀ i, i < m → ¬ Rwk E col a i s := by
  intro n
  induction n using Nat.strongRecOn with
  | ind n ih =>
    intro s h
    by_cases q : ∃ m, m < n ∧ Rwk E col a m s
    · obtain ⟨m, h1, h2⟩ := q
      obtain ⟨i, i1, i2⟩ := ih m h1 s h2
      exact ⟨i, by omega, i2⟩
    · exact ⟨n, Nat.le_refl _, h, fun m hm w => q ⟨m, hm, w⟩⟩
theorem Rwk_len {E : Nat → Nat → Prop} {col : List Bool → Nat} {a k : Nat} (ha : a < 24) (hk : ∀ w, col w < k) (hc : ∀ w w2 x, col w = col w2 → col (w ++ [x]) = col (w2 ++ [x])) : ∀ n s, Rwk E col a n s → (∀ i, i < n → ¬ Rwk E col a i s) → ∃ l : List Nat, l.Nodup ∧ l.length = n + 1 ∧ ∀ x ∈ l, x < 24 * k ∧ ∃ m, m ≤ n ∧ Rwk E col a m x ∧ ∀ i, i < m → ¬ Rwk E col a i x := by
  intro n
  induction n with
  | zero =>
    intro s h1 h2
    refine ⟨[s], by simp, rfl, fun x hx => ?_⟩
    rw [List.mem_singleton.mp hx]
    refine ⟨?_, 0, Nat.le_refl _, h1, h2⟩
    obtain ⟨w, b, w1, w2, w3⟩ := h1
    have := Wlk_end w a b ha w2
    have := hk w
    omega
  | succ n ih =>
    rintro s ⟨w, b, w1, w2, w3⟩ h2
    have hw : w ≠ [] := fun e => by rw [e] at w1; exact absurd w1 (by simp)
    have he : w = w.dropLast ++ [w.getLast hw] := (List.dropLast_concat_getLast hw).symm
    generalize hu : w.dropLast = u at he
    generalize hx : w.getLast hw = x at he
    have hb' := Wlk_end w a b ha w2
    have hlen : u.length = n := by rw [he, List.length_append] at w1; simpa using w1
    have w2' := w2
    rw [he] at w2'
    obtain ⟨m, m1, m2, m3⟩ := (Wlk_app u [x] a b ha).mp w2'
    have small : ∀ i, i < n → ¬ Rwk E col a i (24 * col u + m) := by
      rintro i hi ⟨u2, m', z1, z2, z3⟩
      have y1 := Wlk_end u2 a m' ha z2
      have y2 : m' = m := by omega
      have y3 : col u = col u2 := by omega
      rw [y2] at z2
      refine h2 (i + 1) (by omega) ⟨u2 ++ [x], b, by rw [List.length_append, z1]; rfl, (Wlk_app u2 [x] a b ha).mpr ⟨m, m1, z2, m3⟩, ?_⟩
      rw [w3, he, hc u u2 x y3]
    obtain ⟨l, l1, l2, l3⟩ := ih (24 * col u + m) ⟨u, m, hlen, m2, rfl⟩ small
    refine ⟨s :: l, List.nodup_cons.mpr ⟨fun hs => ?_, l1⟩, by rw [List.length_cons, l2], fun y hy => ?_⟩
    · obtain ⟨-, i, i1, i2, -⟩ := l3 s hs
      exact h2 i (by omega) i2
    · rcases List.mem_cons.mp hy with rfl | hy
      · have := hk w
        exact ⟨by omega, n + 1, Nat.le_refl _, ⟨w, b, w1, w2, w3⟩, h2⟩
      · obtain ⟨y1, i, y2, y3⟩ := l3 y hy
        exact ⟨y1, i, by omega, y3⟩
theorem shr {E : Nat → Nat → Prop} {col : List Bool → Nat} {a b k : Nat} (ha : a < 24) (hk : ∀ w, col w < k) (hc : ∀ w w2 x, col w = col w2 → col (w ++ [x]) = col (w2 ++ [x])) {w : List Bool} (h : Wlk E w a b) : ∃ w2, Wlk E w2 a b ∧ col w2 = col w ∧ w2.length < 24 * k := by
  obtain ⟨m, -, m2, m3⟩ := Rwk_least w.length (24 * col w + b) ⟨w, b, rfl, h, rfl⟩
  obtain ⟨l, l1, l2, l3⟩ := Rwk_len ha hk hc m _ m2 m3
  have := dif_len (24 * k) 0 l l1 fun x hx => ⟨Nat.zero_le _, by have := (l3 x hx).1; omega⟩
  obtain ⟨w2, b2, z1, z2, z3⟩ := m2
  have y1 := Wlk_end w2 a b2 ha z2
  have y2 := Wlk_end w a b ha h
  have : b2 = b := by omega
  rw [this] at z2
  exact ⟨w2, z2, by omega, by omega⟩
