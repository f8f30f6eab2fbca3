/-! proofs: what a proof costs -/
/-- a step by a mood: from one premise (or two) to what is proved -/
def Ru (al lv : Int32) (k a : Nat) (og : Option Nat) (c : Nat) : Prop := hb al k = true ∧ alB k a lv = true ∧ match og with
  | none => 19 ≤ k ∧ k < 22 ∧ cn k a 0 = some c
  | some d => k < 19 ∧ cn k a d = some c
def R1 (al lv : Int32) (a c : Nat) : Prop := a < 2304 ∧ ∃ k, Ru al lv k a none c
def R2 (al lv : Int32) (a d c : Nat) : Prop := a < 2304 ∧ d < 2304 ∧ ∃ k, Ru al lv k a (some d) c
/-- there is a proof that takes just n steps -/
def Cost (al lv : Int32) (T : Nat → Prop) (c n : Nat) : Prop := ∀ K : Nat → Nat → Prop, (∀ c, T c → K c 0) → (∀ a c n, R1 al lv a c → K a n → K c (n + 1)) → (∀ a d c s t, R2 al lv a d c → K a s → K d t → K c (s + t + 1)) → K c n
theorem Cost_t {al lv : Int32} {T : Nat → Prop} {c : Nat} (h : T c) : Cost al lv T c 0 := fun K k0 _ _ => k0 c h
theorem Cost_1 {al lv : Int32} {T : Nat → Prop} {a c n : Nat} (h : R1 al lv a c) (g : Cost al lv T a n) : Cost al lv T c (n + 1) := fun K k0 k1 k2 => k1 a c n h (g K k0 k1 k2)
theorem Cost_2 {al lv : Int32} {T : Nat → Prop} {a d c s t : Nat} (h : R2 al lv a d c) (g : Cost al lv T a s) (g2 : Cost al lv T d t) : Cost al lv T c (s + t + 1) := fun K k0 k1 k2 => k2 a d c s t h (g K k0 k1 k2) (g2 K k0 k1 k2)
theorem Cost_inv {al lv : Int32} {T : Nat → Prop} {c n : Nat} (h : Cost al lv T c n) : (n = 0 ∧ T c) ∨ (∃ a m, R1 al lv a c ∧ Cost al lv T a m ∧ n = m + 1) ∨ ∃ a d s t, R2 al lv a d c ∧ Cost al lv T a s ∧ Cost al lv T d t ∧ n = s + t + 1 := by
  have key := h (fun c n => Cost al lv T c n ∧ ((n = 0 ∧ T c) ∨ (∃ a m, R1 al lv a c ∧ Cost al lv T a m ∧ n = m + 1) ∨ ∃ a d s t, R2 al lv a d c ∧ Cost al lv T a s ∧ Cost al lv T d t ∧ n = s + t + 1)) (fun c hc => ⟨Cost_t hc, Or.inl ⟨rfl, hc⟩⟩) (fun a c n hr hk => ⟨Cost_1 hr hk.1, Or.inr (Or.inl ⟨a, n, hr, hk.1, rfl⟩)⟩) (fun a d c s t hr hk hk2 => ⟨Cost_2 hr hk.1 hk2.1, Or.inr (Or.inr ⟨a, d, s, t, hr, hk.1, hk2.1, rfl⟩)⟩)
  exact key.2
/-- the shortest proof -/
def Ls (al lv : Int32) (T : Nat → Prop) (c n : Nat) : Prop := Cost al lv T c n ∧ ∀ m, m < n → ¬ Cost al lv T c m
theorem Ls_eq {al lv : Int32} {T : Nat → Prop} {c m n : Nat} (h : Ls al lv T c m) (g : Ls al lv T c n) : m = n := by
  rcases Nat.lt_trichotomy m n with q | q | q
  · exact absurd h.1 (g.2 m q)
  · exact q
  · exact absurd g.1 (h.2 n q)
theorem Ls_le {al lv : Int32} {T : Nat → Prop} {c m n : Nat} (h : Ls al lv T c m) (g : Cost al lv T c n) : m ≤ n := by
  by_cases q : n < m
  · exact absurd g (h.2 n q)
  · omega
theorem Ls_ex {al lv : Int32} {T : Nat → Prop} {c : Nat} : ∀ n, Cost al lv T c n → ∃ m, m ≤ n ∧ Ls al lv T c m := by
  intro n
  induction n using Nat.strongRecOn with
  | ind n ih =>
    intro h
    by_cases q : ∃ m, m < n ∧ Cost al lv T c m
    · obtain ⟨m, h1, h2⟩ := q
      obtain ⟨i, i1, i2⟩ := ih m h1 h2
      exact ⟨i, by omega, i2⟩
    · exact ⟨n, Nat.le_refl _, h, fun m hm w => q ⟨m, hm, w⟩⟩
theorem Ls_0 {al lv : Int32} {T : Nat → Prop} {c : Nat} : Ls al lv T c 0 ↔ T c := by
  constructor
  · intro h
    rcases Cost_inv h.1 with ⟨-, g⟩ | ⟨a, m, -, -, g⟩ | ⟨a, d, s, t, -, -, -, g⟩
    · exact g
    · omega
    · omega
  · intro h
    exact ⟨Cost_t h, fun m hm => absurd hm (by omega)⟩
/-- the parts of a shortest proof are shortest -/
theorem Ls_inv {al lv : Int32} {T : Nat → Prop} {c n : Nat} (h : Ls al lv T c (n + 1)) : (∃ a, R1 al lv a c ∧ Ls al lv T a n) ∨ ∃ a d s t, R2 al lv a d c ∧ Ls al lv T a s ∧ Ls al lv T d t ∧ n = s + t := by
  rcases Cost_inv h.1 with ⟨g, -⟩ | ⟨a, m, g1, g2, g3⟩ | ⟨a, d, s, t, g1, g2, g3, g4⟩
  · omega
  · rw [show m = n by omega] at g2
    exact Or.inl ⟨a, g1, g2, fun m hm w => h.2 (m + 1) (by omega) (Cost_1 g1 w)⟩
  · refine Or.inr ⟨a, d, s, t, g1, ⟨g2, fun m hm w => h.2 (m + t + 1) (by omega) (Cost_2 g1 w g3)⟩, ⟨g3, fun m hm w => h.2 (s + m + 1) (by omega) (Cost_2 g1 g2 w)⟩, by omega⟩
/-- what is sound and closed below a bound is shortest below it -/
theorem Ls_of {al lv : Int32} {T : Nat → Prop} {B : Nat} {st : Nat → Nat} (hs : ∀ c, c < 2304 → st c < B → Cost al lv T c (st c)) (hT : ∀ c, T c → c < 2304 ∧ st c = 0) (hl : ∀ k a c og, Ru al lv k a og c → a < 2304 → c < 2304) (h1 : ∀ a c, R1 al lv a c → st a + 1 < B → st c ≤ st a + 1) (h2 : ∀ a d c, R2 al lv a d c → st a + st d + 1 < B → st c ≤ st a + st d + 1) : (∀ c n, Cost al lv T c n → n < B → st c ≤ n) ∧ ∀ c, c < 2304 → st c < B → Ls al lv T c (st c) := by
  have key : ∀ c n, Cost al lv T c n → n < B → st c ≤ n := by
    intro c n h
    exact h (fun c n => n < B → st c ≤ n) (fun c hc _ => by rw [(hT c hc).2]; exact Nat.le_refl 0) (fun a c n hr hk hn => by
      have := hk (by omega)
      have := h1 a c hr (by omega)
      omega) (fun a d c s t hr hk hk2 hn => by
      have := hk (by omega)
      have := hk2 (by omega)
      have := h2 a d c hr (by omega)
      omega)
  exact ⟨key, fun c hc hB => ⟨hs c hc hB, fun m hm w => by have := key c m w (by omega); omega⟩⟩
theorem Ru_lt {al lv : Int32} {k a c : Nat} {og : Option Nat} (h : Ru al lv k a og c) (ha : a < 2304) : c < 2304 := by
  obtain ⟨-, -, h⟩ := h
  cases og with
  | none => exact cn_lt ha h.2.2
  | some d => exact cn_lt ha h.2
theorem Cost_lt {al lv : Int32} {T : Nat → Prop} (hT : ∀ c, T c → c < 2304) {c n : Nat} (h : Cost al lv T c n) : c < 2304 := by
  rcases Cost_inv h with ⟨-, g⟩ | ⟨a, m, ⟨g1, k, g2⟩, -, -⟩ | ⟨a, d, s, t, ⟨g1, -, k, g2⟩, -, -, -⟩
  · exact hT c g
  · exact Ru_lt g2 g1
  · exact Ru_lt g2 g1
