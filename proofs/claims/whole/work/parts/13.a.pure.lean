/-! THE PURE LAYER, basics: states, loops, leaf methods -/
def bI (c : Prop) [Decidable c] : Int32 := if c then 1 else 0
theorem bI_t {c : Prop} [Decidable c] (h : c) : bI c = 1 := if_pos h
theorem bI_f {c : Prop} [Decidable c] (h : ¬ c) : bI c = 0 := if_neg h
theorem bI_eq0 {c : Prop} [Decidable c] : bI c = 0 ↔ ¬ c := by
  by_cases h : c
  · rw [bI_t h]; exact ⟨fun g => absurd g (by decide), fun g => absurd h g⟩
  · rw [bI_f h]; exact ⟨fun _ => h, fun _ => rfl⟩
theorem bI_eq1 {c : Prop} [Decidable c] : bI c = 1 ↔ c := by
  by_cases h : c
  · rw [bI_t h]; exact ⟨fun _ => h, fun _ => rfl⟩
  · rw [bI_f h]; exact ⟨fun g => absurd g (by decide), fun g => absurd g h⟩
theorem bI_cong {c d : Prop} [Decidable c] [Decidable d] (h : c ↔ d) : bI c = bI d := by
  by_cases g : c
  · rw [bI_t g, bI_t (h.mp g)]
  · rw [bI_f g, bI_f (fun k => g (h.mpr k))]
theorem zrb_1 (S : Zs) : zrb 1 S = some (1, S) := rfl
theorem zrb_0 (S : Zs) : zrb 0 S = some (0, S) := rfl
theorem zrb_b {c : Prop} [Decidable c] (S : Zs) : zrb (bI c) S = some (bI c, S) := by
  by_cases h : c
  · rw [bI_t h]; rfl
  · rw [bI_f h]; rfl
-- states
theorem zp_at (S : Zs) (r i : Nat) (v : Int32) : (zp S r i v).1 r i = v := by simp [zp, upd]
theorem zp_row (S : Zs) {r q : Nat} (i : Nat) (v : Int32) (h : q ≠ r) : (zp S r i v).1 q = S.1 q := by simp [zp, h]
theorem zp_off (S : Zs) {r i q j : Nat} (v : Int32) (h : q ≠ r ∨ j ≠ i) : (zp S r i v).1 q j = S.1 q j := by
  by_cases hq : q = r
  · subst hq
    rcases h with h | h
    · exact absurd rfl h
    · simp [zp, upd, h]
  · simp [zp, hq]
theorem zp_2 (S : Zs) (r i : Nat) (v : Int32) : (zp S r i v).2 = S.2 := rfl
theorem zin_nI {k n : Nat} (hk : k < 2 ^ 31) : zin (nI k) n = decide (k < n) := by
  unfold zin
  rw [nI_clamp hk, decide_eq_false (nI_pos hk)]
  rfl
theorem zin_lt {k n : Nat} (h : k < n) (hn : n < 2 ^ 31) : zin (nI k) n = true := by rw [zin_nI (by omega)]; exact decide_eq_true h
theorem zld_nI {β : Type} (S : Zs) (r : Nat) {n k : Nat} (f : Int32 → Option β) (h : k < n) (hn : n < 2 ^ 31) : zld S r n (nI k) f = f (S.1 r k) := by
  unfold zld
  rw [zin_lt h hn, if_pos rfl, nI_clamp (by omega)]
theorem zst_nI {β : Type} (S : Zs) (r : Nat) {n k : Nat} (v : Int32) (f : Zs → Option β) (h : k < n) (hn : n < 2 ^ 31) : zst S r n (nI k) v f = f (zp S r k v) := by
  unfold zst
  rw [zin_lt h hn, if_pos rfl, nI_clamp (by omega)]
theorem zlt_nI {α β : Type} (t : Nat → α) {n k : Nat} (f : α → Option β) (h : k < n) (hn : n < 2 ^ 31) : zlt t n (nI k) f = f (t k) := by
  unfold zlt
  rw [zin_lt h hn, if_pos rfl, nI_clamp (by omega)]
theorem zldL_nI {β : Type} (S : Zs) {n k : Nat} (f : Int64 → Option β) (h : k < n) (hn : n < 2 ^ 31) : zldL S n (nI k) f = f (S.2 k) := by
  unfold zldL
  rw [zin_lt h hn, if_pos rfl, nI_clamp (by omega)]
theorem zstL_nI {β : Type} (S : Zs) {n k : Nat} (v : Int64) (f : Zs → Option β) (h : k < n) (hn : n < 2 ^ 31) : zstL S n (nI k) v f = f (zpL S k v) := by
  unfold zstL
  rw [zin_lt h hn, if_pos rfl, nI_clamp (by omega)]
theorem zcl_some {α β : Type} (a : α) (S : Zs) (f : α → Zs → Option β) : zcl (some (a, S)) f = f a S := rfl
-- loops
theorem zfix_s {α β : Type} (f : (α → Option β) → α → Option β) (n : Nat) (a : α) : zfix f (n + 1) a = f (zfix f n) a := rfl
/-- a loop whose states are known one by one: g 0, g 1, .. g N, and at g N it ends -/
theorem zfix_run {α β : Type} {f : (α → Option β) → α → Option β} (g : Nat → α) (N : Nat) {q : Option β} (hs : ∀ k, k < N → ∀ rc, f rc (g k) = rc (g (k + 1))) (he : ∀ rc, f rc (g N) = q) : ∀ F, N < F → zfix f F (g 0) = q := by
  have key : ∀ j F, j ≤ N → N - j < F → zfix f F (g j) = q := by
    intro j F
    induction F generalizing j with
    | zero => intro _ h; omega
    | succ F ih =>
      intro hj hF
      rw [zfix_s]
      rcases Nat.lt_or_ge j N with h | h
      · rw [hs j h]; exact ih (j + 1) h (by omega)
      · rw [show j = N by omega]; exact he _
  intro F hF
  exact key 0 F (Nat.zero_le N) (by omega)
/-- a loop with an invariant and a measure that falls: it ends, with an end that keeps the post-condition -/
theorem zfix_inv {α β : Type} {f : (α → Option β) → α → Option β} (I : α → Prop) (m : α → Nat) (post : β → Prop) (hs : ∀ a, I a → (∃ q, post q ∧ ∀ rc, f rc a = some q) ∨ ∃ b, I b ∧ m b < m a ∧ ∀ rc, f rc a = rc b) : ∀ F a, I a → m a < F → ∃ q, post q ∧ zfix f F a = some q := by
  intro F
  induction F with
  | zero => intro a _ h; omega
  | succ F ih =>
    intro a ha hF
    rcases hs a ha with ⟨q, hp, h⟩ | ⟨b, hb, hm, h⟩
    · exact ⟨q, hp, by rw [zfix_s]; exact h _⟩
    · obtain ⟨q, hp, h2⟩ := ih b hb (by omega)
      exact ⟨q, hp, by rw [zfix_s, h]; exact h2⟩
-- numbers
theorem i64_le (x y : Int32) : x.toInt64 ≤ y.toInt64 ↔ x ≤ y := by rw [Int64.le_iff_toInt_le, Int32.le_iff_toInt_le, Int32.toInt_toInt64, Int32.toInt_toInt64]
theorem i64_lt (x y : Int32) : x.toInt64 < y.toInt64 ↔ x < y := by rw [Int64.lt_iff_toInt_lt, Int32.lt_iff_toInt_lt, Int32.toInt_toInt64, Int32.toInt_toInt64]
theorem lgc_lt (x y : Int64) : lg_cmp x y < 0 ↔ x < y := by
  rw [← Int64.not_le, ← lg_cmp_ge, Int32.not_le]
theorem lgc_gt (x y : Int64) : 0 < lg_cmp x y ↔ y < x := by
  unfold lg_cmp
  by_cases h : x > y
  · rw [if_pos h]; exact ⟨fun _ => h, fun _ => by decide⟩
  · rw [if_neg h]
    refine ⟨fun g => ?_, fun g => absurd g h⟩
    by_cases h2 : x = y
    · rw [if_pos h2] at g; exact absurd g (by decide)
    · rw [if_neg h2] at g; exact absurd g (by decide)
-- leaf methods of the class
theorem e_X0_make (F : Nat) (S : Zs) (a b c : Int32) : n_X0_make F S a b c = some (576 * a + 24 * b + c, S) := rfl
theorem e_X0_form (F : Nat) (S : Zs) (c : Int32) : n_X0_form F S c = some (c / 576, S) := rfl
theorem e_X0_subject (F : Nat) (S : Zs) (c : Int32) : n_X0_subject F S c = some (c / 24 - c / 24 / 24 * 24, S) := rfl
theorem e_X0_predicate (F : Nat) (S : Zs) (c : Int32) : n_X0_predicate F S c = some (c - c / 24 * 24, S) := rfl
theorem e_X0_contrary (F : Nat) (S : Zs) (c : Int32) : n_X0_contrary F S c = some (576 * (3 - c / 576) + 24 * (c / 24 - c / 24 / 24 * 24) + (c - c / 24 * 24), S) := rfl
theorem e_X0_target (F : Nat) (S : Zs) (c : Int32) : n_X0_target F S c = some ((c - c / 24 * 24) ^^^ (c / 576 &&& 1), S) := rfl
theorem e_X0_isCode (F : Nat) (S : Zs) (c : Int32) : n_X0_isCode F S c = some (bI (¬ c < 0 ∧ ¬ 2304 ≤ c), S) := by
  unfold n_X0_isCode n_X0_isCode_e n_X0_isCode_b15 n_X0_isCode_b16
  by_cases h1 : c < 0
  · rw [if_pos h1, bI_f (fun h => h.1 h1)]; rfl
  · by_cases h2 : 2304 ≤ c
    · rw [if_neg h1, if_pos h2, bI_f (fun h => h.2 h2)]; rfl
    · rw [if_neg h1, if_neg h2, bI_t ⟨h1, h2⟩]; rfl
theorem e_X0_isTerm (F : Nat) (S : Zs) (c : Int32) : n_X0_isTerm F S c = some (bI (¬ c < 0 ∧ ¬ 24 ≤ c), S) := by
  unfold n_X0_isTerm n_X0_isTerm_e n_X0_isTerm_b14 n_X0_isTerm_b15
  by_cases h1 : c < 0
  · rw [if_pos h1, bI_f (fun h => h.1 h1)]; rfl
  · by_cases h2 : 24 ≤ c
    · rw [if_neg h1, if_pos h2, bI_f (fun h => h.2 h2)]; rfl
    · rw [if_neg h1, if_neg h2, bI_t ⟨h1, h2⟩]; rfl
theorem e_X0_isForm (F : Nat) (S : Zs) (c : Int32) : n_X0_isForm F S c = some (bI (¬ c < 0 ∧ ¬ 3 < c), S) := by
  unfold n_X0_isForm n_X0_isForm_e n_X0_isForm_b13 n_X0_isForm_b14
  by_cases h1 : c < 0
  · rw [if_pos h1, bI_f (fun h => h.1 h1)]; rfl
  · by_cases h2 : 3 < c
    · rw [if_neg h1, if_pos h2, bI_f (fun h => h.2 h2)]; rfl
    · rw [if_neg h1, if_neg h2, bI_t ⟨h1, h2⟩]; rfl
theorem e_X0_isUniversal (F : Nat) (S : Zs) (c : Int32) : n_X0_isUniversal F S c = some (bI (¬ 1152 ≤ c), S) := by
  unfold n_X0_isUniversal n_X0_isUniversal_e n_X0_isUniversal_b12
  by_cases h1 : 1152 ≤ c
  · rw [if_pos h1, bI_f (fun h => h h1)]; rfl
  · rw [if_neg h1, bI_t h1]; rfl
def wB (x i v : Int32) : Int32 := if v = 0 then x &&& ((1 <<< (i &&& 31)) ^^^ (-1)) else x ||| (1 <<< (i &&& 31))
theorem e_X0_withBit (F : Nat) (S : Zs) (x i v : Int32) : n_X0_withBit F S x i v = some (wB x i v, S) := by
  unfold n_X0_withBit n_X0_withBit_e n_X0_withBit_b19 wB
  by_cases h : v = 0
  · rw [if_pos h, if_pos h]
  · rw [if_neg h, if_neg h]
-- leaf methods of the reference
theorem e_X12_in (F : Nat) (S : Zs) (x a b : Int32) : n_X12_in F S x.toInt64 a.toInt64 b.toInt64 = some (bI (¬ x < a ∧ ¬ b < x), S) := by
  unfold n_X12_in n_X12_in_e n_X12_in_b17 n_X12_in_b18
  by_cases h1 : x < a
  · rw [if_pos ((lgc_lt _ _).mpr ((i64_lt _ _).mpr h1)), bI_f (fun h => h.1 h1)]; rfl
  · by_cases h2 : b < x
    · rw [if_neg (fun h => h1 ((i64_lt _ _).mp ((lgc_lt _ _).mp h))), if_pos ((lgc_gt _ _).mpr ((i64_lt _ _).mpr h2)), bI_f (fun h => h.2 h2)]; rfl
    · rw [if_neg (fun h => h1 ((i64_lt _ _).mp ((lgc_lt _ _).mp h))), if_neg (fun h => h2 ((i64_lt _ _).mp ((lgc_gt _ _).mp h))), bI_t ⟨h1, h2⟩]; rfl
theorem e_X12_has (F : Nat) (S : Zs) (x k : Int32) : n_X12_has F S x k = some (bI (x >>> (k &&& 31) &&& 1 = 1), S) := by
  unfold n_X12_has n_X12_has_e n_X12_has_b14
  by_cases h : x >>> (k &&& 31) &&& 1 = 1
  · rw [if_pos h, bI_t h]; rfl
  · rw [if_neg h, bI_f h]; rfl
theorem e_X12_flag (F : Nat) (S : Zs) (x : Int32) : n_X12_flag F S x = some (bI (¬ x = 0), S) := by
  unfold n_X12_flag n_X12_flag_e n_X12_flag_b9
  by_cases h : x = 0
  · rw [if_pos h, bI_f (fun g => g h)]
  · rw [if_neg h, bI_t h]
theorem e_X12_formOf (F : Nat) (S : Zs) (c : Int32) : n_X12_formOf F S c = some (c / 576, S) := rfl
theorem e_X12_firstOf (F : Nat) (S : Zs) (c : Int32) : n_X12_firstOf F S c = some (c / 24 - c / 24 / 24 * 24, S) := rfl
theorem e_X12_secondOf (F : Nat) (S : Zs) (c : Int32) : n_X12_secondOf F S c = some (c - c / 24 * 24, S) := rfl
theorem e_X12_codeOf (F : Nat) (S : Zs) (a b c : Int32) : n_X12_codeOf F S a b c = some (576 * a + 24 * b + c, S) := rfl
theorem e_X12_contraryOf (F : Nat) (S : Zs) (c : Int32) : n_X12_contraryOf F S c = some (576 * (3 - c / 576) + 24 * (c / 24 - c / 24 / 24 * 24) + (c - c / 24 * 24), S) := rfl
theorem e_X12_isCode (F : Nat) (S : Zs) (c : Int32) : n_X12_isCode F S c = some (bI (¬ c < 0 ∧ ¬ 2303 < c), S) := by
  show zcl (n_X12_in F S c.toInt64 (0 : Int32).toInt64 (2303 : Int32).toInt64) (fun v2 S1 => zrb v2 S1) = _
  rw [e_X12_in, zcl_some, zrb_b]
theorem e_X12_isTerm (F : Nat) (S : Zs) (c : Int32) : n_X12_isTerm F S c = some (bI (¬ c < 0 ∧ ¬ 23 < c), S) := by
  show zcl (n_X12_in F S c.toInt64 (0 : Int32).toInt64 (23 : Int32).toInt64) (fun v2 S1 => zrb v2 S1) = _
  rw [e_X12_in, zcl_some, zrb_b]
theorem e_X12_with (F : Nat) (S : Zs) (x i v : Int32) : n_X12_with F S x i v = some (wB x i v, S) := by
  unfold n_X12_with n_X12_with_e n_X12_with_b19 wB
  by_cases h : v = 0
  · rw [if_pos h, if_pos h]
  · rw [if_neg h, if_neg h]
theorem e_X12_isOfAll (F : Nat) (S : Zs) (c : Int32) : n_X12_isOfAll F S c = some (bI (¬ 2 ≤ c / 576), S) := by
  show (if (2 : Int32) ≤ c / 576 then n_X12_isOfAll_b13 F S 0 else n_X12_isOfAll_b13 F S 1) = _
  by_cases h : 2 ≤ c / 576
  · rw [if_pos h, bI_f (fun g => g h)]; rfl
  · rw [if_neg h, bI_t h]; rfl
theorem e_X12_isTorn (F : Nat) (S : Zs) (x : Int32) : n_X12_isTorn F S x = some (bI (¬ (x &&& x >>> ((1 : Int32) &&& 31)) &&& 5592405 = 0), S) := by
  unfold n_X12_isTorn n_X12_isTorn_e n_X12_isTorn_b16
  by_cases h : (x &&& x >>> ((1 : Int32) &&& 31)) &&& 5592405 = 0
  · rw [if_pos h, bI_f (fun g => g h)]; rfl
  · rw [if_neg h, bI_t h]; rfl
