/-! TOOLS: bits, loops, numbers -/
def hb (x : Int32) (k : Nat) : Bool := x.toBitVec.getLsbD k
theorem hb_ext {x y : Int32} (h : ∀ k, k < 32 → hb x k = hb y k) : x = y := Int32.toBitVec_inj.mp (BitVec.eq_of_getLsbD_eq fun k hk => h k hk)
theorem hb_or (x y : Int32) (k : Nat) : hb (x ||| y) k = (hb x k || hb y k) := by
  unfold hb; rw [Int32.toBitVec_or, BitVec.getLsbD_or]
theorem hb_and (x y : Int32) (k : Nat) : hb (x &&& y) k = (hb x k && hb y k) := by
  unfold hb; rw [Int32.toBitVec_and, BitVec.getLsbD_and]
theorem hb_not (x : Int32) {k : Nat} (hk : k < 32) : hb (x ^^^ (-1)) k = !hb x k := by
  unfold hb
  rw [Int32.toBitVec_xor, BitVec.getLsbD_xor, show (-1 : Int32).toBitVec = BitVec.allOnes 32 by decide, BitVec.getLsbD_allOnes, decide_eq_true hk, Bool.xor_true]
theorem hb_0 (k : Nat) : hb 0 k = false := by
  unfold hb; rw [show (0 : Int32).toBitVec = 0#32 from rfl, BitVec.getLsbD_zero]
theorem s_l : ∀ n, n < 32 → ((nI n &&& 31).toBitVec.smod 32).toNat = n := by decide +kernel
theorem sh_tp : ∀ l, l < 32 → ((1 : Int32) <<< (nI l &&& 31)).toBitVec = BitVec.twoPow 32 l := by decide +kernel
theorem hb_one {j : Nat} (hj : j < 32) (k : Nat) : hb ((1 : Int32) <<< (nI j &&& 31)) k = decide (k = j) := by
  unfold hb
  rw [sh_tp j hj, BitVec.getLsbD_twoPow, decide_eq_true hj, Bool.true_and]
  by_cases h : k = j
  · rw [decide_eq_true h, decide_eq_true h.symm]
  · rw [decide_eq_false h, decide_eq_false (fun g => h g.symm)]
theorem hb_ge (x : Int32) {k : Nat} (hk : 32 ≤ k) : hb x k = false := BitVec.getLsbD_of_ge _ _ hk
theorem hb_tb (x : Int32) (k : Nat) : hb x k = x.toBitVec.toNat.testBit k := rfl
theorem sh_and1 (x : Int32) {k : Nat} (hk : k < 32) : (x >>> (nI k &&& 31) &&& 1) = nI (hb x k).toNat := by
  have h1 : (x >>> (nI k &&& 31)).toBitVec = x.toBitVec.sshiftRight k := by
    rw [Int32.toBitVec_shiftRight]
    show x.toBitVec.sshiftRight ((nI k &&& 31).toBitVec.smod 32).toNat = _
    rw [s_l k hk]
  refine hb_ext fun j hj => ?_
  rw [hb_and]
  have h2 : hb (1 : Int32) j = decide (j = 0) := by
    have := hb_one (j := 0) (by omega) j
    exact this
  rw [h2]
  have h3 : ∀ b : Bool, hb (nI b.toNat) j = (b && decide (j = 0)) := by
    intro b
    cases b
    · exact (hb_0 j).trans (by simp)
    · exact h2.trans (by simp)
  rw [h3]
  by_cases h0 : j = 0
  · subst h0
    have : hb (x >>> (nI k &&& 31)) 0 = hb x k := by
      unfold hb
      rw [h1, BitVec.getLsbD_sshiftRight]
      simp [hk]
    rw [this]
  · simp [h0]
theorem hb_sh1 (x : Int32) {k : Nat} (hk : k < 32) : (x >>> (nI k &&& 31) &&& 1 = 1) ↔ hb x k = true := by
  rw [sh_and1 x hk]
  cases hb x k
  · exact ⟨fun g => absurd g (by decide), fun g => absurd g (by decide)⟩
  · exact ⟨fun _ => rfl, fun _ => rfl⟩
theorem hb_sh0 (x : Int32) {k : Nat} (hk : k < 32) : (x >>> (nI k &&& 31) &&& 1 = 0) ↔ hb x k = false := by
  rw [sh_and1 x hk]
  cases hb x k
  · exact ⟨fun _ => rfl, fun _ => rfl⟩
  · exact ⟨fun g => absurd g (by decide), fun g => absurd g (by decide)⟩
theorem e_has (F : Nat) (S : Zs) (x : Int32) {k : Nat} (hk : k < 32) : n_X12_has F S x (nI k) = some (bI (hb x k = true), S) := by
  rw [e_X12_has]; exact congrArg (fun q => some (q, S)) (bI_cong (hb_sh1 x hk))
theorem bnd_hb {x : Int32} {n : Nat} (h : bnd x n) {k : Nat} (hk : n ≤ k) : hb x k = false := by
  rw [hb_tb]
  exact Nat.testBit_lt_two_pow (Nat.lt_of_lt_of_le h (Nat.pow_le_pow_right (by omega) hk))
theorem bnd_of_hb {x : Int32} {n : Nat} (h : ∀ k, n ≤ k → hb x k = false) : bnd x n :=
  Nat.lt_pow_two_of_testBit _ fun k hk => h k hk
theorem bnd_nI {x : Int32} {n : Nat} (h : bnd x n) (hn : n ≤ 31) : ∃ j, j < 2 ^ n ∧ x = nI j := by
  refine ⟨x.toBitVec.toNat, h, Int32.toBitVec_inj.mp ?_⟩
  exact BitVec.eq_of_toNat_eq (by rw [pk_tn x.toBitVec.isLt])
/-- 2^n - 1 as the masks of the two are written -/
theorem mask_nI : ∀ n, n < 31 → ((1 : Int32) <<< (nI n &&& 31)) - 1 = nI (2 ^ n - 1) := by decide +kernel
theorem hb_mask {n : Nat} (hn : n < 31) (k : Nat) : hb (((1 : Int32) <<< (nI n &&& 31)) - 1) k = decide (k < n) := by
  have h : 2 ^ n < 2 ^ 31 := Nat.pow_lt_pow_right (by omega) hn
  rw [mask_nI n hn, hb_tb, pk_tn (by omega), Nat.testBit_two_pow_sub_one]
-- loops
/-- a loop that leaves by a continuation: from I it steps to I with a falling measure, or leaves by k at some c with Q c -/
theorem zfix_to {α β γ : Type} {f : (α → Option β) → α → Option β} (I : α → Prop) (m : α → Nat) (Q : γ → Prop) (k : γ → Option β) (hs : ∀ a, I a → (∃ c, Q c ∧ ∀ rc, f rc a = k c) ∨ ∃ b, I b ∧ m b < m a ∧ ∀ rc, f rc a = rc b) : ∀ F a, I a → m a < F → ∃ c, Q c ∧ zfix f F a = k c := by
  intro F
  induction F with
  | zero => intro a _ h; omega
  | succ F ih =>
    intro a ha hF
    rcases hs a ha with ⟨q, hp, h⟩ | ⟨b, hb, hm, h⟩
    · exact ⟨q, hp, by rw [zfix_s]; exact h _⟩
    · obtain ⟨q, hp, h2⟩ := ih b hb (by omega)
      exact ⟨q, hp, by rw [zfix_s, h]; exact h2⟩
/-- the same with a counter: I i a, i steps up to N, at N it leaves -/
theorem zfix_for {α β γ : Type} {f : (α → Option β) → α → Option β} (N : Nat) (I : Nat → α → Prop) (Q : γ → Prop) (k : γ → Option β) (hs : ∀ i a, i < N → I i a → (∃ c, Q c ∧ ∀ rc, f rc a = k c) ∨ ∃ b, I (i + 1) b ∧ ∀ rc, f rc a = rc b) (he : ∀ a, I N a → ∃ c, Q c ∧ ∀ rc, f rc a = k c) : ∀ F a, I 0 a → N < F → ∃ c, Q c ∧ zfix f F a = k c := by
  have key : ∀ F i a, i ≤ N → I i a → N - i < F → ∃ c, Q c ∧ zfix f F a = k c := by
    intro F
    induction F with
    | zero => intro i a _ _ h; omega
    | succ F ih =>
      intro i a hi ha hF
      rcases Nat.lt_or_ge i N with h | h
      · rcases hs i a h ha with ⟨q, hp, h2⟩ | ⟨b, hb, h2⟩
        · exact ⟨q, hp, by rw [zfix_s]; exact h2 _⟩
        · obtain ⟨q, hp, h3⟩ := ih (i + 1) b h hb (by omega)
          exact ⟨q, hp, by rw [zfix_s, h2]; exact h3⟩
      · have : i = N := by omega
        subst this
        obtain ⟨q, hp, h2⟩ := he a ha
        exact ⟨q, hp, by rw [zfix_s]; exact h2 _⟩
  intro F a ha hF
  exact key F 0 a (Nat.zero_le _) ha (by omega)
-- numbers
theorem nI_le_iff {a b : Nat} (ha : a < 2 ^ 31) (hb : b < 2 ^ 31) : nI a ≤ nI b ↔ a ≤ b := by
  rw [Int32.le_iff_toInt_le, nI_toInt ha, nI_toInt hb]; omega
theorem nI_lt_iff {a b : Nat} (ha : a < 2 ^ 31) (hb : b < 2 ^ 31) : nI a < nI b ↔ a < b := by
  rw [Int32.lt_iff_toInt_lt, nI_toInt ha, nI_toInt hb]; omega
theorem zp_get (S : Zs) (r i q j : Nat) (v : Int32) : (zp S r i v).1 q j = if q = r ∧ j = i then v else S.1 q j := by
  by_cases h : q = r ∧ j = i
  · obtain ⟨rfl, rfl⟩ := h
    rw [if_pos ⟨rfl, rfl⟩, zp_at]
  · rw [if_neg h, zp_off S v (by
      by_cases h2 : q = r
      · exact Or.inr fun g => h ⟨h2, g⟩
      · exact Or.inl h2)]
/-- what the relation reads of the reference -/
def mFields : List Nat := [1, 3, 6, 7, 8, 9, 11, 13, 35]
def mRows : List Nat := [1, 2, 3, 4, 5, 16, 17, 18, 19, 20, 21, 22]
def mSame (M M2 : Zs) : Prop := (∀ k ∈ mFields, M2.1 0 k = M.1 0 k) ∧ ∀ r ∈ mRows, M2.1 r = M.1 r
theorem mSame_rf (M : Zs) : mSame M M := ⟨fun _ _ => rfl, fun _ _ => rfl⟩
theorem mSame_t {A B C : Zs} (h : mSame A B) (g : mSame B C) : mSame A C := ⟨fun k hk => (g.1 k hk).trans (h.1 k hk), fun r hr => (g.2 r hr).trans (h.2 r hr)⟩
theorem mSame_p {M : Zs} {k : Nat} {v : Int32} (h : k ∉ mFields) : mSame M (zp M 0 k v) := by
  refine ⟨fun j hj => zp_off M v (Or.inr fun e => h (e ▸ hj)), fun r hr => zp_row M k v (fun e => ?_)⟩
  subst e
  exact absurd hr (by decide)
theorem mSame_r {M : Zs} {r i : Nat} {v : Int32} (h : r ∉ mRows) (h0 : r ≠ 0) : mSame M (zp M r i v) :=
  ⟨fun j _ => zp_off M v (Or.inl (Ne.symm h0)), fun q hq => zp_row M i v (fun e => h (e ▸ hq))⟩
theorem Rel.m {K : Zs → Prop} {X M M2 : Zs} (h : Rel K X M) (e : mSame M M2) : Rel K X M2 := by
  have f := fun k (hk : k ∈ mFields) => (e.1 k hk).symm
  have g := fun r (hr : r ∈ mRows) => (e.2 r hr).symm
  unfold Rel RText RSay RLife RMood RWant RRow RPlea RKept at *
  rw [f 1 (by decide), f 3 (by decide), f 6 (by decide), f 7 (by decide), f 8 (by decide), f 9 (by decide), f 11 (by decide), f 13 (by decide), f 35 (by decide), g 1 (by decide), g 2 (by decide), g 3 (by decide), g 4 (by decide), g 5 (by decide), g 16 (by decide), g 17 (by decide), g 18 (by decide), g 19 (by decide), g 20 (by decide), g 21 (by decide), g 22 (by decide)] at h
  exact h
/-- what the relation reads of the class, the caches aside -/
def xFields : List Nat := [10, 21, 62, 63, 64, 65, 66, 68, 826]
def xRows : List Nat := [2, 4, 5, 6, 7, 8, 9, 10, 11, 12, 42, 43, 44, 45, 46, 47]
def xSame (X X2 : Zs) : Prop := (∀ k ∈ xFields, X2.1 0 k = X.1 0 k) ∧ ∀ r ∈ xRows, X2.1 r = X.1 r
theorem xSame_rf (M : Zs) : xSame M M := ⟨fun _ _ => rfl, fun _ _ => rfl⟩
theorem xSame_t {A B C : Zs} (h : xSame A B) (g : xSame B C) : xSame A C := ⟨fun k hk => (g.1 k hk).trans (h.1 k hk), fun r hr => (g.2 r hr).trans (h.2 r hr)⟩
theorem xSame_p {M : Zs} {k : Nat} {v : Int32} (h : k ∉ xFields) : xSame M (zp M 0 k v) := by
  refine ⟨fun j hj => zp_off M v (Or.inr fun e => h (e ▸ hj)), fun r hr => zp_row M k v (fun e => ?_)⟩
  subst e
  exact absurd hr (by decide)
theorem xSame_r {M : Zs} {r i : Nat} {v : Int32} (h : r ∉ xRows) (h0 : r ≠ 0) : xSame M (zp M r i v) :=
  ⟨fun j _ => zp_off M v (Or.inl (Ne.symm h0)), fun q hq => zp_row M i v (fun e => h (e ▸ hq))⟩
theorem Rel.x {K : Zs → Prop} {X X2 M : Zs} (h : Rel K X M) (e : xSame X X2) (k2 : K X2) : Rel K X2 M := by
  have f := fun k (hk : k ∈ xFields) => (e.1 k hk).symm
  have g := fun r (hr : r ∈ xRows) => (e.2 r hr).symm
  obtain ⟨h1, h2, h3, h4, h5, h6, h7, h8, -⟩ := h
  unfold Rel RText RSay RLife RMood RWant RRow RPlea RKept at *
  rw [f 10 (by decide)] at h6
  rw [f 21 (by decide), g 2 (by decide)] at h1
  rw [f 62 (by decide), f 63 (by decide), f 64 (by decide), g 4 (by decide), g 5 (by decide)] at h2
  rw [f 65 (by decide)] at h3
  rw [f 66 (by decide)] at h4
  rw [f 68 (by decide), g 6 (by decide)] at h5
  rw [g 47 (by decide)] at h6
  rw [f 62 (by decide), f 826 (by decide), g 42 (by decide), g 43 (by decide), g 44 (by decide), g 45 (by decide), g 46 (by decide)] at h7
  rw [f 62 (by decide), g 7 (by decide), g 8 (by decide), g 9 (by decide), g 10 (by decide), g 11 (by decide), g 12 (by decide)] at h8
  exact ⟨h1, h2, h3, h4, h5, h6, h7, h8, k2⟩
