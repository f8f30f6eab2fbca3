/-! proofs: the premises of a step -/
def pA (k p m : Nat) : Nat := if gF k % 2 = 1 then 576 * gA k + 24 * m + p else 576 * gA k + 24 * p + m
def pB (k s m : Nat) : Nat := if gF k ≤ 2 then 576 * gB k + 24 * s + m else 576 * gB k + 24 * m + s
theorem pA_lt {k p m : Nat} (hk : k < 19) (hp : p < 24) (hm : m < 24) : pA k p m < 2304 := by
  have := gA_b k hk
  unfold pA
  split <;> omega
theorem pB_lt {k s m : Nat} (hk : k < 19) (hs : s < 24) (hm : m < 24) : pB k s m < 2304 := by
  have := gB_b k hk
  unfold pB
  split <;> omega
theorem pA_mono {k p m m2 : Nat} (h : m < m2) : pA k p m < pA k p m2 := by
  unfold pA
  split <;> omega
theorem parts (c : Nat) : c = 576 * fm c + 24 * sj c + pd c := by unfold fm sj pd; omega
theorem cn_pair {k a d c : Nat} (hk : k < 19) (hc : c < 2304) : cn k a d = some c ↔ fm c = gC k ∧ ∃ m, m < 24 ∧ a = pA k (pd c) m ∧ d = pB k (sj c) m := by
  have hsj := sj_lt c
  have hpd := pd_lt c
  unfold cn
  rw [if_pos hk]
  constructor
  · intro h
    split at h
    · rename_i g
      obtain ⟨g1, g2, g3⟩ := g
      have e := (Option.some.inj h).symm
      obtain ⟨t1, t2, t3⟩ := mk_t (a := gC k) (mn_lt (gF k) d) (mj_lt (gF k) a)
      rw [← e] at t1 t2 t3
      refine ⟨t1, d1 (gF k) a, d1_lt _ _, ?_, ?_⟩
      · have := parts a
        unfold pA
        rw [t3, ← g1]
        unfold d1 mj
        split
        · exact this
        · exact this
      · have := parts d
        unfold pB
        rw [t2, ← g2, g3]
        unfold d2 mn
        split
        · exact this
        · exact this
    · exact absurd h (by simp)
  · rintro ⟨h1, m, hm, rfl, rfl⟩
    have q1 : fm (pA k (pd c) m) = gA k ∧ d1 (gF k) (pA k (pd c) m) = m ∧ mj (gF k) (pA k (pd c) m) = pd c := by
      unfold pA d1 mj
      by_cases w : gF k % 2 = 1
      · rw [if_pos w, if_pos w, if_pos w]
        obtain ⟨t1, t2, t3⟩ := mk_t (a := gA k) hm hpd
        exact ⟨t1, t2, t3⟩
      · rw [if_neg w, if_neg w, if_neg w]
        obtain ⟨t1, t2, t3⟩ := mk_t (a := gA k) hpd hm
        exact ⟨t1, t3, t2⟩
    have q2 : fm (pB k (sj c) m) = gB k ∧ d2 (gF k) (pB k (sj c) m) = m ∧ mn (gF k) (pB k (sj c) m) = sj c := by
      unfold pB d2 mn
      by_cases w : gF k ≤ 2
      · rw [if_pos w, if_pos w, if_pos w]
        obtain ⟨t1, t2, t3⟩ := mk_t (a := gB k) hsj hm
        exact ⟨t1, t3, t2⟩
      · rw [if_neg w, if_neg w, if_neg w]
        obtain ⟨t1, t2, t3⟩ := mk_t (a := gB k) hm hsj
        exact ⟨t1, t2, t3⟩
    rw [if_pos ⟨q1.1, q2.1, by rw [q1.2.1, q2.2.1]⟩, q1.2.2, q2.2.2, ← h1, ← parts c]
theorem m_majorC {F : Nat} (hF : 2 ^ 40 < F) (S : Zs) {k p m : Nat} (hk : k < 19) : n_X12_majorCode F S (nI k) (nI p) (nI m) = some (nI (pA k p m), S) := by
  unfold n_X12_majorCode n_X12_majorCode_e n_X12_majorCode_b33 pA
  rw [m_fig S hk, zcS, m_fo1 hF S hk, zcS, n_mkM, zcS, zcS, n_mkM, zcS]
  rcases gF_b k hk with g | g | g | g <;> rw [g] <;> rfl
theorem m_minorC {F : Nat} (hF : 2 ^ 40 < F) (S : Zs) {k s m : Nat} (hk : k < 19) : n_X12_minorCode F S (nI k) (nI s) (nI m) = some (nI (pB k s m), S) := by
  unfold n_X12_minorCode n_X12_minorCode_e n_X12_minorCode_b31 pB
  rw [m_fig S hk, zcS, m_fo2 hF S hk, zcS, n_mkM, zcS, zcS, n_mkM, zcS]
  rcases gF_b k hk with g | g | g | g <;> rw [g] <;> rfl
theorem x_firstP {F : Nat} (S : Zs) {k p m : Nat} (hk : k < 19) : n_X4_firstPremise F S (nI (gF k)) (nI (gA k)) (nI m) (nI p) = some (nI (pA k p m), S) := by
  unfold n_X4_firstPremise n_X4_firstPremise_e n_X4_firstPremise_b21 pA
  rw [n_mk, zcS, n_mk, zcS]
  rcases gF_b k hk with g | g | g | g <;> rw [g] <;> rfl
theorem x_secondP {F : Nat} (S : Zs) {k s m : Nat} (hk : k < 19) : n_X4_secondPremise F S (nI (gF k)) (nI (gB k)) (nI m) (nI s) = some (nI (pB k s m), S) := by
  unfold n_X4_secondPremise n_X4_secondPremise_e n_X4_secondPremise_b20 pB
  rw [n_mk, zcS, n_mk, zcS]
  rcases gF_b k hk with g | g | g | g <;> rw [g] <;> rfl
/-- the premise of a step from one -/
def sP (k c : Nat) : Option Nat := if k = 19 then (if fm c = 1 ∨ fm c = 2 then some (576 * fm c + 24 * pd c + sj c) else none) else if k = 20 then some (576 * (fm c ^^^ 1) + 24 * sj c + (pd c ^^^ 1)) else if fm c < 2 then none else some (576 * (fm c - 2) + 24 * sj c + pd c)
theorem sP_lt {k c a : Nat} (hc : c < 2304) (h : sP k c = some a) : a < 2304 := by
  have h1 := fm_lt hc
  have h2 := x14 _ h1
  have h3 := sj_lt c
  have h4 := pd_lt c
  have h5 := x1_24 h4
  unfold sP at h
  split at h
  · split at h
    · have e := Option.some.inj h; omega
    · exact absurd h (by simp)
  · split at h
    · have e := Option.some.inj h; omega
    · split at h
      · exact absurd h (by simp)
      · have e := Option.some.inj h; omega
theorem cn_single {k a c : Nat} (hk : 19 ≤ k) (hk2 : k < 22) (ha : a < 2304) (hc : c < 2304) : cn k a 0 = some c ↔ sP k c = some a := by
  have a1 := sj_lt a
  have a2 := pd_lt a
  have a3 := x1_24 a2
  have c1 := sj_lt c
  have c2 := pd_lt c
  have c3 := x1_24 c2
  have pa := parts a
  have pc := parts c
  have fa := fm_lt ha
  have fc := fm_lt hc
  unfold cn sP
  rw [if_neg (show ¬ k < 19 by omega)]
  rcases (show k = 19 ∨ k = 20 ∨ k = 21 by omega) with rfl | rfl | rfl
  · rw [if_pos rfl, if_pos rfl]
    constructor
    · intro h
      split at h
      · rename_i g
        have e := Option.some.inj h
        obtain ⟨t1, t2, t3⟩ := mk_t (a := fm a) a2 a1
        rw [e] at t1 t2 t3
        rw [if_pos (by rw [t1]; exact g), t1, t2, t3, ← pa]
      · exact absurd h (by simp)
    · intro h
      split at h
      · rename_i g
        have e := Option.some.inj h
        obtain ⟨t1, t2, t3⟩ := mk_t (a := fm c) c2 c1
        rw [e] at t1 t2 t3
        rw [if_pos (by rw [t1]; exact g), t1, t2, t3, ← pc]
      · exact absurd h (by simp)
  · rw [if_neg (by decide), if_pos rfl, if_neg (by decide), if_pos rfl]
    constructor
    · intro h
      have e := Option.some.inj h
      obtain ⟨t1, t2, t3⟩ := mk_t (a := fm a ^^^ 1) a1 a3
      rw [e] at t1 t2 t3
      rw [t1, t2, t3, x1_x1, x1_x1, ← pa]
    · intro h
      have e := Option.some.inj h
      obtain ⟨t1, t2, t3⟩ := mk_t (a := fm c ^^^ 1) c1 c3
      rw [e] at t1 t2 t3
      rw [t1, t2, t3, x1_x1, x1_x1, ← pc]
  · rw [if_neg (show ¬ (21 : Nat) = 19 by decide), if_neg (show ¬ (21 : Nat) = 20 by decide), if_neg (show ¬ (21 : Nat) = 19 by decide), if_neg (show ¬ (21 : Nat) = 20 by decide)]
    constructor
    · intro h
      split at h
      · rename_i g
        have e := Option.some.inj h
        obtain ⟨t1, t2, t3⟩ := mk_t (a := fm a + 2) a1 a2
        rw [e] at t1 t2 t3
        rw [if_neg (by omega), t1, t2, t3, Nat.add_sub_cancel, ← pa]
      · exact absurd h (by simp)
    · intro h
      split at h
      · exact absurd h (by simp)
      · rename_i g
        have e := Option.some.inj h
        obtain ⟨t1, t2, t3⟩ := mk_t (a := fm c - 2) c1 c2
        rw [e] at t1 t2 t3
        rw [if_pos (by omega), t1, t2, t3, Nat.sub_add_cancel (by omega), ← pc]
