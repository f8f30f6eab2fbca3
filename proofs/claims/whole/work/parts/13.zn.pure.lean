/-! told -/
theorem zpc (S : Zs) {r i q j : Nat} (v w : Int32) (h : r ≠ q) : zp (zp S r i v) q j w = zp (zp S q j w) r i v := by
  refine Prod.ext (funext fun a => funext fun b => ?_) rfl
  rw [zp_get, zp_get, zp_get, zp_get]
  by_cases h1 : a = q ∧ b = j
  · rw [if_pos h1, if_neg (fun k => h (k.1.symm.trans h1.1)), if_pos h1]
  · rw [if_neg h1, if_neg h1]
theorem cX_z (X : Zs) (a : Nat) {r : Nat} (i : Nat) (v : Int32) (h : r ≠ 0) : zp (cX X a) r i v = cX (zp X r i v) a := zpc _ _ _ (Ne.symm h)
theorem cM_z (M : Zs) (a : Nat) {r : Nat} (i : Nat) (v : Int32) (h : r ≠ 0) : zp (cM M a) r i v = cM (zp M r i v) a := zpc _ _ _ (Ne.symm h)
theorem zpf_c (S : Zs) {k j : Nat} (v w : Int32) (h : k ≠ j) : zp (zp S 0 k v) 0 j w = zp (zp S 0 j w) 0 k v := by
  refine Prod.ext (funext fun a => funext fun b => ?_) rfl
  rw [zp_get, zp_get, zp_get, zp_get]
  by_cases h1 : a = 0 ∧ b = j
  · rw [if_pos h1, if_neg (fun w => h (w.2.symm.trans h1.2)), if_pos h1]
  · rw [if_neg h1, if_neg h1]
theorem XB_fr {R K : List Nat} {X X2 : Zs} {sg : Nat → Nat} {L : Nat} (h : XB X sg L) (f : fr R K X X2) (h1 : 21 ∉ K) (h2 : 2 ∉ R) : XB X2 sg L := ⟨(f.1 21 h1).trans h.1, h.2.1, fun i hi => by rw [f.2.1 2 (by decide) h2]; exact h.2.2 i hi⟩
theorem MB_fr {R K : List Nat} {M M2 : Zs} {sg : Nat → Nat} {L : Nat} (h : MB M sg L) (f : fr R K M M2) (h1 : 15 ∉ K) (h2 : 5 ∉ R) : MB M2 sg L := ⟨(f.1 15 h1).trans h.1, h.2.1, fun i hi => by rw [f.2.1 5 (by decide) h2]; exact h.2.2 i hi⟩
/-- a line that tells: CODE, WITNESS, DOUBTED -/
def lnV (sg : Nat → Nat) (T a : Nat) : Option (Nat × Nat × Bool) × Nat := match cdV sg T a with
  | (none, p) => (none, p)
  | (some c, p) => if tkB sg T p 64 = true then (if wiB sg T (p + 1) 48 55 = true then (some (c, sg (p + 1) - 48, tkB sg T (p + 1 + 1) 63), p + 1 + 1 + (tkB sg T (p + 1 + 1) 63).toNat) else (none, p + 1)) else (none, p)
theorem lnV_le {sg : Nat → Nat} {T a : Nat} (h : a ≤ T) : (lnV sg T a).2 ≤ T ∧ ∀ l, (lnV sg T a).1 = some l → l.1 < 2304 ∧ l.2.1 < 8 := by
  have h1 := cdV_le (sg := sg) h
  unfold lnV
  generalize cdV sg T a = r at *
  obtain ⟨c, p⟩ := r
  cases c with
  | none => exact ⟨h1.1, fun l hl => absurd hl (by simp)⟩
  | some c =>
    obtain ⟨c1, c2⟩ := h1.2.2 c rfl
    dsimp only
    split
    · rename_i g
      have g1 := (tkB_t g).1
      split
      · rename_i g2
        obtain ⟨w1, w2, w3⟩ := wiB_t g2
        refine ⟨tk_le w1, fun l hl => ?_⟩
        have := Option.some.inj hl
        rw [← this]
        exact ⟨c1, by show sg (p + 1) - 48 < 8; omega⟩
      · exact ⟨g1, fun l hl => absurd hl (by simp)⟩
    · exact ⟨h1.1, fun l hl => absurd hl (by simp)⟩
/-- what the lines tell, whether all could be read, where one is then -/
def pl (sg : Nat → Nat) (T : Nat) : Nat → Nat → Bool → Nat → List (Nat × Nat × Bool) × Bool × Nat
  | 0, _, b, a => ([], !b, a)
  | k + 1, e, b, a => if b = true then (if e < 16 then (match lnV sg T a with
      | (none, p) => ([], false, p)
      | (some l, p) => (l :: (pl sg T k (e + 1) (tkB sg T p 59) (p + (tkB sg T p 59).toNat)).1, (pl sg T k (e + 1) (tkB sg T p 59) (p + (tkB sg T p 59).toNat)).2)) else ([], false, a)) else ([], true, a)
theorem pl_f (sg : Nat → Nat) (T k e a : Nat) : pl sg T (k + 1) e false a = ([], true, a) := by
  unfold pl; rw [if_neg (by decide)]
theorem pl_16 (sg : Nat → Nat) (T k a : Nat) {e : Nat} (h : ¬ e < 16) : pl sg T (k + 1) e true a = ([], false, a) := by
  unfold pl; rw [if_pos rfl, if_neg h]
theorem pl_n {sg : Nat → Nat} {T k e a p : Nat} (h : e < 16) (g : lnV sg T a = (none, p)) : pl sg T (k + 1) e true a = ([], false, p) := by
  unfold pl; rw [if_pos rfl, if_pos h, g]
theorem pl_l {sg : Nat → Nat} {T k e a p : Nat} {l : Nat × Nat × Bool} (h : e < 16) (g : lnV sg T a = (some l, p)) : pl sg T (k + 1) e true a = (l :: (pl sg T k (e + 1) (tkB sg T p 59) (p + (tkB sg T p 59).toNat)).1, (pl sg T k (e + 1) (tkB sg T p 59) (p + (tkB sg T p 59).toNat)).2) := by
  conv => lhs; unfold pl
  rw [if_pos rfl, if_pos h, g]
def Lns (S : Zs) (r4 r5 n : Nat) (L : List (Nat × Nat × Bool)) : Prop := ∀ j l, L[j]? = some l → S.1 r4 (n + j) = nI l.1 ∧ S.1 r5 (n + j) = nI l.2.1 ∧ l.1 < 2304 ∧ l.2.1 < 8
def Low (S S0 : Zs) (r4 r5 n : Nat) : Prop := ∀ i, i < n → S.1 r4 i = S0.1 r4 i ∧ S.1 r5 i = S0.1 r5 i
def DB (v : Int32) (n : Nat) (L : List (Nat × Nat × Bool)) : Prop := ∀ i, hb v i = true ↔ ∃ j c w, i = n + j ∧ L[j]? = some (c, w, true)
theorem DB_eq {v w : Int32} {n : Nat} {L : List (Nat × Nat × Bool)} (h : DB v n L) (g : DB w n L) : v = w := hb_ext fun i _ => Bool.eq_iff_iff.mpr ((h i).trans (g i).symm)
theorem DB_0 (n : Nat) : DB 0 n [] := fun i => by rw [hb_0]; exact ⟨fun g => absurd g (by decide), fun ⟨j, c, w, _, h⟩ => absurd h (by simp)⟩
theorem DB_bnd {v : Int32} {n : Nat} {L : List (Nat × Nat × Bool)} (h : DB v n L) : bnd v (n + L.length) := bnd_of_hb fun k hk => by
  rw [← Bool.not_eq_true, h k]
  rintro ⟨j, c, w, e, g⟩
  obtain ⟨hj, -⟩ := List.getElem?_eq_some_iff.mp g
  omega
theorem DB_t {v : Int32} {n : Nat} {L : List (Nat × Nat × Bool)} (h : DB v n L) (hn : n + L.length < 32) (c w : Nat) : DB (v ||| ((1 : Int32) <<< (nI (n + L.length) &&& 31))) n (L ++ [(c, w, true)]) := by
  intro i
  rw [hbo, hb1 hn, h i]
  constructor
  · rintro (⟨j, c', w', e, g⟩ | e)
    · refine ⟨j, c', w', e, ?_⟩
      obtain ⟨hj, -⟩ := List.getElem?_eq_some_iff.mp g
      rw [List.getElem?_append_left hj]; exact g
    · exact ⟨L.length, c, w, e, by rw [get_app, if_neg (by omega), if_pos rfl]⟩
  · rintro ⟨j, c', w', e, g⟩
    rw [get_app] at g
    by_cases q : j < L.length
    · rw [if_pos q] at g; exact Or.inl ⟨j, c', w', e, g⟩
    · rw [if_neg q] at g
      by_cases q2 : j = L.length
      · exact Or.inr (by omega)
      · rw [if_neg q2] at g; exact absurd g (by simp)
theorem DB_f {v : Int32} {n : Nat} {L : List (Nat × Nat × Bool)} (h : DB v n L) (c w : Nat) : DB v n (L ++ [(c, w, false)]) := by
  intro i
  rw [h i]
  constructor
  · rintro ⟨j, c', w', e, g⟩
    obtain ⟨hj, -⟩ := List.getElem?_eq_some_iff.mp g
    exact ⟨j, c', w', e, by rw [List.getElem?_append_left hj]; exact g⟩
  · rintro ⟨j, c', w', e, g⟩
    rw [get_app] at g
    by_cases q : j < L.length
    · rw [if_pos q] at g; exact ⟨j, c', w', e, g⟩
    · rw [if_neg q] at g
      by_cases q2 : j = L.length
      · rw [if_pos q2] at g
        have := Option.some.inj g
        simp at this
      · rw [if_neg q2] at g; exact absurd g (by simp)
theorem Lns_snoc {S : Zs} {r4 r5 n : Nat} {L : List (Nat × Nat × Bool)} (h : Lns S r4 r5 n L) {l : Nat × Nat × Bool} (h1 : l.1 < 2304) (h2 : l.2.1 < 8) (h0 : r4 ≠ r5) : Lns (zp (zp S r4 (n + L.length) (nI l.1)) r5 (n + L.length) (nI l.2.1)) r4 r5 n (L ++ [l]) := by
  intro j k hk
  rw [get_app] at hk
  by_cases g : j < L.length
  · rw [if_pos g] at hk
    rw [zp_off _ _ (Or.inr (by omega)), zp_off _ _ (Or.inr (by omega)), zp_off _ _ (Or.inr (by omega)), zp_off _ _ (Or.inr (by omega))]
    exact h j k hk
  · rw [if_neg g] at hk
    by_cases g2 : j = L.length
    · rw [if_pos g2] at hk
      have := Option.some.inj hk
      rw [g2, zp_at, zp_off _ _ (Or.inl h0), zp_at, this]
      exact ⟨rfl, rfl, by rw [← this]; exact h1, by rw [← this]; exact h2⟩
    · rw [if_neg g2] at hk; exact absurd hk (by simp)
theorem Low_z {S S0 : Zs} {r4 r5 n e : Nat} (h : Low S S0 r4 r5 n) (he : n ≤ e) (r : Nat) (v : Int32) : Low (zp S r e v) S0 r4 r5 n := fun i hi => by
  rw [zp_off _ _ (Or.inr (by omega)), zp_off _ _ (Or.inr (by omega))]; exact h i hi
theorem x_told {F : Nat} (hF : 2 ^ 40 < F) {X : Zs} {sg : Nat → Nat} {n L : Nat} (hn : n ≤ 16) (hB : XB X sg L) (b0 : Bool) : ∃ q : Zs × Int32, (fr [4, 5] [22] X q.1 ∧ Low q.1 X 4 5 n ∧ q.1.1 0 22 = nI (pl sg (min L 76) 17 n b0 0).2.2 ∧ (pl sg (min L 76) 17 n b0 0).2.2 ≤ min L 76 ∧ ((pl sg (min L 76) 17 n b0 0).2.1 = true → Lns q.1 4 5 n (pl sg (min L 76) 17 n b0 0).1 ∧ DB q.2 n (pl sg (min L 76) 17 n b0 0).1 ∧ n + (pl sg (min L 76) 17 n b0 0).1.length ≤ 16)) ∧ n_X2_hear_3_1_b28 F (cX X 0) (nI n) 0 (bI (b0 = true)) 0 = if (pl sg (min L 76) 17 n b0 0).2.1 = true then n_X2_hear_3_1_b143 F q.1 (nI (n + (pl sg (min L 76) 17 n b0 0).1.length)) q.2 else some (-1 - nI (pl sg (min L 76) 17 n b0 0).2.2, q.1) := by
  generalize hT : min L 76 = T at *
  exact zfix_for (f := fun (rc : (Zs × Int32 × Int32 × Int32 × Int32) → Option (Int32 × Zs)) (u : (Zs × Int32 × Int32 × Int32 × Int32)) => n_X2_hear_3_1_b28_l F  (fun S x2 x3 x4 x5 => rc (S, x2, x3, x4, x5)) u.1 u.2.1 u.2.2.1 u.2.2.2.1 u.2.2.2.2) 17 (fun m s => ∃ X' d a b Lp, s = (cX X' a, nI (n + m), d, bI (b = true), nI m) ∧ fr [4, 5] [] X X' ∧ Low X' X 4 5 n ∧ Lns X' 4 5 n Lp ∧ DB d n Lp ∧ Lp.length = m ∧ n + m ≤ 16 ∧ a ≤ T ∧ pl sg T 17 n b0 0 = (Lp ++ (pl sg T (17 - m) (n + m) b a).1, (pl sg T (17 - m) (n + m) b a).2)) (fun q : Zs × Int32 => fr [4, 5] [22] X q.1 ∧ Low q.1 X 4 5 n ∧ q.1.1 0 22 = nI (pl sg T 17 n b0 0).2.2 ∧ (pl sg T 17 n b0 0).2.2 ≤ T ∧ ((pl sg T 17 n b0 0).2.1 = true → Lns q.1 4 5 n (pl sg T 17 n b0 0).1 ∧ DB q.2 n (pl sg T 17 n b0 0).1 ∧ n + (pl sg T 17 n b0 0).1.length ≤ 16)) (fun q => if (pl sg T 17 n b0 0).2.1 = true then n_X2_hear_3_1_b143 F q.1 (nI (n + (pl sg T 17 n b0 0).1.length)) q.2 else some (-1 - nI (pl sg T 17 n b0 0).2.2, q.1)) (by
    rintro m _ hm ⟨X', d, a, b, Lp, rfl, hf, hlo, hln, hdb, hlen, hnm, ha, hpl⟩
    have hB' := XB_fr hB hf (by decide) (by decide)
    have fcx : ∀ p, fr [4, 5] [22] X (cX X' p) := fun p => fr_t (fr_w hf (by decide) (by decide)) (fr_p _ (by decide))
    have loc : ∀ p, Low (cX X' p) X 4 5 n := fun p i hi => by rw [cX_r X' p (by decide), cX_r X' p (by decide)]; exact hlo i hi
    obtain ⟨k, hk⟩ : ∃ k, 17 - m = k + 1 := ⟨16 - m, by omega⟩
    rw [hk] at hpl
    -- a stop at p
    have stop : ∀ p, p ≤ T → pl sg T (k + 1) (n + m) b a = ([], false, p) → (∀ rc : (Zs × Int32 × Int32 × Int32 × Int32) → Option (Int32 × Zs), n_X2_hear_3_1_b28_l F (fun S x2 x3 x4 x5 => rc (S, x2, x3, x4, x5)) (cX X' a) (nI (n + m)) d (bI (b = true)) (nI m) = some (-1 - nI p, cX X' p)) → ∃ c : Zs × Int32, (fr [4, 5] [22] X c.1 ∧ Low c.1 X 4 5 n ∧ c.1.1 0 22 = nI (pl sg T 17 n b0 0).2.2 ∧ (pl sg T 17 n b0 0).2.2 ≤ T ∧ ((pl sg T 17 n b0 0).2.1 = true → Lns c.1 4 5 n (pl sg T 17 n b0 0).1 ∧ DB c.2 n (pl sg T 17 n b0 0).1 ∧ n + (pl sg T 17 n b0 0).1.length ≤ 16)) ∧ ∀ rc : (Zs × Int32 × Int32 × Int32 × Int32) → Option (Int32 × Zs), n_X2_hear_3_1_b28_l F (fun S x2 x3 x4 x5 => rc (S, x2, x3, x4, x5)) (cX X' a) (nI (n + m)) d (bI (b = true)) (nI m) = if (pl sg T 17 n b0 0).2.1 = true then n_X2_hear_3_1_b143 F c.1 (nI (n + (pl sg T 17 n b0 0).1.length)) c.2 else some (-1 - nI (pl sg T 17 n b0 0).2.2, c.1) := by
      intro p hp h1 h2
      rw [h1] at hpl
      rw [hpl]
      exact ⟨(cX X' p, 0), ⟨fcx p, loc p, cX_at X' p, hp, fun g => absurd g (by simp)⟩, fun rc => (h2 rc).trans (by simp)⟩
    cases b with
    | false =>
      rw [pl_f] at hpl
      rw [hpl]
      refine Or.inl ⟨(cX X' a, d), ⟨fcx a, loc a, cX_at X' a, ha, fun _ => ⟨?_, ?_, ?_⟩⟩, fun rc => ?_⟩
      · rw [List.append_nil]
        intro j l hl
        rw [cX_r X' a (by decide), cX_r X' a (by decide)]; exact hln j l hl
      · rw [List.append_nil]; exact hdb
      · rw [List.append_nil, hlen]; exact hnm
      · show n_X2_hear_3_1_b28_l F (fun S x2 x3 x4 x5 => rc (S, x2, x3, x4, x5)) (cX X' a) (nI (n + m)) d (bI (false = true)) (nI m) = _
        unfold n_X2_hear_3_1_b28_l
        rw [if_pos (show bI (false = true) = 0 by decide), if_pos (show (Lp ++ [], true, a).2.1 = true from rfl), List.append_nil, hlen]
    | true =>
      have w0 : ∀ S : Zs, ∀ p, S.1 0 22 = nI p → n_X8_wrong_1 F S = some (-1 - nI p, S) := by
        intro S p h
        unfold n_X8_wrong_1 n_X8_wrong_1_e
        rw [zgS, h]
      have e0 : ∀ rc : (Zs × Int32 × Int32 × Int32 × Int32) → Option (Int32 × Zs), n_X2_hear_3_1_b28_l F (fun S x2 x3 x4 x5 => rc (S, x2, x3, x4, x5)) (cX X' a) (nI (n + m)) d (bI (true = true)) (nI m) = if n + m < 16 then (zcl (n_X8_takeCode_1 F (cX X' a)) (fun v2 S1 => if v2 = (-1 : Int32) then (n_X2_hear_3_1_b72 F S1) else (zcl (n_X8_take_1 F S1 (64 : Int32)) (fun v4 S3 => if v4 = 0 then (n_X2_hear_3_1_b72 F S3) else (zcl (n_X8_takeWithin_1 F S3 (48 : Int32) (55 : Int32)) (fun v6 S5 => if v6 = (-1 : Int32) then (zcl (n_X8_wrong_1 F S5) (fun v18 S17 => some (v18, S17))) else (zst S5 4 16 (nI (n + m)) v2 (fun S7 => zst S7 5 16 (nI (n + m)) v6 (fun S8 => zcl (n_X8_take_1 F S8 (63 : Int32)) (fun v10 S9 => zcl (n_X0_withBit F S9 d (nI (n + m)) v10) (fun v12 S11 => zcl (n_X8_take_1 F S11 (59 : Int32)) (fun v15 S14 => rc (S14, nI (n + m + 1), v12, v15, nI (m + 1)))))))))))))) else some (-1 - nI a, cX X' a) := by
        intro rc
        unfold n_X2_hear_3_1_b28_l
        rw [if_neg (show ¬ bI (true = true) = 0 by decide), if_neg (show ¬ (16 : Int32) < nI m from fun w => by rw [c16, nI_lt_iff (by omega) (by omega)] at w; omega)]
        simp only [zlS, nI_1]
        by_cases g : n + m < 16
        · rw [if_pos g, if_pos (show nI (n + m) < (16 : Int32) from nI_lt (b := 16) g (by omega))]
        · rw [if_neg g, if_neg (show ¬ nI (n + m) < (16 : Int32) from fun w => by rw [c16, nI_lt_iff (by omega) (by omega)] at w; omega), w0 _ a (cX_at X' a), zcS]
      by_cases g16 : n + m < 16
      · have e1 := fun rc => (e0 rc).trans (if_pos g16)
        have hcd := cdV_le (sg := sg) ha
        have hln' := lnV_le (sg := sg) ha
        have kc := x_takeCode (F := F) hB' (show a ≤ min L 76 by rw [hT]; exact ha)
        rw [hT] at kc
        cases el : lnV sg T a with
        | mk o p =>
          rw [el] at hln'
          have hel := el
          unfold lnV at hel
          generalize cdV sg T a = r at *
          obtain ⟨c, p0⟩ := r
          cases c with
          | none =>
            have hel : (none, p0) = (o, p) := hel
            obtain ⟨rfl, rfl⟩ := Prod.mk.inj hel
            refine Or.inl (stop p0 hcd.1 (pl_n g16 el) fun rc => ?_)
            rw [e1, kc, zcS]
            show (if (-1 : Int32) = -1 then _ else _) = _
            unfold n_X2_hear_3_1_b72
            rw [if_pos rfl, w0 _ p0 (cX_at X' p0), zcS]
          | some c =>
            obtain ⟨c1, c2⟩ := hcd.2.2 c rfl
            have hp0 : p0 ≤ T := hcd.1
            have k64 : n_X8_take_1 F (cX X' p0) 64 = _ := x_take (F := F) (c := 64) hB' (show p0 ≤ min L 76 by rw [hT]; exact hp0) (by omega)
            rw [hT] at k64
            dsimp only at hel
            have e2 : ∀ rc : (Zs × Int32 × Int32 × Int32 × Int32) → Option (Int32 × Zs), n_X2_hear_3_1_b28_l F (fun S x2 x3 x4 x5 => rc (S, x2, x3, x4, x5)) (cX X' a) (nI (n + m)) d (bI (true = true)) (nI m) = _ := fun rc => (e1 rc).trans (by rw [kc, zcS, show oN (some c, p0).1 = nI c from rfl, if_neg (nI_ne_m1 (by omega)), show cX X' (some c, p0).2 = cX X' p0 from rfl, k64, zcS])
            cases e64 : tkB sg T p0 64 with
            | false =>
              rw [e64, if_neg (by decide)] at hel
              obtain ⟨rfl, rfl⟩ := Prod.mk.inj hel
              refine Or.inl (stop p0 hp0 (pl_n g16 el) fun rc => ?_)
              rw [e2, e64, if_pos (show bI (false = true) = 0 by decide)]
              unfold n_X2_hear_3_1_b72
              rw [show p0 + (false).toNat = p0 from rfl, w0 _ p0 (cX_at X' _), zcS]
            | true =>
              rw [e64, if_pos rfl] at hel
              have hp1 : p0 + 1 ≤ T := (tkB_t e64).1
              have kw : n_X8_takeWithin_1 F (cX X' (p0 + 1)) 48 55 = _ := x_within (F := F) (lo := 48) (hi := 55) hB' (show p0 + 1 ≤ min L 76 by rw [hT]; exact hp1) (by omega) (by omega)
              rw [hT] at kw
              cases ew : wiB sg T (p0 + 1) 48 55 with
              | false =>
                rw [ew, if_neg (by decide)] at hel
                obtain ⟨rfl, rfl⟩ := Prod.mk.inj hel
                refine Or.inl (stop (p0 + 1) hp1 (pl_n g16 el) fun rc => ?_)
                rw [e2, e64, if_neg (show ¬ bI (true = true) = 0 by decide), show p0 + (true).toNat = p0 + 1 from rfl, kw, zcS, ew, if_neg (show ¬ false = true by decide), if_pos rfl, show p0 + 1 + (false).toNat = p0 + 1 from rfl, w0 _ (p0 + 1) (cX_at X' _), zcS]
              | true =>
                rw [ew, if_pos rfl] at hel
                obtain ⟨rfl, rfl⟩ := Prod.mk.inj hel
                obtain ⟨w1, w2, w3⟩ := wiB_t ew
                have hwl : (c, sg (p0 + 1) - 48, tkB sg T (p0 + 1 + 1) 63).1 < 2304 ∧ (c, sg (p0 + 1) - 48, tkB sg T (p0 + 1 + 1) 63).2.1 < 8 := hln'.2 _ rfl
                have hbY : fr [4, 5] [] X' (zp (zp X' 4 (n + m) (nI c)) 5 (n + m) (nI (sg (p0 + 1) - 48))) := fr_t (fr_r _ _ (by decide) (by decide)) (fr_r _ _ (by decide) (by decide))
                have hYB := XB_fr hB' hbY (by decide) (by decide)
                have hlo2 : Low (zp (zp X' 4 (n + m) (nI c)) 5 (n + m) (nI (sg (p0 + 1) - 48))) X 4 5 n := Low_z (Low_z hlo (by omega) _ _) (by omega) _ _
                have hln2 := Lns_snoc hln (l := (c, sg (p0 + 1) - 48, tkB sg T (p0 + 1 + 1) 63)) hwl.1 hwl.2 (by decide)
                rw [hlen] at hln2
                have hp2 : p0 + 1 + 1 ≤ T := w1
                have k63 : n_X8_take_1 F (cX (zp (zp X' 4 (n + m) (nI c)) 5 (n + m) (nI (sg (p0 + 1) - 48))) (p0 + 1 + 1)) 63 = _ := x_take (F := F) (c := 63) hYB (show p0 + 1 + 1 ≤ min L 76 by rw [hT]; exact hp2) (by omega)
                have hp3 := tk_le (sg := sg) (c := 63) hp2
                have k59 : n_X8_take_1 F (cX (zp (zp X' 4 (n + m) (nI c)) 5 (n + m) (nI (sg (p0 + 1) - 48))) (p0 + 1 + 1 + (tkB sg T (p0 + 1 + 1) 63).toNat)) 59 = _ := x_take (F := F) (c := 59) hYB (show p0 + 1 + 1 + (tkB sg T (p0 + 1 + 1) 63).toNat ≤ min L 76 by rw [hT]; exact hp3) (by omega)
                rw [hT] at k63 k59
                have e3 : ∀ rc : (Zs × Int32 × Int32 × Int32 × Int32) → Option (Int32 × Zs), n_X2_hear_3_1_b28_l F (fun S x2 x3 x4 x5 => rc (S, x2, x3, x4, x5)) (cX X' a) (nI (n + m)) d (bI (true = true)) (nI m) = rc (cX (zp (zp X' 4 (n + m) (nI c)) 5 (n + m) (nI (sg (p0 + 1) - 48))) (p0 + 1 + 1 + (tkB sg T (p0 + 1 + 1) 63).toNat + (tkB sg T (p0 + 1 + 1 + (tkB sg T (p0 + 1 + 1) 63).toNat) 59).toNat), nI (n + m + 1), wB d (nI (n + m)) (bI (tkB sg T (p0 + 1 + 1) 63 = true)), bI (tkB sg T (p0 + 1 + 1 + (tkB sg T (p0 + 1 + 1) 63).toNat) 59 = true), nI (m + 1)) := by
                  intro rc
                  rw [e2, e64, if_neg (show ¬ bI (true = true) = 0 by decide), show p0 + (true).toNat = p0 + 1 from rfl, kw, zcS, ew, if_pos (show true = true from rfl), if_neg (nI_ne_m1 (by omega)), show p0 + 1 + (true).toNat = p0 + 1 + 1 from rfl, zst_nI _ _ _ _ (show n + m < 16 from g16) (by omega), zst_nI _ _ _ _ (show n + m < 16 from g16) (by omega), cX_z _ _ _ _ (by decide), cX_z _ _ _ _ (by decide), k63, zcS, e_X0_withBit, zcS, k59, zcS]
                refine Or.inr ⟨_, ⟨_, _, _, _, Lp ++ [(c, sg (p0 + 1) - 48, tkB sg T (p0 + 1 + 1) 63)], rfl, fr_t hf hbY, hlo2, hln2, ?_, by rw [List.length_append, hlen]; rfl, by omega, tk_le hp3, ?_⟩, e3⟩
                · have hb32 : n + Lp.length < 32 := by omega
                  cases ed : tkB sg T (p0 + 1 + 1) 63 with
                  | true =>
                    have := DB_t hdb hb32 c (sg (p0 + 1) - 48)
                    rw [hlen] at this
                    unfold wB
                    rw [if_neg (show ¬ bI (true = true) = 0 by decide)]
                    exact this
                  | false =>
                    have hd0 : wB d (nI (n + m)) (bI (false = true)) = d := by
                      unfold wB
                      rw [if_pos (show bI (false = true) = 0 by decide)]
                      refine hb_ext fun i hi => Bool.eq_iff_iff.mpr ?_
                      rw [hbm, hb1 (by omega)]
                      refine ⟨fun w => w.1, fun w => ⟨w, fun q => ?_⟩⟩
                      obtain ⟨j, c', w', ej, gj⟩ := (hdb i).mp w
                      obtain ⟨hj, -⟩ := List.getElem?_eq_some_iff.mp gj
                      omega
                    rw [hd0]
                    exact DB_f hdb c _
                · rw [hpl, pl_l g16 el, show 17 - (m + 1) = k by omega, List.append_assoc]; rfl
      · exact Or.inl (stop a ha (pl_16 sg T k a g16) fun rc => (e0 rc).trans (if_neg g16))) (by
    rintro _ ⟨X', d, a, b, Lp, rfl, hf, hlo, hln, hdb, hlen, hnm, -⟩
    omega) F (cX X 0, nI n, 0, bI (b0 = true), 0) ⟨X, 0, 0, b0, [], rfl, fr_rf _ _ _, fun _ _ => ⟨rfl, rfl⟩, fun j l h => absurd h (by simp), DB_0 n, rfl, by omega, by omega, rfl⟩ (by omega)
