/-! town, refute -/
def TO (L : List Nat) (lv r : Int32) (R : List Nat) : Prop := (¬ Con L lv ∧ r = -2 ∧ R = []) ∨ (Con L lv ∧ 12 < (bN lv L).length ∧ r = -3 ∧ R = []) ∨ (Con L lv ∧ (bN lv L).length ≤ 12 ∧ ∃ k, r = nI k ∧ k ≤ 12 ∧ Fw (Cs (· ∈ L)) (· ∈ bN lv L) k ∧ Gr (Cs (· ∈ L)) k (· ∈ bN lv L) R)
theorem TO_eq {L : List Nat} {lv r r2 : Int32} {R R2 : List Nat} (h : TO L lv r R) (g : TO L lv r2 R2) : r = r2 ∧ R = R2 := by
  rcases h with ⟨h1, h2, h3⟩ | ⟨h1, h2, h3, h4⟩ | ⟨h1, h2, k, h3, h4, h5, h6⟩ <;> rcases g with ⟨g1, g2, g3⟩ | ⟨g1, g2, g3, g4⟩ | ⟨g1, g2, k2, g3, g4, g5, g6⟩
  · exact ⟨by rw [h2, g2], by rw [h3, g3]⟩
  · exact absurd g1 h1
  · exact absurd g1 h1
  · exact absurd h1 g1
  · exact ⟨by rw [h3, g3], by rw [h4, g4]⟩
  · omega
  · exact absurd h1 g1
  · omega
  · have e := Fw_eq h5 g5
    subst e
    exact ⟨by rw [h3, g3], Gr_eq _ _ _ _ h6 g6⟩
theorem mN_mem {lv : Int32} {L : List Nat} (p : Nat × Nat) : p ∈ mN lv L ↔ p ∈ bN lv L := by
  unfold mN bN
  rw [List.mem_append, List.mem_append]
  exact Or.comm
theorem mN_len (lv : Int32) (L : List Nat) : (mN lv L).length = (bN lv L).length := by
  unfold mN bN
  rw [List.length_append, List.length_append, Nat.add_comm]
theorem con_met {L : List Nat} {lv : Int32} (h : Con L lv) (h24 : ∀ p ∈ bN lv L, p.1 < 24 ∧ p.2 < 24) : ∀ p ∈ bN lv L, ∃ s, Cs (· ∈ L) s ∧ Mt s p := fun p hp => by
  obtain ⟨s, s1, s2, s3⟩ := (can_iff (h24 p hp).1 (h24 p hp).2).mp ((bN_con lv L).mpr h p hp)
  exact ⟨s, ⟨s1, s2⟩, s3⟩
theorem m_towns {F : Nat} (hF : 2 ^ 40 < F) {M : Zs} {L : List Nat} (hL : Ld M L) (hl : L.length ≤ 17) : ∃ r R M2, TO L (M.1 0 8) r R ∧ n_X12_towns_0 F M = some (r, M2) ∧ fr [1, 7, 9, 10, 11, 12] [1, 20, 24] M M2 ∧ (0 ≤ r → Row1 M2 R) ∧ (r < 0 → M2.1 0 1 = M.1 0 1 ∧ M2.1 1 = M.1 1) := by
  obtain ⟨r1, M1, e1, f1, b1, t1⟩ := m_holdsLaidT hF hL
  unfold n_X12_towns_0 n_X12_towns_0_e
  rw [e1, zcS]
  by_cases hcon : Con L (M.1 0 8)
  · rw [if_neg (fun w => (isB_0 b1).mp w hcon)]
    obtain ⟨M2, e2, f2, hN⟩ := m_needs' hF (Ld_fr hL f1 (by decide) (by decide)) hl
    rw [f1.1 8 (by decide)] at hN
    have f12 : fr [1, 7, 9, 10, 11, 12] [1, 20, 24] M M2 := fr_t (fr_w f1 (by decide) (by decide)) (fr_w f2 (by decide) (by decide))
    have same : M2.1 0 1 = M.1 0 1 ∧ M2.1 1 = M.1 1 := ⟨by rw [f2.1 1 (by decide), f1.1 1 (by decide)], by rw [f2.2.1 1 (by decide) (by decide), f1.2.1 1 (by decide) (by decide)]⟩
    have hlen := mN_len (M.1 0 8) L
    have h29 := hN.2.1
    rw [e2, zcS, zgS, hN.1, zgS, hN.1]
    by_cases h12 : (mN (M.1 0 8) L).length ≤ 12
    · rw [if_pos (show nI (mN (M.1 0 8) L).length ≤ 12 from nI_le (b := 12) h12 (by omega)), full_I h12, zlS]
      have hT2 : TB M2 7 (· ∈ L) := fun t ht u => by rw [f2.2.1 7 (by decide) (by decide)]; exact t1 t ht u
      have h24 : ∀ p ∈ mN (M.1 0 8) L, p.1 < 24 ∧ p.2 < 24 := fun p hp => by
        obtain ⟨i, hi, e⟩ := List.getElem_of_mem hp
        exact (hN.2.2 i p (by rw [List.getElem?_eq_getElem hi, e])).2.2
      have hmet : ∀ p ∈ mN (M.1 0 8) L, ∃ s, Cs (· ∈ L) s ∧ Mt s p := fun p hp => con_met hcon (fun q hq => h24 q ((mN_mem q).mpr hq)) p ((mN_mem p).mp hp)
      obtain ⟨M3, ⟨f3, l3⟩, e3⟩ := m_least hF hN h12 hT2
      obtain ⟨M4, ⟨f4, c4⟩, e4⟩ := m_cover hF h12 l3 hmet
      obtain ⟨sz, sz1, sz2⟩ := Fw_bit hmet (2 ^ (mN (M.1 0 8) L).length - 1)
      have l4 : Lf (· ∈ L) (mN (M.1 0 8) L) (zp M4 0 1 0) 4096 := fun m hm => by
        rw [zp_row _ _ _ (show (11 : Nat) ≠ 0 by decide), f4.2.1 11 (by decide) (by decide)]; exact l3 m hm
      have c4' : Co (· ∈ L) (mN (M.1 0 8) L) (zp M4 0 1 0) (2 ^ (mN (M.1 0 8) L).length) := fun b hb' => by
        rw [zp_row _ _ _ (show (12 : Nat) ≠ 0 by decide)]; exact c4 b hb'
      obtain ⟨⟨R, M5⟩, ⟨g5, f5, r5⟩, e5⟩ := m_townRow hF h12 l4 c4' (zp_at _ _ _ _) (show sz ≤ 12 by omega) sz2
      have cg : ∀ p, Dm (mN (M.1 0 8) L) (2 ^ (mN (M.1 0 8) L).length - 1) p ↔ p ∈ bN (M.1 0 8) L := fun p => (Dm_full p).trans (mN_mem p)
      refine ⟨nI sz, R, M5, Or.inr (Or.inr ⟨hcon, by omega, sz, rfl, by omega, (Fw_c cg).mp sz2, Gr_c _ _ _ _ cg g5⟩), ?_, fr_t f12 (fr_t (fr_w f3 (by decide) (by decide)) (fr_t (fr_w f4 (by decide) (by decide)) (fr_t (fr_p _ (by decide)) (fr_w f5 (by decide) (by decide))))), fun _ => r5, fun w => absurd w (nI_pos (by omega))⟩
      rw [e3, e4, e5]
    · rw [if_neg (show ¬ nI (mN (M.1 0 8) L).length ≤ 12 from nI_ge (a := 12) (by omega) (by omega))]
      exact ⟨-3, [], M2, Or.inr (Or.inl ⟨hcon, by omega, rfl, rfl⟩), rfl, f12, fun w => absurd w (by decide), fun _ => same⟩
  · rw [if_pos ((isB_0 b1).mpr hcon)]
    exact ⟨-2, [], M1, Or.inl ⟨hcon, rfl, rfl⟩, rfl, fr_w f1 (by decide) (by decide), fun w => absurd w (by decide), fun _ => ⟨f1.1 1 (by decide), f1.2.1 1 (by decide) (by decide)⟩⟩
-- the class
def frT (X X2 : Zs) : Prop := (∀ k, k ∉ cK ++ [482, 483, 484] → X2.1 0 k = X.1 0 k) ∧ ∀ r, r ≠ 0 → r ∉ cR ++ [27, 28, 29] → X2.1 r = X.1 r
theorem frT_t {A B C : Zs} (h : frT A B) (g : frT B C) : frT A C := ⟨fun k hk => (g.1 k hk).trans (h.1 k hk), fun r h0 hr => (g.2 r h0 hr).trans (h.2 r h0 hr)⟩
theorem frT_fr {R K : List Nat} {A B : Zs} (h : fr R K A B) (hR : ∀ r ∈ R, r ∈ cR ++ [27, 28, 29]) (hK : ∀ k ∈ K, k ∈ cK ++ [482, 483, 484]) : frT A B := ⟨fun k hk => h.1 k fun g => hk (hK k g), fun r h0 hr => h.2.1 r h0 fun g => hr (hR r g)⟩
theorem frT_S {A B : Zs} (h : frS A B) : frT A B := ⟨fun k hk => h.1 k fun g => hk (List.mem_append_right _ g), fun r h0 _ => h.2 r h0⟩
theorem Th_S {S S2 : Zs} {P : Nat → Prop} {N : List (Nat × Nat)} (h : Th 19 20 21 363 364 S P N) (f : frS S S2) : Th 19 20 21 363 364 S2 P N := by
  obtain ⟨g1, g2, g3, g4, g5⟩ := h
  refine ⟨fun t ht u => ?_, ?_, ?_, g4, fun i p hp => ?_⟩
  · rw [f.2 19 (by decide)]; exact g1 t ht u
  · rw [f.1 364 (by decide)]; exact g2
  · rw [f.1 363 (by decide)]; exact g3
  · rw [f.2 20 (by decide), f.2 21 (by decide)]; exact g5 i p hp
theorem x_leastTown {KP : Zs → Nat → (Nat → Nat) → Prop} (hQ : QOK (Qs KP)) (hKP : PS_ok KP) {F : Nat} (hF : 2 ^ 40 < F) {X : Zs} {n : Nat} {cd : Nat → Nat} (hX : XC X n cd) (hB : KB X n cd) (q : Qs KP X n cd) (ex : Option Nat) (hex : ∀ c, ex = some c → c < 2304) : ∃ r R X2, TO (sel cd (actv n (X.1 0 64)) n ++ ex.toList) (X.1 0 65) r R ∧ n_X10_least_26 F X (oN ex) = some (r, X2) ∧ frT X X2 ∧ Kq (Qs KP) X2 ∧ (0 ≤ r → Row27 X2 R) := by
  have hn := hX.2.1
  have bA := bnd_actv hn (X.1 0 64)
  generalize hb0 : actv n (X.1 0 64) = b at *
  have hsl := sel_len cd b n
  obtain ⟨X1, e1, f1, t1, k1, k2⟩ := x_prep hF hX hB bA
  have kq1 : Kq (Qs KP) X1 := ⟨n, cd, XC_fr hX f1 (by decide) (by decide), Or.inr (by rw [k1, k2]; exact ⟨bA, t1⟩), hQ X X1 n n cd cd (fr_q f1 (by decide) (by decide)) (Nat.le_refl _) (fun _ _ => rfl) q⟩
  have hKB1 : KB X1 n cd := Or.inr (by rw [k1, k2]; exact ⟨bA, t1⟩)
  have hbl := bN_len (X.1 0 65) (sel cd b n)
  obtain ⟨X2, e2, f2, t2⟩ : ∃ X2, n_X1_against_13 F X1 (oN ex) = some (0, X2) ∧ fr [19, 20, 21] [363, 364] X1 X2 ∧ Th 19 20 21 363 364 X2 (· ∈ sel cd b n ++ ex.toList) (bN (X.1 0 65) (sel cd b n ++ ex.toList)) := by
    cases ex with
    | none =>
      obtain ⟨X2, a, b', c⟩ := x_against0 hF t1
      exact ⟨X2, a, b', Th_c c (fun c _ => by simp) (by simp)⟩
    | some c =>
      obtain ⟨X2, a, b', d⟩ := x_against hF t1 (by omega) (hex c rfl)
      refine ⟨X2, a, b', Th_c d (fun e _ => ?_) (bN_snoc _ _ _).symm⟩
      show (e ∈ sel cd b n ∨ e = c) ↔ e ∈ sel cd b n ++ [c]
      rw [List.mem_append, List.mem_singleton]
  generalize hLL : sel cd b n ++ ex.toList = L at *
  have hKB2 : KB X2 n cd := KB_same (fr_k f2 (by decide) (by decide)) hKB1
  have hX2 : XC X2 n cd := XC_fr (XC_fr hX f1 (by decide) (by decide)) f2 (by decide) (by decide)
  have q2 : Qs KP X2 n cd := hQ X X2 n n cd cd (fr_q (fr_t (fr_w f1 (show ∀ r ∈ _, r ∈ cR by decide) (show ∀ r ∈ _, r ∈ cK by decide)) (fr_w f2 (by decide) (by decide))) (by decide) (by decide)) (Nat.le_refl _) (fun _ _ => rfl) q
  have g2 : frT X X2 := frT_t (frT_fr f1 (by decide) (by decide)) (frT_fr f2 (by decide) (by decide))
  obtain ⟨r3, h3, e3⟩ := th_cons_18 hF t2
  have h3 := isB_iff h3 (bN_con (X.1 0 65) L)
  have h29 := t2.2.2.2.1
  unfold n_X10_least_26 n_X10_least_26_e
  rw [x_active hX.1, hb0, zcS, e1, zcS, e2, zcS, e3, zcS]
  by_cases hcon : Con L (X.1 0 65)
  · rw [if_neg (fun w => (isB_0 h3).mp w hcon), zgS, t2.2.2.1]
    by_cases h12 : (bN (X.1 0 65) L).length ≤ 12
    · rw [if_pos (show nI (bN (X.1 0 65) L).length ≤ 12 from nI_le (b := 12) h12 (by omega))]
      obtain ⟨X3, e4, f4, s1, s2, s3⟩ := x_settle hF hX2 q2.1 bA (e := oN ex) (by
        cases ex with
        | none => exact Or.inl rfl
        | some c => exact Or.inr ⟨c, hex c rfl, rfl⟩)
      have kq3 : Kq (Qs KP) X3 := ⟨n, cd, XC_S f4 hX2, KB_S f4 hKB2, KS_of bA s1 s2 s3, hKP X2 X3 n cd f4 q2.2⟩
      have t3 := Th_S t2 f4
      obtain ⟨X4, e5, f5, ap, z4⟩ := x_study hF t3 h12
      have t4 := Th_28 t3 f5 (by decide)
      have hPS : ∀ s, OkS (PS cd n b (oN ex)) s ↔ OkS (· ∈ L) s := fun s => OkS_c fun c hc => by
        rw [← hLL, List.mem_append]
        unfold PS
        cases ex with
        | none => exact ⟨fun w => w.elim Or.inl (fun w => absurd w (nI_ne_m1 (by omega))), fun w => w.elim Or.inl (fun w => absurd w (by simp))⟩
        | some d =>
          have hd := hex d rfl
          refine or_congr Iff.rfl ?_
          show nI c = nI d ↔ c ∈ [d]
          rw [nI_eq (by omega) (by omega), List.mem_singleton]
      obtain ⟨k, R, X5, c1, c2, c3, c4, c5, c6⟩ := x_choose hF t4 h12 ((bN_con _ _).mpr hcon) ap (fun b' hb' => Or.inl (z4 b' hb')) (fun s hs => by
        unfold HW
        rw [f5.2.2]
        exact (s3.1 s hs).trans (hPS s))
      have kq5 : Kq (Qs KP) X5 := Kq_ok hQ _ _ (fr_k c5 (by decide) (by decide)) (Kq_ok hQ _ _ (fr_k f5 (by decide) (by decide)) kq3)
      rw [e4, zcS, e5, zcS, c4, zcS]
      exact ⟨nI k, R, X5, Or.inr (Or.inr ⟨hcon, h12, k, rfl, c1, c2, c3⟩), rfl, frT_t g2 (frT_t (frT_S f4) (frT_t (frT_fr f5 (by decide) (by decide)) (frT_fr c5 (by decide) (by decide)))), kq5, fun _ => c6⟩
    · rw [if_neg (show ¬ nI (bN (X.1 0 65) L).length ≤ 12 from nI_ge (a := 12) (by omega) (by omega))]
      exact ⟨-3, [], X2, Or.inr (Or.inl ⟨hcon, by omega, rfl, rfl⟩), rfl, g2, ⟨n, cd, hX2, hKB2, q2⟩, fun w => absurd w (by decide)⟩
  · rw [if_pos ((isB_0 h3).mpr hcon)]
    exact ⟨-2, [], X2, Or.inl ⟨hcon, rfl, rfl⟩, rfl, g2, ⟨n, cd, hX2, hKB2, q2⟩, fun w => absurd w (by decide)⟩
/-- a town, told -/
theorem Rel_town {KP : Zs → Nat → (Nat → Nat) → Prop} (hQ : QOK (Qs KP)) {F : Nat} (hF : 2 ^ 40 < F) {X M X2 M1 M2 : Zs} {L : List Nat} {lv r : Int32} {R : List Nat} (hR : Rel (Kq (Qs KP)) X M) (hT : TO L lv r R) (f : frT X X2) (hK : Kq (Qs KP) X2) (h27 : 0 ≤ r → Row27 X2 R) (fm1 : fr mR mK M M1) (fm : fr [1, 7, 9, 10, 11, 12] [1, 20, 24] M1 M2) (hr1 : 0 ≤ r → Row1 M2 R) (hr2 : r < 0 → M2.1 0 1 = M1.1 0 1 ∧ M2.1 1 = M1.1 1) : ∃ X3, n_X11_tellTown_0 F X2 r = some (r, X3) ∧ Rel (Kq (Qs KP)) X3 M2 := by
  have am : ∀ k ∈ mF', M2.1 0 k = M.1 0 k := fun k hk => (fm.1 k ((show ∀ k ∈ mF', k ∉ [1, 20, 24] by decide) k hk)).trans (fm1.1 k ((show ∀ k ∈ mF', k ∉ mK by decide) k hk))
  have bm : ∀ r ∈ mR', M2.1 r = M.1 r := fun k hk => (fm.2.1 k ((show ∀ k ∈ mR', k ≠ 0 by decide) k hk) ((show ∀ k ∈ mR', k ∉ [1, 7, 9, 10, 11, 12] by decide) k hk)).trans (fm1.2.1 k ((show ∀ k ∈ mR', k ≠ 0 by decide) k hk) ((show ∀ k ∈ mR', k ∉ mR by decide) k hk))
  have ax : ∀ k ∈ xF', X2.1 0 k = X.1 0 k := fun k hk => f.1 k ((show ∀ k ∈ xF', k ∉ cK ++ [482, 483, 484] by decide) k hk)
  have bx : ∀ r ∈ xR', X2.1 r = X.1 r := fun k hk => f.2 k ((show ∀ k ∈ xR', k ≠ 0 by decide) k hk) ((show ∀ k ∈ xR', k ∉ cR ++ [27, 28, 29] by decide) k hk)
  have fail : r < 0 → ∃ X3, n_X11_tellTown_0 F X2 r = some (r, X3) ∧ Rel (Kq (Qs KP)) X3 M2 := by
    intro h0
    refine ⟨X2, x_tell0 hF X2 (Int32.le_of_lt h0) h0, Rel_any hR ax bx am bm ?_ hK⟩
    obtain ⟨t, t1, t2, t3, t4⟩ := hR.2.2.2.2.2.1
    obtain ⟨u1, u2⟩ := hr2 h0
    refine ⟨t, t1, ?_, ?_, fun i hi => ?_⟩
    · rw [f.1 10 (by decide)]; exact t2
    · rw [u1, fm1.1 1 (by decide)]; exact t3
    · rw [f.2 47 (by decide) (by decide), u2, fm1.2.1 1 (by decide) (by decide)]; exact t4 i hi
  rcases hT with ⟨-, rfl, -⟩ | ⟨-, -, rfl, -⟩ | ⟨-, -, k, rfl, hk, -, hG⟩
  · exact fail (by decide)
  · exact fail (by decide)
  · have hlen := Gr_len _ _ _ hG
    have h0 : (0 : Int32) ≤ nI k := Int32.not_lt.mp (nI_pos (by omega))
    obtain ⟨X3, e3, f3, g1, g2⟩ := x_tell hF (h27 h0) (by omega)
    rw [hlen] at e3 g1
    obtain ⟨v1, v2⟩ := hr1 h0
    rw [hlen] at v1
    refine ⟨X3, e3, Rel_any hR (fun k hk => (f3.1 k ((show ∀ k ∈ xF', k ∉ [10] by decide) k hk)).trans (ax k hk)) (fun r hr => (f3.2.1 r ((show ∀ k ∈ xR', k ≠ 0 by decide) r hr) ((show ∀ k ∈ xR', k ∉ [47] by decide) r hr)).trans (bx r hr)) am bm ⟨k, by omega, g1, v1, fun i hi => ?_⟩ (Kq_ok hQ _ _ (fr_k f3 (by decide) (by decide)) hK)⟩
    obtain ⟨s, hs⟩ : ∃ s, R[i]? = some s := ⟨_, List.getElem?_eq_getElem (by omega)⟩
    rw [g2 i s hs, v2 i s hs]
/-- town() -/
theorem p_town {KP : Zs → Nat → (Nat → Nat) → Prop} (hQ : QOK (Qs KP)) (hKP : PS_ok KP) {F : Nat} (hF : 2 ^ 40 < F) : S_town F (Rel (Kq (Qs KP))) := by
  intro X M hR
  obtain ⟨n, cd, hX, hB, q, hM, el, ed, bd, ew, bw⟩ := Rel_ctx hR
  have hn := hX.2.1
  obtain ⟨r, R, X2, h1, h2, h3, h4, h5⟩ := x_leastTown hQ hKP hF hX hB q none (fun c w => absurd w (by simp))
  obtain ⟨M1, g1, g2, g3⟩ := m_lays hF (M := zp M 0 0 0) (n := n) (cd := cd) hM.1 hn hM.2.2 (actv n (M.1 0 7))
  have hsl := sel_len cd (actv n (M.1 0 7)) n
  obtain ⟨r2, R2, M2, k1, k2, k3, k4, k5⟩ := m_towns hF g3 (by omega)
  rw [g2.1 8 (by decide)] at k1
  have k1 : TO (sel cd (actv n (M.1 0 7)) n) (M.1 0 8) r2 R2 := k1
  rw [ew, el, show (none : Option Nat).toList = [] from rfl, List.append_nil] at h1
  obtain ⟨rfl, rfl⟩ := TO_eq h1 k1
  obtain ⟨X3, x1, x2⟩ := Rel_town hQ hF hR h1 h3 h4 h5 (fr_t (f0 M) (fr_w g2 (by decide) (by decide))) k3 k4 k5
  refine ⟨r, X3, M2, ?_, ?_, x2⟩
  · unfold n_X11_town_0 n_X11_town_0_e
    rw [show n_X10_least_26 F X (-1) = _ from h2, zcS, x1, zcS]
  · unfold n_X12_town_0 n_X12_town_0_e
    rw [zpS, m_standing (M := zp M 0 0 0) hM.1, zcS, show n_X12_lays_0 F (zp M 0 0 0) (actv n ((zp M 0 0 0).1 0 7)) = _ from g1, zcS, k2, zcS]
/-- refute(c) -/
theorem p_refute {KP : Zs → Nat → (Nat → Nat) → Prop} (hQ : QOK (Qs KP)) (hKP : PS_ok KP) {F : Nat} (hF : 2 ^ 40 < F) : S_refute F (Rel (Kq (Qs KP))) := by
  intro X M hR a
  by_cases h : a < 0 ∨ 2303 < a
  · refine ⟨-1, X, zp M 0 0 0, ?_, ?_, hR.thrown 0⟩
    · unfold n_X11_refute_0 n_X11_refute_0_e n_X11_refute_0_b26
      rw [x_code0 h, zcS, if_pos rfl]
    · unfold n_X12_refute_0 n_X12_refute_0_e
      rw [zpS, m_code0 h, zcS, if_pos rfl]
  obtain ⟨c, hc, rfl⟩ := code_of h
  obtain ⟨n, cd, hX, hB, q, hM, el, ed, bd, ew, bw⟩ := Rel_ctx hR
  have hn := hX.2.1
  have hct := ct_lt hc
  obtain ⟨r, R, X2, h1, h2, h3, h4, h5⟩ := x_leastTown hQ hKP hF hX hB q (some (ct c)) (fun d w => by rw [← Option.some.inj w]; exact hct)
  obtain ⟨M1, g1, g2, g3⟩ := m_lays hF (M := zp M 0 0 0) (n := n) (cd := cd) hM.1 hn hM.2.2 (actv n (M.1 0 7))
  have hsl := sel_len cd (actv n (M.1 0 7)) n
  have g4 := m_laysMore (F := F) g3 (by omega) hct
  have g5 := Ld_more g3 (by omega) hct
  obtain ⟨r2, R2, M2, k1, k2, k3, k4, k5⟩ := m_towns hF g5 (by rw [List.length_append]; show (sel cd (actv n (M.1 0 7)) n).length + 1 ≤ 17; omega)
  rw [zp_off _ _ (Or.inr (by decide)), zp_off _ _ (Or.inl (by decide)), g2.1 8 (by decide)] at k1
  have k1 : TO (sel cd (actv n (M.1 0 7)) n ++ [ct c]) (M.1 0 8) r2 R2 := k1
  rw [ew, el, show (some (ct c) : Option Nat).toList = [ct c] from rfl] at h1
  obtain ⟨rfl, rfl⟩ := TO_eq h1 k1
  obtain ⟨X3, x1, x2⟩ := Rel_town hQ hF hR h1 h3 h4 h5 (fr_t (f0 M) (fr_t (fr_w g2 (by decide) (by decide)) (fr_t (fr_r _ _ (by decide) (by decide)) (fr_p _ (by decide))))) k3 k4 k5
  refine ⟨r, X3, M2, ?_, ?_, x2⟩
  · unfold n_X11_refute_0 n_X11_refute_0_e n_X11_refute_0_b26
    rw [x_code1 h, zcS, if_neg (by decide), n_ctr F X hc, zcS, show n_X10_least_26 F X (nI (ct c)) = _ from h2, zcS, x1, zcS]
  · unfold n_X12_refute_0 n_X12_refute_0_e
    rw [zpS, m_code1 h, zcS, if_neg (by decide), m_standing (M := zp M 0 0 0) hM.1, zcS, show n_X12_lays_0 F (zp M 0 0 0) (actv n ((zp M 0 0 0).1 0 7)) = _ from g1, zcS, n_ctrM F M1 hc, zcS, g4, zcS, k2, zcS]
