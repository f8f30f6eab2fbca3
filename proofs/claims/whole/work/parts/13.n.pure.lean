/-! THE CALLS on what follows: context -/
def qFields : List Nat := [482, 483, 484, 706, 707, 708, 709, 710, 711]
def qRows : List Nat := [36, 37, 38, 39]
def qSame (X X2 : Zs) : Prop := (∀ k ∈ qFields, X2.1 0 k = X.1 0 k) ∧ (∀ r ∈ qRows, X2.1 r = X.1 r) ∧ X2.2 = X.2
/-- what the other caches say holds on as long as they are not touched, also when more is told -/
def QOK (Q : Zs → Nat → (Nat → Nat) → Prop) : Prop := ∀ X X2 n n2 cd cd2, qSame X X2 → n ≤ n2 → (∀ i, i < n → cd2 i = cd i) → Q X n cd → Q X2 n2 cd2
def Kq (Q : Zs → Nat → (Nat → Nat) → Prop) (X : Zs) : Prop := ∃ n cd, XC X n cd ∧ KB X n cd ∧ Q X n cd
theorem KB_same {X X2 : Zs} {n : Nat} {cd : Nat → Nat} (h : kSame X X2) (hK : KB X n cd) : KB X2 n cd := by
  unfold KB
  rw [h.1 264 (by decide), h.1 265 (by decide)]
  rcases hK with hK | ⟨h1, h2⟩
  · exact Or.inl hK
  · refine Or.inr ⟨h1, ?_⟩
    obtain ⟨g1, g2, g3, g4, g5⟩ := h2
    refine ⟨fun t ht u => ?_, ?_, ?_, g4, fun i p hp => ?_⟩
    · rw [h.2.1 15 (by decide)]; exact g1 t ht u
    · rw [h.1 284 (by decide)]; exact g2
    · rw [h.1 283 (by decide)]; exact g3
    · rw [h.2.1 16 (by decide), h.2.1 17 (by decide)]; exact g5 i p hp
theorem qSame_k {X X2 : Zs} (h : kSame X X2) : qSame X X2 := ⟨fun k hk => h.1 k ((show ∀ k ∈ qFields, k ∈ kFields by decide) k hk), fun r hr => h.2.1 r ((show ∀ r ∈ qRows, r ∈ kRows by decide) r hr), h.2.2⟩
theorem Kq_ok {Q : Zs → Nat → (Nat → Nat) → Prop} (hQ : QOK Q) : KOK (Kq Q) := by
  rintro X X2 h ⟨n, cd, hX, hB, q⟩
  refine ⟨n, cd, ⟨?_, hX.2.1, fun i hi => ?_⟩, KB_same h hB, hQ X X2 n n cd cd (qSame_k h) (Nat.le_refl _) (fun _ _ => rfl) q⟩
  · rw [h.1 62 (by decide)]; exact hX.1
  · rw [h.2.1 4 (by decide)]; exact hX.2.2 i hi
theorem fr_q {R K : List Nat} {S S2 : Zs} (h : fr R K S S2) (hK : ∀ k ∈ qFields, k ∉ K) (hR : ∀ r ∈ qRows, r ≠ 0 ∧ r ∉ R) : qSame S S2 := ⟨fun k hk => h.1 k (hK k hk), fun r hr => h.2.1 r (hR r hr).1 (hR r hr).2, h.2.2⟩
theorem MC_of {K : Zs → Prop} {X M : Zs} {n : Nat} {cd : Nat → Nat} (h : Rel K X M) (hX : XC X n cd) : MC M n cd := by
  obtain ⟨m, hm, e1, e2, hT, -⟩ := h.2.1
  have hn := hX.2.1
  have e : m = n := nI_inj (by omega) (by omega) (e1.symm.trans hX.1)
  subst e
  refine ⟨e2, hm, fun i hi => ?_⟩
  rw [← (hT i hi).1]; exact hX.2.2 i hi
/-- what one may use of related states -/
def Ctx (Q : Zs → Nat → (Nat → Nat) → Prop) (X M : Zs) (n : Nat) (cd : Nat → Nat) : Prop := XC X n cd ∧ KB X n cd ∧ Q X n cd ∧ MC M n cd ∧ X.1 0 65 = M.1 0 8 ∧ X.1 0 63 = M.1 0 6 ∧ bnd (M.1 0 6) n ∧ X.1 0 64 = M.1 0 7 ∧ bnd (M.1 0 7) n
theorem Rel_ctx {Q : Zs → Nat → (Nat → Nat) → Prop} {X M : Zs} (h : Rel (Kq Q) X M) : ∃ n cd, Ctx Q X M n cd := by
  obtain ⟨n, cd, hX, hB, q⟩ := h.2.2.2.2.2.2.2.2
  refine ⟨n, cd, hX, hB, q, MC_of h hX, h.2.2.1.1, ?_⟩
  obtain ⟨m, hm, e1, e2, -, d1, d2, w1, w2⟩ := h.2.1
  have hn := hX.2.1
  have e : m = n := nI_inj (by omega) (by omega) (e1.symm.trans hX.1)
  subst e
  exact ⟨d1, d2, w1, w2⟩
def mR : List Nat := [6, 7, 8, 9, 10, 11, 12, 13, 14, 15]
def mK : List Nat := [0, 2, 4, 5, 10, 12, 14, 15, 16, 17, 18, 19, 20, 21, 22, 23, 24, 25, 26, 27, 28, 29, 30, 31, 32, 33, 34, 36]
/-- the court and the reference's scratch have been written on -/
theorem Rel_court {Q : Zs → Nat → (Nat → Nat) → Prop} (hQ : QOK Q) {X M X2 M2 : Zs} {n : Nat} {cd : Nat → Nat} (h : Rel (Kq Q) X M) (hX : XC X n cd) (q : Q X n cd) (fx : fr cR cK X X2) (kb : KB X2 n cd) (fm : fr mR mK M M2) : Rel (Kq Q) X2 M2 :=
  (h.x (fr_x fx (by decide) (by decide)) ⟨n, cd, XC_fr hX fx (by decide) (by decide), kb, hQ X X2 n n cd cd (fr_q fx (by decide) (by decide)) (Nat.le_refl _) (fun _ _ => rfl) q⟩).m (fr_m fm (by decide) (by decide))
def actv (n : Nat) (w : Int32) : Int32 := (((1 : Int32) <<< (nI n &&& 31)) - 1) &&& (w ^^^ (-1))
theorem bnd_mask {n : Nat} (hn : n ≤ 16) : bnd (((1 : Int32) <<< (nI n &&& 31)) - 1) n := by
  rw [mask_nI n (by omega)]
  have h : 2 ^ n ≤ 2 ^ 16 := Nat.pow_le_pow_right (by omega) hn
  have h2 : 0 < 2 ^ n := Nat.two_pow_pos n
  exact bnd_of (by omega) (by omega)
theorem bnd_actv {n : Nat} (hn : n ≤ 16) (w : Int32) : bnd (actv n w) n := bnd_and _ (bnd_mask hn)
theorem x_active {F : Nat} {X : Zs} {n : Nat} (h : X.1 0 62 = nI n) : n_X2_active_3 F X = some (actv n (X.1 0 64), X) := by
  show some ((((1 : Int32) <<< (X.1 0 62 &&& 31)) - 1) &&& (X.1 0 64 ^^^ (-1)), X) = _
  rw [h]; rfl
theorem m_standing {F : Nat} {M : Zs} {n : Nat} (h : M.1 0 3 = nI n) : n_X12_standing_0 F M = some (actv n (M.1 0 7), M) := by
  show some ((((1 : Int32) <<< (M.1 0 3 &&& 31)) - 1) &&& (M.1 0 7 ^^^ (-1)), M) = _
  rw [h]; rfl
/-- a code that is one -/
theorem code_of {a : Int32} (h : ¬ (a < 0 ∨ 2303 < a)) : ∃ c, c < 2304 ∧ a = nI c := in_nI (n := 2304) (by decide) (fun g => h (Or.inl g)) (fun g => h (Or.inr ((l2303 a).mpr g)))
theorem x_code0 {F : Nat} {X : Zs} {a : Int32} (h : a < 0 ∨ 2303 < a) : n_X0_isCode F X a = some (0, X) := by
  rw [e_X0_isCode, bI_f (fun g => h.elim g.1 (fun q => g.2 ((l2303 a).mp q)))]
theorem x_code1 {F : Nat} {X : Zs} {a : Int32} (h : ¬ (a < 0 ∨ 2303 < a)) : n_X0_isCode F X a = some (1, X) := by
  rw [e_X0_isCode, bI_t ⟨fun g => h (Or.inl g), fun g => h (Or.inr ((l2303 a).mpr g))⟩]
theorem m_code0 {F : Nat} {M : Zs} {a : Int32} (h : a < 0 ∨ 2303 < a) : n_X12_isCode F M a = some (0, M) := by
  rw [e_X12_isCode, bI_f (fun g => h.elim g.1 g.2)]
theorem m_code1 {F : Nat} {M : Zs} {a : Int32} (h : ¬ (a < 0 ∨ 2303 < a)) : n_X12_isCode F M a = some (1, M) := by
  rw [e_X12_isCode, bI_t ⟨fun g => h (Or.inl g), fun g => h (Or.inr g)⟩]
theorem fw {M M2 : Zs} (f : fr [6, 7] [18, 20] M M2) : fr mR mK M M2 := fr_w f (by decide) (by decide)
theorem f0 (M : Zs) : fr mR mK M (zp M 0 0 0) := fr_p _ (by decide)
/-- holds() -/
theorem p_holds {Q : Zs → Nat → (Nat → Nat) → Prop} (hQ : QOK Q) {F : Nat} (hF : 2 ^ 40 < F) : S_holds F (Rel (Kq Q)) := by
  intro X M hR
  obtain ⟨n, cd, hX, hB, q, hM, el, -, -, ew, -⟩ := Rel_ctx hR
  obtain ⟨r, X2, e1, f1, h1, kb⟩ := x_cons hF hX hB (bnd_actv hX.2.1 (X.1 0 64))
  obtain ⟨s, M2, e2, f2, h2⟩ := m_holdsBy hF (MC_fr hM (f0 M) (by decide) (by decide)) (actv n (M.1 0 7))
  have h2 : isB s (Con (sel cd (actv n (M.1 0 7)) n) (M.1 0 8)) := h2
  rw [ew, el] at h1
  have ers : r = s := isB_eq h1 h2
  subst ers
  refine ⟨r, X2, M2, ?_, ?_, Rel_court hQ hR hX q f1 kb (fr_t (f0 M) (fw f2))⟩
  · unfold n_X11_holds_0 n_X11_holds_0_e n_X11_holds_0_b22
    rw [x_active hX.1, zcS, e1, zcS]
    rcases h1 with ⟨h, -⟩ | ⟨h, -⟩ <;> rw [h] <;> rfl
  · unfold n_X12_holds_0 n_X12_holds_0_e zpf
    dsimp only
    rw [m_standing (M := zp M 0 0 0) hM.1, zcS]
    show zcl (n_X12_holdsBy_0 F (zp M 0 0 0) (actv n (M.1 0 7))) _ = _
    rw [e2, zcS, isB_flag h2, zcS]
/-- Con is less of more -/
theorem Can_mono {P P2 : Nat → Prop} (h : ∀ c, P c → P2 c) {x y : Nat} (g : Can P2 x y) : Can P x y := by
  refine ⟨fun ⟨t, h0, h1, h2⟩ => g.1 ⟨t, h0, Rc_m (fun c p _ => h c p) h1, Rc_m (fun c p _ => h c p) h2⟩, fun z hz k => g.2 z hz ?_⟩
  exact ⟨k.1.imp (Rc_m fun c p _ => h c p) (Rc_m fun c p _ => h c p), k.2.imp (Rc_m fun c p _ => h c p) (Rc_m fun c p _ => h c p)⟩
theorem Con_mono {L L2 : List Nat} {lv : Int32} (h : ∀ c ∈ L, c ∈ L2) (g : Con L2 lv) : Con L lv :=
  ⟨fun c hc hu => Can_mono h (g.1 c (h c hc) hu), fun k hk hl => Can_mono h (g.2 k hk hl)⟩
theorem sel_mono {cd : Nat → Nat} {b b2 : Int32} {n : Nat} (h : ∀ k, k < n → hb b k = true → hb b2 k = true) : ∀ c ∈ sel cd b n, c ∈ sel cd b2 n := by
  intro c hc
  obtain ⟨k, h1, h2, h3⟩ := sel_mem.mp hc
  exact sel_mem.mpr ⟨k, h1, h k h1 h2, h3⟩
theorem snoc_mono {L L2 : List Nat} {d : Nat} (h : ∀ c ∈ L, c ∈ L2) : ∀ c ∈ L ++ [d], c ∈ L2 ++ [d] := by
  intro c hc
  rw [List.mem_append] at hc ⊢
  exact hc.imp (h c) id
/-- follows(code) -/
theorem p_follows {Q : Zs → Nat → (Nat → Nat) → Prop} (hQ : QOK Q) {F : Nat} (hF : 2 ^ 40 < F) : S_follows F (Rel (Kq Q)) := by
  intro X M hR a
  by_cases h : a < 0 ∨ 2303 < a
  · refine ⟨-1, X, zp M 0 0 0, ?_, ?_, hR.thrown 0⟩
    · unfold n_X11_follows_0 n_X11_follows_0_e
      rw [x_code0 h, zcS, if_pos rfl]
    · unfold n_X12_follows_0 n_X12_follows_0_e zpf
      dsimp only
      rw [m_code0 h, zcS, if_pos rfl]
  obtain ⟨c, hc, rfl⟩ := code_of h
  obtain ⟨n, cd, hX, hB, q, hM, el, ed, bd, ew, bw⟩ := Rel_ctx hR
  have bA := bnd_actv hX.2.1 (X.1 0 64)
  obtain ⟨r, X1, e1, f1, h1, kb1⟩ := x_entails hF hX hB (bnd_and (X.1 0 63 ^^^ (-1)) bA) hc
  obtain ⟨r2, X2, e2, f2, h2, kb2⟩ := x_entails hF (XC_fr hX f1 (by decide) (by decide)) kb1 bA hc
  obtain ⟨s, M1, g1, k1, i1⟩ := m_followsFrom hF (MC_fr hM (f0 M) (by decide) (by decide)) (actv n (M.1 0 7)) hc
  have k1' := fr_t (f0 M) (fw k1)
  have hM1 := MC_fr hM k1' (by decide) (by decide)
  obtain ⟨s2, M2, g2, k2, i2⟩ := m_followsFrom hF hM1 (actv n (M.1 0 7) &&& (M.1 0 6 ^^^ (-1))) hc
  have k2' := fr_t k1' (fw k2)
  have i1 : isB s (¬ Con (sel cd (actv n (M.1 0 7)) n ++ [ct c]) (M.1 0 8)) := i1
  rw [k1'.1 8 (by decide)] at i2
  rw [f1.1 65 (by decide)] at h2
  rw [ew, ed, el] at h1
  rw [ew, el] at h2
  have er : r = s2 := isB_eq h1 i2
  have er2 : r2 = s := isB_eq h2 i1
  subst er er2
  have ex : n_X11_follows_0 F X (nI c) = if r = 0 then (if r2 = 0 then some (0, X2) else some (1, X2)) else some (2, X1) := by
    unfold n_X11_follows_0 n_X11_follows_0_e n_X11_follows_0_b58
    rw [x_code1 h, zcS, if_neg (by decide), x_active hX.1, zcS]
    unfold zgf
    dsimp only
    rw [e1, zcS, e2, zcS]
  have em : n_X12_follows_0 F M (nI c) = if r2 = 0 then some (0, M1) else (if r = 0 then some (1, M2) else some (2, M2)) := by
    unfold n_X12_follows_0 n_X12_follows_0_e n_X12_follows_0_b52 zpf
    dsimp only
    rw [m_code1 h, zcS, if_neg (by decide), m_standing (M := zp M 0 0 0) hM.1, zcS]
    show zcl (n_X12_followsFrom_0 F (zp M 0 0 0) (actv n (M.1 0 7)) (nI c)) _ = _
    rw [g1, zcS, m_standing hM1.1, zcS]
    unfold zgf
    dsimp only
    rw [k1'.1 7 (by decide), k1'.1 6 (by decide), g2, zcS]
  have c1 := Rel_court hQ hR hX q f1 kb1 k2'
  have c2 := Rel_court hQ hR hX q (fr_t f1 f2) kb2 k1'
  have c3 := Rel_court hQ hR hX q (fr_t f1 f2) kb2 k2'
  rcases i2 with ⟨u1, u2⟩ | ⟨u1, u2⟩
  · have v2 : r2 = 1 := by
      rcases i1 with ⟨w, -⟩ | ⟨-, w⟩
      · exact w
      · exfalso
        refine w fun g => u2 (Con_mono (snoc_mono (sel_mono fun k _ hk => ?_)) g)
        rw [hb_and, Bool.and_eq_true] at hk
        exact hk.1
    subst u1 v2
    exact ⟨2, X1, M2, by rw [ex]; rfl, by rw [em]; rfl, c1⟩
  · subst u1
    rcases i1 with ⟨w, -⟩ | ⟨w, -⟩
    · subst w
      exact ⟨1, X2, M2, by rw [ex]; rfl, by rw [em]; rfl, c3⟩
    · subst w
      exact ⟨0, X2, M1, by rw [ex]; rfl, by rw [em]; rfl, c2⟩
/-- decided(code) -/
theorem p_decided {Q : Zs → Nat → (Nat → Nat) → Prop} (hQ : QOK Q) {F : Nat} (hF : 2 ^ 40 < F) : S_decided F (Rel (Kq Q)) := by
  intro X M hR a
  by_cases h : a < 0 ∨ 2303 < a
  · refine ⟨-1, X, zp M 0 0 0, ?_, ?_, hR.thrown 0⟩
    · unfold n_X11_decided_0 n_X11_decided_0_e
      rw [x_code0 h, zcS, if_pos rfl]
    · unfold n_X12_decided_0 n_X12_decided_0_e zpf
      dsimp only
      rw [m_code0 h, zcS, if_pos rfl]
  obtain ⟨c, hc, rfl⟩ := code_of h
  obtain ⟨n, cd, hX, hB, q, hM, el, ed, bd, ew, bw⟩ := Rel_ctx hR
  have bA := bnd_actv hX.2.1 (X.1 0 64)
  obtain ⟨r, X1, e1, f1, h1, kb1⟩ := x_entails hF hX hB bA hc
  obtain ⟨r2, X2, e2, f2, h2, kb2⟩ := x_entails hF (XC_fr hX f1 (by decide) (by decide)) kb1 bA (ct_lt hc)
  obtain ⟨s, M1, g1, k1, i1⟩ := m_followsFrom hF (MC_fr hM (f0 M) (by decide) (by decide)) (actv n (M.1 0 7)) hc
  have k1' := fr_t (f0 M) (fw k1)
  have hM1 := MC_fr hM k1' (by decide) (by decide)
  obtain ⟨s2, M2, g2, k2, i2⟩ := m_followsFrom hF hM1 (actv n (M.1 0 7)) (ct_lt hc)
  have k2' := fr_t k1' (fw k2)
  have i1 : isB s (¬ Con (sel cd (actv n (M.1 0 7)) n ++ [ct c]) (M.1 0 8)) := i1
  rw [k1'.1 8 (by decide)] at i2
  rw [f1.1 65 (by decide)] at h2
  rw [ew, el] at h1 h2
  have er : r = s := isB_eq h1 i1
  have er2 : r2 = s2 := isB_eq h2 i2
  subst er er2
  have c3 := Rel_court hQ hR hX q (fr_t f1 f2) kb2 k2'
  refine ⟨r + 2 * r2, X2, M2, ?_, ?_, c3⟩
  · unfold n_X11_decided_0 n_X11_decided_0_e n_X11_decided_0_b34 n_X11_decided_0_b57
    rw [x_code1 h, zcS, if_neg (by decide), x_active hX.1, zcS, e1, zcS, n_ctr F _ hc, zcS, zcS, e2, zcS, zcS]
    rcases i1 with ⟨w, -⟩ | ⟨w, -⟩ <;> rcases i2 with ⟨w2, -⟩ | ⟨w2, -⟩ <;> rw [w, w2] <;> rfl
  · unfold n_X12_decided_0 n_X12_decided_0_e zpf
    dsimp only
    rw [m_code1 h, zcS, if_neg (by decide), m_standing (M := zp M 0 0 0) hM.1, zcS]
    show zcl (n_X12_followsFrom_0 F (zp M 0 0 0) (actv n (M.1 0 7)) (nI c)) _ = _
    rw [g1, zcS, isB_flag i1, zcS, m_standing hM1.1, zcS, n_ctrM F _ hc, zcS, k1'.1 7 (by decide), g2, zcS, isB_flag i2, zcS]
/-- from(bits, code) -/
theorem p_from {Q : Zs → Nat → (Nat → Nat) → Prop} (hQ : QOK Q) {F : Nat} (hF : 2 ^ 40 < F) : S_from F (Rel (Kq Q)) := by
  intro X M hR b a
  obtain ⟨n, cd, hX, hB, q, hM, el, ed, bd, ew, bw⟩ := Rel_ctx hR
  have hn := hX.2.1
  have hp : 2 ^ n ≤ 2 ^ 16 := Nat.pow_le_pow_right (by omega) hn
  have hp2 : 0 < 2 ^ n := Nat.two_pow_pos n
  have hs : ∀ S : Zs, S.1 0 3 = nI n → n_X12_areSayings_0 F S b = some (bI (¬ b < 0 ∧ ¬ nI (2 ^ n - 1) < b), S) := by
    intro S hS
    show zcl (n_X12_in F S b.toInt64 (0 : Int32).toInt64 ((((1 : Int32) <<< (S.1 0 3 &&& 31)) - 1).toInt64)) (fun v3 S2 => zrb v3 S2) = _
    rw [hS, mask_nI n (by omega), e_X12_in, zcS, zrb_b]
  have hx : b &&& (((1 : Int32) <<< (nI n &&& 31)) - 1 ^^^ (-1)) = 0 ↔ bnd b n := by
    constructor
    · intro g
      refine bnd_of_hb fun k hk => ?_
      rcases Nat.lt_or_ge k 32 with h32 | h32
      · have h1 : hb (b &&& (((1 : Int32) <<< (nI n &&& 31)) - 1 ^^^ (-1))) k = false := by rw [g, hb_0]
        rw [hb_and, hb_not _ h32, hb_mask (by omega), decide_eq_false (by omega)] at h1
        simpa using h1
      · exact hb_ge _ h32
    · intro g
      refine hb_ext fun k hk => ?_
      rw [hb_0, hb_and, hb_not _ hk, hb_mask (by omega)]
      rcases Nat.lt_or_ge k n with h1 | h1
      · rw [decide_eq_true h1]; simp
      · rw [bnd_hb g h1]; rfl
  have hy : (¬ b < 0 ∧ ¬ nI (2 ^ n - 1) < b) ↔ bnd b n := by
    constructor
    · rintro ⟨g1, g2⟩
      obtain ⟨j, hj, rfl⟩ := nI_of g1
      rw [nI_lt_iff (by omega) hj] at g2
      exact bnd_of (by omega) hj
    · intro g
      obtain ⟨j, hj, rfl⟩ := bnd_nI g (by omega)
      rw [nI_lt_iff (by omega) (by omega)]
      exact ⟨nI_pos (by omega), by omega⟩
  have eev : n_X2_everything_3 F X = some (((1 : Int32) <<< (nI n &&& 31)) - 1, X) := by
    show some (((1 : Int32) <<< (X.1 0 62 &&& 31)) - 1, X) = _
    rw [hX.1]
  by_cases hb : bnd b n
  · by_cases h : a < 0 ∨ 2303 < a
    · refine ⟨-1, X, zp M 0 0 0, ?_, ?_, hR.thrown 0⟩
      · unfold n_X11_from_0 n_X11_from_0_e n_X11_from_0_b21
        rw [x_code0 h, zcS, if_pos rfl]
      · unfold n_X12_from_0 n_X12_from_0_e n_X12_from_0_b32 n_X12_from_0_b33 zpf
        dsimp only
        rw [hs (zp M 0 0 0) hM.1, zcS, bI_t (hy.mpr hb), if_neg (by decide), m_code0 h, zcS, if_pos rfl]
    · obtain ⟨c, hc, rfl⟩ := code_of h
      obtain ⟨r, X1, e1, f1, h1, kb1⟩ := x_entails hF hX hB hb hc
      obtain ⟨s, M1, g1, k1, i1⟩ := m_followsFrom hF (MC_fr hM (f0 M) (by decide) (by decide)) b hc
      have i1 : isB s (¬ Con (sel cd b n ++ [ct c]) (M.1 0 8)) := i1
      rw [el] at h1
      have er : r = s := isB_eq h1 i1
      subst er
      refine ⟨r, X1, M1, ?_, ?_, Rel_court hQ hR hX q f1 kb1 (fr_t (f0 M) (fw k1))⟩
      · unfold n_X11_from_0 n_X11_from_0_e n_X11_from_0_b40
        rw [x_code1 h, zcS, if_neg (by decide), eev, zcS, if_pos (hx.mpr hb), e1, zcS]
        rcases i1 with ⟨w, -⟩ | ⟨w, -⟩ <;> rw [w] <;> rfl
      · unfold n_X12_from_0 n_X12_from_0_e n_X12_from_0_b33 zpf
        dsimp only
        rw [hs (zp M 0 0 0) hM.1, zcS, bI_t (hy.mpr hb), if_neg (by decide), m_code1 h, zcS, if_neg (by decide), g1, zcS, isB_flag i1, zcS]
  · refine ⟨-1, X, zp M 0 0 0, ?_, ?_, hR.thrown 0⟩
    · unfold n_X11_from_0 n_X11_from_0_e n_X11_from_0_b21
      by_cases h : a < 0 ∨ 2303 < a
      · rw [x_code0 h, zcS, if_pos rfl]
      · rw [x_code1 h, zcS, if_neg (by decide), eev, zcS, if_neg (fun g => hb (hx.mp g))]
    · unfold n_X12_from_0 n_X12_from_0_e n_X12_from_0_b32 n_X12_from_0_b33 zpf
      dsimp only
      rw [hs (zp M 0 0 0) hM.1, zcS, bI_f (fun g => hb (hy.mp g)), if_pos rfl]
