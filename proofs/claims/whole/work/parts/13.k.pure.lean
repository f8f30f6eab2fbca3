/-! THE REFERENCE: what is laid, and what it comes to -/
theorem zcS {α β : Type} (a : α) (S : Zs) (f : α → Zs → Option β) : zcl (some (a, S)) f = f a S := Eq.trans (b := f a S) rfl rfl
theorem zfix_forP {π α β γ : Type} {f : π → (α → Option β) → α → Option β} (N : Nat) (I : Nat → α → Prop) (Q : γ → Prop) (k : π → γ → Option β) (hs : ∀ i a, i < N → I i a → (∃ c, Q c ∧ ∀ p rc, f p rc a = k p c) ∨ ∃ b, I (i + 1) b ∧ ∀ p rc, f p rc a = rc b) (he : ∀ a, I N a → ∃ c, Q c ∧ ∀ p rc, f p rc a = k p c) : ∀ F a, I 0 a → N < F → ∃ c, Q c ∧ ∀ p, zfix (f p) F a = k p c := by
  have key : ∀ F i a, i ≤ N → I i a → N - i < F → ∃ c, Q c ∧ ∀ p, zfix (f p) F a = k p c := by
    intro F
    induction F with
    | zero => intro i a _ _ h; omega
    | succ F ih =>
      intro i a hi ha hF
      rcases Nat.lt_or_ge i N with h | h
      · rcases hs i a h ha with ⟨q, hp, h2⟩ | ⟨b, hb, h2⟩
        · exact ⟨q, hp, fun p => by rw [zfix_s]; exact h2 p _⟩
        · obtain ⟨q, hp, h3⟩ := ih (i + 1) b h hb (by omega)
          exact ⟨q, hp, fun p => by rw [zfix_s, h2]; exact h3 p⟩
      · have : i = N := by omega
        subst this
        obtain ⟨q, hp, h2⟩ := he a ha
        exact ⟨q, hp, fun p => by rw [zfix_s]; exact h2 p _⟩
  intro F a ha hF
  exact key F 0 a (Nat.zero_le _) ha (by omega)
def sel (cd : Nat → Nat) (b : Int32) (n : Nat) : List Nat := ((List.range n).filter (fun k => hb b k)).map cd
theorem sel_t {cd : Nat → Nat} {b : Int32} {n : Nat} (h : hb b n = true) : sel cd b (n + 1) = sel cd b n ++ [cd n] := by
  unfold sel
  rw [List.range_succ, List.filter_append, List.map_append, List.filter_cons, if_pos h]; rfl
theorem sel_f {cd : Nat → Nat} {b : Int32} {n : Nat} (h : hb b n = false) : sel cd b (n + 1) = sel cd b n := by
  unfold sel
  rw [List.range_succ, List.filter_append, List.map_append, List.filter_cons, if_neg (by rw [h]; decide)]
  exact List.append_nil _
theorem sel_len (cd : Nat → Nat) (b : Int32) (n : Nat) : (sel cd b n).length ≤ n := by
  unfold sel
  rw [List.length_map]
  exact Nat.le_trans (List.length_filter_le _ _) (by rw [List.length_range]; omega)
theorem sel_mem {cd : Nat → Nat} {b : Int32} {n c : Nat} : c ∈ sel cd b n ↔ ∃ k, k < n ∧ hb b k = true ∧ c = cd k := by
  unfold sel
  rw [List.mem_map]
  constructor
  · rintro ⟨k, hk, e⟩
    rw [List.mem_filter, List.mem_range] at hk
    exact ⟨k, hk.1, hk.2, e.symm⟩
  · rintro ⟨k, h1, h2, e⟩
    exact ⟨k, List.mem_filter.mpr ⟨List.mem_range.mpr h1, h2⟩, e.symm⟩
/-- what the reference has laid -/
def Ld (S : Zs) (L : List Nat) : Prop := S.1 0 18 = nI L.length ∧ L.length ≤ 18 ∧ ∀ i c, L[i]? = some c → S.1 6 i = nI c ∧ c < 2304
theorem Ld_fr {R K : List Nat} {S S2 : Zs} {L : List Nat} (h : Ld S L) (f : fr R K S S2) (h1 : 18 ∉ K) (h2 : 6 ∉ R) : Ld S2 L := by
  obtain ⟨g1, g2, g3⟩ := h
  refine ⟨by rw [f.1 18 h1]; exact g1, g2, fun i c hc => ?_⟩
  rw [f.2.1 6 (by decide) h2]; exact g3 i c hc
theorem Ld_more {S : Zs} {L : List Nat} (h : Ld S L) (hl : L.length < 18) {c : Nat} (hc : c < 2304) : Ld (zp (zp S 6 L.length (nI c)) 0 18 (nI (L.length + 1))) (L ++ [c]) := by
  obtain ⟨g1, g2, g3⟩ := h
  refine ⟨by rw [zp_at, List.length_append]; rfl, by rw [List.length_append]; exact hl, fun i d hd => ?_⟩
  rw [zp_off _ _ (Or.inl (by decide))]
  rcases get_snoc hd with ⟨hi, hp⟩ | ⟨rfl, rfl⟩
  · rw [zp_off _ _ (Or.inr (by omega))]; exact g3 i d hp
  · rw [zp_at]; exact ⟨rfl, hc⟩
theorem m_laysMore {F : Nat} {M : Zs} {L : List Nat} (h : Ld M L) (hl : L.length < 18) {c : Nat} (hc : c < 2304) : n_X12_laysMore_0 F M (nI c) = some (0, zp (zp M 6 L.length (nI c)) 0 18 (nI (L.length + 1))) := by
  unfold n_X12_laysMore_0 n_X12_laysMore_0_e
  have e1 : (zp M 6 L.length (nI c)).1 0 18 = nI L.length := h.1
  simp (disch := omega) only [zgf, zpf, h.1, zst_nI, e1, nI_1]
theorem m_lays {F : Nat} (hF : 2 ^ 40 < F) {M : Zs} {n : Nat} {cd : Nat → Nat} (h3 : M.1 0 3 = nI n) (hn : n ≤ 16) (hc : ∀ i, i < n → M.1 2 i = nI (cd i) ∧ cd i < 2304) (b : Int32) : ∃ M2, n_X12_lays_0 F M b = some (0, M2) ∧ fr [6] [18] M M2 ∧ Ld M2 (sel cd b n) := by
  have key := zfix_for (f := fun (rc : (Zs × Int32 × Int32) → Option (Int32 × Zs)) (u : (Zs × Int32 × Int32)) => n_X12_lays_0_b7_l F  (fun S x1 x2 => rc (S, x1, x2)) u.1 u.2.1 u.2.2) n (fun i a => a.2.1 = b ∧ a.2.2 = nI i ∧ fr [6] [18] M a.1 ∧ Ld a.1 (sel cd b i)) (fun c : Zs => fr [6] [18] M c ∧ Ld c (sel cd b n)) (fun c => some (0, c)) (by
    rintro i ⟨S', x, y⟩ hi ⟨hx, hy, hf, hT⟩
    have hx : x = b := hx
    have hy : y = nI i := hy
    subst hx hy
    have hf : fr [6] [18] M S' := hf
    have hT : Ld S' (sel cd x i) := hT
    have hl := sel_len cd x i
    have k3 : S'.1 0 3 = nI n := by rw [hf.1 3 (by decide)]; exact h3
    have k2 : S'.1 2 i = nI (cd i) := by rw [hf.2.1 2 (by decide) (by decide)]; exact (hc i hi).1
    have k18 := hT.1
    cases hbit : hb x i with
    | false =>
      refine Or.inr ⟨(S', x, nI (i + 1)), ⟨rfl, rfl, hf, by rw [sel_f hbit]; exact hT⟩, fun rc => ?_⟩
      show n_X12_lays_0_b7_l F (fun S x1 x2 => rc (S, x1, x2)) S' x (nI i) = _
      unfold n_X12_lays_0_b7_l n_X12_lays_0_b48
      rw [e_has F S' x (by omega)]
      simp (disch := omega) only [zgf, k3, nI_le_iff, zcS, zlet, nI_1, bI_eq0]
      rw [if_neg (by omega), if_pos (by rw [hbit]; decide)]
    | true =>
      refine Or.inr ⟨(zp (zp S' 6 (sel cd x i).length (nI (cd i))) 0 18 (nI ((sel cd x i).length + 1)), x, nI (i + 1)), ⟨rfl, rfl, fr_t hf (fr_t (fr_r _ _ (by decide) (by decide)) (fr_p _ (by decide))), by rw [sel_t hbit]; exact Ld_more hT (by omega) (hc i hi).2⟩, fun rc => ?_⟩
      show n_X12_lays_0_b7_l F (fun S x1 x2 => rc (S, x1, x2)) S' x (nI i) = _
      generalize (sel cd x i).length = l at *
      have e1 : (zp S' 6 l (nI (cd i))).1 0 18 = nI l := k18
      unfold n_X12_lays_0_b7_l n_X12_lays_0_b48
      rw [e_has F S' x (by omega)]
      simp (disch := omega) only [zgf, zpf, k3, k2, k18, e1, nI_le_iff, zcS, zld_nI, zst_nI, zlet, nI_1, bI_eq0]
      rw [if_neg (by omega), if_neg (fun g => g hbit)]) (by
    rintro ⟨S', x, y⟩ ⟨hx, hy, hf, hT⟩
    have hx : x = b := hx
    have hy : y = nI n := hy
    subst hx hy
    have hf : fr [6] [18] M S' := hf
    have k3 : S'.1 0 3 = nI n := by rw [hf.1 3 (by decide)]; exact h3
    refine ⟨S', ⟨hf, hT⟩, fun rc => ?_⟩
    show n_X12_lays_0_b7_l F (fun S x1 x2 => rc (S, x1, x2)) S' x (nI n) = _
    unfold n_X12_lays_0_b7_l
    simp (disch := omega) only [zgf, k3, nI_le_iff]
    rw [if_pos (by omega)]) F (zp M 0 18 0, b, 0) ⟨rfl, rfl, fr_p _ (by decide), rfl, by show 0 ≤ 18; omega, fun i c h => absurd h (by show ¬ ([] : List Nat)[i]? = some c; simp)⟩ (by omega)
  obtain ⟨q, ⟨h1, h2⟩, e⟩ := key
  exact ⟨q, e, h1, h2⟩
-- closes
def Snd (S : Zs) (P : Nat → Prop) : Prop := ∀ t, t < 24 → ∀ u, hb (S.1 7 t) u = true → Rc P t u
def Rfl (S : Zs) : Prop := ∀ t, t < 24 → hb (S.1 7 t) t = true
def Edg (S : Zs) (P : Nat → Prop) : Prop := ∀ a b, Ed P a b → hb (S.1 7 a) b = true
theorem m_bars {F : Nat} (M : Zs) {x w : Nat} (hx : x < 24) (hw : w < 24) : ∃ M2, n_X12_bars_0 F M (nI x) (nI w) = some (0, M2) ∧ fr [7] [20] M M2 ∧ ∀ t u, (hb (M2.1 7 t) u = true ↔ hb (M.1 7 t) u = true ∨ (t = x ∧ u = w ^^^ 1) ∨ (t = w ∧ u = x ^^^ 1)) := by
  have hx1 := x1_lt hx
  have hw1 := x1_lt hw
  refine ⟨zp (zp M 7 x (M.1 7 x ||| ((1 : Int32) <<< (nI (w ^^^ 1) &&& 31)))) 7 w ((zp M 7 x (M.1 7 x ||| ((1 : Int32) <<< (nI (w ^^^ 1) &&& 31)))).1 7 w ||| ((1 : Int32) <<< (nI (x ^^^ 1) &&& 31))), ?_, fr_t (fr_r _ _ (by decide) (by decide)) (fr_r _ _ (by decide) (by decide)), fun t u => ?_⟩
  · unfold n_X12_bars_0 n_X12_bars_0_e
    simp (disch := omega) only [zld_nI, zst_nI, nI_x1]
  · have k : ∀ (S : Zs) (y v : Nat), v < 24 → (hb ((zp S 7 y (S.1 7 y ||| ((1 : Int32) <<< (nI v &&& 31)))).1 7 t) u = true ↔ hb (S.1 7 t) u = true ∨ (t = y ∧ u = v)) := by
      intro S y v hv
      by_cases e : t = y
      · subst e
        rw [zp_at, hb_or, Bool.or_eq_true, hb_one (by omega), decide_eq_true_iff]
        exact ⟨fun g => g.elim Or.inl fun g => Or.inr ⟨rfl, g⟩, fun g => g.elim Or.inl fun g => Or.inr g.2⟩
      · rw [zp_off _ _ (Or.inr e)]
        exact ⟨Or.inl, fun g => g.elim id fun g => absurd g.1 e⟩
    rw [k _ w _ hx1, k _ x _ hw1, or_assoc]
theorem m_c2 {F : Nat} (hF : 2 ^ 40 < F) (M : Zs) : ∃ M2, (fr [7] [20] M M2 ∧ ∀ t, t < 24 → M2.1 7 t = (1 : Int32) <<< (nI t &&& 31)) ∧ n_X12_closes_0 F M = n_X12_closes_0_b25 F M2 0 := by
  exact zfix_for (f := fun (rc : (Zs × Int32) → Option (Int32 × Zs)) (u : (Zs × Int32)) => n_X12_closes_0_b2_l F (fun S x1 => rc (S, x1)) u.1 u.2) 24 (fun i a => a.2 = nI i ∧ fr [7] [20] M a.1 ∧ ∀ t, t < i → a.1.1 7 t = (1 : Int32) <<< (nI t &&& 31)) (fun c : Zs => fr [7] [20] M c ∧ ∀ t, t < 24 → c.1 7 t = (1 : Int32) <<< (nI t &&& 31)) (fun c => n_X12_closes_0_b25 F c 0) (by
    rintro i ⟨S', x⟩ hi ⟨hx, hf, hT⟩
    have hx : x = nI i := hx
    subst hx
    refine Or.inr ⟨(zp S' 7 i ((1 : Int32) <<< (nI i &&& 31)), nI (i + 1)), ⟨rfl, fr_t hf (fr_r _ _ (by decide) (by decide)), ?_⟩, fun rc => ?_⟩
    · intro t ht
      show (zp S' 7 i _).1 7 t = _
      by_cases e : t = i
      · subst e; rw [zp_at]
      · rw [zp_off _ _ (Or.inr e)]; exact hT t (by omega)
    · show n_X12_closes_0_b2_l F (fun S x1 => rc (S, x1)) S' (nI i) = _
      unfold n_X12_closes_0_b2_l
      simp (disch := omega) only [c24, nI_le_iff, zst_nI, zlet, nI_1]
      rw [if_neg (by omega)]) (by
    rintro ⟨S', x⟩ ⟨hx, hf, hT⟩
    have hx : x = nI 24 := hx
    subst hx
    refine ⟨S', ⟨hf, hT⟩, fun rc => ?_⟩
    show n_X12_closes_0_b2_l F (fun S x1 => rc (S, x1)) S' (nI 24) = _
    unfold n_X12_closes_0_b2_l
    simp (disch := omega) only [c24, nI_le_iff]
    rw [if_pos (by omega)]) F (M, 0) ⟨rfl, fr_rf _ _ _, fun t ht => absurd ht (by omega)⟩ (by omega)
theorem m_c25 {F : Nat} (hF : 2 ^ 40 < F) {M : Zs} {L : List Nat} (hL : Ld M L) (h1 : ∀ t, t < 24 → M.1 7 t = (1 : Int32) <<< (nI t &&& 31)) : ∃ M2, (fr [7] [20] M M2 ∧ Snd M2 (· ∈ L) ∧ Rfl M2 ∧ Edg M2 (· ∈ L)) ∧ n_X12_closes_0_b25 F M 0 = n_X12_closes_0_b101 F M2 0 := by
  obtain ⟨l1, l2, l3⟩ := id hL
  exact zfix_for (f := fun (rc : (Zs × Int32) → Option (Int32 × Zs)) (u : (Zs × Int32)) => n_X12_closes_0_b25_l F (fun S x1 => rc (S, x1)) u.1 u.2) L.length (fun i a => a.2 = nI i ∧ fr [7] [20] M a.1 ∧ Snd a.1 (· ∈ L) ∧ Rfl a.1 ∧ ∀ a' b j c, j < i → L[j]? = some c → Ed (fun d => d = c) a' b → hb (a.1.1 7 a') b = true) (fun c : Zs => fr [7] [20] M c ∧ Snd c (· ∈ L) ∧ Rfl c ∧ Edg c (· ∈ L)) (fun c => n_X12_closes_0_b101 F c 0) (by
    rintro i ⟨S', x⟩ hi ⟨hx, hf, hS, hR, hE⟩
    have hx : x = nI i := hx
    subst hx
    have hf : fr [7] [20] M S' := hf
    have hS : Snd S' (· ∈ L) := hS
    have hR : Rfl S' := hR
    have hE : ∀ a' b j c, j < i → L[j]? = some c → Ed (fun d => d = c) a' b → hb (S'.1 7 a') b = true := hE
    obtain ⟨c, hc⟩ : ∃ c, L[i]? = some c := ⟨L[i], List.getElem?_eq_getElem hi⟩
    obtain ⟨k1, k2⟩ := (Ld_fr hL hf (by decide) (by decide)).2.2 i c hc
    have k18 : S'.1 0 18 = nI L.length := (Ld_fr hL hf (by decide) (by decide)).1
    have hmem := List.mem_of_getElem? hc
    have step : ∀ S2 : Zs, (∀ t u, hb (S'.1 7 t) u = true → hb (S2.1 7 t) u = true) → (∀ a' b, Ed (fun d => d = c) a' b → hb (S2.1 7 a') b = true) → ∀ a' b j c', j < i + 1 → L[j]? = some c' → Ed (fun d => d = c') a' b → hb (S2.1 7 a') b = true := by
      intro S2 g1 g2 a' b j c' hj hc' he
      by_cases e : j = i
      · subst e
        rw [hc] at hc'
        rw [← Option.some.inj hc'] at he
        exact g2 a' b he
      · exact g1 _ _ (hE a' b j c' (by omega) hc' he)
    rcases Nat.lt_or_ge c 1152 with hu | hu
    · have hx := sj_lt c
      have hw := x1_lt (tg_lt c)
      obtain ⟨M2, e2, f2, t2⟩ := m_bars (F := F) S' hx hw
      refine Or.inr ⟨(M2, nI (i + 1)), ⟨rfl, fr_t hf f2, ?_, ?_, ?_⟩, fun rc => ?_⟩
      · intro t ht u g
        rcases (t2 t u).mp g with g | ⟨rfl, rfl⟩ | ⟨rfl, rfl⟩
        · exact hS t ht u g
        · exact Rc_e ⟨c, hmem, hu, Or.inl ⟨rfl, x1_x1 _⟩⟩
        · exact Rc_e ⟨c, hmem, hu, Or.inr ⟨rfl, rfl⟩⟩
      · exact fun t ht => (t2 t t).mpr (Or.inl (hR t ht))
      · refine step M2 (fun t u g => (t2 t u).mpr (Or.inl g)) ?_
        rintro a' b ⟨d, rfl, -, ⟨rfl, rfl⟩ | ⟨rfl, rfl⟩⟩
        · exact (t2 _ _).mpr (Or.inr (Or.inl ⟨rfl, (x1_x1 _).symm⟩))
        · exact (t2 _ _).mpr (Or.inr (Or.inr ⟨rfl, rfl⟩))
      · show n_X12_closes_0_b25_l F (fun S x1 => rc (S, x1)) S' (nI i) = _
        have hpd := pd_lt c
        have hfm : fm c = 0 ∨ fm c = 1 := by unfold fm; omega
        unfold n_X12_closes_0_b25_l n_X12_closes_0_b90 n_X12_closes_0_b93
        simp (disch := omega) only [zgf, k18, nI_le_iff, zld_nI, k1, n_uniMT F _ hu, n_fstM F _ k2, n_frmM F _ k2, n_sndM F _ k2, zcS, nI_x1, zlet, nI_1]
        rw [if_neg (by omega), if_neg (by decide)]
        rcases hfm with h | h
        · rw [h, if_pos nI_0, ← tg_0 (by omega), e2, zcS]
        · rw [h, if_neg (by decide), show pd c = tg c ^^^ 1 by rw [tg_1 (by omega), x1_x1], e2, zcS]
    · refine Or.inr ⟨(S', nI (i + 1)), ⟨rfl, hf, hS, hR, step S' (fun _ _ g => g) ?_⟩, fun rc => ?_⟩
      · rintro a' b ⟨d, rfl, h, -⟩; omega
      · show n_X12_closes_0_b25_l F (fun S x1 => rc (S, x1)) S' (nI i) = _
        unfold n_X12_closes_0_b25_l n_X12_closes_0_b93
        simp (disch := omega) only [zgf, k18, nI_le_iff, zld_nI, k1, n_uniMF F _ k2 hu, zcS, zlet, nI_1]
        rw [if_neg (by omega), if_pos trivial]) (by
    rintro ⟨S', x⟩ ⟨hx, hf, hS, hR, hE⟩
    have hx : x = nI L.length := hx
    subst hx
    have hf : fr [7] [20] M S' := hf
    have k18 : S'.1 0 18 = nI L.length := (Ld_fr hL hf (by decide) (by decide)).1
    refine ⟨S', ⟨hf, hS, hR, ?_⟩, fun rc => ?_⟩
    · rintro a b ⟨c, hc, hu, he⟩
      obtain ⟨j, hj⟩ := List.mem_iff_getElem?.mp hc
      obtain ⟨hj2, -⟩ := List.getElem?_eq_some_iff.mp hj
      exact hE a b j c hj2 hj ⟨c, rfl, hu, he⟩
    · show n_X12_closes_0_b25_l F (fun S x1 => rc (S, x1)) S' (nI L.length) = _
      unfold n_X12_closes_0_b25_l
      simp (disch := omega) only [zgf, k18, nI_le_iff]
      rw [if_pos (by omega)]) F (M, 0) ⟨rfl, fr_rf _ _ _, fun t ht u g => by
        show Rc _ t u
        have g : hb (M.1 7 t) u = true := g
        rw [h1 t ht, hb_one (by omega), decide_eq_true_iff] at g
        rw [g]; exact Rc_rf _ ht, fun t ht => by
        show hb (M.1 7 t) t = true
        rw [h1 t ht, hb_one (by omega), decide_eq_true_iff], fun a b j c hj => absurd hj (by omega)⟩ (by omega)
theorem m_c109 {F : Nat} (hF : 2 ^ 40 < F) (M : Zs) {m : Nat} (hm : m < 24) : ∃ M2, (fr [7] [20] M M2 ∧ ∀ t, t < 24 → M2.1 7 t = upR (M.1 7) m m t) ∧ ∀ rc101, n_X12_closes_0_b109 F rc101 M (nI m) 0 = rc101 M2 (nI (m + 1)) := by
  exact zfix_forP (f := fun (rc101 : Zs → Int32 → Option (Int32 × Zs)) (rc : (Zs × Int32 × Int32) → Option (Int32 × Zs)) (u : (Zs × Int32 × Int32)) => n_X12_closes_0_b109_l F rc101 (fun S x1 x2 => rc (S, x1, x2)) u.1 u.2.1 u.2.2) 24 (fun i a => a.2.1 = nI m ∧ a.2.2 = nI i ∧ fr [7] [20] M a.1 ∧ ∀ t, t < 24 → a.1.1 7 t = if t < i then upR (M.1 7) m m t else M.1 7 t) (fun c : Zs => fr [7] [20] M c ∧ ∀ t, t < 24 → c.1 7 t = upR (M.1 7) m m t) (fun rc101 c => rc101 c (nI (m + 1))) (by
    rintro i ⟨S', a, b⟩ hi ⟨ha, hb', hf, hT⟩
    have ha : a = nI m := ha
    have hb' : b = nI i := hb'
    subst ha hb'
    have hT : ∀ t, t < 24 → S'.1 7 t = if t < i then upR (M.1 7) m m t else M.1 7 t := hT
    have ri : S'.1 7 i = M.1 7 i := by rw [hT i hi, if_neg (by omega)]
    have ry : S'.1 7 m = M.1 7 m := by
      rw [hT m hm]
      split
      · exact upR_y _ _ _
      · rfl
    have or0 : ∀ x : Int32, x ||| 0 = x := fun x => hb_ext fun k _ => by rw [hb_or, hb_0, Bool.or_false]
    refine Or.inr ⟨(zp S' 7 i (upR (M.1 7) m m i), nI m, nI (i + 1)), ⟨rfl, rfl, fr_t hf (fr_r _ _ (by decide) (by decide)), fun t ht => ?_⟩, fun rc101 rc => ?_⟩
    · show (zp S' 7 i (upR (M.1 7) m m i)).1 7 t = _
      by_cases e : t = i
      · subst e; rw [zp_at, if_pos (by omega)]
      · rw [zp_off _ _ (Or.inr e), hT t ht]
        by_cases e2 : t < i
        · rw [if_pos e2, if_pos (by omega)]
        · rw [if_neg e2, if_neg (by omega)]
    · show n_X12_closes_0_b109_l F rc101 (fun S x1 x2 => rc (S, x1, x2)) S' (nI m) (nI i) = _
      unfold n_X12_closes_0_b109_l n_X12_closes_0_b145
      simp (disch := omega) only [c24, nI_le_iff, zld_nI, e_has, zcS, bI_eq0, ri, ry, zst_nI, zlet, nI_1, or0]
      rw [if_neg (by omega)]
      unfold upR
      by_cases hbit : hb (M.1 7 i) m = true
      · rw [if_neg (fun g => g hbit), if_pos hbit]
      · rw [if_pos hbit, if_neg hbit]) (by
    rintro ⟨S', a, b⟩ ⟨ha, hb', hf, hT⟩
    have ha : a = nI m := ha
    have hb' : b = nI 24 := hb'
    subst ha hb'
    refine ⟨S', ⟨hf, fun t ht => by rw [show S'.1 7 t = _ from hT t ht, if_pos ht]⟩, fun rc101 rc => ?_⟩
    show n_X12_closes_0_b109_l F rc101 (fun S x1 x2 => rc (S, x1, x2)) S' (nI m) (nI 24) = _
    unfold n_X12_closes_0_b109_l
    simp (disch := omega) only [c24, nI_le_iff, zlet, nI_1]
    rw [if_pos (by omega)]) F (M, nI m, 0) ⟨rfl, rfl, fr_rf _ _ _, fun t _ => by rw [if_neg (by omega)]⟩ (by omega)
theorem m_c101 {F : Nat} (hF : 2 ^ 40 < F) {M : Zs} {P : Nat → Prop} (hS : Snd M P) (hR : Rfl M) (hE : Edg M P) : ∃ M2, (fr [7] [20] M M2 ∧ TB M2 7 P) ∧ n_X12_closes_0_b101 F M 0 = n_X12_closes_0_b166 F (zp M2 0 20 1) 0 := by
  exact zfix_for (f := fun (rc : (Zs × Int32) → Option (Int32 × Zs)) (u : (Zs × Int32)) => n_X12_closes_0_b101_l F (fun S x1 => rc (S, x1)) u.1 u.2) 24 (fun i a => a.2 = nI i ∧ fr [7] [20] M a.1 ∧ Snd a.1 P ∧ Rfl a.1 ∧ Edg a.1 P ∧ ∀ m, m < i → ∀ t u, t < 24 → hb (a.1.1 7 t) m = true → hb (a.1.1 7 m) u = true → hb (a.1.1 7 t) u = true) (fun c : Zs => fr [7] [20] M c ∧ TB c 7 P) (fun c => n_X12_closes_0_b166 F (zp c 0 20 1) 0) (by
    rintro i ⟨S', x⟩ hi ⟨hx, hf, hS, hR, hE, hC⟩
    have hx : x = nI i := hx
    subst hx
    have hf : fr [7] [20] M S' := hf
    have hS : Snd S' P := hS
    have hR : Rfl S' := hR
    have hE : Edg S' P := hE
    have hC : ∀ m, m < i → ∀ t u, t < 24 → hb (S'.1 7 t) m = true → hb (S'.1 7 m) u = true → hb (S'.1 7 t) u = true := hC
    obtain ⟨M2, ⟨f2, r2⟩, e2⟩ := m_c109 hF S' hi
    have t2 : ∀ t, t < 24 → ∀ u, (hb (M2.1 7 t) u = true ↔ hb (S'.1 7 t) u = true ∨ hb (S'.1 7 t) i = true ∧ hb (S'.1 7 i) u = true) := fun t ht u => by rw [r2 t ht, hb_upR]
    refine Or.inr ⟨(M2, nI (i + 1)), ⟨rfl, fr_t hf f2, ?_, ?_, ?_, ?_⟩, fun rc => ?_⟩
    · intro t ht u g
      rcases (t2 t ht u).mp g with g | ⟨g1, g2⟩
      · exact hS t ht u g
      · exact Rc_t (hS t ht _ g1) (hS i hi _ g2)
    · exact fun t ht => (t2 t ht t).mpr (Or.inl (hR t ht))
    · exact fun a b h => (t2 a (Ed_lt h).1 b).mpr (Or.inl (hE a b h))
    · intro m hm t u ht g1 g2
      have g1 : hb (M2.1 7 t) m = true := g1
      have g2 : hb (M2.1 7 m) u = true := g2
      show hb (M2.1 7 t) u = true
      rw [t2 t ht] at g1 ⊢
      rw [t2 m (by omega)] at g2
      by_cases e : m = i
      · subst e
        have g1' : hb (S'.1 7 t) m = true := g1.elim id (fun g => g.1)
        have g2' : hb (S'.1 7 m) u = true := g2.elim id (fun g => g.2)
        exact Or.inr ⟨g1', g2'⟩
      · have hC' := hC m (by omega)
        rcases g1 with g1 | ⟨g1, g3⟩ <;> rcases g2 with g2 | ⟨g2, g4⟩
        · exact Or.inl (hC' t u ht g1 g2)
        · exact Or.inr ⟨hC' t i ht g1 g2, g4⟩
        · exact Or.inr ⟨g1, hC' i u hi g3 g2⟩
        · exact Or.inr ⟨g1, g4⟩
    · show n_X12_closes_0_b101_l F (fun S x1 => rc (S, x1)) S' (nI i) = _
      unfold n_X12_closes_0_b101_l
      rw [e2, c24, if_neg (nI_ge hi (by omega))]) (by
    rintro ⟨S', x⟩ ⟨hx, hf, hS, hR, hE, hC⟩
    have hx : x = nI 24 := hx
    subst hx
    refine ⟨S', ⟨hf, fun t ht u => ⟨hS t ht u, fun g => ?_⟩⟩, fun rc => ?_⟩
    · have := g (fun a b => a < 24 ∧ b < 24 ∧ hb (S'.1 7 a) b = true) (fun a ha => ⟨ha, ha, hR a ha⟩) (fun a b c ⟨h1, h2, h3⟩ ⟨g1, g2, g3⟩ => ⟨h1, g2, hC b h2 a c h1 h3 g3⟩) (fun a b h => ⟨(Ed_lt h).1, (Ed_lt h).2, hE a b h⟩)
      exact this.2.2
    · show n_X12_closes_0_b101_l F (fun S x1 => rc (S, x1)) S' (nI 24) = _
      unfold n_X12_closes_0_b101_l
      simp only [zpb_1]
      rw [c24, if_pos (nI_le (by omega) (by omega))]) F (M, 0) ⟨rfl, fr_rf _ _ _, hS, hR, hE, fun m hm => absurd hm (by omega)⟩ (by omega)
theorem x1_2 : ∀ k, k < 12 → 2 * k ^^^ 1 = 2 * k + 1 ∧ 2 * k + 1 ^^^ 1 = 2 * k := by decide
theorem Br_ev {P : Nat → Prop} : ¬ Br P ↔ ∀ k, k < 12 → ¬ (Rc P (2 * k) (2 * k + 1) ∧ Rc P (2 * k + 1) (2 * k)) := by
  constructor
  · rintro h k hk ⟨h1, h2⟩
    refine h ⟨2 * k, by omega, ?_, ?_⟩
    · rw [(x1_2 k hk).1]; exact h1
    · rw [(x1_2 k hk).1]; exact h2
  · rintro h ⟨t, ht, h1, h2⟩
    rcases (show t = 2 * (t / 2) ∨ t = 2 * (t / 2) + 1 by omega) with e | e
    · rw [e, (x1_2 (t / 2) (by omega)).1] at h1 h2
      exact h (t / 2) (by omega) ⟨h1, h2⟩
    · rw [e, (x1_2 (t / 2) (by omega)).2] at h1 h2
      exact h (t / 2) (by omega) ⟨h2, h1⟩
theorem m_c166 {F : Nat} (hF : 2 ^ 40 < F) {M : Zs} {P : Nat → Prop} (hT : TB M 7 P) (h1 : M.1 0 20 = 1) : ∃ M2, (fr [7] [20] M M2 ∧ TB M2 7 P ∧ isB (M2.1 0 20) (¬ Br P)) ∧ n_X12_closes_0_b166 F M 0 = some (0, M2) := by
  exact zfix_for (f := fun (rc : (Zs × Int32) → Option (Int32 × Zs)) (u : (Zs × Int32)) => n_X12_closes_0_b166_l F (fun S x1 => rc (S, x1)) u.1 u.2) 12 (fun i a => a.2 = nI (2 * i) ∧ fr [7] [20] M a.1 ∧ TB a.1 7 P ∧ isB (a.1.1 0 20) (∀ k, k < i → ¬ (Rc P (2 * k) (2 * k + 1) ∧ Rc P (2 * k + 1) (2 * k)))) (fun c : Zs => fr [7] [20] M c ∧ TB c 7 P ∧ isB (c.1 0 20) (¬ Br P)) (fun c => some (0, c)) (by
    rintro i ⟨S', x⟩ hi ⟨hx, hf, hT, hB⟩
    have hx : x = nI (2 * i) := hx
    subst hx
    have hf : fr [7] [20] M S' := hf
    have hT : TB S' 7 P := hT
    have hB : isB (S'.1 0 20) (∀ k, k < i → ¬ (Rc P (2 * k) (2 * k + 1) ∧ Rc P (2 * k + 1) (2 * k))) := hB
    have e1 : nI (2 * i) + 1 = nI (2 * i + 1) := nI_1 _
    have e2 : nI (2 * i) + 2 = nI (2 * (i + 1)) := nI_add (2 * i) 2
    have fin : ∀ v, isB v (∀ k, k < i + 1 → ¬ (Rc P (2 * k) (2 * k + 1) ∧ Rc P (2 * k + 1) (2 * k))) → (∀ rc : Zs × Int32 → Option (Int32 × Zs), n_X12_closes_0_b166_l F (fun S x1 => rc (S, x1)) S' (nI (2 * i)) = n_X12_closes_0_b215 F (fun S x1 => rc (S, x1)) S' (nI (2 * i)) v) → (∃ c, (fun c : Zs => fr [7] [20] M c ∧ TB c 7 P ∧ isB (c.1 0 20) (¬ Br P)) c ∧ ∀ rc : Zs × Int32 → Option (Int32 × Zs), n_X12_closes_0_b166_l F (fun S x1 => rc (S, x1)) S' (nI (2 * i)) = some (0, c)) ∨ ∃ b : Zs × Int32, (b.2 = nI (2 * (i + 1)) ∧ fr [7] [20] M b.1 ∧ TB b.1 7 P ∧ isB (b.1.1 0 20) (∀ k, k < i + 1 → ¬ (Rc P (2 * k) (2 * k + 1) ∧ Rc P (2 * k + 1) (2 * k)))) ∧ ∀ rc : Zs × Int32 → Option (Int32 × Zs), n_X12_closes_0_b166_l F (fun S x1 => rc (S, x1)) S' (nI (2 * i)) = rc b := by
      intro v hv h
      refine Or.inr ⟨(zp S' 0 20 v, nI (2 * (i + 1))), ⟨rfl, fr_t hf (fr_p _ (by decide)), hT, hv⟩, fun rc => ?_⟩
      rw [h]
      unfold n_X12_closes_0_b215
      rw [isB_pb hv]
      simp only [zlet, e2]
    by_cases hp : ∀ k, k < i → ¬ (Rc P (2 * k) (2 * k + 1) ∧ Rc P (2 * k + 1) (2 * k))
    · have hv : ¬ S'.1 0 20 = 0 := fun g => (isB_0 hB).mp g hp
      by_cases hq : Rc P (2 * i) (2 * i + 1) ∧ Rc P (2 * i + 1) (2 * i)
      · refine fin 0 (Or.inr ⟨rfl, fun g => g i (by omega) hq⟩) fun rc => ?_
        unfold n_X12_closes_0_b166_l n_X12_closes_0_b214 n_X12_closes_0_b210
        simp (disch := omega) only [zgf, c24, nI_le_iff, zld_nI, e1, e_has, zcS, bI_eq0]
        rw [if_neg (by omega), if_neg hv, if_neg (fun g => g ((hT _ (by omega) _).mpr hq.1)), if_neg (fun g => g ((hT _ (by omega) _).mpr hq.2))]
      · refine fin 1 (Or.inl ⟨rfl, fun k hk => ?_⟩) fun rc => ?_
        · by_cases e : k = i
          · subst e; exact hq
          · exact hp k (by omega)
        · unfold n_X12_closes_0_b166_l n_X12_closes_0_b214 n_X12_closes_0_b210
          simp (disch := omega) only [zgf, c24, nI_le_iff, zld_nI, e1, e_has, zcS, bI_eq0]
          rw [if_neg (by omega), if_neg hv]
          by_cases q1 : Rc P (2 * i) (2 * i + 1)
          · rw [if_neg (fun g => g ((hT _ (by omega) _).mpr q1)), if_pos (fun g => hq ⟨q1, (hT _ (by omega) _).mp g⟩)]
          · rw [if_pos (fun g => q1 ((hT _ (by omega) _).mp g))]
    · refine fin 0 (Or.inr ⟨rfl, fun g => hp fun k hk => g k (by omega)⟩) fun rc => ?_
      unfold n_X12_closes_0_b166_l n_X12_closes_0_b214
      simp (disch := omega) only [zgf, c24, nI_le_iff]
      rw [if_neg (by omega), if_pos ((isB_0 hB).mpr hp)]) (by
    rintro ⟨S', x⟩ ⟨hx, hf, hT, hB⟩
    have hx : x = nI (2 * 12) := hx
    subst hx
    refine ⟨S', ⟨hf, hT, isB_iff hB Br_ev.symm⟩, fun rc => ?_⟩
    show n_X12_closes_0_b166_l F (fun S x1 => rc (S, x1)) S' (nI (2 * 12)) = _
    unfold n_X12_closes_0_b166_l
    rw [c24, if_pos (nI_le (by omega) (by omega))]) F (M, 0) ⟨rfl, fr_rf _ _ _, hT, Or.inl ⟨h1, fun k hk => absurd hk (by omega)⟩⟩ (by omega)
theorem m_closes {F : Nat} (hF : 2 ^ 40 < F) {M : Zs} {L : List Nat} (hL : Ld M L) : ∃ M2, n_X12_closes_0 F M = some (0, M2) ∧ fr [7] [20] M M2 ∧ TB M2 7 (· ∈ L) ∧ isB (M2.1 0 20) (¬ Br (· ∈ L)) := by
  obtain ⟨M1, ⟨f1, r1⟩, e1⟩ := m_c2 hF M
  obtain ⟨M2, ⟨f2, s2, q2, d2⟩, e2⟩ := m_c25 hF (Ld_fr hL f1 (by decide) (by decide)) r1
  obtain ⟨M3, ⟨f3, t3⟩, e3⟩ := m_c101 hF s2 q2 d2
  obtain ⟨M4, ⟨f4, t4, b4⟩, e4⟩ := m_c166 hF (M := zp M3 0 20 1) (P := (· ∈ L)) t3 rfl
  exact ⟨M4, by rw [e1, e2, e3, e4], fr_t (fr_t f1 f2) (fr_t f3 (fr_t (fr_p _ (by decide)) f4)), t4, b4⟩
