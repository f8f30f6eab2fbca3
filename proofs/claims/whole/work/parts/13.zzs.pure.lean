/-! proofs: no universal costs more than 840, if mood 20 is allowed -/
def oc : Option Bool → Nat
  | none => 0
  | some true => 1
  | some false => 2
theorem oc_i : ∀ a b, oc a = oc b → a = b := by
  intro a b h
  cases a with
  | none => cases b with
    | none => rfl
    | some y => cases y <;> exact absurd h (by decide)
  | some x => cases b with
    | none => cases x <;> exact absurd h (by decide)
    | some y => cases x <;> cases y <;> first | rfl | exact absurd h (by decide)
theorem oc_lt : ∀ a, oc a < 3 := by
  intro a
  cases a with
  | none => decide
  | some x => cases x <;> decide
def colN (w : List Bool) : Nat := min w.length 4
def colA (w : List Bool) : Nat := if w.all (fun x => x) = true then min w.length 1 else 2
def colH (w : List Bool) : Nat := 3 * oc w.head? + oc w.getLast?
def colP (w : List Bool) : Nat := if hpB w = true then 3 else oc w.getLast?
def colR (w : List Bool) : Nat := 3 * colP w + dl w % 3 - 2
theorem colN_b (w : List Bool) : colN w < 5 := by unfold colN; omega
theorem colN_c (w w2 : List Bool) (x : Bool) (h : colN w = colN w2) : colN (w ++ [x]) = colN (w2 ++ [x]) := by
  unfold colN at *; rw [List.length_append, List.length_append]; simp; omega
theorem colA_b (w : List Bool) : colA w < 3 := by unfold colA; split <;> omega
theorem colA_c (w w2 : List Bool) (x : Bool) (h : colA w = colA w2) : colA (w ++ [x]) = colA (w2 ++ [x]) := by
  unfold colA at *
  rw [List.all_append, List.all_append, List.length_append, List.length_append]
  have e : [x].length = 1 := rfl
  rw [e]
  by_cases g : w.all (fun x => x) = true
  · by_cases g2 : w2.all (fun x => x) = true
    · rw [g, g2, show min (w.length + 1) 1 = 1 by omega, show min (w2.length + 1) 1 = 1 by omega]
    · rw [if_pos g, if_neg g2] at h; omega
  · by_cases g2 : w2.all (fun x => x) = true
    · rw [if_neg g, if_pos g2] at h; omega
    · rw [show w.all (fun x => x) = false by simpa using g, show w2.all (fun x => x) = false by simpa using g2]; rfl
theorem colH_b (w : List Bool) : colH w < 9 := by
  have := oc_lt w.head?
  have := oc_lt w.getLast?
  unfold colH; omega
theorem colH_i {w w2 : List Bool} (h : colH w = colH w2) : w.head? = w2.head? ∧ w.getLast? = w2.getLast? := by
  have := oc_lt w.head?
  have := oc_lt w.getLast?
  have := oc_lt w2.head?
  have := oc_lt w2.getLast?
  unfold colH at h
  exact ⟨oc_i _ _ (by omega), oc_i _ _ (by omega)⟩
theorem colH_c (w w2 : List Bool) (x : Bool) (h : colH w = colH w2) : colH (w ++ [x]) = colH (w2 ++ [x]) := by
  obtain ⟨h1, h2⟩ := colH_i h
  unfold colH
  rw [List.head?_append, List.head?_append, h1, List.getLast?_concat, List.getLast?_concat]
theorem colP_b (w : List Bool) : colP w < 4 := by
  have := oc_lt w.getLast?
  unfold colP; split <;> omega
theorem colP_i {w w2 : List Bool} (h : colP w = colP w2) : hpB w = hpB w2 ∧ (hpB w = false → w.getLast? = w2.getLast?) := by
  have := oc_lt w.getLast?
  have := oc_lt w2.getLast?
  unfold colP at h
  cases g : hpB w <;> cases g2 : hpB w2 <;> rw [g, g2] at h <;> simp at h ⊢ <;> first | omega | exact oc_i _ _ h
theorem colP_c (w w2 : List Bool) (x : Bool) (h : colP w = colP w2) : colP (w ++ [x]) = colP (w2 ++ [x]) := by
  obtain ⟨h1, h2⟩ := colP_i h
  unfold colP
  rw [hp_snoc, hp_snoc, List.getLast?_concat, List.getLast?_concat, ← h1]
  cases g : hpB w with
  | true => rfl
  | false => rw [h2 g]
theorem colP_0 {w : List Bool} (h : colP w = 0) : w = [] := by
  unfold colP at h
  split at h
  · omega
  · have := oc_i w.getLast? none h
    simpa using this
theorem colR_b (w : List Bool) : colR w < 10 := by
  have := colP_b w
  unfold colR; omega
theorem colR_i {w w2 : List Bool} (h : colR w = colR w2) : colP w = colP w2 ∧ dl w % 3 = dl w2 % 3 := by
  have h1 := colP_b w
  have h2 := colP_b w2
  have h3 : colP w = 0 → dl w = 0 := fun z => by rw [colP_0 z]; rfl
  have h4 : colP w2 = 0 → dl w2 = 0 := fun z => by rw [colP_0 z]; rfl
  unfold colR at h
  by_cases z : colP w = 0
  · by_cases z2 : colP w2 = 0
    · rw [h3 z, h4 z2, z, z2]; exact ⟨rfl, rfl⟩
    · have := h3 z; omega
  · by_cases z2 : colP w2 = 0
    · have := h4 z2; omega
    · omega
theorem colR_c (w w2 : List Bool) (x : Bool) (h : colR w = colR w2) : colR (w ++ [x]) = colR (w2 ++ [x]) := by
  obtain ⟨h1, h2⟩ := colR_i h
  unfold colR
  rw [colP_c w w2 x h1, dl_app, dl_app]
  omega
theorem De_cost {al lv : Int32} {T : Nat → Prop} {c n : Nat} (hc : c < 1152) (h : De al lv T (sj c) (eb c) n) : ∃ m, m ≤ n ∧ Cost al lv T c m := by
  have e := parts c
  have z2 := pd_lt c
  have hf : fm c = 0 ∨ fm c = 1 := by unfold fm; omega
  unfold eb at h
  rcases hf with hf | hf
  · rw [if_pos hf] at h
    obtain ⟨⟨m, m1, m2⟩, -⟩ := h
    rw [show 24 * sj c + pd c = c by rw [hf] at e; omega] at m2
    exact ⟨m, m1, m2⟩
  · rw [if_neg (by omega)] at h
    obtain ⟨-, m, m1, m2⟩ := h
    rw [(x11 _ z2).2, show 576 + 24 * sj c + pd c = c by rw [hf] at e; omega] at m2
    exact ⟨m, m1, m2⟩
theorem eb_lt (c : Nat) : eb c < 24 := by
  have := x11 _ (pd_lt c)
  have := pd_lt c
  unfold eb; split <;> omega
theorem uni20 {al lv : Int32} {T : Nat → Prop} (hT : ∀ c, T c → c < 2304) (h : hb al 20 = true) : ∀ c n, Cost al lv T c n → c < 1152 → ∃ m, m ≤ 840 ∧ Cost al lv T c m := by
  intro c n g hc
  refine De_cost hc ?_
  have ha := sj_lt c
  have hb' := eb_lt c
  have d1 : Dn al lv T [true] := Dn_s h
  -- a short word of D that is a walk
  have fin : ∀ w, Dn al lv T w → w.length ≤ 280 → Wlk (Etd T) w (sj c) (eb c) → De al lv T (sj c) (eb c) 840 := fun w d l k => De_m (d _ _ ha hb' k) (by omega)
  by_cases hT9 : hb al 19 = true
  · by_cases hB : (hb al 0 = true ∨ hb al 1 = true) ∨ (hb al 4 = true ∨ hb al 5 = true) ∨ hb al 12 = true
    · obtain ⟨w, w1, w2⟩ := uvG hT (G := fun w => w ≠ []) (by simp) (fun _ u v a b e => a (List.append_eq_nil_iff.mp e).1) (fun _ u v a b e => a (List.append_eq_nil_iff.mp e).1) (fun _ u v a b => wt_nil fun e => a (List.append_eq_nil_iff.mp e).1) (fun _ u a => wt_nil a) c n g hc
      obtain ⟨x, x1, x2, x3⟩ := shr ha colN_b colN_c w2
      have hx : x ≠ [] := fun e => by
        have := ln1 w1
        rw [e] at x2
        unfold colN at x2
        rw [List.length_nil] at x2
        omega
      have key := lang_t (D := fun w => ∀ a b, a < 24 → b < 24 → Wlk (Etd T) w a b → De al lv T a b (if w.length = 1 then 3 else 7 * w.length)) (fun a b ha hb' k => De_m (Dn_s h a b ha hb' k) (by decide)) (fun a b ha hb' k => by
        obtain ⟨m, m1, m2, m3⟩ := k
        rw [if_neg (by decide), show m = b from m3] at m2
        have := De_t (lv := lv) h hT9 (x11 b hb').1 ha (De_e h (x11 b hb').1 (x11 a ha).1 m2)
        rw [(x11 b hb').2] at this
        exact this) (fun e w hw de de2 dw dwt a b ha hb' k => by
        obtain ⟨m, hm, k1, k2⟩ := (Wlk_app [e] w a b ha).mp k
        have l1 := ln1 hw
        have l2 : ([e] ++ w).length = w.length + 1 := by rw [List.length_append]; simp; omega
        rw [l2, if_neg (by omega)]
        have d1 := de a m ha hm k1
        rw [if_pos (show [e].length = 1 from rfl)] at d1
        have d2 := dw m b hm hb' k2
        have d3 := dwt _ _ (x11 b hb').1 (x11 m hm).1 (Wlk_t w m b hm k2)
        have d4 := de2 _ _ (x11 m hm).1 (x11 a ha).1 (Wlk_t [e] a m ha k1)
        rw [if_pos (show [!e].length = 1 from rfl)] at d4
        rw [wt_len] at d3
        have bnd : (if w.length = 1 then 3 else 7 * w.length) ≤ 7 * w.length := by split <;> omega
        rcases hB with q | q | q
        · exact De_m (De_c h q ha hm hb' d1 d2) (by omega)
        · have := De_2 h q ha hm (x11 b hb').1 d1 d3
          rw [(x11 b hb').2] at this
          exact De_m this (by omega)
        · have := De_3 h q (x11 b hb').1 (x11 m hm).1 ha d3 d4
          rw [(x11 b hb').2] at this
          exact De_m this (by omega)) x.length x (Nat.le_refl _) hx
      exact De_m (key _ _ ha hb' x1) (by split <;> omega)
    · have n1 : ¬ (hb al 0 = true ∨ hb al 1 = true) := fun q => hB (Or.inl q)
      have n2 : ¬ (hb al 4 = true ∨ hb al 5 = true) := fun q => hB (Or.inr (Or.inl q))
      have n3 : ¬ hb al 12 = true := fun q => hB (Or.inr (Or.inr q))
      obtain ⟨w, w1, w2⟩ := uvG hT (G := fun w => w = [true] ∨ w = [false]) (Or.inl rfl) (fun q => absurd q n1) (fun q => absurd q n2) (fun q => absurd q n3) (fun _ u a => by
        rcases a with a | a
        · rw [a]; exact Or.inr rfl
        · rw [a]; exact Or.inl rfl) c n g hc
      rcases w1 with e | e
      · rw [e] at w2
        exact fin _ d1 (by decide) w2
      · rw [e] at w2
        obtain ⟨m, m1, m2, m3⟩ := w2
        rw [if_neg (by decide), show m = eb c from m3] at m2
        have := De_t (lv := lv) h hT9 (x11 _ hb').1 ha (De_e h (x11 _ hb').1 (x11 _ ha).1 m2)
        rw [(x11 _ hb').2] at this
        exact De_m this (by decide)
  · have nt : ∀ {p : Prop}, hb al 19 = true → p := fun q => absurd q hT9
    by_cases h2 : hb al 4 = true ∨ hb al 5 = true
    · by_cases h3 : hb al 12 = true
      · -- both: all long words
        obtain ⟨w, ⟨w0, w1⟩, w2⟩ := uvG hT (G := fun w => w ≠ [] ∧ (4 ≤ w.length ∨ Dn al lv T w)) ⟨by simp, Or.inr d1⟩ (fun q u v a b => ⟨fun e => a.1 (List.append_eq_nil_iff.mp e).1, by
            rw [List.length_append]
            rcases a.2 with a2 | a2
            · exact Or.inl (by omega)
            · rcases b.2 with b2 | b2
              · exact Or.inl (by omega)
              · exact Or.inr (Dn_c h q u v a.1 b.1 a2 b2)⟩) (fun q u v a b => ⟨fun e => a.1 (List.append_eq_nil_iff.mp e).1, by
            rw [List.length_append, wt_len]
            rcases a.2 with a2 | a2
            · exact Or.inl (by omega)
            · rcases b.2 with b2 | b2
              · exact Or.inl (by omega)
              · exact Or.inr (Dn_2 h q u (wt v) a.1 (wt_nil b.1) a2 (by rw [wt_wt]; exact b2))⟩) (fun q u v a b => ⟨wt_nil fun e => a.1 (List.append_eq_nil_iff.mp e).1, by
            rw [wt_len, List.length_append]
            rcases a.2 with a2 | a2
            · exact Or.inl (by omega)
            · rcases b.2 with b2 | b2
              · exact Or.inl (by omega)
              · refine Or.inr ?_
                rw [wt_app]
                exact Dn_3 h q (wt v) (wt u) (wt_nil b.1) (wt_nil a.1) (by rw [wt_wt]; exact b2) (by rw [wt_wt]; exact a2)⟩) (fun q => nt q) c n g hc
        by_cases w3 : 4 ≤ w.length
        · obtain ⟨x, x1, x2, x3⟩ := shr ha colN_b colN_c w2
          have : 4 ≤ x.length := by unfold colN at x2; omega
          exact fin x (lang_r23 d1 (Dn_2 h h2) (Dn_3 h h3) x.length x (Nat.le_refl _) this) (by omega) x1
        · exact fin w (w1.resolve_left w3) (by omega) w2
      · by_cases h0 : hb al 0 = true ∨ hb al 1 = true
        · obtain ⟨w, w1, w2⟩ := uvG hT (G := fun w => w.head? = some true) rfl (fun q u v a b => by rw [List.head?_append, a]; rfl) (fun q u v a b => by rw [List.head?_append, a]; rfl) (fun q => absurd q h3) (fun q => nt q) c n g hc
          obtain ⟨x, x1, x2, x3⟩ := shr ha colH_b colH_c w2
          have hx := (colH_i x2).1.trans w1
          cases x with
          | nil => exact absurd hx (by simp)
          | cons y x =>
            rw [show y = true by simpa using hx] at x1 x3
            exact fin _ (lang_cr2 d1 (Dn_c h h0) (Dn_2 h h2) x.length x (Nat.le_refl _)) (by omega) x1
        · obtain ⟨w, w1, w2⟩ := uvG hT (G := fun w => w = [true] ∨ ∃ r, w = true :: (r ++ [false])) (Or.inl rfl) (fun q => absurd q h0) (fun q u v a b => by
            have a' : ∃ u2, u = true :: u2 := by
              rcases a with a | ⟨r, a⟩
              · exact ⟨[], a⟩
              · exact ⟨_, a⟩
            have b' : ∃ v2, v = true :: v2 := by
              rcases b with b | ⟨r, b⟩
              · exact ⟨[], b⟩
              · exact ⟨_, b⟩
            obtain ⟨u2, a'⟩ := a'
            obtain ⟨v2, b'⟩ := b'
            refine Or.inr ⟨u2 ++ wt v2, ?_⟩
            rw [a', b', show true :: v2 = [true] ++ v2 from rfl, wt_app, wt_one]
            simp) (fun q => absurd q h3) (fun q => nt q) c n g hc
          rcases w1 with w1 | ⟨r, w1⟩
          · rw [w1] at w2; exact fin _ d1 (by decide) w2
          · obtain ⟨x, x1, x2, x3⟩ := shr ha colH_b colH_c w2
            obtain ⟨y1, y2⟩ := colH_i x2
            rw [w1] at y1 y2
            have y2' : x.getLast? = some false := by rw [y2, show true :: (r ++ [false]) = (true :: r) ++ [false] from rfl, List.getLast?_concat]
            cases x with
            | nil => exact absurd y1 (by simp)
            | cons y x =>
              have hy : y = true := by simpa using y1
              have hn : x ≠ [] := fun e => by rw [e, hy] at y2'; simp at y2'
              obtain ⟨z, t, e⟩ := w_last hn
              have ht : t = false := by rw [e, show y :: (z ++ [t]) = (y :: z) ++ [t] from rfl, List.getLast?_concat] at y2'; exact Option.some.inj y2'
              rw [e, hy, ht] at x1 x3
              exact fin _ (lang_r2 d1 (Dn_2 h h2) z.length z (Nat.le_refl _)) (by omega) x1
    · by_cases h3 : hb al 12 = true
      · by_cases h0 : hb al 0 = true ∨ hb al 1 = true
        · obtain ⟨w, w1, w2⟩ := uvG hT (G := fun w => w = [true] ∨ hpB w = true) (Or.inl rfl) (fun q u v a b => by
            refine Or.inr ?_
            rcases a with a | a
            · rcases b with b | b
              · rw [a, b]; rfl
              · exact hp_r b
            · exact hp_l a) (fun q => absurd q h2) (fun q u v a b => by
            refine Or.inr (hp_wt ?_)
            rcases a with a | a
            · rcases b with b | b
              · rw [a, b]; rfl
              · exact hp_r b
            · exact hp_l a) (fun q => nt q) c n g hc
          rcases w1 with w1 | w1
          · rw [w1] at w2; exact fin _ d1 (by decide) w2
          · obtain ⟨x, x1, x2, x3⟩ := shr ha colP_b colP_c w2
            exact fin x (lang_cr3 d1 (Dn_c h h0) (Dn_3 h h3) x.length x (Nat.le_refl _) ((colP_i x2).1.trans w1)) (by omega) x1
        · obtain ⟨w, ⟨w0, w1⟩, w2⟩ := uvG hT (G := fun w => dl w % 3 = 1 ∧ (w = [true] ∨ hpB w = true)) ⟨rfl, Or.inl rfl⟩ (fun q => absurd q h0) (fun q => absurd q h2) (fun q u v a b => by
            refine ⟨?_, Or.inr (hp_wt ?_)⟩
            · have := dl_wt (u ++ v)
              rw [dl_app] at this
              omega
            · rcases a.2 with a | a
              · rcases b.2 with b | b
                · rw [a, b]; rfl
                · exact hp_r b
              · exact hp_l a) (fun q => nt q) c n g hc
          rcases w1 with w1 | w1
          · rw [w1] at w2; exact fin _ d1 (by decide) w2
          · obtain ⟨x, x1, x2, x3⟩ := shr ha colR_b colR_c w2
            obtain ⟨y1, y2⟩ := colR_i x2
            exact fin x (lang_r3 d1 (Dn_3 h h3) x.length x (Nat.le_refl _) ((colP_i y1).1.trans w1) (y2.trans w0)) (by omega) x1
      · obtain ⟨w, ⟨w0, w1⟩, w2⟩ := uvG hT (G := fun w => w ≠ [] ∧ (w = [true] ∨ ((hb al 0 = true ∨ hb al 1 = true) ∧ w.all (fun x => x) = true))) ⟨by simp, Or.inl rfl⟩ (fun q u v a b => ⟨fun e => a.1 (List.append_eq_nil_iff.mp e).1, Or.inr ⟨q, by
            rw [List.all_append]
            have a' : u.all (fun x => x) = true := by
              rcases a.2 with a | a
              · rw [a]; rfl
              · exact a.2
            have b' : v.all (fun x => x) = true := by
              rcases b.2 with b | b
              · rw [b]; rfl
              · exact b.2
            rw [a', b']; rfl⟩⟩) (fun q => absurd q h2) (fun q => absurd q h3) (fun q => nt q) c n g hc
        rcases w1 with w1 | ⟨q, w1⟩
        · rw [w1] at w2; exact fin _ d1 (by decide) w2
        · obtain ⟨x, x1, x2, x3⟩ := shr ha colA_b colA_c w2
          have l0 := ln1 w0
          have y : x.all (fun x => x) = true := by
            refine Classical.byContradiction fun z => ?_
            unfold colA at x2
            rw [if_neg z, if_pos w1] at x2
            omega
          have yn : x ≠ [] := fun e => by
            unfold colA at x2
            rw [if_pos y, if_pos w1, e, List.length_nil] at x2
            omega
          exact fin x (lang_c d1 (Dn_c h q) x yn (fun z hz => by have := List.all_eq_true.mp y z hz; exact this)) (by omega) x1
