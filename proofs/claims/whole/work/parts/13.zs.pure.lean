/-! plead: by which mood -/
def Cm (og : Option Nat) (p c k : Nat) : Prop := match og with
  | none => cn k p 0 = some c
  | some o => cn k p o = some c ∨ cn k o p = some c
def Gm (og : Option Nat) (p c : Nat) (al lv : Int32) (k : Nat) : Prop := hb al k = true ∧ match og with
  | none => cn k p 0 = some c ∧ alB k p lv = true
  | some o => (cn k p o = some c ∧ alB k p lv = true) ∨ (cn k o p = some c ∧ alB k o lv = true)
def lo (og : Option Nat) : Nat := match og with
  | none => 19
  | some _ => 0
def hi (og : Option Nat) : Nat := match og with
  | none => 22
  | some _ => 19
/-- why not by a mood, or by which -/
def MS (og : Option Nat) (p c : Nat) (al lv : Int32) (v k : Nat) : Prop := (v = 0 ∧ lo og ≤ k ∧ k < hi og ∧ Gm og p c al lv k ∧ ∀ j, lo og ≤ j → j < k → ¬ Gm og p c al lv j) ∨ ((∀ j, lo og ≤ j → j < hi og → ¬ Gm og p c al lv j) ∧ ((v = 6 ∧ ∃ j, lo og ≤ j ∧ j < hi og ∧ Cm og p c j ∧ hb al j = true) ∨ ((∀ j, lo og ≤ j → j < hi og → ¬ (Cm og p c j ∧ hb al j = true)) ∧ ((v = 5 ∧ ∃ j, lo og ≤ j ∧ j < hi og ∧ Cm og p c j) ∨ (v = 4 ∧ ∀ j, lo og ≤ j → j < hi og → ¬ Cm og p c j)))))
theorem Gm_Cm {og : Option Nat} {p c : Nat} {al lv : Int32} {k : Nat} (h : Gm og p c al lv k) : Cm og p c k ∧ hb al k = true := by
  refine ⟨?_, h.1⟩
  have := h.2
  unfold Cm
  cases og with
  | none => exact this.1
  | some o => exact this.imp (fun g => g.1) (fun g => g.1)
theorem MS_eq {og : Option Nat} {p c : Nat} {al lv : Int32} {v k v2 k2 : Nat} (h : MS og p c al lv v k) (g : MS og p c al lv v2 k2) : v = v2 ∧ (v = 0 → k = k2) := by
  rcases h with ⟨h1, h2, h3, h4, h5⟩ | ⟨h1, h2⟩ <;> rcases g with ⟨g1, g2, g3, g4, g5⟩ | ⟨g1, g2⟩
  · refine ⟨by rw [h1, g1], fun _ => ?_⟩
    rcases Nat.lt_trichotomy k k2 with q | q | q
    · exact absurd h4 (g5 k h2 q)
    · exact q
    · exact absurd g4 (h5 k2 g2 q)
  · exact absurd h4 (g1 k h2 h3)
  · exact absurd g4 (h1 k2 g2 g3)
  · rcases h2 with ⟨e1, j, j1, j2, j3⟩ | ⟨n1, h2⟩ <;> rcases g2 with ⟨e2, i, i1, i2, i3⟩ | ⟨n2, g2⟩
    · exact ⟨by rw [e1, e2], fun w => by omega⟩
    · exact absurd j3 (n2 j j1 j2)
    · exact absurd i3 (n1 i i1 i2)
    · rcases h2 with ⟨e1, j, j1, j2, j3⟩ | ⟨e1, h2⟩ <;> rcases g2 with ⟨e2, i, i1, i2, i3⟩ | ⟨e2, g2⟩
      · exact ⟨by rw [e1, e2], fun w => by omega⟩
      · exact absurd j3 (g2 j j1 j2)
      · exact absurd i3 (h2 i i1 i2)
      · exact ⟨by rw [e1, e2], fun w => by omega⟩
/-- one mood, premises in one order -/
def tv (k a d c : Nat) (al lv : Int32) : Nat := if cn k a d = some c then (if hb al k = true then (if alB k a lv = true then 0 else 6) else 5) else 4
theorem x_tryMood {F : Nat} (X : Zs) {k a d c : Nat} {z : Int32} (hk : k < 22) (ha : a < 2304) (hc : c < 2304) (hd : k < 19 → z = nI d ∧ d < 2304) : n_X3_tryMood_41 F X (nI k) (nI a) z (nI c) = some (nI (tv k a d c (X.1 0 66) (X.1 0 65)), X) := by
  unfold n_X3_tryMood_41 n_X3_tryMood_41_e n_X3_tryMood_41_b50 tv
  rw [x_conclusion X hk ha hd, zcS, zgS, zgS, x_alive X _ hk ha, zcS]
  by_cases g : cn k a d = some c
  · rw [g, if_pos (show oX (some c) = nI c from rfl), if_pos rfl]
    cases hal : hb (X.1 0 66) k with
    | false => rw [if_pos ((hb_sh0 _ (by omega)).mpr hal), if_neg (by decide)]; rfl
    | true =>
      rw [if_neg (fun w => by rw [hb_sh0 _ (by omega), hal] at w; exact absurd w (by decide)), if_pos rfl]
      by_cases w : alB k a (X.1 0 65) = true
      · rw [bI_t w, if_neg (by decide), if_pos w]; rfl
      · rw [bI_f w, if_pos rfl, if_neg w]; rfl
  · have hne : ¬ oX (cn k a d) = nI c := by
      cases e : cn k a d with
      | none => exact fun w => nI_pos (n := c) (by omega) (by rw [← w]; decide)
      | some v =>
        intro w
        have hv := cn_lt ha e
        have := (nI_eq (by omega) (by omega)).mp (show nI v = nI c from w)
        rw [e, this] at g
        exact g rfl
    rw [if_neg hne, if_neg g]; rfl
/-- one mood -/
def hv (og : Option Nat) (p c : Nat) (al lv : Int32) (k : Nat) : Nat := match og with
  | none => tv k p 0 c al lv
  | some o => if tv k p o c al lv = 0 then 0 else if tv k o p c al lv = 0 then 0 else max (tv k p o c al lv) (tv k o p c al lv)
theorem tv_c {k a d c : Nat} {al lv : Int32} : (tv k a d c al lv = 0 ↔ cn k a d = some c ∧ hb al k = true ∧ alB k a lv = true) ∧ (tv k a d c al lv = 6 ↔ cn k a d = some c ∧ hb al k = true ∧ ¬ alB k a lv = true) ∧ (tv k a d c al lv = 5 ↔ cn k a d = some c ∧ ¬ hb al k = true) ∧ (tv k a d c al lv = 4 ↔ ¬ cn k a d = some c) := by
  unfold tv
  by_cases h1 : cn k a d = some c
  · rw [if_pos h1]
    by_cases h2 : hb al k = true
    · rw [if_pos h2]
      by_cases h3 : alB k a lv = true
      · rw [if_pos h3]; exact ⟨⟨fun _ => ⟨h1, h2, h3⟩, fun _ => rfl⟩, ⟨fun w => absurd w (by decide), fun w => absurd h3 w.2.2⟩, ⟨fun w => absurd w (by decide), fun w => absurd h2 w.2⟩, ⟨fun w => absurd w (by decide), fun w => absurd h1 w⟩⟩
      · rw [if_neg h3]; exact ⟨⟨fun w => absurd w (by decide), fun w => absurd w.2.2 h3⟩, ⟨fun _ => ⟨h1, h2, h3⟩, fun _ => rfl⟩, ⟨fun w => absurd w (by decide), fun w => absurd h2 w.2⟩, ⟨fun w => absurd w (by decide), fun w => absurd h1 w⟩⟩
    · rw [if_neg h2]; exact ⟨⟨fun w => absurd w (by decide), fun w => absurd w.2.1 h2⟩, ⟨fun w => absurd w (by decide), fun w => absurd w.2.1 h2⟩, ⟨fun _ => ⟨h1, h2⟩, fun _ => rfl⟩, ⟨fun w => absurd w (by decide), fun w => absurd h1 w⟩⟩
  · rw [if_neg h1]; exact ⟨⟨fun w => absurd w (by decide), fun w => absurd w.1 h1⟩, ⟨fun w => absurd w (by decide), fun w => absurd w.1 h1⟩, ⟨fun w => absurd w (by decide), fun w => absurd w.1 h1⟩, ⟨fun _ => h1, fun _ => rfl⟩⟩
theorem tv_v (k a d c : Nat) (al lv : Int32) : tv k a d c al lv = 0 ∨ tv k a d c al lv = 4 ∨ tv k a d c al lv = 5 ∨ tv k a d c al lv = 6 := by
  unfold tv
  split
  · split
    · split
      · exact Or.inl rfl
      · exact Or.inr (Or.inr (Or.inr rfl))
    · exact Or.inr (Or.inr (Or.inl rfl))
  · exact Or.inr (Or.inl rfl)
theorem hv_0 {og : Option Nat} {p c : Nat} {al lv : Int32} {k : Nat} : hv og p c al lv k = 0 ↔ Gm og p c al lv k := by
  cases og with
  | none =>
    show tv k p 0 c al lv = 0 ↔ hb al k = true ∧ (cn k p 0 = some c ∧ alB k p lv = true)
    rw [tv_c.1]; exact ⟨fun w => ⟨w.2.1, w.1, w.2.2⟩, fun w => ⟨w.2.1, w.1, w.2.2⟩⟩
  | some o =>
    show (if tv k p o c al lv = 0 then 0 else if tv k o p c al lv = 0 then 0 else max (tv k p o c al lv) (tv k o p c al lv)) = 0 ↔ hb al k = true ∧ ((cn k p o = some c ∧ alB k p lv = true) ∨ (cn k o p = some c ∧ alB k o lv = true))
    have t1 := (tv_c (k := k) (a := p) (d := o) (c := c) (al := al) (lv := lv)).1
    have t2 := (tv_c (k := k) (a := o) (d := p) (c := c) (al := al) (lv := lv)).1
    by_cases q1 : tv k p o c al lv = 0
    · rw [if_pos q1]
      have := t1.mp q1
      exact ⟨fun _ => ⟨this.2.1, Or.inl ⟨this.1, this.2.2⟩⟩, fun _ => rfl⟩
    · rw [if_neg q1]
      by_cases q2 : tv k o p c al lv = 0
      · rw [if_pos q2]
        have := t2.mp q2
        exact ⟨fun _ => ⟨this.2.1, Or.inr ⟨this.1, this.2.2⟩⟩, fun _ => rfl⟩
      · rw [if_neg q2]
        refine ⟨fun w => by omega, fun w => ?_⟩
        rcases w.2 with z | z
        · exact absurd (t1.mpr ⟨z.1, w.1, z.2⟩) q1
        · exact absurd (t2.mpr ⟨z.1, w.1, z.2⟩) q2
theorem hv_n {og : Option Nat} {p c : Nat} {al lv : Int32} {k : Nat} (h : ¬ Gm og p c al lv k) : (hv og p c al lv k = 6 ∧ Cm og p c k ∧ hb al k = true) ∨ (hv og p c al lv k = 5 ∧ Cm og p c k ∧ ¬ hb al k = true) ∨ (hv og p c al lv k = 4 ∧ ¬ Cm og p c k) := by
  have h0 : ¬ hv og p c al lv k = 0 := fun w => h (hv_0.mp w)
  cases og with
  | none =>
    have h0 : ¬ tv k p 0 c al lv = 0 := h0
    obtain ⟨-, t6, t5, t4⟩ := tv_c (k := k) (a := p) (d := 0) (c := c) (al := al) (lv := lv)
    show (tv k p 0 c al lv = 6 ∧ cn k p 0 = some c ∧ _) ∨ (tv k p 0 c al lv = 5 ∧ cn k p 0 = some c ∧ _) ∨ (tv k p 0 c al lv = 4 ∧ ¬ cn k p 0 = some c)
    rcases tv_v k p 0 c al lv with q | q | q | q
    · exact absurd q h0
    · exact Or.inr (Or.inr ⟨q, t4.mp q⟩)
    · exact Or.inr (Or.inl ⟨q, t5.mp q⟩)
    · exact Or.inl ⟨q, (t6.mp q).1, (t6.mp q).2.1⟩
  | some o =>
    obtain ⟨-, t6, t5, t4⟩ := tv_c (k := k) (a := p) (d := o) (c := c) (al := al) (lv := lv)
    obtain ⟨-, u6, u5, u4⟩ := tv_c (k := k) (a := o) (d := p) (c := c) (al := al) (lv := lv)
    have e : hv (some o) p c al lv k = if tv k p o c al lv = 0 then 0 else if tv k o p c al lv = 0 then 0 else max (tv k p o c al lv) (tv k o p c al lv) := rfl
    have q1 : ¬ tv k p o c al lv = 0 := fun w => h0 (by rw [e, if_pos w])
    have q2 : ¬ tv k o p c al lv = 0 := fun w => h0 (by rw [e, if_neg q1, if_pos w])
    rw [e, if_neg q1, if_neg q2]
    show (_ ∧ (cn k p o = some c ∨ cn k o p = some c) ∧ _) ∨ (_ ∧ (cn k p o = some c ∨ cn k o p = some c) ∧ _) ∨ (_ ∧ ¬ (cn k p o = some c ∨ cn k o p = some c))
    rcases tv_v k p o c al lv with a | a | a | a <;> rcases tv_v k o p c al lv with b | b | b | b
    · exact absurd a q1
    · exact absurd a q1
    · exact absurd a q1
    · exact absurd a q1
    · exact absurd b q2
    · rw [a, b]; exact Or.inr (Or.inr ⟨rfl, fun w => w.elim (t4.mp a) (u4.mp b)⟩)
    · rw [a, b]; exact Or.inr (Or.inl ⟨rfl, Or.inr (u5.mp b).1, (u5.mp b).2⟩)
    · rw [a, b]; exact Or.inl ⟨rfl, Or.inr (u6.mp b).1, (u6.mp b).2.1⟩
    · exact absurd b q2
    · rw [a, b]; exact Or.inr (Or.inl ⟨rfl, Or.inl (t5.mp a).1, (t5.mp a).2⟩)
    · rw [a, b]; exact Or.inr (Or.inl ⟨rfl, Or.inl (t5.mp a).1, (t5.mp a).2⟩)
    · exact absurd (u6.mp b).2.1 (t5.mp a).2
    · exact absurd b q2
    · rw [a, b]; exact Or.inl ⟨rfl, Or.inl (t6.mp a).1, (t6.mp a).2.1⟩
    · exact absurd (t6.mp a).2.1 (u5.mp b).2
    · rw [a, b]; exact Or.inl ⟨rfl, Or.inl (t6.mp a).1, (t6.mp a).2.1⟩
/-- the worst so far -/
def Mx (og : Option Nat) (p c : Nat) (al : Int32) (i v : Nat) : Prop := (v = 6 ∧ ∃ j, lo og ≤ j ∧ j < i ∧ Cm og p c j ∧ hb al j = true) ∨ ((∀ j, lo og ≤ j → j < i → ¬ (Cm og p c j ∧ hb al j = true)) ∧ ((v = 5 ∧ ∃ j, lo og ≤ j ∧ j < i ∧ Cm og p c j) ∨ (v = 4 ∧ ∀ j, lo og ≤ j → j < i → ¬ Cm og p c j)))
theorem Mx_s {og : Option Nat} {p c : Nat} {al lv : Int32} {i v : Nat} (h : Mx og p c al i v) (hi' : lo og ≤ i) (g : ¬ Gm og p c al lv i) : Mx og p c al (i + 1) (max v (hv og p c al lv i)) := by
  have lt : ∀ j, j < i + 1 → j < i ∨ j = i := fun j hj => by omega
  rcases hv_n g with ⟨e, c1, c2⟩ | ⟨e, c1, c2⟩ | ⟨e, c1⟩
  · rw [e]
    refine Or.inl ⟨?_, i, hi', by omega, c1, c2⟩
    rcases h with ⟨e, -⟩ | ⟨-, ⟨e, -⟩ | ⟨e, -⟩⟩ <;> rw [e] <;> rfl
  · rw [e]
    rcases h with ⟨e, j, j1, j2, j3⟩ | ⟨n1, h⟩
    · rw [e]; exact Or.inl ⟨rfl, j, j1, by omega, j3⟩
    · refine Or.inr ⟨fun j j1 j2 w => ?_, Or.inl ⟨?_, i, hi', by omega, c1⟩⟩
      · rcases lt j j2 with q | q
        · exact n1 j j1 q w
        · rw [q] at w; exact c2 w.2
      · rcases h with ⟨e, -⟩ | ⟨e, -⟩ <;> rw [e] <;> rfl
  · rw [e]
    rcases h with ⟨e, j, j1, j2, j3⟩ | ⟨n1, h⟩
    · rw [e]; exact Or.inl ⟨rfl, j, j1, by omega, j3⟩
    · refine Or.inr ⟨fun j j1 j2 w => ?_, ?_⟩
      · rcases lt j j2 with q | q
        · exact n1 j j1 q w
        · rw [q] at w; exact c1 w.1
      · rcases h with ⟨e, j, j1, j2, j3⟩ | ⟨e, h⟩
        · rw [e]; exact Or.inl ⟨rfl, j, j1, by omega, j3⟩
        · rw [e]; refine Or.inr ⟨rfl, fun j j1 j2 w => ?_⟩
          rcases lt j j2 with q | q
          · exact h j j1 q w
          · rw [q] at w; exact c1 w
theorem max_i {a b : Nat} (ha : a < 100) (hb' : b < 100) : (if nI a < nI b then nI b else nI a) = nI (max a b) := by
  by_cases h : a < b
  · rw [if_pos (nI_lt h (by omega)), show max a b = b by omega]
  · rw [if_neg (fun w => by rw [nI_lt_iff (by omega) (by omega)] at w; exact h w), show max a b = a by omega]
theorem Mx_v {og : Option Nat} {p c : Nat} {al : Int32} {i v : Nat} (h : Mx og p c al i v) : v < 7 := by
  rcases h with ⟨e, -⟩ | ⟨-, ⟨e, -⟩ | ⟨e, -⟩⟩ <;> omega
theorem lo_hi (og : Option Nat) : lo og ≤ hi og ∧ hi og ≤ 22 := by
  cases og with
  | none => exact ⟨by decide, by decide⟩
  | some o => exact ⟨show 0 ≤ 19 by decide, show 19 ≤ 22 by decide⟩
theorem x_tryMoods {F : Nat} (hF : 2 ^ 40 < F) {X : Zs} {e p c : Nat} {og : Option Nat} (he : e < 40) (hp : p < 2304) (ho : ∀ o, og = some o → o < 2304) (h42 : X.1 42 e = nI c) (hc : c < 2304) : ∃ q : Nat × Nat, MS og p c (X.1 0 66) (X.1 0 65) q.1 q.2 ∧ n_X3_tryMoods_41 F X (nI e) (nI p) (oN og) = some (nI q.1, if q.1 = 0 then zp X 46 e (nI q.2) else X) := by
  obtain ⟨lh, h22⟩ := lo_hi og
  have e0 : n_X3_tryMoods_41 F X (nI e) (nI p) (oN og) = n_X3_tryMoods_41_b34 F X (nI e) (nI p) (oN og) 4 (nI (hi og)) (nI (lo og)) := by
    unfold n_X3_tryMoods_41 n_X3_tryMoods_41_e n_X3_tryMoods_41_b14 n_X3_tryMoods_41_b28
    cases og with
    | none => rw [if_pos (show oN none = -1 from rfl), if_pos (show oN none = -1 from rfl)]; rfl
    | some o =>
      have hne : ¬ oN (some o) = -1 := nI_ne_m1 (by have := ho o rfl; omega)
      rw [if_neg hne, if_neg hne]; rfl
  rw [e0]
  exact zfix_for (f := fun (rc : (Zs × Int32 × Int32 × Int32 × Int32 × Int32 × Int32) → Option (Int32 × Zs)) (u : (Zs × Int32 × Int32 × Int32 × Int32 × Int32 × Int32)) => n_X3_tryMoods_41_b34_l F  (fun S x1 x2 x3 x4 x6 x7 => rc (S, x1, x2, x3, x4, x6, x7)) u.1 u.2.1 u.2.2.1 u.2.2.2.1 u.2.2.2.2.1 u.2.2.2.2.2.1 u.2.2.2.2.2.2) (hi og - lo og) (fun i s => ∃ v, s = (X, nI e, nI p, oN og, nI v, nI (hi og), nI (lo og + i)) ∧ (∀ j, lo og ≤ j → j < lo og + i → ¬ Gm og p c (X.1 0 66) (X.1 0 65) j) ∧ Mx og p c (X.1 0 66) (lo og + i) v) (fun q : Nat × Nat => MS og p c (X.1 0 66) (X.1 0 65) q.1 q.2) (fun q => some (nI q.1, if q.1 = 0 then zp X 46 e (nI q.2) else X)) (by
    rintro i _ hi' ⟨v, rfl, hno, hmx⟩
    have hk : lo og + i < 22 := by omega
    have hv7 := Mx_v hmx
    have hhv : hv og p c (X.1 0 66) (X.1 0 65) (lo og + i) < 7 := by
      by_cases g : Gm og p c (X.1 0 66) (X.1 0 65) (lo og + i)
      · rw [hv_0.mpr g]; omega
      · rcases hv_n g with ⟨w, -⟩ | ⟨w, -⟩ | ⟨w, -⟩ <;> omega
    have eb : ∀ (rc : (Zs × Int32 × Int32 × Int32 × Int32 × Int32 × Int32) → Option (Int32 × Zs)) (y : Nat), y < 7 → n_X3_tryMoods_41_b101 F (fun S x1 x2 x3 x4 x6 x7 => rc (S, x1, x2, x3, x4, x6, x7)) X (nI e) (nI p) (oN og) (nI v) (nI (hi og)) (nI (lo og + i)) (nI y) = if y = 0 then some (0, zp X 46 e (nI (lo og + i))) else rc (X, nI e, nI p, oN og, nI (max v y), nI (hi og), nI (lo og + (i + 1))) := by
      intro rc y hy
      unfold n_X3_tryMoods_41_b101
      rw [zst_nI _ _ _ _ he (by omega), zlS, zlS, max_i (by omega) (by omega), nI_1, ← Nat.add_assoc]
      by_cases q : y = 0
      · rw [if_pos q, if_pos (by rw [q]; rfl)]
      · rw [if_neg q, if_neg (nI_ne0 (by omega) (by omega))]
    have e1 : ∀ rc : (Zs × Int32 × Int32 × Int32 × Int32 × Int32 × Int32) → Option (Int32 × Zs), n_X3_tryMoods_41_b34_l F (fun S x1 x2 x3 x4 x6 x7 => rc (S, x1, x2, x3, x4, x6, x7)) X (nI e) (nI p) (oN og) (nI v) (nI (hi og)) (nI (lo og + i)) = if hv og p c (X.1 0 66) (X.1 0 65) (lo og + i) = 0 then some (0, zp X 46 e (nI (lo og + i))) else rc (X, nI e, nI p, oN og, nI (max v (hv og p c (X.1 0 66) (X.1 0 65) (lo og + i))), nI (hi og), nI (lo og + (i + 1))) := by
      intro rc
      rw [← eb rc _ hhv]
      unfold n_X3_tryMoods_41_b34_l n_X3_tryMoods_41_b99
      rw [if_neg (nI_ge (by omega) (by omega)), zld_nI _ _ _ he (by omega), h42]
      cases og with
      | none =>
        have t1 : n_X3_tryMood_41 F X (nI (lo none + i)) (nI p) (oN none) (nI c) = _ := x_tryMood (F := F) (d := 0) (z := oN none) X hk hp hc (fun w => absurd w (by show ¬ 19 + i < 19; omega))
        rw [t1, zcS, if_pos (show oN none = -1 from rfl), ite_self]; rfl
      | some o =>
        have ho' := ho o rfl
        have t1 : n_X3_tryMood_41 F X (nI (lo (some o) + i)) (nI p) (nI o) (nI c) = _ := x_tryMood (F := F) (d := o) (z := nI o) X hk hp hc (fun _ => ⟨rfl, ho'⟩)
        have t2 : n_X3_tryMood_41 F X (nI (lo (some o) + i)) (nI o) (nI p) (nI c) = _ := x_tryMood (F := F) (d := p) (z := nI p) X hk ho' hc (fun _ => ⟨rfl, hp⟩)
        have b1 := tv_v (lo (some o) + i) p o c (X.1 0 66) (X.1 0 65)
        have b2 := tv_v (lo (some o) + i) o p c (X.1 0 66) (X.1 0 65)
        have e : hv (some o) p c (X.1 0 66) (X.1 0 65) (lo (some o) + i) = if tv (lo (some o) + i) p o c (X.1 0 66) (X.1 0 65) = 0 then 0 else if tv (lo (some o) + i) o p c (X.1 0 66) (X.1 0 65) = 0 then 0 else max (tv (lo (some o) + i) p o c (X.1 0 66) (X.1 0 65)) (tv (lo (some o) + i) o p c (X.1 0 66) (X.1 0 65)) := rfl
        rw [e, show oN (some o) = nI o from rfl, t1, zcS, if_neg (nI_ne_m1 (by omega)), zld_nI _ _ _ he (by omega), h42, t2, zcS, zlS]
        generalize tv (lo (some o) + i) p o c (X.1 0 66) (X.1 0 65) = y1 at *
        generalize tv (lo (some o) + i) o p c (X.1 0 66) (X.1 0 65) = y2 at *
        rw [max_i (by omega) (by omega)]
        by_cases q1 : y1 = 0
        · rw [if_pos q1, if_pos (show nI y1 = 0 by rw [q1]; rfl), q1]
        · rw [if_neg q1, if_neg (nI_ne0 (by omega) (by omega))]
          by_cases q2 : y2 = 0
          · rw [if_pos q2, if_pos (show nI y2 = 0 by rw [q2]; rfl)]; rfl
          · rw [if_neg q2, if_neg (nI_ne0 (by omega) (by omega))]
    by_cases g : Gm og p c (X.1 0 66) (X.1 0 65) (lo og + i)
    · exact Or.inl ⟨(0, lo og + i), Or.inl ⟨rfl, Nat.le_add_right _ _, by show lo og + i < hi og; omega, g, hno⟩, fun rc => (e1 rc).trans (by rw [if_pos (hv_0.mpr g)]; rfl)⟩
    · refine Or.inr ⟨_, ⟨_, rfl, fun j j1 j2 => ?_, Mx_s hmx (Nat.le_add_right _ _) g⟩, fun rc => (e1 rc).trans (if_neg (fun w => g (hv_0.mp w)))⟩
      by_cases q : j = lo og + i
      · rw [q]; exact g
      · exact hno j j1 (by omega)) (by
    rintro _ ⟨v, rfl, hno, hmx⟩
    rw [show lo og + (hi og - lo og) = hi og by omega] at hno hmx ⊢
    have hv7 := Mx_v hmx
    have hv0 : ¬ v = 0 := by
      rcases hmx with ⟨e, -⟩ | ⟨-, ⟨e, -⟩ | ⟨e, -⟩⟩ <;> omega
    refine ⟨(v, 0), Or.inr ⟨hno, hmx⟩, fun rc => ?_⟩
    show n_X3_tryMoods_41_b34_l F (fun S x1 x2 x3 x4 x6 x7 => rc (S, x1, x2, x3, x4, x6, x7)) X (nI e) (nI p) (oN og) (nI v) (nI (hi og)) (nI (hi og)) = _
    unfold n_X3_tryMoods_41_b34_l
    rw [if_pos (nI_le (by omega) (by omega)), if_neg hv0]) F (X, nI e, nI p, oN og, 4, nI (hi og), nI (lo og)) ⟨4, rfl, fun j j1 j2 => absurd j2 (by omega), Or.inr ⟨fun j j1 j2 => absurd j2 (by omega), Or.inr ⟨rfl, fun j j1 j2 => absurd j2 (by omega)⟩⟩⟩ (by omega)
-- the reference
/-- a mood does, if life is asked for or not -/
def Pm (og : Option Nat) (p c : Nat) (wl : Int32) (lv : Int32) (k : Nat) : Prop := match og with
  | none => cn k p 0 = some c ∧ (wl = 0 ∨ alB k p lv = true)
  | some o => (cn k p o = some c ∧ (wl = 0 ∨ alB k p lv = true)) ∨ (cn k o p = some c ∧ (wl = 0 ∨ alB k o lv = true))
theorem oM_eq {wl : Int32} {al : Bool} {o : Option Nat} {c : Nat} (hc : c < 2304) (ho : ∀ v, o = some v → v < 2304) : oM wl al o = nI c ↔ o = some c ∧ (wl = 0 ∨ al = true) := by
  cases o with
  | none => exact ⟨fun w => absurd w.symm (nI_ne_m1 (by omega)), fun w => absurd w.1 (by simp)⟩
  | some v =>
    have hv := ho v rfl
    by_cases g : wl = 0 ∨ al = true
    · rw [oM_t g, nI_eq (by omega) (by omega)]
      exact ⟨fun w => ⟨by rw [w], g⟩, fun w => Option.some.inj w.1⟩
    · rw [oM_f g]
      exact ⟨fun w => absurd w.symm (nI_ne_m1 (by omega)), fun w => absurd w.2 g⟩
theorem m_moodFor {F : Nat} (hF : 2 ^ 40 < F) (M : Zs) {p c : Nat} {og : Option Nat} (hp : p < 2304) (ho : ∀ o, og = some o → o < 2304) (hc : c < 2304) (mo wl : Int32) : ∃ v, ((v = -1 ∧ ∀ j, lo og ≤ j → j < hi og → ¬ (hb mo j = true ∧ Pm og p c wl (M.1 0 8) j)) ∨ ∃ k, v = nI k ∧ lo og ≤ k ∧ k < hi og ∧ (hb mo k = true ∧ Pm og p c wl (M.1 0 8) k) ∧ ∀ j, lo og ≤ j → j < k → ¬ (hb mo j = true ∧ Pm og p c wl (M.1 0 8) j)) ∧ n_X12_moodFor_0 F M mo (nI p) (oN og) (nI c) wl = some (v, M) := by
  obtain ⟨lh, h22⟩ := lo_hi og
  have e0 : n_X12_moodFor_0 F M mo (nI p) (oN og) (nI c) wl = n_X12_moodFor_0_b12 F M mo (nI p) (oN og) (nI c) wl (nI (lo og)) := by
    unfold n_X12_moodFor_0 n_X12_moodFor_0_e n_X12_moodFor_0_b10
    cases og with
    | none => rw [if_neg (show ¬ (0 : Int32) ≤ oN none by decide)]; rfl
    | some o => rw [if_pos (show (0 : Int32) ≤ oN (some o) from Int32.not_lt.mp (nI_pos (by have := ho o rfl; omega)))]; rfl
  rw [e0]
  exact zfix_for (f := fun (rc : (Zs × Int32 × Int32 × Int32 × Int32 × Int32 × Int32) → Option (Int32 × Zs)) (u : (Zs × Int32 × Int32 × Int32 × Int32 × Int32 × Int32)) => n_X12_moodFor_0_b12_l F  (fun S x1 x2 x3 x4 x5 x6 => rc (S, x1, x2, x3, x4, x5, x6)) u.1 u.2.1 u.2.2.1 u.2.2.2.1 u.2.2.2.2.1 u.2.2.2.2.2.1 u.2.2.2.2.2.2) (hi og - lo og) (fun i s => s = (M, mo, nI p, oN og, nI c, wl, nI (lo og + i)) ∧ ∀ j, lo og ≤ j → j < lo og + i → ¬ (hb mo j = true ∧ Pm og p c wl (M.1 0 8) j)) (fun v : Int32 => (v = -1 ∧ ∀ j, lo og ≤ j → j < hi og → ¬ (hb mo j = true ∧ Pm og p c wl (M.1 0 8) j)) ∨ ∃ k, v = nI k ∧ lo og ≤ k ∧ k < hi og ∧ (hb mo k = true ∧ Pm og p c wl (M.1 0 8) k) ∧ ∀ j, lo og ≤ j → j < k → ¬ (hb mo j = true ∧ Pm og p c wl (M.1 0 8) j)) (fun v => some (v, M)) (by
    rintro i _ hi' ⟨rfl, hno⟩
    have hk : lo og + i < 22 := by omega
    have b67 : ∀ (rc : (Zs × Int32 × Int32 × Int32 × Int32 × Int32 × Int32) → Option (Int32 × Zs)) (t : Int32), n_X12_moodFor_0_b67 F (fun S x1 x2 x3 x4 x5 x6 => rc (S, x1, x2, x3, x4, x5, x6)) M mo (nI p) (oN og) (nI c) wl (nI (lo og + i)) t = if hb mo (lo og + i) = true ∧ ¬ t = 0 then some (nI (lo og + i), M) else rc (M, mo, nI p, oN og, nI c, wl, nI (lo og + (i + 1))) := by
      intro rc t
      unfold n_X12_moodFor_0_b67 n_X12_moodFor_0_b86
      rw [e_has F _ _ (show lo og + i < 32 by omega), zcS, zlS, nI_1, ← Nat.add_assoc]
      by_cases q : hb mo (lo og + i) = true
      · rw [bI_t q, if_neg (by decide)]
        by_cases q2 : t = 0
        · rw [if_pos q2, if_neg (fun w => w.2 q2)]
        · rw [if_neg q2, if_pos ⟨q, q2⟩]
      · rw [bI_f q, if_pos rfl, if_neg (fun w => q w.1)]
    have e1 : ∀ rc : (Zs × Int32 × Int32 × Int32 × Int32 × Int32 × Int32) → Option (Int32 × Zs), n_X12_moodFor_0_b12_l F (fun S x1 x2 x3 x4 x5 x6 => rc (S, x1, x2, x3, x4, x5, x6)) M mo (nI p) (oN og) (nI c) wl (nI (lo og + i)) = n_X12_moodFor_0_b25 F (fun S x1 x2 x3 x4 x5 x6 => rc (S, x1, x2, x3, x4, x5, x6)) M mo (nI p) (oN og) (nI c) wl (nI (lo og + i)) (nI (hi og)) (nI (lo og + i)) := by
      intro rc
      unfold n_X12_moodFor_0_b12_l
      cases og with
      | none => rw [if_neg (show ¬ (0 : Int32) ≤ oN none by decide)]; rfl
      | some o => rw [if_pos (show (0 : Int32) ≤ oN (some o) from Int32.not_lt.mp (nI_pos (by have := ho o rfl; omega)))]; rfl
    have e2 : ∀ rc : (Zs × Int32 × Int32 × Int32 × Int32 × Int32 × Int32) → Option (Int32 × Zs), (Pm og p c wl (M.1 0 8) (lo og + i) → n_X12_moodFor_0_b25 F (fun S x1 x2 x3 x4 x5 x6 => rc (S, x1, x2, x3, x4, x5, x6)) M mo (nI p) (oN og) (nI c) wl (nI (lo og + i)) (nI (hi og)) (nI (lo og + i)) = n_X12_moodFor_0_b67 F (fun S x1 x2 x3 x4 x5 x6 => rc (S, x1, x2, x3, x4, x5, x6)) M mo (nI p) (oN og) (nI c) wl (nI (lo og + i)) 1) ∧ (¬ Pm og p c wl (M.1 0 8) (lo og + i) → n_X12_moodFor_0_b25 F (fun S x1 x2 x3 x4 x5 x6 => rc (S, x1, x2, x3, x4, x5, x6)) M mo (nI p) (oN og) (nI c) wl (nI (lo og + i)) (nI (hi og)) (nI (lo og + i)) = n_X12_moodFor_0_b67 F (fun S x1 x2 x3 x4 x5 x6 => rc (S, x1, x2, x3, x4, x5, x6)) M mo (nI p) (oN og) (nI c) wl (nI (lo og + i)) 0) := by
      intro rc
      unfold n_X12_moodFor_0_b25 n_X12_moodFor_0_b62 n_X12_moodFor_0_b66 Pm
      rw [if_neg (nI_ge (by omega) (by omega))]
      cases og with
      | none =>
        have t1 : n_X12_proves_0 F M (nI (lo none + i)) (nI p) (oN none) wl = _ := m_proves hF (d := 0) (z := oN none) (wl := wl) M hk hp (fun w => absurd w (by show ¬ 19 + i < 19; omega))
        have q := oM_eq (wl := wl) (al := alB (lo none + i) p (M.1 0 8)) hc (fun v hv' => cn_lt (k := lo none + i) (d := 0) hp hv')
        rw [t1, zcS, if_pos (show oN none < 0 by decide)]
        exact ⟨fun w => by rw [if_pos (q.mpr w)], fun w => by rw [if_neg (fun z => w (q.mp z))]⟩
      | some o =>
        have ho' := ho o rfl
        have t1 : n_X12_proves_0 F M (nI (lo (some o) + i)) (nI p) (oN (some o)) wl = _ := m_proves hF (d := o) (z := nI o) (wl := wl) M hk hp (fun _ => ⟨rfl, ho'⟩)
        have t2 : n_X12_proves_0 F M (nI (lo (some o) + i)) (oN (some o)) (nI p) wl = _ := m_proves hF (d := p) (z := nI p) (wl := wl) M hk ho' (fun _ => ⟨rfl, hp⟩)
        have q1 := oM_eq (wl := wl) (al := alB (lo (some o) + i) p (M.1 0 8)) hc (fun v hv' => cn_lt (k := lo (some o) + i) (d := o) hp hv')
        have q2 := oM_eq (wl := wl) (al := alB (lo (some o) + i) o (M.1 0 8)) hc (fun v hv' => cn_lt (k := lo (some o) + i) (d := p) ho' hv')
        rw [t1, zcS, if_neg (show ¬ oN (some o) < 0 from nI_pos (by omega)), t2, zcS]
        refine ⟨fun w => ?_, fun w => ?_⟩
        · rcases w with w | w
          · rw [if_pos (q1.mpr w)]
          · by_cases z : oM wl (alB (lo (some o) + i) p (M.1 0 8)) (cn (lo (some o) + i) p o) = nI c
            · rw [if_pos z]
            · rw [if_neg z, if_pos (q2.mpr w)]
        · rw [if_neg (fun z => w (Or.inl (q1.mp z))), if_neg (fun z => w (Or.inr (q2.mp z)))]
    have skip : ¬ (hb mo (lo og + i) = true ∧ Pm og p c wl (M.1 0 8) (lo og + i)) → ∀ j, lo og ≤ j → j < lo og + (i + 1) → ¬ (hb mo j = true ∧ Pm og p c wl (M.1 0 8) j) := by
      intro g j j1 j2
      by_cases q : j = lo og + i
      · rw [q]; exact g
      · exact hno j j1 (by omega)
    by_cases g : Pm og p c wl (M.1 0 8) (lo og + i)
    · by_cases g2 : hb mo (lo og + i) = true
      · exact Or.inl ⟨nI (lo og + i), Or.inr ⟨_, rfl, by omega, by omega, ⟨g2, g⟩, hno⟩, fun rc => (e1 rc).trans (((e2 rc).1 g).trans ((b67 rc 1).trans (if_pos ⟨g2, by decide⟩)))⟩
      · exact Or.inr ⟨_, ⟨rfl, skip fun w => g2 w.1⟩, fun rc => (e1 rc).trans (((e2 rc).1 g).trans ((b67 rc 1).trans (if_neg (fun w => g2 w.1))))⟩
    · exact Or.inr ⟨_, ⟨rfl, skip fun w => g w.2⟩, fun rc => (e1 rc).trans (((e2 rc).2 g).trans ((b67 rc 0).trans (if_neg (fun w => w.2 rfl))))⟩) (by
    rintro _ ⟨rfl, hno⟩
    rw [show lo og + (hi og - lo og) = hi og by omega] at hno ⊢
    refine ⟨-1, Or.inl ⟨rfl, hno⟩, fun rc => ?_⟩
    show n_X12_moodFor_0_b12_l F (fun S x1 x2 x3 x4 x5 x6 => rc (S, x1, x2, x3, x4, x5, x6)) M mo (nI p) (oN og) (nI c) wl (nI (hi og)) = _
    unfold n_X12_moodFor_0_b12_l n_X12_moodFor_0_b25
    cases og with
    | none => rw [if_neg (show ¬ (0 : Int32) ≤ oN none by decide), if_pos (by decide)]
    | some o => rw [if_pos (show (0 : Int32) ≤ oN (some o) from Int32.not_lt.mp (nI_pos (by have := ho o rfl; omega))), if_pos (by show (19 : Int32) ≤ nI 19; decide)]) F (M, mo, nI p, oN og, nI c, wl, nI (lo og)) ⟨rfl, fun j j1 j2 => absurd j2 (by omega)⟩ (by omega)
