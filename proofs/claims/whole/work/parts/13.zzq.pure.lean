/-! proofs: which words the moods make -/
def hpB : List Bool → Bool
  | x :: y :: w => (x == y) || hpB (y :: w)
  | _ => false
theorem hp_iff : ∀ w, hpB w = true ↔ ∃ u x v, w = u ++ x :: x :: v := by
  intro w
  induction w with
  | nil => exact ⟨fun h => absurd h (by decide), fun ⟨u, x, v, h⟩ => by cases u <;> simp at h⟩
  | cons y w ih =>
    cases w with
    | nil => exact ⟨fun h => absurd (show false = true from h) (by decide), fun ⟨u, x, v, h⟩ => by cases u <;> simp at h⟩
    | cons z w =>
      rw [show hpB (y :: z :: w) = ((y == z) || hpB (z :: w)) from rfl, Bool.or_eq_true, ih, beq_iff_eq]
      constructor
      · rintro (rfl | ⟨u, x, v, h⟩)
        · exact ⟨[], y, w, rfl⟩
        · exact ⟨y :: u, x, v, by rw [h]; rfl⟩
      · rintro ⟨u, x, v, h⟩
        cases u with
        | nil =>
          rw [List.nil_append] at h
          injection h with h1 h2
          injection h2 with h2 h3
          exact Or.inl (h1.trans h2.symm)
        | cons y' u =>
          injection h with h1 h2
          exact Or.inr ⟨u, x, v, h2⟩
theorem hp_l {u v : List Bool} (h : hpB u = true) : hpB (u ++ v) = true := by
  obtain ⟨a, x, b, e⟩ := (hp_iff u).mp h
  exact (hp_iff _).mpr ⟨a, x, b ++ v, by rw [e]; simp⟩
theorem hp_r {u v : List Bool} (h : hpB v = true) : hpB (u ++ v) = true := by
  obtain ⟨a, x, b, e⟩ := (hp_iff v).mp h
  exact (hp_iff _).mpr ⟨u ++ a, x, b, by rw [e]; simp⟩
theorem hp_wt {w : List Bool} (h : hpB w = true) : hpB (wt w) = true := by
  obtain ⟨a, x, b, e⟩ := (hp_iff w).mp h
  refine (hp_iff _).mpr ⟨wt b, !x, wt a, ?_⟩
  rw [e, wt_app, show x :: x :: b = [x] ++ ([x] ++ b) from rfl, wt_app, wt_app, wt_one]
  simp
theorem hp_snoc : ∀ (w : List Bool) x, hpB (w ++ [x]) = (hpB w || (w.getLast? == some x)) := by
  intro w x
  induction w with
  | nil => rfl
  | cons y w ih =>
    cases w with
    | nil => cases x <;> cases y <;> rfl
    | cons z w =>
      rw [show hpB (y :: z :: w) = ((y == z) || hpB (z :: w)) from rfl, show y :: z :: w ++ [x] = y :: z :: (w ++ [x]) from rfl, show hpB (y :: z :: (w ++ [x])) = ((y == z) || hpB (z :: (w ++ [x]))) from rfl, show z :: (w ++ [x]) = z :: w ++ [x] from rfl, ih, show (y :: z :: w).getLast? = (z :: w).getLast? from by rw [List.getLast?_cons_cons], Bool.or_assoc]
/-- a word ends -/
theorem w_last {w : List Bool} (h : w ≠ []) : ∃ u x, w = u ++ [x] := ⟨w.dropLast, w.getLast h, (List.dropLast_concat_getLast h).symm⟩
-- with moods 19 and 20 and any that composes
theorem lang_t {D : List Bool → Prop} (h1 : D [true]) (h2 : D [false]) (hx : ∀ c w, w ≠ [] → D [c] → D [!c] → D w → D (wt w) → D ([c] ++ w)) : ∀ n (w : List Bool), w.length ≤ n → w ≠ [] → D w := by
  have hd : ∀ c, D [c] := fun c => by cases c; exact h2; exact h1
  intro n
  induction n with
  | zero => intro w h g; exact absurd (List.length_eq_zero_iff.mp (by omega)) g
  | succ n ih =>
    intro w h g
    cases w with
    | nil => exact absurd rfl g
    | cons c w =>
      by_cases e : w = []
      · rw [e]; exact hd c
      · have hl : w.length ≤ n := by rw [List.length_cons] at h; omega
        exact hx c w e (hd c) (hd _) (ih w hl e) (ih (wt w) (by rw [wt_len]; exact hl) (wt_nil e))
theorem lang_c {D : List Bool → Prop} (h1 : D [true]) (hc : ∀ u v, u ≠ [] → v ≠ [] → D u → D v → D (u ++ v)) : ∀ w : List Bool, w ≠ [] → (∀ x ∈ w, x = true) → D w := by
  intro w
  induction w with
  | nil => exact fun g _ => absurd rfl g
  | cons c w ih =>
    intro _ g
    have e : c = true := g c (by simp)
    rw [e]
    by_cases q : w = []
    · rw [q]; exact h1
    · exact hc [true] w (by simp) q h1 (ih q fun x hx => g x (by simp [hx]))
theorem lang_cr2 {D : List Bool → Prop} (h1 : D [true]) (hc : ∀ u v, u ≠ [] → v ≠ [] → D u → D v → D (u ++ v)) (h2 : ∀ u v, u ≠ [] → v ≠ [] → D u → D (wt v) → D (u ++ v)) : ∀ n (w : List Bool), w.length ≤ n → D (true :: w) := by
  intro n
  induction n with
  | zero => intro w h; rw [List.length_eq_zero_iff.mp (show w.length = 0 by omega)]; exact h1
  | succ n ih =>
    intro w h
    by_cases e : w = []
    · rw [e]; exact h1
    · obtain ⟨u, x, q⟩ := w_last e
      have hu := ih u (by rw [q, List.length_append] at h; simp at h; omega)
      rw [q, show true :: (u ++ [x]) = (true :: u) ++ [x] from rfl]
      cases x with
      | true => exact hc _ _ (by simp) (by simp) hu h1
      | false => exact h2 _ _ (by simp) (by simp) hu h1
theorem ts_in : ∀ r : List Bool, r = [] ∨ (∃ u, r = true :: u) ∨ (∃ u, r = u ++ [false]) ∨ ∃ u v, r = u ++ false :: true :: v := by
  intro r
  induction r with
  | nil => exact Or.inl rfl
  | cons x r ih =>
    cases x with
    | true => exact Or.inr (Or.inl ⟨r, rfl⟩)
    | false =>
      refine Or.inr (Or.inr ?_)
      rcases ih with e | ⟨u, e⟩ | ⟨u, e⟩ | ⟨u, v, e⟩
      · exact Or.inl ⟨[], by rw [e]; rfl⟩
      · exact Or.inr ⟨[], u, by rw [e]; rfl⟩
      · exact Or.inl ⟨false :: u, by rw [e]; rfl⟩
      · exact Or.inr ⟨false :: u, v, by rw [e]; rfl⟩
theorem lang_r2 {D : List Bool → Prop} (h1 : D [true]) (h2 : ∀ u v, u ≠ [] → v ≠ [] → D u → D (wt v) → D (u ++ v)) : ∀ n (r : List Bool), r.length ≤ n → D (true :: (r ++ [false])) := by
  have e2 : ∀ r, wt (true :: (r ++ [false])) = true :: (wt r ++ [false]) := fun r => by
    rw [show true :: (r ++ [false]) = [true] ++ (r ++ [false]) from rfl, wt_app, wt_app]; rfl
  intro n
  induction n with
  | zero =>
    intro r h
    rw [List.length_eq_zero_iff.mp (show r.length = 0 by omega)]
    exact h2 [true] [false] (by simp) (by simp) h1 h1
  | succ n ih =>
    intro r h
    rcases ts_in r with e | ⟨u, e⟩ | ⟨u, e⟩ | ⟨u, v, e⟩
    · rw [e]; exact h2 [true] [false] (by simp) (by simp) h1 h1
    · rw [e, show true :: (true :: u ++ [false]) = [true] ++ (true :: (u ++ [false])) from rfl]
      refine h2 _ _ (by simp) (by simp) h1 ?_
      rw [e2]
      exact ih (wt u) (by rw [wt_len]; rw [e, List.length_cons] at h; omega)
    · rw [e, show true :: (u ++ [false] ++ [false]) = (true :: (u ++ [false])) ++ [false] from rfl]
      exact h2 _ _ (by simp) (by simp) (ih u (by rw [e, List.length_append] at h; simp at h; omega)) h1
    · rw [e, show true :: (u ++ false :: true :: v ++ [false]) = (true :: (u ++ [false])) ++ (true :: (v ++ [false])) by simp]
      have hl : u.length ≤ n ∧ v.length ≤ n := by rw [e, List.length_append] at h; simp at h; omega
      refine h2 _ _ (by simp) (by simp) (ih u hl.1) ?_
      rw [e2]
      exact ih (wt v) (by rw [wt_len]; exact hl.2)
theorem lang_cr3 {D : List Bool → Prop} (h1 : D [true]) (hc : ∀ u v, u ≠ [] → v ≠ [] → D u → D v → D (u ++ v)) (h3 : ∀ u v, u ≠ [] → v ≠ [] → D (wt u) → D (wt v) → D (u ++ v)) : ∀ n (w : List Bool), w.length ≤ n → hpB w = true → D w := by
  intro n
  induction n with
  | zero => intro w h g; rw [List.length_eq_zero_iff.mp (show w.length = 0 by omega)] at g; exact absurd g (by decide)
  | succ n ih =>
    intro w h g
    obtain ⟨u, x, v, e⟩ := (hp_iff w).mp g
    cases u with
    | cons c u =>
      have hr : hpB (u ++ x :: x :: v) = true := (hp_iff _).mpr ⟨u, x, v, rfl⟩
      rw [e, show c :: u ++ x :: x :: v = [c] ++ (u ++ x :: x :: v) from rfl]
      have hl : (u ++ x :: x :: v).length ≤ n := by rw [e, List.cons_append, List.length_cons] at h; omega
      cases c with
      | true => exact hc _ _ (by simp) (by simp) h1 (ih _ hl hr)
      | false => exact h3 _ _ (by simp) (by simp) h1 (ih _ (by rw [wt_len]; exact hl) (hp_wt hr))
    | nil =>
      rw [List.nil_append] at e
      by_cases q : v = []
      · rw [e, q]
        cases x with
        | true => exact hc [true] [true] (by simp) (by simp) h1 h1
        | false => exact h3 [false] [false] (by simp) (by simp) h1 h1
      · obtain ⟨v2, y, q2⟩ := w_last q
        have hr : hpB (x :: x :: v2) = true := (hp_iff _).mpr ⟨[], x, v2, rfl⟩
        have hl : (x :: x :: v2).length ≤ n := by rw [e, q2] at h; simp at h; simp; omega
        rw [e, q2, show x :: x :: (v2 ++ [y]) = (x :: x :: v2) ++ [y] from rfl]
        cases y with
        | true => exact hc _ _ (by simp) (by simp) (ih _ hl hr) h1
        | false => exact h3 _ _ (by simp) (by simp) (ih _ (by rw [wt_len]; exact hl) (hp_wt hr)) h1
theorem lang_r23 {D : List Bool → Prop} (h1 : D [true]) (h2 : ∀ u v, u ≠ [] → v ≠ [] → D u → D (wt v) → D (u ++ v)) (h3 : ∀ u v, u ≠ [] → v ≠ [] → D (wt u) → D (wt v) → D (u ++ v)) : ∀ n (w : List Bool), w.length ≤ n → 4 ≤ w.length → D w := by
  have s := true
  have hm : ∀ c v, v ≠ [] → D (wt v) → D ([c] ++ v) := fun c v hv h => by
    cases c with
    | true => exact h2 _ _ (by simp) hv h1 h
    | false => exact h3 _ _ (by simp) hv h1 h
  have st : D [true, false] := hm true [false] (by simp) h1
  have tt : D [false, false] := hm false [false] (by simp) h1
  have sst : D [true, true, false] := hm true [true, false] (by simp) st
  have tst : D [false, true, false] := hm false [true, false] (by simp) st
  have sss : D [true, true, true] := hm true [true, true] (by simp) tt
  have tss : D [false, true, true] := hm false [true, true] (by simp) tt
  have stt : D [true, false, false] := h2 [true, false] [false] (by simp) (by simp) st h1
  have ttt : D [false, false, false] := h2 [false, false] [false] (by simp) (by simp) tt h1
  have wd : ∀ a b c, D [a, b, c] ∨ (a = true ∧ b = false ∧ c = true) ∨ (a = false ∧ b = false ∧ c = true) := by
    intro a b c
    cases a <;> cases b <;> cases c <;> simp [*]
  have four : ∀ a b c d, D [a, b, c, d] := by
    intro a b c d
    rcases wd (!d) (!c) (!b) with h | ⟨e1, e2, e3⟩ | ⟨e1, e2, e3⟩
    · exact hm a [b, c, d] (by simp) h
    · have : b = false ∧ c = true ∧ d = false := by cases b <;> cases c <;> cases d <;> simp_all
      rw [this.1, this.2.1, this.2.2]
      cases a with
      | true => exact h2 [true, false] [true, false] (by simp) (by simp) st st
      | false => exact h2 [false, false] [true, false] (by simp) (by simp) tt st
    · have : b = false ∧ c = true ∧ d = true := by cases b <;> cases c <;> cases d <;> simp_all
      rw [this.1, this.2.1, this.2.2]
      cases a with
      | true => exact h2 [true, false] [true, true] (by simp) (by simp) st tt
      | false => exact h2 [false, false] [true, true] (by simp) (by simp) tt tt
  intro n
  induction n with
  | zero => intro w h g; omega
  | succ n ih =>
    intro w h g
    cases w with
    | nil => exact absurd g (by simp)
    | cons c w =>
      rw [List.length_cons] at h g
      by_cases e : 4 ≤ w.length
      · exact hm c w (fun q => by rw [q] at e; exact absurd e (by simp)) (ih (wt w) (by rw [wt_len]; omega) (by rw [wt_len]; exact e))
      · match w, g, e with
        | [x, y, z], _, _ => exact four c x y z
        | [], g, _ => exact absurd g (by simp)
        | [x], g, _ => exact absurd g (by simp)
        | [x, y], g, _ => exact absurd g (by simp)
        | x :: y :: z :: t :: r, _, e => exact absurd (by simp) e
/-- straight edges less turned ones, by threes -/
def dl : List Bool → Nat
  | [] => 0
  | x :: w => (if x then 1 else 2) + dl w
theorem dl_app : ∀ u v, dl (u ++ v) = dl u + dl v := by
  intro u v
  induction u with
  | nil => show dl v = 0 + dl v; omega
  | cons x u ih => show (if x = true then 1 else 2) + dl (u ++ v) = (if x = true then 1 else 2) + dl u + dl v; rw [ih]; omega
theorem dl_wt : ∀ w, dl (wt w) + dl w = 3 * w.length := by
  intro w
  induction w with
  | nil => rfl
  | cons x w ih =>
    rw [show x :: w = [x] ++ w from rfl, wt_app, dl_app, dl_app, List.length_append, wt_one]
    cases x with
    | true => show dl (wt w) + 2 + (1 + dl w) = 3 * (1 + w.length); omega
    | false => show dl (wt w) + 1 + (2 + dl w) = 3 * (1 + w.length); omega
theorem nhp : ∀ (r : List Bool) c, hpB (c :: r) = false → ∃ r1 e, c :: r = r1 ++ [e] ∧ dl (c :: r) % 3 = (if c = e then (if c then 1 else 2) else 0) := by
  intro r
  induction r with
  | nil => intro c _; exact ⟨[], c, rfl, by cases c <;> rfl⟩
  | cons d r ih =>
    intro c h
    rw [show hpB (c :: d :: r) = ((c == d) || hpB (d :: r)) from rfl, Bool.or_eq_false_iff] at h
    obtain ⟨r1, e, e1, e2⟩ := ih d h.2
    refine ⟨c :: r1, e, by rw [e1]; rfl, ?_⟩
    have hcd : c ≠ d := by simpa using h.1
    rw [show dl (c :: d :: r) = (if c then 1 else 2) + dl (d :: r) from rfl]
    cases c <;> cases d <;> cases e <;> simp at hcd e2 ⊢ <;> omega
theorem lang_r3 {D : List Bool → Prop} (h1 : D [true]) (h3 : ∀ u v, u ≠ [] → v ≠ [] → D (wt u) → D (wt v) → D (u ++ v)) : ∀ n (w : List Bool), w.length ≤ n → hpB w = true → dl w % 3 = 1 → D w := by
  intro n
  induction n with
  | zero => intro w h g; rw [List.length_eq_zero_iff.mp (show w.length = 0 by omega)] at g; exact absurd g (by decide)
  | succ n ih =>
    intro w h g gd
    have hG : ∀ v : List Bool, v.length ≤ n → hpB v = true → dl v % 3 = 2 → D (wt v) := fun v a b c => ih (wt v) (by rw [wt_len]; exact a) (hp_wt b) (by have := dl_wt v; omega)
    have nn : ∀ v : List Bool, hpB v = true → v ≠ [] := fun v a b => by rw [b] at a; exact absurd a (by decide)
    have c1 : ∀ u, w = u ++ [false] → hpB u = true → D w := fun u e b => by
      rw [e, dl_app, show dl [false] = 2 from rfl] at gd
      have hl : u.length ≤ n := by rw [e, List.length_append] at h; simp at h; omega
      rw [e]
      exact h3 u [false] (nn u b) (by simp) (hG u hl b (by omega)) h1
    cases w with
    | nil => exact absurd g (by decide)
    | cons f r =>
      rw [show dl (f :: r) = (if f then 1 else 2) + dl r from rfl] at gd
      rw [List.length_cons] at h
      cases f with
      | false =>
        rw [if_neg (by decide)] at gd
        by_cases b : hpB r = true
        · exact h3 [false] r (by simp) (nn r b) h1 (hG r (by omega) b (by omega))
        · cases r with
          | nil => exact absurd g (by decide)
          | cons x r =>
            obtain ⟨r1, e, e1, e2⟩ := nhp r x (by simpa using b)
            have hxe : x = false ∧ e = false := by
              cases x <;> cases e <;> simp at e2 ⊢ <;> omega
            cases r1 with
            | nil =>
              rw [List.nil_append] at e1
              rw [e1, hxe.2]
              exact h3 [false] [false] (by simp) (by simp) h1 h1
            | cons y r1 =>
              have hy : y = false := by injection e1 with z1 z2; rw [← z1]; exact hxe.1
              refine c1 (false :: y :: r1) (by rw [e1, hxe.2]; rfl) ?_
              rw [hy]; rfl
      | true =>
        rw [if_pos rfl] at gd
        -- the first pair
        have fp : ∀ (z : List Bool) (x : Bool) (v : List Bool), true :: r = z ++ x :: x :: v → hpB (z ++ [x]) = false → D (true :: r) := by
          intro z x v e b
          have first : ∃ z2, z ++ [x] = true :: z2 := by
            cases z with
            | nil => rw [List.nil_append] at e ⊢; injection e with q1 q2; exact ⟨[], by rw [q1]⟩
            | cons y z => injection e with q1 q2; exact ⟨z ++ [x], by rw [q1]; rfl⟩
          obtain ⟨z2, hz⟩ := first
          obtain ⟨r1, y, y1, y2⟩ := nhp z2 true (by rw [← hz]; exact b)
          have hy : y = x := by
            rw [← hz] at y1
            have := congrArg List.getLast? y1
            simp at this
            exact this.symm
          rw [hy, ← hz] at y2
          have eu : true :: r = (z ++ [x, x]) ++ v := by rw [e]; simp
          have du : dl (z ++ [x, x]) % 3 = 2 := by
            rw [show z ++ [x, x] = (z ++ [x]) ++ [x] by simp, dl_app]
            cases x with
            | true => rw [show dl [true] = 1 from rfl]; simp at y2; omega
            | false => rw [show dl [false] = 2 from rfl]; simp at y2; omega
          have hu : hpB (z ++ [x, x]) = true := (hp_iff _).mpr ⟨z, x, [], rfl⟩
          have dv : dl v % 3 = 2 := by
            have q : dl (true :: r) = 1 + dl r := rfl
            rw [eu, dl_app] at q
            omega
          have lens : (z ++ [x, x]).length + v.length = r.length + 1 := by rw [← List.length_append, ← eu]; rfl
          cases hv : v with
          | nil => rw [hv] at dv; exact absurd dv (by decide)
          | cons f v2 =>
            by_cases b2 : hpB v = true
            · rw [eu]
              have lv : 1 ≤ v.length := by rw [hv]; simp
              have lu : 1 ≤ (z ++ [x, x]).length := by simp
              exact h3 _ v (nn _ hu) (nn v b2) (hG _ (by omega) hu du) (hG v (by omega) b2 dv)
            · rw [hv] at b2 dv
              obtain ⟨v1, e', v3, v4⟩ := nhp v2 f (by simpa using b2)
              have he : e' = false := by
                cases f <;> cases e' <;> simp at v4 ⊢ <;> omega
              exact c1 (z ++ [x, x] ++ v1) (by rw [eu, hv, v3, he]; simp) (hp_l hu)
        have ff : ∀ (t u : List Bool), hpB u = false → u ≠ [] → true :: r = u ++ t → D (true :: r) := by
          intro t
          induction t with
          | nil => intro u hu _ e; rw [List.append_nil] at e; rw [e, hu] at g; exact absurd g (by decide)
          | cons y t iht =>
            intro u hu hn e
            by_cases q : hpB (u ++ [y]) = true
            · rw [hp_snoc, hu, Bool.false_or, beq_iff_eq] at q
              obtain ⟨u1, x, q1⟩ := w_last hn
              have : x = y := by rw [q1] at q; simpa using q
              rw [this] at q1
              exact fp u1 y t (by rw [e, q1]; simp) (by rw [← q1]; exact hu)
            · exact iht (u ++ [y]) (by simpa using q) (by simp) (by rw [e]; simp)
        exact ff r [true] rfl (by simp) rfl
