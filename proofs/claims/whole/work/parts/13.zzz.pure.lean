/-! proofs: what a proof rests on -/
def Eu (al lv : Int32) (T : Nat → Prop) (c x : Nat) : Prop := ∃ k a og, Pick al lv T c k a og ∧ (x = a ∨ og = some x)
/-- a way down of just n steps -/
def Pt (al lv : Int32) (T : Nat → Prop) : Nat → Nat → Nat → Prop
  | 0, c, x => x = c
  | n + 1, c, x => ∃ y, Eu al lv T c y ∧ Pt al lv T n y x
theorem Pt_s {al lv : Int32} {T : Nat → Prop} : ∀ n c y x, Pt al lv T n c y → Eu al lv T y x → Pt al lv T (n + 1) c x := by
  intro n
  induction n with
  | zero => intro c y x h g; rw [show y = c from h] at g; exact ⟨x, g, rfl⟩
  | succ n ih => rintro c y x ⟨z, z1, z2⟩ g; exact ⟨z, z1, ih z y x z2 g⟩
theorem Pt_u {al lv : Int32} {T : Nat → Prop} : ∀ n c x, Pt al lv T (n + 1) c x → ∃ y, Pt al lv T n c y ∧ Eu al lv T y x := by
  intro n
  induction n with
  | zero => rintro c x ⟨y, y1, y2⟩; exact ⟨c, rfl, by rw [show x = y from y2]; exact y1⟩
  | succ n ih =>
    rintro c x ⟨y, y1, y2⟩
    obtain ⟨z, z1, z2⟩ := ih y x y2
    exact ⟨z, ⟨y, y1, z1⟩, z2⟩
theorem Eu_ls {al lv : Int32} {T : Nat → Prop} {c x m : Nat} (h : Eu al lv T c x) (g : Ls al lv T c m) : x < 2304 ∧ (R1 al lv x c ∨ ∃ d, R2 al lv x d c ∨ R2 al lv d x c) ∧ ∃ m', m' < m ∧ Ls al lv T x m' := by
  obtain ⟨k, a, og, ⟨⟨h1, h2, h3⟩, -⟩, h4⟩ := h
  cases og with
  | none =>
    have e : x = a := h4.resolve_right (by simp)
    obtain ⟨j, j1, j2⟩ := h3
    have := Ls_eq j2 g
    rw [e]
    exact ⟨h2, Or.inl ⟨h2, k, h1⟩, j, by omega, j1⟩
  | some d =>
    obtain ⟨hd, s, t, j1, j2, j3⟩ := h3
    have := Ls_eq j3 g
    rcases h4 with e | e
    · rw [e]
      exact ⟨h2, Or.inr ⟨d, Or.inl ⟨h2, hd, k, h1⟩⟩, s, by omega, j1⟩
    · rw [← Option.some.inj e]
      exact ⟨hd, Or.inr ⟨a, Or.inr ⟨h2, hd, k, h1⟩⟩, t, by omega, j2⟩
theorem Pt_ls {al lv : Int32} {T : Nat → Prop} : ∀ n c x m, Pt al lv T n c x → c < 2304 → Ls al lv T c m → x < 2304 ∧ ∃ m', m' + n ≤ m ∧ Ls al lv T x m' := by
  intro n
  induction n with
  | zero => intro c x m h hc g; rw [show x = c from h]; exact ⟨hc, m, Nat.le_refl _, g⟩
  | succ n ih =>
    rintro c x m ⟨y, y1, y2⟩ hc g
    obtain ⟨z1, -, m', z2, z3⟩ := Eu_ls y1 g
    obtain ⟨w1, m2, w2, w3⟩ := ih y x m' y2 z1 z3
    exact ⟨w1, m2, by omega, w3⟩
/-- the first that says so -/
def Fs (n : Nat) (wd : Int32) (cd : Nat → Nat) (c i : Nat) : Prop := i < n ∧ ¬ hb wd i = true ∧ cd i = c ∧ ∀ j, j < i → ¬ (¬ hb wd j = true ∧ cd j = c)
theorem Fs_u {n : Nat} {wd : Int32} {cd : Nat → Nat} {c i j : Nat} (h : Fs n wd cd c i) (g : Fs n wd cd c j) : i = j := by
  rcases Nat.lt_trichotomy i j with z | z | z
  · exact absurd ⟨h.2.1, h.2.2.1⟩ (g.2.2.2 i z)
  · exact z
  · exact absurd ⟨g.2.1, g.2.2.1⟩ (h.2.2.2 j z)
theorem Fs_T {n : Nat} {wd : Int32} {cd : Nat → Nat} {c i : Nat} (h : Fs n wd cd c i) : Tld n wd cd c := ⟨i, h.1, h.2.1, h.2.2.1⟩
theorem leafE {al lv : Int32} {T : Nat → Prop} {c x : Nat} (h : T c) : ¬ Eu al lv T c x := fun g => by
  obtain ⟨-, -, m, h1, -⟩ := Eu_ls g (Ls_0.mpr h)
  omega
theorem leafP {al lv : Int32} {T : Nat → Prop} {c x n : Nat} (h : T c) (g : Pt al lv T n c x) : n = 0 ∧ x = c := by
  cases n with
  | zero => exact ⟨rfl, g⟩
  | succ n => obtain ⟨y, y1, -⟩ := g; exact absurd y1 (leafE h)
/-- the reference finds the saying -/
theorem m_firstS {F : Nat} (hF : 2 ^ 40 < F) {S : Zs} {n : Nat} {cd : Nat → Nat} (hM : MC S n cd) {c : Nat} (hc : c < 2304) (hT : Tld n (S.1 0 7) cd c) (slf : Zs → Int32 → Option (Int32 × Zs)) : ∃ i, Fs n (S.1 0 7) cd c i ∧ n_X12_restsOn_0_15_b15 F slf S (nI c) 0 = some ((1 : Int32) <<< (nI i &&& 31), S) := by
  obtain ⟨h1, h2, h3⟩ := hM
  obtain ⟨q, hq, e⟩ := zfix_for (f := fun (rc : (Zs × Int32 × Int32) → Option (Int32 × Zs)) (u : (Zs × Int32 × Int32)) => n_X12_restsOn_0_15_b15_l F slf  (fun S x1 x3 => rc (S, x1, x3)) u.1 u.2.1 u.2.2) n (fun i u => u = (S, nI c, nI i) ∧ ∀ j, j < i → ¬ (¬ hb (S.1 0 7) j = true ∧ cd j = c)) (fun i : Nat => Fs n (S.1 0 7) cd c i) (fun i => some ((1 : Int32) <<< (nI i &&& 31), S)) (by
    rintro i _ hi ⟨rfl, f1⟩
    obtain ⟨c1, c2⟩ := h3 i hi
    have pre : ∀ rc : (Zs × Int32 × Int32) → Option (Int32 × Zs), n_X12_restsOn_0_15_b15_l F slf (fun S x1 x3 => rc (S, x1, x3)) S (nI c) (nI i) = if cd i = c then (if hb (S.1 0 7) i = true then rc (S, nI c, nI (i + 1)) else some ((1 : Int32) <<< (nI i &&& 31), S)) else rc (S, nI c, nI (i + 1)) := by
      intro rc
      unfold n_X12_restsOn_0_15_b15_l n_X12_restsOn_0_15_b36
      rw [zld_nI _ _ _ (by omega) (by omega), c1]
      by_cases w : cd i = c
      · rw [if_pos w, if_pos (by rw [w]), zgS, e_has F S _ (by omega), zcS]
        by_cases w2 : hb (S.1 0 7) i = true
        · rw [bI_t w2, if_neg (by decide), if_pos w2, zlS, nI_1]
        · rw [bI_f w2, if_pos rfl, if_neg w2]
      · rw [if_neg w, if_neg (fun z => w ((nI_eq (by omega) (by omega)).mp z)), zlS, nI_1]
    by_cases w : ¬ hb (S.1 0 7) i = true ∧ cd i = c
    · exact Or.inl ⟨i, ⟨hi, w.1, w.2, f1⟩, fun rc => (pre rc).trans (by rw [if_pos w.2, if_neg w.1])⟩
    · refine Or.inr ⟨_, ⟨rfl, fun j hj => ?_⟩, fun rc => (pre rc).trans ?_⟩
      · by_cases ej : j = i
        · rw [ej]; exact w
        · exact f1 j (by omega)
      · by_cases w2 : cd i = c
        · rw [if_pos w2, if_pos (Classical.byContradiction fun z => w ⟨z, w2⟩)]
        · rw [if_neg w2]) (by
    rintro _ ⟨rfl, f1⟩
    obtain ⟨i, i1, i2, i3⟩ := hT
    exact absurd ⟨i2, i3⟩ (f1 i i1)) F (S, nI c, 0) ⟨rfl, fun j hj => by omega⟩ (by omega)
  exact ⟨q, hq, e⟩
/-- what the reference says of a code -/
def Ro (al lv : Int32) (n : Nat) (wd : Int32) (cd : Nat → Nat) (c : Nat) (m0 m1 v : Int32) (D : Nat) : Prop := (∀ i, hb v i = true ↔ ∃ x m, Pt al lv (Tld n wd cd) m c x ∧ Fs n wd cd x i) ∧ (∀ k, hb m1 k = true ↔ hb m0 k = true ∨ ∃ x m a og, Pt al lv (Tld n wd cd) m c x ∧ Pick al lv (Tld n wd cd) x k a og) ∧ (∀ x m, Pt al lv (Tld n wd cd) m c x → Tld n wd cd x → m ≤ D) ∧ ∃ x, Pt al lv (Tld n wd cd) D c x ∧ Tld n wd cd x
theorem m_restsOn {F : Nat} (hF : 2 ^ 40 < F) {al lv wd : Int32} {n : Nat} {cd : Nat → Nat} {st mu : Nat → Nat} (hcd : ∀ i, i < n → cd i < 2304) (hmu : ∀ c a, c < 2304 → st c < 1000000 → st a < st c → (R1 al lv a c ∨ ∃ d, R2 al lv a d c ∨ R2 al lv d a c) → mu a < mu c) : ∀ d S c, Mk al lv (Tld n wd cd) S st → MC S n cd → S.1 0 11 = al → S.1 0 8 = lv → S.1 0 7 = wd → c < 2304 → st c < 1000000 → mu c < d → ∃ v S2 D, n_X12_restsOn_0_15_r F d S (nI c) = some (v, S2) ∧ fr [15] [29, 30, 31, 32, 33] S S2 ∧ S2.1 15 0 = nI D ∧ Ro al lv n wd cd c (S.1 0 33) (S2.1 0 33) v D := by
  intro d
  induction d with
  | zero => intro S c _ _ _ _ _ _ _ h; omega
  | succ d ih =>
    intro S c hM hC ea el ew hc hB hm
    have slf : ∀ S c, (zfix (fun (rc : (Zs × Int32) → Option (Int32 × Zs)) (u : (Zs × Int32)) => n_X12_restsOn_0_15_e F (fun S x1 => rc (S, x1))  u.1 u.2) d) (S, nI c) = n_X12_restsOn_0_15_r F d S (nI c) := fun _ _ => rfl
    have un : n_X12_restsOn_0_15_r F (d + 1) S (nI c) = n_X12_restsOn_0_15_e F (fun S x1 => n_X12_restsOn_0_15_r F d S x1) S (nI c) := rfl
    have f15 : ∀ (Y : Zs) (v : Int32), fr [15] [29, 30, 31, 32, 33] Y (zp Y 15 0 v) := fun Y v => fr_r _ _ (by decide) (by decide)
    have keep : ∀ {Y}, fr [15] [29, 30, 31, 32, 33] S Y → Mk al lv (Tld n wd cd) Y st ∧ MC Y n cd ∧ Y.1 0 11 = al ∧ Y.1 0 8 = lv ∧ Y.1 0 7 = wd := fun {Y} f => ⟨⟨fun b hb' => by rw [f.2.1 14 (by decide) (by decide)]; exact hM.1 b hb', hM.2⟩, MC_fr hC f (by decide) (by decide), (f.1 11 (by decide)).trans ea, (f.1 8 (by decide)).trans el, (f.1 7 (by decide)).trans ew⟩
    have t1 := (hM.1 c hc).1
    have hl := hM.2.2 c hc hB
    by_cases z : st c = 0
    · have hT : Tld n wd cd c := by rw [z] at hl; exact Ls_0.mp hl
      have f1 := f15 S 0
      obtain ⟨k1, k2, k3, k4, k5⟩ := keep f1
      obtain ⟨i, i1, i2⟩ := m_firstS hF k2 hc (by rw [k5]; exact hT) (fun S x1 => n_X12_restsOn_0_15_r F d S x1)
      rw [k5] at i1
      refine ⟨(1 : Int32) <<< (nI i &&& 31), zp S 15 0 0, 0, ?_, f1, zp_at _ _ _ _, fun j => ?_, fun k => ?_, fun x m hp hx => ?_, c, rfl, hT⟩
      · rw [un]
        unfold n_X12_restsOn_0_15_e
        rw [show (0 : Int32) = nI 0 from rfl, zst_nI _ _ _ _ (by omega) (by omega), zld_nI _ _ _ hc (by omega), zp_off _ _ (Or.inl (by decide)), t1, z, if_pos rfl]
        exact i2
      · have hi := i1.1
        have hn := hC.2.1
        rw [hb_one (by omega), decide_eq_true_iff]
        constructor
        · rintro rfl
          exact ⟨c, 0, rfl, i1⟩
        · rintro ⟨x, m, hp, hx⟩
          rw [(leafP hT hp).2] at hx
          exact Fs_u hx i1
      · rw [show (zp S 15 0 0).1 0 33 = S.1 0 33 from zp_off _ _ (Or.inl (by decide))]
        refine ⟨Or.inl, fun w => w.elim id ?_⟩
        rintro ⟨x, m, a, og, hp, hx⟩
        rw [(leafP hT hp).2] at hx
        exact absurd ⟨k, a, og, hx, Or.inl rfl⟩ (leafE (x := a) hT)
      · have := (leafP hT hp).1; omega
    · have f1 := f15 S 0
      obtain ⟨k1, k2, k3, k4, k5⟩ := keep f1
      obtain ⟨S3, k, a, og, e3, f3, w1, w2, w3, w4⟩ := m_last hF k1 k3 k4 hc (by omega) hB
      have hk := Ru_k w4.1.1
      let S9 := zp S3 0 33 (S3.1 0 33 ||| ((1 : Int32) <<< (nI k &&& 31)))
      have f9 : fr [15] [29, 30, 31, 32, 33] S S9 := fr_t f1 (fr_t (fr_w f3 (by decide) (by decide)) (fr_p _ (by decide)))
      have m9 : ∀ j, hb (S9.1 0 33) j = true ↔ hb (S.1 0 33) j = true ∨ j = k := fun j => by
        show hb ((zp S3 0 33 (S3.1 0 33 ||| ((1 : Int32) <<< (nI k &&& 31)))).1 0 33) j = true ↔ _
        rw [zp_at, hb_or, hb_one (by omega), Bool.or_eq_true, decide_eq_true_iff, f3.1 33 (by decide), zp_off _ _ (Or.inl (by decide))]
      have chA : Eu al lv (Tld n wd cd) c a := ⟨k, a, og, w4, Or.inl rfl⟩
      obtain ⟨a1, a2, ma, a3, a4⟩ := Eu_ls chA hl
      have sa : st a = ma := Ls_eq (hM.2.2 a a1 (hM.2.1 a _ a4.1)) a4
      obtain ⟨q1, q2, q3, q4, q5⟩ := keep f9
      obtain ⟨v1, S10, D1, e10, f10, d10, ro1⟩ := ih S9 a q1 q2 q3 q4 q5 a1 (by omega) (by have := hmu c a hc hB (by omega) a2; omega)
      have f10' : fr [15] [29, 30, 31, 32, 33] S S10 := fr_t f9 f10
      have D1b : D1 < 1000000 := by
        obtain ⟨x, x1, -⟩ := ro1.2.2.2
        obtain ⟨-, m', m1, -⟩ := Pt_ls D1 a x ma x1 a1 a4
        omega
      have head : n_X12_restsOn_0_15_r F (d + 1) S (nI c) = (if oN og < 0 then (n_X12_restsOn_0_15_b117 F (fun S x1 => n_X12_restsOn_0_15_r F d S x1) S10 v1 (nI D1)) else (zcl (n_X12_restsOn_0_15_r F d S10 (oN og)) (fun v14 S13 => zlet (v1 ||| v14) (fun v15 => zld S13 15 1 (0 : Int32) (fun v16 => zlet (if nI D1 < v16 then v16 else nI D1) (fun v17 => n_X12_restsOn_0_15_b117 F (fun S x1 => n_X12_restsOn_0_15_r F d S x1)  S13 v15 v17)))))) := by
        rw [un]
        unfold n_X12_restsOn_0_15_e
        rw [show (0 : Int32) = nI 0 from rfl, zst_nI _ _ _ _ (by omega) (by omega), zld_nI _ _ _ hc (by omega), zp_off _ _ (Or.inl (by decide)), t1, if_neg (fun y => z ((nI_eq (b := 0) (by omega) (by omega)).mp y))]
        rw [show zp S 15 0 (nI 0) = zp S 15 0 0 from rfl, e3, zcS, zgS, zgS, zgS, zgS, zpS, w1, w2, w3]
        show zcl (n_X12_restsOn_0_15_r F d S9 (nI a)) _ = _
        rw [e10, zcS, zld_nI _ _ _ (by omega) (by omega), d10]
      cases og with
      | none =>
        have only : ∀ y, Eu al lv (Tld n wd cd) c y ↔ y = a := fun y => by
          constructor
          · rintro ⟨k', a', og', p1', p2'⟩
            obtain ⟨-, z2, z3⟩ := Pick_u hc p1' w4
            rw [z3] at p2'
            rw [← z2]; exact p2'.resolve_right (by simp)
          · rintro rfl; exact chA
        refine ⟨v1, zp S10 15 0 (nI (D1 + 1)), D1 + 1, ?_, fr_t f10' (f15 _ _), zp_at _ _ _ _, fun i => ?_, fun j => ?_, fun x m hp hx => ?_, ?_⟩
        · rw [head, if_pos (show oN none < 0 by decide)]
          unfold n_X12_restsOn_0_15_b117
          rw [show (0 : Int32) = nI 0 from rfl, zst_nI _ _ _ _ (by omega) (by omega), show (1 : Int32) + nI D1 = nI (1 + D1) from nI_add 1 _, Nat.add_comm 1 D1]
        · rw [ro1.1]
          constructor
          · rintro ⟨x, m, hp, hx⟩
            exact ⟨x, m + 1, ⟨a, chA, hp⟩, hx⟩
          · rintro ⟨x, m, hp, hx⟩
            cases m with
            | zero => rw [show x = c from hp] at hx; exact absurd chA (leafE (Fs_T hx))
            | succ m =>
              obtain ⟨y, y1, y2⟩ := hp
              rw [(only y).mp y1] at y2
              exact ⟨x, m, y2, hx⟩
        · rw [zp_off _ _ (Or.inl (by decide)), ro1.2.1, m9]
          constructor
          · rintro ((y | rfl) | ⟨x, m, b, og', hp, hx⟩)
            · exact Or.inl y
            · exact Or.inr ⟨c, 0, a, none, rfl, w4⟩
            · exact Or.inr ⟨x, m + 1, b, og', ⟨a, chA, hp⟩, hx⟩
          · rintro (y | ⟨x, m, b, og', hp, hx⟩)
            · exact Or.inl (Or.inl y)
            · cases m with
              | zero =>
                rw [show x = c from hp] at hx
                exact Or.inl (Or.inr (Pick_u hc hx w4).1)
              | succ m =>
                obtain ⟨y, y1, y2⟩ := hp
                rw [(only y).mp y1] at y2
                exact Or.inr ⟨x, m, b, og', y2, hx⟩
        · cases m with
          | zero => rw [show x = c from hp] at hx; exact absurd chA (leafE hx)
          | succ m =>
            obtain ⟨y, y1, y2⟩ := hp
            rw [(only y).mp y1] at y2
            have := ro1.2.2.1 x m y2 hx
            omega
        · obtain ⟨x, x1, x2⟩ := ro1.2.2.2
          exact ⟨x, ⟨a, chA, x1⟩, x2⟩
      | some e =>
        have chE : Eu al lv (Tld n wd cd) c e := ⟨k, a, some e, w4, Or.inr rfl⟩
        obtain ⟨b1, b2, mb, b3, b4⟩ := Eu_ls chE hl
        have sb' : st e = mb := Ls_eq (hM.2.2 e b1 (hM.2.1 e _ b4.1)) b4
        obtain ⟨q1, q2, q3, q4, q5⟩ := keep f10'
        obtain ⟨v2, S13, D2, e13, f13, d13, ro2⟩ := ih S10 e q1 q2 q3 q4 q5 b1 (by omega) (by have := hmu c e hc hB (by omega) b2; omega)
        have D2b : D2 < 1000000 := by
          obtain ⟨x, x1, -⟩ := ro2.2.2.2
          obtain ⟨-, m', m1, -⟩ := Pt_ls D2 e x mb x1 b1 b4
          omega
        have only : ∀ y, Eu al lv (Tld n wd cd) c y ↔ y = a ∨ y = e := fun y => by
          constructor
          · rintro ⟨k', a', og', p1', p2'⟩
            obtain ⟨-, z2, z3⟩ := Pick_u hc p1' w4
            rw [z3] at p2'
            rcases p2' with p | p
            · exact Or.inl (p.trans z2)
            · exact Or.inr (Option.some.inj p).symm
          · rintro (rfl | rfl)
            · exact chA
            · exact chE
        refine ⟨v1 ||| v2, zp S13 15 0 (nI (max D1 D2 + 1)), max D1 D2 + 1, ?_, fr_t f10' (fr_t f13 (f15 _ _)), zp_at _ _ _ _, fun i => ?_, fun j => ?_, fun x m hp hx => ?_, ?_⟩
        · rw [head, show oN (some e) = nI e from rfl, if_neg (nI_pos (by omega)), e13, zcS, zlS, show (0 : Int32) = nI 0 from rfl, zld_nI _ _ _ (by omega) (by omega), d13, zlS]
          have em : (if nI D1 < nI D2 then nI D2 else nI D1) = nI (max D1 D2) := by
            by_cases y : D1 < D2
            · rw [if_pos (by rw [nI_lt_iff (by omega) (by omega)]; exact y), show max D1 D2 = D2 by omega]
            · rw [if_neg (fun y' => by rw [nI_lt_iff (by omega) (by omega)] at y'; exact y y'), show max D1 D2 = D1 by omega]
          rw [em]
          unfold n_X12_restsOn_0_15_b117
          rw [show (0 : Int32) = nI 0 from rfl, zst_nI _ _ _ _ (by omega) (by omega), show (1 : Int32) + nI (max D1 D2) = nI (1 + max D1 D2) from nI_add 1 _, Nat.add_comm 1 (max D1 D2)]
        · rw [hb_or, Bool.or_eq_true, ro1.1, ro2.1]
          constructor
          · rintro (⟨x, m, hp, hx⟩ | ⟨x, m, hp, hx⟩)
            · exact ⟨x, m + 1, ⟨a, chA, hp⟩, hx⟩
            · exact ⟨x, m + 1, ⟨e, chE, hp⟩, hx⟩
          · rintro ⟨x, m, hp, hx⟩
            cases m with
            | zero => rw [show x = c from hp] at hx; exact absurd chA (leafE (Fs_T hx))
            | succ m =>
              obtain ⟨y, y1, y2⟩ := hp
              rcases (only y).mp y1 with y3 | y3
              · rw [y3] at y2; exact Or.inl ⟨x, m, y2, hx⟩
              · rw [y3] at y2; exact Or.inr ⟨x, m, y2, hx⟩
        · rw [zp_off _ _ (Or.inl (by decide)), ro2.2.1, ro1.2.1, m9]
          constructor
          · rintro (((y | rfl) | ⟨x, m, b, og', hp, hx⟩) | ⟨x, m, b, og', hp, hx⟩)
            · exact Or.inl y
            · exact Or.inr ⟨c, 0, a, some e, rfl, w4⟩
            · exact Or.inr ⟨x, m + 1, b, og', ⟨a, chA, hp⟩, hx⟩
            · exact Or.inr ⟨x, m + 1, b, og', ⟨e, chE, hp⟩, hx⟩
          · rintro (y | ⟨x, m, b, og', hp, hx⟩)
            · exact Or.inl (Or.inl (Or.inl y))
            · cases m with
              | zero =>
                rw [show x = c from hp] at hx
                exact Or.inl (Or.inl (Or.inr (Pick_u hc hx w4).1))
              | succ m =>
                obtain ⟨y, y1, y2⟩ := hp
                rcases (only y).mp y1 with y3 | y3
                · rw [y3] at y2; exact Or.inl (Or.inr ⟨x, m, b, og', y2, hx⟩)
                · rw [y3] at y2; exact Or.inr ⟨x, m, b, og', y2, hx⟩
        · cases m with
          | zero => rw [show x = c from hp] at hx; exact absurd chA (leafE hx)
          | succ m =>
            obtain ⟨y, y1, y2⟩ := hp
            rcases (only y).mp y1 with y3 | y3
            · rw [y3] at y2
              have := ro1.2.2.1 x m y2 hx
              omega
            · rw [y3] at y2
              have := ro2.2.2.1 x m y2 hx
              omega
        · rcases (show max D1 D2 = D1 ∨ max D1 D2 = D2 by omega) with y | y
          · rw [y]
            obtain ⟨x, x1, x2⟩ := ro1.2.2.2
            exact ⟨x, ⟨a, chA, x1⟩, x2⟩
          · rw [y]
            obtain ⟨x, x1, x2⟩ := ro2.2.2.2
            exact ⟨x, ⟨e, chE, x1⟩, x2⟩
