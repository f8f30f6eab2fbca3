/-! CODES as numbers; frames; what A and E come to -/
theorem hbn {a : Nat} (h : a < 2 ^ 32) (k : Nat) : hb (nI a) k = a.testBit k := by rw [hb_tb, pk_tn h]
theorem hb_xor (x y : Int32) (k : Nat) : hb (x ^^^ y) k = Bool.xor (hb x k) (hb y k) := by
  unfold hb; rw [Int32.toBitVec_xor, BitVec.getLsbD_xor]
theorem nI_xor {a b : Nat} (ha : a < 2 ^ 31) (hb' : b < 2 ^ 31) : nI a ^^^ nI b = nI (a ^^^ b) := hb_ext fun k _ => by
  rw [hb_xor, hbn (by omega), hbn (by omega), hbn (Nat.lt_trans (Nat.xor_lt_two_pow ha hb') (by decide)), Nat.testBit_xor]
theorem nI_x1 {a : Nat} (ha : a < 2 ^ 31) : nI a ^^^ 1 = nI (a ^^^ 1) := nI_xor (b := 1) ha (by decide)
theorem x1_lt : ∀ {x : Nat}, x < 24 → x ^^^ 1 < 24 := by decide
theorem x1_x1 (x : Nat) : x ^^^ 1 ^^^ 1 = x := by rw [Nat.xor_assoc, Nat.xor_self, Nat.xor_zero]
def fm (c : Nat) : Nat := c / 576
def sj (c : Nat) : Nat := c / 24 % 24
def pd (c : Nat) : Nat := c % 24
def tg (c : Nat) : Nat := (c % 24) ^^^ (c / 576 % 2)
def ct (c : Nat) : Nat := 576 * (3 - c / 576) + 24 * (c / 24 % 24) + c % 24
theorem e_fm {c : Nat} (h : c < 2304) : nI c / 576 = nI (c / 576) := pk_div (d := 576) (by omega) (by omega) (by omega)
theorem e_24 {c : Nat} (h : c < 2304) : nI c / 24 = nI (c / 24) := pk_div (d := 24) (by omega) (by omega) (by omega)
theorem e_sj {c : Nat} (h : c < 2304) : nI c / 24 - nI c / 24 / 24 * 24 = nI (sj c) := by
  rw [e_24 h]; exact pk_rem (d := 24) (by omega) (by omega) (by omega)
theorem e_pd {c : Nat} (h : c < 2304) : nI c - nI c / 24 * 24 = nI (pd c) := pk_rem (d := 24) (by omega) (by omega) (by omega)
theorem e_tg {c : Nat} (h : c < 2304) : (nI c - nI c / 24 * 24) ^^^ (nI c / 576 &&& 1) = nI (tg c) := by
  rw [e_pd h, e_fm h, pk_andN (m := 1) (by omega) 1 (by decide)]
  exact nI_xor (show c % 24 < 2 ^ 31 by omega) (show c / 576 % 2 < 2 ^ 31 by omega)
theorem e_mk (a b c : Nat) : 576 * nI a + 24 * nI b + nI c = nI (576 * a + 24 * b + c) := by
  rw [show (576 : Int32) * nI a = nI (576 * a) from pk_mul 576 a, show (24 : Int32) * nI b = nI (24 * b) from pk_mul 24 b, nI_add, nI_add]
theorem e_ct {c : Nat} (h : c < 2304) : 576 * (3 - nI c / 576) + 24 * (nI c / 24 - nI c / 24 / 24 * 24) + (nI c - nI c / 24 * 24) = nI (ct c) := by
  rw [e_fm h, e_sj h, e_pd h, show (3 : Int32) - nI (c / 576) = nI (3 - c / 576) from pk_sub (a := 3) (by omega), e_mk]; rfl
theorem sj_lt (c : Nat) : sj c < 24 := Nat.mod_lt _ (by omega)
theorem pd_lt (c : Nat) : pd c < 24 := Nat.mod_lt _ (by omega)
theorem tg_lt (c : Nat) : tg c < 24 := by
  unfold tg
  rcases (show c / 576 % 2 = 0 ∨ c / 576 % 2 = 1 by omega) with h | h
  · rw [h, Nat.xor_zero]; omega
  · rw [h]; exact x1_lt (by omega)
theorem ct_lt {c : Nat} (h : c < 2304) : ct c < 2304 := by unfold ct; omega
theorem ct_u {c : Nat} (h : c < 2304) : ct c < 1152 ↔ 1152 ≤ c := by unfold ct; omega
theorem n_subj (F : Nat) (S : Zs) {c : Nat} (h : c < 2304) : n_X0_subject F S (nI c) = some (nI (sj c), S) := by rw [e_X0_subject, e_sj h]
theorem n_pred (F : Nat) (S : Zs) {c : Nat} (h : c < 2304) : n_X0_predicate F S (nI c) = some (nI (pd c), S) := by rw [e_X0_predicate, e_pd h]
theorem n_tgt (F : Nat) (S : Zs) {c : Nat} (h : c < 2304) : n_X0_target F S (nI c) = some (nI (tg c), S) := by rw [e_X0_target, e_tg h]
theorem n_frm (F : Nat) (S : Zs) {c : Nat} (h : c < 2304) : n_X0_form F S (nI c) = some (nI (fm c), S) := by rw [e_X0_form, e_fm h]; rfl
theorem n_mk (F : Nat) (S : Zs) (a b c : Nat) : n_X0_make F S (nI a) (nI b) (nI c) = some (nI (576 * a + 24 * b + c), S) := by rw [e_X0_make, e_mk]
theorem n_ctr (F : Nat) (S : Zs) {c : Nat} (h : c < 2304) : n_X0_contrary F S (nI c) = some (nI (ct c), S) := by rw [e_X0_contrary, e_ct h]
theorem n_uni (F : Nat) (S : Zs) {c : Nat} (h : c < 2304) : n_X0_isUniversal F S (nI c) = some (bI (c < 1152), S) := by
  rw [e_X0_isUniversal]
  refine congrArg (fun q => some (q, S)) (bI_cong ?_)
  rw [show (1152 : Int32) = nI 1152 from rfl, nI_le_iff (by omega) (by omega)]; omega
theorem n_fstM (F : Nat) (S : Zs) {c : Nat} (h : c < 2304) : n_X12_firstOf F S (nI c) = some (nI (sj c), S) := by rw [e_X12_firstOf, e_sj h]
theorem n_sndM (F : Nat) (S : Zs) {c : Nat} (h : c < 2304) : n_X12_secondOf F S (nI c) = some (nI (pd c), S) := by rw [e_X12_secondOf, e_pd h]
theorem n_frmM (F : Nat) (S : Zs) {c : Nat} (h : c < 2304) : n_X12_formOf F S (nI c) = some (nI (fm c), S) := by rw [e_X12_formOf, e_fm h]; rfl
theorem n_mkM (F : Nat) (S : Zs) (a b c : Nat) : n_X12_codeOf F S (nI a) (nI b) (nI c) = some (nI (576 * a + 24 * b + c), S) := by rw [e_X12_codeOf, e_mk]
theorem n_ctrM (F : Nat) (S : Zs) {c : Nat} (h : c < 2304) : n_X12_contraryOf F S (nI c) = some (nI (ct c), S) := by rw [e_X12_contraryOf, e_ct h]
theorem n_uniM (F : Nat) (S : Zs) {c : Nat} (h : c < 2304) : n_X12_isOfAll F S (nI c) = some (bI (c < 1152), S) := by
  rw [e_X12_isOfAll, e_fm h]
  refine congrArg (fun q => some (q, S)) (bI_cong ?_)
  rw [show (2 : Int32) = nI 2 from rfl, nI_le_iff (by omega) (by omega)]; omega
theorem tg_0 {c : Nat} (h : fm c % 2 = 0) : tg c = pd c := by unfold tg; rw [show c / 576 % 2 = 0 from h, Nat.xor_zero]; rfl
theorem tg_1 {c : Nat} (h : fm c % 2 = 1) : tg c = pd c ^^^ 1 := by unfold tg; rw [show c / 576 % 2 = 1 from h]; rfl
-- frames
def fr (R K : List Nat) (S S2 : Zs) : Prop := (∀ k, k ∉ K → S2.1 0 k = S.1 0 k) ∧ (∀ r, r ≠ 0 → r ∉ R → S2.1 r = S.1 r) ∧ S2.2 = S.2
theorem fr_rf (R K : List Nat) (S : Zs) : fr R K S S := ⟨fun _ _ => rfl, fun _ _ _ => rfl, rfl⟩
theorem fr_t {R K : List Nat} {A B C : Zs} (h : fr R K A B) (g : fr R K B C) : fr R K A C := ⟨fun k hk => (g.1 k hk).trans (h.1 k hk), fun r h0 hr => (g.2.1 r h0 hr).trans (h.2.1 r h0 hr), g.2.2.trans h.2.2⟩
theorem fr_w {R K R2 K2 : List Nat} {A B : Zs} (h : fr R K A B) (hR : ∀ r ∈ R, r ∈ R2) (hK : ∀ k ∈ K, k ∈ K2) : fr R2 K2 A B := ⟨fun k hk => h.1 k fun g => hk (hK k g), fun r h0 hr => h.2.1 r h0 fun g => hr (hR r g), h.2.2⟩
theorem fr_p {R K : List Nat} {S : Zs} {k : Nat} (v : Int32) (h : k ∈ K) : fr R K S (zp S 0 k v) := ⟨fun j hj => zp_off S v (Or.inr fun e => hj (e ▸ h)), fun r h0 _ => zp_row S k v h0, rfl⟩
theorem fr_r {R K : List Nat} {S : Zs} {r : Nat} (i : Nat) (v : Int32) (h : r ∈ R) (h0 : r ≠ 0) : fr R K S (zp S r i v) := ⟨fun j _ => zp_off S v (Or.inl (Ne.symm h0)), fun q _ hq => zp_row S i v (fun e => hq (e ▸ h)), rfl⟩
theorem fr_k {R K : List Nat} {S S2 : Zs} (h : fr R K S S2) (hK : ∀ k ∈ kFields, k ∉ K) (hR : ∀ r ∈ kRows, r ≠ 0 ∧ r ∉ R) : kSame S S2 := ⟨fun k hk => h.1 k (hK k hk), fun r hr => h.2.1 r (hR r hr).1 (hR r hr).2, h.2.2⟩
theorem fr_x {R K : List Nat} {S S2 : Zs} (h : fr R K S S2) (hK : ∀ k ∈ xFields, k ∉ K) (hR : ∀ r ∈ xRows, r ≠ 0 ∧ r ∉ R) : xSame S S2 := ⟨fun k hk => h.1 k (hK k hk), fun r hr => h.2.1 r (hR r hr).1 (hR r hr).2⟩
theorem fr_m {R K : List Nat} {S S2 : Zs} (h : fr R K S S2) (hK : ∀ k ∈ mFields, k ∉ K) (hR : ∀ r ∈ mRows, r ≠ 0 ∧ r ∉ R) : mSame S S2 := ⟨fun k hk => h.1 k (hK k hk), fun r hr => h.2.1 r (hR r hr).1 (hR r hr).2⟩
/-- an answer of true or false -/
def isB (r : Int32) (p : Prop) : Prop := (r = 1 ∧ p) ∨ (r = 0 ∧ ¬ p)
theorem isB_bI {p : Prop} [Decidable p] : isB (bI p) p := by
  by_cases h : p
  · exact Or.inl ⟨bI_t h, h⟩
  · exact Or.inr ⟨bI_f h, h⟩
theorem isB_iff {r : Int32} {p q : Prop} (h : isB r p) (g : p ↔ q) : isB r q := h.elim (fun h => Or.inl ⟨h.1, g.mp h.2⟩) (fun h => Or.inr ⟨h.1, fun k => h.2 (g.mpr k)⟩)
theorem isB_eq {r s : Int32} {p : Prop} (h : isB r p) (g : isB s p) : r = s := by
  rcases h with ⟨h, hp⟩ | ⟨h, hp⟩ <;> rcases g with ⟨g, gp⟩ | ⟨g, gp⟩
  · rw [h, g]
  · exact absurd hp gp
  · exact absurd gp hp
  · rw [h, g]
theorem isB_rb {r : Int32} {p : Prop} (h : isB r p) (S : Zs) : zrb r S = some (r, S) := by
  rcases h with ⟨h, -⟩ | ⟨h, -⟩ <;> rw [h] <;> rfl
theorem isB_0 {r : Int32} {p : Prop} (h : isB r p) : r = 0 ↔ ¬ p := by
  rcases h with ⟨h, hp⟩ | ⟨h, hp⟩
  · rw [h]; exact ⟨fun g => absurd g (by decide), fun g => absurd hp g⟩
  · exact ⟨fun _ => hp, fun _ => h⟩
theorem isB_pb {β : Type} {r : Int32} {p : Prop} (h : isB r p) (S : Zs) (k : Nat) (f : Zs → Option β) : zpb S k r f = f (zp S 0 k r) := by
  unfold zpb
  rw [if_pos (h.elim (fun g => Or.inr g.1) (fun g => Or.inl g.1))]
theorem isB_flag {r : Int32} {p : Prop} (h : isB r p) (F : Nat) (S : Zs) : n_X12_flag F S r = some (r, S) := by
  rw [e_X12_flag]
  rcases h with ⟨h, -⟩ | ⟨h, -⟩ <;> rw [h] <;> rfl
-- what A and E come to
def Ed (P : Nat → Prop) (a b : Nat) : Prop := ∃ c, P c ∧ c < 1152 ∧ ((a = sj c ∧ b = tg c) ∨ (a = tg c ^^^ 1 ∧ b = sj c ^^^ 1))
def Rc (P : Nat → Prop) (t u : Nat) : Prop := ∀ B : Nat → Nat → Prop, (∀ a, a < 24 → B a a) → (∀ a b c, B a b → B b c → B a c) → (∀ a b, Ed P a b → B a b) → B t u
def Br (P : Nat → Prop) : Prop := ∃ t, t < 24 ∧ Rc P t (t ^^^ 1) ∧ Rc P (t ^^^ 1) t
def Can (P : Nat → Prop) (x y : Nat) : Prop := ¬ Br P ∧ ∀ z, z < 24 → ¬ ((Rc P x z ∨ Rc P y z) ∧ (Rc P x (z ^^^ 1) ∨ Rc P y (z ^^^ 1)))
theorem Ed_lt {P : Nat → Prop} {a b : Nat} (h : Ed P a b) : a < 24 ∧ b < 24 := by
  obtain ⟨c, -, -, ⟨rfl, rfl⟩ | ⟨rfl, rfl⟩⟩ := h
  · exact ⟨sj_lt c, tg_lt c⟩
  · exact ⟨x1_lt (tg_lt c), x1_lt (sj_lt c)⟩
theorem Ed_op {P : Nat → Prop} {a b : Nat} (h : Ed P a b) : Ed P (b ^^^ 1) (a ^^^ 1) := by
  obtain ⟨c, h1, h2, ⟨rfl, rfl⟩ | ⟨rfl, rfl⟩⟩ := h
  · exact ⟨c, h1, h2, Or.inr ⟨rfl, rfl⟩⟩
  · exact ⟨c, h1, h2, Or.inl ⟨x1_x1 _, x1_x1 _⟩⟩
theorem Rc_rf (P : Nat → Prop) {t : Nat} (h : t < 24) : Rc P t t := fun _ h1 _ _ => h1 t h
theorem Rc_t {P : Nat → Prop} {a b c : Nat} (h : Rc P a b) (g : Rc P b c) : Rc P a c := fun B h1 h2 h3 => h2 a b c (h B h1 h2 h3) (g B h1 h2 h3)
theorem Rc_e {P : Nat → Prop} {a b : Nat} (h : Ed P a b) : Rc P a b := fun _ _ _ h3 => h3 a b h
theorem Rc_lt {P : Nat → Prop} {a b : Nat} (h : Rc P a b) : a < 24 ∧ b < 24 := h (fun a b => a < 24 ∧ b < 24) (fun _ h => ⟨h, h⟩) (fun _ _ _ h g => ⟨h.1, g.2⟩) (fun _ _ h => Ed_lt h)
theorem Rc_m {P Q : Nat → Prop} (h : ∀ c, P c → c < 1152 → Q c) {a b : Nat} (g : Rc P a b) : Rc Q a b := fun B h1 h2 h3 => g B h1 h2 fun a b ⟨c, k1, k2, k3⟩ => h3 a b ⟨c, h c k1 k2, k2, k3⟩
theorem Rc_c {P Q : Nat → Prop} (h : ∀ c, c < 1152 → (P c ↔ Q c)) {a b : Nat} : Rc P a b ↔ Rc Q a b := ⟨Rc_m fun c p q => (h c q).mp p, Rc_m fun c p q => (h c q).mpr p⟩
theorem Rc_op {P : Nat → Prop} {a b : Nat} (h : Rc P a b) : Rc P (b ^^^ 1) (a ^^^ 1) := fun B h1 h2 h3 => h (fun a b => B (b ^^^ 1) (a ^^^ 1)) (fun a ha => h1 _ (x1_lt ha)) (fun _ _ _ k g => h2 _ _ _ g k) (fun _ _ k => h3 _ _ (Ed_op k))
theorem Rc_po {P : Nat → Prop} {a b : Nat} (h : Rc P (b ^^^ 1) (a ^^^ 1)) : Rc P a b := by
  have := Rc_op h
  rwa [x1_x1, x1_x1] at this
theorem Br_c {P Q : Nat → Prop} (h : ∀ c, c < 1152 → (P c ↔ Q c)) : Br P ↔ Br Q := by
  unfold Br
  constructor
  · rintro ⟨t, h0, h1, h2⟩; exact ⟨t, h0, (Rc_c h).mp h1, (Rc_c h).mp h2⟩
  · rintro ⟨t, h0, h1, h2⟩; exact ⟨t, h0, (Rc_c h).mpr h1, (Rc_c h).mpr h2⟩
theorem Can_c {P Q : Nat → Prop} (h : ∀ c, c < 1152 → (P c ↔ Q c)) {x y : Nat} : Can P x y ↔ Can Q x y := by
  unfold Can
  rw [Br_c h]
  constructor
  · rintro ⟨h1, h2⟩; refine ⟨h1, fun z hz g => h2 z hz ?_⟩
    rw [Rc_c h, Rc_c h, Rc_c h, Rc_c h]; exact g
  · rintro ⟨h1, h2⟩; refine ⟨h1, fun z hz g => h2 z hz ?_⟩
    rw [Rc_c h, Rc_c h, Rc_c h, Rc_c h] at g; exact g
theorem tr_ins {R : Nat → Nat → Prop} (x y : Nat) (tr : ∀ a b c, R a b → R b c → R a c) (a b c : Nat) (h : R a b ∨ R a x ∧ R y b) (g : R b c ∨ R b x ∧ R y c) : R a c ∨ R a x ∧ R y c := by
  rcases h with h | ⟨h1, h2⟩ <;> rcases g with g | ⟨g1, g2⟩
  · exact Or.inl (tr _ _ _ h g)
  · exact Or.inr ⟨tr _ _ _ h g1, g2⟩
  · exact Or.inr ⟨h1, tr _ _ _ h2 g⟩
  · exact Or.inr ⟨h1, g2⟩
def add1 (P : Nat → Prop) (c d : Nat) : Prop := P d ∨ d = c
/-- one more A or E -/
theorem Rc_ins {P : Nat → Prop} {c : Nat} (hc : c < 1152) (t u : Nat) : Rc (add1 P c) t u ↔ (Rc P t u ∨ Rc P t (sj c) ∧ Rc P (tg c) u) ∨ (Rc P t (tg c ^^^ 1) ∨ Rc P t (sj c) ∧ Rc P (tg c) (tg c ^^^ 1)) ∧ (Rc P (sj c ^^^ 1) u ∨ Rc P (sj c ^^^ 1) (sj c) ∧ Rc P (tg c) u) := by
  have hm : ∀ {a b}, Rc P a b → Rc (add1 P c) a b := fun h => Rc_m (fun _ p _ => Or.inl p) h
  have he : Rc (add1 P c) (sj c) (tg c) := Rc_e ⟨c, Or.inr rfl, hc, Or.inl ⟨rfl, rfl⟩⟩
  have h1 : ∀ {a b}, (Rc P a b ∨ Rc P a (sj c) ∧ Rc P (tg c) b) → Rc (add1 P c) a b := fun h => h.elim hm fun h => Rc_t (Rc_t (hm h.1) he) (hm h.2)
  constructor
  · intro h
    refine h (fun t u => (Rc P t u ∨ Rc P t (sj c) ∧ Rc P (tg c) u) ∨ (Rc P t (tg c ^^^ 1) ∨ Rc P t (sj c) ∧ Rc P (tg c) (tg c ^^^ 1)) ∧ (Rc P (sj c ^^^ 1) u ∨ Rc P (sj c ^^^ 1) (sj c) ∧ Rc P (tg c) u)) (fun a ha => Or.inl (Or.inl (Rc_rf P ha))) (fun a b d => tr_ins (R := fun t u => Rc P t u ∨ Rc P t (sj c) ∧ Rc P (tg c) u) (tg c ^^^ 1) (sj c ^^^ 1) (tr_ins (sj c) (tg c) fun _ _ _ => Rc_t) a b d) ?_
    rintro a b ⟨d, hd | rfl, hd2, hd3⟩
    · exact Or.inl (Or.inl (Rc_e ⟨d, hd, hd2, hd3⟩))
    · rcases hd3 with ⟨rfl, rfl⟩ | ⟨rfl, rfl⟩
      · exact Or.inl (Or.inr ⟨Rc_rf P (sj_lt _), Rc_rf P (tg_lt _)⟩)
      · exact Or.inr ⟨Or.inl (Rc_rf P (x1_lt (tg_lt _))), Or.inl (Rc_rf P (x1_lt (sj_lt _)))⟩
  · rintro (h | ⟨g1, g2⟩)
    · exact h1 h
    · exact Rc_t (Rc_t (h1 g1) (Rc_op he)) (h1 g2)
theorem Rc_old {P : Nat → Prop} {c : Nat} (hc : c < 1152) (h : Rc P (sj c) (tg c)) {t u : Nat} : Rc (add1 P c) t u ↔ Rc P t u := by
  refine ⟨fun g => ?_, fun g => Rc_m (fun _ p _ => Or.inl p) g⟩
  rw [Rc_ins hc] at g
  have k : ∀ {a b}, (Rc P a b ∨ Rc P a (sj c) ∧ Rc P (tg c) b) → Rc P a b := fun g => g.elim id fun g => Rc_t (Rc_t g.1 h) g.2
  exact g.elim k fun g => Rc_t (Rc_t (k g.1) (Rc_op h)) (k g.2)
theorem Br_old {P : Nat → Prop} {c : Nat} (hc : c < 1152) (h : Rc P (sj c) (tg c)) : Br (add1 P c) ↔ Br P := by
  unfold Br
  constructor
  · rintro ⟨t, h0, h1, h2⟩; exact ⟨t, h0, (Rc_old hc h).mp h1, (Rc_old hc h).mp h2⟩
  · rintro ⟨t, h0, h1, h2⟩; exact ⟨t, h0, (Rc_old hc h).mpr h1, (Rc_old hc h).mpr h2⟩
/-- where some term and its opposite have come to bring one another, x and its opposite have too -/
theorem Br_ins {P : Nat → Prop} {c : Nat} (hc : c < 1152) : Br (add1 P c) ↔ Br P ∨ (Rc (add1 P c) (sj c) (sj c ^^^ 1) ∧ Rc (add1 P c) (sj c ^^^ 1) (sj c)) := by
  have hm : ∀ {a b}, Rc P a b → Rc (add1 P c) a b := fun h => Rc_m (fun _ p _ => Or.inl p) h
  have he : Rc (add1 P c) (sj c) (tg c) := Rc_e ⟨c, Or.inr rfl, hc, Or.inl ⟨rfl, rfl⟩⟩
  constructor
  · rintro ⟨t, ht, h1, h2⟩
    by_cases hb : Br P
    · exact Or.inl hb
    refine Or.inr ?_
    have key : ∀ s, Rc (add1 P c) s (s ^^^ 1) → Rc (add1 P c) (s ^^^ 1) s → ¬ Rc P s (s ^^^ 1) → Rc (add1 P c) (sj c) (sj c ^^^ 1) ∧ Rc (add1 P c) (sj c ^^^ 1) (sj c) := by
      intro s g1 g2 g3
      have hx : (Rc (add1 P c) s (sj c) ∧ Rc (add1 P c) (tg c) (s ^^^ 1)) ∨ (Rc (add1 P c) s (tg c ^^^ 1) ∧ Rc (add1 P c) (sj c ^^^ 1) (s ^^^ 1)) := by
        have h1 : ∀ {a b}, (Rc P a b ∨ Rc P a (sj c) ∧ Rc P (tg c) b) → Rc (add1 P c) a b := fun h => h.elim hm fun h => Rc_t (Rc_t (hm h.1) he) (hm h.2)
        rcases (Rc_ins hc s (s ^^^ 1)).mp g1 with (q | q) | q
        · exact absurd q g3
        · exact Or.inl ⟨hm q.1, hm q.2⟩
        · exact Or.inr ⟨h1 q.1, h1 q.2⟩
      rcases hx with ⟨q1, q2⟩ | ⟨q1, q2⟩
      · have xs : Rc (add1 P c) (sj c) s := Rc_t (Rc_t he q2) g2
        exact ⟨Rc_t (Rc_t xs g1) (Rc_op xs), Rc_t (Rc_t (Rc_op q1) g2) q1⟩
      · have sx : Rc (add1 P c) s (sj c) := Rc_po q2
        have sx' : Rc (add1 P c) s (sj c ^^^ 1) := Rc_t q1 (Rc_op he)
        have xs : Rc (add1 P c) (sj c) (s ^^^ 1) := Rc_po (by rw [x1_x1]; exact sx')
        exact ⟨Rc_t (Rc_t xs g2) sx', Rc_t (Rc_t q2 g2) sx⟩
    by_cases h3 : Rc P t (t ^^^ 1)
    · have h4 : ¬ Rc P (t ^^^ 1) t := fun h4 => hb ⟨t, ht, h3, h4⟩
      exact key (t ^^^ 1) (by rw [x1_x1]; exact h2) (by rw [x1_x1]; exact h1) (by rw [x1_x1]; exact h4)
    · exact key t h1 h2 h3
  · rintro (⟨t, h0, h1, h2⟩ | ⟨h1, h2⟩)
    · exact ⟨t, h0, hm h1, hm h2⟩
    · exact ⟨sj c, sj_lt c, h1, h2⟩
-- the test on bits
def Torn (x : Int32) : Prop := ∃ z, z < 24 ∧ hb x z = true ∧ hb x (z ^^^ 1) = true
theorem hb_555 : ∀ k, k < 32 → hb 5592405 k = decide (k < 24 ∧ k % 2 = 0) := by decide +kernel
theorem x1_ev : ∀ k, k < 24 → k % 2 = 0 → k ^^^ 1 = 1 + k := by decide
theorem x1_od : ∀ k, k < 24 → ¬ k % 2 = 0 → (k ^^^ 1) % 2 = 0 ∧ k = 1 + (k ^^^ 1) := by decide
theorem torn_aux {x y : Int32} (h : ∀ k, k < 24 → hb y k = hb x (1 + k)) : (x &&& y) &&& 5592405 = 0 ↔ ¬ Torn x := by
  constructor
  · rintro g ⟨z, hz, h1, h2⟩
    have key : ∀ k, k < 24 → k % 2 = 0 → hb x k = true → hb x (1 + k) = true → False := by
      intro k hk h0 q1 q2
      have : hb ((x &&& y) &&& 5592405) k = true := by
        rw [hb_and, hb_and, hb_555 k (by omega), h k hk, q1, q2, decide_eq_true ⟨hk, h0⟩]; rfl
      rw [g, hb_0] at this
      exact absurd this (by decide)
    by_cases h0 : z % 2 = 0
    · rw [x1_ev z hz h0] at h2; exact key z hz h0 h1 h2
    · obtain ⟨g1, g2⟩ := x1_od z hz h0
      exact key (z ^^^ 1) (x1_lt hz) g1 h2 (g2 ▸ h1)
  · intro g
    refine hb_ext fun k hk => ?_
    rw [hb_0, hb_and, hb_and, hb_555 k hk]
    by_cases h0 : k < 24 ∧ k % 2 = 0
    · cases h1 : hb x k
      · rfl
      · cases h2 : hb y k
        · rfl
        · exact absurd ⟨k, h0.1, h1, by rw [x1_ev k h0.1 h0.2, ← h k h0.1, h2]⟩ g
    · rw [decide_eq_false h0, Bool.and_false]
theorem torn_s (x : Int32) : (x &&& x >>> ((1 : Int32) &&& 31)) &&& 5592405 = 0 ↔ ¬ Torn x := by
  refine torn_aux fun k hk => ?_
  have h1 : (x >>> ((1 : Int32) &&& 31)).toBitVec = x.toBitVec.sshiftRight 1 := by
    rw [Int32.toBitVec_shiftRight]
    show x.toBitVec.sshiftRight ((nI 1 &&& 31).toBitVec.smod 32).toNat = _
    rw [s_l 1 (by decide)]
  unfold hb
  rw [h1, BitVec.getLsbD_sshiftRight]
  have h2 : ¬ 32 ≤ k := by omega
  have h3 : 1 + k < 32 := by omega
  simp [h2, h3]
theorem torn_u (x : Int32) : (x &&& (x.toUInt32 >>> ((1 : Int32).toUInt32 &&& Int32.toUInt32 31)).toInt32) &&& 5592405 = 0 ↔ ¬ Torn x := by
  refine torn_aux fun k _ => ?_
  rw [hb_tb, pk_ushr x 1 1 (by decide), hb_tb, Nat.add_comm, Nat.testBit_succ]
/-- rows of bits that say what terms bring with them -/
def TB (S : Zs) (r : Nat) (P : Nat → Prop) : Prop := ∀ t, t < 24 → ∀ u, (hb (S.1 r t) u = true ↔ Rc P t u)
theorem TB_torn {S : Zs} {r : Nat} {P : Nat → Prop} (h : TB S r P) {x y : Nat} (hx : x < 24) (hy : y < 24) : ¬ Torn (S.1 r x ||| S.1 r y) ↔ ∀ z, z < 24 → ¬ ((Rc P x z ∨ Rc P y z) ∧ (Rc P x (z ^^^ 1) ∨ Rc P y (z ^^^ 1))) := by
  have k : ∀ z, hb (S.1 r x ||| S.1 r y) z = true ↔ (Rc P x z ∨ Rc P y z) := by
    intro z
    rw [hb_or, Bool.or_eq_true, h x hx, h y hy]
  constructor
  · intro g z hz q
    exact g ⟨z, hz, (k z).mpr q.1, (k _).mpr q.2⟩
  · rintro g ⟨z, hz, q1, q2⟩
    exact g z hz ⟨(k z).mp q1, (k _).mp q2⟩
/-- one row of bits joins another -/
def upR (r : Nat → Int32) (x y t : Nat) : Int32 := if hb (r t) x = true then r t ||| r y else r t
theorem or_self32 (x : Int32) : x ||| x = x := hb_ext fun k _ => by rw [hb_or, Bool.or_self]
theorem upR_y (r : Nat → Int32) (x y : Nat) : upR r x y y = r y := by
  unfold upR
  split
  · exact or_self32 _
  · rfl
theorem hb_upR (r : Nat → Int32) (x y t u : Nat) : hb (upR r x y t) u = true ↔ (hb (r t) u = true ∨ hb (r t) x = true ∧ hb (r y) u = true) := by
  unfold upR
  by_cases h : hb (r t) x = true
  · rw [if_pos h, hb_or, Bool.or_eq_true]
    exact ⟨fun g => g.elim Or.inl fun g => Or.inr ⟨h, g⟩, fun g => g.elim Or.inl fun g => Or.inr g.2⟩
  · rw [if_neg h]
    exact ⟨Or.inl, fun g => g.elim id fun g => absurd g.1 h⟩
