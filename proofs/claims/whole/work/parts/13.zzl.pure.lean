/-! proofs: the class offers -/
/-- costs and reached codes -/
def Dk (S : Zs) (st : Nat → Nat) (l : List Nat) : Prop := (∀ b, b < 2304 → S.1 36 b = nI (st b) ∧ st b ≤ 268435456) ∧ l.Nodup ∧ S.1 0 706 = nI l.length ∧ (∀ i c, l[i]? = some c → S.1 37 i = nI c) ∧ ∀ c, c ∈ l ↔ c < 2304 ∧ st c < 268435456
theorem Dk_len {S : Zs} {st : Nat → Nat} {l : List Nat} (h : Dk S st l) : l.length ≤ 2304 := dif_len 2304 0 l h.2.1 fun x hx => ⟨Nat.zero_le _, by have := ((h.2.2.2.2 x).mp hx).1; omega⟩
theorem x_offer {F : Nat} {S : Zs} {st : Nat → Nat} {l : List Nat} (h : Dk S st l) {c v : Nat} (hc : c < 2304) (hv : v < 2 ^ 30) : ∃ S2 l2, n_X5_offer_35 F S (nI c) (nI v) = some (0, S2) ∧ fr [36, 37] [706] S S2 ∧ Dk S2 (updN st c (min v (st c))) l2 ∧ ∃ l3, l2 = l ++ l3 := by
  obtain ⟨h1, h2, h3, h4, h5⟩ := h
  obtain ⟨s1, s2⟩ := h1 c hc
  have hlen : l.length ≤ 2304 := Dk_len ⟨h1, h2, h3, h4, h5⟩
  unfold n_X5_offer_35 n_X5_offer_35_e n_X5_offer_35_b52
  rw [zld_nI _ _ _ hc (by omega), s1]
  by_cases w : v < st c
  · have em : min v (st c) = v := by omega
    rw [if_pos (nI_lt w (by omega)), zld_nI _ _ _ hc (by omega), s1, em]
    have cost : ∀ S', (∀ b, S'.1 36 b = S.1 36 b) → ∀ b, b < 2304 → (zp S' 36 c (nI v)).1 36 b = nI (updN st c v b) ∧ updN st c v b ≤ 268435456 := by
      intro S' e b hb'
      unfold updN
      by_cases g : b = c
      · rw [g, zp_at, if_pos rfl]; exact ⟨rfl, by omega⟩
      · rw [zp_off _ _ (Or.inr g), if_neg g, e]; exact h1 b hb'
    by_cases g : st c = 268435456
    · have hcl : c ∉ l := fun z => by have := ((h5 c).mp z).2; omega
      have hlt : l.length < 2304 := by
        have := dif_len 2304 0 (c :: l) (List.nodup_cons.mpr ⟨hcl, h2⟩) fun x hx => ⟨Nat.zero_le _, by
          rcases List.mem_cons.mp hx with rfl | hx
          · omega
          · have := ((h5 x).mp hx).1; omega⟩
        rw [List.length_cons] at this
        omega
      rw [if_pos (show nI (st c) = 268435456 by rw [g]; rfl), zgS, h3, if_neg (show ¬ (2304 : Int32) ≤ nI l.length from nI_ge (b := 2304) hlt (by omega)), zgS, h3, zst_nI _ _ _ _ hlt (by omega), zgS, zp_off _ _ (Or.inl (by decide)), h3, zpS, nI_1, zst_nI _ _ _ _ hc (by omega)]
      refine ⟨_, l ++ [c], rfl, fr_t (fr_r _ _ (by decide) (by decide)) (fr_t (fr_p _ (by decide)) (fr_r _ _ (by decide) (by decide))), ⟨cost _ (fun b => by rw [zp_off _ _ (Or.inl (by decide)), zp_off _ _ (Or.inl (by decide))]), ?_, ?_, fun i x hx => ?_, fun x => ?_⟩, [c], rfl⟩
      · exact List.nodup_append.mpr ⟨h2, by simp, fun x hx y hy => by
          rw [List.mem_singleton.mp hy]
          exact fun e => hcl (e ▸ hx)⟩
      · rw [zp_off _ _ (Or.inl (by decide)), zp_at, List.length_append]; rfl
      · rw [zp_off _ _ (Or.inl (by decide)), zp_off _ _ (Or.inl (by decide))]
        by_cases e : i < l.length
        · rw [List.getElem?_append_left e] at hx
          rw [zp_off _ _ (Or.inr (show i ≠ l.length by omega))]
          exact h4 i x hx
        · rw [List.getElem?_append_right (by omega)] at hx
          have e2 : i - l.length = 0 := by
            refine Classical.byContradiction fun w => ?_
            rw [List.getElem?_eq_none (by show 1 ≤ i - l.length; omega)] at hx
            exact absurd hx (by simp)
          rw [e2] at hx
          rw [show i = l.length by omega, zp_at, ← Option.some.inj (show some c = some x from hx)]
      · rw [List.mem_append, List.mem_singleton]
        unfold updN
        by_cases e : x = c
        · rw [if_pos e]; exact ⟨fun _ => ⟨by omega, by omega⟩, fun _ => Or.inr e⟩
        · rw [if_neg e]; exact ⟨fun z => (h5 x).mp (z.resolve_right e), fun z => Or.inl ((h5 x).mpr z)⟩
    · rw [if_neg (show ¬ nI (st c) = 268435456 from fun z => g ((nI_eq (b := 268435456) (by omega) (by omega)).mp z)), zst_nI _ _ _ _ hc (by omega)]
      refine ⟨_, l, rfl, fr_r _ _ (by decide) (by decide), ⟨cost _ (fun b => rfl), h2, ?_, fun i x hx => ?_, fun x => ?_⟩, [], by simp⟩
      · rw [zp_off _ _ (Or.inl (by decide))]; exact h3
      · rw [zp_off _ _ (Or.inl (by decide))]; exact h4 i x hx
      · unfold updN
        by_cases e : x = c
        · rw [if_pos e, h5, e]; exact ⟨fun _ => ⟨hc, by omega⟩, fun _ => ⟨hc, by omega⟩⟩
        · rw [if_neg e]; exact h5 x
  · have e : updN st c (min v (st c)) = st := funext fun x => by
      unfold updN
      by_cases q : x = c
      · rw [if_pos q, q]; omega
      · rw [if_neg q]
    rw [if_neg (fun z => by rw [nI_lt_iff (by omega) (by omega)] at z; exact w z), e]
    exact ⟨S, l, rfl, fr_rf _ _ _, ⟨h1, h2, h3, h4, h5⟩, [], by simp⟩
