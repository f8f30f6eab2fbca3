/-! proofs: a chain of codes that differ is short -/
theorem dif_len : ∀ N lo (l : List Nat), l.Nodup → (∀ x ∈ l, lo ≤ x ∧ x < lo + N) → l.length ≤ N := by
  intro N
  induction N with
  | zero =>
    intro lo l _ h
    cases l with
    | nil => exact Nat.le_refl 0
    | cons x l => have := h x (by simp); omega
  | succ N ih =>
    intro lo l hn h
    by_cases g : lo + N ∈ l
    · have h1 := ih lo (l.erase (lo + N)) (hn.erase _) (fun x hx => by
        have h2 := (List.Nodup.mem_erase_iff hn).mp hx
        have := h x h2.2
        have := h2.1
        omega)
      rw [List.length_erase_of_mem g] at h1
      omega
    · have := ih lo l hn (fun x hx => by
        have := h x hx
        by_cases e : x = lo + N
        · rw [e] at hx; exact absurd hx g
        · omega)
      omega
/-- if each code of a row of codes is cheap or made from another one of the row at little more, all are cheap -/
theorem chain_le {al lv : Int32} {T : Nat → Prop} {lo N i w : Nat} (h : ∀ c m, lo ≤ c → c < lo + N → Ls al lv T c m → m ≤ i ∨ ∃ c' m', lo ≤ c' ∧ c' < lo + N ∧ Ls al lv T c' m' ∧ m' < m ∧ m ≤ m' + (w + 1)) : ∀ c m, lo ≤ c → c < lo + N → Ls al lv T c m → m ≤ i + N * (w + 1) := by
  have key : ∀ m c, lo ≤ c → c < lo + N → Ls al lv T c m → ∃ l : List Nat, l.Nodup ∧ (∀ x ∈ l, lo ≤ x ∧ x < lo + N ∧ ∃ mx, mx ≤ m ∧ Ls al lv T x mx) ∧ m ≤ i + l.length * (w + 1) := by
    intro m
    induction m using Nat.strongRecOn with
    | ind m ih =>
      intro c h1 h2 h3
      rcases h c m h1 h2 h3 with g | ⟨c', m', g1, g2, g3, g4, g5⟩
      · exact ⟨[], List.nodup_nil, fun x hx => absurd hx (by simp), by omega⟩
      · obtain ⟨l, l1, l2, l3⟩ := ih m' g4 c' g1 g2 g3
        refine ⟨c :: l, List.nodup_cons.mpr ⟨fun hx => ?_, l1⟩, fun x hx => ?_, ?_⟩
        · obtain ⟨-, -, mx, k1, k2⟩ := l2 c hx
          have := Ls_eq k2 h3
          omega
        · rcases List.mem_cons.mp hx with rfl | hx
          · exact ⟨h1, h2, m, Nat.le_refl _, h3⟩
          · obtain ⟨k1, k2, mx, k3, k4⟩ := l2 x hx
            exact ⟨k1, k2, mx, by omega, k4⟩
        · rw [List.length_cons, Nat.add_mul, Nat.one_mul]
          omega
  intro c m h1 h2 h3
  obtain ⟨l, l1, l2, l3⟩ := key m c h1 h2 h3
  have := dif_len N lo l l1 fun x hx => ⟨(l2 x hx).1, (l2 x hx).2.1⟩
  have := Nat.mul_le_mul_right (w + 1) this
  omega
