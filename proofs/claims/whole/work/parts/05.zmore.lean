theorem zz_name {α β : Type} {a : α} {f : α → Option β} {q : β} (h : zlet a f = some q) : ∃ v, v = a ∧ f v = some q := ⟨a, rfl, h⟩
theorem zsw_out {x : Int32} {lo hi : Int} (h : ∀ k : Int, lo ≤ k → k ≤ hi → ¬ x = Int32.ofInt k) : x.toInt < lo ∨ hi < x.toInt := by
  by_cases h1 : x.toInt < lo
  · exact Or.inl h1
  · by_cases h2 : hi < x.toInt
    · exact Or.inr h2
    · exact absurd (Int32.ofInt_toInt x).symm (h x.toInt (by omega) (by omega))
theorem zsw_ne {x : Int32} {k : Int} (h : ¬ x = Int32.ofInt k) : ¬ x.toInt = k := fun g => h (by rw [← g, Int32.ofInt_toInt])
theorem zsw_no2 {x : Int32} {a b o1 o2 d : Int} (h1 : ¬ x = Int32.ofInt a) (h2 : ¬ x = Int32.ofInt b) : Op.lookupswitch.offset [(a, o1), (b, o2)] d x.toInt = d := by
  rw [Op.lookupswitch.offset_cons, if_neg (fun g => zsw_ne h1 g.symm), Op.lookupswitch.offset_cons, if_neg (fun g => zsw_ne h2 g.symm)]
  rfl
