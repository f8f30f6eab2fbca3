-- ===== end of PART A; then your names; then what follows =====
/-! THE CLAIM OUT OF ONE WALK OF THE LAW'S BODY. Your part is whole_start (and what it stands on); all else here is the same for every law, but numbers. -/
def R_law : String := "SomeAreNoneIsLaw"
def lw_P (b : Addr) (xs : List Int32) (args : Array Value) (s : State) : Prop := args = #[.ref b] ∧ s.IntsAt b xs ∧ xs.length ≤ 320 ∧ (Jvm.Cond.and given_1 narrow_1).before args s = true
def lw_Q (_ : Array Value) (s : State) (o : Outcome) (t : State) : Prop := o = .returned (some (.int 1)) ∧ Framed s o t [] 600128 7301098
def lw_Z (below : List Frame) (a : Array Value) (s : State) : State → Prop := fun t => ∃ o, t.status = .running ∧ Ended t below o ∧ lw_Q a s o t
/-- the law's own end, with 1 on the stack, nothing written that was there before, its room as the claim has it -/
theorem lw_ret {p : Program} {l : Launch} {e : Env} {s : State} {m : MethodId} {below : List Frame} {meth : Method} {c : Code} {b : Nat} (hx : p.tables.exec = Jvm.exec) (hb : c.code = code) (hr : meth.sig.returnType = ret) (hlocks : meth.locks = false) {pc : Nat} {H : Heap} {ls : Array Slot} (hdg : decode code pc = .ok (.ireturn, 1)) : W p l e room_1 s m #[Value.ref b] below meth c H [] 600128 7301098 (lw_Z below #[Value.ref b] s) (F0 m pc ls [.int 1]) := by
  intro T hT X
  obtain ⟨fs, hret, hrun, hended, hW, hframe⟩ := X.leave (v := some (.int 1)) (hlocks := hlocks) (fun h => by rw [hr] at h; cases h)
  have hmeth' : T.vm.method? m = some meth := X.method'
  refine ⟨T.setFrames fs, ?_, .returned (some (.int 1)), hrun, hended, rfl, ⟨_, rfl⟩, hW, hframe⟩
  jvm_step X.here [X.here.top, hx, hb, hdg, hmeth', hr, ret, narrow_b1]
  (try refine ⟨rfl, ?_⟩); (try refine ⟨rfl, ?_⟩)
  first | (intro acts; rw [hret _ acts rfl rfl rfl]) | rw [hret _ _ rfl rfl rfl]
  exact Steps.refl _
/-- what holds at the law's entry: the machine, the code, the tables' words (any of lw_tbl by 'hts w (by decide +kernel)'), the script of L ints xs at the cell b, what the Statement gives of the start (any of its parts by flat_of_before) -/
def lw_At (p : Program) (s : State) (m : MethodId) (meth : Method) (c : Code) (b L : Nat) (xs : Nat → Int32) : Prop :=
  p.tables.exec = Jvm.exec ∧ c.code = code ∧ meth.sig.returnType = ret ∧ c.maxLocals = 7 ∧ s.vm.findClass R_law = some m.cls ∧ (∀ w ∈ lw_tbl, w.before #[Value.ref b] s = true) ∧ va_X b L xs s s.heap ∧ b < s.heap.size ∧ meth.locks = false ∧ (Jvm.Cond.and given_1 narrow_1).before #[Value.ref b] s = true

theorem s_nest {args : Array Value} {s : State} (hts : ∀ w ∈ lw_tbl, w.before args s = true) : zN s := by
  intro w hw
  obtain ⟨h1, h2⟩ := List.mem_filter.mp hw
  have h3 := hts w h1
  cases w <;> first | (exact va_Nw.of rfl h3) | (exact absurd h2 (by simp [isNest]))
theorem s_arr {args : Array Value} {s : State} {ty : FieldType} (hno : ∀ C, ty ≠ .object C) (h : (Cond.arrayClass ty).before args s = true) : ∃ cA : ClassId, ArrOfT s cA ty ∧ va_RA s cA ty := by
  obtain ⟨cA, kA, comp, h1, h2, h3⟩ := Cond.arrayClass_spec h
  refine ⟨cA, fun n z => ⟨fun k h => (by cases h), kA, h2, comp, h3⟩, ?_⟩
  cases ty with
  | object C => exact absurd rfl (hno C)
  | _ => exact h1
theorem s_lA (s : State) : ∀ a : Nat, a < s.heap.size → ¬ lA s a := fun _ h => Nat.not_le.mpr h
theorem s_tab {args : Array Value} {s : State} {C n d : String} {ty : FieldType} {N : Nat} {f : Nat → Value} (hN : N < 2 ^ 31) (harr : (Cond.arrayOf (.static C n d) ty).before args s = true) (hlen : (Cond.eq (.length (.static C n d)) (.int (Int32.ofNat N))).before args s = true) (hel : ∀ j : Nat, j < N → (Term.elem (.static C n d) (.int (Int32.ofNat j))).eval args s none [] s = some (f j)) (hl : (Cond.laysStatic C n d).before args s = true) (hini : (Cond.initialized C).before args s = true) : ∃ t : Nat, va_Z C n d (.ref t) (lA s) s s.heap ∧ va_T ty t N f (lA s) s s.heap := by
  obtain ⟨t, h1, h2⟩ := va_Tof hN harr (va_eqt hlen) hel (s_lA s)
  exact ⟨t, va_Zof hl hini h1 (s_lA s), h2⟩
theorem s_el50 : ∀ j : Nat, j < 6 → Cond.eq (.elem (.static "SomeAreNoneIs$Sorts" "WITHIN" "[J") (.int (Int32.ofNat j))) (.long (xt_50 j)) ∈ flatC (Jvm.Cond.and given_1 narrow_1) := by decide +kernel
theorem s_st50 {args : Array Value} {s : State} (hts : ∀ w ∈ lw_tbl, w.before args s = true) (hs : ∀ w ∈ flatC (Jvm.Cond.and given_1 narrow_1), w.before args s = true) : ∃ t : Nat, va_Z "SomeAreNoneIs$Sorts" "WITHIN" "[J" (.ref t) (lA s) s s.heap ∧ va_T .long t 6 (fun j => .long (xt_50 j)) (lA s) s s.heap := s_tab (by decide) (hs _ (by decide +kernel)) (hs _ (by decide +kernel)) (fun j hj => va_eqtl (hs _ (s_el50 j hj))) (hts _ (by decide +kernel)) (hts _ (by decide +kernel))
theorem s_el51 : ∀ j : Nat, j < 19 → Cond.eq (.elem (.static "SomeAreNoneIs$Moods" "FIGURES" "[I") (.int (Int32.ofNat j))) (.int (xt_51 j)) ∈ flatC (Jvm.Cond.and given_1 narrow_1) := by decide +kernel
theorem s_st51 {args : Array Value} {s : State} (hts : ∀ w ∈ lw_tbl, w.before args s = true) (hs : ∀ w ∈ flatC (Jvm.Cond.and given_1 narrow_1), w.before args s = true) : ∃ t : Nat, va_Z "SomeAreNoneIs$Moods" "FIGURES" "[I" (.ref t) (lA s) s s.heap ∧ va_T .int t 19 (fun j => .int (xt_51 j)) (lA s) s s.heap := s_tab (by decide) (hs _ (by decide +kernel)) (hs _ (by decide +kernel)) (fun j hj => va_eqt (hs _ (s_el51 j hj))) (hts _ (by decide +kernel)) (hts _ (by decide +kernel))
theorem s_el52 : ∀ j : Nat, j < 19 → Cond.eq (.elem (.static "SomeAreNoneIs$Moods" "FIRSTS" "[I") (.int (Int32.ofNat j))) (.int (xt_52 j)) ∈ flatC (Jvm.Cond.and given_1 narrow_1) := by decide +kernel
theorem s_st52 {args : Array Value} {s : State} (hts : ∀ w ∈ lw_tbl, w.before args s = true) (hs : ∀ w ∈ flatC (Jvm.Cond.and given_1 narrow_1), w.before args s = true) : ∃ t : Nat, va_Z "SomeAreNoneIs$Moods" "FIRSTS" "[I" (.ref t) (lA s) s s.heap ∧ va_T .int t 19 (fun j => .int (xt_52 j)) (lA s) s s.heap := s_tab (by decide) (hs _ (by decide +kernel)) (hs _ (by decide +kernel)) (fun j hj => va_eqt (hs _ (s_el52 j hj))) (hts _ (by decide +kernel)) (hts _ (by decide +kernel))
theorem s_el53 : ∀ j : Nat, j < 19 → Cond.eq (.elem (.static "SomeAreNoneIs$Moods" "SECONDS" "[I") (.int (Int32.ofNat j))) (.int (xt_53 j)) ∈ flatC (Jvm.Cond.and given_1 narrow_1) := by decide +kernel
theorem s_st53 {args : Array Value} {s : State} (hts : ∀ w ∈ lw_tbl, w.before args s = true) (hs : ∀ w ∈ flatC (Jvm.Cond.and given_1 narrow_1), w.before args s = true) : ∃ t : Nat, va_Z "SomeAreNoneIs$Moods" "SECONDS" "[I" (.ref t) (lA s) s s.heap ∧ va_T .int t 19 (fun j => .int (xt_53 j)) (lA s) s s.heap := s_tab (by decide) (hs _ (by decide +kernel)) (hs _ (by decide +kernel)) (fun j hj => va_eqt (hs _ (s_el53 j hj))) (hts _ (by decide +kernel)) (hts _ (by decide +kernel))
theorem s_el54 : ∀ j : Nat, j < 19 → Cond.eq (.elem (.static "SomeAreNoneIs$Moods" "THIRDS" "[I") (.int (Int32.ofNat j))) (.int (xt_54 j)) ∈ flatC (Jvm.Cond.and given_1 narrow_1) := by decide +kernel
theorem s_st54 {args : Array Value} {s : State} (hts : ∀ w ∈ lw_tbl, w.before args s = true) (hs : ∀ w ∈ flatC (Jvm.Cond.and given_1 narrow_1), w.before args s = true) : ∃ t : Nat, va_Z "SomeAreNoneIs$Moods" "THIRDS" "[I" (.ref t) (lA s) s s.heap ∧ va_T .int t 19 (fun j => .int (xt_54 j)) (lA s) s s.heap := s_tab (by decide) (hs _ (by decide +kernel)) (hs _ (by decide +kernel)) (fun j hj => va_eqt (hs _ (s_el54 j hj))) (hts _ (by decide +kernel)) (hts _ (by decide +kernel))
theorem s_el55 : ∀ j : Nat, j < 8 → Cond.eq (.elem (.static "SomeAreNoneIs$Moods" "BY_SIZE" "[I") (.int (Int32.ofNat j))) (.int (xt_55 j)) ∈ flatC (Jvm.Cond.and given_1 narrow_1) := by decide +kernel
theorem s_st55 {args : Array Value} {s : State} (hts : ∀ w ∈ lw_tbl, w.before args s = true) (hs : ∀ w ∈ flatC (Jvm.Cond.and given_1 narrow_1), w.before args s = true) : ∃ t : Nat, va_Z "SomeAreNoneIs$Moods" "BY_SIZE" "[I" (.ref t) (lA s) s s.heap ∧ va_T .int t 8 (fun j => .int (xt_55 j)) (lA s) s s.heap := s_tab (by decide) (hs _ (by decide +kernel)) (hs _ (by decide +kernel)) (fun j hj => va_eqt (hs _ (s_el55 j hj))) (hts _ (by decide +kernel)) (hts _ (by decide +kernel))
theorem s_q1 : ∀ i : Nat, i < 3 → Cond.exactly (Term.string "SomeAreNoneIsModel" (([64, 339, 341] : List Nat).getD i 0)) "java/lang/String" ∈ flatC (Jvm.Cond.and given_1 narrow_1) := by decide +kernel
theorem s_q2 : ∀ i : Nat, i < 3 → Cond.eq (.field (Term.string "SomeAreNoneIsModel" (([64, 339, 341] : List Nat).getD i 0)) "java/lang/String" "coder" "B") (.int 0) ∈ flatC (Jvm.Cond.and given_1 narrow_1) := by decide +kernel
theorem s_q3 : ∀ i : Nat, i < 3 → Cond.arrayOf (.field (Term.string "SomeAreNoneIsModel" (([64, 339, 341] : List Nat).getD i 0)) "java/lang/String" "value" "[B") .byte ∈ flatC (Jvm.Cond.and given_1 narrow_1) := by decide +kernel
theorem s_q4 : ∀ i : Nat, i < 3 → Cond.eq (.length (.field (Term.string "SomeAreNoneIsModel" (([64, 339, 341] : List Nat).getD i 0)) "java/lang/String" "value" "[B")) (.int (Int32.ofNat (mLen.getD i 0))) ∈ flatC (Jvm.Cond.and given_1 narrow_1) := by decide +kernel
theorem s_q5 : ∀ i : Nat, i < 3 → ∀ j : Nat, j < mLen.getD i 0 → Cond.eq (.elem (.field (Term.string "SomeAreNoneIsModel" (([64, 339, 341] : List Nat).getD i 0)) "java/lang/String" "value" "[B") (.int (Int32.ofNat j))) (.int ((mByt.getD i []).getD j 0)) ∈ flatC (Jvm.Cond.and given_1 narrow_1) := by decide +kernel
theorem s_q6 : ∀ i : Nat, i < 3 → ∀ j : Nat, j < 3 → i ≠ j → (Cond.not (Cond.eq (Term.string "SomeAreNoneIsModel" (([64, 339, 341] : List Nat).getD i 0)) (Term.string "SomeAreNoneIsModel" (([64, 339, 341] : List Nat).getD j 0))) ∈ flatC (Jvm.Cond.and given_1 narrow_1) ∨ Cond.not (Cond.eq (Term.string "SomeAreNoneIsModel" (([64, 339, 341] : List Nat).getD j 0)) (Term.string "SomeAreNoneIsModel" (([64, 339, 341] : List Nat).getD i 0))) ∈ flatC (Jvm.Cond.and given_1 narrow_1)) := by decide +kernel
theorem s_str {args : Array Value} {s : State} (hs : ∀ w ∈ flatC (Jvm.Cond.and given_1 narrow_1), w.before args s = true) : ∃ adK adV : Nat → Nat, vk_S 3 mLen mByt adK adV (lA s) s s.heap ∧ ∀ i : Nat, i < 3 → (Term.string "SomeAreNoneIsModel" (([64, 339, 341] : List Nat).getD i 0)).eval args s none [] s = some (.ref (adK i)) :=
  vk_Sof (tm := fun i => Term.string "SomeAreNoneIsModel" (([64, 339, 341] : List Nat).getD i 0)) (by decide +kernel) (fun i hi => hs _ (s_q1 i hi)) (fun i hi => hs _ (s_q2 i hi)) (fun i hi => hs _ (s_q3 i hi)) (fun i hi => hs _ (s_q4 i hi)) (fun i hi j hj => hs _ (s_q5 i hi j hj)) (fun i j hi hj hij => (s_q6 i hi j hj hij).elim (fun h => Or.inl (hs _ h)) (fun h => Or.inr (hs _ h))) (s_lA s)
