/-! THE CORE: a method's meaning is a plain function on a state of ints; the rows below walk the machine along it. -/
abbrev Zs : Type := (Nat → Nat → Int32) × (Nat → Int64)
abbrev zG : Type := va_G × List (ClassId × FieldType) × (Nat → Prop) × (Zs → va_W) × (State → Prop)
/-- write row r, place i -/
def zp (S : Zs) (r i : Nat) (v : Int32) : Zs := (fun q => if q = r then upd (S.1 r) i v else S.1 q, S.2)
/-- write place i of the row of longs -/
def zpL (S : Zs) (i : Nat) (v : Int64) : Zs := (S.1, vp_updL S.2 i v)
def zin (i : Int32) (n : Nat) : Bool := !(decide (i < 0)) && decide (i.toNatClampNeg < n)
def zlet {α β : Type} (a : α) (f : α → Option β) : Option β := f a
def zgf {β : Type} (S : Zs) (k : Nat) (f : Int32 → Option β) : Option β := f (S.1 0 k)
def zpf {β : Type} (S : Zs) (k : Nat) (v : Int32) (f : Zs → Option β) : Option β := f (zp S 0 k v)
def zpb {β : Type} (S : Zs) (k : Nat) (v : Int32) (f : Zs → Option β) : Option β := if v = 0 ∨ v = 1 then f (zp S 0 k v) else none
def zld {β : Type} (S : Zs) (r n : Nat) (i : Int32) (f : Int32 → Option β) : Option β := if zin i n then f (S.1 r i.toNatClampNeg) else none
def zst {β : Type} (S : Zs) (r n : Nat) (i v : Int32) (f : Zs → Option β) : Option β := if zin i n then f (zp S r i.toNatClampNeg v) else none
def zldL {β : Type} (S : Zs) (n : Nat) (i : Int32) (f : Int64 → Option β) : Option β := if zin i n then f (S.2 i.toNatClampNeg) else none
def zstL {β : Type} (S : Zs) (n : Nat) (i : Int32) (v : Int64) (f : Zs → Option β) : Option β := if zin i n then f (zpL S i.toNatClampNeg v) else none
/-- a table that nobody writes -/
def zlt {α β : Type} (t : Nat → α) (n : Nat) (i : Int32) (f : α → Option β) : Option β := if zin i n then f (t i.toNatClampNeg) else none
def zcl {α β : Type} (d : Option (α × Zs)) (f : α → Zs → Option β) : Option β := match d with
  | some q => f q.1 q.2
  | none => none
def zrb (v : Int32) (S : Zs) : Option (Int32 × Zs) := if v &&& 1 = v then some (v, S) else none
def zrn (ty : FieldType) (v : Int32) (S : Zs) : Option (Int32 × Zs) := if vp_nar ty v = v then some (v, S) else none
def znz {β : Type} (v : Int32) (a : Option β) : Option β := if v = 0 then none else a
def zfix {α β : Type} (f : (α → Option β) → α → Option β) : Nat → α → Option β
  | 0 => fun _ => none
  | n + 1 => f (zfix f n)
theorem zin_of {i : Int32} {n : Nat} (h : zin i n = true) : vp_in i n := by
  unfold zin at h
  simp only [Bool.and_eq_true, Bool.not_eq_true', decide_eq_false_iff_not, decide_eq_true_eq] at h
  intro g
  rcases g with g | g
  · exact h.1 g
  · omega
def isNest : Cond → Bool
  | .fieldLinkNest .. => true
  | .methodLinkNest .. => true
  | _ => false
def lw_nest : List Cond := lw_tbl.filter isNest
theorem lw_nat {w : Cond} (i : Nat) (h : lw_tbl[i]? = some w) (g : isNest w = true) : w ∈ lw_nest := List.mem_filter.mpr ⟨List.mem_of_getElem? h, g⟩
/-- the words on nest mates' members -/
def zN (U : State) : Prop := ∀ w ∈ lw_nest, va_Nw w U
theorem zN_to {s U : State} (h : s.WarmedH U.vm ∨ U.vm = s.vm) (hn : zN s) : zN U := by
  intro w hw
  have hw0 := hn w hw
  have hi := (List.mem_filter.mp hw).2
  cases w <;> first | (exact absurd hi (by decide)) | (exact h.elim (fun g => va_Nw.warmF g hw0) (fun g => va_Nw.same rfl g.symm hw0)) | (exact h.elim (fun g => va_Nw.warmM g hw0) (fun g => va_Nw.same rfl g.symm hw0)) | (simp [isNest] at hi)
def zSt (G : zG) : Prop := ∀ s U : State, s.heap.size ≤ U.heap.size → (∀ q : Nat, q < s.heap.size → ¬ G.2.2.1 q → U.heap[q]? = s.heap[q]?) → (s.WarmedH U.vm ∨ U.vm = s.vm) → G.2.2.2.2 s → G.2.2.2.2 U
def zB (G : zG) (S : Zs) (U : State) : Prop := va_P G.1 vwCl (G.2.2.2.1 S) U.heap ∧ va_D G.2.2.1 (G.2.2.2.1 S) ∧ va_K G.1 vwCl G.2.1 U ∧ (G.2.2.2.2 U ∧ zN U) ∧ zSt G
def zW (G : zG) (s : State) (S : Zs) (H : Heap) (locs : List Loc) : Prop := va_P G.1 vwCl (G.2.2.2.1 S) H ∧ va_D G.2.2.1 (G.2.2.2.1 S) ∧ va_K G.1 vwCl G.2.1 s ∧ (G.2.2.2.2 s ∧ zN s) ∧ zSt G ∧ va_S G.2.2.1 s.heap H locs
def zC (p : Program) (s : State) (m : MethodId) (args : Array Value) (meth : Method) (c : Code) (cc : ByteArray) (nL : Nat) (own : String) (ret : Option FieldType) : Prop :=
  p.tables.exec = Jvm.exec ∧ c.code = cc ∧ c.maxLocals = nL ∧ s.vm.findClass own = some m.cls ∧ (∀ w ∈ lw_ok, w.before args s = true) ∧ meth.sig.returnType = ret ∧ meth.locks = false
def zR (f n : Nat) : Room := { frames := f, cells := 0, slots := 0, locals := n }
/-- contracts: an int (or boolean), nothing, a long, a cell at a known place -/
def zMi (l : Launch) (y : MethodName) (cc : ByteArray) (n : Nat) (ret : Option FieldType) (rm : Room) (G : zG) (av : List Value) (S : Zs) (q : Int32 × Zs) : Prop :=
  Met l y (ws_of y cc n ret) rm (va_Pc av (zB G S)) (va_Qi (fun r u => (r, u) = q) (zB G) G.2.2.1) 0 0 G.2.2.1
def zMl (l : Launch) (y : MethodName) (cc : ByteArray) (n : Nat) (ret : Option FieldType) (rm : Room) (G : zG) (av : List Value) (S : Zs) (q : Int64 × Zs) : Prop :=
  Met l y (ws_of y cc n ret) rm (va_Pc av (zB G S)) (va_Ql (fun r u => (r, u) = q) (zB G) G.2.2.1) 0 0 G.2.2.1
def zMv (l : Launch) (y : MethodName) (cc : ByteArray) (n : Nat) (ret : Option FieldType) (rm : Room) (G : zG) (av : List Value) (S : Zs) (q : Int32 × Zs) : Prop :=
  Met l y (ws_of y cc n ret) rm (va_Pc av (zB G S)) (va_Qv (fun u => u = q.2) (zB G) G.2.2.1) 0 0 G.2.2.1
def zMr (l : Launch) (y : MethodName) (cc : ByteArray) (n : Nat) (ret : Option FieldType) (rm : Room) (G : zG) (av : List Value) (a : Nat) (S : Zs) (q : Int32 × Zs) : Prop :=
  Met l y (ws_of y cc n ret) rm (va_Pc av (zB G S)) (va_Qr (fun u => u = q.2) (fun u b t => b = a ∧ zB G u t) G.2.2.1) 0 0 G.2.2.1
theorem zB.blind {G : zG} {av : List Value} {S : Zs} : FrameBlind (va_Pc av (zB G S)) := by
  intro a U g mk h
  obtain ⟨h1, h2, h3, h4, h5, h6⟩ := h
  exact ⟨h1, h2, h3, va_K.moved (u := U) (U := U.calling g mk a) (Vm.Alike.refl U.vm) h4, ⟨h6 U (U.calling g mk a) (Nat.le_refl _) (fun _ _ _ => rfl) (Or.inr rfl) h5.1, zN_to (s := U) (Or.inr rfl) h5.2⟩, h6⟩
theorem zW.start {G : zG} {s : State} {S : Zs} (h : zB G S s) : zW G s S s.heap [] := ⟨h.1, h.2.1, h.2.2.1, h.2.2.2.1, h.2.2.2.2, va_S.rf⟩
theorem zW.to {G : zG} {s t : State} {S : Zs} {H : Heap} {locs : List Loc} (h : zW G s S H locs) (ht : t.heap = H) (hv : s.WarmedH t.vm) : zB G S t := by
  obtain ⟨h1, h2, h3, h4, h5, h6⟩ := h
  refine ⟨by rw [ht]; exact h1, h2, va_K.moved hv.alike h3, ⟨h5 s t (by rw [ht]; exact h6.1) (fun q a b => by rw [ht]; exact h6.2.1 q a b) (Or.inl hv) h4.1, zN_to (Or.inl hv) h4.2⟩, h5⟩
abbrev zQi (G : zG) (q : Int32 × Zs) (below : List Frame) (args : Array Value) (s : State) : State → Prop := MQ below (va_Qi (fun r u => (r, u) = q) (zB G) G.2.2.1) args s 0 0 G.2.2.1
abbrev zQl (G : zG) (q : Int64 × Zs) (below : List Frame) (args : Array Value) (s : State) : State → Prop := MQ below (va_Ql (fun r u => (r, u) = q) (zB G) G.2.2.1) args s 0 0 G.2.2.1
abbrev zQv (G : zG) (q : Int32 × Zs) (below : List Frame) (args : Array Value) (s : State) : State → Prop := MQ below (va_Qv (fun u => u = q.2) (zB G) G.2.2.1) args s 0 0 G.2.2.1
abbrev zQr (G : zG) (a : Nat) (q : Int32 × Zs) (below : List Frame) (args : Array Value) (s : State) : State → Prop := MQ below (va_Qr (fun u => u = q.2) (fun u b t => b = a ∧ zB G u t) G.2.2.1) args s 0 0 G.2.2.1
theorem zz_enter {l : Launch} {y : MethodName} {cc : ByteArray} {n : Nat} {ret : Option FieldType} {rm : Room} {G : zG} {av : List Value} {S : Zs} {Qc : Array Value → State → Outcome → State → Prop} (hy : plainName y.cls = true) (hn : (lg_sl av).length ≤ n)
    (k : ∀ (p : Program) (e : Env) (s : State) (m : MethodId) (below : List Frame) (meth : Method) (c : Code) (ls : Array Slot), zC p s m av.toArray meth c cc n y.cls ret → zW G s S s.heap [] → lv_has ls n (lv_args 0 av) → W p l e rm s m av.toArray below meth c s.heap [] 0 0 (MQ below Qc av.toArray s 0 0 G.2.2.1) (F0 m 0 ls [])) :
    Met l y (ws_of y cc n ret) rm (va_Pc av (zB G S)) Qc 0 0 G.2.2.1 := by
  refine Met.ofW (cc := cc) (maxL := n) (ret := ret) hy rfl ?_
  intro p e s m args below meth c s₁ B hml hv
  obtain ⟨rfl, hB⟩ := hv
  have C : zC p s m av.toArray meth c cc n y.cls ret := ⟨B.exec, B.bytes, hml, findClass_of_methodNamed B.named, fun w hw => atoms_spec (ws := ws_of y cc n ret) B.pre w (List.mem_cons_of_mem _ hw), B.returns, B.notSynchronized⟩
  have hl := lv_entry av (n := n) hn
  rw [lg_entry_eq]
  generalize (lg_sl av ++ List.replicate (n - (lg_sl av).length) Slot.unset).toArray = ls at hl ⊢
  exact k p e s m below meth c ls C (zW.start hB) hl
section ZR
variable {p : Program} {l : Launch} {e : Env} {R : Room} {s : State} {m : MethodId} {args : Array Value} {below : List Frame} {meth : Method} {c : Code} {H : Heap} {locs : List Loc} {cells slots : Nat} {Q : State → Prop}
variable {cc : ByteArray} {nL pc : Nat} {own : String} {ret : Option FieldType} {ls : Array Slot} {rest : List Value} {G : zG} {S : Zs}
theorem zz_let {α β : Type} {mk : α → Value} {x : α} {f : α → Option β} {q : β} (h : zlet x f = some q) (k : ∀ v, f v = some q → W p l e R s m args below meth c H locs cells slots Q (F0 m pc ls (mk v :: rest))) : W p l e R s m args below meth c H locs cells slots Q (F0 m pc ls (mk x :: rest)) := k x h
theorem zz_leti {β : Type} {x : Int32} {f : Int32 → Option β} {q : β} (h : zlet x f = some q) (k : ∀ v, f v = some q → W p l e R s m args below meth c H locs cells slots Q (F0 m pc ls (.int v :: rest))) : W p l e R s m args below meth c H locs cells slots Q (F0 m pc ls (.int x :: rest)) := k x h
theorem zz_letl {β : Type} {x : Int64} {f : Int64 → Option β} {q : β} (h : zlet x f = some q) (k : ∀ v, f v = some q → W p l e R s m args below meth c H locs cells slots Q (F0 m pc ls (.long v :: rest))) : W p l e R s m args below meth c H locs cells slots Q (F0 m pc ls (.long x :: rest)) := k x h
theorem zz_if {β : Type} {c : Prop} [Decidable c] {a b : Option β} {q : β} (h : (if c then a else b) = some q) : (c → a = some q) ∧ (¬ c → b = some q) := ⟨fun g => by rw [if_pos g] at h; exact h, fun g => by rw [if_neg g] at h; exact h⟩
theorem zz_nz {β : Type} {v : Int32} {a : Option β} {q : β} (h : znz v a = some q) : ¬ v = 0 ∧ a = some q := by
  unfold znz at h
  split at h
  · cases h
  · exact ⟨by assumption, h⟩
theorem zC.fix (C : zC p s m args meth c cc nL own ret) : CallFix p m c cc nL s args lw_ok own := ⟨C.1, C.2.1, C.2.2.1, C.2.2.2.1, C.2.2.2.2.1⟩
-- returns
theorem zz_iret {l : Launch} {q : Int32 × Zs} {v : Int32} (C : zC p s m args meth c cc nL own ret) (hr : ret = some .int) (h : some (v, S) = some q) (hW : zW G s S H locs) (hdg : decode cc pc = .ok (.ireturn, 1)) :
    W p l e R s m args below meth c H locs 0 0 (MQ below (va_Qi (fun r u => (r, u) = q) (zB G) G.2.2.1) args s 0 0 G.2.2.1) (F0 m pc ls [.int v]) := by
  obtain ⟨hx, hb, hml, hown, hts, hret, hlk⟩ := C
  cases h
  exact W.iret hx hb (hret.trans hr) (fun t ht hv => ⟨⟨v, S, rfl, rfl, hW.to ht hv⟩, hW.2.2.2.2.2.F ht⟩) hW.2.2.2.2.2.2.2 hdg
theorem zz_zret {l : Launch} {q : Int32 × Zs} {v : Int32} (C : zC p s m args meth c cc nL own ret) (hr : ret = some .boolean) (h : zrb v S = some q) (hW : zW G s S H locs) (hdg : decode cc pc = .ok (.ireturn, 1)) :
    W p l e R s m args below meth c H locs 0 0 (MQ below (va_Qi (fun r u => (r, u) = q) (zB G) G.2.2.1) args s 0 0 G.2.2.1) (F0 m pc ls [.int v]) := by
  obtain ⟨hx, hb, hml, hown, hts, hret, hlk⟩ := C
  unfold zrb at h
  split at h
  · cases h
    exact W.zret hx hb (hret.trans hr) (congrArg Value.int (by assumption)) (fun t ht hv => ⟨⟨v, S, rfl, rfl, hW.to ht hv⟩, hW.2.2.2.2.2.F ht⟩) hW.2.2.2.2.2.2.2 hdg
  · cases h
theorem zz_nret {l : Launch} {q : Int32 × Zs} {v : Int32} {ty : FieldType} (C : zC p s m args meth c cc nL own ret) (hr : ret = some ty) (hty : ty = .char ∨ ty = .byte) (h : zrn ty v S = some q) (hW : zW G s S H locs) (hdg : decode cc pc = .ok (.ireturn, 1)) :
    W p l e R s m args below meth c H locs 0 0 (MQ below (va_Qi (fun r u => (r, u) = q) (zB G) G.2.2.1) args s 0 0 G.2.2.1) (F0 m pc ls [.int v]) := by
  obtain ⟨hx, hb, hml, hown, hts, hret, hlk⟩ := C
  unfold zrn at h
  split at h
  · rename_i hn
    have hn2 : narrow ty (.int v) = .int v := by
      rcases hty with rfl | rfl
      · exact congrArg Value.int hn
      · exact congrArg Value.int hn
    cases h
    exact W.zret hx hb (hret.trans hr) hn2 (fun t ht hv => ⟨⟨v, S, rfl, rfl, hW.to ht hv⟩, hW.2.2.2.2.2.F ht⟩) hW.2.2.2.2.2.2.2 hdg
  · cases h
theorem zz_lret {l : Launch} {q : Int64 × Zs} {v : Int64} (C : zC p s m args meth c cc nL own ret) (hr : ret = some .long) (h : some (v, S) = some q) (hW : zW G s S H locs) (hdg : decode cc pc = .ok (.lreturn, 1)) :
    W p l e R s m args below meth c H locs 0 0 (MQ below (va_Ql (fun r u => (r, u) = q) (zB G) G.2.2.1) args s 0 0 G.2.2.1) (F0 m pc ls [.long v]) := by
  obtain ⟨hx, hb, hml, hown, hts, hret, hlk⟩ := C
  cases h
  exact W.lret hx hb (hret.trans hr) (fun t ht hv => ⟨⟨v, S, rfl, rfl, hW.to ht hv⟩, hW.2.2.2.2.2.F ht⟩) hW.2.2.2.2.2.2.2 hdg
theorem zz_vret {l : Launch} {q : Int32 × Zs} (C : zC p s m args meth c cc nL own ret) (hr : ret = none) (h : some ((0 : Int32), S) = some q) (hW : zW G s S H locs) (hdg : decode cc pc = .ok (.return_, 1)) :
    W p l e R s m args below meth c H locs 0 0 (MQ below (va_Qv (fun u => u = q.2) (zB G) G.2.2.1) args s 0 0 G.2.2.1) (F0 m pc ls []) := by
  obtain ⟨hx, hb, hml, hown, hts, hret, hlk⟩ := C
  cases h
  exact W.vret hx hb (hret.trans hr) (fun t ht hv => ⟨⟨S, rfl, rfl, hW.to ht hv⟩, hW.2.2.2.2.2.F ht⟩) hW.2.2.2.2.2.2.2 hdg
theorem zz_aret {l : Launch} {q : Int32 × Zs} {a : Nat} {rn : String} (C : zC p s m args meth c cc nL own ret) (hr : ret = some (.object rn)) (h : some ((0 : Int32), S) = some q) (hW : zW G s S H locs) (hdg : decode cc pc = .ok (.areturn, 1)) :
    W p l e R s m args below meth c H locs 0 0 (MQ below (va_Qr (fun u => u = q.2) (fun u b t => b = a ∧ zB G u t) G.2.2.1) args s 0 0 G.2.2.1) (F0 m pc ls [.ref a]) := by
  obtain ⟨hx, hb, hml, hown, hts, hret, hlk⟩ := C
  cases h
  exact W.aret hx hb (hret.trans hr) (Or.inl ⟨rn, rfl⟩) (Or.inr ⟨a, rfl⟩) (fun t ht hv => ⟨⟨S, a, rfl, rfl, rfl, hW.to ht hv⟩, hW.2.2.2.2.2.F ht⟩) hW.2.2.2.2.2.2.2 hdg
-- calls: the link's words
def zLV (own : String) (idx : Nat) (Cn : String) (y : MethodName) (cc : ByteArray) (n : Nat) (ret : Option FieldType) (np : Nat) : Prop :=
  Cond.code y cc n ret ∈ lw_ok ∧ Cond.methodLink own idx y ∈ lw_ok ∧ Cond.instanceMethod y ∈ lw_ok ∧ Cond.selects Cn y y ∈ lw_ok ∧ Cond.initialized Cn ∈ lw_ok ∧ (y.cls = Cn ∧ y.cls ≠ "java/lang/invoke/MethodHandle" ∧ y.cls ≠ "java/lang/invoke/VarHandle" ∧ (parseMethodDescriptor y.desc).map (fun d => d.parameters.length) = some np)
def zLS (own : String) (idx : Nat) (y : MethodName) (cc : ByteArray) (n : Nat) (ret : Option FieldType) (np : Nat) : Prop :=
  Cond.code y cc n ret ∈ lw_ok ∧ Cond.methodLink own idx y ∈ lw_ok ∧ Cond.static y ∈ lw_ok ∧ Cond.initialized y.cls ∈ lw_ok ∧ (y.cls ≠ "java/lang/invoke/MethodHandle" ∧ y.cls ≠ "java/lang/invoke/VarHandle" ∧ (parseMethodDescriptor y.desc).map (fun d => d.parameters.length) = some np)
theorem zLV.good {own : String} {idx n np : Nat} {Cn : String} {y : MethodName} {cc : ByteArray} {ret : Option FieldType} (h : zLV own idx Cn y cc n ret np) : GoodIn lw_ok (wsV own idx Cn y (ws_of y cc n ret)) := by
  obtain ⟨h1, h2, h3, h4, h5, -⟩ := h
  intro w hw
  have key : w ∈ lw_ok := by
    simp only [wsV, ws_of, List.mem_append, List.mem_cons, List.not_mem_nil, or_false] at hw
    rcases hw with (rfl | rfl | rfl | rfl) | rfl | hw
    · exact h2
    · exact h3
    · exact h4
    · exact h5
    · exact h1
    · exact hw
  exact lw_ok_self w key
theorem zLS.good {own : String} {idx n np : Nat} {y : MethodName} {cc : ByteArray} {ret : Option FieldType} (h : zLS own idx y cc n ret np) : GoodIn lw_ok (va_wsS own idx y (ws_of y cc n ret)) := by
  obtain ⟨h1, h2, h3, h4, -⟩ := h
  intro w hw
  have key : w ∈ lw_ok := by
    simp only [va_wsS, ws_of, List.mem_append, List.mem_cons, List.not_mem_nil, or_false] at hw
    rcases hw with (rfl | rfl | rfl) | rfl | hw
    · exact h2
    · exact h3
    · exact h4
    · exact h1
    · exact hw
  exact lw_ok_self w key
/-- the receiver stands in the world -/
def zRec (G : zG) (S : Zs) (b : Nat) (Cn : String) : Prop := ∃ (q0 ci : Nat) (fs : List Value) (T : u_T) (N : Nat), (G.2.2.2.1 S)[q0]? = some (b, .inr (ci, fs)) ∧ vwCl[ci]? = some (Cn, T, N)
theorem zW.pre {y : MethodName} {av : List Value} (hW : zW G s S H locs) : ∀ U : State, U.heap = H → s.WarmedH U.vm → va_Pc av (zB G S) av.toArray U := fun U hU hv => ⟨rfl, hW.to hU hv⟩
theorem zW.recv {b : Nat} {Cn : String} (hW : zW G s S H locs) (hr : zRec G S b Cn) : ∃ cell : Cell, H[b]? = some cell ∧ cell.vm.isStatics = false ∧ s.vm.findClass Cn = some cell.cls := by
  obtain ⟨q0, ci, fs, T, N, h1, h2⟩ := hr
  exact va_recv (q := (Cn, T, N)) hW.2.2.1 hW.1 h2 h1
theorem zW.call {S2 : Zs} {t : State} {H1 : Heap} {locs1 : List Loc} (hW : zW G s S H locs) (ht : t.heap = H1) (hv : s.vm.Alike t.vm) (hB : zB G S2 t) (hS : va_S G.2.2.1 s.heap H1 locs1) : zW G s S2 H1 locs1 :=
  ⟨by rw [← ht]; exact hB.1, hB.2.1, hW.2.2.1, hW.2.2.2.1, hW.2.2.2.2.1, hS⟩
variable {y : MethodName} {bc : ByteArray} {maxL np idx b : Nat} {yret : Option FieldType} {rm : Room} {Cn : String} {As : List Value}
theorem zz_callVi {β : Type} {d : Option (Int32 × Zs)} {f : Int32 → Zs → Option β} {q : β} (C : zC p s m args meth c cc nL own ret) (hW : zW G s S H locs) (h : zcl d f = some q) (hM : ∀ r, d = some r → zMi l y bc maxL yret rm G (.ref b :: As) S r) (hL : zLV own idx Cn y bc maxL yret np) (hrec : ∃ cell : Cell, H[b]? = some cell ∧ cell.vm.isStatics = false ∧ s.vm.findClass Cn = some cell.cls)
    (hn : As.length = np) (hls : ls.size = nL) (hr0 : rm.cells = 0 ∧ rm.slots = 0) (hR : rm.frames + 1 ≤ R.frames ∧ 8 + (maxL + 11) + rm.locals ≤ R.locals) (hcat : (rest.map fun v => v.category).sum ≤ 8) (hcs : cells ≤ R.cells ∧ slots ≤ R.slots) {st : List Value} (hst : st = As.reverse ++ .ref b :: rest) (hdg : decode cc pc = .ok (.invokevirtual idx, 3))
    (k : ∀ (v : Int32) (S2 : Zs) (H1 : Heap) (locs1 : List Loc), f v S2 = some q → zW G s S2 H1 locs1 → W p l e R s m args below meth c H1 locs1 cells slots Q (F0 m (pc + 3) ls (.int v :: rest))) : W p l e R s m args below meth c H locs cells slots Q (F0 m pc ls st) := by
  cases hd : d with
  | none => rw [hd] at h; cases h
  | some r =>
    rw [hd] at h
    have h : f r.1 r.2 = some q := h
    subst hst
    refine va_calli (va_runV (C := Cn) (n := np) C.fix (hM r hd) (cwV np C.fix.2.2.2.2 hL.good rfl hr0.1 hr0.2 hL.2.2.2.2.2 hR) ⟨zB.blind, hrec, hW.pre (y := y)⟩ rfl hn hls rfl (lv_room hcat) hdg ⟨hcs.1, hcs.2⟩) hW.2.2.2.2.2 (fun _ _ z => z) (fun _ z => z) (fun v u t H1 locs1 ht hvm hp hB _ _ hS => ?_)
    subst hp
    exact k v u H1 locs1 h (hW.call ht hvm hB hS)
theorem zz_callVv {β : Type} {d : Option (Int32 × Zs)} {f : Int32 → Zs → Option β} {q : β} (C : zC p s m args meth c cc nL own ret) (hW : zW G s S H locs) (h : zcl d f = some q) (hM : ∀ r, d = some r → zMv l y bc maxL yret rm G (.ref b :: As) S r) (hL : zLV own idx Cn y bc maxL yret np) (hrec : ∃ cell : Cell, H[b]? = some cell ∧ cell.vm.isStatics = false ∧ s.vm.findClass Cn = some cell.cls)
    (hn : As.length = np) (hls : ls.size = nL) (hr0 : rm.cells = 0 ∧ rm.slots = 0) (hR : rm.frames + 1 ≤ R.frames ∧ 8 + (maxL + 11) + rm.locals ≤ R.locals) (hcat : (rest.map fun v => v.category).sum ≤ 8) (hcs : cells ≤ R.cells ∧ slots ≤ R.slots) {st : List Value} (hst : st = As.reverse ++ .ref b :: rest) (hdg : decode cc pc = .ok (.invokevirtual idx, 3))
    (k : ∀ (v : Int32) (S2 : Zs) (H1 : Heap) (locs1 : List Loc), f v S2 = some q → zW G s S2 H1 locs1 → W p l e R s m args below meth c H1 locs1 cells slots Q (F0 m (pc + 3) ls rest)) : W p l e R s m args below meth c H locs cells slots Q (F0 m pc ls st) := by
  cases hd : d with
  | none => rw [hd] at h; cases h
  | some r =>
    rw [hd] at h
    have h : f r.1 r.2 = some q := h
    subst hst
    refine va_callv (va_runV (C := Cn) (n := np) C.fix (hM r hd) (cwV np C.fix.2.2.2.2 hL.good rfl hr0.1 hr0.2 hL.2.2.2.2.2 hR) ⟨zB.blind, hrec, hW.pre (y := y)⟩ rfl hn hls rfl (lv_room hcat) hdg ⟨hcs.1, hcs.2⟩) hW.2.2.2.2.2 (fun _ _ z => z) (fun _ z => z) (fun u t H1 locs1 ht hvm hp hB _ _ hS => ?_)
    subst hp
    exact k r.1 r.2 H1 locs1 h (hW.call ht hvm hB hS)
theorem zz_callVr {β : Type} {d : Option (Int32 × Zs)} {f : Int32 → Zs → Option β} {q : β} {ra : Nat} (C : zC p s m args meth c cc nL own ret) (hW : zW G s S H locs) (h : zcl d f = some q) (hM : ∀ r, d = some r → zMr l y bc maxL yret rm G (.ref b :: As) ra S r) (hL : zLV own idx Cn y bc maxL yret np) (hrec : ∃ cell : Cell, H[b]? = some cell ∧ cell.vm.isStatics = false ∧ s.vm.findClass Cn = some cell.cls)
    (hn : As.length = np) (hls : ls.size = nL) (hr0 : rm.cells = 0 ∧ rm.slots = 0) (hR : rm.frames + 1 ≤ R.frames ∧ 8 + (maxL + 11) + rm.locals ≤ R.locals) (hcat : (rest.map fun v => v.category).sum ≤ 8) (hcs : cells ≤ R.cells ∧ slots ≤ R.slots) {st : List Value} (hst : st = As.reverse ++ .ref b :: rest) (hdg : decode cc pc = .ok (.invokevirtual idx, 3))
    (k : ∀ (v : Int32) (S2 : Zs) (H1 : Heap) (locs1 : List Loc), f v S2 = some q → zW G s S2 H1 locs1 → W p l e R s m args below meth c H1 locs1 cells slots Q (F0 m (pc + 3) ls (.ref ra :: rest))) : W p l e R s m args below meth c H locs cells slots Q (F0 m pc ls st) := by
  cases hd : d with
  | none => rw [hd] at h; cases h
  | some r =>
    rw [hd] at h
    have h : f r.1 r.2 = some q := h
    subst hst
    refine va_callr (va_runV (C := Cn) (n := np) C.fix (hM r hd) (cwV np C.fix.2.2.2.2 hL.good rfl hr0.1 hr0.2 hL.2.2.2.2.2 hR) ⟨zB.blind, hrec, hW.pre (y := y)⟩ rfl hn hls rfl (lv_room hcat) hdg ⟨hcs.1, hcs.2⟩) hW.2.2.2.2.2 (fun _ _ z => z) (fun _ z => z) (fun u a t H1 locs1 ht hvm hp hB _ _ hS => ?_)
    obtain ⟨rfl, hB⟩ := hB
    subst hp
    exact k r.1 r.2 H1 locs1 h (hW.call ht hvm hB hS)
theorem zz_callSi {β : Type} {d : Option (Int32 × Zs)} {f : Int32 → Zs → Option β} {q : β} (C : zC p s m args meth c cc nL own ret) (hW : zW G s S H locs) (h : zcl d f = some q) (hM : ∀ r, d = some r → zMi l y bc maxL yret rm G As S r) (hL : zLS own idx y bc maxL yret np)
    (hn : As.length = np) (hls : ls.size = nL) (hr0 : rm.cells = 0 ∧ rm.slots = 0) (hR : rm.frames + 1 ≤ R.frames ∧ 8 + (maxL + 11) + rm.locals ≤ R.locals) (hcat : (rest.map fun v => v.category).sum ≤ 8) (hcs : cells ≤ R.cells ∧ slots ≤ R.slots) {st : List Value} (hst : st = As.reverse ++ rest) (hdg : decode cc pc = .ok (.invokestatic idx, 3))
    (k : ∀ (v : Int32) (S2 : Zs) (H1 : Heap) (locs1 : List Loc), f v S2 = some q → zW G s S2 H1 locs1 → W p l e R s m args below meth c H1 locs1 cells slots Q (F0 m (pc + 3) ls (.int v :: rest))) : W p l e R s m args below meth c H locs cells slots Q (F0 m pc ls st) := by
  cases hd : d with
  | none => rw [hd] at h; cases h
  | some r =>
    rw [hd] at h
    have h : f r.1 r.2 = some q := h
    subst hst
    refine va_calli (va_runS (n := np) C.fix (hM r hd) (va_cwS np C.fix.2.2.2.2 hL.good rfl hr0.1 hr0.2 hL.2.2.2.2 hR) ⟨zB.blind, hW.pre (y := y)⟩ rfl hn hls rfl (lv_room hcat) hdg ⟨hcs.1, hcs.2⟩) hW.2.2.2.2.2 (fun _ _ z => z) (fun _ z => z) (fun v u t H1 locs1 ht hvm hp hB _ _ hS => ?_)
    subst hp
    exact k v u H1 locs1 h (hW.call ht hvm hB hS)
theorem zz_callSl {β : Type} {d : Option (Int64 × Zs)} {f : Int64 → Zs → Option β} {q : β} (C : zC p s m args meth c cc nL own ret) (hW : zW G s S H locs) (h : zcl d f = some q) (hM : ∀ r, d = some r → zMl l y bc maxL yret rm G As S r) (hL : zLS own idx y bc maxL yret np)
    (hn : As.length = np) (hls : ls.size = nL) (hr0 : rm.cells = 0 ∧ rm.slots = 0) (hR : rm.frames + 1 ≤ R.frames ∧ 8 + (maxL + 11) + rm.locals ≤ R.locals) (hcat : (rest.map fun v => v.category).sum ≤ 8) (hcs : cells ≤ R.cells ∧ slots ≤ R.slots) {st : List Value} (hst : st = As.reverse ++ rest) (hdg : decode cc pc = .ok (.invokestatic idx, 3))
    (k : ∀ (v : Int64) (S2 : Zs) (H1 : Heap) (locs1 : List Loc), f v S2 = some q → zW G s S2 H1 locs1 → W p l e R s m args below meth c H1 locs1 cells slots Q (F0 m (pc + 3) ls (.long v :: rest))) : W p l e R s m args below meth c H locs cells slots Q (F0 m pc ls st) := by
  cases hd : d with
  | none => rw [hd] at h; cases h
  | some r =>
    rw [hd] at h
    have h : f r.1 r.2 = some q := h
    subst hst
    refine va_calll (va_runS (n := np) C.fix (hM r hd) (va_cwS np C.fix.2.2.2.2 hL.good rfl hr0.1 hr0.2 hL.2.2.2.2 hR) ⟨zB.blind, hW.pre (y := y)⟩ rfl hn hls rfl (lv_room hcat) hdg ⟨hcs.1, hcs.2⟩) hW.2.2.2.2.2 (fun _ _ z => z) (fun _ z => z) (fun v u t H1 locs1 ht hvm hp hB _ _ hS => ?_)
    subst hp
    exact k v u H1 locs1 h (hW.call ht hvm hB hS)
-- fields
def zFL (own : String) (idx : Nat) (ref name desc : String) : Prop := Cond.fieldLink own idx ref name desc ∈ lw_ok ∨ Cond.fieldLinkNest own idx ref name desc "SomeAreNoneIs" ∈ lw_nest
theorem zpb_of {β : Type} {k : Nat} {v : Int32} {f : Zs → Option β} {q : β} (h : zpb S k v f = some q) : zpf S k v f = some q ∧ narrow .boolean (.int v) = .int v ∧ fits .boolean (.int v) = true := by
  unfold zpb at h
  split at h
  · rename_i g
    refine ⟨h, ?_⟩
    rcases g with rfl | rfl
    · exact ⟨rfl, rfl⟩
    · exact ⟨rfl, rfl⟩
  · cases h
theorem zz_get {a ci N q0 k : Nat} {T : u_T} {fs : List Value} {v : Value} (C : zC p s m args meth c cc nL own ret) (hW : zW G s S H locs) (he : (G.2.2.2.1 S)[q0]? = some (a, .inr (ci, fs))) (hc : vwCl[ci]? = some (Cn, T, N)) (hin : ∀ w ∈ u_ws Cn T N, w ∈ lw_ok) (hk : k < N) (hl : zFL own idx (T k).1 (T k).2.1 (T k).2.2.1) (hv : fs[k]? = some v) (hdg : decode cc pc = .ok (.getfield idx, 3))
    (kk : W p l e R s m args below meth c H locs cells slots Q (F0 m (pc + 3) ls (v :: rest))) : W p l e R s m args below meth c H locs cells slots Q (F0 m pc ls (.ref a :: rest)) := by
  obtain ⟨hx, hb, hml, hown, hts, hret, hlk⟩ := C
  rcases hl with hl | hl
  · exact va_get hx hb hts hin hown hW.2.2.1 hW.1 q0 he hc k hk (hts _ hl) (fun _ z => z) hv hdg kk
  · exact va_getN hx hb hts hin hown hW.2.2.1 hW.1 q0 he hc k hk (va_Nw.use rfl (hW.2.2.2.1.2 _ hl)) (fun _ z => z) hv hdg kk
theorem zz_put {a ci N q0 k i : Nat} {T : u_T} {ty0 : Nat → FieldType} {ty : FieldType} {fs : List Value} {x : Int32} {β : Type} {f : Zs → Option β} {q : β} (C : zC p s m args meth c cc nL own ret) (hW : zW G s S H locs) (h : zpf S i x f = some q) (he : (G.2.2.2.1 S)[q0]? = some (a, .inr (ci, fs))) (hc : vwCl[ci]? = some (Cn, T, N)) (hin : ∀ w ∈ u_ws Cn T N, w ∈ lw_ok) (hty : ∀ k, k < N → parseFieldDescriptor (T k).2.2.1 = some (ty0 k)) (hnm : ∀ a, a < N → ∀ b, b < N → a ≠ b → (T a).2.1 ≠ (T b).2.1) (hk : k < N) (hl : zFL own idx (T k).1 (T k).2.1 (T k).2.2.1) (hfin : (T k).2.2.2 = false)
    (hd : parseFieldDescriptor (T k).2.2.1 = some ty) (hn : narrow ty (.int x) = .int x) (hfit : fits ty (.int x) = true) (hlen : k < fs.length) (hset : (G.2.2.2.1 S).set q0 (a, .inr (ci, fs.set k (.int x))) = G.2.2.2.1 (zp S 0 i x)) (hdg : decode cc pc = .ok (.putfield idx, 3))
    (kk : ∀ (S2 : Zs) (H1 : Heap) (locs1 : List Loc), f S2 = some q → zW G s S2 H1 locs1 → W p l e R s m args below meth c H1 locs1 cells slots Q (F0 m (pc + 3) ls rest)) : W p l e R s m args below meth c H locs cells slots Q (F0 m pc ls (.int x :: .ref a :: rest)) := by
  obtain ⟨hx, hb, hml, hown, hts, hret, hlk⟩ := C
  rcases hl with hl | hl
  · refine va_put hx hb hts hin ty0 hty hnm hown hW.2.2.1 hW.1 hW.2.1 hW.2.2.2.2.2 q0 he hc k hk (hts _ hl) (fun _ z => z) hfin hd hn hfit hlen hdg (fun H1 locs1 hP hD hS => ?_)
    rw [hset] at hP hD
    exact kk _ H1 locs1 h ⟨hP, hD, hW.2.2.1, hW.2.2.2.1, hW.2.2.2.2.1, hS⟩
  · refine va_putN hx hb hts hin ty0 hty hnm hown hW.2.2.1 hW.1 hW.2.1 hW.2.2.2.2.2 q0 he hc k hk (va_Nw.use rfl (hW.2.2.2.1.2 _ hl)) (fun _ z => z) hfin hd hn hfit hlen hdg (fun H1 locs1 hP hD hS => ?_)
    rw [hset] at hP hD
    exact kk _ H1 locs1 h ⟨hP, hD, hW.2.2.1, hW.2.2.2.1, hW.2.2.2.2.1, hS⟩
-- arrays
theorem zz_iald {a n r q0 t0 : Nat} {cA : ClassId} {i : Int32} {β : Type} {f : Int32 → Option β} {q : β} (C : zC p s m args meth c cc nL own ret) (hW : zW G s S H locs) (h : zld S r n i f = some q) (ha : (G.2.2.2.1 S)[q0]? = some (a, .inl (cA, n, .inl (S.1 r)))) (ht : G.2.1[t0]? = some (cA, .int)) (hdg : decode cc pc = .ok (.iaload, 1))
    (kk : ∀ v, f v = some q → W p l e R s m args below meth c H locs cells slots Q (F0 m (pc + 1) ls (.int v :: rest))) : W p l e R s m args below meth c H locs cells slots Q (F0 m pc ls (.int i :: .ref a :: rest)) := by
  obtain ⟨hx, hb, hml, hown, hts, hret, hlk⟩ := C
  unfold zld at h
  split at h
  · exact va_iald hx hb hW.2.2.1 hW.1 q0 t0 ha ht (zin_of (by assumption)) hdg (kk _ h)
  · cases h
theorem zz_bald {a n r q0 t0 : Nat} {cA : ClassId} {i : Int32} {β : Type} {f : Int32 → Option β} {q : β} (C : zC p s m args meth c cc nL own ret) (hW : zW G s S H locs) (h : zld S r n i f = some q) (ha : (G.2.2.2.1 S)[q0]? = some (a, .inl (cA, n, .inl (S.1 r)))) (ht : G.2.1[t0]? = some (cA, .byte)) (hdg : decode cc pc = .ok (.baload, 1))
    (kk : ∀ v, f v = some q → W p l e R s m args below meth c H locs cells slots Q (F0 m (pc + 1) ls (.int v :: rest))) : W p l e R s m args below meth c H locs cells slots Q (F0 m pc ls (.int i :: .ref a :: rest)) := by
  obtain ⟨hx, hb, hml, hown, hts, hret, hlk⟩ := C
  unfold zld at h
  split at h
  · exact va_bald hx hb hW.2.2.1 hW.1 q0 t0 ha ht (zin_of (by assumption)) hdg (kk _ h)
  · cases h
theorem zz_zald {a n r q0 t0 : Nat} {cA : ClassId} {i : Int32} {β : Type} {f : Int32 → Option β} {q : β} (C : zC p s m args meth c cc nL own ret) (hW : zW G s S H locs) (h : zld S r n i f = some q) (ha : (G.2.2.2.1 S)[q0]? = some (a, .inl (cA, n, .inl (S.1 r)))) (ht : G.2.1[t0]? = some (cA, .boolean)) (hdg : decode cc pc = .ok (.baload, 1))
    (kk : ∀ v, f v = some q → W p l e R s m args below meth c H locs cells slots Q (F0 m (pc + 1) ls (.int v :: rest))) : W p l e R s m args below meth c H locs cells slots Q (F0 m pc ls (.int i :: .ref a :: rest)) := by
  obtain ⟨hx, hb, hml, hown, hts, hret, hlk⟩ := C
  unfold zld at h
  split at h
  · exact va_zald hx hb hW.2.2.1 hW.1 q0 t0 ha ht (zin_of (by assumption)) hdg (kk _ h)
  · cases h
theorem zz_cald {a n r q0 t0 : Nat} {cA : ClassId} {i : Int32} {β : Type} {f : Int32 → Option β} {q : β} (C : zC p s m args meth c cc nL own ret) (hW : zW G s S H locs) (h : zld S r n i f = some q) (ha : (G.2.2.2.1 S)[q0]? = some (a, .inl (cA, n, .inl (S.1 r)))) (ht : G.2.1[t0]? = some (cA, .char)) (hdg : decode cc pc = .ok (.caload, 1))
    (kk : ∀ v, f v = some q → W p l e R s m args below meth c H locs cells slots Q (F0 m (pc + 1) ls (.int v :: rest))) : W p l e R s m args below meth c H locs cells slots Q (F0 m pc ls (.int i :: .ref a :: rest)) := by
  obtain ⟨hx, hb, hml, hown, hts, hret, hlk⟩ := C
  unfold zld at h
  split at h
  · exact va_cald hx hb hW.2.2.1 hW.1 q0 t0 ha ht (zin_of (by assumption)) hdg (kk _ h)
  · cases h
theorem zz_iast {a n r q0 t0 : Nat} {cA : ClassId} {i x : Int32} {β : Type} {f : Zs → Option β} {q : β} (C : zC p s m args meth c cc nL own ret) (hW : zW G s S H locs) (h : zst S r n i x f = some q) (ha : (G.2.2.2.1 S)[q0]? = some (a, .inl (cA, n, .inl (S.1 r)))) (ht : G.2.1[t0]? = some (cA, .int)) (hset : ∀ (j : Nat) (z : Int32), (G.2.2.2.1 S).set q0 (a, .inl (cA, n, .inl (upd (S.1 r) j z))) = G.2.2.2.1 (zp S r j z)) (hdg : decode cc pc = .ok (.iastore, 1))
    (kk : ∀ (S2 : Zs) (H1 : Heap) (locs1 : List Loc), f S2 = some q → zW G s S2 H1 locs1 → W p l e R s m args below meth c H1 locs1 cells slots Q (F0 m (pc + 1) ls rest)) : W p l e R s m args below meth c H locs cells slots Q (F0 m pc ls (.int x :: .int i :: .ref a :: rest)) := by
  obtain ⟨hx, hb, hml, hown, hts, hret, hlk⟩ := C
  unfold zst at h
  split at h
  · refine va_iast hx hb hW.2.2.1 hW.1 hW.2.1 hW.2.2.2.2.2 q0 t0 ha ht (zin_of (by assumption)) hdg (fun H1 locs1 hP hD hS => ?_)
    rw [hset] at hP hD
    exact kk _ H1 locs1 h ⟨hP, hD, hW.2.2.1, hW.2.2.2.1, hW.2.2.2.2.1, hS⟩
  · cases h
theorem zz_bast {a n r q0 t0 : Nat} {cA : ClassId} {i x : Int32} {β : Type} {f : Zs → Option β} {q : β} (C : zC p s m args meth c cc nL own ret) (hW : zW G s S H locs) (h : zst S r n i (vp_nar .byte x) f = some q) (ha : (G.2.2.2.1 S)[q0]? = some (a, .inl (cA, n, .inl (S.1 r)))) (ht : G.2.1[t0]? = some (cA, .byte)) (hset : ∀ (j : Nat) (z : Int32), (G.2.2.2.1 S).set q0 (a, .inl (cA, n, .inl (upd (S.1 r) j z))) = G.2.2.2.1 (zp S r j z)) (hdg : decode cc pc = .ok (.bastore, 1))
    (kk : ∀ (S2 : Zs) (H1 : Heap) (locs1 : List Loc), f S2 = some q → zW G s S2 H1 locs1 → W p l e R s m args below meth c H1 locs1 cells slots Q (F0 m (pc + 1) ls rest)) : W p l e R s m args below meth c H locs cells slots Q (F0 m pc ls (.int x :: .int i :: .ref a :: rest)) := by
  obtain ⟨hx, hb, hml, hown, hts, hret, hlk⟩ := C
  unfold zst at h
  split at h
  · refine va_bast hx hb hW.2.2.1 hW.1 hW.2.1 hW.2.2.2.2.2 q0 t0 ha ht (zin_of (by assumption)) hdg (fun H1 locs1 hP hD hS => ?_)
    rw [hset] at hP hD
    exact kk _ H1 locs1 h ⟨hP, hD, hW.2.2.1, hW.2.2.2.1, hW.2.2.2.2.1, hS⟩
  · cases h
theorem zz_zast {a n r q0 t0 : Nat} {cA : ClassId} {i x : Int32} {β : Type} {f : Zs → Option β} {q : β} (C : zC p s m args meth c cc nL own ret) (hW : zW G s S H locs) (h : zst S r n i (vp_nar .boolean x) f = some q) (ha : (G.2.2.2.1 S)[q0]? = some (a, .inl (cA, n, .inl (S.1 r)))) (ht : G.2.1[t0]? = some (cA, .boolean)) (hset : ∀ (j : Nat) (z : Int32), (G.2.2.2.1 S).set q0 (a, .inl (cA, n, .inl (upd (S.1 r) j z))) = G.2.2.2.1 (zp S r j z)) (hdg : decode cc pc = .ok (.bastore, 1))
    (kk : ∀ (S2 : Zs) (H1 : Heap) (locs1 : List Loc), f S2 = some q → zW G s S2 H1 locs1 → W p l e R s m args below meth c H1 locs1 cells slots Q (F0 m (pc + 1) ls rest)) : W p l e R s m args below meth c H locs cells slots Q (F0 m pc ls (.int x :: .int i :: .ref a :: rest)) := by
  obtain ⟨hx, hb, hml, hown, hts, hret, hlk⟩ := C
  unfold zst at h
  split at h
  · refine va_zast hx hb hW.2.2.1 hW.1 hW.2.1 hW.2.2.2.2.2 q0 t0 ha ht (zin_of (by assumption)) hdg (fun H1 locs1 hP hD hS => ?_)
    rw [hset] at hP hD
    exact kk _ H1 locs1 h ⟨hP, hD, hW.2.2.1, hW.2.2.2.1, hW.2.2.2.2.1, hS⟩
  · cases h
theorem zz_cast {a n r q0 t0 : Nat} {cA : ClassId} {i x : Int32} {β : Type} {f : Zs → Option β} {q : β} (C : zC p s m args meth c cc nL own ret) (hW : zW G s S H locs) (h : zst S r n i (vp_nar .char x) f = some q) (ha : (G.2.2.2.1 S)[q0]? = some (a, .inl (cA, n, .inl (S.1 r)))) (ht : G.2.1[t0]? = some (cA, .char)) (hset : ∀ (j : Nat) (z : Int32), (G.2.2.2.1 S).set q0 (a, .inl (cA, n, .inl (upd (S.1 r) j z))) = G.2.2.2.1 (zp S r j z)) (hdg : decode cc pc = .ok (.castore, 1))
    (kk : ∀ (S2 : Zs) (H1 : Heap) (locs1 : List Loc), f S2 = some q → zW G s S2 H1 locs1 → W p l e R s m args below meth c H1 locs1 cells slots Q (F0 m (pc + 1) ls rest)) : W p l e R s m args below meth c H locs cells slots Q (F0 m pc ls (.int x :: .int i :: .ref a :: rest)) := by
  obtain ⟨hx, hb, hml, hown, hts, hret, hlk⟩ := C
  unfold zst at h
  split at h
  · refine va_cast hx hb hW.2.2.1 hW.1 hW.2.1 hW.2.2.2.2.2 q0 t0 ha ht (zin_of (by assumption)) hdg (fun H1 locs1 hP hD hS => ?_)
    rw [hset] at hP hD
    exact kk _ H1 locs1 h ⟨hP, hD, hW.2.2.1, hW.2.2.2.1, hW.2.2.2.2.1, hS⟩
  · cases h
theorem zz_lald {a n q0 t0 : Nat} {cA : ClassId} {i : Int32} {β : Type} {f : Int64 → Option β} {q : β} (C : zC p s m args meth c cc nL own ret) (hW : zW G s S H locs) (h : zldL S n i f = some q) (ha : (G.2.2.2.1 S)[q0]? = some (a, .inl (cA, n, .inr (.inl S.2)))) (ht : G.2.1[t0]? = some (cA, .long)) (hdg : decode cc pc = .ok (.laload, 1))
    (kk : ∀ v, f v = some q → W p l e R s m args below meth c H locs cells slots Q (F0 m (pc + 1) ls (.long v :: rest))) : W p l e R s m args below meth c H locs cells slots Q (F0 m pc ls (.int i :: .ref a :: rest)) := by
  obtain ⟨hx, hb, hml, hown, hts, hret, hlk⟩ := C
  unfold zldL at h
  split at h
  · exact va_lald hx hb hW.2.2.1 hW.1 q0 t0 ha ht (zin_of (by assumption)) hdg (kk _ h)
  · cases h
theorem zz_last {a n q0 t0 : Nat} {cA : ClassId} {i : Int32} {x : Int64} {β : Type} {f : Zs → Option β} {q : β} (C : zC p s m args meth c cc nL own ret) (hW : zW G s S H locs) (h : zstL S n i x f = some q) (ha : (G.2.2.2.1 S)[q0]? = some (a, .inl (cA, n, .inr (.inl S.2)))) (ht : G.2.1[t0]? = some (cA, .long)) (hset : ∀ (j : Nat) (z : Int64), (G.2.2.2.1 S).set q0 (a, .inl (cA, n, .inr (.inl (vp_updL S.2 j z)))) = G.2.2.2.1 (zpL S j z)) (hdg : decode cc pc = .ok (.lastore, 1))
    (kk : ∀ (S2 : Zs) (H1 : Heap) (locs1 : List Loc), f S2 = some q → zW G s S2 H1 locs1 → W p l e R s m args below meth c H1 locs1 cells slots Q (F0 m (pc + 1) ls rest)) : W p l e R s m args below meth c H locs cells slots Q (F0 m pc ls (.long x :: .int i :: .ref a :: rest)) := by
  obtain ⟨hx, hb, hml, hown, hts, hret, hlk⟩ := C
  unfold zstL at h
  split at h
  · refine va_last hx hb hW.2.2.1 hW.1 hW.2.1 hW.2.2.2.2.2 q0 t0 ha ht (zin_of (by assumption)) hdg (fun H1 locs1 hP hD hS => ?_)
    rw [hset] at hP hD
    exact kk _ H1 locs1 h ⟨hP, hD, hW.2.2.1, hW.2.2.2.1, hW.2.2.2.2.1, hS⟩
  · cases h
theorem zz_alen {a n r q0 t0 : Nat} {cA : ClassId} {ty : FieldType} (C : zC p s m args meth c cc nL own ret) (hW : zW G s S H locs) (ha : (G.2.2.2.1 S)[q0]? = some (a, .inl (cA, n, .inl (S.1 r)))) (ht : G.2.1[t0]? = some (cA, ty)) (hdg : decode cc pc = .ok (.arraylength, 1))
    (kk : W p l e R s m args below meth c H locs cells slots Q (F0 m (pc + 1) ls (.int (nI n) :: rest))) : W p l e R s m args below meth c H locs cells slots Q (F0 m pc ls (.ref a :: rest)) := by
  obtain ⟨hx, hb, hml, hown, hts, hret, hlk⟩ := C
  exact va_alen hx hb hW.2.2.1 hW.1 q0 t0 ha ht rfl hdg kk
-- branches
theorem zz_ieq {β : Type} {a b : Option β} {q : β} {x : Int32} {off : Int} {tgt : Nat} (C : zC p s m args meth c cc nL own ret) (h : (if x = 0 then a else b) = some q) (hdg : decode cc pc = .ok (.ifCond .eq off, 3)) (ht : (pc : Int) + off = (tgt : Int))
    (kt : a = some q → W p l e R s m args below meth c H locs cells slots Q (F0 m tgt ls rest)) (kf : b = some q → W p l e R s m args below meth c H locs cells slots Q (F0 m (pc + 3) ls rest)) : W p l e R s m args below meth c H locs cells slots Q (F0 m pc ls (.int x :: rest)) := lv_if_eq C.1 C.2.1 hdg ht (fun g => kt ((zz_if h).1 g)) (fun g => kf ((zz_if h).2 g))
theorem zz_ine {β : Type} {a b : Option β} {q : β} {x : Int32} {off : Int} {tgt : Nat} (C : zC p s m args meth c cc nL own ret) (h : (if x = 0 then b else a) = some q) (hdg : decode cc pc = .ok (.ifCond .ne off, 3)) (ht : (pc : Int) + off = (tgt : Int))
    (kt : a = some q → W p l e R s m args below meth c H locs cells slots Q (F0 m tgt ls rest)) (kf : b = some q → W p l e R s m args below meth c H locs cells slots Q (F0 m (pc + 3) ls rest)) : W p l e R s m args below meth c H locs cells slots Q (F0 m pc ls (.int x :: rest)) := lv_if_ne C.1 C.2.1 hdg ht (fun g => kt ((zz_if h).2 g)) (fun g => kf ((zz_if h).1 g))
theorem zz_ilt {β : Type} {a b : Option β} {q : β} {x : Int32} {off : Int} {tgt : Nat} (C : zC p s m args meth c cc nL own ret) (h : (if x < 0 then a else b) = some q) (hdg : decode cc pc = .ok (.ifCond .lt off, 3)) (ht : (pc : Int) + off = (tgt : Int))
    (kt : a = some q → W p l e R s m args below meth c H locs cells slots Q (F0 m tgt ls rest)) (kf : b = some q → W p l e R s m args below meth c H locs cells slots Q (F0 m (pc + 3) ls rest)) : W p l e R s m args below meth c H locs cells slots Q (F0 m pc ls (.int x :: rest)) := lv_if_lt C.1 C.2.1 hdg ht (fun g => kt ((zz_if h).1 g)) (fun g => kf ((zz_if h).2 g))
theorem zz_ige {β : Type} {a b : Option β} {q : β} {x : Int32} {off : Int} {tgt : Nat} (C : zC p s m args meth c cc nL own ret) (h : (if 0 ≤ x then a else b) = some q) (hdg : decode cc pc = .ok (.ifCond .ge off, 3)) (ht : (pc : Int) + off = (tgt : Int))
    (kt : a = some q → W p l e R s m args below meth c H locs cells slots Q (F0 m tgt ls rest)) (kf : b = some q → W p l e R s m args below meth c H locs cells slots Q (F0 m (pc + 3) ls rest)) : W p l e R s m args below meth c H locs cells slots Q (F0 m pc ls (.int x :: rest)) := lv_if_ge C.1 C.2.1 hdg ht (fun g => kt ((zz_if h).1 g)) (fun g => kf ((zz_if h).2 g))
theorem zz_igt {β : Type} {a b : Option β} {q : β} {x : Int32} {off : Int} {tgt : Nat} (C : zC p s m args meth c cc nL own ret) (h : (if 0 < x then a else b) = some q) (hdg : decode cc pc = .ok (.ifCond .gt off, 3)) (ht : (pc : Int) + off = (tgt : Int))
    (kt : a = some q → W p l e R s m args below meth c H locs cells slots Q (F0 m tgt ls rest)) (kf : b = some q → W p l e R s m args below meth c H locs cells slots Q (F0 m (pc + 3) ls rest)) : W p l e R s m args below meth c H locs cells slots Q (F0 m pc ls (.int x :: rest)) := lv_if_gt C.1 C.2.1 hdg ht (fun g => kt ((zz_if h).1 g)) (fun g => kf ((zz_if h).2 g))
theorem zz_ile {β : Type} {a b : Option β} {q : β} {x : Int32} {off : Int} {tgt : Nat} (C : zC p s m args meth c cc nL own ret) (h : (if x ≤ 0 then a else b) = some q) (hdg : decode cc pc = .ok (.ifCond .le off, 3)) (ht : (pc : Int) + off = (tgt : Int))
    (kt : a = some q → W p l e R s m args below meth c H locs cells slots Q (F0 m tgt ls rest)) (kf : b = some q → W p l e R s m args below meth c H locs cells slots Q (F0 m (pc + 3) ls rest)) : W p l e R s m args below meth c H locs cells slots Q (F0 m pc ls (.int x :: rest)) := lv_if_le C.1 C.2.1 hdg ht (fun g => kt ((zz_if h).1 g)) (fun g => kf ((zz_if h).2 g))
theorem zz_ceq {β : Type} {a b : Option β} {q : β} {x y : Int32} {off : Int} {tgt : Nat} (C : zC p s m args meth c cc nL own ret) (h : (if x = y then a else b) = some q) (hdg : decode cc pc = .ok (.if_icmp .eq off, 3)) (ht : (pc : Int) + off = (tgt : Int))
    (kt : a = some q → W p l e R s m args below meth c H locs cells slots Q (F0 m tgt ls rest)) (kf : b = some q → W p l e R s m args below meth c H locs cells slots Q (F0 m (pc + 3) ls rest)) : W p l e R s m args below meth c H locs cells slots Q (F0 m pc ls (.int y :: .int x :: rest)) := lv_icmp_eq C.1 C.2.1 hdg ht (fun g => kt ((zz_if h).1 g)) (fun g => kf ((zz_if h).2 g))
theorem zz_cne {β : Type} {a b : Option β} {q : β} {x y : Int32} {off : Int} {tgt : Nat} (C : zC p s m args meth c cc nL own ret) (h : (if x = y then b else a) = some q) (hdg : decode cc pc = .ok (.if_icmp .ne off, 3)) (ht : (pc : Int) + off = (tgt : Int))
    (kt : a = some q → W p l e R s m args below meth c H locs cells slots Q (F0 m tgt ls rest)) (kf : b = some q → W p l e R s m args below meth c H locs cells slots Q (F0 m (pc + 3) ls rest)) : W p l e R s m args below meth c H locs cells slots Q (F0 m pc ls (.int y :: .int x :: rest)) := lv_icmp_ne C.1 C.2.1 hdg ht (fun g => kt ((zz_if h).2 g)) (fun g => kf ((zz_if h).1 g))
theorem zz_clt {β : Type} {a b : Option β} {q : β} {x y : Int32} {off : Int} {tgt : Nat} (C : zC p s m args meth c cc nL own ret) (h : (if x < y then a else b) = some q) (hdg : decode cc pc = .ok (.if_icmp .lt off, 3)) (ht : (pc : Int) + off = (tgt : Int))
    (kt : a = some q → W p l e R s m args below meth c H locs cells slots Q (F0 m tgt ls rest)) (kf : b = some q → W p l e R s m args below meth c H locs cells slots Q (F0 m (pc + 3) ls rest)) : W p l e R s m args below meth c H locs cells slots Q (F0 m pc ls (.int y :: .int x :: rest)) := lv_icmp_lt C.1 C.2.1 hdg ht (fun g => kt ((zz_if h).1 g)) (fun g => kf ((zz_if h).2 g))
theorem zz_cge {β : Type} {a b : Option β} {q : β} {x y : Int32} {off : Int} {tgt : Nat} (C : zC p s m args meth c cc nL own ret) (h : (if y ≤ x then a else b) = some q) (hdg : decode cc pc = .ok (.if_icmp .ge off, 3)) (ht : (pc : Int) + off = (tgt : Int))
    (kt : a = some q → W p l e R s m args below meth c H locs cells slots Q (F0 m tgt ls rest)) (kf : b = some q → W p l e R s m args below meth c H locs cells slots Q (F0 m (pc + 3) ls rest)) : W p l e R s m args below meth c H locs cells slots Q (F0 m pc ls (.int y :: .int x :: rest)) := lv_icmp_ge C.1 C.2.1 hdg ht (fun g => kt ((zz_if h).1 g)) (fun g => kf ((zz_if h).2 g))
theorem zz_cgt {β : Type} {a b : Option β} {q : β} {x y : Int32} {off : Int} {tgt : Nat} (C : zC p s m args meth c cc nL own ret) (h : (if y < x then a else b) = some q) (hdg : decode cc pc = .ok (.if_icmp .gt off, 3)) (ht : (pc : Int) + off = (tgt : Int))
    (kt : a = some q → W p l e R s m args below meth c H locs cells slots Q (F0 m tgt ls rest)) (kf : b = some q → W p l e R s m args below meth c H locs cells slots Q (F0 m (pc + 3) ls rest)) : W p l e R s m args below meth c H locs cells slots Q (F0 m pc ls (.int y :: .int x :: rest)) := lv_icmp_gt C.1 C.2.1 hdg ht (fun g => kt ((zz_if h).1 g)) (fun g => kf ((zz_if h).2 g))
theorem zz_cle {β : Type} {a b : Option β} {q : β} {x y : Int32} {off : Int} {tgt : Nat} (C : zC p s m args meth c cc nL own ret) (h : (if x ≤ y then a else b) = some q) (hdg : decode cc pc = .ok (.if_icmp .le off, 3)) (ht : (pc : Int) + off = (tgt : Int))
    (kt : a = some q → W p l e R s m args below meth c H locs cells slots Q (F0 m tgt ls rest)) (kf : b = some q → W p l e R s m args below meth c H locs cells slots Q (F0 m (pc + 3) ls rest)) : W p l e R s m args below meth c H locs cells slots Q (F0 m pc ls (.int y :: .int x :: rest)) := lv_icmp_le C.1 C.2.1 hdg ht (fun g => kt ((zz_if h).1 g)) (fun g => kf ((zz_if h).2 g))
end ZR
