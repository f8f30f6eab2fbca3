/-! constructors: worlds that grow -/
def tyC (cs : Nat → ClassId) : List (ClassId × FieldType) := [(cs 0, .int), (cs 1, .char), (cs 2, .byte), (cs 3, .boolean), (cs 4, .long)]
def zV (D : va_G) (cs : Nat → ClassId) (A : Nat → Prop) (s : State) (w : va_W) (H : Heap) (locs : List Loc) : Prop := va_P D vwCl w H ∧ va_D A w ∧ va_K D vwCl (tyC cs) s ∧ zN s ∧ va_S A s.heap H locs ∧ ∀ q : Nat, s.heap.size ≤ q → A q
def zI (l : Launch) (y : MethodName) (cc : ByteArray) (n : Nat) (rm : Room) (D : va_G) (cs : Nat → ClassId) (w0 : va_W) (sz : Nat) (av : List Value) (mc ms : Nat) (w1 : (Nat → Nat) → va_W) : Prop :=
  Met l y (ws_of y cc n none) rm (va_Pc av (fun U => U.heap.size = sz ∧ va_P D vwCl w0 U.heap ∧ va_K D vwCl (tyC cs) U ∧ va_D (fun _ => True) w0 ∧ zN U)) (va_Qv (fun _ : Nat → Nat => True) (fun u t => va_P D vwCl (w1 u) t.heap ∧ va_D (va_A w0 sz) (w1 u)) (va_A w0 sz)) mc ms (va_A w0 sz)
theorem zi_enter {l : Launch} {y : MethodName} {cc : ByteArray} {n : Nat} {rm : Room} {D : va_G} {cs : Nat → ClassId} {w0 : va_W} {sz : Nat} {av : List Value} {mc ms : Nat} {w1 : (Nat → Nat) → va_W} (hy : plainName y.cls = true) (hyi : y.name = "<init>") (hn : (lg_sl av).length ≤ n)
    (k : ∀ (p : Program) (e : Env) (s : State) (m : MethodId) (below : List Frame) (meth : Method) (c : Code) (ls : Array Slot), zC p s m av.toArray meth c cc n y.cls none → meth.name = "<init>" → zV D cs (va_A w0 sz) s w0 s.heap [] → lv_has ls n (lv_args 0 av) → W p l e rm s m av.toArray below meth c s.heap [] 0 0 (MQ below (va_Qv (fun _ : Nat → Nat => True) (fun u t => va_P D vwCl (w1 u) t.heap ∧ va_D (va_A w0 sz) (w1 u)) (va_A w0 sz)) av.toArray s mc ms (va_A w0 sz)) (F0 m 0 ls [])) :
    zI l y cc n rm D cs w0 sz av mc ms w1 := by
  refine Met.ofW (cc := cc) (maxL := n) (ret := none) hy rfl ?_
  intro p e s m args below meth c s₁ B hml hv
  obtain ⟨rfl, hsz, hP, hK, hD0, hN⟩ := hv
  have C : zC p s m av.toArray meth c cc n y.cls none := ⟨B.exec, B.bytes, hml, findClass_of_methodNamed B.named, fun w hw => atoms_spec (ws := ws_of y cc n none) B.pre w (List.mem_cons_of_mem _ hw), B.returns, B.notSynchronized⟩
  have hin : meth.name = "<init>" := (name_of_methodNamed B.named B.method).1.trans hyi
  subst hsz
  have hl := lv_entry av (n := n) hn
  rw [lg_entry_eq]
  generalize (lg_sl av ++ List.replicate (n - (lg_sl av).length) Slot.unset).toArray = ls at hl ⊢
  exact k p e s m below meth c ls C hin ⟨hP, hD0.self, hK, hN, va_S.rf, fun q h => Or.inr h⟩ hl
theorem va_left {D : va_G} {w1 w2 : va_W} {H : Heap} (h : va_P D vwCl (w1 ++ w2) H) : va_P D vwCl w1 H := fun k q hk => h k q (by
  have hl : k < w1.length := (List.getElem?_eq_some_iff.mp hk).1
  rw [List.getElem?_append_left hl]; exact hk)
theorem va_leftD {A : Nat → Prop} {w1 w2 : va_W} (h : va_D A (w1 ++ w2)) : va_D A w1 := by
  have key : ∀ (k : Nat) (q : Nat × va_E), w1[k]? = some q → (w1 ++ w2)[k]? = some q := fun k q hk => by
    have hl : k < w1.length := (List.getElem?_eq_some_iff.mp hk).1
    rw [List.getElem?_append_left hl]; exact hk
  exact ⟨fun i j p q hi hj => h.1 i j p q (key i p hi) (key j q hj), fun k q hk => h.2 k q (key k q hk)⟩
section ZCT
variable {p : Program} {l : Launch} {e : Env} {R : Room} {s : State} {m : MethodId} {args : Array Value} {below : List Frame} {meth : Method} {c : Code} {H : Heap} {locs : List Loc} {cells slots : Nat} {Q : State → Prop}
variable {cc : ByteArray} {nL pc idx : Nat} {own Cn : String} {ret : Option FieldType} {ls : Array Slot} {rest : List Value} {D : va_G} {cs : Nat → ClassId} {A : Nat → Prop} {w w0 wr : va_W}
theorem zi_ret {sz mc ms : Nat} {w1 : (Nat → Nat) → va_W} (C : zC p s m args meth c cc nL own none) (V : zV D cs (va_A w0 sz) s w H locs) (u : Nat → Nat) (is : List Nat) (h1 : is.filterMap (fun i => w[i]?) = w1 u) (h2 : va_nd is = true) (h3 : is.map (fun i => w[i]?) = (w1 u).map some) (hdg : decode cc pc = .ok (.return_, 1)) :
    W p l e R s m args below meth c H locs mc ms (MQ below (va_Qv (fun _ : Nat → Nat => True) (fun u t => va_P D vwCl (w1 u) t.heap ∧ va_D (va_A w0 sz) (w1 u)) (va_A w0 sz)) args s mc ms (va_A w0 sz)) (F0 m pc ls []) := by
  obtain ⟨hx, hb, hml, hown, hts, hret, hlk⟩ := C
  exact W.vret hx hb hret (fun t ht hv => ⟨⟨u, rfl, trivial, by rw [ht]; exact V.1.sub is h1, V.2.1.sub is h2 h3⟩, V.2.2.2.2.1.F ht⟩) V.2.2.2.2.1.2.2 hdg
theorem zi_obj {a : Nat} (C : zC p s m args meth c cc nL own ret) (hk : Cond.methodLink own idx Lib.objectInit ∈ lw_ok) (hi : Cond.instanceMethod Lib.objectInit ∈ lw_ok) (hc : Cond.code Lib.objectInit ⟨#[0xb1]⟩ 1 none ∈ lw_ok) (hls : ls.size = nL) (hf : 1 ≤ R.frames) (hlo : 2 * (F0 m pc ls (.ref a :: rest)).monitorRoom + (rest.map fun v => v.category).sum + 12 ≤ R.locals) (hdg : decode cc pc = .ok (.invokespecial idx, 3))
    (kk : W p l e R s m args below meth c H locs cells slots Q (F0 m (pc + 3) ls rest)) : W p l e R s m args below meth c H locs cells slots Q (F0 m pc ls (.ref a :: rest)) := by
  obtain ⟨hx, hb, hml, hown, hts, hret, hlk⟩ := C
  exact W.objInit hx hb hown (hts _ hk) (hts _ hi) (hts _ hc) rfl (by rw [hml]; exact hls) rfl hdg hf hlo kk
theorem zi_same {t0 : Nat} {cA cB : ClassId} {ty : FieldType} {tys : List (ClassId × FieldType)} (hty : ∀ C, ty ≠ .object C) (h0 : tys[t0]? = some (cB, ty)) (hK : va_K D vwCl tys s) (hK2 : va_K D vwCl (tys ++ [(cA, ty)]) s) : cA = cB := by
  have h1 := (hK.2 t0 _ h0).2
  have h2 := (hK2.2 tys.length (cA, ty) (by simp)).2
  have key : ∀ {x : ClassId}, va_RA s x ty → s.vm.findClass ("[" ++ ty.toString) = some x := by
    intro x h
    cases ty with
    | object C => exact absurd rfl (hty C)
    | _ => exact h
  exact Option.some.inj ((key h2).symm.trans (key h1))
theorem zi_newa {at_ : ArrayType} {ty : FieldType} {t0 n0 : Nat} {cB : ClassId} {a0 : vp_A} {n : Int32} (C : zC p s m args meth c cc nL own ret) (V : zV D cs A s w H locs) (hty : newarray.typeOf at_ = ty) (hno : ∀ C, ty ≠ .object C) (h0 : (tyC cs)[t0]? = some (cB, ty)) (harr : Cond.arrayClass ty ∈ lw_ok) (ha : ∀ cA : ClassId, vp_cell cA a0 = arrV cA n0 (fun _ => defaultValue ty)) (hn : ¬ n < 0) (hN : n.toNatClampNeg = n0) (hby : n0 * componentBytes ty ≤ 536870912) (hc : cells + 1 ≤ R.cells) (hs : slots + n0 ≤ R.slots) (hdg : decode cc pc = .ok (.newarray at_, 2))
    (kk : ∀ (q : Nat) (H1 : Heap), zV D cs A s (w ++ [(q, .inl (cB, a0))]) H1 locs → W p l e R s m args below meth c H1 locs (cells + 1) (slots + n0) Q (F0 m (pc + 2) ls (.ref q :: rest))) : W p l e R s m args below meth c H locs cells slots Q (F0 m pc ls (.int n :: rest)) := by
  obtain ⟨hx, hb, hml, hown, hts, hret, hlk⟩ := C
  obtain ⟨hP, hD, hK, hNn, hS, hA⟩ := V
  subst hty
  refine va_newa hx hb (hts _ harr) rfl hK hP hD hS hA ha hn hN hby hc hs hdg (fun q cA H1 hK2 hP2 hD2 hS2 => ?_)
  have hcA : cA = cB := zi_same hno h0 hK hK2
  subst hcA
  exact kk q H1 ⟨hP2, hD2, hK, hNn, hS2, hA⟩
theorem zi_new {T : u_T} {N ci : Nat} {ty : Nat → FieldType} {fs : List Value} (C : zC p s m args meth c cc nL own ret) (V : zV D cs A s w H locs) (hin : ∀ w ∈ u_ws Cn T N, w ∈ lw_ok) (hty : ∀ k, k < N → parseFieldDescriptor (T k).2.2.1 = some (ty k)) (hcl : Cond.classLink own idx Cn ∈ lw_ok) (hinst : Cond.instantiable Cn N ∈ lw_ok) (hini : Cond.initialized Cn ∈ lw_ok) (hc : vwCl[ci]? = some (Cn, T, N)) (hfs : ∀ j, j < N → defaultValue (ty j) = vp_V fs j) (hce : cells + 1 ≤ R.cells) (hsl : slots + N ≤ R.slots) (hdg : decode cc pc = .ok (.new idx, 3))
    (kk : ∀ (q : Nat) (H1 : Heap), zV D cs A s (w ++ [(q, .inr (ci, fs))]) H1 locs → W p l e R s m args below meth c H1 locs (cells + 1) (slots + N) Q (F0 m (pc + 3) ls (.ref q :: rest))) : W p l e R s m args below meth c H locs cells slots Q (F0 m pc ls rest) := by
  obtain ⟨hx, hb, hml, hown, hts, hret, hlk⟩ := C
  obtain ⟨hP, hD, hK, hNn, hS, hA⟩ := V
  exact va_new hx hb hts hin ty hty hown (hts _ hcl) (hts _ hinst) (hts _ hini) hK hP hD hS hA hc hfs hce hsl hdg (fun q H1 hP2 hD2 hS2 => kk q H1 ⟨hP2, hD2, hK, hNn, hS2, hA⟩)
theorem zi_put {T : u_T} {N ci k a q0 : Nat} {ty0 : Nat → FieldType} {ty : FieldType} {fs : List Value} {v : Value} (C : zC p s m args meth c cc nL own ret) (hmi : meth.name = "<init>") (V : zV D cs A s w H locs) (hin : ∀ w ∈ u_ws Cn T N, w ∈ lw_ok) (hty : ∀ k, k < N → parseFieldDescriptor (T k).2.2.1 = some (ty0 k)) (hnm : ∀ a, a < N → ∀ b, b < N → a ≠ b → (T a).2.1 ≠ (T b).2.1) (he : w[q0]? = some (a, .inr (ci, fs))) (hc : vwCl[ci]? = some (Cn, T, N)) (hk : k < N) (hl : Cond.fieldLink own idx (T k).1 (T k).2.1 (T k).2.2.1 ∈ lw_ok) (hdecl : (T k).1 = own) (hd : parseFieldDescriptor (T k).2.2.1 = some ty) (hn : narrow ty v = v) (hfit : fits ty v = true) (hlen : k < fs.length) (hdg : decode cc pc = .ok (.putfield idx, 3))
    (kk : ∀ (H1 : Heap) (locs1 : List Loc), zV D cs A s (w.set q0 (a, .inr (ci, fs.set k v))) H1 locs1 → W p l e R s m args below meth c H1 locs1 cells slots Q (F0 m (pc + 3) ls rest)) : W p l e R s m args below meth c H locs cells slots Q (F0 m pc ls (v :: .ref a :: rest)) := by
  obtain ⟨hx, hb, hml, hown, hts, hret, hlk⟩ := C
  obtain ⟨hP, hD, hK, hNn, hS, hA⟩ := V
  cases hf : (T k).2.2.2 with
  | true => exact va_putF hx hb hts hin ty0 hty hnm hown hK hP hD hS q0 he hc k hk (hts _ hl) (fun _ z => z) hf hmi hdecl hd hn hfit hlen hdg (fun H1 locs1 hP2 hD2 hS2 => kk H1 locs1 ⟨hP2, hD2, hK, hNn, hS2, hA⟩)
  | false => exact va_put hx hb hts hin ty0 hty hnm hown hK hP hD hS q0 he hc k hk (hts _ hl) (fun _ z => z) hf hd hn hfit hlen hdg (fun H1 locs1 hP2 hD2 hS2 => kk H1 locs1 ⟨hP2, hD2, hK, hNn, hS2, hA⟩)
/-- the words of a constructor's call -/
def zLI (own : String) (idx : Nat) (y : MethodName) (cc : ByteArray) (n np : Nat) : Prop :=
  Cond.code y cc n none ∈ lw_ok ∧ (Cond.methodLink own idx y ∈ lw_ok ∨ Cond.methodLinkNest own idx y "SomeAreNoneIs" ∈ lw_nest) ∧ Cond.instanceMethod y ∈ lw_ok ∧ Cond.initialized y.cls ∈ lw_ok ∧ y.name = "<init>" ∧ (y.cls ≠ "java/lang/invoke/MethodHandle" ∧ y.cls ≠ "java/lang/invoke/VarHandle" ∧ (parseMethodDescriptor y.desc).map (fun d => d.parameters.length) = some np)
theorem zLI.good {y : MethodName} {bc : ByteArray} {n np : Nat} (h : zLI own idx y bc n np) : GoodIn lw_ok (ws_of y bc n none) := by
  intro v hv
  rcases List.mem_cons.mp hv with rfl | hv
  · exact lw_ok_self _ h.1
  · exact lw_ok_self _ hv
theorem zi_call {y : MethodName} {bc : ByteArray} {maxL np mc ms b : Nat} {rm : Room} {e0 : va_E} {As : List Value} {w1 : (Nat → Nat) → va_W} (C : zC p s m args meth c cc nL own ret) (V : zV D cs A s (wr ++ [(b, e0)]) H locs) (hM : zI l y bc maxL rm D cs [(b, e0)] H.size (.ref b :: As) mc ms w1) (hL : zLI own idx y bc maxL np)
    (hn : As.length = np) (hls : ls.size = nL) (hr0 : rm.cells = mc ∧ rm.slots = ms) (hR : rm.frames + 1 ≤ R.frames ∧ 8 + (maxL + 11) + rm.locals ≤ R.locals) (hcat : (rest.map fun v => v.category).sum ≤ 8) (hcs : cells + mc ≤ R.cells ∧ slots + ms ≤ R.slots) {st : List Value} (hst : st = As.reverse ++ .ref b :: rest) (hdg : decode cc pc = .ok (.invokespecial idx, 3))
    (kk : ∀ (u : Nat → Nat) (H1 : Heap) (locs1 : List Loc), zV D cs A s (wr ++ w1 u) H1 locs1 → W p l e R s m args below meth c H1 locs1 (cells + mc) (slots + ms) Q (F0 m (pc + 3) ls rest)) : W p l e R s m args below meth c H locs cells slots Q (F0 m pc ls st) := by
  obtain ⟨hP, hD, hK, hNn, hS, hA⟩ := V
  subst hst
  have hbw : (wr ++ [(b, e0)])[wr.length]? = some (b, e0) := by simp
  have hPb : va_P D vwCl [(b, e0)] H := fun k q hk => by
    have hl : k < 1 := (List.getElem?_eq_some_iff.mp hk).1
    rw [show k = 0 by omega] at hk
    cases hk
    exact hP _ _ hbw
  have hF : ∀ q, va_A [(b, e0)] H.size q → A q := by
    intro q h
    rcases h with ⟨k, e1, h⟩ | h
    · have hl : k < 1 := (List.getElem?_eq_some_iff.mp h).1
      rw [show k = 0 by omega] at h
      cases h
      exact hD.2 _ _ hbw
    · exact hA q (Nat.le_trans hS.1 h)
  have hDb : va_D (fun _ => True) [(b, e0)] := by
    refine ⟨fun i j p q hi hj _ => ?_, fun _ _ _ => trivial⟩
    have h1 : i < 1 := (List.getElem?_eq_some_iff.mp hi).1
    have h2 : j < 1 := (List.getElem?_eq_some_iff.mp hj).1
    omega
  have hpre : ∀ U : State, U.heap = H → s.WarmedH U.vm → va_Pc (.ref b :: As) (fun U => U.heap.size = H.size ∧ va_P D vwCl [(b, e0)] U.heap ∧ va_K D vwCl (tyC cs) U ∧ va_D (fun _ => True) [(b, e0)] ∧ zN U) (Value.ref b :: As).toArray U := fun U hU hw => ⟨rfl, by rw [hU], by rw [hU]; exact hPb, va_K.moved hw.alike hK, hDb, zN_to (Or.inl hw) hNn⟩
  have hblind : FrameBlind (va_Pc (.ref b :: As) (fun U => U.heap.size = H.size ∧ va_P D vwCl [(b, e0)] U.heap ∧ va_K D vwCl (tyC cs) U ∧ va_D (fun _ => True) [(b, e0)] ∧ zN U)) := by
    intro a U g mk h
    obtain ⟨h1, h2, h3, h4, h5, h6⟩ := h
    exact ⟨h1, h2, h3, va_K.moved (u := U) (U := U.calling g mk a) (Vm.Alike.refl U.vm) h4, h5, zN_to (s := U) (Or.inr rfl) h6⟩
  have fin : ∀ (u : Nat → Nat) (t : State) (H1 : Heap) (locs1 : List Loc), t.heap = H1 → s.vm.Alike t.vm → True → (va_P D vwCl (w1 u) t.heap ∧ va_D (va_A [(b, e0)] H.size) (w1 u)) → H.size ≤ H1.size → (∀ q : Nat, q < H.size → ¬ va_A [(b, e0)] H.size q → H1[q]? = H[q]?) → va_S A s.heap H1 locs1 → W p l e R s m args below meth c H1 locs1 (cells + mc) (slots + ms) Q (F0 m (pc + 3) ls rest) := by
    intro u t H1 locs1 ht hvm _ hB hz1 hk1 hS1
    rw [ht] at hB
    have hPl := va_left hP
    have hDl := va_leftD hD
    have out : ∀ (k : Nat) (q : Nat × va_E), wr[k]? = some q → q.1 < H.size ∧ ¬ va_A [(b, e0)] H.size q.1 := by
      intro k q hk
      have hlt := (hPl k q hk).lt
      refine ⟨hlt, fun h => ?_⟩
      rcases h with ⟨j, e1, h⟩ | h
      · have hl : j < 1 := (List.getElem?_eq_some_iff.mp h).1
        rw [show j = 0 by omega] at h
        have hbe := Option.some.inj h
        have hk2 : k < wr.length := (List.getElem?_eq_some_iff.mp hk).1
        have := hD.1 k wr.length q (b, e0) (by rw [List.getElem?_append_left hk2]; exact hk) hbw (by rw [hbe])
        omega
      · omega
    refine kk u H1 locs1 ⟨va_P.app (hPl.kept fun k q hk => hk1 q.1 (out k q hk).1 (out k q hk).2) hB.1, va_D.app hDl (hB.2.weaken fun k q _ h => hF q.1 h) (fun i j x y hx hy hxy => ?_), hK, hNn, hS1, hA⟩
    exact (out i x hx).2 (by rw [hxy]; exact hB.2.2 j y hy)
  rcases hL.2.1 with hk | hk
  · exact va_callv (va_runI (n := np) C.fix hM (cwI np C.fix.2.2.2.2 hL.good rfl hr0.1 hr0.2 (C.fix.2.2.2.2 _ hL.2.2.2.1) (C.fix.2.2.2.2 _ hk) (C.fix.2.2.2.2 _ hL.2.2.1) hL.2.2.2.2.1 hL.2.2.2.2.2 hR) ⟨hblind, hpre⟩ rfl hn hls rfl (lv_room hcat) hdg hcs) hS (fun q _ h => hF q h) hF fin
  · exact va_callv (va_runIN (n := np) C.fix hM ⟨va_cnB np C.fix.2.2.2.2 hL.good rfl hr0.1 hr0.2 (hNn _ hk) (C.fix.2.2.2.2 _ hL.2.2.2.1) hL.2.2.2.2.2 hR, hL.2.2.2.2.1, C.fix.2.2.2.2 _ hL.2.2.1⟩ ⟨hblind, hpre⟩ rfl hn hls rfl (lv_room hcat) hdg hcs) hS (fun q _ h => hF q h) hF fin
end ZCT
