/-! the law's world: the class's cells, the reference's cells, the row 'out' -/
def lA (s : State) : Nat → Prop := fun q => s.heap.size ≤ q
def lO (cs : Nat → ClassId) (o : Nat) (f : Nat → Int64) : va_W := [(o, .inl (cs 4, 1, .inr (.inl f)))]
def lW (D : va_G) (cs ad am : Nat → Nat) (o : Nat) (s : State) (X M : Zs) (f : Nat → Int64) (H : Heap) (locs : List Loc) : Prop :=
  va_P D vwCl (xw cs ad X) H ∧ va_P D vwCl (mw cs am M) H ∧ va_P D vwCl (lO cs o f) H ∧ va_D (lA s) (xw cs ad X ++ (mw cs am M ++ lO cs o f)) ∧ va_K D vwCl (tyC cs) s ∧ (xZ ad s ∧ mZ am s ∧ zN s) ∧ va_S (lA s) s.heap H locs
theorem lw_addr {A : Nat → Prop} {w v : va_W} (h : w.map Prod.fst = v.map Prod.fst) (hD : va_D A w) : va_D A v := by
  have key : ∀ (k : Nat) (q : Nat × va_E), v[k]? = some q → ∃ q0, w[k]? = some q0 ∧ q0.1 = q.1 := by
    intro k q hk
    have h1 : (v.map Prod.fst)[k]? = some q.1 := by rw [List.getElem?_map, hk]; rfl
    rw [← h, List.getElem?_map] at h1
    cases hw : w[k]? with
    | none => rw [hw] at h1; cases h1
    | some q0 => rw [hw] at h1; exact ⟨q0, rfl, Option.some.inj h1⟩
  refine ⟨fun i j p q hi hj e => ?_, fun k q hk => ?_⟩
  · obtain ⟨p0, a1, a2⟩ := key i p hi
    obtain ⟨q0, b1, b2⟩ := key j q hj
    exact hD.1 i j p0 q0 a1 b1 (by rw [a2, b2, e])
  · obtain ⟨q0, a1, a2⟩ := key k q hk
    rw [← a2]; exact hD.2 k q0 a1
theorem va_right {D : va_G} {w1 w2 : va_W} {H : Heap} (h : va_P D vwCl (w1 ++ w2) H) : va_P D vwCl w2 H := fun k q hk => h (w1.length + k) q (by rw [List.getElem?_append_right (by omega), show w1.length + k - w1.length = k by omega]; exact hk)
theorem lw_rightD {A : Nat → Prop} {w1 w2 : va_W} (h : va_D A (w1 ++ w2)) : va_D A w2 := by
  have key : ∀ (k : Nat) (q : Nat × va_E), w2[k]? = some q → (w1 ++ w2)[w1.length + k]? = some q := fun k q hk => by
    rw [List.getElem?_append_right (by omega), show w1.length + k - w1.length = k by omega]; exact hk
  exact ⟨fun i j p q hi hj e => by have := h.1 _ _ p q (key i p hi) (key j q hj) e; omega, fun k q hk => h.2 _ q (key k q hk)⟩
theorem lw_apart {A : Nat → Prop} {w1 w2 : va_W} (h : va_D A (w1 ++ w2)) {i j : Nat} {p q : Nat × va_E} (h1 : w1[i]? = some p) (h2 : w2[j]? = some q) : p.1 ≠ q.1 := by
  intro e
  have hl : i < w1.length := (List.getElem?_eq_some_iff.mp h1).1
  have := h.1 i (w1.length + j) p q (by rw [List.getElem?_append_left hl]; exact h1) (by rw [List.getElem?_append_right (by omega), show w1.length + j - w1.length = j by omega]; exact h2) e
  omega
theorem xw_fst (cs ad : Nat → Nat) (S : Zs) : (xw cs ad S).map Prod.fst = (List.range 48).map ad := rfl
theorem mw_fst (cs ad : Nat → Nat) (S : Zs) : (mw cs ad S).map Prod.fst = (List.range 23).map ad := rfl
theorem lw_in {w : va_W} {ad : Nat → Nat} {n : Nat} (h : w.map Prod.fst = (List.range n).map ad) {k : Nat} {q : Nat × va_E} (hk : w[k]? = some q) : k < n ∧ q.1 = ad k := by
  have h1 : (w.map Prod.fst)[k]? = some q.1 := by rw [List.getElem?_map, hk]; rfl
  rw [h, List.getElem?_map] at h1
  by_cases hn : k < n
  · rw [List.getElem?_range hn] at h1
    exact ⟨hn, (Option.some.inj h1).symm⟩
  · rw [List.getElem?_eq_none (by simp; omega)] at h1
    cases h1
theorem lw_has {w : va_W} {ad : Nat → Nat} {n : Nat} (h : w.map Prod.fst = (List.range n).map ad) {k : Nat} (hk : k < n) : ∃ q, w[k]? = some q ∧ q.1 = ad k := by
  have h1 : (w.map Prod.fst)[k]? = some (ad k) := by rw [h, List.getElem?_map, List.getElem?_range hk]; rfl
  rw [List.getElem?_map] at h1
  cases hw : w[k]? with
  | none => rw [hw] at h1; cases h1
  | some q => rw [hw] at h1; exact ⟨q, rfl, Option.some.inj h1⟩
section LWS
variable {D : va_G} {cs ad am : Nat → Nat} {o : Nat} {s : State} {X M : Zs} {f : Nat → Int64} {H : Heap} {locs : List Loc}
theorem lW.heap (h : lW D cs ad am o s X M f H locs) : ∀ q : Nat, q < s.heap.size → H[q]? = s.heap[q]? := fun q hq => h.2.2.2.2.2.2.2.1 q hq (Nat.not_le.mpr hq)
theorem lW.x (h : lW D cs ad am o s X M f H locs) {U : State} (hU : U.heap = H) (hw : s.WarmedH U.vm) : zB (xG D cs ad) X U := by
  have hh := h.heap
  obtain ⟨h1, h2, h3, h4, h5, ⟨z1, z2, z3⟩, h6⟩ := h
  refine ⟨by rw [hU]; exact h1, ⟨(va_leftD h4).1, fun k q hk => ⟨k, lw_in (xw_fst cs ad X) hk⟩⟩, va_K.moved hw.alike h5, ⟨xG_st D cs ad s U (by rw [hU]; exact h6.1) (fun q hq _ => by rw [hU]; exact hh q hq) (Or.inl hw) z1, zN_to (Or.inl hw) z3⟩, xG_st D cs ad⟩
theorem lW.m (h : lW D cs ad am o s X M f H locs) {U : State} (hU : U.heap = H) (hw : s.WarmedH U.vm) : zB (mG D cs am) M U := by
  have hh := h.heap
  obtain ⟨h1, h2, h3, h4, h5, ⟨z1, z2, z3⟩, h6⟩ := h
  refine ⟨by rw [hU]; exact h2, ⟨(va_leftD (lw_rightD h4)).1, fun k q hk => ⟨k, lw_in (mw_fst cs am M) hk⟩⟩, va_K.moved hw.alike h5, ⟨mG_st D cs am s U (by rw [hU]; exact h6.1) (fun q hq _ => by rw [hU]; exact hh q hq) (Or.inl hw) z2, zN_to (Or.inl hw) z3⟩, mG_st D cs am⟩
theorem lW.subx (h : lW D cs ad am o s X M f H locs) : ∀ q, xA ad q → lA s q := by
  rintro q ⟨k, hk, rfl⟩
  obtain ⟨p, h1, h2⟩ := lw_has (xw_fst cs ad X) hk
  have := (va_leftD h.2.2.2.1).2 k p h1
  rw [h2] at this; exact this
theorem lW.subm (h : lW D cs ad am o s X M f H locs) : ∀ q, mA am q → lA s q := by
  rintro q ⟨k, hk, rfl⟩
  obtain ⟨p, h1, h2⟩ := lw_has (mw_fst cs am M) hk
  have := (va_leftD (lw_rightD h.2.2.2.1)).2 k p h1
  rw [h2] at this; exact this
theorem lW.afterx (h : lW D cs ad am o s X M f H locs) {X2 : Zs} {t : State} {H1 : Heap} {locs1 : List Loc} (ht : t.heap = H1) (hB : zB (xG D cs ad) X2 t) (hk : ∀ q : Nat, q < H.size → ¬ xA ad q → H1[q]? = H[q]?) (hS : va_S (lA s) s.heap H1 locs1) : lW D cs ad am o s X2 M f H1 locs1 := by
  have hout : ∀ (k : Nat) (q : Nat × va_E), (mw cs am M ++ lO cs o f)[k]? = some q → ¬ xA ad q.1 := by
    rintro k q hq ⟨j, hj, e⟩
    obtain ⟨p, h1, h2⟩ := lw_has (xw_fst cs ad X) hj
    exact lw_apart h.2.2.2.1 h1 hq (by rw [h2, e])
  have hP2 : va_P D vwCl (mw cs am M ++ lO cs o f) H := va_P.app h.2.1 h.2.2.1
  have hP3 := hP2.kept (fun k q hq => hk q.1 (hP2 k q hq).lt (hout k q hq))
  refine ⟨by rw [← ht]; exact hB.1, va_left hP3, ?_, lw_addr (by simp only [List.map_append, xw_fst, mw_fst]) h.2.2.2.1, h.2.2.2.2.1, h.2.2.2.2.2.1, hS⟩
  exact fun k q hq => hP3 ((mw cs am M).length + k) q (by rw [List.getElem?_append_right (by omega), show (mw cs am M).length + k - (mw cs am M).length = k by omega]; exact hq)
theorem lW.afterm (h : lW D cs ad am o s X M f H locs) {M2 : Zs} {t : State} {H1 : Heap} {locs1 : List Loc} (ht : t.heap = H1) (hB : zB (mG D cs am) M2 t) (hk : ∀ q : Nat, q < H.size → ¬ mA am q → H1[q]? = H[q]?) (hS : va_S (lA s) s.heap H1 locs1) : lW D cs ad am o s X M2 f H1 locs1 := by
  have hx : ∀ (k : Nat) (q : Nat × va_E), (xw cs ad X)[k]? = some q → ¬ mA am q.1 := by
    rintro k q hq ⟨j, hj, e⟩
    obtain ⟨p, h1, h2⟩ := lw_has (mw_fst cs am M) hj
    have hl : j < (mw cs am M).length := (List.getElem?_eq_some_iff.mp h1).1
    exact lw_apart h.2.2.2.1 hq (by rw [List.getElem?_append_left hl]; exact h1) (by rw [h2, e])
  have ho : ∀ (k : Nat) (q : Nat × va_E), (lO cs o f)[k]? = some q → ¬ mA am q.1 := by
    rintro k q hq ⟨j, hj, e⟩
    obtain ⟨p, h1, h2⟩ := lw_has (mw_fst cs am M) hj
    exact lw_apart (lw_rightD h.2.2.2.1) h1 hq (by rw [h2, e])
  exact ⟨h.1.kept (fun k q hq => hk q.1 (h.1 k q hq).lt (hx k q hq)), by rw [← ht]; exact hB.1, h.2.2.1.kept (fun k q hq => hk q.1 (h.2.2.1 k q hq).lt (ho k q hq)), lw_addr (by simp only [List.map_append, xw_fst, mw_fst]) h.2.2.2.1, h.2.2.2.2.1, h.2.2.2.2.2.1, hS⟩
theorem lW.recx (h : lW D cs ad am o s X M f H locs) : ∃ cell : Cell, H[ad 0]? = some cell ∧ cell.vm.isStatics = false ∧ s.vm.findClass RX11 = some cell.cls := va_recv (q := (RX11, TX11, 11)) h.2.2.2.2.1 h.1 (ci := 10) (q0 := 0) rfl rfl
theorem lW.recm (h : lW D cs ad am o s X M f H locs) : ∃ cell : Cell, H[am 0]? = some cell ∧ cell.vm.isStatics = false ∧ s.vm.findClass RX12 = some cell.cls := va_recv (q := (RX12, TX12, 44)) h.2.2.2.2.1 h.2.1 (ci := 11) (q0 := 0) rfl rfl
end LWS
section LWC
variable {p : Program} {l : Launch} {e : Env} {R : Room} {s : State} {m : MethodId} {args : Array Value} {below : List Frame} {meth : Method} {c : Code} {H : Heap} {locs : List Loc} {cells slots : Nat} {Q : State → Prop}
variable {cc : ByteArray} {nL pc : Nat} {own : String} {ret : Option FieldType} {ls : Array Slot} {rest : List Value} {D : va_G} {cs ad am : Nat → Nat} {o : Nat} {X M : Zs} {f : Nat → Int64}
variable {y : MethodName} {bc : ByteArray} {maxL np idx : Nat} {yret : Option FieldType} {rm : Room} {As : List Value}
theorem lz_callx {r : Int32 × Zs} (C : zC p s m args meth c cc nL own ret) (hW : lW D cs ad am o s X M f H locs) (hM : zMi l y bc maxL yret rm (xG D cs ad) (.ref (ad 0) :: As) X r) (hL : zLV own idx RX11 y bc maxL yret np)
    (hn : As.length = np) (hls : ls.size = nL) (hr0 : rm.cells = 0 ∧ rm.slots = 0) (hR : rm.frames + 1 ≤ R.frames ∧ 8 + (maxL + 11) + rm.locals ≤ R.locals) (hcat : (rest.map fun v => v.category).sum ≤ 8) (hcs : cells ≤ R.cells ∧ slots ≤ R.slots) {st : List Value} (hst : st = As.reverse ++ .ref (ad 0) :: rest) (hdg : decode cc pc = .ok (.invokevirtual idx, 3))
    (k : ∀ (H1 : Heap) (locs1 : List Loc), lW D cs ad am o s r.2 M f H1 locs1 → W p l e R s m args below meth c H1 locs1 cells slots Q (F0 m (pc + 3) ls (.int r.1 :: rest))) : W p l e R s m args below meth c H locs cells slots Q (F0 m pc ls st) := by
  subst hst
  refine va_calli (va_runV (C := RX11) (n := np) C.fix hM (cwV np C.fix.2.2.2.2 hL.good rfl hr0.1 hr0.2 hL.2.2.2.2.2 hR) ⟨zB.blind, hW.recx, fun U hU hw => ⟨rfl, hW.x hU hw⟩⟩ rfl hn hls rfl (lv_room hcat) hdg ⟨hcs.1, hcs.2⟩) hW.2.2.2.2.2.2 (fun q _ z => hW.subx q z) (fun q z => hW.subx q z) (fun v u t H1 locs1 ht hvm hp hB _ hk hS => ?_)
  subst hp
  exact k H1 locs1 (hW.afterx ht hB hk hS)
theorem lz_callm {r : Int32 × Zs} (C : zC p s m args meth c cc nL own ret) (hW : lW D cs ad am o s X M f H locs) (hM : zMi l y bc maxL yret rm (mG D cs am) (.ref (am 0) :: As) M r) (hL : zLV own idx RX12 y bc maxL yret np)
    (hn : As.length = np) (hls : ls.size = nL) (hr0 : rm.cells = 0 ∧ rm.slots = 0) (hR : rm.frames + 1 ≤ R.frames ∧ 8 + (maxL + 11) + rm.locals ≤ R.locals) (hcat : (rest.map fun v => v.category).sum ≤ 8) (hcs : cells ≤ R.cells ∧ slots ≤ R.slots) {st : List Value} (hst : st = As.reverse ++ .ref (am 0) :: rest) (hdg : decode cc pc = .ok (.invokevirtual idx, 3))
    (k : ∀ (H1 : Heap) (locs1 : List Loc), lW D cs ad am o s X r.2 f H1 locs1 → W p l e R s m args below meth c H1 locs1 cells slots Q (F0 m (pc + 3) ls (.int r.1 :: rest))) : W p l e R s m args below meth c H locs cells slots Q (F0 m pc ls st) := by
  subst hst
  refine va_calli (va_runV (C := RX12) (n := np) C.fix hM (cwV np C.fix.2.2.2.2 hL.good rfl hr0.1 hr0.2 hL.2.2.2.2.2 hR) ⟨zB.blind, hW.recm, fun U hU hw => ⟨rfl, hW.m hU hw⟩⟩ rfl hn hls rfl (lv_room hcat) hdg ⟨hcs.1, hcs.2⟩) hW.2.2.2.2.2.2 (fun q _ z => hW.subm q z) (fun q z => hW.subm q z) (fun v u t H1 locs1 ht hvm hp hB _ hk hS => ?_)
  subst hp
  exact k H1 locs1 (hW.afterm ht hB hk hS)
/-- 'script[j] != 0' as a number -/
def lB (v : Int32) : Int32 := if v = 0 then 0 else 1
theorem lz_bool {v : Int32} (C : zC p s m args meth c cc nL own ret) (h0 : decode cc pc = .ok (.ifCond .eq 7, 3)) (h1 : decode cc (pc + 3) = .ok (.iconst 1, 1)) (h2 : decode cc (pc + 4) = .ok (.goto 4, 3)) (h3 : decode cc (pc + 7) = .ok (.iconst 0, 1))
    (k : W p l e R s m args below meth c H locs cells slots Q (F0 m (pc + 8) ls (.int (lB v) :: rest))) : W p l e R s m args below meth c H locs cells slots Q (F0 m pc ls (.int v :: rest)) := by
  refine lv_if_eq (tgt := pc + 7) C.1 C.2.1 h0 (by omega) (fun g => ?_) (fun g => ?_)
  · refine lv_iconst (v := 0) C.1 C.2.1 h3 (by decide) ?_
    rw [show lB v = 0 from if_pos g] at k
    exact k
  · refine lv_iconst (v := 1) C.1 C.2.1 h1 (by decide) ?_
    refine lv_goto (tgt := pc + 8) C.1 C.2.1 h2 (by omega) ?_
    rw [show lB v = 1 from if_neg g] at k
    exact k
end LWC
