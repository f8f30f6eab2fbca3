def eN : String := "java/util/NoSuchElementException"
def thN : List String := ["java/lang/RuntimeException", "java/lang/Exception"]
def lw_ng : List Cond := (vx_at0 RX11 106 eN thN).filter (fun w => !goodWord w)
def isCast : Cond → Bool
  | .castable .. => true
  | .declares .. => true
  | _ => false
theorem lw_ng_c : lw_ng.all isCast = true := by decide +kernel
theorem lw_gd : ∀ w ∈ (vx_at0 RX11 106 eN thN).filter goodWord, w ∈ lw_ok := by decide +kernel
theorem lw_ngt : ∀ w ∈ lw_ng, w ∈ lw_tbl := by decide +kernel
theorem lw_vo : ∀ w ∈ Cond.classLink RX11 104 eN :: Cond.initialized eN :: vx_at0 RX11 106 eN thN, vx_ot w = true := by decide +kernel
/-- what a throw asks of the heap and of the tables: the cells of B are not its own -/
def zTh (B : Nat → Prop) (U : State) : Prop := (∀ w ∈ lw_ng, va_Nw w U) ∧ va_Nw (.castable eN eN) U ∧ vx_Zq Bundle.tN "UNASSIGNED_STACK" Bundle.steD B U U.heap ∧ vx_Zq Bundle.tN "SUPPRESSED_SENTINEL" Bundle.listD B U U.heap
theorem cast_to {C T : String} {s U : State} (h : s.WarmedH U.vm ∨ U.vm = s.vm) (hc : va_Nw (.castable C T) s) : va_Nw (.castable C T) U := h.elim (fun g => va_Nw.warmC g hc) (fun g => va_Nw.same rfl g.symm hc)
theorem zTh_to {B : Nat → Prop} {s U : State} (hq : ∀ q : Nat, q < s.heap.size → ¬ B q → U.heap[q]? = s.heap[q]?) (h : s.WarmedH U.vm ∨ U.vm = s.vm) (z : zTh B s) : zTh B U := by
  obtain ⟨z1, z2, z3, z4⟩ := z
  refine ⟨fun w hw => ?_, cast_to h z2, vx_Zq.moved (zV_alike h) (z3.kept hq), vx_Zq.moved (zV_alike h) (z4.kept hq)⟩
  have h1 := z1 w hw
  have h2 := List.all_eq_true.mp lw_ng_c w hw
  cases w <;> first | (exact cast_to h h1) | (exact h.elim (fun g => va_Nw.warmD g h1) (fun g => va_Nw.same rfl g.symm h1)) | (exact absurd h2 (by simp [isCast]))
theorem w_mono {p : Program} {l : Launch} {e : Env} {R : Room} {s : State} {m : MethodId} {args : Array Value} {below : List Frame} {meth : Method} {c : Code} {H : Heap} {locs : List Loc} {cells slots : Nat} {Q Q2 : State → Prop} {g : JFrame} (hq : ∀ t, Q t → Q2 t) (k : W p l e R s m args below meth c H locs cells slots Q g) : W p l e R s m args below meth c H locs cells slots Q2 g := by
  intro T hT X
  obtain ⟨t, a, b⟩ := k T hT X
  exact ⟨t, a, hq t b⟩
theorem clx_104 : Cond.classLink RX11 104 eN ∈ lw_ok := lw_ok_of (by decide +kernel) (by decide +kernel)
theorem itx_e : Cond.initialized eN ∈ lw_ok := lw_ok_of (by decide +kernel) (by decide +kernel)
theorem cll_13 : Cond.classLink RL 13 eN ∈ lw_ok := lw_ok_of (by decide +kernel) (by decide +kernel)
def bad_saying (X : Zs) (a b : Int32) : Prop := a < 0 ∨ X.1 0 62 ≤ a ∨ b < 0 ∨ 3 < b
def bad_pleaded (X : Zs) (a b : Int32) : Prop := a < 0 ∨ X.1 0 826 ≤ a ∨ b < 0 ∨ 4 < b
def bad_row (X : Zs) (a : Int32) : Prop := a < 0 ∨ X.1 0 10 ≤ a
set_option maxHeartbeats 4000000 in
set_option maxRecDepth 20000 in
theorem x_saying {l : Launch} (hst : l.stackTraces = false) {D : va_G} {cs ad : Nat → Nat} {B : Nat → Prop} {X : Zs} {a b : Int32} (hbad : bad_saying X a b) : vx_Met l yX11_saying (ws_of yX11_saying cX11_saying 3 (some .int)) { frames := 8, cells := 1, slots := 6, locals := 200 } (va_Pc [.ref (ad 0), .int a, .int b] (fun U => zB (xG D cs ad) X U ∧ zTh B U)) (va_Qi (fun (_ : Int32) (_ : Zs) => False) (fun _ _ => True) (xA ad)) (vx_X (fun u : Zs => u = X) (fun E u t => E = eN ∧ va_P D vwCl (xw cs ad u) t.heap) (xA ad)) 1 6 (xA ad) := by
  refine vx_ofW (by decide) rfl ?_
  intro p e s m args below meth c s₁ B9 hml htab hv
  obtain ⟨rfl, hB, hT⟩ := hv
  have C : zC p s m ([.ref (ad 0), .int a, .int b] : List Value).toArray meth c cX11_saying 3 RX11 (some .int) := ⟨B9.exec, B9.bytes, hml, findClass_of_methodNamed B9.named, fun w hw => atoms_spec (ws := ws_of yX11_saying cX11_saying 3 (some .int)) B9.pre w (List.mem_cons_of_mem _ hw), B9.returns, B9.notSynchronized⟩
  obtain ⟨hx, hb, hml, hown, hts, hret, hlk⟩ := id C
  have hW := zW.start hB
  have hl := lv_entry [.ref (ad 0), .int a, .int b] (n := 3) (Nat.le_of_ble_eq_true rfl)
  rw [lg_entry_eq]
  generalize (lg_sl [.ref (ad 0), .int a, .int b] ++ List.replicate (3 - (lg_sl [.ref (ad 0), .int a, .int b]).length) Slot.unset).toArray = ls at hl ⊢
  have hl : lv_has ls 3 [(0, .ref (ad 0)), (1, .int a), (2, .int b)] := hl
  have thrw : W p l e { frames := 8, cells := 1, slots := 6, locals := 200 } s m ([.ref (ad 0), .int a, .int b] : List Value).toArray below meth c s.heap [] 0 0 (vx_MQ below (va_Qi (fun (_ : Int32) (_ : Zs) => False) (fun _ _ => True) (xA ad)) (vx_X (fun u : Zs => u = X) (fun E u t => E = eN ∧ va_P D vwCl (xw cs ad u) t.heap) (xA ad)) ([.ref (ad 0), .int a, .int b] : List Value).toArray s 1 6 (xA ad)) (F0 m 24 ls []) := by
    refine vx_throw0 (A := B) (names := thN) hx hb hst hown (by decide +kernel) (by decide +kernel) (hts _ clx_104) (hts _ itx_e) (vx_hat (fun w hw => hts w (lw_gd w hw)) (fun w hw => hw) (fun w hw => va_Nw.use ?_ (hT.1 w hw))) lw_vo hT.2.2.1 hT.2.2.2 va_S.rf (hl.1.trans hml.symm) dX11_saying_24 dX11_saying_27 dX11_saying_28 dX11_saying_31 (fun x h => (htab x h).elim) (by decide) (by decide) (by decide) (by decide) hlk (fun t _ _ hq => ?_) (fun z h => by cases h) (by decide) (by decide)
    · have h2 := List.all_eq_true.mp lw_ng_c w hw
      cases w <;> first | rfl | (exact absurd h2 (by simp [isCast]))
    · exact ⟨X, rfl, ⟨rfl, hW.1.kept fun k q hk => hq q.1 (hW.1 k q hk).lt⟩, by assumption, fun q h1 _ => hq q h1⟩
  refine lv_iload_n hx hb dX11_saying_0 rfl (lv_at hl 1 rfl) ?_
  refine lv_if_lt (tgt := 24) hx hb dX11_saying_1 (by decide) (fun _ => thrw) (fun g1 => ?_)
  refine lv_iload_n hx hb dX11_saying_4 rfl (lv_at hl 1 rfl) ?_
  refine lv_aload_n hx hb dX11_saying_5 rfl (lv_at hl 0 rfl) ?_
  refine zz_get (q0 := 0) (ci := 10) (k := 1) (T := TX11) (N := 11) C hW rfl rfl inX11 (by decide) fl_X11_27 rfl dX11_saying_6 ?_
  refine zz_get (q0 := 3) (ci := 1) (k := 2) (T := TX2) (N := 15) C hW rfl rfl inX2 (by decide) fl_X11_101 rfl dX11_saying_9 ?_
  refine lv_icmp_ge (tgt := 24) hx hb dX11_saying_12 (by decide) (fun _ => thrw) (fun g2 => ?_)
  refine lv_iload_n hx hb dX11_saying_15 rfl (lv_at hl 2 rfl) ?_
  refine lv_if_lt (tgt := 24) hx hb dX11_saying_16 (by decide) (fun _ => thrw) (fun g3 => ?_)
  refine lv_iload_n hx hb dX11_saying_19 rfl (lv_at hl 2 rfl) ?_
  refine lv_iconst (v := 3) hx hb dX11_saying_20 (by decide) ?_
  refine lv_icmp_le (tgt := 32) hx hb dX11_saying_21 (by decide) (fun g4 => ?_) (fun _ => thrw)
  exact absurd hbad (fun h => h.elim g1 (fun h => h.elim g2 (fun h => h.elim g3 (fun h => Int32.not_lt.mpr g4 h))))
set_option maxHeartbeats 4000000 in
set_option maxRecDepth 20000 in
theorem x_pleaded {l : Launch} (hst : l.stackTraces = false) {D : va_G} {cs ad : Nat → Nat} {B : Nat → Prop} {X : Zs} {a b : Int32} (hbad : bad_pleaded X a b) : vx_Met l yX11_pleaded (ws_of yX11_pleaded cX11_pleaded 3 (some .int)) { frames := 8, cells := 1, slots := 6, locals := 200 } (va_Pc [.ref (ad 0), .int a, .int b] (fun U => zB (xG D cs ad) X U ∧ zTh B U)) (va_Qi (fun (_ : Int32) (_ : Zs) => False) (fun _ _ => True) (xA ad)) (vx_X (fun u : Zs => u = X) (fun E u t => E = eN ∧ va_P D vwCl (xw cs ad u) t.heap) (xA ad)) 1 6 (xA ad) := by
  refine vx_ofW (by decide) rfl ?_
  intro p e s m args below meth c s₁ B9 hml htab hv
  obtain ⟨rfl, hB, hT⟩ := hv
  have C : zC p s m ([.ref (ad 0), .int a, .int b] : List Value).toArray meth c cX11_pleaded 3 RX11 (some .int) := ⟨B9.exec, B9.bytes, hml, findClass_of_methodNamed B9.named, fun w hw => atoms_spec (ws := ws_of yX11_pleaded cX11_pleaded 3 (some .int)) B9.pre w (List.mem_cons_of_mem _ hw), B9.returns, B9.notSynchronized⟩
  obtain ⟨hx, hb, hml, hown, hts, hret, hlk⟩ := id C
  have hW := zW.start hB
  have hl := lv_entry [.ref (ad 0), .int a, .int b] (n := 3) (Nat.le_of_ble_eq_true rfl)
  rw [lg_entry_eq]
  generalize (lg_sl [.ref (ad 0), .int a, .int b] ++ List.replicate (3 - (lg_sl [.ref (ad 0), .int a, .int b]).length) Slot.unset).toArray = ls at hl ⊢
  have hl : lv_has ls 3 [(0, .ref (ad 0)), (1, .int a), (2, .int b)] := hl
  have thrw : W p l e { frames := 8, cells := 1, slots := 6, locals := 200 } s m ([.ref (ad 0), .int a, .int b] : List Value).toArray below meth c s.heap [] 0 0 (vx_MQ below (va_Qi (fun (_ : Int32) (_ : Zs) => False) (fun _ _ => True) (xA ad)) (vx_X (fun u : Zs => u = X) (fun E u t => E = eN ∧ va_P D vwCl (xw cs ad u) t.heap) (xA ad)) ([.ref (ad 0), .int a, .int b] : List Value).toArray s 1 6 (xA ad)) (F0 m 24 ls []) := by
    refine vx_throw0 (A := B) (names := thN) hx hb hst hown (by decide +kernel) (by decide +kernel) (hts _ clx_104) (hts _ itx_e) (vx_hat (fun w hw => hts w (lw_gd w hw)) (fun w hw => hw) (fun w hw => va_Nw.use ?_ (hT.1 w hw))) lw_vo hT.2.2.1 hT.2.2.2 va_S.rf (hl.1.trans hml.symm) dX11_pleaded_24 dX11_pleaded_27 dX11_pleaded_28 dX11_pleaded_31 (fun x h => (htab x h).elim) (by decide) (by decide) (by decide) (by decide) hlk (fun t _ _ hq => ?_) (fun z h => by cases h) (by decide) (by decide)
    · have h2 := List.all_eq_true.mp lw_ng_c w hw
      cases w <;> first | rfl | (exact absurd h2 (by simp [isCast]))
    · exact ⟨X, rfl, ⟨rfl, hW.1.kept fun k q hk => hq q.1 (hW.1 k q hk).lt⟩, by assumption, fun q h1 _ => hq q h1⟩
  refine lv_iload_n hx hb dX11_pleaded_0 rfl (lv_at hl 1 rfl) ?_
  refine lv_if_lt (tgt := 24) hx hb dX11_pleaded_1 (by decide) (fun _ => thrw) (fun g1 => ?_)
  refine lv_iload_n hx hb dX11_pleaded_4 rfl (lv_at hl 1 rfl) ?_
  refine lv_aload_n hx hb dX11_pleaded_5 rfl (lv_at hl 0 rfl) ?_
  refine zz_get (q0 := 0) (ci := 10) (k := 8) (T := TX11) (N := 11) C hW rfl rfl inX11 (by decide) fl_X11_74 rfl dX11_pleaded_6 ?_
  refine zz_get (q0 := 41) (ci := 2) (k := 6) (T := TX3) (N := 7) C hW rfl rfl inX3 (by decide) fl_X11_291 rfl dX11_pleaded_9 ?_
  refine lv_icmp_ge (tgt := 24) hx hb dX11_pleaded_12 (by decide) (fun _ => thrw) (fun g2 => ?_)
  refine lv_iload_n hx hb dX11_pleaded_15 rfl (lv_at hl 2 rfl) ?_
  refine lv_if_lt (tgt := 24) hx hb dX11_pleaded_16 (by decide) (fun _ => thrw) (fun g3 => ?_)
  refine lv_iload_n hx hb dX11_pleaded_19 rfl (lv_at hl 2 rfl) ?_
  refine lv_iconst (v := 4) hx hb dX11_pleaded_20 (by decide) ?_
  refine lv_icmp_le (tgt := 32) hx hb dX11_pleaded_21 (by decide) (fun g4 => ?_) (fun _ => thrw)
  exact absurd hbad (fun h => h.elim g1 (fun h => h.elim g2 (fun h => h.elim g3 (fun h => Int32.not_lt.mpr g4 h))))
set_option maxHeartbeats 4000000 in
set_option maxRecDepth 20000 in
theorem x_row {l : Launch} (hst : l.stackTraces = false) {D : va_G} {cs ad : Nat → Nat} {B : Nat → Prop} {X : Zs} {a : Int32} (hbad : bad_row X a) : vx_Met l yX11_row (ws_of yX11_row cX11_row 2 (some .int)) { frames := 8, cells := 1, slots := 6, locals := 200 } (va_Pc [.ref (ad 0), .int a] (fun U => zB (xG D cs ad) X U ∧ zTh B U)) (va_Qi (fun (_ : Int32) (_ : Zs) => False) (fun _ _ => True) (xA ad)) (vx_X (fun u : Zs => u = X) (fun E u t => E = eN ∧ va_P D vwCl (xw cs ad u) t.heap) (xA ad)) 1 6 (xA ad) := by
  refine vx_ofW (by decide) rfl ?_
  intro p e s m args below meth c s₁ B9 hml htab hv
  obtain ⟨rfl, hB, hT⟩ := hv
  have C : zC p s m ([.ref (ad 0), .int a] : List Value).toArray meth c cX11_row 2 RX11 (some .int) := ⟨B9.exec, B9.bytes, hml, findClass_of_methodNamed B9.named, fun w hw => atoms_spec (ws := ws_of yX11_row cX11_row 2 (some .int)) B9.pre w (List.mem_cons_of_mem _ hw), B9.returns, B9.notSynchronized⟩
  obtain ⟨hx, hb, hml, hown, hts, hret, hlk⟩ := id C
  have hW := zW.start hB
  have hl := lv_entry [.ref (ad 0), .int a] (n := 2) (Nat.le_of_ble_eq_true rfl)
  rw [lg_entry_eq]
  generalize (lg_sl [.ref (ad 0), .int a] ++ List.replicate (2 - (lg_sl [.ref (ad 0), .int a]).length) Slot.unset).toArray = ls at hl ⊢
  have hl : lv_has ls 2 [(0, .ref (ad 0)), (1, .int a)] := hl
  have thrw : W p l e { frames := 8, cells := 1, slots := 6, locals := 200 } s m ([.ref (ad 0), .int a] : List Value).toArray below meth c s.heap [] 0 0 (vx_MQ below (va_Qi (fun (_ : Int32) (_ : Zs) => False) (fun _ _ => True) (xA ad)) (vx_X (fun u : Zs => u = X) (fun E u t => E = eN ∧ va_P D vwCl (xw cs ad u) t.heap) (xA ad)) ([.ref (ad 0), .int a] : List Value).toArray s 1 6 (xA ad)) (F0 m 12 ls []) := by
    refine vx_throw0 (A := B) (names := thN) hx hb hst hown (by decide +kernel) (by decide +kernel) (hts _ clx_104) (hts _ itx_e) (vx_hat (fun w hw => hts w (lw_gd w hw)) (fun w hw => hw) (fun w hw => va_Nw.use ?_ (hT.1 w hw))) lw_vo hT.2.2.1 hT.2.2.2 va_S.rf (hl.1.trans hml.symm) dX11_row_12 dX11_row_15 dX11_row_16 dX11_row_19 (fun x h => (htab x h).elim) (by decide) (by decide) (by decide) (by decide) hlk (fun t _ _ hq => ?_) (fun z h => by cases h) (by decide) (by decide)
    · have h2 := List.all_eq_true.mp lw_ng_c w hw
      cases w <;> first | rfl | (exact absurd h2 (by simp [isCast]))
    · exact ⟨X, rfl, ⟨rfl, hW.1.kept fun k q hk => hq q.1 (hW.1 k q hk).lt⟩, by assumption, fun q h1 _ => hq q h1⟩
  refine lv_iload_n hx hb dX11_row_0 rfl (lv_at hl 1 rfl) ?_
  refine lv_if_lt (tgt := 12) hx hb dX11_row_1 (by decide) (fun _ => thrw) (fun g1 => ?_)
  refine lv_iload_n hx hb dX11_row_4 rfl (lv_at hl 1 rfl) ?_
  refine lv_aload_n hx hb dX11_row_5 rfl (lv_at hl 0 rfl) ?_
  refine zz_get (q0 := 0) (ci := 10) (k := 10) (T := TX11) (N := 11) C hW rfl rfl inX11 (by decide) fl_X11_82 rfl dX11_row_6 ?_
  refine lv_icmp_lt (tgt := 20) hx hb dX11_row_9 (by decide) (fun g2 => ?_) (fun _ => thrw)
  exact absurd hbad (fun h => h.elim g1 (fun h => Int32.not_lt.mpr h g2))
