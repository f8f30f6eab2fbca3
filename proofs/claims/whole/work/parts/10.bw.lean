theorem cw_saying : Cond.codeWith yL_saying cL_saying 5 (some .int) [(0, 10, 13, 13)] ∈ lw_ok := lw_at 1267 (by decide +kernel) (by decide +kernel)
theorem ws_saying : GoodIn lw_ok (va_wsS RL 40 yL_saying (Cond.codeWith yL_saying cL_saying 5 (some .int) [(0, 10, 13, 13)] :: lw_ok)) := by
  intro w hw
  have key : w ∈ lw_ok := by
    simp only [va_wsS, List.mem_append, List.mem_cons, List.not_mem_nil, or_false] at hw
    rcases hw with (rfl | rfl | rfl) | rfl | hw
    · exact lw_at 1265 (by decide +kernel) (by decide +kernel)
    · exact lw_at 1266 (by decide +kernel) (by decide +kernel)
    · exact lw_at 90 (by decide +kernel) (by decide +kernel)
    · exact cw_saying
    · exact hw
  exact lw_ok_self w key
theorem cd_X11_saying : Cond.code yX11_saying cX11_saying 3 (some .int) ∈ lw_ok := lw_at 1272 (by decide +kernel) (by decide +kernel)
theorem im_X11_saying : Cond.instanceMethod yX11_saying ∈ lw_ok := lw_at 1270 (by decide +kernel) (by decide +kernel)
theorem sl_X11_X11_saying : Cond.selects RX11 yX11_saying yX11_saying ∈ lw_ok := lw_at 1271 (by decide +kernel) (by decide +kernel)
theorem lk_L_7 : zLV RL 7 RX11 yX11_saying cX11_saying 3 (some .int) 2 := ⟨cd_X11_saying, lw_at 1269 (by decide +kernel) (by decide +kernel), im_X11_saying, sl_X11_X11_saying, it_X11, by decide +kernel⟩
theorem cw_pleaded : Cond.codeWith yL_pleaded cL_pleaded 5 (some .int) [(0, 10, 13, 13)] ∈ lw_ok := lw_at 1340 (by decide +kernel) (by decide +kernel)
theorem ws_pleaded : GoodIn lw_ok (va_wsS RL 201 yL_pleaded (Cond.codeWith yL_pleaded cL_pleaded 5 (some .int) [(0, 10, 13, 13)] :: lw_ok)) := by
  intro w hw
  have key : w ∈ lw_ok := by
    simp only [va_wsS, List.mem_append, List.mem_cons, List.not_mem_nil, or_false] at hw
    rcases hw with (rfl | rfl | rfl) | rfl | hw
    · exact lw_at 1338 (by decide +kernel) (by decide +kernel)
    · exact lw_at 1339 (by decide +kernel) (by decide +kernel)
    · exact lw_at 90 (by decide +kernel) (by decide +kernel)
    · exact cw_pleaded
    · exact hw
  exact lw_ok_self w key
theorem cd_X11_pleaded : Cond.code yX11_pleaded cX11_pleaded 3 (some .int) ∈ lw_ok := lw_at 1344 (by decide +kernel) (by decide +kernel)
theorem im_X11_pleaded : Cond.instanceMethod yX11_pleaded ∈ lw_ok := lw_at 1342 (by decide +kernel) (by decide +kernel)
theorem sl_X11_X11_pleaded : Cond.selects RX11 yX11_pleaded yX11_pleaded ∈ lw_ok := lw_at 1343 (by decide +kernel) (by decide +kernel)
theorem lk_L_15 : zLV RL 15 RX11 yX11_pleaded cX11_pleaded 3 (some .int) 2 := ⟨cd_X11_pleaded, lw_at 1341 (by decide +kernel) (by decide +kernel), im_X11_pleaded, sl_X11_X11_pleaded, it_X11, by decide +kernel⟩
theorem cw_row : Cond.codeWith yL_row cL_row 4 (some .int) [(0, 9, 12, 13)] ∈ lw_ok := lw_at 1351 (by decide +kernel) (by decide +kernel)
theorem ws_row : GoodIn lw_ok (va_wsS RL 228 yL_row (Cond.codeWith yL_row cL_row 4 (some .int) [(0, 9, 12, 13)] :: lw_ok)) := by
  intro w hw
  have key : w ∈ lw_ok := by
    simp only [va_wsS, List.mem_append, List.mem_cons, List.not_mem_nil, or_false] at hw
    rcases hw with (rfl | rfl | rfl) | rfl | hw
    · exact lw_at 1349 (by decide +kernel) (by decide +kernel)
    · exact lw_at 1350 (by decide +kernel) (by decide +kernel)
    · exact lw_at 90 (by decide +kernel) (by decide +kernel)
    · exact cw_row
    · exact hw
  exact lw_ok_self w key
theorem cd_X11_row : Cond.code yX11_row cX11_row 2 (some .int) ∈ lw_ok := lw_at 1355 (by decide +kernel) (by decide +kernel)
theorem im_X11_row : Cond.instanceMethod yX11_row ∈ lw_ok := lw_at 1353 (by decide +kernel) (by decide +kernel)
theorem sl_X11_X11_row : Cond.selects RX11 yX11_row yX11_row ∈ lw_ok := lw_at 1354 (by decide +kernel) (by decide +kernel)
theorem lk_L_18 : zLV RL 18 RX11 yX11_row cX11_row 2 (some .int) 1 := ⟨cd_X11_row, lw_at 1352 (by decide +kernel) (by decide +kernel), im_X11_row, sl_X11_X11_row, it_X11, by decide +kernel⟩
theorem zBT_blind {G : zG} {B : Nat → Prop} {av : List Value} {S : Zs} {Y : Heap → Prop} : FrameBlind (va_Pc av (fun U => zB G S U ∧ zTh B U ∧ Y U.heap)) := by
  intro a U g mk h
  obtain ⟨h1, h2, h3, h4⟩ := h
  exact ⟨h1, (zB.blind (av := av) a U g mk ⟨h1, h2⟩).2, zTh_to (s := U) (fun _ _ _ => rfl) (Or.inr rfl) h3, h4⟩
theorem zBT_blind1 {G : zG} {B : Nat → Prop} {av : List Value} {S : Zs} : FrameBlind (va_Pc av (fun U => zB G S U ∧ zTh B U)) := by
  intro a U g mk h
  obtain ⟨h1, h2, h3⟩ := h
  exact ⟨h1, (zB.blind (av := av) a U g mk ⟨h1, h2⟩).2, zTh_to (s := U) (fun _ _ _ => rfl) (Or.inr rfl) h3⟩
set_option maxHeartbeats 4000000 in
set_option maxRecDepth 20000 in
theorem wr_saying {l : Launch} (hst : l.stackTraces = false) {D : va_G} {cs ad : Nat → Nat} {B : Nat → Prop} {o F : Nat} {X : Zs} {f : Nat → Int64} {a b : Int32} (hpre : (∃ q, n_X11_saying_0 F X a b = some q) ∨ bad_saying X a b) : Met l yL_saying (Cond.codeWith yL_saying cL_saying 5 (some .int) [(0, 10, 13, 13)] :: lw_ok) { frames := 12, cells := 2, slots := 40, locals := 400 } (va_Pc [.ref (ad 0), .int a, .int b, .ref o] (fun U => zB (xG D cs ad) X U ∧ zTh B U ∧ va_P D vwCl (lO cs o f) U.heap ∧ ¬ xA ad o)) (va_Qi (fun k (u : Zs × (Nat → Int64)) => o_saying F a b X f k u.1 u.2) (fun u t => va_P D vwCl (xw cs ad u.1) t.heap ∧ va_P D vwCl (lO cs o u.2) t.heap) (fun q => xA ad q ∨ q = o)) 2 40 (fun q => xA ad q ∨ q = o) := by
  refine va_MetW (cc := cL_saying) (maxL := 5) (ret := some .int) (hh := [(0, 10, 13, 13)]) (by decide) rfl ?_
  intro p e s m args below meth c s₁ B9 hml hv
  obtain ⟨rfl, hB, hT, hO, hno⟩ := hv
  have hat := atoms_spec (ws := Cond.codeWith yL_saying cL_saying 5 (some .int) [(0, 10, 13, 13)] :: lw_ok) B9.pre
  have C : zC p s m ([.ref (ad 0), .int a, .int b, .ref o] : List Value).toArray meth c cL_saying 5 RL (some .int) := ⟨B9.exec, B9.bytes, hml, findClass_of_methodNamed B9.named, fun w hw => hat w (List.mem_cons_of_mem _ hw), B9.returns, B9.notSynchronized⟩
  have htab := vx_table (x := yL_law) B9 (hat _ List.mem_cons_self)
  obtain ⟨hx, hb, hml, hown, hts, hret, hlk⟩ := id C
  have hW := zW.start hB
  have hol : o < s.heap.size := (hO 0 _ rfl).lt
  have hl := lv_entry [.ref (ad 0), .int a, .int b, .ref o] (n := 5) (Nat.le_of_ble_eq_true rfl)
  rw [lg_entry_eq]
  generalize (lg_sl [.ref (ad 0), .int a, .int b, .ref o] ++ List.replicate (5 - (lg_sl [.ref (ad 0), .int a, .int b, .ref o]).length) Slot.unset).toArray = ls at hl ⊢
  have hl : lv_has ls 5 [(0, .ref (ad 0)), (1, .int a), (2, .int b), (3, .ref o)] := hl
  refine lv_aload_n hx hb dL_saying_0 rfl (lv_at hl 3 rfl) ?_
  refine lv_iconst (v := 0) hx hb dL_saying_1 (by decide) ?_
  refine lv_aload_n hx hb dL_saying_2 rfl (lv_at hl 0 rfl) ?_
  refine lv_iload_n hx hb dL_saying_3 rfl (lv_at hl 1 rfl) ?_
  refine lv_iload_n hx hb dL_saying_4 rfl (lv_at hl 2 rfl) ?_
  rcases hpre with ⟨q, hq⟩ | hbad
  · refine zz_callVi (d := n_X11_saying_0 F X a b) (f := fun v S2 => some (v, S2)) (q := q) (As := [.int a, .int b]) C hW (by rw [hq]; rfl) (fun r hr => c_X11_saying_0 hr) lk_L_7 (hW.recv xr_0) rfl hl.1 ⟨rfl, rfl⟩ ⟨Nat.le_of_ble_eq_true rfl, Nat.le_of_ble_eq_true rfl⟩ (Nat.le_of_ble_eq_true rfl) ⟨Nat.zero_le _, Nat.zero_le _⟩ rfl dL_saying_5 (fun v S2 H locs h hW => ?_)
    cases h
    have hS := hW.2.2.2.2.2
    have hO2 : va_P D vwCl (lO cs o f) H := hO.kept fun k z hz => by
      have hk0 : k < 1 := (List.getElem?_eq_some_iff.mp hz).1
      rw [show k = 0 by omega] at hz
      cases hz
      exact hS.2.1 o hol hno
    have hS1 : va_S (fun q => xA ad q ∨ q = o) s.heap H locs := ⟨hS.1, fun z h1 h2 => hS.2.1 z h1 (fun h3 => h2 (Or.inl h3)), fun z hz => Or.inl (hS.2.2 z hz)⟩
    have hD1 : va_D (fun q => xA ad q ∨ q = o) (xw cs ad S2 ++ lO cs o f) := by
      refine va_D.app (hW.2.1.weaken fun _ _ _ h => Or.inl h) ⟨fun i j x y hi hj _ => ?_, fun k z hz => ?_⟩ (fun i j x y hi hj hxy => ?_)
      · have h1 : i < 1 := (List.getElem?_eq_some_iff.mp hi).1
        have h2 : j < 1 := (List.getElem?_eq_some_iff.mp hj).1
        omega
      · have hk0 : k < 1 := (List.getElem?_eq_some_iff.mp hz).1
        rw [show k = 0 by omega] at hz
        cases hz
        exact Or.inr rfl
      · have hk0 : j < 1 := (List.getElem?_eq_some_iff.mp hj).1
        rw [show j = 0 by omega] at hj
        cases hj
        obtain ⟨h1, h2⟩ := lw_in (xw_fst cs ad S2) hi
        exact hno ⟨i, h1, by rw [← h2, hxy]⟩
    refine lv_i2l hx hb dL_saying_8 rfl ?_
    refine va_last (ws := xw cs ad S2 ++ lO cs o f) hx hb hW.2.2.1 (va_P.app hW.1 hO2) hD1 hS1 48 4 rfl rfl (zin_of (i := 0) (n := 1) (by decide)) dL_saying_9 (fun H1 locs1 hP1 _ hS1 => ?_)
    have hP1 : va_P D vwCl (xw cs ad S2 ++ lO cs o (vp_updL f (0 : Int32).toNatClampNeg v.toInt64)) H1 := hP1
    refine lv_goto (tgt := 17) hx hb dL_saying_10 (by decide) ?_
    refine lv_iconst (v := 0) hx hb dL_saying_17 (by decide) ?_
    refine W.widen (k := 2) (n := 40) (by decide) (by decide) ?_
    exact W.iret hx hb hret (fun t ht _ => ⟨⟨0, (S2, vp_updL f (0 : Int32).toNatClampNeg v.toInt64), rfl, Or.inl ⟨v, hq, rfl, (by simp [vp_updL])⟩, by rw [ht]; exact va_left hP1, by rw [ht]; exact va_right hP1⟩, hS1.F ht⟩) hS1.2.2 dL_saying_18 hlk
  · refine vx_calli (vx_runV (C := RX11) (n := 2) (As := [.int a, .int b]) (rest := [.int 0, .ref o]) C.fix (x_saying (B := B) hst hbad) (cwV 2 C.fix.2.2.2.2 lk_L_7.good rfl rfl rfl lk_L_7.2.2.2.2.2 ⟨Nat.le_of_ble_eq_true rfl, Nat.le_of_ble_eq_true rfl⟩) ⟨zBT_blind1, hW.recv xr_0, fun U hU hw => ⟨rfl, hW.to hU hw, zTh_to (fun q _ _ => by rw [hU]) (Or.inl hw) hT⟩⟩ rfl rfl hl.1 rfl (lv_room (Nat.le_of_ble_eq_true rfl)) dL_saying_5 ⟨Nat.le_of_ble_eq_true rfl, Nat.le_of_ble_eq_true rfl⟩) (va_S.rf (A := xA ad)) (fun _ _ z => z) (fun _ z => z) (fun _ _ z => z) (fun E ce q9 u t H1 locs1 ht _ hp hBX hz hk hS1 hce hcv hcl => ?_) (fun r u t H1 locs1 ht _ hp hB _ _ _ => hp.elim)
    subst hp
    obtain ⟨rfl, hPx⟩ := hBX
    rw [ht] at hPx
    have hO2 : va_P D vwCl (lO cs o f) H1 := hO.kept fun k z hz => by
      have hk0 : k < 1 := (List.getElem?_eq_some_iff.mp hz).1
      rw [show k = 0 by omega] at hz
      cases hz
      exact hk o hol hno
    refine vx_catch (name := eN) hown { startPc := 0, endPc := 10, handlerPc := 13, catchType := 13 } [] htab (by decide) (by decide) (hts _ cll_13) (va_Nw.use rfl hT.2.1) hce hcv hcl ?_
    refine lv_astore (lv' := [(4, .ref q9), (0, .ref (ad 0)), (1, .int a), (2, .int b), (3, .ref o)]) hx hb dL_saying_13 hl (by decide) rfl (fun ls hl => ?_)
    refine lv_iconst (v := 1) hx hb dL_saying_15 (by decide) ?_
    refine W.widen (k := 2) (n := 40) (by decide) (by decide) ?_
    have hS2 : va_S (fun q => xA ad q ∨ q = o) s.heap H1 locs1 := ⟨hS1.1, fun z h1 h2 => hS1.2.1 z h1 (fun h3 => h2 (Or.inl h3)), fun z hz => Or.inl (hS1.2.2 z hz)⟩
    exact W.iret hx hb hret (fun t ht _ => ⟨⟨1, (u, f), rfl, Or.inr ⟨hbad, rfl, rfl, rfl⟩, by rw [ht]; exact hPx, by rw [ht]; exact hO2⟩, hS2.F ht⟩) hS2.2.2 dL_saying_16 hlk
set_option maxHeartbeats 4000000 in
set_option maxRecDepth 20000 in
theorem tr_saying {p : Program} {l : Launch} {e : Env} {s : State} {m : MethodId} {args : Array Value} {below : List Frame} {meth : Method} {c : Code} {Q : State → Prop} {F : Nat} (hst : l.stackTraces = false) (C : zC p s m args meth c code 7 RL ret) (hzT : zTh (lA s) s) (D : va_G) (cs ad am : Nat → Nat) (o : Nat) (a b : Int32) : lTr p l e s m args below meth c Q D cs ad am o 325 [.int a, .int b] (fun X => (∃ q, n_X11_saying_0 F X a b = some q) ∨ bad_saying X a b) (o_saying F a b) := by
  intro X M f H locs K N ls hW hpre hK hN hls kk
  have hno : ¬ xA ad o := by
    rintro ⟨j, hj, e9⟩
    obtain ⟨z, h1, h2⟩ := lw_has (xw_fst cs ad X) hj
    exact lw_apart hW.2.2.2.1 h1 (show (mw cs am M ++ lO cs o f)[23]? = some _ from rfl) (by rw [h2, ← e9])
  have hoA : lA s o := hW.2.2.2.1.2 71 _ rfl
  have hsub : ∀ q, (fun q => xA ad q ∨ q = o) q → lA s q := fun q h => h.elim (hW.subx q) (fun h => by rw [h]; exact hoA)
  refine va_calli (vx_runSW (As := [.ref (ad 0), .int a, .int b, .ref o]) (rest := []) C.fix (wr_saying (B := lA s) (F := F) (X := X) (f := f) hst hpre) (vx_cwSW 4 C.fix.2.2.2.2 ws_saying rfl rfl rfl (by decide +kernel) ⟨Nat.le_of_ble_eq_true rfl, Nat.le_of_ble_eq_true rfl⟩) ⟨zBT_blind (Y := fun h => va_P D vwCl (lO cs o f) h ∧ ¬ xA ad o), fun U hU hw => ⟨rfl, hW.x hU hw, zTh_to (fun q hq _ => by rw [hU]; exact hW.heap q hq) (Or.inl hw) hzT, by rw [hU]; exact hW.2.2.1, hno⟩⟩ rfl rfl hls rfl (lv_room (Nat.le_of_ble_eq_true rfl)) dL_law_325 ⟨Nat.le_trans (Nat.add_le_add_right hK 2) (by decide), Nat.le_trans (Nat.add_le_add_right hN 40) (by decide)⟩) hW.2.2.2.2.2.2 (fun q _ z => hsub q z) (fun q z => hsub q z) (fun k u t H1 locs1 ht _ hp hB _ hk hS => kk k u.1 u.2 H1 locs1 hp ?_)
  rw [ht] at hB
  refine ⟨hB.1, hW.2.1.kept fun k z hz => hk z.1 (hW.2.1 k z hz).lt ?_, hB.2, lw_addr (by simp only [List.map_append, xw_fst, mw_fst]; rfl) hW.2.2.2.1, hW.2.2.2.2.1, hW.2.2.2.2.2.1, hS⟩
  rintro (⟨j, hj, e9⟩ | e9)
  · obtain ⟨y9, h1, h2⟩ := lw_has (xw_fst cs ad X) hj
    have hl9 : k < (mw cs am M).length := (List.getElem?_eq_some_iff.mp hz).1
    exact lw_apart hW.2.2.2.1 h1 (by rw [List.getElem?_append_left hl9]; exact hz) (by rw [h2, ← e9])
  · exact lw_apart (lw_rightD hW.2.2.2.1) hz (show (lO cs o f)[0]? = some _ from rfl) e9
set_option maxHeartbeats 4000000 in
set_option maxRecDepth 20000 in
theorem wr_pleaded {l : Launch} (hst : l.stackTraces = false) {D : va_G} {cs ad : Nat → Nat} {B : Nat → Prop} {o F : Nat} {X : Zs} {f : Nat → Int64} {a b : Int32} (hpre : (∃ q, n_X11_pleaded_0 F X a b = some q) ∨ bad_pleaded X a b) : Met l yL_pleaded (Cond.codeWith yL_pleaded cL_pleaded 5 (some .int) [(0, 10, 13, 13)] :: lw_ok) { frames := 12, cells := 2, slots := 40, locals := 400 } (va_Pc [.ref (ad 0), .int a, .int b, .ref o] (fun U => zB (xG D cs ad) X U ∧ zTh B U ∧ va_P D vwCl (lO cs o f) U.heap ∧ ¬ xA ad o)) (va_Qi (fun k (u : Zs × (Nat → Int64)) => o_pleaded F a b X f k u.1 u.2) (fun u t => va_P D vwCl (xw cs ad u.1) t.heap ∧ va_P D vwCl (lO cs o u.2) t.heap) (fun q => xA ad q ∨ q = o)) 2 40 (fun q => xA ad q ∨ q = o) := by
  refine va_MetW (cc := cL_pleaded) (maxL := 5) (ret := some .int) (hh := [(0, 10, 13, 13)]) (by decide) rfl ?_
  intro p e s m args below meth c s₁ B9 hml hv
  obtain ⟨rfl, hB, hT, hO, hno⟩ := hv
  have hat := atoms_spec (ws := Cond.codeWith yL_pleaded cL_pleaded 5 (some .int) [(0, 10, 13, 13)] :: lw_ok) B9.pre
  have C : zC p s m ([.ref (ad 0), .int a, .int b, .ref o] : List Value).toArray meth c cL_pleaded 5 RL (some .int) := ⟨B9.exec, B9.bytes, hml, findClass_of_methodNamed B9.named, fun w hw => hat w (List.mem_cons_of_mem _ hw), B9.returns, B9.notSynchronized⟩
  have htab := vx_table (x := yL_law) B9 (hat _ List.mem_cons_self)
  obtain ⟨hx, hb, hml, hown, hts, hret, hlk⟩ := id C
  have hW := zW.start hB
  have hol : o < s.heap.size := (hO 0 _ rfl).lt
  have hl := lv_entry [.ref (ad 0), .int a, .int b, .ref o] (n := 5) (Nat.le_of_ble_eq_true rfl)
  rw [lg_entry_eq]
  generalize (lg_sl [.ref (ad 0), .int a, .int b, .ref o] ++ List.replicate (5 - (lg_sl [.ref (ad 0), .int a, .int b, .ref o]).length) Slot.unset).toArray = ls at hl ⊢
  have hl : lv_has ls 5 [(0, .ref (ad 0)), (1, .int a), (2, .int b), (3, .ref o)] := hl
  refine lv_aload_n hx hb dL_pleaded_0 rfl (lv_at hl 3 rfl) ?_
  refine lv_iconst (v := 0) hx hb dL_pleaded_1 (by decide) ?_
  refine lv_aload_n hx hb dL_pleaded_2 rfl (lv_at hl 0 rfl) ?_
  refine lv_iload_n hx hb dL_pleaded_3 rfl (lv_at hl 1 rfl) ?_
  refine lv_iload_n hx hb dL_pleaded_4 rfl (lv_at hl 2 rfl) ?_
  rcases hpre with ⟨q, hq⟩ | hbad
  · refine zz_callVi (d := n_X11_pleaded_0 F X a b) (f := fun v S2 => some (v, S2)) (q := q) (As := [.int a, .int b]) C hW (by rw [hq]; rfl) (fun r hr => c_X11_pleaded_0 hr) lk_L_15 (hW.recv xr_0) rfl hl.1 ⟨rfl, rfl⟩ ⟨Nat.le_of_ble_eq_true rfl, Nat.le_of_ble_eq_true rfl⟩ (Nat.le_of_ble_eq_true rfl) ⟨Nat.zero_le _, Nat.zero_le _⟩ rfl dL_pleaded_5 (fun v S2 H locs h hW => ?_)
    cases h
    have hS := hW.2.2.2.2.2
    have hO2 : va_P D vwCl (lO cs o f) H := hO.kept fun k z hz => by
      have hk0 : k < 1 := (List.getElem?_eq_some_iff.mp hz).1
      rw [show k = 0 by omega] at hz
      cases hz
      exact hS.2.1 o hol hno
    have hS1 : va_S (fun q => xA ad q ∨ q = o) s.heap H locs := ⟨hS.1, fun z h1 h2 => hS.2.1 z h1 (fun h3 => h2 (Or.inl h3)), fun z hz => Or.inl (hS.2.2 z hz)⟩
    have hD1 : va_D (fun q => xA ad q ∨ q = o) (xw cs ad S2 ++ lO cs o f) := by
      refine va_D.app (hW.2.1.weaken fun _ _ _ h => Or.inl h) ⟨fun i j x y hi hj _ => ?_, fun k z hz => ?_⟩ (fun i j x y hi hj hxy => ?_)
      · have h1 : i < 1 := (List.getElem?_eq_some_iff.mp hi).1
        have h2 : j < 1 := (List.getElem?_eq_some_iff.mp hj).1
        omega
      · have hk0 : k < 1 := (List.getElem?_eq_some_iff.mp hz).1
        rw [show k = 0 by omega] at hz
        cases hz
        exact Or.inr rfl
      · have hk0 : j < 1 := (List.getElem?_eq_some_iff.mp hj).1
        rw [show j = 0 by omega] at hj
        cases hj
        obtain ⟨h1, h2⟩ := lw_in (xw_fst cs ad S2) hi
        exact hno ⟨i, h1, by rw [← h2, hxy]⟩
    refine lv_i2l hx hb dL_pleaded_8 rfl ?_
    refine va_last (ws := xw cs ad S2 ++ lO cs o f) hx hb hW.2.2.1 (va_P.app hW.1 hO2) hD1 hS1 48 4 rfl rfl (zin_of (i := 0) (n := 1) (by decide)) dL_pleaded_9 (fun H1 locs1 hP1 _ hS1 => ?_)
    have hP1 : va_P D vwCl (xw cs ad S2 ++ lO cs o (vp_updL f (0 : Int32).toNatClampNeg v.toInt64)) H1 := hP1
    refine lv_goto (tgt := 17) hx hb dL_pleaded_10 (by decide) ?_
    refine lv_iconst (v := 0) hx hb dL_pleaded_17 (by decide) ?_
    refine W.widen (k := 2) (n := 40) (by decide) (by decide) ?_
    exact W.iret hx hb hret (fun t ht _ => ⟨⟨0, (S2, vp_updL f (0 : Int32).toNatClampNeg v.toInt64), rfl, Or.inl ⟨v, hq, rfl, (by simp [vp_updL])⟩, by rw [ht]; exact va_left hP1, by rw [ht]; exact va_right hP1⟩, hS1.F ht⟩) hS1.2.2 dL_pleaded_18 hlk
  · refine vx_calli (vx_runV (C := RX11) (n := 2) (As := [.int a, .int b]) (rest := [.int 0, .ref o]) C.fix (x_pleaded (B := B) hst hbad) (cwV 2 C.fix.2.2.2.2 lk_L_15.good rfl rfl rfl lk_L_15.2.2.2.2.2 ⟨Nat.le_of_ble_eq_true rfl, Nat.le_of_ble_eq_true rfl⟩) ⟨zBT_blind1, hW.recv xr_0, fun U hU hw => ⟨rfl, hW.to hU hw, zTh_to (fun q _ _ => by rw [hU]) (Or.inl hw) hT⟩⟩ rfl rfl hl.1 rfl (lv_room (Nat.le_of_ble_eq_true rfl)) dL_pleaded_5 ⟨Nat.le_of_ble_eq_true rfl, Nat.le_of_ble_eq_true rfl⟩) (va_S.rf (A := xA ad)) (fun _ _ z => z) (fun _ z => z) (fun _ _ z => z) (fun E ce q9 u t H1 locs1 ht _ hp hBX hz hk hS1 hce hcv hcl => ?_) (fun r u t H1 locs1 ht _ hp hB _ _ _ => hp.elim)
    subst hp
    obtain ⟨rfl, hPx⟩ := hBX
    rw [ht] at hPx
    have hO2 : va_P D vwCl (lO cs o f) H1 := hO.kept fun k z hz => by
      have hk0 : k < 1 := (List.getElem?_eq_some_iff.mp hz).1
      rw [show k = 0 by omega] at hz
      cases hz
      exact hk o hol hno
    refine vx_catch (name := eN) hown { startPc := 0, endPc := 10, handlerPc := 13, catchType := 13 } [] htab (by decide) (by decide) (hts _ cll_13) (va_Nw.use rfl hT.2.1) hce hcv hcl ?_
    refine lv_astore (lv' := [(4, .ref q9), (0, .ref (ad 0)), (1, .int a), (2, .int b), (3, .ref o)]) hx hb dL_pleaded_13 hl (by decide) rfl (fun ls hl => ?_)
    refine lv_iconst (v := 1) hx hb dL_pleaded_15 (by decide) ?_
    refine W.widen (k := 2) (n := 40) (by decide) (by decide) ?_
    have hS2 : va_S (fun q => xA ad q ∨ q = o) s.heap H1 locs1 := ⟨hS1.1, fun z h1 h2 => hS1.2.1 z h1 (fun h3 => h2 (Or.inl h3)), fun z hz => Or.inl (hS1.2.2 z hz)⟩
    exact W.iret hx hb hret (fun t ht _ => ⟨⟨1, (u, f), rfl, Or.inr ⟨hbad, rfl, rfl, rfl⟩, by rw [ht]; exact hPx, by rw [ht]; exact hO2⟩, hS2.F ht⟩) hS2.2.2 dL_pleaded_16 hlk
set_option maxHeartbeats 4000000 in
set_option maxRecDepth 20000 in
theorem tr_pleaded {p : Program} {l : Launch} {e : Env} {s : State} {m : MethodId} {args : Array Value} {below : List Frame} {meth : Method} {c : Code} {Q : State → Prop} {F : Nat} (hst : l.stackTraces = false) (C : zC p s m args meth c code 7 RL ret) (hzT : zTh (lA s) s) (D : va_G) (cs ad am : Nat → Nat) (o : Nat) (a b : Int32) : lTr p l e s m args below meth c Q D cs ad am o 1434 [.int a, .int b] (fun X => (∃ q, n_X11_pleaded_0 F X a b = some q) ∨ bad_pleaded X a b) (o_pleaded F a b) := by
  intro X M f H locs K N ls hW hpre hK hN hls kk
  have hno : ¬ xA ad o := by
    rintro ⟨j, hj, e9⟩
    obtain ⟨z, h1, h2⟩ := lw_has (xw_fst cs ad X) hj
    exact lw_apart hW.2.2.2.1 h1 (show (mw cs am M ++ lO cs o f)[23]? = some _ from rfl) (by rw [h2, ← e9])
  have hoA : lA s o := hW.2.2.2.1.2 71 _ rfl
  have hsub : ∀ q, (fun q => xA ad q ∨ q = o) q → lA s q := fun q h => h.elim (hW.subx q) (fun h => by rw [h]; exact hoA)
  refine va_calli (vx_runSW (As := [.ref (ad 0), .int a, .int b, .ref o]) (rest := []) C.fix (wr_pleaded (B := lA s) (F := F) (X := X) (f := f) hst hpre) (vx_cwSW 4 C.fix.2.2.2.2 ws_pleaded rfl rfl rfl (by decide +kernel) ⟨Nat.le_of_ble_eq_true rfl, Nat.le_of_ble_eq_true rfl⟩) ⟨zBT_blind (Y := fun h => va_P D vwCl (lO cs o f) h ∧ ¬ xA ad o), fun U hU hw => ⟨rfl, hW.x hU hw, zTh_to (fun q hq _ => by rw [hU]; exact hW.heap q hq) (Or.inl hw) hzT, by rw [hU]; exact hW.2.2.1, hno⟩⟩ rfl rfl hls rfl (lv_room (Nat.le_of_ble_eq_true rfl)) dL_law_1434 ⟨Nat.le_trans (Nat.add_le_add_right hK 2) (by decide), Nat.le_trans (Nat.add_le_add_right hN 40) (by decide)⟩) hW.2.2.2.2.2.2 (fun q _ z => hsub q z) (fun q z => hsub q z) (fun k u t H1 locs1 ht _ hp hB _ hk hS => kk k u.1 u.2 H1 locs1 hp ?_)
  rw [ht] at hB
  refine ⟨hB.1, hW.2.1.kept fun k z hz => hk z.1 (hW.2.1 k z hz).lt ?_, hB.2, lw_addr (by simp only [List.map_append, xw_fst, mw_fst]; rfl) hW.2.2.2.1, hW.2.2.2.2.1, hW.2.2.2.2.2.1, hS⟩
  rintro (⟨j, hj, e9⟩ | e9)
  · obtain ⟨y9, h1, h2⟩ := lw_has (xw_fst cs ad X) hj
    have hl9 : k < (mw cs am M).length := (List.getElem?_eq_some_iff.mp hz).1
    exact lw_apart hW.2.2.2.1 h1 (by rw [List.getElem?_append_left hl9]; exact hz) (by rw [h2, ← e9])
  · exact lw_apart (lw_rightD hW.2.2.2.1) hz (show (lO cs o f)[0]? = some _ from rfl) e9
set_option maxHeartbeats 4000000 in
set_option maxRecDepth 20000 in
theorem wr_row {l : Launch} (hst : l.stackTraces = false) {D : va_G} {cs ad : Nat → Nat} {B : Nat → Prop} {o F : Nat} {X : Zs} {f : Nat → Int64} {a : Int32} (hpre : (∃ q, n_X11_row_0 F X a = some q) ∨ bad_row X a) : Met l yL_row (Cond.codeWith yL_row cL_row 4 (some .int) [(0, 9, 12, 13)] :: lw_ok) { frames := 12, cells := 2, slots := 40, locals := 400 } (va_Pc [.ref (ad 0), .int a, .ref o] (fun U => zB (xG D cs ad) X U ∧ zTh B U ∧ va_P D vwCl (lO cs o f) U.heap ∧ ¬ xA ad o)) (va_Qi (fun k (u : Zs × (Nat → Int64)) => o_row F a X f k u.1 u.2) (fun u t => va_P D vwCl (xw cs ad u.1) t.heap ∧ va_P D vwCl (lO cs o u.2) t.heap) (fun q => xA ad q ∨ q = o)) 2 40 (fun q => xA ad q ∨ q = o) := by
  refine va_MetW (cc := cL_row) (maxL := 4) (ret := some .int) (hh := [(0, 9, 12, 13)]) (by decide) rfl ?_
  intro p e s m args below meth c s₁ B9 hml hv
  obtain ⟨rfl, hB, hT, hO, hno⟩ := hv
  have hat := atoms_spec (ws := Cond.codeWith yL_row cL_row 4 (some .int) [(0, 9, 12, 13)] :: lw_ok) B9.pre
  have C : zC p s m ([.ref (ad 0), .int a, .ref o] : List Value).toArray meth c cL_row 4 RL (some .int) := ⟨B9.exec, B9.bytes, hml, findClass_of_methodNamed B9.named, fun w hw => hat w (List.mem_cons_of_mem _ hw), B9.returns, B9.notSynchronized⟩
  have htab := vx_table (x := yL_law) B9 (hat _ List.mem_cons_self)
  obtain ⟨hx, hb, hml, hown, hts, hret, hlk⟩ := id C
  have hW := zW.start hB
  have hol : o < s.heap.size := (hO 0 _ rfl).lt
  have hl := lv_entry [.ref (ad 0), .int a, .ref o] (n := 4) (Nat.le_of_ble_eq_true rfl)
  rw [lg_entry_eq]
  generalize (lg_sl [.ref (ad 0), .int a, .ref o] ++ List.replicate (4 - (lg_sl [.ref (ad 0), .int a, .ref o]).length) Slot.unset).toArray = ls at hl ⊢
  have hl : lv_has ls 4 [(0, .ref (ad 0)), (1, .int a), (2, .ref o)] := hl
  refine lv_aload_n hx hb dL_row_0 rfl (lv_at hl 2 rfl) ?_
  refine lv_iconst (v := 0) hx hb dL_row_1 (by decide) ?_
  refine lv_aload_n hx hb dL_row_2 rfl (lv_at hl 0 rfl) ?_
  refine lv_iload_n hx hb dL_row_3 rfl (lv_at hl 1 rfl) ?_
  rcases hpre with ⟨q, hq⟩ | hbad
  · refine zz_callVi (d := n_X11_row_0 F X a) (f := fun v S2 => some (v, S2)) (q := q) (As := [.int a]) C hW (by rw [hq]; rfl) (fun r hr => c_X11_row_0 hr) lk_L_18 (hW.recv xr_0) rfl hl.1 ⟨rfl, rfl⟩ ⟨Nat.le_of_ble_eq_true rfl, Nat.le_of_ble_eq_true rfl⟩ (Nat.le_of_ble_eq_true rfl) ⟨Nat.zero_le _, Nat.zero_le _⟩ rfl dL_row_4 (fun v S2 H locs h hW => ?_)
    cases h
    have hS := hW.2.2.2.2.2
    have hO2 : va_P D vwCl (lO cs o f) H := hO.kept fun k z hz => by
      have hk0 : k < 1 := (List.getElem?_eq_some_iff.mp hz).1
      rw [show k = 0 by omega] at hz
      cases hz
      exact hS.2.1 o hol hno
    have hS1 : va_S (fun q => xA ad q ∨ q = o) s.heap H locs := ⟨hS.1, fun z h1 h2 => hS.2.1 z h1 (fun h3 => h2 (Or.inl h3)), fun z hz => Or.inl (hS.2.2 z hz)⟩
    have hD1 : va_D (fun q => xA ad q ∨ q = o) (xw cs ad S2 ++ lO cs o f) := by
      refine va_D.app (hW.2.1.weaken fun _ _ _ h => Or.inl h) ⟨fun i j x y hi hj _ => ?_, fun k z hz => ?_⟩ (fun i j x y hi hj hxy => ?_)
      · have h1 : i < 1 := (List.getElem?_eq_some_iff.mp hi).1
        have h2 : j < 1 := (List.getElem?_eq_some_iff.mp hj).1
        omega
      · have hk0 : k < 1 := (List.getElem?_eq_some_iff.mp hz).1
        rw [show k = 0 by omega] at hz
        cases hz
        exact Or.inr rfl
      · have hk0 : j < 1 := (List.getElem?_eq_some_iff.mp hj).1
        rw [show j = 0 by omega] at hj
        cases hj
        obtain ⟨h1, h2⟩ := lw_in (xw_fst cs ad S2) hi
        exact hno ⟨i, h1, by rw [← h2, hxy]⟩
    refine lv_i2l hx hb dL_row_7 rfl ?_
    refine va_last (ws := xw cs ad S2 ++ lO cs o f) hx hb hW.2.2.1 (va_P.app hW.1 hO2) hD1 hS1 48 4 rfl rfl (zin_of (i := 0) (n := 1) (by decide)) dL_row_8 (fun H1 locs1 hP1 _ hS1 => ?_)
    have hP1 : va_P D vwCl (xw cs ad S2 ++ lO cs o (vp_updL f (0 : Int32).toNatClampNeg v.toInt64)) H1 := hP1
    refine lv_goto (tgt := 15) hx hb dL_row_9 (by decide) ?_
    refine lv_iconst (v := 0) hx hb dL_row_15 (by decide) ?_
    refine W.widen (k := 2) (n := 40) (by decide) (by decide) ?_
    exact W.iret hx hb hret (fun t ht _ => ⟨⟨0, (S2, vp_updL f (0 : Int32).toNatClampNeg v.toInt64), rfl, Or.inl ⟨v, hq, rfl, (by simp [vp_updL])⟩, by rw [ht]; exact va_left hP1, by rw [ht]; exact va_right hP1⟩, hS1.F ht⟩) hS1.2.2 dL_row_16 hlk
  · refine vx_calli (vx_runV (C := RX11) (n := 1) (As := [.int a]) (rest := [.int 0, .ref o]) C.fix (x_row (B := B) hst hbad) (cwV 1 C.fix.2.2.2.2 lk_L_18.good rfl rfl rfl lk_L_18.2.2.2.2.2 ⟨Nat.le_of_ble_eq_true rfl, Nat.le_of_ble_eq_true rfl⟩) ⟨zBT_blind1, hW.recv xr_0, fun U hU hw => ⟨rfl, hW.to hU hw, zTh_to (fun q _ _ => by rw [hU]) (Or.inl hw) hT⟩⟩ rfl rfl hl.1 rfl (lv_room (Nat.le_of_ble_eq_true rfl)) dL_row_4 ⟨Nat.le_of_ble_eq_true rfl, Nat.le_of_ble_eq_true rfl⟩) (va_S.rf (A := xA ad)) (fun _ _ z => z) (fun _ z => z) (fun _ _ z => z) (fun E ce q9 u t H1 locs1 ht _ hp hBX hz hk hS1 hce hcv hcl => ?_) (fun r u t H1 locs1 ht _ hp hB _ _ _ => hp.elim)
    subst hp
    obtain ⟨rfl, hPx⟩ := hBX
    rw [ht] at hPx
    have hO2 : va_P D vwCl (lO cs o f) H1 := hO.kept fun k z hz => by
      have hk0 : k < 1 := (List.getElem?_eq_some_iff.mp hz).1
      rw [show k = 0 by omega] at hz
      cases hz
      exact hk o hol hno
    refine vx_catch (name := eN) hown { startPc := 0, endPc := 9, handlerPc := 12, catchType := 13 } [] htab (by decide) (by decide) (hts _ cll_13) (va_Nw.use rfl hT.2.1) hce hcv hcl ?_
    refine lv_astore_n (lv' := [(3, .ref q9), (0, .ref (ad 0)), (1, .int a), (2, .ref o)]) hx hb dL_row_12 rfl hl (by decide) rfl (fun ls hl => ?_)
    refine lv_iconst (v := 1) hx hb dL_row_13 (by decide) ?_
    refine W.widen (k := 2) (n := 40) (by decide) (by decide) ?_
    have hS2 : va_S (fun q => xA ad q ∨ q = o) s.heap H1 locs1 := ⟨hS1.1, fun z h1 h2 => hS1.2.1 z h1 (fun h3 => h2 (Or.inl h3)), fun z hz => Or.inl (hS1.2.2 z hz)⟩
    exact W.iret hx hb hret (fun t ht _ => ⟨⟨1, (u, f), rfl, Or.inr ⟨hbad, rfl, rfl, rfl⟩, by rw [ht]; exact hPx, by rw [ht]; exact hO2⟩, hS2.F ht⟩) hS2.2.2 dL_row_14 hlk
set_option maxHeartbeats 4000000 in
set_option maxRecDepth 20000 in
theorem tr_row {p : Program} {l : Launch} {e : Env} {s : State} {m : MethodId} {args : Array Value} {below : List Frame} {meth : Method} {c : Code} {Q : State → Prop} {F : Nat} (hst : l.stackTraces = false) (C : zC p s m args meth c code 7 RL ret) (hzT : zTh (lA s) s) (D : va_G) (cs ad am : Nat → Nat) (o : Nat) (a : Int32) : lTr p l e s m args below meth c Q D cs ad am o 1622 [.int a] (fun X => (∃ q, n_X11_row_0 F X a = some q) ∨ bad_row X a) (o_row F a) := by
  intro X M f H locs K N ls hW hpre hK hN hls kk
  have hno : ¬ xA ad o := by
    rintro ⟨j, hj, e9⟩
    obtain ⟨z, h1, h2⟩ := lw_has (xw_fst cs ad X) hj
    exact lw_apart hW.2.2.2.1 h1 (show (mw cs am M ++ lO cs o f)[23]? = some _ from rfl) (by rw [h2, ← e9])
  have hoA : lA s o := hW.2.2.2.1.2 71 _ rfl
  have hsub : ∀ q, (fun q => xA ad q ∨ q = o) q → lA s q := fun q h => h.elim (hW.subx q) (fun h => by rw [h]; exact hoA)
  refine va_calli (vx_runSW (As := [.ref (ad 0), .int a, .ref o]) (rest := []) C.fix (wr_row (B := lA s) (F := F) (X := X) (f := f) hst hpre) (vx_cwSW 3 C.fix.2.2.2.2 ws_row rfl rfl rfl (by decide +kernel) ⟨Nat.le_of_ble_eq_true rfl, Nat.le_of_ble_eq_true rfl⟩) ⟨zBT_blind (Y := fun h => va_P D vwCl (lO cs o f) h ∧ ¬ xA ad o), fun U hU hw => ⟨rfl, hW.x hU hw, zTh_to (fun q hq _ => by rw [hU]; exact hW.heap q hq) (Or.inl hw) hzT, by rw [hU]; exact hW.2.2.1, hno⟩⟩ rfl rfl hls rfl (lv_room (Nat.le_of_ble_eq_true rfl)) dL_law_1622 ⟨Nat.le_trans (Nat.add_le_add_right hK 2) (by decide), Nat.le_trans (Nat.add_le_add_right hN 40) (by decide)⟩) hW.2.2.2.2.2.2 (fun q _ z => hsub q z) (fun q z => hsub q z) (fun k u t H1 locs1 ht _ hp hB _ hk hS => kk k u.1 u.2 H1 locs1 hp ?_)
  rw [ht] at hB
  refine ⟨hB.1, hW.2.1.kept fun k z hz => hk z.1 (hW.2.1 k z hz).lt ?_, hB.2, lw_addr (by simp only [List.map_append, xw_fst, mw_fst]; rfl) hW.2.2.2.1, hW.2.2.2.2.1, hW.2.2.2.2.2.1, hS⟩
  rintro (⟨j, hj, e9⟩ | e9)
  · obtain ⟨y9, h1, h2⟩ := lw_has (xw_fst cs ad X) hj
    have hl9 : k < (mw cs am M).length := (List.getElem?_eq_some_iff.mp hz).1
    exact lw_apart hW.2.2.2.1 h1 (by rw [List.getElem?_append_left hl9]; exact hz) (by rw [h2, ← e9])
  · exact lw_apart (lw_rightD hW.2.2.2.1) hz (show (lO cs o f)[0]? = some _ from rfl) e9
