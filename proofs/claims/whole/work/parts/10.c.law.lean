section LWL
variable {p : Program} {l : Launch} {e : Env} {s : State} {m : MethodId} {below : List Frame} {meth : Method} {c : Code} {Q : State → Prop} {D : va_G} {cs ad am : Nat → Nat} {o b L i : Nat} {xs : Nat → Int32} {F : Nat} {Rel : Zs → Zs → Prop}
set_option maxHeartbeats 4000000 in
set_option maxRecDepth 20000 in
theorem lc_0 (hS : S_sign F Rel) (C : zC p s m #[Value.ref b] meth c code 7 RL ret) (hX : va_X b L xs s s.heap) (hbl : b < s.heap.size) (hi : i ≤ 320) (h1 : vp_in (nI i + 1) L) (h2 : vp_in (nI i + 2) L) (h3 : vp_in (nI i + 3) L) (h4 : vp_in (nI i + 4) L)  (nxt : ∀ (X M : Zs) (f : Nat → Int64) (H : Heap) (locs : List Loc) (K N : Nat) (ls : Array Slot), Rel X M → lW D cs ad am o s X M f H locs → K ≤ 1000 + 2 * (i + 5) → N ≤ 100000 + 40 * (i + 5) → lv_has ls 7 [(0, .ref b), (1, .ref (ad 0)), (2, .ref (am 0)), (3, .ref o), (4, .int (nI i))] → W p l e room_1 s m #[Value.ref b] below meth c H locs K N Q (F0 m 1670 ls [])) {X M : Zs} {f : Nat → Int64} {H : Heap} {locs : List Loc} {K N : Nat} {ls : Array Slot} (hR : Rel X M) (hW : lW D cs ad am o s X M f H locs) (hK : K ≤ 1000 + 2 * i) (hN : N ≤ 100000 + 40 * i) (hl : lv_has ls 7 [(0, .ref b), (1, .ref (ad 0)), (2, .ref (am 0)), (3, .ref o), (4, .int (nI i))]) : W p l e room_1 s m #[Value.ref b] below meth c H locs K N Q (F0 m 248 ls []) := by
  obtain ⟨hx, hb, hml, hown, hts, hret, hlk⟩ := id C
  have hbA : ¬ lA s b := Nat.not_le.mpr hbl
  have hK2 : K ≤ 2000 := by omega
  have hN2 : N ≤ 200000 := by omega
  refine lv_aload_n hx hb dL_law_248 rfl (lv_at hl 1 rfl) ?_
  refine lv_aload_n hx hb dL_law_249 rfl (lv_at hl 0 rfl) ?_
  refine lv_iload hx hb dL_law_250 (lv_at hl 4 rfl) ?_
  refine lv_iconst (v := 1) hx hb dL_law_252 (by decide) ?_
  refine lv_iadd hx hb dL_law_253 ?_
  refine va_sld hx hb hX hbl hbA hW.2.2.2.2.2.2 h1 dL_law_254 ?_
  obtain ⟨r, X2, M2, ex, em, hR2⟩ := hS X M hR (xs (nI i + 1).toNatClampNeg)
  refine lz_callx (As := [.int (xs (nI i + 1).toNatClampNeg)]) C hW (c_X11_sign_0 ex) lk_L_26 rfl hl.1 ⟨rfl, rfl⟩ ⟨Nat.le_of_ble_eq_true rfl, Nat.le_of_ble_eq_true rfl⟩ (Nat.le_of_ble_eq_true rfl) ⟨Nat.le_trans hK2 (by decide), Nat.le_trans hN2 (by decide)⟩ rfl dL_law_255 (fun H locs hW => ?_)
  refine lv_aload_n hx hb dL_law_258 rfl (lv_at hl 2 rfl) ?_
  refine lv_aload_n hx hb dL_law_259 rfl (lv_at hl 0 rfl) ?_
  refine lv_iload hx hb dL_law_260 (lv_at hl 4 rfl) ?_
  refine lv_iconst (v := 1) hx hb dL_law_262 (by decide) ?_
  refine lv_iadd hx hb dL_law_263 ?_
  refine va_sld hx hb hX hbl hbA hW.2.2.2.2.2.2 h1 dL_law_264 ?_
  refine lz_callm (As := [.int (xs (nI i + 1).toNatClampNeg)]) C hW (c_X12_sign_0 em) lk_L_29 rfl hl.1 ⟨rfl, rfl⟩ ⟨Nat.le_of_ble_eq_true rfl, Nat.le_of_ble_eq_true rfl⟩ (Nat.le_of_ble_eq_true rfl) ⟨Nat.le_trans hK2 (by decide), Nat.le_trans hN2 (by decide)⟩ rfl dL_law_265 (fun H locs hW => ?_)
  refine lv_icmp_eq (tgt := 1670) hx hb dL_law_268 (by decide) (fun _ => ?_) (fun g => absurd rfl g)
  exact nxt X2 M2 f H locs K N ls hR2 hW (by omega) (by omega) hl
set_option maxHeartbeats 4000000 in
set_option maxRecDepth 20000 in
theorem lc_1 (hS : S_end F Rel) (C : zC p s m #[Value.ref b] meth c code 7 RL ret) (hX : va_X b L xs s s.heap) (hbl : b < s.heap.size) (hi : i ≤ 320) (h1 : vp_in (nI i + 1) L) (h2 : vp_in (nI i + 2) L) (h3 : vp_in (nI i + 3) L) (h4 : vp_in (nI i + 4) L)  (nxt : ∀ (X M : Zs) (f : Nat → Int64) (H : Heap) (locs : List Loc) (K N : Nat) (ls : Array Slot), Rel X M → lW D cs ad am o s X M f H locs → K ≤ 1000 + 2 * (i + 5) → N ≤ 100000 + 40 * (i + 5) → lv_has ls 7 [(0, .ref b), (1, .ref (ad 0)), (2, .ref (am 0)), (3, .ref o), (4, .int (nI i))] → W p l e room_1 s m #[Value.ref b] below meth c H locs K N Q (F0 m 1670 ls [])) {X M : Zs} {f : Nat → Int64} {H : Heap} {locs : List Loc} {K N : Nat} {ls : Array Slot} (hR : Rel X M) (hW : lW D cs ad am o s X M f H locs) (hK : K ≤ 1000 + 2 * i) (hN : N ≤ 100000 + 40 * i) (hl : lv_has ls 7 [(0, .ref b), (1, .ref (ad 0)), (2, .ref (am 0)), (3, .ref o), (4, .int (nI i))]) : W p l e room_1 s m #[Value.ref b] below meth c H locs K N Q (F0 m 273 ls []) := by
  obtain ⟨hx, hb, hml, hown, hts, hret, hlk⟩ := id C
  have hbA : ¬ lA s b := Nat.not_le.mpr hbl
  have hK2 : K ≤ 2000 := by omega
  have hN2 : N ≤ 200000 := by omega
  refine lv_aload_n hx hb dL_law_273 rfl (lv_at hl 1 rfl) ?_
  refine lv_aload_n hx hb dL_law_274 rfl (lv_at hl 0 rfl) ?_
  refine lv_iload hx hb dL_law_275 (lv_at hl 4 rfl) ?_
  refine lv_iconst (v := 1) hx hb dL_law_277 (by decide) ?_
  refine lv_iadd hx hb dL_law_278 ?_
  refine va_sld hx hb hX hbl hbA hW.2.2.2.2.2.2 h1 dL_law_279 ?_
  obtain ⟨r, X2, M2, ex, em, hR2⟩ := hS X M hR (xs (nI i + 1).toNatClampNeg)
  refine lz_callx (As := [.int (xs (nI i + 1).toNatClampNeg)]) C hW (c_X11_end_0 ex) lk_L_30 rfl hl.1 ⟨rfl, rfl⟩ ⟨Nat.le_of_ble_eq_true rfl, Nat.le_of_ble_eq_true rfl⟩ (Nat.le_of_ble_eq_true rfl) ⟨Nat.le_trans hK2 (by decide), Nat.le_trans hN2 (by decide)⟩ rfl dL_law_280 (fun H locs hW => ?_)
  refine lv_aload_n hx hb dL_law_283 rfl (lv_at hl 2 rfl) ?_
  refine lv_aload_n hx hb dL_law_284 rfl (lv_at hl 0 rfl) ?_
  refine lv_iload hx hb dL_law_285 (lv_at hl 4 rfl) ?_
  refine lv_iconst (v := 1) hx hb dL_law_287 (by decide) ?_
  refine lv_iadd hx hb dL_law_288 ?_
  refine va_sld hx hb hX hbl hbA hW.2.2.2.2.2.2 h1 dL_law_289 ?_
  refine lz_callm (As := [.int (xs (nI i + 1).toNatClampNeg)]) C hW (c_X12_end_0 em) lk_L_34 rfl hl.1 ⟨rfl, rfl⟩ ⟨Nat.le_of_ble_eq_true rfl, Nat.le_of_ble_eq_true rfl⟩ (Nat.le_of_ble_eq_true rfl) ⟨Nat.le_trans hK2 (by decide), Nat.le_trans hN2 (by decide)⟩ rfl dL_law_290 (fun H locs hW => ?_)
  refine lv_icmp_eq (tgt := 1670) hx hb dL_law_293 (by decide) (fun _ => ?_) (fun g => absurd rfl g)
  exact nxt X2 M2 f H locs K N ls hR2 hW (by omega) (by omega) hl
set_option maxHeartbeats 4000000 in
set_option maxRecDepth 20000 in
theorem lc_2 (hS : S_told F Rel) (C : zC p s m #[Value.ref b] meth c code 7 RL ret) (hX : va_X b L xs s s.heap) (hbl : b < s.heap.size) (hi : i ≤ 320) (h1 : vp_in (nI i + 1) L) (h2 : vp_in (nI i + 2) L) (h3 : vp_in (nI i + 3) L) (h4 : vp_in (nI i + 4) L)  (nxt : ∀ (X M : Zs) (f : Nat → Int64) (H : Heap) (locs : List Loc) (K N : Nat) (ls : Array Slot), Rel X M → lW D cs ad am o s X M f H locs → K ≤ 1000 + 2 * (i + 5) → N ≤ 100000 + 40 * (i + 5) → lv_has ls 7 [(0, .ref b), (1, .ref (ad 0)), (2, .ref (am 0)), (3, .ref o), (4, .int (nI i))] → W p l e room_1 s m #[Value.ref b] below meth c H locs K N Q (F0 m 1670 ls [])) {X M : Zs} {f : Nat → Int64} {H : Heap} {locs : List Loc} {K N : Nat} {ls : Array Slot} (hR : Rel X M) (hW : lW D cs ad am o s X M f H locs) (hK : K ≤ 1000 + 2 * i) (hN : N ≤ 100000 + 40 * i) (hl : lv_has ls 7 [(0, .ref b), (1, .ref (ad 0)), (2, .ref (am 0)), (3, .ref o), (4, .int (nI i))]) : W p l e room_1 s m #[Value.ref b] below meth c H locs K N Q (F0 m 298 ls []) := by
  obtain ⟨hx, hb, hml, hown, hts, hret, hlk⟩ := id C
  have hbA : ¬ lA s b := Nat.not_le.mpr hbl
  have hK2 : K ≤ 2000 := by omega
  have hN2 : N ≤ 200000 := by omega
  refine lv_aload_n hx hb dL_law_298 rfl (lv_at hl 1 rfl) ?_
  obtain ⟨r, X2, M2, ex, em, hR2⟩ := hS X M hR 
  refine lz_callx (As := []) C hW (c_X11_told_0 ex) lk_L_35 rfl hl.1 ⟨rfl, rfl⟩ ⟨Nat.le_of_ble_eq_true rfl, Nat.le_of_ble_eq_true rfl⟩ (Nat.le_of_ble_eq_true rfl) ⟨Nat.le_trans hK2 (by decide), Nat.le_trans hN2 (by decide)⟩ rfl dL_law_299 (fun H locs hW => ?_)
  refine lv_aload_n hx hb dL_law_302 rfl (lv_at hl 2 rfl) ?_
  refine lz_callm (As := []) C hW (c_X12_told_0 em) lk_L_39 rfl hl.1 ⟨rfl, rfl⟩ ⟨Nat.le_of_ble_eq_true rfl, Nat.le_of_ble_eq_true rfl⟩ (Nat.le_of_ble_eq_true rfl) ⟨Nat.le_trans hK2 (by decide), Nat.le_trans hN2 (by decide)⟩ rfl dL_law_303 (fun H locs hW => ?_)
  refine lv_icmp_eq (tgt := 1670) hx hb dL_law_306 (by decide) (fun _ => ?_) (fun g => absurd rfl g)
  exact nxt X2 M2 f H locs K N ls hR2 hW (by omega) (by omega) hl
set_option maxHeartbeats 4000000 in
set_option maxRecDepth 20000 in
theorem lc_3 (hS : S_saying F Rel) (C : zC p s m #[Value.ref b] meth c code 7 RL ret) (hX : va_X b L xs s s.heap) (hbl : b < s.heap.size) (hi : i ≤ 320) (h1 : vp_in (nI i + 1) L) (h2 : vp_in (nI i + 2) L) (h3 : vp_in (nI i + 3) L) (h4 : vp_in (nI i + 4) L) (hT : ∀ a0 a1 : Int32, lTr p l e s m #[Value.ref b] below meth c Q D cs ad am o 325 [.int a0, .int a1] (fun X => (∃ q, n_X11_saying_0 F X a0 a1 = some q) ∨ bad_saying X a0 a1) (o_saying F a0 a1)) (nxt : ∀ (X M : Zs) (f : Nat → Int64) (H : Heap) (locs : List Loc) (K N : Nat) (ls : Array Slot), Rel X M → lW D cs ad am o s X M f H locs → K ≤ 1000 + 2 * (i + 5) → N ≤ 100000 + 40 * (i + 5) → lv_has ls 7 [(0, .ref b), (1, .ref (ad 0)), (2, .ref (am 0)), (3, .ref o), (4, .int (nI i))] → W p l e room_1 s m #[Value.ref b] below meth c H locs K N Q (F0 m 1670 ls [])) {X M : Zs} {f : Nat → Int64} {H : Heap} {locs : List Loc} {K N : Nat} {ls : Array Slot} (hR : Rel X M) (hW : lW D cs ad am o s X M f H locs) (hK : K ≤ 1000 + 2 * i) (hN : N ≤ 100000 + 40 * i) (hl : lv_has ls 7 [(0, .ref b), (1, .ref (ad 0)), (2, .ref (am 0)), (3, .ref o), (4, .int (nI i))]) : W p l e room_1 s m #[Value.ref b] below meth c H locs K N Q (F0 m 311 ls []) := by
  obtain ⟨hx, hb, hml, hown, hts, hret, hlk⟩ := id C
  have hbA : ¬ lA s b := Nat.not_le.mpr hbl
  have hK2 : K ≤ 2000 := by omega
  have hN2 : N ≤ 200000 := by omega
  refine lv_aload_n hx hb dL_law_311 rfl (lv_at hl 1 rfl) ?_
  refine lv_aload_n hx hb dL_law_312 rfl (lv_at hl 0 rfl) ?_
  refine lv_iload hx hb dL_law_313 (lv_at hl 4 rfl) ?_
  refine lv_iconst (v := 1) hx hb dL_law_315 (by decide) ?_
  refine lv_iadd hx hb dL_law_316 ?_
  refine va_sld hx hb hX hbl hbA hW.2.2.2.2.2.2 h1 dL_law_317 ?_
  refine lv_aload_n hx hb dL_law_318 rfl (lv_at hl 0 rfl) ?_
  refine lv_iload hx hb dL_law_319 (lv_at hl 4 rfl) ?_
  refine lv_iconst (v := 2) hx hb dL_law_321 (by decide) ?_
  refine lv_iadd hx hb dL_law_322 ?_
  refine va_sld hx hb hX hbl hbA hW.2.2.2.2.2.2 h2 dL_law_323 ?_
  refine lv_aload_n hx hb dL_law_324 rfl (lv_at hl 3 rfl) ?_
  obtain ⟨r, M2, em, hcs⟩ := hS X M hR (xs (nI i + 1).toNatClampNeg) (xs (nI i + 2).toNatClampNeg)
  refine hT (xs (nI i + 1).toNatClampNeg) (xs (nI i + 2).toNatClampNeg) X M f H locs K N ls hW (hcs.elim (fun h => Or.inl ⟨_, h.choose_spec.1⟩) (fun h => Or.inr h.2.1)) hK2 hN2 hl.1 (fun k X2 f2 H locs ho hW => ?_)
  have hK2 : K + 2 ≤ 2002 := by omega
  have hN2 : N + 40 ≤ 200040 := by omega
  refine lv_istore (lv' := [(5, .int k), (0, .ref b), (1, .ref (ad 0)), (2, .ref (am 0)), (3, .ref o), (4, .int (nI i))]) hx hb dL_law_328 hl (by decide) rfl (fun ls hl => ?_)
  refine lv_aload_n hx hb dL_law_330 rfl (lv_at hl 3 rfl) ?_
  refine lv_aload_n hx hb dL_law_331 rfl (lv_at hl 1 rfl) ?_
  refine lv_iload hx hb dL_law_332 (lv_at hl 5 rfl) ?_
  refine lv_iconst (v := 1) hx hb dL_law_334 (by decide) ?_
  refine lv_iadd hx hb dL_law_335 ?_
  refine va_sld hx hb hX hbl hbA hW.2.2.2.2.2.2 h1 dL_law_336 ?_
  refine lv_aload_n hx hb dL_law_337 rfl (lv_at hl 1 rfl) ?_
  refine lv_iload hx hb dL_law_338 (lv_at hl 5 rfl) ?_
  refine lv_iconst (v := 2) hx hb dL_law_340 (by decide) ?_
  refine lv_iadd hx hb dL_law_341 ?_
  refine va_sld hx hb hX hbl hbA hW.2.2.2.2.2.2 h2 dL_law_342 ?_
  refine lz_callm (As := [.int (xs (nI i + 1).toNatClampNeg), .int (xs (nI i + 2).toNatClampNeg)]) C hW (c_X12_saying_0 em) lk_L_45 rfl hl.1 ⟨rfl, rfl⟩ ⟨Nat.le_of_ble_eq_true rfl, Nat.le_of_ble_eq_true rfl⟩ (Nat.le_of_ble_eq_true rfl) ⟨Nat.le_trans hK2 (by decide), Nat.le_trans hN2 (by decide)⟩ rfl dL_law_343 (fun H locs hW => ?_)
  refine lv_istore (lv' := [(6, .int r), (5, .int k), (0, .ref b), (1, .ref (ad 0)), (2, .ref (am 0)), (3, .ref o), (4, .int (nI i))]) hx hb dL_law_346 hl (by decide) rfl (fun ls hl => ?_)
  refine lv_aload_n hx hb dL_law_348 rfl (lv_at hl 4 rfl) ?_
  refine lz_callm (As := []) C hW (c_X12_thrown_0 (F := F) (S := M2) (q := (M2.1 0 0, M2)) rfl) lk_L_46 rfl hl.1 ⟨rfl, rfl⟩ ⟨Nat.le_of_ble_eq_true rfl, Nat.le_of_ble_eq_true rfl⟩ (Nat.le_of_ble_eq_true rfl) ⟨Nat.le_trans hK2 (by decide), Nat.le_trans hN2 (by decide)⟩ rfl dL_law_349 (fun H locs hW => ?_)
  refine lv_iload hx hb dL_law_352 (lv_at hl 1 rfl) ?_
  rcases ho with ⟨r2, ex, rfl, hf⟩ | ⟨hbad, hk1, hX2, hf2⟩
  · rcases hcs with ⟨X3, ex3, hnb, hth, hR2⟩ | ⟨ex3, hbad, hth, hR2⟩
    · rw [ex] at ex3
      cases ex3
      refine lv_icmp_eq (tgt := 359) hx hb dL_law_354 (by decide) (fun _ => ?_) (fun g => absurd hth g)
      refine lv_iload hx hb dL_law_359 (lv_at hl 1 rfl) ?_
      refine lv_if_ne (tgt := 376) hx hb dL_law_361 (by decide) (fun g => absurd rfl g) (fun _ => ?_)
      refine lv_aload_n hx hb dL_law_364 rfl (lv_at hl 5 rfl) ?_
      refine lv_iconst (v := 0) hx hb dL_law_365 (by decide) ?_
      refine va_lald (f := f2) hx hb hW.2.2.2.2.1 hW.2.2.1 0 4 rfl rfl (zin_of (i := 0) (n := 1) (by decide)) dL_law_366 ?_
      refine lv_iload hx hb dL_law_367 (lv_at hl 0 rfl) ?_
      refine lv_i2l hx hb dL_law_369 rfl ?_
      refine W.lcmp hx hb dL_law_370 ?_
      refine lv_if_eq (tgt := 376) hx hb dL_law_371 (by decide) (fun _ => ?_) (fun g => absurd (by rw [hf]; exact lg_cmp_self _) g)
      refine lv_goto (tgt := 1670) hx hb dL_law_376 (by decide) ?_
      exact nxt _ _ _ H locs (K + 2) (N + 40) ls hR2 hW (by omega) (by omega) (lv_sub hl [2, 3, 4, 5, 6] rfl)
    · rw [ex] at ex3; cases ex3
  · rcases hcs with ⟨X3, ex3, hnb, hth, hR2⟩ | ⟨ex3, hbad2, hth, hR2⟩
    · exact absurd hbad hnb
    · refine lv_icmp_eq (tgt := 359) hx hb dL_law_354 (by decide) (fun _ => ?_) (fun g => absurd (hth.trans hk1.symm) g)
      refine lv_iload hx hb dL_law_359 (lv_at hl 1 rfl) ?_
      refine lv_if_ne (tgt := 376) hx hb dL_law_361 (by decide) (fun _ => ?_) (fun g => absurd g (by rw [hk1]; decide))
      refine lv_goto (tgt := 1670) hx hb dL_law_376 (by decide) ?_
      exact nxt _ _ _ H locs (K + 2) (N + 40) ls (by rw [hX2]; exact hR2) hW (by omega) (by omega) (lv_sub hl [2, 3, 4, 5, 6] rfl)
set_option maxHeartbeats 4000000 in
set_option maxRecDepth 20000 in
theorem lc_4 (hS : S_mark F Rel) (C : zC p s m #[Value.ref b] meth c code 7 RL ret) (hX : va_X b L xs s s.heap) (hbl : b < s.heap.size) (hi : i ≤ 320) (h1 : vp_in (nI i + 1) L) (h2 : vp_in (nI i + 2) L) (h3 : vp_in (nI i + 3) L) (h4 : vp_in (nI i + 4) L)  (nxt : ∀ (X M : Zs) (f : Nat → Int64) (H : Heap) (locs : List Loc) (K N : Nat) (ls : Array Slot), Rel X M → lW D cs ad am o s X M f H locs → K ≤ 1000 + 2 * (i + 5) → N ≤ 100000 + 40 * (i + 5) → lv_has ls 7 [(0, .ref b), (1, .ref (ad 0)), (2, .ref (am 0)), (3, .ref o), (4, .int (nI i))] → W p l e room_1 s m #[Value.ref b] below meth c H locs K N Q (F0 m 1670 ls [])) {X M : Zs} {f : Nat → Int64} {H : Heap} {locs : List Loc} {K N : Nat} {ls : Array Slot} (hR : Rel X M) (hW : lW D cs ad am o s X M f H locs) (hK : K ≤ 1000 + 2 * i) (hN : N ≤ 100000 + 40 * i) (hl : lv_has ls 7 [(0, .ref b), (1, .ref (ad 0)), (2, .ref (am 0)), (3, .ref o), (4, .int (nI i))]) : W p l e room_1 s m #[Value.ref b] below meth c H locs K N Q (F0 m 379 ls []) := by
  obtain ⟨hx, hb, hml, hown, hts, hret, hlk⟩ := id C
  have hbA : ¬ lA s b := Nat.not_le.mpr hbl
  have hK2 : K ≤ 2000 := by omega
  have hN2 : N ≤ 200000 := by omega
  refine lv_aload_n hx hb dL_law_379 rfl (lv_at hl 1 rfl) ?_
  refine lv_aload_n hx hb dL_law_380 rfl (lv_at hl 0 rfl) ?_
  refine lv_iload hx hb dL_law_381 (lv_at hl 4 rfl) ?_
  refine lv_iconst (v := 1) hx hb dL_law_383 (by decide) ?_
  refine lv_iadd hx hb dL_law_384 ?_
  refine va_sld hx hb hX hbl hbA hW.2.2.2.2.2.2 h1 dL_law_385 ?_
  refine lv_aload_n hx hb dL_law_386 rfl (lv_at hl 0 rfl) ?_
  refine lv_iload hx hb dL_law_387 (lv_at hl 4 rfl) ?_
  refine lv_iconst (v := 2) hx hb dL_law_389 (by decide) ?_
  refine lv_iadd hx hb dL_law_390 ?_
  refine va_sld hx hb hX hbl hbA hW.2.2.2.2.2.2 h2 dL_law_391 ?_
  refine lv_aload_n hx hb dL_law_392 rfl (lv_at hl 0 rfl) ?_
  refine lv_iload hx hb dL_law_393 (lv_at hl 4 rfl) ?_
  refine lv_iconst (v := 3) hx hb dL_law_395 (by decide) ?_
  refine lv_iadd hx hb dL_law_396 ?_
  refine va_sld hx hb hX hbl hbA hW.2.2.2.2.2.2 h3 dL_law_397 ?_
  refine lz_bool C dL_law_398 dL_law_401 dL_law_402 dL_law_405 ?_
  obtain ⟨r, X2, M2, ex, em, hR2⟩ := hS X M hR (xs (nI i + 1).toNatClampNeg) (xs (nI i + 2).toNatClampNeg) (lB (xs (nI i + 3).toNatClampNeg))
  refine lz_callx (As := [.int (xs (nI i + 1).toNatClampNeg), .int (xs (nI i + 2).toNatClampNeg), .int (lB (xs (nI i + 3).toNatClampNeg))]) C hW (c_X11_mark_0 ex) lk_L_49 rfl hl.1 ⟨rfl, rfl⟩ ⟨Nat.le_of_ble_eq_true rfl, Nat.le_of_ble_eq_true rfl⟩ (Nat.le_of_ble_eq_true rfl) ⟨Nat.le_trans hK2 (by decide), Nat.le_trans hN2 (by decide)⟩ rfl dL_law_406 (fun H locs hW => ?_)
  refine lv_aload_n hx hb dL_law_409 rfl (lv_at hl 2 rfl) ?_
  refine lv_aload_n hx hb dL_law_410 rfl (lv_at hl 0 rfl) ?_
  refine lv_iload hx hb dL_law_411 (lv_at hl 4 rfl) ?_
  refine lv_iconst (v := 1) hx hb dL_law_413 (by decide) ?_
  refine lv_iadd hx hb dL_law_414 ?_
  refine va_sld hx hb hX hbl hbA hW.2.2.2.2.2.2 h1 dL_law_415 ?_
  refine lv_aload_n hx hb dL_law_416 rfl (lv_at hl 0 rfl) ?_
  refine lv_iload hx hb dL_law_417 (lv_at hl 4 rfl) ?_
  refine lv_iconst (v := 2) hx hb dL_law_419 (by decide) ?_
  refine lv_iadd hx hb dL_law_420 ?_
  refine va_sld hx hb hX hbl hbA hW.2.2.2.2.2.2 h2 dL_law_421 ?_
  refine lv_aload_n hx hb dL_law_422 rfl (lv_at hl 0 rfl) ?_
  refine lv_iload hx hb dL_law_423 (lv_at hl 4 rfl) ?_
  refine lv_iconst (v := 3) hx hb dL_law_425 (by decide) ?_
  refine lv_iadd hx hb dL_law_426 ?_
  refine va_sld hx hb hX hbl hbA hW.2.2.2.2.2.2 h3 dL_law_427 ?_
  refine lz_bool C dL_law_428 dL_law_431 dL_law_432 dL_law_435 ?_
  refine lz_callm (As := [.int (xs (nI i + 1).toNatClampNeg), .int (xs (nI i + 2).toNatClampNeg), .int (lB (xs (nI i + 3).toNatClampNeg))]) C hW (c_X12_mark_0 em) lk_L_53 rfl hl.1 ⟨rfl, rfl⟩ ⟨Nat.le_of_ble_eq_true rfl, Nat.le_of_ble_eq_true rfl⟩ (Nat.le_of_ble_eq_true rfl) ⟨Nat.le_trans hK2 (by decide), Nat.le_trans hN2 (by decide)⟩ rfl dL_law_436 (fun H locs hW => ?_)
  refine lv_icmp_eq (tgt := 1670) hx hb dL_law_439 (by decide) (fun _ => ?_) (fun g => absurd rfl g)
  exact nxt X2 M2 f H locs K N ls hR2 hW (by omega) (by omega) hl
set_option maxHeartbeats 4000000 in
set_option maxRecDepth 20000 in
theorem lc_5 (hS : S_lives F Rel) (C : zC p s m #[Value.ref b] meth c code 7 RL ret) (hX : va_X b L xs s s.heap) (hbl : b < s.heap.size) (hi : i ≤ 320) (h1 : vp_in (nI i + 1) L) (h2 : vp_in (nI i + 2) L) (h3 : vp_in (nI i + 3) L) (h4 : vp_in (nI i + 4) L)  (nxt : ∀ (X M : Zs) (f : Nat → Int64) (H : Heap) (locs : List Loc) (K N : Nat) (ls : Array Slot), Rel X M → lW D cs ad am o s X M f H locs → K ≤ 1000 + 2 * (i + 5) → N ≤ 100000 + 40 * (i + 5) → lv_has ls 7 [(0, .ref b), (1, .ref (ad 0)), (2, .ref (am 0)), (3, .ref o), (4, .int (nI i))] → W p l e room_1 s m #[Value.ref b] below meth c H locs K N Q (F0 m 1670 ls [])) {X M : Zs} {f : Nat → Int64} {H : Heap} {locs : List Loc} {K N : Nat} {ls : Array Slot} (hR : Rel X M) (hW : lW D cs ad am o s X M f H locs) (hK : K ≤ 1000 + 2 * i) (hN : N ≤ 100000 + 40 * i) (hl : lv_has ls 7 [(0, .ref b), (1, .ref (ad 0)), (2, .ref (am 0)), (3, .ref o), (4, .int (nI i))]) : W p l e room_1 s m #[Value.ref b] below meth c H locs K N Q (F0 m 444 ls []) := by
  obtain ⟨hx, hb, hml, hown, hts, hret, hlk⟩ := id C
  have hbA : ¬ lA s b := Nat.not_le.mpr hbl
  have hK2 : K ≤ 2000 := by omega
  have hN2 : N ≤ 200000 := by omega
  refine lv_aload_n hx hb dL_law_444 rfl (lv_at hl 1 rfl) ?_
  refine lv_aload_n hx hb dL_law_445 rfl (lv_at hl 0 rfl) ?_
  refine lv_iload hx hb dL_law_446 (lv_at hl 4 rfl) ?_
  refine lv_iconst (v := 1) hx hb dL_law_448 (by decide) ?_
  refine lv_iadd hx hb dL_law_449 ?_
  refine va_sld hx hb hX hbl hbA hW.2.2.2.2.2.2 h1 dL_law_450 ?_
  refine lv_aload_n hx hb dL_law_451 rfl (lv_at hl 0 rfl) ?_
  refine lv_iload hx hb dL_law_452 (lv_at hl 4 rfl) ?_
  refine lv_iconst (v := 2) hx hb dL_law_454 (by decide) ?_
  refine lv_iadd hx hb dL_law_455 ?_
  refine va_sld hx hb hX hbl hbA hW.2.2.2.2.2.2 h2 dL_law_456 ?_
  refine lz_bool C dL_law_457 dL_law_460 dL_law_461 dL_law_464 ?_
  obtain ⟨r, X2, M2, ex, em, hR2⟩ := hS X M hR (xs (nI i + 1).toNatClampNeg) (lB (xs (nI i + 2).toNatClampNeg))
  refine lz_callx (As := [.int (xs (nI i + 1).toNatClampNeg), .int (lB (xs (nI i + 2).toNatClampNeg))]) C hW (c_X11_lives_0 ex) lk_L_54 rfl hl.1 ⟨rfl, rfl⟩ ⟨Nat.le_of_ble_eq_true rfl, Nat.le_of_ble_eq_true rfl⟩ (Nat.le_of_ble_eq_true rfl) ⟨Nat.le_trans hK2 (by decide), Nat.le_trans hN2 (by decide)⟩ rfl dL_law_465 (fun H locs hW => ?_)
  refine lv_aload_n hx hb dL_law_468 rfl (lv_at hl 2 rfl) ?_
  refine lv_aload_n hx hb dL_law_469 rfl (lv_at hl 0 rfl) ?_
  refine lv_iload hx hb dL_law_470 (lv_at hl 4 rfl) ?_
  refine lv_iconst (v := 1) hx hb dL_law_472 (by decide) ?_
  refine lv_iadd hx hb dL_law_473 ?_
  refine va_sld hx hb hX hbl hbA hW.2.2.2.2.2.2 h1 dL_law_474 ?_
  refine lv_aload_n hx hb dL_law_475 rfl (lv_at hl 0 rfl) ?_
  refine lv_iload hx hb dL_law_476 (lv_at hl 4 rfl) ?_
  refine lv_iconst (v := 2) hx hb dL_law_478 (by decide) ?_
  refine lv_iadd hx hb dL_law_479 ?_
  refine va_sld hx hb hX hbl hbA hW.2.2.2.2.2.2 h2 dL_law_480 ?_
  refine lz_bool C dL_law_481 dL_law_484 dL_law_485 dL_law_488 ?_
  refine lz_callm (As := [.int (xs (nI i + 1).toNatClampNeg), .int (lB (xs (nI i + 2).toNatClampNeg))]) C hW (c_X12_lives_0 em) lk_L_58 rfl hl.1 ⟨rfl, rfl⟩ ⟨Nat.le_of_ble_eq_true rfl, Nat.le_of_ble_eq_true rfl⟩ (Nat.le_of_ble_eq_true rfl) ⟨Nat.le_trans hK2 (by decide), Nat.le_trans hN2 (by decide)⟩ rfl dL_law_489 (fun H locs hW => ?_)
  refine lv_icmp_eq (tgt := 1670) hx hb dL_law_492 (by decide) (fun _ => ?_) (fun g => absurd rfl g)
  exact nxt X2 M2 f H locs K N ls hR2 hW (by omega) (by omega) hl
set_option maxHeartbeats 4000000 in
set_option maxRecDepth 20000 in
theorem lc_6 (hS : S_want F Rel) (C : zC p s m #[Value.ref b] meth c code 7 RL ret) (hX : va_X b L xs s s.heap) (hbl : b < s.heap.size) (hi : i ≤ 320) (h1 : vp_in (nI i + 1) L) (h2 : vp_in (nI i + 2) L) (h3 : vp_in (nI i + 3) L) (h4 : vp_in (nI i + 4) L)  (nxt : ∀ (X M : Zs) (f : Nat → Int64) (H : Heap) (locs : List Loc) (K N : Nat) (ls : Array Slot), Rel X M → lW D cs ad am o s X M f H locs → K ≤ 1000 + 2 * (i + 5) → N ≤ 100000 + 40 * (i + 5) → lv_has ls 7 [(0, .ref b), (1, .ref (ad 0)), (2, .ref (am 0)), (3, .ref o), (4, .int (nI i))] → W p l e room_1 s m #[Value.ref b] below meth c H locs K N Q (F0 m 1670 ls [])) {X M : Zs} {f : Nat → Int64} {H : Heap} {locs : List Loc} {K N : Nat} {ls : Array Slot} (hR : Rel X M) (hW : lW D cs ad am o s X M f H locs) (hK : K ≤ 1000 + 2 * i) (hN : N ≤ 100000 + 40 * i) (hl : lv_has ls 7 [(0, .ref b), (1, .ref (ad 0)), (2, .ref (am 0)), (3, .ref o), (4, .int (nI i))]) : W p l e room_1 s m #[Value.ref b] below meth c H locs K N Q (F0 m 497 ls []) := by
  obtain ⟨hx, hb, hml, hown, hts, hret, hlk⟩ := id C
  have hbA : ¬ lA s b := Nat.not_le.mpr hbl
  have hK2 : K ≤ 2000 := by omega
  have hN2 : N ≤ 200000 := by omega
  refine lv_aload_n hx hb dL_law_497 rfl (lv_at hl 1 rfl) ?_
  refine lv_aload_n hx hb dL_law_498 rfl (lv_at hl 0 rfl) ?_
  refine lv_iload hx hb dL_law_499 (lv_at hl 4 rfl) ?_
  refine lv_iconst (v := 1) hx hb dL_law_501 (by decide) ?_
  refine lv_iadd hx hb dL_law_502 ?_
  refine va_sld hx hb hX hbl hbA hW.2.2.2.2.2.2 h1 dL_law_503 ?_
  obtain ⟨r, X2, M2, ex, em, hR2⟩ := hS X M hR (xs (nI i + 1).toNatClampNeg)
  refine lz_callx (As := [.int (xs (nI i + 1).toNatClampNeg)]) C hW (c_X11_want_0 ex) lk_L_59 rfl hl.1 ⟨rfl, rfl⟩ ⟨Nat.le_of_ble_eq_true rfl, Nat.le_of_ble_eq_true rfl⟩ (Nat.le_of_ble_eq_true rfl) ⟨Nat.le_trans hK2 (by decide), Nat.le_trans hN2 (by decide)⟩ rfl dL_law_504 (fun H locs hW => ?_)
  refine lv_aload_n hx hb dL_law_507 rfl (lv_at hl 2 rfl) ?_
  refine lv_aload_n hx hb dL_law_508 rfl (lv_at hl 0 rfl) ?_
  refine lv_iload hx hb dL_law_509 (lv_at hl 4 rfl) ?_
  refine lv_iconst (v := 1) hx hb dL_law_511 (by decide) ?_
  refine lv_iadd hx hb dL_law_512 ?_
  refine va_sld hx hb hX hbl hbA hW.2.2.2.2.2.2 h1 dL_law_513 ?_
  refine lz_callm (As := [.int (xs (nI i + 1).toNatClampNeg)]) C hW (c_X12_want_0 em) lk_L_62 rfl hl.1 ⟨rfl, rfl⟩ ⟨Nat.le_of_ble_eq_true rfl, Nat.le_of_ble_eq_true rfl⟩ (Nat.le_of_ble_eq_true rfl) ⟨Nat.le_trans hK2 (by decide), Nat.le_trans hN2 (by decide)⟩ rfl dL_law_514 (fun H locs hW => ?_)
  refine lv_icmp_eq (tgt := 1670) hx hb dL_law_517 (by decide) (fun _ => ?_) (fun g => absurd rfl g)
  exact nxt X2 M2 f H locs K N ls hR2 hW (by omega) (by omega) hl
set_option maxHeartbeats 4000000 in
set_option maxRecDepth 20000 in
theorem lc_7 (hS : S_forget F Rel) (C : zC p s m #[Value.ref b] meth c code 7 RL ret) (hX : va_X b L xs s s.heap) (hbl : b < s.heap.size) (hi : i ≤ 320) (h1 : vp_in (nI i + 1) L) (h2 : vp_in (nI i + 2) L) (h3 : vp_in (nI i + 3) L) (h4 : vp_in (nI i + 4) L)  (nxt : ∀ (X M : Zs) (f : Nat → Int64) (H : Heap) (locs : List Loc) (K N : Nat) (ls : Array Slot), Rel X M → lW D cs ad am o s X M f H locs → K ≤ 1000 + 2 * (i + 5) → N ≤ 100000 + 40 * (i + 5) → lv_has ls 7 [(0, .ref b), (1, .ref (ad 0)), (2, .ref (am 0)), (3, .ref o), (4, .int (nI i))] → W p l e room_1 s m #[Value.ref b] below meth c H locs K N Q (F0 m 1670 ls [])) {X M : Zs} {f : Nat → Int64} {H : Heap} {locs : List Loc} {K N : Nat} {ls : Array Slot} (hR : Rel X M) (hW : lW D cs ad am o s X M f H locs) (hK : K ≤ 1000 + 2 * i) (hN : N ≤ 100000 + 40 * i) (hl : lv_has ls 7 [(0, .ref b), (1, .ref (ad 0)), (2, .ref (am 0)), (3, .ref o), (4, .int (nI i))]) : W p l e room_1 s m #[Value.ref b] below meth c H locs K N Q (F0 m 522 ls []) := by
  obtain ⟨hx, hb, hml, hown, hts, hret, hlk⟩ := id C
  have hbA : ¬ lA s b := Nat.not_le.mpr hbl
  have hK2 : K ≤ 2000 := by omega
  have hN2 : N ≤ 200000 := by omega
  refine lv_aload_n hx hb dL_law_522 rfl (lv_at hl 1 rfl) ?_
  obtain ⟨r, X2, M2, ex, em, hR2⟩ := hS X M hR 
  refine lz_callx (As := []) C hW (c_X11_forget_0 ex) lk_L_63 rfl hl.1 ⟨rfl, rfl⟩ ⟨Nat.le_of_ble_eq_true rfl, Nat.le_of_ble_eq_true rfl⟩ (Nat.le_of_ble_eq_true rfl) ⟨Nat.le_trans hK2 (by decide), Nat.le_trans hN2 (by decide)⟩ rfl dL_law_523 (fun H locs hW => ?_)
  refine lv_aload_n hx hb dL_law_526 rfl (lv_at hl 2 rfl) ?_
  refine lz_callm (As := []) C hW (c_X12_forget_0 em) lk_L_66 rfl hl.1 ⟨rfl, rfl⟩ ⟨Nat.le_of_ble_eq_true rfl, Nat.le_of_ble_eq_true rfl⟩ (Nat.le_of_ble_eq_true rfl) ⟨Nat.le_trans hK2 (by decide), Nat.le_trans hN2 (by decide)⟩ rfl dL_law_527 (fun H locs hW => ?_)
  refine lv_icmp_eq (tgt := 1670) hx hb dL_law_530 (by decide) (fun _ => ?_) (fun g => absurd rfl g)
  exact nxt X2 M2 f H locs K N ls hR2 hW (by omega) (by omega) hl
set_option maxHeartbeats 4000000 in
set_option maxRecDepth 20000 in
theorem lc_8 (hS : S_sheet F Rel) (C : zC p s m #[Value.ref b] meth c code 7 RL ret) (hX : va_X b L xs s s.heap) (hbl : b < s.heap.size) (hi : i ≤ 320) (h1 : vp_in (nI i + 1) L) (h2 : vp_in (nI i + 2) L) (h3 : vp_in (nI i + 3) L) (h4 : vp_in (nI i + 4) L)  (nxt : ∀ (X M : Zs) (f : Nat → Int64) (H : Heap) (locs : List Loc) (K N : Nat) (ls : Array Slot), Rel X M → lW D cs ad am o s X M f H locs → K ≤ 1000 + 2 * (i + 5) → N ≤ 100000 + 40 * (i + 5) → lv_has ls 7 [(0, .ref b), (1, .ref (ad 0)), (2, .ref (am 0)), (3, .ref o), (4, .int (nI i))] → W p l e room_1 s m #[Value.ref b] below meth c H locs K N Q (F0 m 1670 ls [])) {X M : Zs} {f : Nat → Int64} {H : Heap} {locs : List Loc} {K N : Nat} {ls : Array Slot} (hR : Rel X M) (hW : lW D cs ad am o s X M f H locs) (hK : K ≤ 1000 + 2 * i) (hN : N ≤ 100000 + 40 * i) (hl : lv_has ls 7 [(0, .ref b), (1, .ref (ad 0)), (2, .ref (am 0)), (3, .ref o), (4, .int (nI i))]) : W p l e room_1 s m #[Value.ref b] below meth c H locs K N Q (F0 m 535 ls []) := by
  obtain ⟨hx, hb, hml, hown, hts, hret, hlk⟩ := id C
  have hbA : ¬ lA s b := Nat.not_le.mpr hbl
  have hK2 : K ≤ 2000 := by omega
  have hN2 : N ≤ 200000 := by omega
  refine lv_aload_n hx hb dL_law_535 rfl (lv_at hl 1 rfl) ?_
  refine lv_aload_n hx hb dL_law_536 rfl (lv_at hl 0 rfl) ?_
  refine lv_iload hx hb dL_law_537 (lv_at hl 4 rfl) ?_
  refine lv_iconst (v := 1) hx hb dL_law_539 (by decide) ?_
  refine lv_iadd hx hb dL_law_540 ?_
  refine va_sld hx hb hX hbl hbA hW.2.2.2.2.2.2 h1 dL_law_541 ?_
  refine lv_aload_n hx hb dL_law_542 rfl (lv_at hl 0 rfl) ?_
  refine lv_iload hx hb dL_law_543 (lv_at hl 4 rfl) ?_
  refine lv_iconst (v := 2) hx hb dL_law_545 (by decide) ?_
  refine lv_iadd hx hb dL_law_546 ?_
  refine va_sld hx hb hX hbl hbA hW.2.2.2.2.2.2 h2 dL_law_547 ?_
  refine lv_aload_n hx hb dL_law_548 rfl (lv_at hl 0 rfl) ?_
  refine lv_iload hx hb dL_law_549 (lv_at hl 4 rfl) ?_
  refine lv_iconst (v := 3) hx hb dL_law_551 (by decide) ?_
  refine lv_iadd hx hb dL_law_552 ?_
  refine va_sld hx hb hX hbl hbA hW.2.2.2.2.2.2 h3 dL_law_553 ?_
  refine lv_aload_n hx hb dL_law_554 rfl (lv_at hl 0 rfl) ?_
  refine lv_iload hx hb dL_law_555 (lv_at hl 4 rfl) ?_
  refine lv_iconst (v := 4) hx hb dL_law_557 (by decide) ?_
  refine lv_iadd hx hb dL_law_558 ?_
  refine va_sld hx hb hX hbl hbA hW.2.2.2.2.2.2 h4 dL_law_559 ?_
  obtain ⟨r, X2, M2, ex, em, hR2⟩ := hS X M hR (xs (nI i + 1).toNatClampNeg) (xs (nI i + 2).toNatClampNeg) (xs (nI i + 3).toNatClampNeg) (xs (nI i + 4).toNatClampNeg)
  refine lz_callx (As := [.int (xs (nI i + 1).toNatClampNeg), .int (xs (nI i + 2).toNatClampNeg), .int (xs (nI i + 3).toNatClampNeg), .int (xs (nI i + 4).toNatClampNeg)]) C hW (c_X11_sheet_0 ex) lk_L_67 rfl hl.1 ⟨rfl, rfl⟩ ⟨Nat.le_of_ble_eq_true rfl, Nat.le_of_ble_eq_true rfl⟩ (Nat.le_of_ble_eq_true rfl) ⟨Nat.le_trans hK2 (by decide), Nat.le_trans hN2 (by decide)⟩ rfl dL_law_560 (fun H locs hW => ?_)
  refine lv_aload_n hx hb dL_law_563 rfl (lv_at hl 2 rfl) ?_
  refine lv_aload_n hx hb dL_law_564 rfl (lv_at hl 0 rfl) ?_
  refine lv_iload hx hb dL_law_565 (lv_at hl 4 rfl) ?_
  refine lv_iconst (v := 1) hx hb dL_law_567 (by decide) ?_
  refine lv_iadd hx hb dL_law_568 ?_
  refine va_sld hx hb hX hbl hbA hW.2.2.2.2.2.2 h1 dL_law_569 ?_
  refine lv_aload_n hx hb dL_law_570 rfl (lv_at hl 0 rfl) ?_
  refine lv_iload hx hb dL_law_571 (lv_at hl 4 rfl) ?_
  refine lv_iconst (v := 2) hx hb dL_law_573 (by decide) ?_
  refine lv_iadd hx hb dL_law_574 ?_
  refine va_sld hx hb hX hbl hbA hW.2.2.2.2.2.2 h2 dL_law_575 ?_
  refine lv_aload_n hx hb dL_law_576 rfl (lv_at hl 0 rfl) ?_
  refine lv_iload hx hb dL_law_577 (lv_at hl 4 rfl) ?_
  refine lv_iconst (v := 3) hx hb dL_law_579 (by decide) ?_
  refine lv_iadd hx hb dL_law_580 ?_
  refine va_sld hx hb hX hbl hbA hW.2.2.2.2.2.2 h3 dL_law_581 ?_
  refine lv_aload_n hx hb dL_law_582 rfl (lv_at hl 0 rfl) ?_
  refine lv_iload hx hb dL_law_583 (lv_at hl 4 rfl) ?_
  refine lv_iconst (v := 4) hx hb dL_law_585 (by decide) ?_
  refine lv_iadd hx hb dL_law_586 ?_
  refine va_sld hx hb hX hbl hbA hW.2.2.2.2.2.2 h4 dL_law_587 ?_
  refine lz_callm (As := [.int (xs (nI i + 1).toNatClampNeg), .int (xs (nI i + 2).toNatClampNeg), .int (xs (nI i + 3).toNatClampNeg), .int (xs (nI i + 4).toNatClampNeg)]) C hW (c_X12_sheet_0 em) lk_L_71 rfl hl.1 ⟨rfl, rfl⟩ ⟨Nat.le_of_ble_eq_true rfl, Nat.le_of_ble_eq_true rfl⟩ (Nat.le_of_ble_eq_true rfl) ⟨Nat.le_trans hK2 (by decide), Nat.le_trans hN2 (by decide)⟩ rfl dL_law_588 (fun H locs hW => ?_)
  refine lv_icmp_eq (tgt := 1670) hx hb dL_law_591 (by decide) (fun _ => ?_) (fun g => absurd rfl g)
  exact nxt X2 M2 f H locs K N ls hR2 hW (by omega) (by omega) hl
set_option maxHeartbeats 4000000 in
set_option maxRecDepth 20000 in
theorem lc_9 (hS : S_holds F Rel) (C : zC p s m #[Value.ref b] meth c code 7 RL ret) (hX : va_X b L xs s s.heap) (hbl : b < s.heap.size) (hi : i ≤ 320) (h1 : vp_in (nI i + 1) L) (h2 : vp_in (nI i + 2) L) (h3 : vp_in (nI i + 3) L) (h4 : vp_in (nI i + 4) L)  (nxt : ∀ (X M : Zs) (f : Nat → Int64) (H : Heap) (locs : List Loc) (K N : Nat) (ls : Array Slot), Rel X M → lW D cs ad am o s X M f H locs → K ≤ 1000 + 2 * (i + 5) → N ≤ 100000 + 40 * (i + 5) → lv_has ls 7 [(0, .ref b), (1, .ref (ad 0)), (2, .ref (am 0)), (3, .ref o), (4, .int (nI i))] → W p l e room_1 s m #[Value.ref b] below meth c H locs K N Q (F0 m 1670 ls [])) {X M : Zs} {f : Nat → Int64} {H : Heap} {locs : List Loc} {K N : Nat} {ls : Array Slot} (hR : Rel X M) (hW : lW D cs ad am o s X M f H locs) (hK : K ≤ 1000 + 2 * i) (hN : N ≤ 100000 + 40 * i) (hl : lv_has ls 7 [(0, .ref b), (1, .ref (ad 0)), (2, .ref (am 0)), (3, .ref o), (4, .int (nI i))]) : W p l e room_1 s m #[Value.ref b] below meth c H locs K N Q (F0 m 596 ls []) := by
  obtain ⟨hx, hb, hml, hown, hts, hret, hlk⟩ := id C
  have hbA : ¬ lA s b := Nat.not_le.mpr hbl
  have hK2 : K ≤ 2000 := by omega
  have hN2 : N ≤ 200000 := by omega
  refine lv_aload_n hx hb dL_law_596 rfl (lv_at hl 1 rfl) ?_
  obtain ⟨r, X2, M2, ex, em, hR2⟩ := hS X M hR 
  refine lz_callx (As := []) C hW (c_X11_holds_0 ex) lk_L_72 rfl hl.1 ⟨rfl, rfl⟩ ⟨Nat.le_of_ble_eq_true rfl, Nat.le_of_ble_eq_true rfl⟩ (Nat.le_of_ble_eq_true rfl) ⟨Nat.le_trans hK2 (by decide), Nat.le_trans hN2 (by decide)⟩ rfl dL_law_597 (fun H locs hW => ?_)
  refine lv_aload_n hx hb dL_law_600 rfl (lv_at hl 2 rfl) ?_
  refine lz_callm (As := []) C hW (c_X12_holds_0 em) lk_L_75 rfl hl.1 ⟨rfl, rfl⟩ ⟨Nat.le_of_ble_eq_true rfl, Nat.le_of_ble_eq_true rfl⟩ (Nat.le_of_ble_eq_true rfl) ⟨Nat.le_trans hK2 (by decide), Nat.le_trans hN2 (by decide)⟩ rfl dL_law_601 (fun H locs hW => ?_)
  refine lv_icmp_eq (tgt := 1670) hx hb dL_law_604 (by decide) (fun _ => ?_) (fun g => absurd rfl g)
  exact nxt X2 M2 f H locs K N ls hR2 hW (by omega) (by omega) hl
set_option maxHeartbeats 4000000 in
set_option maxRecDepth 20000 in
theorem lc_10 (hS : S_follows F Rel) (C : zC p s m #[Value.ref b] meth c code 7 RL ret) (hX : va_X b L xs s s.heap) (hbl : b < s.heap.size) (hi : i ≤ 320) (h1 : vp_in (nI i + 1) L) (h2 : vp_in (nI i + 2) L) (h3 : vp_in (nI i + 3) L) (h4 : vp_in (nI i + 4) L)  (nxt : ∀ (X M : Zs) (f : Nat → Int64) (H : Heap) (locs : List Loc) (K N : Nat) (ls : Array Slot), Rel X M → lW D cs ad am o s X M f H locs → K ≤ 1000 + 2 * (i + 5) → N ≤ 100000 + 40 * (i + 5) → lv_has ls 7 [(0, .ref b), (1, .ref (ad 0)), (2, .ref (am 0)), (3, .ref o), (4, .int (nI i))] → W p l e room_1 s m #[Value.ref b] below meth c H locs K N Q (F0 m 1670 ls [])) {X M : Zs} {f : Nat → Int64} {H : Heap} {locs : List Loc} {K N : Nat} {ls : Array Slot} (hR : Rel X M) (hW : lW D cs ad am o s X M f H locs) (hK : K ≤ 1000 + 2 * i) (hN : N ≤ 100000 + 40 * i) (hl : lv_has ls 7 [(0, .ref b), (1, .ref (ad 0)), (2, .ref (am 0)), (3, .ref o), (4, .int (nI i))]) : W p l e room_1 s m #[Value.ref b] below meth c H locs K N Q (F0 m 609 ls []) := by
  obtain ⟨hx, hb, hml, hown, hts, hret, hlk⟩ := id C
  have hbA : ¬ lA s b := Nat.not_le.mpr hbl
  have hK2 : K ≤ 2000 := by omega
  have hN2 : N ≤ 200000 := by omega
  refine lv_aload_n hx hb dL_law_609 rfl (lv_at hl 1 rfl) ?_
  refine lv_aload_n hx hb dL_law_610 rfl (lv_at hl 0 rfl) ?_
  refine lv_iload hx hb dL_law_611 (lv_at hl 4 rfl) ?_
  refine lv_iconst (v := 1) hx hb dL_law_613 (by decide) ?_
  refine lv_iadd hx hb dL_law_614 ?_
  refine va_sld hx hb hX hbl hbA hW.2.2.2.2.2.2 h1 dL_law_615 ?_
  obtain ⟨r, X2, M2, ex, em, hR2⟩ := hS X M hR (xs (nI i + 1).toNatClampNeg)
  refine lz_callx (As := [.int (xs (nI i + 1).toNatClampNeg)]) C hW (c_X11_follows_0 ex) lk_L_76 rfl hl.1 ⟨rfl, rfl⟩ ⟨Nat.le_of_ble_eq_true rfl, Nat.le_of_ble_eq_true rfl⟩ (Nat.le_of_ble_eq_true rfl) ⟨Nat.le_trans hK2 (by decide), Nat.le_trans hN2 (by decide)⟩ rfl dL_law_616 (fun H locs hW => ?_)
  refine lv_aload_n hx hb dL_law_619 rfl (lv_at hl 2 rfl) ?_
  refine lv_aload_n hx hb dL_law_620 rfl (lv_at hl 0 rfl) ?_
  refine lv_iload hx hb dL_law_621 (lv_at hl 4 rfl) ?_
  refine lv_iconst (v := 1) hx hb dL_law_623 (by decide) ?_
  refine lv_iadd hx hb dL_law_624 ?_
  refine va_sld hx hb hX hbl hbA hW.2.2.2.2.2.2 h1 dL_law_625 ?_
  refine lz_callm (As := [.int (xs (nI i + 1).toNatClampNeg)]) C hW (c_X12_follows_0 em) lk_L_79 rfl hl.1 ⟨rfl, rfl⟩ ⟨Nat.le_of_ble_eq_true rfl, Nat.le_of_ble_eq_true rfl⟩ (Nat.le_of_ble_eq_true rfl) ⟨Nat.le_trans hK2 (by decide), Nat.le_trans hN2 (by decide)⟩ rfl dL_law_626 (fun H locs hW => ?_)
  refine lv_icmp_eq (tgt := 1670) hx hb dL_law_629 (by decide) (fun _ => ?_) (fun g => absurd rfl g)
  exact nxt X2 M2 f H locs K N ls hR2 hW (by omega) (by omega) hl
set_option maxHeartbeats 4000000 in
set_option maxRecDepth 20000 in
theorem lc_11 (hS : S_decided F Rel) (C : zC p s m #[Value.ref b] meth c code 7 RL ret) (hX : va_X b L xs s s.heap) (hbl : b < s.heap.size) (hi : i ≤ 320) (h1 : vp_in (nI i + 1) L) (h2 : vp_in (nI i + 2) L) (h3 : vp_in (nI i + 3) L) (h4 : vp_in (nI i + 4) L)  (nxt : ∀ (X M : Zs) (f : Nat → Int64) (H : Heap) (locs : List Loc) (K N : Nat) (ls : Array Slot), Rel X M → lW D cs ad am o s X M f H locs → K ≤ 1000 + 2 * (i + 5) → N ≤ 100000 + 40 * (i + 5) → lv_has ls 7 [(0, .ref b), (1, .ref (ad 0)), (2, .ref (am 0)), (3, .ref o), (4, .int (nI i))] → W p l e room_1 s m #[Value.ref b] below meth c H locs K N Q (F0 m 1670 ls [])) {X M : Zs} {f : Nat → Int64} {H : Heap} {locs : List Loc} {K N : Nat} {ls : Array Slot} (hR : Rel X M) (hW : lW D cs ad am o s X M f H locs) (hK : K ≤ 1000 + 2 * i) (hN : N ≤ 100000 + 40 * i) (hl : lv_has ls 7 [(0, .ref b), (1, .ref (ad 0)), (2, .ref (am 0)), (3, .ref o), (4, .int (nI i))]) : W p l e room_1 s m #[Value.ref b] below meth c H locs K N Q (F0 m 634 ls []) := by
  obtain ⟨hx, hb, hml, hown, hts, hret, hlk⟩ := id C
  have hbA : ¬ lA s b := Nat.not_le.mpr hbl
  have hK2 : K ≤ 2000 := by omega
  have hN2 : N ≤ 200000 := by omega
  refine lv_aload_n hx hb dL_law_634 rfl (lv_at hl 1 rfl) ?_
  refine lv_aload_n hx hb dL_law_635 rfl (lv_at hl 0 rfl) ?_
  refine lv_iload hx hb dL_law_636 (lv_at hl 4 rfl) ?_
  refine lv_iconst (v := 1) hx hb dL_law_638 (by decide) ?_
  refine lv_iadd hx hb dL_law_639 ?_
  refine va_sld hx hb hX hbl hbA hW.2.2.2.2.2.2 h1 dL_law_640 ?_
  obtain ⟨r, X2, M2, ex, em, hR2⟩ := hS X M hR (xs (nI i + 1).toNatClampNeg)
  refine lz_callx (As := [.int (xs (nI i + 1).toNatClampNeg)]) C hW (c_X11_decided_0 ex) lk_L_80 rfl hl.1 ⟨rfl, rfl⟩ ⟨Nat.le_of_ble_eq_true rfl, Nat.le_of_ble_eq_true rfl⟩ (Nat.le_of_ble_eq_true rfl) ⟨Nat.le_trans hK2 (by decide), Nat.le_trans hN2 (by decide)⟩ rfl dL_law_641 (fun H locs hW => ?_)
  refine lv_aload_n hx hb dL_law_644 rfl (lv_at hl 2 rfl) ?_
  refine lv_aload_n hx hb dL_law_645 rfl (lv_at hl 0 rfl) ?_
  refine lv_iload hx hb dL_law_646 (lv_at hl 4 rfl) ?_
  refine lv_iconst (v := 1) hx hb dL_law_648 (by decide) ?_
  refine lv_iadd hx hb dL_law_649 ?_
  refine va_sld hx hb hX hbl hbA hW.2.2.2.2.2.2 h1 dL_law_650 ?_
  refine lz_callm (As := [.int (xs (nI i + 1).toNatClampNeg)]) C hW (c_X12_decided_0 em) lk_L_83 rfl hl.1 ⟨rfl, rfl⟩ ⟨Nat.le_of_ble_eq_true rfl, Nat.le_of_ble_eq_true rfl⟩ (Nat.le_of_ble_eq_true rfl) ⟨Nat.le_trans hK2 (by decide), Nat.le_trans hN2 (by decide)⟩ rfl dL_law_651 (fun H locs hW => ?_)
  refine lv_icmp_eq (tgt := 1670) hx hb dL_law_654 (by decide) (fun _ => ?_) (fun g => absurd rfl g)
  exact nxt X2 M2 f H locs K N ls hR2 hW (by omega) (by omega) hl
set_option maxHeartbeats 4000000 in
set_option maxRecDepth 20000 in
theorem lc_12 (hS : S_from F Rel) (C : zC p s m #[Value.ref b] meth c code 7 RL ret) (hX : va_X b L xs s s.heap) (hbl : b < s.heap.size) (hi : i ≤ 320) (h1 : vp_in (nI i + 1) L) (h2 : vp_in (nI i + 2) L) (h3 : vp_in (nI i + 3) L) (h4 : vp_in (nI i + 4) L)  (nxt : ∀ (X M : Zs) (f : Nat → Int64) (H : Heap) (locs : List Loc) (K N : Nat) (ls : Array Slot), Rel X M → lW D cs ad am o s X M f H locs → K ≤ 1000 + 2 * (i + 5) → N ≤ 100000 + 40 * (i + 5) → lv_has ls 7 [(0, .ref b), (1, .ref (ad 0)), (2, .ref (am 0)), (3, .ref o), (4, .int (nI i))] → W p l e room_1 s m #[Value.ref b] below meth c H locs K N Q (F0 m 1670 ls [])) {X M : Zs} {f : Nat → Int64} {H : Heap} {locs : List Loc} {K N : Nat} {ls : Array Slot} (hR : Rel X M) (hW : lW D cs ad am o s X M f H locs) (hK : K ≤ 1000 + 2 * i) (hN : N ≤ 100000 + 40 * i) (hl : lv_has ls 7 [(0, .ref b), (1, .ref (ad 0)), (2, .ref (am 0)), (3, .ref o), (4, .int (nI i))]) : W p l e room_1 s m #[Value.ref b] below meth c H locs K N Q (F0 m 659 ls []) := by
  obtain ⟨hx, hb, hml, hown, hts, hret, hlk⟩ := id C
  have hbA : ¬ lA s b := Nat.not_le.mpr hbl
  have hK2 : K ≤ 2000 := by omega
  have hN2 : N ≤ 200000 := by omega
  refine lv_aload_n hx hb dL_law_659 rfl (lv_at hl 1 rfl) ?_
  refine lv_aload_n hx hb dL_law_660 rfl (lv_at hl 0 rfl) ?_
  refine lv_iload hx hb dL_law_661 (lv_at hl 4 rfl) ?_
  refine lv_iconst (v := 1) hx hb dL_law_663 (by decide) ?_
  refine lv_iadd hx hb dL_law_664 ?_
  refine va_sld hx hb hX hbl hbA hW.2.2.2.2.2.2 h1 dL_law_665 ?_
  refine lv_aload_n hx hb dL_law_666 rfl (lv_at hl 0 rfl) ?_
  refine lv_iload hx hb dL_law_667 (lv_at hl 4 rfl) ?_
  refine lv_iconst (v := 2) hx hb dL_law_669 (by decide) ?_
  refine lv_iadd hx hb dL_law_670 ?_
  refine va_sld hx hb hX hbl hbA hW.2.2.2.2.2.2 h2 dL_law_671 ?_
  obtain ⟨r, X2, M2, ex, em, hR2⟩ := hS X M hR (xs (nI i + 1).toNatClampNeg) (xs (nI i + 2).toNatClampNeg)
  refine lz_callx (As := [.int (xs (nI i + 1).toNatClampNeg), .int (xs (nI i + 2).toNatClampNeg)]) C hW (c_X11_from_0 ex) lk_L_84 rfl hl.1 ⟨rfl, rfl⟩ ⟨Nat.le_of_ble_eq_true rfl, Nat.le_of_ble_eq_true rfl⟩ (Nat.le_of_ble_eq_true rfl) ⟨Nat.le_trans hK2 (by decide), Nat.le_trans hN2 (by decide)⟩ rfl dL_law_672 (fun H locs hW => ?_)
  refine lv_aload_n hx hb dL_law_675 rfl (lv_at hl 2 rfl) ?_
  refine lv_aload_n hx hb dL_law_676 rfl (lv_at hl 0 rfl) ?_
  refine lv_iload hx hb dL_law_677 (lv_at hl 4 rfl) ?_
  refine lv_iconst (v := 1) hx hb dL_law_679 (by decide) ?_
  refine lv_iadd hx hb dL_law_680 ?_
  refine va_sld hx hb hX hbl hbA hW.2.2.2.2.2.2 h1 dL_law_681 ?_
  refine lv_aload_n hx hb dL_law_682 rfl (lv_at hl 0 rfl) ?_
  refine lv_iload hx hb dL_law_683 (lv_at hl 4 rfl) ?_
  refine lv_iconst (v := 2) hx hb dL_law_685 (by decide) ?_
  refine lv_iadd hx hb dL_law_686 ?_
  refine va_sld hx hb hX hbl hbA hW.2.2.2.2.2.2 h2 dL_law_687 ?_
  refine lz_callm (As := [.int (xs (nI i + 1).toNatClampNeg), .int (xs (nI i + 2).toNatClampNeg)]) C hW (c_X12_from_0 em) lk_L_87 rfl hl.1 ⟨rfl, rfl⟩ ⟨Nat.le_of_ble_eq_true rfl, Nat.le_of_ble_eq_true rfl⟩ (Nat.le_of_ble_eq_true rfl) ⟨Nat.le_trans hK2 (by decide), Nat.le_trans hN2 (by decide)⟩ rfl dL_law_688 (fun H locs hW => ?_)
  refine lv_icmp_eq (tgt := 1670) hx hb dL_law_691 (by decide) (fun _ => ?_) (fun g => absurd rfl g)
  exact nxt X2 M2 f H locs K N ls hR2 hW (by omega) (by omega) hl
set_option maxHeartbeats 4000000 in
set_option maxRecDepth 20000 in
theorem lc_13 (hS : S_needs F Rel) (C : zC p s m #[Value.ref b] meth c code 7 RL ret) (hX : va_X b L xs s s.heap) (hbl : b < s.heap.size) (hi : i ≤ 320) (h1 : vp_in (nI i + 1) L) (h2 : vp_in (nI i + 2) L) (h3 : vp_in (nI i + 3) L) (h4 : vp_in (nI i + 4) L)  (nxt : ∀ (X M : Zs) (f : Nat → Int64) (H : Heap) (locs : List Loc) (K N : Nat) (ls : Array Slot), Rel X M → lW D cs ad am o s X M f H locs → K ≤ 1000 + 2 * (i + 5) → N ≤ 100000 + 40 * (i + 5) → lv_has ls 7 [(0, .ref b), (1, .ref (ad 0)), (2, .ref (am 0)), (3, .ref o), (4, .int (nI i))] → W p l e room_1 s m #[Value.ref b] below meth c H locs K N Q (F0 m 1670 ls [])) {X M : Zs} {f : Nat → Int64} {H : Heap} {locs : List Loc} {K N : Nat} {ls : Array Slot} (hR : Rel X M) (hW : lW D cs ad am o s X M f H locs) (hK : K ≤ 1000 + 2 * i) (hN : N ≤ 100000 + 40 * i) (hl : lv_has ls 7 [(0, .ref b), (1, .ref (ad 0)), (2, .ref (am 0)), (3, .ref o), (4, .int (nI i))]) : W p l e room_1 s m #[Value.ref b] below meth c H locs K N Q (F0 m 696 ls []) := by
  obtain ⟨hx, hb, hml, hown, hts, hret, hlk⟩ := id C
  have hbA : ¬ lA s b := Nat.not_le.mpr hbl
  have hK2 : K ≤ 2000 := by omega
  have hN2 : N ≤ 200000 := by omega
  refine lv_aload_n hx hb dL_law_696 rfl (lv_at hl 1 rfl) ?_
  refine lv_aload_n hx hb dL_law_697 rfl (lv_at hl 0 rfl) ?_
  refine lv_iload hx hb dL_law_698 (lv_at hl 4 rfl) ?_
  refine lv_iconst (v := 1) hx hb dL_law_700 (by decide) ?_
  refine lv_iadd hx hb dL_law_701 ?_
  refine va_sld hx hb hX hbl hbA hW.2.2.2.2.2.2 h1 dL_law_702 ?_
  obtain ⟨r, X2, M2, ex, em, hR2⟩ := hS X M hR (xs (nI i + 1).toNatClampNeg)
  refine lz_callx (As := [.int (xs (nI i + 1).toNatClampNeg)]) C hW (c_X11_needs_0 ex) lk_L_88 rfl hl.1 ⟨rfl, rfl⟩ ⟨Nat.le_of_ble_eq_true rfl, Nat.le_of_ble_eq_true rfl⟩ (Nat.le_of_ble_eq_true rfl) ⟨Nat.le_trans hK2 (by decide), Nat.le_trans hN2 (by decide)⟩ rfl dL_law_703 (fun H locs hW => ?_)
  refine lv_aload_n hx hb dL_law_706 rfl (lv_at hl 2 rfl) ?_
  refine lv_aload_n hx hb dL_law_707 rfl (lv_at hl 0 rfl) ?_
  refine lv_iload hx hb dL_law_708 (lv_at hl 4 rfl) ?_
  refine lv_iconst (v := 1) hx hb dL_law_710 (by decide) ?_
  refine lv_iadd hx hb dL_law_711 ?_
  refine va_sld hx hb hX hbl hbA hW.2.2.2.2.2.2 h1 dL_law_712 ?_
  refine lz_callm (As := [.int (xs (nI i + 1).toNatClampNeg)]) C hW (c_X12_needs_0 em) lk_L_91 rfl hl.1 ⟨rfl, rfl⟩ ⟨Nat.le_of_ble_eq_true rfl, Nat.le_of_ble_eq_true rfl⟩ (Nat.le_of_ble_eq_true rfl) ⟨Nat.le_trans hK2 (by decide), Nat.le_trans hN2 (by decide)⟩ rfl dL_law_713 (fun H locs hW => ?_)
  refine lv_icmp_eq (tgt := 1670) hx hb dL_law_716 (by decide) (fun _ => ?_) (fun g => absurd rfl g)
  exact nxt X2 M2 f H locs K N ls hR2 hW (by omega) (by omega) hl
set_option maxHeartbeats 4000000 in
set_option maxRecDepth 20000 in
theorem lc_14 (hS : S_fewest F Rel) (C : zC p s m #[Value.ref b] meth c code 7 RL ret) (hX : va_X b L xs s s.heap) (hbl : b < s.heap.size) (hi : i ≤ 320) (h1 : vp_in (nI i + 1) L) (h2 : vp_in (nI i + 2) L) (h3 : vp_in (nI i + 3) L) (h4 : vp_in (nI i + 4) L)  (nxt : ∀ (X M : Zs) (f : Nat → Int64) (H : Heap) (locs : List Loc) (K N : Nat) (ls : Array Slot), Rel X M → lW D cs ad am o s X M f H locs → K ≤ 1000 + 2 * (i + 5) → N ≤ 100000 + 40 * (i + 5) → lv_has ls 7 [(0, .ref b), (1, .ref (ad 0)), (2, .ref (am 0)), (3, .ref o), (4, .int (nI i))] → W p l e room_1 s m #[Value.ref b] below meth c H locs K N Q (F0 m 1670 ls [])) {X M : Zs} {f : Nat → Int64} {H : Heap} {locs : List Loc} {K N : Nat} {ls : Array Slot} (hR : Rel X M) (hW : lW D cs ad am o s X M f H locs) (hK : K ≤ 1000 + 2 * i) (hN : N ≤ 100000 + 40 * i) (hl : lv_has ls 7 [(0, .ref b), (1, .ref (ad 0)), (2, .ref (am 0)), (3, .ref o), (4, .int (nI i))]) : W p l e room_1 s m #[Value.ref b] below meth c H locs K N Q (F0 m 721 ls []) := by
  obtain ⟨hx, hb, hml, hown, hts, hret, hlk⟩ := id C
  have hbA : ¬ lA s b := Nat.not_le.mpr hbl
  have hK2 : K ≤ 2000 := by omega
  have hN2 : N ≤ 200000 := by omega
  refine lv_aload_n hx hb dL_law_721 rfl (lv_at hl 1 rfl) ?_
  obtain ⟨r, X2, M2, ex, em, hR2⟩ := hS X M hR 
  refine lz_callx (As := []) C hW (c_X11_fewest_0 ex) lk_L_92 rfl hl.1 ⟨rfl, rfl⟩ ⟨Nat.le_of_ble_eq_true rfl, Nat.le_of_ble_eq_true rfl⟩ (Nat.le_of_ble_eq_true rfl) ⟨Nat.le_trans hK2 (by decide), Nat.le_trans hN2 (by decide)⟩ rfl dL_law_722 (fun H locs hW => ?_)
  refine lv_aload_n hx hb dL_law_725 rfl (lv_at hl 2 rfl) ?_
  refine lz_callm (As := []) C hW (c_X12_fewest_0 em) lk_L_95 rfl hl.1 ⟨rfl, rfl⟩ ⟨Nat.le_of_ble_eq_true rfl, Nat.le_of_ble_eq_true rfl⟩ (Nat.le_of_ble_eq_true rfl) ⟨Nat.le_trans hK2 (by decide), Nat.le_trans hN2 (by decide)⟩ rfl dL_law_726 (fun H locs hW => ?_)
  refine lv_icmp_eq (tgt := 1670) hx hb dL_law_729 (by decide) (fun _ => ?_) (fun g => absurd rfl g)
  exact nxt X2 M2 f H locs K N ls hR2 hW (by omega) (by omega) hl
set_option maxHeartbeats 4000000 in
set_option maxRecDepth 20000 in
theorem lc_15 (hS : S_idle F Rel) (C : zC p s m #[Value.ref b] meth c code 7 RL ret) (hX : va_X b L xs s s.heap) (hbl : b < s.heap.size) (hi : i ≤ 320) (h1 : vp_in (nI i + 1) L) (h2 : vp_in (nI i + 2) L) (h3 : vp_in (nI i + 3) L) (h4 : vp_in (nI i + 4) L)  (nxt : ∀ (X M : Zs) (f : Nat → Int64) (H : Heap) (locs : List Loc) (K N : Nat) (ls : Array Slot), Rel X M → lW D cs ad am o s X M f H locs → K ≤ 1000 + 2 * (i + 5) → N ≤ 100000 + 40 * (i + 5) → lv_has ls 7 [(0, .ref b), (1, .ref (ad 0)), (2, .ref (am 0)), (3, .ref o), (4, .int (nI i))] → W p l e room_1 s m #[Value.ref b] below meth c H locs K N Q (F0 m 1670 ls [])) {X M : Zs} {f : Nat → Int64} {H : Heap} {locs : List Loc} {K N : Nat} {ls : Array Slot} (hR : Rel X M) (hW : lW D cs ad am o s X M f H locs) (hK : K ≤ 1000 + 2 * i) (hN : N ≤ 100000 + 40 * i) (hl : lv_has ls 7 [(0, .ref b), (1, .ref (ad 0)), (2, .ref (am 0)), (3, .ref o), (4, .int (nI i))]) : W p l e room_1 s m #[Value.ref b] below meth c H locs K N Q (F0 m 734 ls []) := by
  obtain ⟨hx, hb, hml, hown, hts, hret, hlk⟩ := id C
  have hbA : ¬ lA s b := Nat.not_le.mpr hbl
  have hK2 : K ≤ 2000 := by omega
  have hN2 : N ≤ 200000 := by omega
  refine lv_aload_n hx hb dL_law_734 rfl (lv_at hl 1 rfl) ?_
  obtain ⟨r, X2, M2, ex, em, hR2⟩ := hS X M hR 
  refine lz_callx (As := []) C hW (c_X11_idle_0 ex) lk_L_96 rfl hl.1 ⟨rfl, rfl⟩ ⟨Nat.le_of_ble_eq_true rfl, Nat.le_of_ble_eq_true rfl⟩ (Nat.le_of_ble_eq_true rfl) ⟨Nat.le_trans hK2 (by decide), Nat.le_trans hN2 (by decide)⟩ rfl dL_law_735 (fun H locs hW => ?_)
  refine lv_aload_n hx hb dL_law_738 rfl (lv_at hl 2 rfl) ?_
  refine lz_callm (As := []) C hW (c_X12_idle_0 em) lk_L_99 rfl hl.1 ⟨rfl, rfl⟩ ⟨Nat.le_of_ble_eq_true rfl, Nat.le_of_ble_eq_true rfl⟩ (Nat.le_of_ble_eq_true rfl) ⟨Nat.le_trans hK2 (by decide), Nat.le_trans hN2 (by decide)⟩ rfl dL_law_739 (fun H locs hW => ?_)
  refine lv_icmp_eq (tgt := 1670) hx hb dL_law_742 (by decide) (fun _ => ?_) (fun g => absurd rfl g)
  exact nxt X2 M2 f H locs K N ls hR2 hW (by omega) (by omega) hl
set_option maxHeartbeats 4000000 in
set_option maxRecDepth 20000 in
theorem lc_16 (hS : S_alike F Rel) (C : zC p s m #[Value.ref b] meth c code 7 RL ret) (hX : va_X b L xs s s.heap) (hbl : b < s.heap.size) (hi : i ≤ 320) (h1 : vp_in (nI i + 1) L) (h2 : vp_in (nI i + 2) L) (h3 : vp_in (nI i + 3) L) (h4 : vp_in (nI i + 4) L)  (nxt : ∀ (X M : Zs) (f : Nat → Int64) (H : Heap) (locs : List Loc) (K N : Nat) (ls : Array Slot), Rel X M → lW D cs ad am o s X M f H locs → K ≤ 1000 + 2 * (i + 5) → N ≤ 100000 + 40 * (i + 5) → lv_has ls 7 [(0, .ref b), (1, .ref (ad 0)), (2, .ref (am 0)), (3, .ref o), (4, .int (nI i))] → W p l e room_1 s m #[Value.ref b] below meth c H locs K N Q (F0 m 1670 ls [])) {X M : Zs} {f : Nat → Int64} {H : Heap} {locs : List Loc} {K N : Nat} {ls : Array Slot} (hR : Rel X M) (hW : lW D cs ad am o s X M f H locs) (hK : K ≤ 1000 + 2 * i) (hN : N ≤ 100000 + 40 * i) (hl : lv_has ls 7 [(0, .ref b), (1, .ref (ad 0)), (2, .ref (am 0)), (3, .ref o), (4, .int (nI i))]) : W p l e room_1 s m #[Value.ref b] below meth c H locs K N Q (F0 m 747 ls []) := by
  obtain ⟨hx, hb, hml, hown, hts, hret, hlk⟩ := id C
  have hbA : ¬ lA s b := Nat.not_le.mpr hbl
  have hK2 : K ≤ 2000 := by omega
  have hN2 : N ≤ 200000 := by omega
  refine lv_aload_n hx hb dL_law_747 rfl (lv_at hl 1 rfl) ?_
  refine lv_aload_n hx hb dL_law_748 rfl (lv_at hl 0 rfl) ?_
  refine lv_iload hx hb dL_law_749 (lv_at hl 4 rfl) ?_
  refine lv_iconst (v := 1) hx hb dL_law_751 (by decide) ?_
  refine lv_iadd hx hb dL_law_752 ?_
  refine va_sld hx hb hX hbl hbA hW.2.2.2.2.2.2 h1 dL_law_753 ?_
  refine lv_aload_n hx hb dL_law_754 rfl (lv_at hl 0 rfl) ?_
  refine lv_iload hx hb dL_law_755 (lv_at hl 4 rfl) ?_
  refine lv_iconst (v := 2) hx hb dL_law_757 (by decide) ?_
  refine lv_iadd hx hb dL_law_758 ?_
  refine va_sld hx hb hX hbl hbA hW.2.2.2.2.2.2 h2 dL_law_759 ?_
  obtain ⟨r, X2, M2, ex, em, hR2⟩ := hS X M hR (xs (nI i + 1).toNatClampNeg) (xs (nI i + 2).toNatClampNeg)
  refine lz_callx (As := [.int (xs (nI i + 1).toNatClampNeg), .int (xs (nI i + 2).toNatClampNeg)]) C hW (c_X11_alike_0 ex) lk_L_100 rfl hl.1 ⟨rfl, rfl⟩ ⟨Nat.le_of_ble_eq_true rfl, Nat.le_of_ble_eq_true rfl⟩ (Nat.le_of_ble_eq_true rfl) ⟨Nat.le_trans hK2 (by decide), Nat.le_trans hN2 (by decide)⟩ rfl dL_law_760 (fun H locs hW => ?_)
  refine lv_aload_n hx hb dL_law_763 rfl (lv_at hl 2 rfl) ?_
  refine lv_aload_n hx hb dL_law_764 rfl (lv_at hl 0 rfl) ?_
  refine lv_iload hx hb dL_law_765 (lv_at hl 4 rfl) ?_
  refine lv_iconst (v := 1) hx hb dL_law_767 (by decide) ?_
  refine lv_iadd hx hb dL_law_768 ?_
  refine va_sld hx hb hX hbl hbA hW.2.2.2.2.2.2 h1 dL_law_769 ?_
  refine lv_aload_n hx hb dL_law_770 rfl (lv_at hl 0 rfl) ?_
  refine lv_iload hx hb dL_law_771 (lv_at hl 4 rfl) ?_
  refine lv_iconst (v := 2) hx hb dL_law_773 (by decide) ?_
  refine lv_iadd hx hb dL_law_774 ?_
  refine va_sld hx hb hX hbl hbA hW.2.2.2.2.2.2 h2 dL_law_775 ?_
  refine lz_callm (As := [.int (xs (nI i + 1).toNatClampNeg), .int (xs (nI i + 2).toNatClampNeg)]) C hW (c_X12_alike_0 em) lk_L_103 rfl hl.1 ⟨rfl, rfl⟩ ⟨Nat.le_of_ble_eq_true rfl, Nat.le_of_ble_eq_true rfl⟩ (Nat.le_of_ble_eq_true rfl) ⟨Nat.le_trans hK2 (by decide), Nat.le_trans hN2 (by decide)⟩ rfl dL_law_776 (fun H locs hW => ?_)
  refine lv_icmp_eq (tgt := 1670) hx hb dL_law_779 (by decide) (fun _ => ?_) (fun g => absurd rfl g)
  exact nxt X2 M2 f H locs K N ls hR2 hW (by omega) (by omega) hl
set_option maxHeartbeats 4000000 in
set_option maxRecDepth 20000 in
theorem lc_17 (hS : S_clash F Rel) (C : zC p s m #[Value.ref b] meth c code 7 RL ret) (hX : va_X b L xs s s.heap) (hbl : b < s.heap.size) (hi : i ≤ 320) (h1 : vp_in (nI i + 1) L) (h2 : vp_in (nI i + 2) L) (h3 : vp_in (nI i + 3) L) (h4 : vp_in (nI i + 4) L)  (nxt : ∀ (X M : Zs) (f : Nat → Int64) (H : Heap) (locs : List Loc) (K N : Nat) (ls : Array Slot), Rel X M → lW D cs ad am o s X M f H locs → K ≤ 1000 + 2 * (i + 5) → N ≤ 100000 + 40 * (i + 5) → lv_has ls 7 [(0, .ref b), (1, .ref (ad 0)), (2, .ref (am 0)), (3, .ref o), (4, .int (nI i))] → W p l e room_1 s m #[Value.ref b] below meth c H locs K N Q (F0 m 1670 ls [])) {X M : Zs} {f : Nat → Int64} {H : Heap} {locs : List Loc} {K N : Nat} {ls : Array Slot} (hR : Rel X M) (hW : lW D cs ad am o s X M f H locs) (hK : K ≤ 1000 + 2 * i) (hN : N ≤ 100000 + 40 * i) (hl : lv_has ls 7 [(0, .ref b), (1, .ref (ad 0)), (2, .ref (am 0)), (3, .ref o), (4, .int (nI i))]) : W p l e room_1 s m #[Value.ref b] below meth c H locs K N Q (F0 m 784 ls []) := by
  obtain ⟨hx, hb, hml, hown, hts, hret, hlk⟩ := id C
  have hbA : ¬ lA s b := Nat.not_le.mpr hbl
  have hK2 : K ≤ 2000 := by omega
  have hN2 : N ≤ 200000 := by omega
  refine lv_aload_n hx hb dL_law_784 rfl (lv_at hl 1 rfl) ?_
  obtain ⟨r, X2, M2, ex, em, hR2⟩ := hS X M hR 
  refine lz_callx (As := []) C hW (c_X11_clash_0 ex) lk_L_104 rfl hl.1 ⟨rfl, rfl⟩ ⟨Nat.le_of_ble_eq_true rfl, Nat.le_of_ble_eq_true rfl⟩ (Nat.le_of_ble_eq_true rfl) ⟨Nat.le_trans hK2 (by decide), Nat.le_trans hN2 (by decide)⟩ rfl dL_law_785 (fun H locs hW => ?_)
  refine lv_aload_n hx hb dL_law_788 rfl (lv_at hl 2 rfl) ?_
  refine lz_callm (As := []) C hW (c_X12_clash_0 em) lk_L_107 rfl hl.1 ⟨rfl, rfl⟩ ⟨Nat.le_of_ble_eq_true rfl, Nat.le_of_ble_eq_true rfl⟩ (Nat.le_of_ble_eq_true rfl) ⟨Nat.le_trans hK2 (by decide), Nat.le_trans hN2 (by decide)⟩ rfl dL_law_789 (fun H locs hW => ?_)
  refine lv_icmp_eq (tgt := 1670) hx hb dL_law_792 (by decide) (fun _ => ?_) (fun g => absurd rfl g)
  exact nxt X2 M2 f H locs K N ls hR2 hW (by omega) (by omega) hl
set_option maxHeartbeats 4000000 in
set_option maxRecDepth 20000 in
theorem lc_18 (hS : S_liars F Rel) (C : zC p s m #[Value.ref b] meth c code 7 RL ret) (hX : va_X b L xs s s.heap) (hbl : b < s.heap.size) (hi : i ≤ 320) (h1 : vp_in (nI i + 1) L) (h2 : vp_in (nI i + 2) L) (h3 : vp_in (nI i + 3) L) (h4 : vp_in (nI i + 4) L)  (nxt : ∀ (X M : Zs) (f : Nat → Int64) (H : Heap) (locs : List Loc) (K N : Nat) (ls : Array Slot), Rel X M → lW D cs ad am o s X M f H locs → K ≤ 1000 + 2 * (i + 5) → N ≤ 100000 + 40 * (i + 5) → lv_has ls 7 [(0, .ref b), (1, .ref (ad 0)), (2, .ref (am 0)), (3, .ref o), (4, .int (nI i))] → W p l e room_1 s m #[Value.ref b] below meth c H locs K N Q (F0 m 1670 ls [])) {X M : Zs} {f : Nat → Int64} {H : Heap} {locs : List Loc} {K N : Nat} {ls : Array Slot} (hR : Rel X M) (hW : lW D cs ad am o s X M f H locs) (hK : K ≤ 1000 + 2 * i) (hN : N ≤ 100000 + 40 * i) (hl : lv_has ls 7 [(0, .ref b), (1, .ref (ad 0)), (2, .ref (am 0)), (3, .ref o), (4, .int (nI i))]) : W p l e room_1 s m #[Value.ref b] below meth c H locs K N Q (F0 m 797 ls []) := by
  obtain ⟨hx, hb, hml, hown, hts, hret, hlk⟩ := id C
  have hbA : ¬ lA s b := Nat.not_le.mpr hbl
  have hK2 : K ≤ 2000 := by omega
  have hN2 : N ≤ 200000 := by omega
  refine lv_aload_n hx hb dL_law_797 rfl (lv_at hl 1 rfl) ?_
  obtain ⟨r, X2, M2, ex, em, hR2⟩ := hS X M hR 
  refine lz_callx (As := []) C hW (c_X11_liars_0 ex) lk_L_108 rfl hl.1 ⟨rfl, rfl⟩ ⟨Nat.le_of_ble_eq_true rfl, Nat.le_of_ble_eq_true rfl⟩ (Nat.le_of_ble_eq_true rfl) ⟨Nat.le_trans hK2 (by decide), Nat.le_trans hN2 (by decide)⟩ rfl dL_law_798 (fun H locs hW => ?_)
  refine lv_aload_n hx hb dL_law_801 rfl (lv_at hl 2 rfl) ?_
  refine lz_callm (As := []) C hW (c_X12_liars_0 em) lk_L_111 rfl hl.1 ⟨rfl, rfl⟩ ⟨Nat.le_of_ble_eq_true rfl, Nat.le_of_ble_eq_true rfl⟩ (Nat.le_of_ble_eq_true rfl) ⟨Nat.le_trans hK2 (by decide), Nat.le_trans hN2 (by decide)⟩ rfl dL_law_802 (fun H locs hW => ?_)
  refine lv_icmp_eq (tgt := 1670) hx hb dL_law_805 (by decide) (fun _ => ?_) (fun g => absurd rfl g)
  exact nxt X2 M2 f H locs K N ls hR2 hW (by omega) (by omega) hl
set_option maxHeartbeats 4000000 in
set_option maxRecDepth 20000 in
theorem lc_19 (hS : S_truth F Rel) (C : zC p s m #[Value.ref b] meth c code 7 RL ret) (hX : va_X b L xs s s.heap) (hbl : b < s.heap.size) (hi : i ≤ 320) (h1 : vp_in (nI i + 1) L) (h2 : vp_in (nI i + 2) L) (h3 : vp_in (nI i + 3) L) (h4 : vp_in (nI i + 4) L)  (nxt : ∀ (X M : Zs) (f : Nat → Int64) (H : Heap) (locs : List Loc) (K N : Nat) (ls : Array Slot), Rel X M → lW D cs ad am o s X M f H locs → K ≤ 1000 + 2 * (i + 5) → N ≤ 100000 + 40 * (i + 5) → lv_has ls 7 [(0, .ref b), (1, .ref (ad 0)), (2, .ref (am 0)), (3, .ref o), (4, .int (nI i))] → W p l e room_1 s m #[Value.ref b] below meth c H locs K N Q (F0 m 1670 ls [])) {X M : Zs} {f : Nat → Int64} {H : Heap} {locs : List Loc} {K N : Nat} {ls : Array Slot} (hR : Rel X M) (hW : lW D cs ad am o s X M f H locs) (hK : K ≤ 1000 + 2 * i) (hN : N ≤ 100000 + 40 * i) (hl : lv_has ls 7 [(0, .ref b), (1, .ref (ad 0)), (2, .ref (am 0)), (3, .ref o), (4, .int (nI i))]) : W p l e room_1 s m #[Value.ref b] below meth c H locs K N Q (F0 m 810 ls []) := by
  obtain ⟨hx, hb, hml, hown, hts, hret, hlk⟩ := id C
  have hbA : ¬ lA s b := Nat.not_le.mpr hbl
  have hK2 : K ≤ 2000 := by omega
  have hN2 : N ≤ 200000 := by omega
  refine lv_aload_n hx hb dL_law_810 rfl (lv_at hl 1 rfl) ?_
  refine lv_aload_n hx hb dL_law_811 rfl (lv_at hl 0 rfl) ?_
  refine lv_iload hx hb dL_law_812 (lv_at hl 4 rfl) ?_
  refine lv_iconst (v := 1) hx hb dL_law_814 (by decide) ?_
  refine lv_iadd hx hb dL_law_815 ?_
  refine va_sld hx hb hX hbl hbA hW.2.2.2.2.2.2 h1 dL_law_816 ?_
  obtain ⟨r, X2, M2, ex, em, hR2⟩ := hS X M hR (xs (nI i + 1).toNatClampNeg)
  refine lz_callx (As := [.int (xs (nI i + 1).toNatClampNeg)]) C hW (c_X11_truth_0 ex) lk_L_112 rfl hl.1 ⟨rfl, rfl⟩ ⟨Nat.le_of_ble_eq_true rfl, Nat.le_of_ble_eq_true rfl⟩ (Nat.le_of_ble_eq_true rfl) ⟨Nat.le_trans hK2 (by decide), Nat.le_trans hN2 (by decide)⟩ rfl dL_law_817 (fun H locs hW => ?_)
  refine lv_aload_n hx hb dL_law_820 rfl (lv_at hl 2 rfl) ?_
  refine lv_aload_n hx hb dL_law_821 rfl (lv_at hl 0 rfl) ?_
  refine lv_iload hx hb dL_law_822 (lv_at hl 4 rfl) ?_
  refine lv_iconst (v := 1) hx hb dL_law_824 (by decide) ?_
  refine lv_iadd hx hb dL_law_825 ?_
  refine va_sld hx hb hX hbl hbA hW.2.2.2.2.2.2 h1 dL_law_826 ?_
  refine lz_callm (As := [.int (xs (nI i + 1).toNatClampNeg)]) C hW (c_X12_truth_0 em) lk_L_115 rfl hl.1 ⟨rfl, rfl⟩ ⟨Nat.le_of_ble_eq_true rfl, Nat.le_of_ble_eq_true rfl⟩ (Nat.le_of_ble_eq_true rfl) ⟨Nat.le_trans hK2 (by decide), Nat.le_trans hN2 (by decide)⟩ rfl dL_law_827 (fun H locs hW => ?_)
  refine lv_icmp_eq (tgt := 1670) hx hb dL_law_830 (by decide) (fun _ => ?_) (fun g => absurd rfl g)
  exact nxt X2 M2 f H locs K N ls hR2 hW (by omega) (by omega) hl
set_option maxHeartbeats 4000000 in
set_option maxRecDepth 20000 in
theorem lc_20 (hS : S_trusts F Rel) (C : zC p s m #[Value.ref b] meth c code 7 RL ret) (hX : va_X b L xs s s.heap) (hbl : b < s.heap.size) (hi : i ≤ 320) (h1 : vp_in (nI i + 1) L) (h2 : vp_in (nI i + 2) L) (h3 : vp_in (nI i + 3) L) (h4 : vp_in (nI i + 4) L)  (nxt : ∀ (X M : Zs) (f : Nat → Int64) (H : Heap) (locs : List Loc) (K N : Nat) (ls : Array Slot), Rel X M → lW D cs ad am o s X M f H locs → K ≤ 1000 + 2 * (i + 5) → N ≤ 100000 + 40 * (i + 5) → lv_has ls 7 [(0, .ref b), (1, .ref (ad 0)), (2, .ref (am 0)), (3, .ref o), (4, .int (nI i))] → W p l e room_1 s m #[Value.ref b] below meth c H locs K N Q (F0 m 1670 ls [])) {X M : Zs} {f : Nat → Int64} {H : Heap} {locs : List Loc} {K N : Nat} {ls : Array Slot} (hR : Rel X M) (hW : lW D cs ad am o s X M f H locs) (hK : K ≤ 1000 + 2 * i) (hN : N ≤ 100000 + 40 * i) (hl : lv_has ls 7 [(0, .ref b), (1, .ref (ad 0)), (2, .ref (am 0)), (3, .ref o), (4, .int (nI i))]) : W p l e room_1 s m #[Value.ref b] below meth c H locs K N Q (F0 m 835 ls []) := by
  obtain ⟨hx, hb, hml, hown, hts, hret, hlk⟩ := id C
  have hbA : ¬ lA s b := Nat.not_le.mpr hbl
  have hK2 : K ≤ 2000 := by omega
  have hN2 : N ≤ 200000 := by omega
  refine lv_aload_n hx hb dL_law_835 rfl (lv_at hl 1 rfl) ?_
  refine lv_aload_n hx hb dL_law_836 rfl (lv_at hl 0 rfl) ?_
  refine lv_iload hx hb dL_law_837 (lv_at hl 4 rfl) ?_
  refine lv_iconst (v := 1) hx hb dL_law_839 (by decide) ?_
  refine lv_iadd hx hb dL_law_840 ?_
  refine va_sld hx hb hX hbl hbA hW.2.2.2.2.2.2 h1 dL_law_841 ?_
  refine lv_aload_n hx hb dL_law_842 rfl (lv_at hl 0 rfl) ?_
  refine lv_iload hx hb dL_law_843 (lv_at hl 4 rfl) ?_
  refine lv_iconst (v := 2) hx hb dL_law_845 (by decide) ?_
  refine lv_iadd hx hb dL_law_846 ?_
  refine va_sld hx hb hX hbl hbA hW.2.2.2.2.2.2 h2 dL_law_847 ?_
  obtain ⟨r, X2, M2, ex, em, hR2⟩ := hS X M hR (xs (nI i + 1).toNatClampNeg) (xs (nI i + 2).toNatClampNeg)
  refine lz_callx (As := [.int (xs (nI i + 1).toNatClampNeg), .int (xs (nI i + 2).toNatClampNeg)]) C hW (c_X11_trusts_0 ex) lk_L_116 rfl hl.1 ⟨rfl, rfl⟩ ⟨Nat.le_of_ble_eq_true rfl, Nat.le_of_ble_eq_true rfl⟩ (Nat.le_of_ble_eq_true rfl) ⟨Nat.le_trans hK2 (by decide), Nat.le_trans hN2 (by decide)⟩ rfl dL_law_848 (fun H locs hW => ?_)
  refine lv_aload_n hx hb dL_law_851 rfl (lv_at hl 2 rfl) ?_
  refine lv_aload_n hx hb dL_law_852 rfl (lv_at hl 0 rfl) ?_
  refine lv_iload hx hb dL_law_853 (lv_at hl 4 rfl) ?_
  refine lv_iconst (v := 1) hx hb dL_law_855 (by decide) ?_
  refine lv_iadd hx hb dL_law_856 ?_
  refine va_sld hx hb hX hbl hbA hW.2.2.2.2.2.2 h1 dL_law_857 ?_
  refine lv_aload_n hx hb dL_law_858 rfl (lv_at hl 0 rfl) ?_
  refine lv_iload hx hb dL_law_859 (lv_at hl 4 rfl) ?_
  refine lv_iconst (v := 2) hx hb dL_law_861 (by decide) ?_
  refine lv_iadd hx hb dL_law_862 ?_
  refine va_sld hx hb hX hbl hbA hW.2.2.2.2.2.2 h2 dL_law_863 ?_
  refine lz_callm (As := [.int (xs (nI i + 1).toNatClampNeg), .int (xs (nI i + 2).toNatClampNeg)]) C hW (c_X12_trusts_0 em) lk_L_119 rfl hl.1 ⟨rfl, rfl⟩ ⟨Nat.le_of_ble_eq_true rfl, Nat.le_of_ble_eq_true rfl⟩ (Nat.le_of_ble_eq_true rfl) ⟨Nat.le_trans hK2 (by decide), Nat.le_trans hN2 (by decide)⟩ rfl dL_law_864 (fun H locs hW => ?_)
  refine lv_icmp_eq (tgt := 1670) hx hb dL_law_867 (by decide) (fun _ => ?_) (fun g => absurd rfl g)
  exact nxt X2 M2 f H locs K N ls hR2 hW (by omega) (by omega) hl
set_option maxHeartbeats 4000000 in
set_option maxRecDepth 20000 in
theorem lc_21 (hS : S_convicts F Rel) (C : zC p s m #[Value.ref b] meth c code 7 RL ret) (hX : va_X b L xs s s.heap) (hbl : b < s.heap.size) (hi : i ≤ 320) (h1 : vp_in (nI i + 1) L) (h2 : vp_in (nI i + 2) L) (h3 : vp_in (nI i + 3) L) (h4 : vp_in (nI i + 4) L)  (nxt : ∀ (X M : Zs) (f : Nat → Int64) (H : Heap) (locs : List Loc) (K N : Nat) (ls : Array Slot), Rel X M → lW D cs ad am o s X M f H locs → K ≤ 1000 + 2 * (i + 5) → N ≤ 100000 + 40 * (i + 5) → lv_has ls 7 [(0, .ref b), (1, .ref (ad 0)), (2, .ref (am 0)), (3, .ref o), (4, .int (nI i))] → W p l e room_1 s m #[Value.ref b] below meth c H locs K N Q (F0 m 1670 ls [])) {X M : Zs} {f : Nat → Int64} {H : Heap} {locs : List Loc} {K N : Nat} {ls : Array Slot} (hR : Rel X M) (hW : lW D cs ad am o s X M f H locs) (hK : K ≤ 1000 + 2 * i) (hN : N ≤ 100000 + 40 * i) (hl : lv_has ls 7 [(0, .ref b), (1, .ref (ad 0)), (2, .ref (am 0)), (3, .ref o), (4, .int (nI i))]) : W p l e room_1 s m #[Value.ref b] below meth c H locs K N Q (F0 m 872 ls []) := by
  obtain ⟨hx, hb, hml, hown, hts, hret, hlk⟩ := id C
  have hbA : ¬ lA s b := Nat.not_le.mpr hbl
  have hK2 : K ≤ 2000 := by omega
  have hN2 : N ≤ 200000 := by omega
  refine lv_aload_n hx hb dL_law_872 rfl (lv_at hl 1 rfl) ?_
  refine lv_aload_n hx hb dL_law_873 rfl (lv_at hl 0 rfl) ?_
  refine lv_iload hx hb dL_law_874 (lv_at hl 4 rfl) ?_
  refine lv_iconst (v := 1) hx hb dL_law_876 (by decide) ?_
  refine lv_iadd hx hb dL_law_877 ?_
  refine va_sld hx hb hX hbl hbA hW.2.2.2.2.2.2 h1 dL_law_878 ?_
  obtain ⟨r, X2, M2, ex, em, hR2⟩ := hS X M hR (xs (nI i + 1).toNatClampNeg)
  refine lz_callx (As := [.int (xs (nI i + 1).toNatClampNeg)]) C hW (c_X11_convicts_0 ex) lk_L_120 rfl hl.1 ⟨rfl, rfl⟩ ⟨Nat.le_of_ble_eq_true rfl, Nat.le_of_ble_eq_true rfl⟩ (Nat.le_of_ble_eq_true rfl) ⟨Nat.le_trans hK2 (by decide), Nat.le_trans hN2 (by decide)⟩ rfl dL_law_879 (fun H locs hW => ?_)
  refine lv_aload_n hx hb dL_law_882 rfl (lv_at hl 2 rfl) ?_
  refine lv_aload_n hx hb dL_law_883 rfl (lv_at hl 0 rfl) ?_
  refine lv_iload hx hb dL_law_884 (lv_at hl 4 rfl) ?_
  refine lv_iconst (v := 1) hx hb dL_law_886 (by decide) ?_
  refine lv_iadd hx hb dL_law_887 ?_
  refine va_sld hx hb hX hbl hbA hW.2.2.2.2.2.2 h1 dL_law_888 ?_
  refine lz_callm (As := [.int (xs (nI i + 1).toNatClampNeg)]) C hW (c_X12_convicts_0 em) lk_L_123 rfl hl.1 ⟨rfl, rfl⟩ ⟨Nat.le_of_ble_eq_true rfl, Nat.le_of_ble_eq_true rfl⟩ (Nat.le_of_ble_eq_true rfl) ⟨Nat.le_trans hK2 (by decide), Nat.le_trans hN2 (by decide)⟩ rfl dL_law_889 (fun H locs hW => ?_)
  refine lv_icmp_eq (tgt := 1670) hx hb dL_law_892 (by decide) (fun _ => ?_) (fun g => absurd rfl g)
  exact nxt X2 M2 f H locs K N ls hR2 hW (by omega) (by omega) hl
set_option maxHeartbeats 4000000 in
set_option maxRecDepth 20000 in
theorem lc_22 (hS : S_all F Rel) (C : zC p s m #[Value.ref b] meth c code 7 RL ret) (hX : va_X b L xs s s.heap) (hbl : b < s.heap.size) (hi : i ≤ 320) (h1 : vp_in (nI i + 1) L) (h2 : vp_in (nI i + 2) L) (h3 : vp_in (nI i + 3) L) (h4 : vp_in (nI i + 4) L)  (nxt : ∀ (X M : Zs) (f : Nat → Int64) (H : Heap) (locs : List Loc) (K N : Nat) (ls : Array Slot), Rel X M → lW D cs ad am o s X M f H locs → K ≤ 1000 + 2 * (i + 5) → N ≤ 100000 + 40 * (i + 5) → lv_has ls 7 [(0, .ref b), (1, .ref (ad 0)), (2, .ref (am 0)), (3, .ref o), (4, .int (nI i))] → W p l e room_1 s m #[Value.ref b] below meth c H locs K N Q (F0 m 1670 ls [])) {X M : Zs} {f : Nat → Int64} {H : Heap} {locs : List Loc} {K N : Nat} {ls : Array Slot} (hR : Rel X M) (hW : lW D cs ad am o s X M f H locs) (hK : K ≤ 1000 + 2 * i) (hN : N ≤ 100000 + 40 * i) (hl : lv_has ls 7 [(0, .ref b), (1, .ref (ad 0)), (2, .ref (am 0)), (3, .ref o), (4, .int (nI i))]) : W p l e room_1 s m #[Value.ref b] below meth c H locs K N Q (F0 m 897 ls []) := by
  obtain ⟨hx, hb, hml, hown, hts, hret, hlk⟩ := id C
  have hbA : ¬ lA s b := Nat.not_le.mpr hbl
  have hK2 : K ≤ 2000 := by omega
  have hN2 : N ≤ 200000 := by omega
  refine lv_aload_n hx hb dL_law_897 rfl (lv_at hl 1 rfl) ?_
  refine lv_aload_n hx hb dL_law_898 rfl (lv_at hl 0 rfl) ?_
  refine lv_iload hx hb dL_law_899 (lv_at hl 4 rfl) ?_
  refine lv_iconst (v := 1) hx hb dL_law_901 (by decide) ?_
  refine lv_iadd hx hb dL_law_902 ?_
  refine va_sld hx hb hX hbl hbA hW.2.2.2.2.2.2 h1 dL_law_903 ?_
  obtain ⟨r, X2, M2, ex, em, hR2⟩ := hS X M hR (xs (nI i + 1).toNatClampNeg)
  refine lz_callx (As := [.int (xs (nI i + 1).toNatClampNeg)]) C hW (c_X11_all_0 ex) lk_L_124 rfl hl.1 ⟨rfl, rfl⟩ ⟨Nat.le_of_ble_eq_true rfl, Nat.le_of_ble_eq_true rfl⟩ (Nat.le_of_ble_eq_true rfl) ⟨Nat.le_trans hK2 (by decide), Nat.le_trans hN2 (by decide)⟩ rfl dL_law_904 (fun H locs hW => ?_)
  refine lv_aload_n hx hb dL_law_907 rfl (lv_at hl 2 rfl) ?_
  refine lv_aload_n hx hb dL_law_908 rfl (lv_at hl 0 rfl) ?_
  refine lv_iload hx hb dL_law_909 (lv_at hl 4 rfl) ?_
  refine lv_iconst (v := 1) hx hb dL_law_911 (by decide) ?_
  refine lv_iadd hx hb dL_law_912 ?_
  refine va_sld hx hb hX hbl hbA hW.2.2.2.2.2.2 h1 dL_law_913 ?_
  refine lz_callm (As := [.int (xs (nI i + 1).toNatClampNeg)]) C hW (c_X12_all_0 em) lk_L_127 rfl hl.1 ⟨rfl, rfl⟩ ⟨Nat.le_of_ble_eq_true rfl, Nat.le_of_ble_eq_true rfl⟩ (Nat.le_of_ble_eq_true rfl) ⟨Nat.le_trans hK2 (by decide), Nat.le_trans hN2 (by decide)⟩ rfl dL_law_914 (fun H locs hW => ?_)
  refine lv_icmp_eq (tgt := 1670) hx hb dL_law_917 (by decide) (fun _ => ?_) (fun g => absurd rfl g)
  exact nxt X2 M2 f H locs K N ls hR2 hW (by omega) (by omega) hl
set_option maxHeartbeats 4000000 in
set_option maxRecDepth 20000 in
theorem lc_23 (hS : S_empty F Rel) (C : zC p s m #[Value.ref b] meth c code 7 RL ret) (hX : va_X b L xs s s.heap) (hbl : b < s.heap.size) (hi : i ≤ 320) (h1 : vp_in (nI i + 1) L) (h2 : vp_in (nI i + 2) L) (h3 : vp_in (nI i + 3) L) (h4 : vp_in (nI i + 4) L)  (nxt : ∀ (X M : Zs) (f : Nat → Int64) (H : Heap) (locs : List Loc) (K N : Nat) (ls : Array Slot), Rel X M → lW D cs ad am o s X M f H locs → K ≤ 1000 + 2 * (i + 5) → N ≤ 100000 + 40 * (i + 5) → lv_has ls 7 [(0, .ref b), (1, .ref (ad 0)), (2, .ref (am 0)), (3, .ref o), (4, .int (nI i))] → W p l e room_1 s m #[Value.ref b] below meth c H locs K N Q (F0 m 1670 ls [])) {X M : Zs} {f : Nat → Int64} {H : Heap} {locs : List Loc} {K N : Nat} {ls : Array Slot} (hR : Rel X M) (hW : lW D cs ad am o s X M f H locs) (hK : K ≤ 1000 + 2 * i) (hN : N ≤ 100000 + 40 * i) (hl : lv_has ls 7 [(0, .ref b), (1, .ref (ad 0)), (2, .ref (am 0)), (3, .ref o), (4, .int (nI i))]) : W p l e room_1 s m #[Value.ref b] below meth c H locs K N Q (F0 m 922 ls []) := by
  obtain ⟨hx, hb, hml, hown, hts, hret, hlk⟩ := id C
  have hbA : ¬ lA s b := Nat.not_le.mpr hbl
  have hK2 : K ≤ 2000 := by omega
  have hN2 : N ≤ 200000 := by omega
  refine lv_aload_n hx hb dL_law_922 rfl (lv_at hl 1 rfl) ?_
  obtain ⟨r, X2, M2, ex, em, hR2⟩ := hS X M hR 
  refine lz_callx (As := []) C hW (c_X11_empty_0 ex) lk_L_128 rfl hl.1 ⟨rfl, rfl⟩ ⟨Nat.le_of_ble_eq_true rfl, Nat.le_of_ble_eq_true rfl⟩ (Nat.le_of_ble_eq_true rfl) ⟨Nat.le_trans hK2 (by decide), Nat.le_trans hN2 (by decide)⟩ rfl dL_law_923 (fun H locs hW => ?_)
  refine lv_aload_n hx hb dL_law_926 rfl (lv_at hl 2 rfl) ?_
  refine lz_callm (As := []) C hW (c_X12_empty_0 em) lk_L_131 rfl hl.1 ⟨rfl, rfl⟩ ⟨Nat.le_of_ble_eq_true rfl, Nat.le_of_ble_eq_true rfl⟩ (Nat.le_of_ble_eq_true rfl) ⟨Nat.le_trans hK2 (by decide), Nat.le_trans hN2 (by decide)⟩ rfl dL_law_927 (fun H locs hW => ?_)
  refine lv_icmp_eq (tgt := 1670) hx hb dL_law_930 (by decide) (fun _ => ?_) (fun g => absurd rfl g)
  exact nxt X2 M2 f H locs K N ls hR2 hW (by omega) (by omega) hl
end LWL
