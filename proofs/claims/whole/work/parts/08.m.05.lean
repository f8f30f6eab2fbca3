section ZM
variable {p : Program} {l : Launch} {e : Env} {s : State} {m : MethodId} {args : Array Value} {below : List Frame} {meth : Method} {c : Code} {D : va_G} {cs ad : Nat → Nat}
def n_X12_rests_0_e (F : Nat)  (S : Zs) (x1 : Int32) : Option (Int32 × Zs) :=
  zpf S 0 (0 : Int32) (fun S1 => zcl (n_X12_isCode F S1 x1) (fun v3 S2 => if v3 = 0 then (some ((-1 : Int32), S2)) else (zcl (n_X12_provesAll_0 F S2 ) (fun v5 S4 => zld S4 14 2304 x1 (fun v6 => if v6 = (1000000 : Int32) then (some ((-2 : Int32), S4)) else (zpf S4 33 (0 : Int32) (fun S7 => zcl (n_X12_restsOn_0_15 F S7 x1) (fun v9 S8 => zpf S8 1 (0 : Int32) (fun S10 => zgf S10 33 (fun v11 => zcl (n_X12_enters_0 F S10 v11) (fun v13 S12 => zld S12 15 1 (0 : Int32) (fun v14 => zcl (n_X12_enters_0 F S12 v14) (fun v16 S15 => some (v9, S15))))))))))))))
set_option maxRecDepth 20000 in
set_option maxHeartbeats 4000000 in
theorem w_X12_rests_0_e {F : Nat} {q : (Int32 × Zs)} {S : Zs}  {x1 : Int32} {ls : Array Slot} {H : Heap} {locs : List Loc} (C : zC p s m args meth c cX12_rests 3 RX12 (some .int))  (h : n_X12_rests_0_e F  S x1 = some q) (hW : zW (mG D cs ad) s S H locs) (hl : lv_has ls 3 [(0, .ref (ad 0)), (1, .int x1)]) : W p l e (zR 2007 52193) s m args below meth c H locs 0 0 (zQi (mG D cs ad) q below args s) (F0 m 0 ls []) := by
  unfold n_X12_rests_0_e at h
  obtain ⟨hx, hb, hml, hown, hts, hret, hlk⟩ := id C
  refine lv_aload_n hx hb dX12_rests_0 rfl (lv_at hl 0 rfl) ?_
  refine lv_iconst (v := 0) hx hb dX12_rests_1 (by decide) ?_
  refine mp_0_0 C hW h fl_X12_3 dX12_rests_2 (fun S1 H locs h hW => ?_)
  refine lv_iload_n hx hb dX12_rests_5 rfl (lv_at hl 1 rfl) ?_
  refine zz_callSi (As := [.int x1]) C hW h (fun r hr => c_X12_isCode hr) lk_X12_142 rfl hl.1 ⟨rfl, rfl⟩ ⟨Nat.le_of_ble_eq_true rfl, Nat.le_of_ble_eq_true rfl⟩ (Nat.le_of_ble_eq_true rfl) ⟨Nat.zero_le _, Nat.zero_le _⟩ rfl dX12_rests_6 (fun v3 S2 H locs h hW => ?_)
  refine zz_ine (tgt := 14) C h dX12_rests_9 (by decide) (fun h => ?_) (fun h => ?_)
  · refine lv_aload_n hx hb dX12_rests_14 rfl (lv_at hl 0 rfl) ?_
    refine zz_callVv (As := []) C hW h (fun r hr => c_X12_provesAll_0 hr) lk_X12_397 (hW.recv mr_0) rfl hl.1 ⟨rfl, rfl⟩ ⟨Nat.le_of_ble_eq_true rfl, Nat.le_of_ble_eq_true rfl⟩ (Nat.le_of_ble_eq_true rfl) ⟨Nat.zero_le _, Nat.zero_le _⟩ rfl dX12_rests_15 (fun v5 S4 H locs h hW => ?_)
    refine lv_aload_n hx hb dX12_rests_18 rfl (lv_at hl 0 rfl) ?_
    refine mg_0_28 C hW fl_X12_387 dX12_rests_19 ?_
    refine lv_iload_n hx hb dX12_rests_22 rfl (lv_at hl 1 rfl) ?_
    refine ml_14 C hW h dX12_rests_23 (fun v6 h => ?_)
    refine lv_ldc (v := 1000000) hx hb hown (hts _ ct_X12_249) dX12_rests_24 ?_
    refine zz_cne (tgt := 32) C h dX12_rests_26 (by decide) (fun h => ?_) (fun h => ?_)
    · refine lv_aload_n hx hb dX12_rests_32 rfl (lv_at hl 0 rfl) ?_
      refine lv_iconst (v := 0) hx hb dX12_rests_33 (by decide) ?_
      refine mp_0_33 C hW h fl_X12_400 dX12_rests_34 (fun S7 H locs h hW => ?_)
      refine lv_aload_n hx hb dX12_rests_37 rfl (lv_at hl 0 rfl) ?_
      refine lv_iload_n hx hb dX12_rests_38 rfl (lv_at hl 1 rfl) ?_
      refine lv_aload_n hx hb dX12_rests_39 rfl (lv_at hl 0 rfl) ?_
      refine mg_0_34 C hW fl_X12_410 dX12_rests_40 ?_
      refine zz_callVi (As := [.int x1, .ref (ad 15)]) C hW h (fun r hr => c_X12_restsOn_0_15 hr) lk_X12_403 (hW.recv mr_0) rfl hl.1 ⟨rfl, rfl⟩ ⟨Nat.le_of_ble_eq_true rfl, Nat.le_of_ble_eq_true rfl⟩ (Nat.le_of_ble_eq_true rfl) ⟨Nat.zero_le _, Nat.zero_le _⟩ rfl dX12_rests_43 (fun v9 S8 H locs h hW => ?_)
      refine lv_istore_n (lv' := [(2, .int v9), (0, .ref (ad 0)), (1, .int x1)]) hx hb dX12_rests_46 rfl hl (by decide) rfl (fun ls hl => ?_)
      refine lv_aload_n hx hb dX12_rests_47 rfl (lv_at hl 1 rfl) ?_
      refine lv_iconst (v := 0) hx hb dX12_rests_48 (by decide) ?_
      refine mp_0_1 C hW h fl_X12_11 dX12_rests_49 (fun S10 H locs h hW => ?_)
      refine lv_aload_n hx hb dX12_rests_52 rfl (lv_at hl 1 rfl) ?_
      refine lv_aload_n hx hb dX12_rests_53 rfl (lv_at hl 1 rfl) ?_
      refine mg_0_33 C hW h fl_X12_400 dX12_rests_54 (fun v11 h => ?_)
      refine zz_callVv (As := [.int v11]) C hW h (fun r hr => c_X12_enters_0 hr) lk_X12_221 (hW.recv mr_0) rfl hl.1 ⟨rfl, rfl⟩ ⟨Nat.le_of_ble_eq_true rfl, Nat.le_of_ble_eq_true rfl⟩ (Nat.le_of_ble_eq_true rfl) ⟨Nat.zero_le _, Nat.zero_le _⟩ rfl dX12_rests_57 (fun v13 S12 H locs h hW => ?_)
      refine lv_aload_n hx hb dX12_rests_60 rfl (lv_at hl 1 rfl) ?_
      refine lv_aload_n hx hb dX12_rests_61 rfl (lv_at hl 1 rfl) ?_
      refine mg_0_34 C hW fl_X12_410 dX12_rests_62 ?_
      refine lv_iconst (v := 0) hx hb dX12_rests_65 (by decide) ?_
      refine ml_15 C hW h dX12_rests_66 (fun v14 h => ?_)
      refine zz_callVv (As := [.int v14]) C hW h (fun r hr => c_X12_enters_0 hr) lk_X12_221 (hW.recv mr_0) rfl hl.1 ⟨rfl, rfl⟩ ⟨Nat.le_of_ble_eq_true rfl, Nat.le_of_ble_eq_true rfl⟩ (Nat.le_of_ble_eq_true rfl) ⟨Nat.zero_le _, Nat.zero_le _⟩ rfl dX12_rests_67 (fun v16 S15 H locs h hW => ?_)
      refine lv_iload_n hx hb dX12_rests_70 rfl (lv_at hl 0 rfl) ?_
      exact zz_iret C rfl h hW dX12_rests_71
    · refine lv_bipush (v := -2) hx hb dX12_rests_29 (by decide) ?_
      exact zz_iret C rfl h hW dX12_rests_31
  · refine lv_iconst (v := -1) hx hb dX12_rests_12 (by decide) ?_
    exact zz_iret C rfl h hW dX12_rests_13
def n_X12_rests_0 (F : Nat) (S : Zs) (x1 : Int32) : Option (Int32 × Zs) := n_X12_rests_0_e F  S x1
theorem c_X12_rests_0 {l : Launch} {D : va_G} {cs ad : Nat → Nat} {F : Nat} {S : Zs} {x1 : Int32} {q : (Int32 × Zs)} (h : n_X12_rests_0 F S x1 = some q) : zMi l yX12_rests cX12_rests 3 (some .int) (zR 2007 52193) (mG D cs ad) [.ref (ad 0), .int x1] S q :=
  zz_enter (by decide) (Nat.le_of_ble_eq_true rfl) (fun p e s m below meth c ls C hW hl => w_X12_rests_0_e (F := F) C h hW (lv_sub hl [0, 1] rfl))
def n_X12_proved_0_b69 (F : Nat) (rc15 : Zs → Int32 → Int32 → Int32 → Option (Int32 × Zs)) (S : Zs) (x1 : Int32) (x3 : Int32) (t0 : Int32) : Option (Int32 × Zs) :=
  zlet (x3 + (1 : Int32)) (fun v1 => rc15 S x1 t0 v1)
set_option maxRecDepth 20000 in
set_option maxHeartbeats 4000000 in
theorem w_X12_proved_0_b69 {F : Nat} {q : (Int32 × Zs)} {S : Zs} {rc15 : Zs → Int32 → Int32 → Int32 → Option (Int32 × Zs)} {x1 : Int32} {x3 : Int32} {t0 : Int32} {ls : Array Slot} {H : Heap} {locs : List Loc} (C : zC p s m args meth c cX12_proved 4 RX12 (some .int)) (hrc15 : ∀ (S : Zs) (x1 : Int32) (x2 : Int32) (x3 : Int32) (H : Heap) (locs : List Loc) (ls : Array Slot), rc15 S x1 x2 x3 = some q → zW (mG D cs ad) s S H locs → lv_has ls 4 [(0, .ref (ad 0)), (1, .int x1), (2, .int x2), (3, .int x3)] → W p l e (zR 8 189) s m args below meth c H locs 0 0 (zQi (mG D cs ad) q below args s) (F0 m 15 ls [])) (h : n_X12_proved_0_b69 F rc15 S x1 x3 t0 = some q) (hW : zW (mG D cs ad) s S H locs) (hl : lv_has ls 4 [(0, .ref (ad 0)), (1, .int x1), (3, .int x3)]) : W p l e (zR 8 189) s m args below meth c H locs 0 0 (zQi (mG D cs ad) q below args s) (F0 m 69 ls [.int t0]) := by
  unfold n_X12_proved_0_b69 at h
  obtain ⟨hx, hb, hml, hown, hts, hret, hlk⟩ := id C
  refine lv_istore_n (lv' := [(2, .int t0), (0, .ref (ad 0)), (1, .int x1), (3, .int x3)]) hx hb dX12_proved_69 rfl hl (by decide) rfl (fun ls hl => ?_)
  obtain ⟨v1, ev1, h⟩ := zz_name h
  refine lv_iinc (v := v1) (lv' := [(3, .int v1), (2, .int t0), (0, .ref (ad 0)), (1, .int x1)]) hx hb dX12_proved_70 hl (k := 3) rfl ev1.symm (by decide) rfl (fun ls hl => ?_)
  refine lv_goto (tgt := 15) hx hb dX12_proved_73 (by decide) ?_
  exact hrc15 _ _ _ _ _ _ _ h hW (lv_sub hl [2, 3, 1, 0] rfl)
def n_X12_proved_0_b39 (F : Nat) (rc15 : Zs → Int32 → Int32 → Int32 → Option (Int32 × Zs)) (S : Zs) (x2 : Int32) (x3 : Int32) (t0 : Int32) (t1 : Int32) : Option (Int32 × Zs) :=
  zcl (n_X12_flag F S t0) (fun v2 S1 => zlet (t1 + v2) (fun v3 => zld S1 14 2304 x3 (fun v4 => if (1000000 : Int32) ≤ v4 then (n_X12_proved_0_b69 F rc15 S1 v3 x3 x2) else (zld S1 14 2304 x3 (fun v5 => zlet (if x2 < v5 then v5 else x2) (fun v6 => n_X12_proved_0_b69 F rc15 S1 v3 x3 v6))))))
set_option maxRecDepth 20000 in
set_option maxHeartbeats 4000000 in
theorem w_X12_proved_0_b39 {F : Nat} {q : (Int32 × Zs)} {S : Zs} {rc15 : Zs → Int32 → Int32 → Int32 → Option (Int32 × Zs)} {x2 : Int32} {x3 : Int32} {t0 : Int32} {t1 : Int32} {ls : Array Slot} {H : Heap} {locs : List Loc} (C : zC p s m args meth c cX12_proved 4 RX12 (some .int)) (hrc15 : ∀ (S : Zs) (x1 : Int32) (x2 : Int32) (x3 : Int32) (H : Heap) (locs : List Loc) (ls : Array Slot), rc15 S x1 x2 x3 = some q → zW (mG D cs ad) s S H locs → lv_has ls 4 [(0, .ref (ad 0)), (1, .int x1), (2, .int x2), (3, .int x3)] → W p l e (zR 8 189) s m args below meth c H locs 0 0 (zQi (mG D cs ad) q below args s) (F0 m 15 ls [])) (h : n_X12_proved_0_b39 F rc15 S x2 x3 t0 t1 = some q) (hW : zW (mG D cs ad) s S H locs) (hl : lv_has ls 4 [(0, .ref (ad 0)), (2, .int x2), (3, .int x3)]) : W p l e (zR 8 189) s m args below meth c H locs 0 0 (zQi (mG D cs ad) q below args s) (F0 m 39 ls [.int t0, .int t1]) := by
  unfold n_X12_proved_0_b39 at h
  obtain ⟨hx, hb, hml, hown, hts, hret, hlk⟩ := id C
  refine zz_callSi (As := [.int t0]) C hW h (fun r hr => c_X12_flag hr) lk_X12_52 rfl hl.1 ⟨rfl, rfl⟩ ⟨Nat.le_of_ble_eq_true rfl, Nat.le_of_ble_eq_true rfl⟩ (Nat.le_of_ble_eq_true rfl) ⟨Nat.zero_le _, Nat.zero_le _⟩ rfl dX12_proved_39 (fun v2 S1 H locs h hW => ?_)
  refine lv_iadd hx hb dX12_proved_42 ?_
  refine zz_leti h (fun v3 h => ?_)
  refine lv_istore_n (lv' := [(1, .int v3), (0, .ref (ad 0)), (2, .int x2), (3, .int x3)]) hx hb dX12_proved_43 rfl hl (by decide) rfl (fun ls hl => ?_)
  refine lv_aload_n hx hb dX12_proved_44 rfl (lv_at hl 1 rfl) ?_
  refine mg_0_28 C hW fl_X12_387 dX12_proved_45 ?_
  refine lv_iload_n hx hb dX12_proved_48 rfl (lv_at hl 3 rfl) ?_
  refine ml_14 C hW h dX12_proved_49 (fun v4 h => ?_)
  refine lv_ldc (v := 1000000) hx hb hown (hts _ ct_X12_249) dX12_proved_50 ?_
  refine zz_cge (tgt := 68) C h dX12_proved_52 (by decide) (fun h => ?_) (fun h => ?_)
  · refine lv_iload_n hx hb dX12_proved_68 rfl (lv_at hl 2 rfl) ?_
    exact w_X12_proved_0_b69 (F := F) C hrc15 h hW (lv_sub hl [1, 0, 3] rfl)
  · refine lv_iload_n hx hb dX12_proved_55 rfl (lv_at hl 2 rfl) ?_
    refine lv_aload_n hx hb dX12_proved_56 rfl (lv_at hl 1 rfl) ?_
    refine mg_0_28 C hW fl_X12_387 dX12_proved_57 ?_
    refine lv_iload_n hx hb dX12_proved_60 rfl (lv_at hl 3 rfl) ?_
    refine ml_14 C hW h dX12_proved_61 (fun v5 h => ?_)
    refine va_mmax hx hb (hml.trans hl.1.symm) hown (hts _ lkm_X12_407) (hts _ sm_max) (hts _ it_Math) (hts _ cd_max) (Nat.le_of_ble_eq_true rfl) (Nat.le_of_ble_eq_true rfl) (Nat.zero_le _) (Nat.zero_le _) dX12_proved_62 ?_
    refine zz_leti h (fun v6 h => ?_)
    refine lv_goto (tgt := 69) hx hb dX12_proved_65 (by decide) ?_
    exact w_X12_proved_0_b69 (F := F) C hrc15 h hW (lv_sub hl [1, 0, 3] rfl)
def n_X12_proved_0_b15_l (F : Nat) (rc15 : Zs → Int32 → Int32 → Int32 → Option (Int32 × Zs)) (S : Zs) (x1 : Int32) (x2 : Int32) (x3 : Int32) : Option (Int32 × Zs) :=
  if (2304 : Int32) ≤ x3 then (zpf S 1 (0 : Int32) (fun S1 => zcl (n_X12_enters_0 F S1 x2) (fun v3 S2 => some (x1, S2)))) else (zld S 14 2304 x3 (fun v4 => if (1000000 : Int32) ≤ v4 then (n_X12_proved_0_b39 F rc15 S x2 x3 (0 : Int32) x1) else (n_X12_proved_0_b39 F rc15 S x2 x3 (1 : Int32) x1)))
set_option maxRecDepth 20000 in
set_option maxHeartbeats 4000000 in
theorem w_X12_proved_0_b15_l {F : Nat} {q : (Int32 × Zs)} {S : Zs} {rc15 : Zs → Int32 → Int32 → Int32 → Option (Int32 × Zs)} {x1 : Int32} {x2 : Int32} {x3 : Int32} {ls : Array Slot} {H : Heap} {locs : List Loc} (C : zC p s m args meth c cX12_proved 4 RX12 (some .int)) (hrc15 : ∀ (S : Zs) (x1 : Int32) (x2 : Int32) (x3 : Int32) (H : Heap) (locs : List Loc) (ls : Array Slot), rc15 S x1 x2 x3 = some q → zW (mG D cs ad) s S H locs → lv_has ls 4 [(0, .ref (ad 0)), (1, .int x1), (2, .int x2), (3, .int x3)] → W p l e (zR 8 189) s m args below meth c H locs 0 0 (zQi (mG D cs ad) q below args s) (F0 m 15 ls [])) (h : n_X12_proved_0_b15_l F rc15 S x1 x2 x3 = some q) (hW : zW (mG D cs ad) s S H locs) (hl : lv_has ls 4 [(0, .ref (ad 0)), (1, .int x1), (2, .int x2), (3, .int x3)]) : W p l e (zR 8 189) s m args below meth c H locs 0 0 (zQi (mG D cs ad) q below args s) (F0 m 15 ls []) := by
  unfold n_X12_proved_0_b15_l at h
  obtain ⟨hx, hb, hml, hown, hts, hret, hlk⟩ := id C
  refine lv_iload_n hx hb dX12_proved_15 rfl (lv_at hl 3 rfl) ?_
  refine lv_sipush (v := 2304) hx hb dX12_proved_16 (by decide) ?_
  refine zz_cge (tgt := 76) C h dX12_proved_19 (by decide) (fun h => ?_) (fun h => ?_)
  · refine lv_aload_n hx hb dX12_proved_76 rfl (lv_at hl 0 rfl) ?_
    refine lv_iconst (v := 0) hx hb dX12_proved_77 (by decide) ?_
    refine mp_0_1 C hW h fl_X12_11 dX12_proved_78 (fun S1 H locs h hW => ?_)
    refine lv_aload_n hx hb dX12_proved_81 rfl (lv_at hl 0 rfl) ?_
    refine lv_iload_n hx hb dX12_proved_82 rfl (lv_at hl 2 rfl) ?_
    refine zz_callVv (As := [.int x2]) C hW h (fun r hr => c_X12_enters_0 hr) lk_X12_221 (hW.recv mr_0) rfl hl.1 ⟨rfl, rfl⟩ ⟨Nat.le_of_ble_eq_true rfl, Nat.le_of_ble_eq_true rfl⟩ (Nat.le_of_ble_eq_true rfl) ⟨Nat.zero_le _, Nat.zero_le _⟩ rfl dX12_proved_83 (fun v3 S2 H locs h hW => ?_)
    refine lv_iload_n hx hb dX12_proved_86 rfl (lv_at hl 1 rfl) ?_
    exact zz_iret C rfl h hW dX12_proved_87
  · refine lv_iload_n hx hb dX12_proved_22 rfl (lv_at hl 1 rfl) ?_
    refine lv_aload_n hx hb dX12_proved_23 rfl (lv_at hl 0 rfl) ?_
    refine mg_0_28 C hW fl_X12_387 dX12_proved_24 ?_
    refine lv_iload_n hx hb dX12_proved_27 rfl (lv_at hl 3 rfl) ?_
    refine ml_14 C hW h dX12_proved_28 (fun v4 h => ?_)
    refine lv_ldc (v := 1000000) hx hb hown (hts _ ct_X12_249) dX12_proved_29 ?_
    refine zz_cge (tgt := 38) C h dX12_proved_31 (by decide) (fun h => ?_) (fun h => ?_)
    · refine lv_iconst (v := 0) hx hb dX12_proved_38 (by decide) ?_
      exact w_X12_proved_0_b39 (F := F) C hrc15 h hW (lv_sub hl [0, 2, 3] rfl)
    · refine lv_iconst (v := 1) hx hb dX12_proved_34 (by decide) ?_
      refine lv_goto (tgt := 39) hx hb dX12_proved_35 (by decide) ?_
      exact w_X12_proved_0_b39 (F := F) C hrc15 h hW (lv_sub hl [0, 2, 3] rfl)
def n_X12_proved_0_b15 (F : Nat)  (S : Zs) (x1 : Int32) (x2 : Int32) (x3 : Int32) : Option (Int32 × Zs) :=
  zfix (fun (rc : (Zs × Int32 × Int32 × Int32) → Option (Int32 × Zs)) (u : (Zs × Int32 × Int32 × Int32)) => n_X12_proved_0_b15_l F  (fun S x1 x2 x3 => rc (S, x1, x2, x3)) u.1 u.2.1 u.2.2.1 u.2.2.2) F (S, x1, x2, x3)
theorem w_X12_proved_0_b15 {F : Nat} {q : (Int32 × Zs)}  (C : zC p s m args meth c cX12_proved 4 RX12 (some .int))  : ∀ (n : Nat) (S : Zs) (x1 : Int32) (x2 : Int32) (x3 : Int32) (H : Heap) (locs : List Loc) (ls : Array Slot), zfix (fun (rc : (Zs × Int32 × Int32 × Int32) → Option (Int32 × Zs)) (u : (Zs × Int32 × Int32 × Int32)) => n_X12_proved_0_b15_l F  (fun S x1 x2 x3 => rc (S, x1, x2, x3)) u.1 u.2.1 u.2.2.1 u.2.2.2) n (S, x1, x2, x3) = some q → zW (mG D cs ad) s S H locs → lv_has ls 4 [(0, .ref (ad 0)), (1, .int x1), (2, .int x2), (3, .int x3)] → W p l e (zR 8 189) s m args below meth c H locs 0 0 (zQi (mG D cs ad) q below args s) (F0 m 15 ls []) := by
  intro n
  induction n with
  | zero => intro S x1 x2 x3 H locs ls h; exact absurd h (fun h => by cases h)
  | succ n ih => intro S x1 x2 x3 H locs ls h hW hl; exact w_X12_proved_0_b15_l (F := F) C (fun S x1 x2 x3 H locs ls h hW hl => ih S x1 x2 x3 H locs ls h hW hl) h hW hl
def n_X12_proved_0_e (F : Nat)  (S : Zs)  : Option (Int32 × Zs) :=
  zpf S 0 (0 : Int32) (fun S1 => zcl (n_X12_provesAll_0 F S1 ) (fun v3 S2 => n_X12_proved_0_b15 F  S2 (0 : Int32) (0 : Int32) (0 : Int32)))
set_option maxRecDepth 20000 in
set_option maxHeartbeats 4000000 in
theorem w_X12_proved_0_e {F : Nat} {q : (Int32 × Zs)} {S : Zs}   {ls : Array Slot} {H : Heap} {locs : List Loc} (C : zC p s m args meth c cX12_proved 4 RX12 (some .int))  (h : n_X12_proved_0_e F  S  = some q) (hW : zW (mG D cs ad) s S H locs) (hl : lv_has ls 4 [(0, .ref (ad 0))]) : W p l e (zR 8 189) s m args below meth c H locs 0 0 (zQi (mG D cs ad) q below args s) (F0 m 0 ls []) := by
  unfold n_X12_proved_0_e at h
  obtain ⟨hx, hb, hml, hown, hts, hret, hlk⟩ := id C
  refine lv_aload_n hx hb dX12_proved_0 rfl (lv_at hl 0 rfl) ?_
  refine lv_iconst (v := 0) hx hb dX12_proved_1 (by decide) ?_
  refine mp_0_0 C hW h fl_X12_3 dX12_proved_2 (fun S1 H locs h hW => ?_)
  refine lv_aload_n hx hb dX12_proved_5 rfl (lv_at hl 0 rfl) ?_
  refine zz_callVv (As := []) C hW h (fun r hr => c_X12_provesAll_0 hr) lk_X12_397 (hW.recv mr_0) rfl hl.1 ⟨rfl, rfl⟩ ⟨Nat.le_of_ble_eq_true rfl, Nat.le_of_ble_eq_true rfl⟩ (Nat.le_of_ble_eq_true rfl) ⟨Nat.zero_le _, Nat.zero_le _⟩ rfl dX12_proved_6 (fun v3 S2 H locs h hW => ?_)
  refine lv_iconst (v := 0) hx hb dX12_proved_9 (by decide) ?_
  refine lv_istore_n (lv' := [(1, .int (0 : Int32)), (0, .ref (ad 0))]) hx hb dX12_proved_10 rfl hl (by decide) rfl (fun ls hl => ?_)
  refine lv_iconst (v := 0) hx hb dX12_proved_11 (by decide) ?_
  refine lv_istore_n (lv' := [(2, .int (0 : Int32)), (1, .int (0 : Int32)), (0, .ref (ad 0))]) hx hb dX12_proved_12 rfl hl (by decide) rfl (fun ls hl => ?_)
  refine lv_iconst (v := 0) hx hb dX12_proved_13 (by decide) ?_
  refine lv_istore_n (lv' := [(3, .int (0 : Int32)), (2, .int (0 : Int32)), (1, .int (0 : Int32)), (0, .ref (ad 0))]) hx hb dX12_proved_14 rfl hl (by decide) rfl (fun ls hl => ?_)
  exact w_X12_proved_0_b15 (F := F) C F _ _ _ _ _ _ _ h hW (lv_sub hl [3, 2, 1, 0] rfl)
def n_X12_proved_0 (F : Nat) (S : Zs)  : Option (Int32 × Zs) := n_X12_proved_0_e F  S 
theorem c_X12_proved_0 {l : Launch} {D : va_G} {cs ad : Nat → Nat} {F : Nat} {S : Zs}  {q : (Int32 × Zs)} (h : n_X12_proved_0 F S  = some q) : zMi l yX12_proved cX12_proved 4 (some .int) (zR 8 189) (mG D cs ad) [.ref (ad 0)] S q :=
  zz_enter (by decide) (Nat.le_of_ble_eq_true rfl) (fun p e s m below meth c ls C hW hl => w_X12_proved_0_e (F := F) C h hW (lv_sub hl [0] rfl))
def n_X12_gap_0_b62 (F : Nat) (rc13 : Zs → Int32 → Int32 → Option (Int32 × Zs)) (S : Zs) (x2 : Int32) (t0 : Int32) (t1 : Int32) : Option (Int32 × Zs) :=
  zlet (t1 ||| t0) (fun v1 => zlet (x2 + (1 : Int32)) (fun v2 => rc13 S v1 v2))
set_option maxRecDepth 20000 in
set_option maxHeartbeats 4000000 in
theorem w_X12_gap_0_b62 {F : Nat} {q : (Int32 × Zs)} {S : Zs} {rc13 : Zs → Int32 → Int32 → Option (Int32 × Zs)} {x2 : Int32} {t0 : Int32} {t1 : Int32} {ls : Array Slot} {H : Heap} {locs : List Loc} (C : zC p s m args meth c cX12_gap 3 RX12 (some .int)) (hrc13 : ∀ (S : Zs) (x1 : Int32) (x2 : Int32) (H : Heap) (locs : List Loc) (ls : Array Slot), rc13 S x1 x2 = some q → zW (mG D cs ad) s S H locs → lv_has ls 3 [(0, .ref (ad 0)), (1, .int x1), (2, .int x2)] → W p l e (zR 8 189) s m args below meth c H locs 0 0 (zQi (mG D cs ad) q below args s) (F0 m 13 ls [])) (h : n_X12_gap_0_b62 F rc13 S x2 t0 t1 = some q) (hW : zW (mG D cs ad) s S H locs) (hl : lv_has ls 3 [(0, .ref (ad 0)), (2, .int x2)]) : W p l e (zR 8 189) s m args below meth c H locs 0 0 (zQi (mG D cs ad) q below args s) (F0 m 62 ls [.int t0, .int t1]) := by
  unfold n_X12_gap_0_b62 at h
  obtain ⟨hx, hb, hml, hown, hts, hret, hlk⟩ := id C
  refine lv_ior hx hb dX12_gap_62 ?_
  refine zz_leti h (fun v1 h => ?_)
  refine lv_istore_n (lv' := [(1, .int v1), (0, .ref (ad 0)), (2, .int x2)]) hx hb dX12_gap_63 rfl hl (by decide) rfl (fun ls hl => ?_)
  obtain ⟨v2, ev2, h⟩ := zz_name h
  refine lv_iinc (v := v2) (lv' := [(2, .int v2), (1, .int v1), (0, .ref (ad 0))]) hx hb dX12_gap_64 hl (k := 2) rfl ev2.symm (by decide) rfl (fun ls hl => ?_)
  refine lv_goto (tgt := 13) hx hb dX12_gap_67 (by decide) ?_
  exact hrc13 _ _ _ _ _ _ h hW (lv_sub hl [2, 1, 0] rfl)
def n_X12_gap_0_b61 (F : Nat) (rc13 : Zs → Int32 → Int32 → Option (Int32 × Zs)) (S : Zs) (x2 : Int32) (t0 : Int32) : Option (Int32 × Zs) :=
  n_X12_gap_0_b62 F rc13 S x2 (0 : Int32) t0
set_option maxRecDepth 20000 in
set_option maxHeartbeats 4000000 in
theorem w_X12_gap_0_b61 {F : Nat} {q : (Int32 × Zs)} {S : Zs} {rc13 : Zs → Int32 → Int32 → Option (Int32 × Zs)} {x2 : Int32} {t0 : Int32} {ls : Array Slot} {H : Heap} {locs : List Loc} (C : zC p s m args meth c cX12_gap 3 RX12 (some .int)) (hrc13 : ∀ (S : Zs) (x1 : Int32) (x2 : Int32) (H : Heap) (locs : List Loc) (ls : Array Slot), rc13 S x1 x2 = some q → zW (mG D cs ad) s S H locs → lv_has ls 3 [(0, .ref (ad 0)), (1, .int x1), (2, .int x2)] → W p l e (zR 8 189) s m args below meth c H locs 0 0 (zQi (mG D cs ad) q below args s) (F0 m 13 ls [])) (h : n_X12_gap_0_b61 F rc13 S x2 t0 = some q) (hW : zW (mG D cs ad) s S H locs) (hl : lv_has ls 3 [(0, .ref (ad 0)), (2, .int x2)]) : W p l e (zR 8 189) s m args below meth c H locs 0 0 (zQi (mG D cs ad) q below args s) (F0 m 61 ls [.int t0]) := by
  unfold n_X12_gap_0_b61 at h
  obtain ⟨hx, hb, hml, hown, hts, hret, hlk⟩ := id C
  refine lv_iconst (v := 0) hx hb dX12_gap_61 (by decide) ?_
  exact w_X12_gap_0_b62 (F := F) C hrc13 h hW (lv_sub hl [0, 1] rfl)
def n_X12_gap_0_b13_l (F : Nat) (rc13 : Zs → Int32 → Int32 → Option (Int32 × Zs)) (S : Zs) (x1 : Int32) (x2 : Int32) : Option (Int32 × Zs) :=
  zgf S 9 (fun v1 => if v1 ≤ x2 then (some (x1, S)) else (zld S 4 6 x2 (fun v2 => zld S 14 2304 v2 (fun v3 => if v3 = (1000000 : Int32) then (zcl (n_X12_standing_0 F S ) (fun v5 S4 => zld S4 4 6 x2 (fun v6 => zcl (n_X12_followsFrom_0 F S4 v5 v6) (fun v8 S7 => if v8 = 0 then (n_X12_gap_0_b61 F rc13 S7 x2 x1) else (n_X12_gap_0_b62 F rc13 S7 x2 ((1 : Int32) <<< (x2 &&& 31)) x1))))) else (n_X12_gap_0_b61 F rc13 S x2 x1)))))
set_option maxRecDepth 20000 in
set_option maxHeartbeats 4000000 in
theorem w_X12_gap_0_b13_l {F : Nat} {q : (Int32 × Zs)} {S : Zs} {rc13 : Zs → Int32 → Int32 → Option (Int32 × Zs)} {x1 : Int32} {x2 : Int32} {ls : Array Slot} {H : Heap} {locs : List Loc} (C : zC p s m args meth c cX12_gap 3 RX12 (some .int)) (hrc13 : ∀ (S : Zs) (x1 : Int32) (x2 : Int32) (H : Heap) (locs : List Loc) (ls : Array Slot), rc13 S x1 x2 = some q → zW (mG D cs ad) s S H locs → lv_has ls 3 [(0, .ref (ad 0)), (1, .int x1), (2, .int x2)] → W p l e (zR 8 189) s m args below meth c H locs 0 0 (zQi (mG D cs ad) q below args s) (F0 m 13 ls [])) (h : n_X12_gap_0_b13_l F rc13 S x1 x2 = some q) (hW : zW (mG D cs ad) s S H locs) (hl : lv_has ls 3 [(0, .ref (ad 0)), (1, .int x1), (2, .int x2)]) : W p l e (zR 8 189) s m args below meth c H locs 0 0 (zQi (mG D cs ad) q below args s) (F0 m 13 ls []) := by
  unfold n_X12_gap_0_b13_l at h
  obtain ⟨hx, hb, hml, hown, hts, hret, hlk⟩ := id C
  refine lv_iload_n hx hb dX12_gap_13 rfl (lv_at hl 2 rfl) ?_
  refine lv_aload_n hx hb dX12_gap_14 rfl (lv_at hl 0 rfl) ?_
  refine mg_0_9 C hW h fl_X12_145 dX12_gap_15 (fun v1 h => ?_)
  refine zz_cge (tgt := 70) C h dX12_gap_18 (by decide) (fun h => ?_) (fun h => ?_)
  · refine lv_iload_n hx hb dX12_gap_70 rfl (lv_at hl 1 rfl) ?_
    exact zz_iret C rfl h hW dX12_gap_71
  · refine lv_iload_n hx hb dX12_gap_21 rfl (lv_at hl 1 rfl) ?_
    refine lv_aload_n hx hb dX12_gap_22 rfl (lv_at hl 0 rfl) ?_
    refine mg_0_28 C hW fl_X12_387 dX12_gap_23 ?_
    refine lv_aload_n hx hb dX12_gap_26 rfl (lv_at hl 0 rfl) ?_
    refine mg_0_10 C hW fl_X12_148 dX12_gap_27 ?_
    refine lv_iload_n hx hb dX12_gap_30 rfl (lv_at hl 2 rfl) ?_
    refine ml_4 C hW h dX12_gap_31 (fun v2 h => ?_)
    refine ml_14 C hW h dX12_gap_32 (fun v3 h => ?_)
    refine lv_ldc (v := 1000000) hx hb hown (hts _ ct_X12_249) dX12_gap_33 ?_
    refine zz_cne (tgt := 61) C h dX12_gap_35 (by decide) (fun h => ?_) (fun h => ?_)
    · exact w_X12_gap_0_b61 (F := F) C hrc13 h hW (lv_sub hl [0, 2] rfl)
    · refine lv_aload_n hx hb dX12_gap_38 rfl (lv_at hl 0 rfl) ?_
      refine lv_aload_n hx hb dX12_gap_39 rfl (lv_at hl 0 rfl) ?_
      refine zz_callVi (As := []) C hW h (fun r hr => c_X12_standing_0 hr) lk_X12_206 (hW.recv mr_0) rfl hl.1 ⟨rfl, rfl⟩ ⟨Nat.le_of_ble_eq_true rfl, Nat.le_of_ble_eq_true rfl⟩ (Nat.le_of_ble_eq_true rfl) ⟨Nat.zero_le _, Nat.zero_le _⟩ rfl dX12_gap_40 (fun v5 S4 H locs h hW => ?_)
      refine lv_aload_n hx hb dX12_gap_43 rfl (lv_at hl 0 rfl) ?_
      refine mg_0_10 C hW fl_X12_148 dX12_gap_44 ?_
      refine lv_iload_n hx hb dX12_gap_47 rfl (lv_at hl 2 rfl) ?_
      refine ml_4 C hW h dX12_gap_48 (fun v6 h => ?_)
      refine zz_callVi (As := [.int v5, .int v6]) C hW h (fun r hr => c_X12_followsFrom_0 hr) lk_X12_212 (hW.recv mr_0) rfl hl.1 ⟨rfl, rfl⟩ ⟨Nat.le_of_ble_eq_true rfl, Nat.le_of_ble_eq_true rfl⟩ (Nat.le_of_ble_eq_true rfl) ⟨Nat.zero_le _, Nat.zero_le _⟩ rfl dX12_gap_49 (fun v8 S7 H locs h hW => ?_)
      refine zz_ieq (tgt := 61) C h dX12_gap_52 (by decide) (fun h => ?_) (fun h => ?_)
      · exact w_X12_gap_0_b61 (F := F) C hrc13 h hW (lv_sub hl [0, 2] rfl)
      · refine lv_iconst (v := 1) hx hb dX12_gap_55 (by decide) ?_
        refine lv_iload_n hx hb dX12_gap_56 rfl (lv_at hl 2 rfl) ?_
        refine lv_ishl hx hb dX12_gap_57 ?_
        refine lv_goto (tgt := 62) hx hb dX12_gap_58 (by decide) ?_
        exact w_X12_gap_0_b62 (F := F) C hrc13 h hW (lv_sub hl [0, 2] rfl)
def n_X12_gap_0_b13 (F : Nat)  (S : Zs) (x1 : Int32) (x2 : Int32) : Option (Int32 × Zs) :=
  zfix (fun (rc : (Zs × Int32 × Int32) → Option (Int32 × Zs)) (u : (Zs × Int32 × Int32)) => n_X12_gap_0_b13_l F  (fun S x1 x2 => rc (S, x1, x2)) u.1 u.2.1 u.2.2) F (S, x1, x2)
theorem w_X12_gap_0_b13 {F : Nat} {q : (Int32 × Zs)}  (C : zC p s m args meth c cX12_gap 3 RX12 (some .int))  : ∀ (n : Nat) (S : Zs) (x1 : Int32) (x2 : Int32) (H : Heap) (locs : List Loc) (ls : Array Slot), zfix (fun (rc : (Zs × Int32 × Int32) → Option (Int32 × Zs)) (u : (Zs × Int32 × Int32)) => n_X12_gap_0_b13_l F  (fun S x1 x2 => rc (S, x1, x2)) u.1 u.2.1 u.2.2) n (S, x1, x2) = some q → zW (mG D cs ad) s S H locs → lv_has ls 3 [(0, .ref (ad 0)), (1, .int x1), (2, .int x2)] → W p l e (zR 8 189) s m args below meth c H locs 0 0 (zQi (mG D cs ad) q below args s) (F0 m 13 ls []) := by
  intro n
  induction n with
  | zero => intro S x1 x2 H locs ls h; exact absurd h (fun h => by cases h)
  | succ n ih => intro S x1 x2 H locs ls h hW hl; exact w_X12_gap_0_b13_l (F := F) C (fun S x1 x2 H locs ls h hW hl => ih S x1 x2 H locs ls h hW hl) h hW hl
def n_X12_gap_0_e (F : Nat)  (S : Zs)  : Option (Int32 × Zs) :=
  zpf S 0 (0 : Int32) (fun S1 => zcl (n_X12_provesAll_0 F S1 ) (fun v3 S2 => n_X12_gap_0_b13 F  S2 (0 : Int32) (0 : Int32)))
set_option maxRecDepth 20000 in
set_option maxHeartbeats 4000000 in
theorem w_X12_gap_0_e {F : Nat} {q : (Int32 × Zs)} {S : Zs}   {ls : Array Slot} {H : Heap} {locs : List Loc} (C : zC p s m args meth c cX12_gap 3 RX12 (some .int))  (h : n_X12_gap_0_e F  S  = some q) (hW : zW (mG D cs ad) s S H locs) (hl : lv_has ls 3 [(0, .ref (ad 0))]) : W p l e (zR 8 189) s m args below meth c H locs 0 0 (zQi (mG D cs ad) q below args s) (F0 m 0 ls []) := by
  unfold n_X12_gap_0_e at h
  obtain ⟨hx, hb, hml, hown, hts, hret, hlk⟩ := id C
  refine lv_aload_n hx hb dX12_gap_0 rfl (lv_at hl 0 rfl) ?_
  refine lv_iconst (v := 0) hx hb dX12_gap_1 (by decide) ?_
  refine mp_0_0 C hW h fl_X12_3 dX12_gap_2 (fun S1 H locs h hW => ?_)
  refine lv_aload_n hx hb dX12_gap_5 rfl (lv_at hl 0 rfl) ?_
  refine zz_callVv (As := []) C hW h (fun r hr => c_X12_provesAll_0 hr) lk_X12_397 (hW.recv mr_0) rfl hl.1 ⟨rfl, rfl⟩ ⟨Nat.le_of_ble_eq_true rfl, Nat.le_of_ble_eq_true rfl⟩ (Nat.le_of_ble_eq_true rfl) ⟨Nat.zero_le _, Nat.zero_le _⟩ rfl dX12_gap_6 (fun v3 S2 H locs h hW => ?_)
  refine lv_iconst (v := 0) hx hb dX12_gap_9 (by decide) ?_
  refine lv_istore_n (lv' := [(1, .int (0 : Int32)), (0, .ref (ad 0))]) hx hb dX12_gap_10 rfl hl (by decide) rfl (fun ls hl => ?_)
  refine lv_iconst (v := 0) hx hb dX12_gap_11 (by decide) ?_
  refine lv_istore_n (lv' := [(2, .int (0 : Int32)), (1, .int (0 : Int32)), (0, .ref (ad 0))]) hx hb dX12_gap_12 rfl hl (by decide) rfl (fun ls hl => ?_)
  exact w_X12_gap_0_b13 (F := F) C F _ _ _ _ _ _ h hW (lv_sub hl [2, 1, 0] rfl)
def n_X12_gap_0 (F : Nat) (S : Zs)  : Option (Int32 × Zs) := n_X12_gap_0_e F  S 
theorem c_X12_gap_0 {l : Launch} {D : va_G} {cs ad : Nat → Nat} {F : Nat} {S : Zs}  {q : (Int32 × Zs)} (h : n_X12_gap_0 F S  = some q) : zMi l yX12_gap cX12_gap 3 (some .int) (zR 8 189) (mG D cs ad) [.ref (ad 0)] S q :=
  zz_enter (by decide) (Nat.le_of_ble_eq_true rfl) (fun p e s m below meth c ls C hW hl => w_X12_gap_0_e (F := F) C h hW (lv_sub hl [0] rfl))
def n_X12_number_0_b35 (F : Nat)  (S : Zs) (t0 : Int32) : Option (Int32 × Zs) :=
  some (t0, S)
set_option maxRecDepth 20000 in
set_option maxHeartbeats 4000000 in
theorem w_X12_number_0_b35 {F : Nat} {q : (Int32 × Zs)} {S : Zs}  {t0 : Int32} {ls : Array Slot} {H : Heap} {locs : List Loc} (C : zC p s m args meth c cX12_number 2 RX12 (some .int))  (h : n_X12_number_0_b35 F  S t0 = some q) (hW : zW (mG D cs ad) s S H locs) (hl : lv_has ls 2 []) : W p l e (zR 3 66) s m args below meth c H locs 0 0 (zQi (mG D cs ad) q below args s) (F0 m 35 ls [.int t0]) := by
  unfold n_X12_number_0_b35 at h
  obtain ⟨hx, hb, hml, hown, hts, hret, hlk⟩ := id C
  exact zz_iret C rfl h hW dX12_number_35
def n_X12_number_0_e (F : Nat)  (S : Zs)  : Option (Int32 × Zs) :=
  zcl (n_X12_digit_0 F S (9 : Int32)) (fun v2 S1 => if 0 ≤ v2 then (zcl (n_X12_isDigit_0 F S1 ) (fun v4 S3 => if v4 = 0 then (n_X12_number_0_b35 F  S3 v2) else (zcl (n_X12_digit_0 F S3 (9 : Int32)) (fun v6 S5 => n_X12_number_0_b35 F  S5 (((10 : Int32) * v2) + v6))))) else (some ((-1 : Int32), S1)))
set_option maxRecDepth 20000 in
set_option maxHeartbeats 4000000 in
theorem w_X12_number_0_e {F : Nat} {q : (Int32 × Zs)} {S : Zs}   {ls : Array Slot} {H : Heap} {locs : List Loc} (C : zC p s m args meth c cX12_number 2 RX12 (some .int))  (h : n_X12_number_0_e F  S  = some q) (hW : zW (mG D cs ad) s S H locs) (hl : lv_has ls 2 [(0, .ref (ad 0))]) : W p l e (zR 3 66) s m args below meth c H locs 0 0 (zQi (mG D cs ad) q below args s) (F0 m 0 ls []) := by
  unfold n_X12_number_0_e at h
  obtain ⟨hx, hb, hml, hown, hts, hret, hlk⟩ := id C
  refine lv_aload_n hx hb dX12_number_0 rfl (lv_at hl 0 rfl) ?_
  refine lv_bipush (v := 9) hx hb dX12_number_1 (by decide) ?_
  refine zz_callVi (As := [.int (9 : Int32)]) C hW h (fun r hr => c_X12_digit_0 hr) lk_X12_96 (hW.recv mr_0) rfl hl.1 ⟨rfl, rfl⟩ ⟨Nat.le_of_ble_eq_true rfl, Nat.le_of_ble_eq_true rfl⟩ (Nat.le_of_ble_eq_true rfl) ⟨Nat.zero_le _, Nat.zero_le _⟩ rfl dX12_number_3 (fun v2 S1 H locs h hW => ?_)
  refine lv_istore_n (lv' := [(1, .int v2), (0, .ref (ad 0))]) hx hb dX12_number_6 rfl hl (by decide) rfl (fun ls hl => ?_)
  refine lv_iload_n hx hb dX12_number_7 rfl (lv_at hl 0 rfl) ?_
  refine zz_ige (tgt := 13) C h dX12_number_8 (by decide) (fun h => ?_) (fun h => ?_)
  · refine lv_aload_n hx hb dX12_number_13 rfl (lv_at hl 1 rfl) ?_
    refine zz_callVi (As := []) C hW h (fun r hr => c_X12_isDigit_0 hr) lk_X12_60 (hW.recv mr_0) rfl hl.1 ⟨rfl, rfl⟩ ⟨Nat.le_of_ble_eq_true rfl, Nat.le_of_ble_eq_true rfl⟩ (Nat.le_of_ble_eq_true rfl) ⟨Nat.zero_le _, Nat.zero_le _⟩ rfl dX12_number_14 (fun v4 S3 H locs h hW => ?_)
    refine zz_ieq (tgt := 34) C h dX12_number_17 (by decide) (fun h => ?_) (fun h => ?_)
    · refine lv_iload_n hx hb dX12_number_34 rfl (lv_at hl 0 rfl) ?_
      exact w_X12_number_0_b35 (F := F) C h hW (lv_sub hl [] rfl)
    · refine lv_bipush (v := 10) hx hb dX12_number_20 (by decide) ?_
      refine lv_iload_n hx hb dX12_number_22 rfl (lv_at hl 0 rfl) ?_
      refine lv_imul hx hb dX12_number_23 ?_
      refine lv_aload_n hx hb dX12_number_24 rfl (lv_at hl 1 rfl) ?_
      refine lv_bipush (v := 9) hx hb dX12_number_25 (by decide) ?_
      refine zz_callVi (As := [.int (9 : Int32)]) C hW h (fun r hr => c_X12_digit_0 hr) lk_X12_96 (hW.recv mr_0) rfl hl.1 ⟨rfl, rfl⟩ ⟨Nat.le_of_ble_eq_true rfl, Nat.le_of_ble_eq_true rfl⟩ (Nat.le_of_ble_eq_true rfl) ⟨Nat.zero_le _, Nat.zero_le _⟩ rfl dX12_number_27 (fun v6 S5 H locs h hW => ?_)
      refine lv_iadd hx hb dX12_number_30 ?_
      refine lv_goto (tgt := 35) hx hb dX12_number_31 (by decide) ?_
      exact w_X12_number_0_b35 (F := F) C h hW (lv_sub hl [] rfl)
  · refine lv_iconst (v := -1) hx hb dX12_number_11 (by decide) ?_
    exact zz_iret C rfl h hW dX12_number_12
def n_X12_number_0 (F : Nat) (S : Zs)  : Option (Int32 × Zs) := n_X12_number_0_e F  S 
theorem c_X12_number_0 {l : Launch} {D : va_G} {cs ad : Nat → Nat} {F : Nat} {S : Zs}  {q : (Int32 × Zs)} (h : n_X12_number_0 F S  = some q) : zMi l yX12_number cX12_number 2 (some .int) (zR 3 66) (mG D cs ad) [.ref (ad 0)] S q :=
  zz_enter (by decide) (Nat.le_of_ble_eq_true rfl) (fun p e s m below meth c ls C hW hl => w_X12_number_0_e (F := F) C h hW (lv_sub hl [0] rfl))
def n_X12_readsPlea_0_b34 (F : Nat)  (S : Zs)  : Option (Int32 × Zs) :=
  zrb (0 : Int32) S
set_option maxRecDepth 20000 in
set_option maxHeartbeats 4000000 in
theorem w_X12_readsPlea_0_b34 {F : Nat} {q : (Int32 × Zs)} {S : Zs}   {ls : Array Slot} {H : Heap} {locs : List Loc} (C : zC p s m args meth c cX12_readsPlea 2 RX12 (some .boolean))  (h : n_X12_readsPlea_0_b34 F  S  = some q) (hW : zW (mG D cs ad) s S H locs) (hl : lv_has ls 2 []) : W p l e (zR 6 130) s m args below meth c H locs 0 0 (zQi (mG D cs ad) q below args s) (F0 m 34 ls []) := by
  unfold n_X12_readsPlea_0_b34 at h
  obtain ⟨hx, hb, hml, hown, hts, hret, hlk⟩ := id C
  refine lv_iconst (v := 0) hx hb dX12_readsPlea_34 (by decide) ?_
  exact zz_zret C rfl h hW dX12_readsPlea_35
def n_X12_readsPlea_0_b128 (F : Nat)  (S : Zs) (t0 : Int32) : Option (Int32 × Zs) :=
  zrb t0 S
set_option maxRecDepth 20000 in
set_option maxHeartbeats 4000000 in
theorem w_X12_readsPlea_0_b128 {F : Nat} {q : (Int32 × Zs)} {S : Zs}  {t0 : Int32} {ls : Array Slot} {H : Heap} {locs : List Loc} (C : zC p s m args meth c cX12_readsPlea 2 RX12 (some .boolean))  (h : n_X12_readsPlea_0_b128 F  S t0 = some q) (hW : zW (mG D cs ad) s S H locs) (hl : lv_has ls 2 []) : W p l e (zR 6 130) s m args below meth c H locs 0 0 (zQi (mG D cs ad) q below args s) (F0 m 128 ls [.int t0]) := by
  unfold n_X12_readsPlea_0_b128 at h
  obtain ⟨hx, hb, hml, hown, hts, hret, hlk⟩ := id C
  exact zz_zret C rfl h hW dX12_readsPlea_128
def n_X12_readsPlea_0_b94 (F : Nat)  (S : Zs) (x1 : Int32) : Option (Int32 × Zs) :=
  zcl (n_X12_readsCode_0 F S ) (fun v2 S1 => zst S1 16 40 x1 v2 (fun S3 => zgf S3 36 (fun v4 => zpf S3 36 (v4 + (1 : Int32)) (fun S5 => zld S5 16 40 x1 (fun v6 => if v6 < 0 then (n_X12_readsPlea_0_b128 F  S5 (0 : Int32)) else (n_X12_readsPlea_0_b128 F  S5 (1 : Int32)))))))
set_option maxRecDepth 20000 in
set_option maxHeartbeats 4000000 in
theorem w_X12_readsPlea_0_b94 {F : Nat} {q : (Int32 × Zs)} {S : Zs}  {x1 : Int32} {ls : Array Slot} {H : Heap} {locs : List Loc} (C : zC p s m args meth c cX12_readsPlea 2 RX12 (some .boolean))  (h : n_X12_readsPlea_0_b94 F  S x1 = some q) (hW : zW (mG D cs ad) s S H locs) (hl : lv_has ls 2 [(0, .ref (ad 0)), (1, .int x1)]) : W p l e (zR 6 130) s m args below meth c H locs 0 0 (zQi (mG D cs ad) q below args s) (F0 m 94 ls []) := by
  unfold n_X12_readsPlea_0_b94 at h
  obtain ⟨hx, hb, hml, hown, hts, hret, hlk⟩ := id C
  refine lv_aload_n hx hb dX12_readsPlea_94 rfl (lv_at hl 0 rfl) ?_
  refine mg_0_37 C hW fl_X12_428 dX12_readsPlea_95 ?_
  refine lv_iload_n hx hb dX12_readsPlea_98 rfl (lv_at hl 1 rfl) ?_
  refine lv_aload_n hx hb dX12_readsPlea_99 rfl (lv_at hl 0 rfl) ?_
  refine zz_callVi (As := []) C hW h (fun r hr => c_X12_readsCode_0 hr) lk_X12_90 (hW.recv mr_0) rfl hl.1 ⟨rfl, rfl⟩ ⟨Nat.le_of_ble_eq_true rfl, Nat.le_of_ble_eq_true rfl⟩ (Nat.le_of_ble_eq_true rfl) ⟨Nat.zero_le _, Nat.zero_le _⟩ rfl dX12_readsPlea_100 (fun v2 S1 H locs h hW => ?_)
  refine ms_16 C hW h dX12_readsPlea_103 (fun S3 H locs h hW => ?_)
  refine lv_aload_n hx hb dX12_readsPlea_104 rfl (lv_at hl 0 rfl) ?_
  refine lv_dup hx hb dX12_readsPlea_105 rfl ?_
  refine mg_0_36 C hW h fl_X12_413 dX12_readsPlea_106 (fun v4 h => ?_)
  refine lv_iconst (v := 1) hx hb dX12_readsPlea_109 (by decide) ?_
  refine lv_iadd hx hb dX12_readsPlea_110 ?_
  refine mp_0_36 C hW h fl_X12_413 dX12_readsPlea_111 (fun S5 H locs h hW => ?_)
  refine lv_aload_n hx hb dX12_readsPlea_114 rfl (lv_at hl 0 rfl) ?_
  refine mg_0_37 C hW fl_X12_428 dX12_readsPlea_115 ?_
  refine lv_iload_n hx hb dX12_readsPlea_118 rfl (lv_at hl 1 rfl) ?_
  refine ml_16 C hW h dX12_readsPlea_119 (fun v6 h => ?_)
  refine zz_ilt (tgt := 127) C h dX12_readsPlea_120 (by decide) (fun h => ?_) (fun h => ?_)
  · refine lv_iconst (v := 0) hx hb dX12_readsPlea_127 (by decide) ?_
    exact w_X12_readsPlea_0_b128 (F := F) C h hW (lv_sub hl [] rfl)
  · refine lv_iconst (v := 1) hx hb dX12_readsPlea_123 (by decide) ?_
    refine lv_goto (tgt := 128) hx hb dX12_readsPlea_124 (by decide) ?_
    exact w_X12_readsPlea_0_b128 (F := F) C h hW (lv_sub hl [] rfl)
def n_X12_readsPlea_0_e (F : Nat)  (S : Zs)  : Option (Int32 × Zs) :=
  zgf S 36 (fun v1 => zcl (n_X12_digit_0 F S (3 : Int32)) (fun v3 S2 => zst S2 17 40 v1 v3 (fun S4 => zld S4 17 40 v1 (fun v5 => if v5 < 0 then (n_X12_readsPlea_0_b34 F  S4 ) else (zcl (n_X12_takes_0 F S4 (58 : Int32)) (fun v7 S6 => if v7 = 0 then (n_X12_readsPlea_0_b34 F  S6 ) else (zcl (n_X12_number_0 F S6 ) (fun v9 S8 => zst S8 18 40 v1 v9 (fun S10 => zld S10 18 40 v1 (fun v11 => if 0 ≤ v11 then (zst S10 19 40 v1 (-1 : Int32) (fun S12 => zcl (n_X12_takes_0 F S12 (43 : Int32)) (fun v14 S13 => if v14 = 0 then (n_X12_readsPlea_0_b94 F  S13 v1) else (zcl (n_X12_number_0 F S13 ) (fun v16 S15 => zst S15 19 40 v1 v16 (fun S17 => zld S17 19 40 v1 (fun v18 => if 0 ≤ v18 then (n_X12_readsPlea_0_b94 F  S17 v1) else (zrb (0 : Int32) S17)))))))) else (zrb (0 : Int32) S10)))))))))))
set_option maxRecDepth 20000 in
set_option maxHeartbeats 4000000 in
theorem w_X12_readsPlea_0_e {F : Nat} {q : (Int32 × Zs)} {S : Zs}   {ls : Array Slot} {H : Heap} {locs : List Loc} (C : zC p s m args meth c cX12_readsPlea 2 RX12 (some .boolean))  (h : n_X12_readsPlea_0_e F  S  = some q) (hW : zW (mG D cs ad) s S H locs) (hl : lv_has ls 2 [(0, .ref (ad 0))]) : W p l e (zR 6 130) s m args below meth c H locs 0 0 (zQi (mG D cs ad) q below args s) (F0 m 0 ls []) := by
  unfold n_X12_readsPlea_0_e at h
  obtain ⟨hx, hb, hml, hown, hts, hret, hlk⟩ := id C
  refine lv_aload_n hx hb dX12_readsPlea_0 rfl (lv_at hl 0 rfl) ?_
  refine mg_0_36 C hW h fl_X12_413 dX12_readsPlea_1 (fun v1 h => ?_)
  refine lv_istore_n (lv' := [(1, .int v1), (0, .ref (ad 0))]) hx hb dX12_readsPlea_4 rfl hl (by decide) rfl (fun ls hl => ?_)
  refine lv_aload_n hx hb dX12_readsPlea_5 rfl (lv_at hl 1 rfl) ?_
  refine mg_0_38 C hW fl_X12_416 dX12_readsPlea_6 ?_
  refine lv_iload_n hx hb dX12_readsPlea_9 rfl (lv_at hl 0 rfl) ?_
  refine lv_aload_n hx hb dX12_readsPlea_10 rfl (lv_at hl 1 rfl) ?_
  refine lv_iconst (v := 3) hx hb dX12_readsPlea_11 (by decide) ?_
  refine zz_callVi (As := [.int (3 : Int32)]) C hW h (fun r hr => c_X12_digit_0 hr) lk_X12_96 (hW.recv mr_0) rfl hl.1 ⟨rfl, rfl⟩ ⟨Nat.le_of_ble_eq_true rfl, Nat.le_of_ble_eq_true rfl⟩ (Nat.le_of_ble_eq_true rfl) ⟨Nat.zero_le _, Nat.zero_le _⟩ rfl dX12_readsPlea_12 (fun v3 S2 H locs h hW => ?_)
  refine ms_17 C hW h dX12_readsPlea_15 (fun S4 H locs h hW => ?_)
  refine lv_aload_n hx hb dX12_readsPlea_16 rfl (lv_at hl 1 rfl) ?_
  refine mg_0_38 C hW fl_X12_416 dX12_readsPlea_17 ?_
  refine lv_iload_n hx hb dX12_readsPlea_20 rfl (lv_at hl 0 rfl) ?_
  refine ml_17 C hW h dX12_readsPlea_21 (fun v5 h => ?_)
  refine zz_ilt (tgt := 34) C h dX12_readsPlea_22 (by decide) (fun h => ?_) (fun h => ?_)
  · exact w_X12_readsPlea_0_b34 (F := F) C h hW (lv_sub hl [] rfl)
  · refine lv_aload_n hx hb dX12_readsPlea_25 rfl (lv_at hl 1 rfl) ?_
    refine lv_bipush (v := 58) hx hb dX12_readsPlea_26 (by decide) ?_
    refine zz_callVi (As := [.int (58 : Int32)]) C hW h (fun r hr => c_X12_takes_0 hr) lk_X12_72 (hW.recv mr_0) rfl hl.1 ⟨rfl, rfl⟩ ⟨Nat.le_of_ble_eq_true rfl, Nat.le_of_ble_eq_true rfl⟩ (Nat.le_of_ble_eq_true rfl) ⟨Nat.zero_le _, Nat.zero_le _⟩ rfl dX12_readsPlea_28 (fun v7 S6 H locs h hW => ?_)
    refine zz_ine (tgt := 36) C h dX12_readsPlea_31 (by decide) (fun h => ?_) (fun h => ?_)
    · refine lv_aload_n hx hb dX12_readsPlea_36 rfl (lv_at hl 1 rfl) ?_
      refine mg_0_39 C hW fl_X12_419 dX12_readsPlea_37 ?_
      refine lv_iload_n hx hb dX12_readsPlea_40 rfl (lv_at hl 0 rfl) ?_
      refine lv_aload_n hx hb dX12_readsPlea_41 rfl (lv_at hl 1 rfl) ?_
      refine zz_callVi (As := []) C hW h (fun r hr => c_X12_number_0 hr) lk_X12_422 (hW.recv mr_0) rfl hl.1 ⟨rfl, rfl⟩ ⟨Nat.le_of_ble_eq_true rfl, Nat.le_of_ble_eq_true rfl⟩ (Nat.le_of_ble_eq_true rfl) ⟨Nat.zero_le _, Nat.zero_le _⟩ rfl dX12_readsPlea_42 (fun v9 S8 H locs h hW => ?_)
      refine ms_18 C hW h dX12_readsPlea_45 (fun S10 H locs h hW => ?_)
      refine lv_aload_n hx hb dX12_readsPlea_46 rfl (lv_at hl 1 rfl) ?_
      refine mg_0_39 C hW fl_X12_419 dX12_readsPlea_47 ?_
      refine lv_iload_n hx hb dX12_readsPlea_50 rfl (lv_at hl 0 rfl) ?_
      refine ml_18 C hW h dX12_readsPlea_51 (fun v11 h => ?_)
      refine zz_ige (tgt := 57) C h dX12_readsPlea_52 (by decide) (fun h => ?_) (fun h => ?_)
      · refine lv_aload_n hx hb dX12_readsPlea_57 rfl (lv_at hl 1 rfl) ?_
        refine mg_0_40 C hW fl_X12_425 dX12_readsPlea_58 ?_
        refine lv_iload_n hx hb dX12_readsPlea_61 rfl (lv_at hl 0 rfl) ?_
        refine lv_iconst (v := -1) hx hb dX12_readsPlea_62 (by decide) ?_
        refine ms_19 C hW h dX12_readsPlea_63 (fun S12 H locs h hW => ?_)
        refine lv_aload_n hx hb dX12_readsPlea_64 rfl (lv_at hl 1 rfl) ?_
        refine lv_bipush (v := 43) hx hb dX12_readsPlea_65 (by decide) ?_
        refine zz_callVi (As := [.int (43 : Int32)]) C hW h (fun r hr => c_X12_takes_0 hr) lk_X12_72 (hW.recv mr_0) rfl hl.1 ⟨rfl, rfl⟩ ⟨Nat.le_of_ble_eq_true rfl, Nat.le_of_ble_eq_true rfl⟩ (Nat.le_of_ble_eq_true rfl) ⟨Nat.zero_le _, Nat.zero_le _⟩ rfl dX12_readsPlea_67 (fun v14 S13 H locs h hW => ?_)
        refine zz_ieq (tgt := 94) C h dX12_readsPlea_70 (by decide) (fun h => ?_) (fun h => ?_)
        · exact w_X12_readsPlea_0_b94 (F := F) C h hW (lv_sub hl [1, 0] rfl)
        · refine lv_aload_n hx hb dX12_readsPlea_73 rfl (lv_at hl 1 rfl) ?_
          refine mg_0_40 C hW fl_X12_425 dX12_readsPlea_74 ?_
          refine lv_iload_n hx hb dX12_readsPlea_77 rfl (lv_at hl 0 rfl) ?_
          refine lv_aload_n hx hb dX12_readsPlea_78 rfl (lv_at hl 1 rfl) ?_
          refine zz_callVi (As := []) C hW h (fun r hr => c_X12_number_0 hr) lk_X12_422 (hW.recv mr_0) rfl hl.1 ⟨rfl, rfl⟩ ⟨Nat.le_of_ble_eq_true rfl, Nat.le_of_ble_eq_true rfl⟩ (Nat.le_of_ble_eq_true rfl) ⟨Nat.zero_le _, Nat.zero_le _⟩ rfl dX12_readsPlea_79 (fun v16 S15 H locs h hW => ?_)
          refine ms_19 C hW h dX12_readsPlea_82 (fun S17 H locs h hW => ?_)
          refine lv_aload_n hx hb dX12_readsPlea_83 rfl (lv_at hl 1 rfl) ?_
          refine mg_0_40 C hW fl_X12_425 dX12_readsPlea_84 ?_
          refine lv_iload_n hx hb dX12_readsPlea_87 rfl (lv_at hl 0 rfl) ?_
          refine ml_19 C hW h dX12_readsPlea_88 (fun v18 h => ?_)
          refine zz_ige (tgt := 94) C h dX12_readsPlea_89 (by decide) (fun h => ?_) (fun h => ?_)
          · exact w_X12_readsPlea_0_b94 (F := F) C h hW (lv_sub hl [1, 0] rfl)
          · refine lv_iconst (v := 0) hx hb dX12_readsPlea_92 (by decide) ?_
            exact zz_zret C rfl h hW dX12_readsPlea_93
      · refine lv_iconst (v := 0) hx hb dX12_readsPlea_55 (by decide) ?_
        exact zz_zret C rfl h hW dX12_readsPlea_56
    · exact w_X12_readsPlea_0_b34 (F := F) C h hW (lv_sub hl [] rfl)
def n_X12_readsPlea_0 (F : Nat) (S : Zs)  : Option (Int32 × Zs) := n_X12_readsPlea_0_e F  S 
theorem c_X12_readsPlea_0 {l : Launch} {D : va_G} {cs ad : Nat → Nat} {F : Nat} {S : Zs}  {q : (Int32 × Zs)} (h : n_X12_readsPlea_0 F S  = some q) : zMi l yX12_readsPlea cX12_readsPlea 2 (some .boolean) (zR 6 130) (mG D cs ad) [.ref (ad 0)] S q :=
  zz_enter (by decide) (Nat.le_of_ble_eq_true rfl) (fun p e s m below meth c ls C hW hl => w_X12_readsPlea_0_e (F := F) C h hW (lv_sub hl [0] rfl))
def n_X12_codeOfNumber_0_b57 (F : Nat)  (S : Zs) (t0 : Int32) : Option (Int32 × Zs) :=
  some (t0, S)
set_option maxRecDepth 20000 in
set_option maxHeartbeats 4000000 in
theorem w_X12_codeOfNumber_0_b57 {F : Nat} {q : (Int32 × Zs)} {S : Zs}  {t0 : Int32} {ls : Array Slot} {H : Heap} {locs : List Loc} (C : zC p s m args meth c cX12_codeOfNumber 3 RX12 (some .int))  (h : n_X12_codeOfNumber_0_b57 F  S t0 = some q) (hW : zW (mG D cs ad) s S H locs) (hl : lv_has ls 3 []) : W p l e (zR 1 21) s m args below meth c H locs 0 0 (zQi (mG D cs ad) q below args s) (F0 m 57 ls [.int t0]) := by
  unfold n_X12_codeOfNumber_0_b57 at h
  obtain ⟨hx, hb, hml, hown, hts, hret, hlk⟩ := id C
  exact zz_iret C rfl h hW dX12_codeOfNumber_57
def n_X12_codeOfNumber_0_b35 (F : Nat)  (S : Zs) (t0 : Int32) : Option (Int32 × Zs) :=
  some (t0, S)
set_option maxRecDepth 20000 in
set_option maxHeartbeats 4000000 in
theorem w_X12_codeOfNumber_0_b35 {F : Nat} {q : (Int32 × Zs)} {S : Zs}  {t0 : Int32} {ls : Array Slot} {H : Heap} {locs : List Loc} (C : zC p s m args meth c cX12_codeOfNumber 3 RX12 (some .int))  (h : n_X12_codeOfNumber_0_b35 F  S t0 = some q) (hW : zW (mG D cs ad) s S H locs) (hl : lv_has ls 3 []) : W p l e (zR 1 21) s m args below meth c H locs 0 0 (zQi (mG D cs ad) q below args s) (F0 m 35 ls [.int t0]) := by
  unfold n_X12_codeOfNumber_0_b35 at h
  obtain ⟨hx, hb, hml, hown, hts, hret, hlk⟩ := id C
  exact zz_iret C rfl h hW dX12_codeOfNumber_35
def n_X12_codeOfNumber_0_b34 (F : Nat)  (S : Zs)  : Option (Int32 × Zs) :=
  n_X12_codeOfNumber_0_b35 F  S (-1 : Int32)
set_option maxRecDepth 20000 in
set_option maxHeartbeats 4000000 in
theorem w_X12_codeOfNumber_0_b34 {F : Nat} {q : (Int32 × Zs)} {S : Zs}   {ls : Array Slot} {H : Heap} {locs : List Loc} (C : zC p s m args meth c cX12_codeOfNumber 3 RX12 (some .int))  (h : n_X12_codeOfNumber_0_b34 F  S  = some q) (hW : zW (mG D cs ad) s S H locs) (hl : lv_has ls 3 []) : W p l e (zR 1 21) s m args below meth c H locs 0 0 (zQi (mG D cs ad) q below args s) (F0 m 34 ls []) := by
  unfold n_X12_codeOfNumber_0_b34 at h
  obtain ⟨hx, hb, hml, hown, hts, hret, hlk⟩ := id C
  refine lv_iconst (v := -1) hx hb dX12_codeOfNumber_34 (by decide) ?_
  exact w_X12_codeOfNumber_0_b35 (F := F) C h hW (lv_sub hl [] rfl)
def n_X12_codeOfNumber_0_e (F : Nat)  (S : Zs) (x1 : Int32) (x2 : Int32) : Option (Int32 × Zs) :=
  if (16 : Int32) ≤ x1 then (if x2 ≤ (x1 - (16 : Int32)) then (n_X12_codeOfNumber_0_b57 F  S (-1 : Int32)) else (zld S 16 40 (x1 - (16 : Int32)) (fun v1 => n_X12_codeOfNumber_0_b57 F  S v1))) else (zgf S 3 (fun v2 => if v2 ≤ x1 then (n_X12_codeOfNumber_0_b34 F  S ) else (zgf S 7 (fun v3 => zcl (n_X12_has F S v3 x1) (fun v5 S4 => if v5 = 0 then (zld S4 2 16 x1 (fun v6 => n_X12_codeOfNumber_0_b35 F  S4 v6)) else (n_X12_codeOfNumber_0_b34 F  S4 ))))))
set_option maxRecDepth 20000 in
set_option maxHeartbeats 4000000 in
theorem w_X12_codeOfNumber_0_e {F : Nat} {q : (Int32 × Zs)} {S : Zs}  {x1 : Int32} {x2 : Int32} {ls : Array Slot} {H : Heap} {locs : List Loc} (C : zC p s m args meth c cX12_codeOfNumber 3 RX12 (some .int))  (h : n_X12_codeOfNumber_0_e F  S x1 x2 = some q) (hW : zW (mG D cs ad) s S H locs) (hl : lv_has ls 3 [(0, .ref (ad 0)), (1, .int x1), (2, .int x2)]) : W p l e (zR 1 21) s m args below meth c H locs 0 0 (zQi (mG D cs ad) q below args s) (F0 m 0 ls []) := by
  unfold n_X12_codeOfNumber_0_e at h
  obtain ⟨hx, hb, hml, hown, hts, hret, hlk⟩ := id C
  refine lv_iload_n hx hb dX12_codeOfNumber_0 rfl (lv_at hl 1 rfl) ?_
  refine lv_bipush (v := 16) hx hb dX12_codeOfNumber_1 (by decide) ?_
  refine zz_cge (tgt := 36) C h dX12_codeOfNumber_3 (by decide) (fun h => ?_) (fun h => ?_)
  · refine lv_iload_n hx hb dX12_codeOfNumber_36 rfl (lv_at hl 1 rfl) ?_
    refine lv_bipush (v := 16) hx hb dX12_codeOfNumber_37 (by decide) ?_
    refine lv_isub hx hb dX12_codeOfNumber_39 ?_
    refine lv_iload_n hx hb dX12_codeOfNumber_40 rfl (lv_at hl 2 rfl) ?_
    refine zz_cge (tgt := 56) C h dX12_codeOfNumber_41 (by decide) (fun h => ?_) (fun h => ?_)
    · refine lv_iconst (v := -1) hx hb dX12_codeOfNumber_56 (by decide) ?_
      exact w_X12_codeOfNumber_0_b57 (F := F) C h hW (lv_sub hl [] rfl)
    · refine lv_aload_n hx hb dX12_codeOfNumber_44 rfl (lv_at hl 0 rfl) ?_
      refine mg_0_37 C hW fl_X12_428 dX12_codeOfNumber_45 ?_
      refine lv_iload_n hx hb dX12_codeOfNumber_48 rfl (lv_at hl 1 rfl) ?_
      refine lv_bipush (v := 16) hx hb dX12_codeOfNumber_49 (by decide) ?_
      refine lv_isub hx hb dX12_codeOfNumber_51 ?_
      refine ml_16 C hW h dX12_codeOfNumber_52 (fun v1 h => ?_)
      refine lv_goto (tgt := 57) hx hb dX12_codeOfNumber_53 (by decide) ?_
      exact w_X12_codeOfNumber_0_b57 (F := F) C h hW (lv_sub hl [] rfl)
  · refine lv_iload_n hx hb dX12_codeOfNumber_6 rfl (lv_at hl 1 rfl) ?_
    refine lv_aload_n hx hb dX12_codeOfNumber_7 rfl (lv_at hl 0 rfl) ?_
    refine mg_0_3 C hW h fl_X12_105 dX12_codeOfNumber_8 (fun v2 h => ?_)
    refine zz_cge (tgt := 34) C h dX12_codeOfNumber_11 (by decide) (fun h => ?_) (fun h => ?_)
    · exact w_X12_codeOfNumber_0_b34 (F := F) C h hW (lv_sub hl [] rfl)
    · refine lv_aload_n hx hb dX12_codeOfNumber_14 rfl (lv_at hl 0 rfl) ?_
      refine mg_0_7 C hW h fl_X12_126 dX12_codeOfNumber_15 (fun v3 h => ?_)
      refine lv_iload_n hx hb dX12_codeOfNumber_18 rfl (lv_at hl 1 rfl) ?_
      refine zz_callSi (As := [.int v3, .int x1]) C hW h (fun r hr => c_X12_has hr) lk_X12_129 rfl hl.1 ⟨rfl, rfl⟩ ⟨Nat.le_of_ble_eq_true rfl, Nat.le_of_ble_eq_true rfl⟩ (Nat.le_of_ble_eq_true rfl) ⟨Nat.zero_le _, Nat.zero_le _⟩ rfl dX12_codeOfNumber_19 (fun v5 S4 H locs h hW => ?_)
      refine zz_ine (tgt := 34) C h dX12_codeOfNumber_22 (by decide) (fun h => ?_) (fun h => ?_)
      · exact w_X12_codeOfNumber_0_b34 (F := F) C h hW (lv_sub hl [] rfl)
      · refine lv_aload_n hx hb dX12_codeOfNumber_25 rfl (lv_at hl 0 rfl) ?_
        refine mg_0_4 C hW fl_X12_87 dX12_codeOfNumber_26 ?_
        refine lv_iload_n hx hb dX12_codeOfNumber_29 rfl (lv_at hl 1 rfl) ?_
        refine ml_2 C hW h dX12_codeOfNumber_30 (fun v6 h => ?_)
        refine lv_goto (tgt := 35) hx hb dX12_codeOfNumber_31 (by decide) ?_
        exact w_X12_codeOfNumber_0_b35 (F := F) C h hW (lv_sub hl [] rfl)
def n_X12_codeOfNumber_0 (F : Nat) (S : Zs) (x1 : Int32) (x2 : Int32) : Option (Int32 × Zs) := n_X12_codeOfNumber_0_e F  S x1 x2
theorem c_X12_codeOfNumber_0 {l : Launch} {D : va_G} {cs ad : Nat → Nat} {F : Nat} {S : Zs} {x1 : Int32} {x2 : Int32} {q : (Int32 × Zs)} (h : n_X12_codeOfNumber_0 F S x1 x2 = some q) : zMi l yX12_codeOfNumber cX12_codeOfNumber 3 (some .int) (zR 1 21) (mG D cs ad) [.ref (ad 0), .int x1, .int x2] S q :=
  zz_enter (by decide) (Nat.le_of_ble_eq_true rfl) (fun p e s m below meth c ls C hW hl => w_X12_codeOfNumber_0_e (F := F) C h hW (lv_sub hl [0, 1, 2] rfl))
def n_X12_fits_0_b103 (F : Nat)  (S : Zs)  : Option (Int32 × Zs) :=
  zrb (1 : Int32) S
set_option maxRecDepth 20000 in
set_option maxHeartbeats 4000000 in
theorem w_X12_fits_0_b103 {F : Nat} {q : (Int32 × Zs)} {S : Zs}   {ls : Array Slot} {H : Heap} {locs : List Loc} (C : zC p s m args meth c cX12_fits 7 RX12 (some .boolean))  (h : n_X12_fits_0_b103 F  S  = some q) (hW : zW (mG D cs ad) s S H locs) (hl : lv_has ls 7 []) : W p l e (zR 2 46) s m args below meth c H locs 0 0 (zQi (mG D cs ad) q below args s) (F0 m 103 ls []) := by
  unfold n_X12_fits_0_b103 at h
  obtain ⟨hx, hb, hml, hown, hts, hret, hlk⟩ := id C
  refine lv_iconst (v := 1) hx hb dX12_fits_103 (by decide) ?_
  exact zz_zret C rfl h hW dX12_fits_104
def n_X12_fits_0_b73_l (F : Nat) (rc73 : Zs → Int32 → Int32 → Int32 → Int32 → Option (Int32 × Zs)) (S : Zs) (x1 : Int32) (x2 : Int32) (x4 : Int32) (x5 : Int32) : Option (Int32 × Zs) :=
  if (4 : Int32) < x5 then (zrb (0 : Int32) S) else (zcl (n_X12_concludes F S x5 x1 x2) (fun v2 S1 => if v2 = x4 then (n_X12_fits_0_b103 F  S1 ) else (zcl (n_X12_concludes F S1 x5 x2 x1) (fun v4 S3 => if v4 = x4 then (n_X12_fits_0_b103 F  S3 ) else (zlet (x5 + (1 : Int32)) (fun v5 => rc73 S3 x1 x2 x4 v5))))))
set_option maxRecDepth 20000 in
set_option maxHeartbeats 4000000 in
theorem w_X12_fits_0_b73_l {F : Nat} {q : (Int32 × Zs)} {S : Zs} {rc73 : Zs → Int32 → Int32 → Int32 → Int32 → Option (Int32 × Zs)} {x1 : Int32} {x2 : Int32} {x4 : Int32} {x5 : Int32} {ls : Array Slot} {H : Heap} {locs : List Loc} (C : zC p s m args meth c cX12_fits 7 RX12 (some .boolean)) (hrc73 : ∀ (S : Zs) (x1 : Int32) (x2 : Int32) (x4 : Int32) (x5 : Int32) (H : Heap) (locs : List Loc) (ls : Array Slot), rc73 S x1 x2 x4 x5 = some q → zW (mG D cs ad) s S H locs → lv_has ls 7 [(1, .int x1), (2, .int x2), (4, .int x4), (5, .int x5)] → W p l e (zR 2 46) s m args below meth c H locs 0 0 (zQi (mG D cs ad) q below args s) (F0 m 73 ls [])) (h : n_X12_fits_0_b73_l F rc73 S x1 x2 x4 x5 = some q) (hW : zW (mG D cs ad) s S H locs) (hl : lv_has ls 7 [(1, .int x1), (2, .int x2), (4, .int x4), (5, .int x5)]) : W p l e (zR 2 46) s m args below meth c H locs 0 0 (zQi (mG D cs ad) q below args s) (F0 m 73 ls []) := by
  unfold n_X12_fits_0_b73_l at h
  obtain ⟨hx, hb, hml, hown, hts, hret, hlk⟩ := id C
  refine lv_iload hx hb dX12_fits_73 (lv_at hl 3 rfl) ?_
  refine lv_iconst (v := 4) hx hb dX12_fits_75 (by decide) ?_
  refine zz_cgt (tgt := 111) C h dX12_fits_76 (by decide) (fun h => ?_) (fun h => ?_)
  · refine lv_iconst (v := 0) hx hb dX12_fits_111 (by decide) ?_
    exact zz_zret C rfl h hW dX12_fits_112
  · refine lv_iload hx hb dX12_fits_79 (lv_at hl 3 rfl) ?_
    refine lv_iload_n hx hb dX12_fits_81 rfl (lv_at hl 0 rfl) ?_
    refine lv_iload_n hx hb dX12_fits_82 rfl (lv_at hl 1 rfl) ?_
    refine zz_callSi (As := [.int x5, .int x1, .int x2]) C hW h (fun r hr => c_X12_concludes hr) lk_X12_354 rfl hl.1 ⟨rfl, rfl⟩ ⟨Nat.le_of_ble_eq_true rfl, Nat.le_of_ble_eq_true rfl⟩ (Nat.le_of_ble_eq_true rfl) ⟨Nat.zero_le _, Nat.zero_le _⟩ rfl dX12_fits_83 (fun v2 S1 H locs h hW => ?_)
    refine lv_iload hx hb dX12_fits_86 (lv_at hl 2 rfl) ?_
    refine zz_ceq (tgt := 103) C h dX12_fits_88 (by decide) (fun h => ?_) (fun h => ?_)
    · exact w_X12_fits_0_b103 (F := F) C h hW (lv_sub hl [] rfl)
    · refine lv_iload hx hb dX12_fits_91 (lv_at hl 3 rfl) ?_
      refine lv_iload_n hx hb dX12_fits_93 rfl (lv_at hl 1 rfl) ?_
      refine lv_iload_n hx hb dX12_fits_94 rfl (lv_at hl 0 rfl) ?_
      refine zz_callSi (As := [.int x5, .int x2, .int x1]) C hW h (fun r hr => c_X12_concludes hr) lk_X12_354 rfl hl.1 ⟨rfl, rfl⟩ ⟨Nat.le_of_ble_eq_true rfl, Nat.le_of_ble_eq_true rfl⟩ (Nat.le_of_ble_eq_true rfl) ⟨Nat.zero_le _, Nat.zero_le _⟩ rfl dX12_fits_95 (fun v4 S3 H locs h hW => ?_)
      refine lv_iload hx hb dX12_fits_98 (lv_at hl 2 rfl) ?_
      refine zz_cne (tgt := 105) C h dX12_fits_100 (by decide) (fun h => ?_) (fun h => ?_)
      · obtain ⟨v5, ev5, h⟩ := zz_name h
        refine lv_iinc (v := v5) (lv' := [(5, .int v5), (1, .int x1), (2, .int x2), (4, .int x4)]) hx hb dX12_fits_105 hl (k := 3) rfl ev5.symm (by decide) rfl (fun ls hl => ?_)
        refine lv_goto (tgt := 73) hx hb dX12_fits_108 (by decide) ?_
        exact hrc73 _ _ _ _ _ _ _ _ h hW (lv_sub hl [1, 2, 3, 0] rfl)
      · exact w_X12_fits_0_b103 (F := F) C h hW (lv_sub hl [] rfl)
def n_X12_fits_0_b73 (F : Nat)  (S : Zs) (x1 : Int32) (x2 : Int32) (x4 : Int32) (x5 : Int32) : Option (Int32 × Zs) :=
  zfix (fun (rc : (Zs × Int32 × Int32 × Int32 × Int32) → Option (Int32 × Zs)) (u : (Zs × Int32 × Int32 × Int32 × Int32)) => n_X12_fits_0_b73_l F  (fun S x1 x2 x4 x5 => rc (S, x1, x2, x4, x5)) u.1 u.2.1 u.2.2.1 u.2.2.2.1 u.2.2.2.2) F (S, x1, x2, x4, x5)
theorem w_X12_fits_0_b73 {F : Nat} {q : (Int32 × Zs)}  (C : zC p s m args meth c cX12_fits 7 RX12 (some .boolean))  : ∀ (n : Nat) (S : Zs) (x1 : Int32) (x2 : Int32) (x4 : Int32) (x5 : Int32) (H : Heap) (locs : List Loc) (ls : Array Slot), zfix (fun (rc : (Zs × Int32 × Int32 × Int32 × Int32) → Option (Int32 × Zs)) (u : (Zs × Int32 × Int32 × Int32 × Int32)) => n_X12_fits_0_b73_l F  (fun S x1 x2 x4 x5 => rc (S, x1, x2, x4, x5)) u.1 u.2.1 u.2.2.1 u.2.2.2.1 u.2.2.2.2) n (S, x1, x2, x4, x5) = some q → zW (mG D cs ad) s S H locs → lv_has ls 7 [(1, .int x1), (2, .int x2), (4, .int x4), (5, .int x5)] → W p l e (zR 2 46) s m args below meth c H locs 0 0 (zQi (mG D cs ad) q below args s) (F0 m 73 ls []) := by
  intro n
  induction n with
  | zero => intro S x1 x2 x4 x5 H locs ls h; exact absurd h (fun h => by cases h)
  | succ n ih => intro S x1 x2 x4 x5 H locs ls h hW hl; exact w_X12_fits_0_b73_l (F := F) C (fun S x1 x2 x4 x5 H locs ls h hW hl => ih S x1 x2 x4 x5 H locs ls h hW hl) h hW hl
def n_X12_fits_0_b69 (F : Nat)  (S : Zs) (t0 : Int32) : Option (Int32 × Zs) :=
  zrb t0 S
set_option maxRecDepth 20000 in
set_option maxHeartbeats 4000000 in
theorem w_X12_fits_0_b69 {F : Nat} {q : (Int32 × Zs)} {S : Zs}  {t0 : Int32} {ls : Array Slot} {H : Heap} {locs : List Loc} (C : zC p s m args meth c cX12_fits 7 RX12 (some .boolean))  (h : n_X12_fits_0_b69 F  S t0 = some q) (hW : zW (mG D cs ad) s S H locs) (hl : lv_has ls 7 []) : W p l e (zR 2 46) s m args below meth c H locs 0 0 (zQi (mG D cs ad) q below args s) (F0 m 69 ls [.int t0]) := by
  unfold n_X12_fits_0_b69 at h
  obtain ⟨hx, hb, hml, hown, hts, hret, hlk⟩ := id C
  exact zz_zret C rfl h hW dX12_fits_69
def n_X12_fits_0_b64 (F : Nat)  (S : Zs)  : Option (Int32 × Zs) :=
  n_X12_fits_0_b69 F  S (1 : Int32)
set_option maxRecDepth 20000 in
set_option maxHeartbeats 4000000 in
theorem w_X12_fits_0_b64 {F : Nat} {q : (Int32 × Zs)} {S : Zs}   {ls : Array Slot} {H : Heap} {locs : List Loc} (C : zC p s m args meth c cX12_fits 7 RX12 (some .boolean))  (h : n_X12_fits_0_b64 F  S  = some q) (hW : zW (mG D cs ad) s S H locs) (hl : lv_has ls 7 []) : W p l e (zR 2 46) s m args below meth c H locs 0 0 (zQi (mG D cs ad) q below args s) (F0 m 64 ls []) := by
  unfold n_X12_fits_0_b64 at h
  obtain ⟨hx, hb, hml, hown, hts, hret, hlk⟩ := id C
  refine lv_iconst (v := 1) hx hb dX12_fits_64 (by decide) ?_
  refine lv_goto (tgt := 69) hx hb dX12_fits_65 (by decide) ?_
  exact w_X12_fits_0_b69 (F := F) C h hW (lv_sub hl [] rfl)
def n_X12_fits_0_e (F : Nat)  (S : Zs) (x1 : Int32) (x2 : Int32) (x3 : Int32) : Option (Int32 × Zs) :=
  zlet (x3 - x3 / (576 : Int32) * (576 : Int32)) (fun v1 => if 0 ≤ x2 then (n_X12_fits_0_b73 F  S x1 x2 v1 (1 : Int32)) else (zcl (n_X12_firstOf F S x1) (fun v3 S2 => zcl (n_X12_secondOf F S2 x1) (fun v5 S4 => if v1 = (((24 : Int32) * v5) + v3) then (n_X12_fits_0_b64 F  S4 ) else (if v1 = (((24 : Int32) * v3) + (v5 ^^^ (1 : Int32))) then (n_X12_fits_0_b64 F  S4 ) else (if v1 = (((24 : Int32) * v3) + v5) then (n_X12_fits_0_b64 F  S4 ) else (n_X12_fits_0_b69 F  S4 (0 : Int32))))))))
set_option maxRecDepth 20000 in
set_option maxHeartbeats 4000000 in
theorem w_X12_fits_0_e {F : Nat} {q : (Int32 × Zs)} {S : Zs}  {x1 : Int32} {x2 : Int32} {x3 : Int32} {ls : Array Slot} {H : Heap} {locs : List Loc} (C : zC p s m args meth c cX12_fits 7 RX12 (some .boolean))  (h : n_X12_fits_0_e F  S x1 x2 x3 = some q) (hW : zW (mG D cs ad) s S H locs) (hl : lv_has ls 7 [(1, .int x1), (2, .int x2), (3, .int x3)]) : W p l e (zR 2 46) s m args below meth c H locs 0 0 (zQi (mG D cs ad) q below args s) (F0 m 0 ls []) := by
  unfold n_X12_fits_0_e at h
  obtain ⟨hx, hb, hml, hown, hts, hret, hlk⟩ := id C
  refine lv_iload_n hx hb dX12_fits_0 rfl (lv_at hl 2 rfl) ?_
  refine lv_sipush (v := 576) hx hb dX12_fits_1 (by decide) ?_
  refine lv_irem hx hb dX12_fits_4 (by decide) ?_
  refine zz_leti h (fun v1 h => ?_)
  refine lv_istore (lv' := [(4, .int v1), (1, .int x1), (2, .int x2), (3, .int x3)]) hx hb dX12_fits_5 hl (by decide) rfl (fun ls hl => ?_)
  refine lv_iload_n hx hb dX12_fits_7 rfl (lv_at hl 2 rfl) ?_
  refine zz_ige (tgt := 70) C h dX12_fits_8 (by decide) (fun h => ?_) (fun h => ?_)
  · refine lv_iconst (v := 1) hx hb dX12_fits_70 (by decide) ?_
    refine lv_istore (lv' := [(5, .int (1 : Int32)), (4, .int v1), (1, .int x1), (2, .int x2), (3, .int x3)]) hx hb dX12_fits_71 hl (by decide) rfl (fun ls hl => ?_)
    exact w_X12_fits_0_b73 (F := F) C F _ _ _ _ _ _ _ _ h hW (lv_sub hl [2, 3, 1, 0] rfl)
  · refine lv_iload_n hx hb dX12_fits_11 rfl (lv_at hl 1 rfl) ?_
    refine zz_callSi (As := [.int x1]) C hW h (fun r hr => c_X12_firstOf hr) lk_X12_24 rfl hl.1 ⟨rfl, rfl⟩ ⟨Nat.le_of_ble_eq_true rfl, Nat.le_of_ble_eq_true rfl⟩ (Nat.le_of_ble_eq_true rfl) ⟨Nat.zero_le _, Nat.zero_le _⟩ rfl dX12_fits_12 (fun v3 S2 H locs h hW => ?_)
    refine lv_istore (lv' := [(5, .int v3), (4, .int v1), (1, .int x1), (2, .int x2), (3, .int x3)]) hx hb dX12_fits_15 hl (by decide) rfl (fun ls hl => ?_)
    refine lv_iload_n hx hb dX12_fits_17 rfl (lv_at hl 2 rfl) ?_
    refine zz_callSi (As := [.int x1]) C hW h (fun r hr => c_X12_secondOf hr) lk_X12_27 rfl hl.1 ⟨rfl, rfl⟩ ⟨Nat.le_of_ble_eq_true rfl, Nat.le_of_ble_eq_true rfl⟩ (Nat.le_of_ble_eq_true rfl) ⟨Nat.zero_le _, Nat.zero_le _⟩ rfl dX12_fits_18 (fun v5 S4 H locs h hW => ?_)
    refine lv_istore (lv' := [(6, .int v5), (5, .int v3), (4, .int v1), (1, .int x1), (2, .int x2), (3, .int x3)]) hx hb dX12_fits_21 hl (by decide) rfl (fun ls hl => ?_)
    refine lv_iload hx hb dX12_fits_23 (lv_at hl 2 rfl) ?_
    refine lv_bipush (v := 24) hx hb dX12_fits_25 (by decide) ?_
    refine lv_iload hx hb dX12_fits_27 (lv_at hl 0 rfl) ?_
    refine lv_imul hx hb dX12_fits_29 ?_
    refine lv_iload hx hb dX12_fits_30 (lv_at hl 1 rfl) ?_
    refine lv_iadd hx hb dX12_fits_32 ?_
    refine zz_ceq (tgt := 64) C h dX12_fits_33 (by decide) (fun h => ?_) (fun h => ?_)
    · exact w_X12_fits_0_b64 (F := F) C h hW (lv_sub hl [] rfl)
    · refine lv_iload hx hb dX12_fits_36 (lv_at hl 2 rfl) ?_
      refine lv_bipush (v := 24) hx hb dX12_fits_38 (by decide) ?_
      refine lv_iload hx hb dX12_fits_40 (lv_at hl 1 rfl) ?_
      refine lv_imul hx hb dX12_fits_42 ?_
      refine lv_iload hx hb dX12_fits_43 (lv_at hl 0 rfl) ?_
      refine lv_iconst (v := 1) hx hb dX12_fits_45 (by decide) ?_
      refine lv_ixor hx hb dX12_fits_46 ?_
      refine lv_iadd hx hb dX12_fits_47 ?_
      refine zz_ceq (tgt := 64) C h dX12_fits_48 (by decide) (fun h => ?_) (fun h => ?_)
      · exact w_X12_fits_0_b64 (F := F) C h hW (lv_sub hl [] rfl)
      · refine lv_iload hx hb dX12_fits_51 (lv_at hl 2 rfl) ?_
        refine lv_bipush (v := 24) hx hb dX12_fits_53 (by decide) ?_
        refine lv_iload hx hb dX12_fits_55 (lv_at hl 1 rfl) ?_
        refine lv_imul hx hb dX12_fits_57 ?_
        refine lv_iload hx hb dX12_fits_58 (lv_at hl 0 rfl) ?_
        refine lv_iadd hx hb dX12_fits_60 ?_
        refine zz_cne (tgt := 68) C h dX12_fits_61 (by decide) (fun h => ?_) (fun h => ?_)
        · refine lv_iconst (v := 0) hx hb dX12_fits_68 (by decide) ?_
          exact w_X12_fits_0_b69 (F := F) C h hW (lv_sub hl [] rfl)
        · exact w_X12_fits_0_b64 (F := F) C h hW (lv_sub hl [] rfl)
def n_X12_fits_0 (F : Nat) (S : Zs) (x1 : Int32) (x2 : Int32) (x3 : Int32) : Option (Int32 × Zs) := n_X12_fits_0_e F  S x1 x2 x3
theorem c_X12_fits_0 {l : Launch} {D : va_G} {cs ad : Nat → Nat} {F : Nat} {S : Zs} {x1 : Int32} {x2 : Int32} {x3 : Int32} {q : (Int32 × Zs)} (h : n_X12_fits_0 F S x1 x2 x3 = some q) : zMi l yX12_fits cX12_fits 7 (some .boolean) (zR 2 46) (mG D cs ad) [.ref (ad 0), .int x1, .int x2, .int x3] S q :=
  zz_enter (by decide) (Nat.le_of_ble_eq_true rfl) (fun p e s m below meth c ls C hW hl => w_X12_fits_0_e (F := F) C h hW (lv_sub hl [1, 2, 3] rfl))
def n_X12_moodFor_0_b86 (F : Nat) (rc12 : Zs → Int32 → Int32 → Int32 → Int32 → Int32 → Int32 → Option (Int32 × Zs)) (S : Zs) (x1 : Int32) (x2 : Int32) (x3 : Int32) (x4 : Int32) (x5 : Int32) (x6 : Int32) : Option (Int32 × Zs) :=
  zlet (x6 + (1 : Int32)) (fun v1 => rc12 S x1 x2 x3 x4 x5 v1)
set_option maxRecDepth 20000 in
set_option maxHeartbeats 4000000 in
theorem w_X12_moodFor_0_b86 {F : Nat} {q : (Int32 × Zs)} {S : Zs} {rc12 : Zs → Int32 → Int32 → Int32 → Int32 → Int32 → Int32 → Option (Int32 × Zs)} {x1 : Int32} {x2 : Int32} {x3 : Int32} {x4 : Int32} {x5 : Int32} {x6 : Int32} {ls : Array Slot} {H : Heap} {locs : List Loc} (C : zC p s m args meth c cX12_moodFor 8 RX12 (some .int)) (hrc12 : ∀ (S : Zs) (x1 : Int32) (x2 : Int32) (x3 : Int32) (x4 : Int32) (x5 : Int32) (x6 : Int32) (H : Heap) (locs : List Loc) (ls : Array Slot), rc12 S x1 x2 x3 x4 x5 x6 = some q → zW (mG D cs ad) s S H locs → lv_has ls 8 [(0, .ref (ad 0)), (1, .int x1), (2, .int x2), (3, .int x3), (4, .int x4), (5, .int x5), (6, .int x6)] → W p l e (zR 6 140) s m args below meth c H locs 0 0 (zQi (mG D cs ad) q below args s) (F0 m 12 ls [])) (h : n_X12_moodFor_0_b86 F rc12 S x1 x2 x3 x4 x5 x6 = some q) (hW : zW (mG D cs ad) s S H locs) (hl : lv_has ls 8 [(0, .ref (ad 0)), (1, .int x1), (2, .int x2), (3, .int x3), (4, .int x4), (5, .int x5), (6, .int x6)]) : W p l e (zR 6 140) s m args below meth c H locs 0 0 (zQi (mG D cs ad) q below args s) (F0 m 86 ls []) := by
  unfold n_X12_moodFor_0_b86 at h
  obtain ⟨hx, hb, hml, hown, hts, hret, hlk⟩ := id C
  obtain ⟨v1, ev1, h⟩ := zz_name h
  refine lv_iinc (v := v1) (lv' := [(6, .int v1), (0, .ref (ad 0)), (1, .int x1), (2, .int x2), (3, .int x3), (4, .int x4), (5, .int x5)]) hx hb dX12_moodFor_86 hl (k := 6) rfl ev1.symm (by decide) rfl (fun ls hl => ?_)
  refine lv_goto (tgt := 12) hx hb dX12_moodFor_89 (by decide) ?_
  exact hrc12 _ _ _ _ _ _ _ _ _ _ h hW (lv_sub hl [1, 2, 3, 4, 5, 6, 0] rfl)
def n_X12_moodFor_0_b67 (F : Nat) (rc12 : Zs → Int32 → Int32 → Int32 → Int32 → Int32 → Int32 → Option (Int32 × Zs)) (S : Zs) (x1 : Int32) (x2 : Int32) (x3 : Int32) (x4 : Int32) (x5 : Int32) (x6 : Int32) (t0 : Int32) : Option (Int32 × Zs) :=
  zcl (n_X12_has F S x1 x6) (fun v2 S1 => if v2 = 0 then (n_X12_moodFor_0_b86 F rc12 S1 x1 x2 x3 x4 x5 x6) else (if t0 = 0 then (n_X12_moodFor_0_b86 F rc12 S1 x1 x2 x3 x4 x5 x6) else (some (x6, S1))))
set_option maxRecDepth 20000 in
set_option maxHeartbeats 4000000 in
theorem w_X12_moodFor_0_b67 {F : Nat} {q : (Int32 × Zs)} {S : Zs} {rc12 : Zs → Int32 → Int32 → Int32 → Int32 → Int32 → Int32 → Option (Int32 × Zs)} {x1 : Int32} {x2 : Int32} {x3 : Int32} {x4 : Int32} {x5 : Int32} {x6 : Int32} {t0 : Int32} {ls : Array Slot} {H : Heap} {locs : List Loc} (C : zC p s m args meth c cX12_moodFor 8 RX12 (some .int)) (hrc12 : ∀ (S : Zs) (x1 : Int32) (x2 : Int32) (x3 : Int32) (x4 : Int32) (x5 : Int32) (x6 : Int32) (H : Heap) (locs : List Loc) (ls : Array Slot), rc12 S x1 x2 x3 x4 x5 x6 = some q → zW (mG D cs ad) s S H locs → lv_has ls 8 [(0, .ref (ad 0)), (1, .int x1), (2, .int x2), (3, .int x3), (4, .int x4), (5, .int x5), (6, .int x6)] → W p l e (zR 6 140) s m args below meth c H locs 0 0 (zQi (mG D cs ad) q below args s) (F0 m 12 ls [])) (h : n_X12_moodFor_0_b67 F rc12 S x1 x2 x3 x4 x5 x6 t0 = some q) (hW : zW (mG D cs ad) s S H locs) (hl : lv_has ls 8 [(0, .ref (ad 0)), (1, .int x1), (2, .int x2), (3, .int x3), (4, .int x4), (5, .int x5), (6, .int x6)]) : W p l e (zR 6 140) s m args below meth c H locs 0 0 (zQi (mG D cs ad) q below args s) (F0 m 67 ls [.int t0]) := by
  unfold n_X12_moodFor_0_b67 at h
  obtain ⟨hx, hb, hml, hown, hts, hret, hlk⟩ := id C
  refine lv_istore (lv' := [(7, .int t0), (0, .ref (ad 0)), (1, .int x1), (2, .int x2), (3, .int x3), (4, .int x4), (5, .int x5), (6, .int x6)]) hx hb dX12_moodFor_67 hl (by decide) rfl (fun ls hl => ?_)
  refine lv_iload_n hx hb dX12_moodFor_69 rfl (lv_at hl 2 rfl) ?_
  refine lv_iload hx hb dX12_moodFor_70 (lv_at hl 7 rfl) ?_
  refine zz_callSi (As := [.int x1, .int x6]) C hW h (fun r hr => c_X12_has hr) lk_X12_129 rfl hl.1 ⟨rfl, rfl⟩ ⟨Nat.le_of_ble_eq_true rfl, Nat.le_of_ble_eq_true rfl⟩ (Nat.le_of_ble_eq_true rfl) ⟨Nat.zero_le _, Nat.zero_le _⟩ rfl dX12_moodFor_72 (fun v2 S1 H locs h hW => ?_)
  refine zz_ieq (tgt := 86) C h dX12_moodFor_75 (by decide) (fun h => ?_) (fun h => ?_)
  · exact w_X12_moodFor_0_b86 (F := F) C hrc12 h hW (lv_sub hl [1, 2, 3, 4, 5, 6, 7] rfl)
  · refine lv_iload hx hb dX12_moodFor_78 (lv_at hl 0 rfl) ?_
    refine zz_ieq (tgt := 86) C h dX12_moodFor_80 (by decide) (fun h => ?_) (fun h => ?_)
    · exact w_X12_moodFor_0_b86 (F := F) C hrc12 h hW (lv_sub hl [1, 2, 3, 4, 5, 6, 7] rfl)
    · refine lv_iload hx hb dX12_moodFor_83 (lv_at hl 7 rfl) ?_
      exact zz_iret C rfl h hW dX12_moodFor_85
def n_X12_moodFor_0_b62 (F : Nat) (rc12 : Zs → Int32 → Int32 → Int32 → Int32 → Int32 → Int32 → Option (Int32 × Zs)) (S : Zs) (x1 : Int32) (x2 : Int32) (x3 : Int32) (x4 : Int32) (x5 : Int32) (x6 : Int32) : Option (Int32 × Zs) :=
  n_X12_moodFor_0_b67 F rc12 S x1 x2 x3 x4 x5 x6 (1 : Int32)
set_option maxRecDepth 20000 in
set_option maxHeartbeats 4000000 in
theorem w_X12_moodFor_0_b62 {F : Nat} {q : (Int32 × Zs)} {S : Zs} {rc12 : Zs → Int32 → Int32 → Int32 → Int32 → Int32 → Int32 → Option (Int32 × Zs)} {x1 : Int32} {x2 : Int32} {x3 : Int32} {x4 : Int32} {x5 : Int32} {x6 : Int32} {ls : Array Slot} {H : Heap} {locs : List Loc} (C : zC p s m args meth c cX12_moodFor 8 RX12 (some .int)) (hrc12 : ∀ (S : Zs) (x1 : Int32) (x2 : Int32) (x3 : Int32) (x4 : Int32) (x5 : Int32) (x6 : Int32) (H : Heap) (locs : List Loc) (ls : Array Slot), rc12 S x1 x2 x3 x4 x5 x6 = some q → zW (mG D cs ad) s S H locs → lv_has ls 8 [(0, .ref (ad 0)), (1, .int x1), (2, .int x2), (3, .int x3), (4, .int x4), (5, .int x5), (6, .int x6)] → W p l e (zR 6 140) s m args below meth c H locs 0 0 (zQi (mG D cs ad) q below args s) (F0 m 12 ls [])) (h : n_X12_moodFor_0_b62 F rc12 S x1 x2 x3 x4 x5 x6 = some q) (hW : zW (mG D cs ad) s S H locs) (hl : lv_has ls 8 [(0, .ref (ad 0)), (1, .int x1), (2, .int x2), (3, .int x3), (4, .int x4), (5, .int x5), (6, .int x6)]) : W p l e (zR 6 140) s m args below meth c H locs 0 0 (zQi (mG D cs ad) q below args s) (F0 m 62 ls []) := by
  unfold n_X12_moodFor_0_b62 at h
  obtain ⟨hx, hb, hml, hown, hts, hret, hlk⟩ := id C
  refine lv_iconst (v := 1) hx hb dX12_moodFor_62 (by decide) ?_
  refine lv_goto (tgt := 67) hx hb dX12_moodFor_63 (by decide) ?_
  exact w_X12_moodFor_0_b67 (F := F) C hrc12 h hW (lv_sub hl [0, 1, 2, 3, 4, 5, 6] rfl)
def n_X12_moodFor_0_b66 (F : Nat) (rc12 : Zs → Int32 → Int32 → Int32 → Int32 → Int32 → Int32 → Option (Int32 × Zs)) (S : Zs) (x1 : Int32) (x2 : Int32) (x3 : Int32) (x4 : Int32) (x5 : Int32) (x6 : Int32) : Option (Int32 × Zs) :=
  n_X12_moodFor_0_b67 F rc12 S x1 x2 x3 x4 x5 x6 (0 : Int32)
set_option maxRecDepth 20000 in
set_option maxHeartbeats 4000000 in
theorem w_X12_moodFor_0_b66 {F : Nat} {q : (Int32 × Zs)} {S : Zs} {rc12 : Zs → Int32 → Int32 → Int32 → Int32 → Int32 → Int32 → Option (Int32 × Zs)} {x1 : Int32} {x2 : Int32} {x3 : Int32} {x4 : Int32} {x5 : Int32} {x6 : Int32} {ls : Array Slot} {H : Heap} {locs : List Loc} (C : zC p s m args meth c cX12_moodFor 8 RX12 (some .int)) (hrc12 : ∀ (S : Zs) (x1 : Int32) (x2 : Int32) (x3 : Int32) (x4 : Int32) (x5 : Int32) (x6 : Int32) (H : Heap) (locs : List Loc) (ls : Array Slot), rc12 S x1 x2 x3 x4 x5 x6 = some q → zW (mG D cs ad) s S H locs → lv_has ls 8 [(0, .ref (ad 0)), (1, .int x1), (2, .int x2), (3, .int x3), (4, .int x4), (5, .int x5), (6, .int x6)] → W p l e (zR 6 140) s m args below meth c H locs 0 0 (zQi (mG D cs ad) q below args s) (F0 m 12 ls [])) (h : n_X12_moodFor_0_b66 F rc12 S x1 x2 x3 x4 x5 x6 = some q) (hW : zW (mG D cs ad) s S H locs) (hl : lv_has ls 8 [(0, .ref (ad 0)), (1, .int x1), (2, .int x2), (3, .int x3), (4, .int x4), (5, .int x5), (6, .int x6)]) : W p l e (zR 6 140) s m args below meth c H locs 0 0 (zQi (mG D cs ad) q below args s) (F0 m 66 ls []) := by
  unfold n_X12_moodFor_0_b66 at h
  obtain ⟨hx, hb, hml, hown, hts, hret, hlk⟩ := id C
  refine lv_iconst (v := 0) hx hb dX12_moodFor_66 (by decide) ?_
  exact w_X12_moodFor_0_b67 (F := F) C hrc12 h hW (lv_sub hl [0, 1, 2, 3, 4, 5, 6] rfl)
def n_X12_moodFor_0_b25 (F : Nat) (rc12 : Zs → Int32 → Int32 → Int32 → Int32 → Int32 → Int32 → Option (Int32 × Zs)) (S : Zs) (x1 : Int32) (x2 : Int32) (x3 : Int32) (x4 : Int32) (x5 : Int32) (x6 : Int32) (t0 : Int32) (t1 : Int32) : Option (Int32 × Zs) :=
  if t0 ≤ t1 then (some ((-1 : Int32), S)) else (zcl (n_X12_proves_0 F S x6 x2 x3 x5) (fun v2 S1 => if v2 = x4 then (n_X12_moodFor_0_b62 F rc12 S1 x1 x2 x3 x4 x5 x6) else (if x3 < 0 then (n_X12_moodFor_0_b66 F rc12 S1 x1 x2 x3 x4 x5 x6) else (zcl (n_X12_proves_0 F S1 x6 x3 x2 x5) (fun v4 S3 => if v4 = x4 then (n_X12_moodFor_0_b62 F rc12 S3 x1 x2 x3 x4 x5 x6) else (n_X12_moodFor_0_b66 F rc12 S3 x1 x2 x3 x4 x5 x6))))))
set_option maxRecDepth 20000 in
set_option maxHeartbeats 4000000 in
theorem w_X12_moodFor_0_b25 {F : Nat} {q : (Int32 × Zs)} {S : Zs} {rc12 : Zs → Int32 → Int32 → Int32 → Int32 → Int32 → Int32 → Option (Int32 × Zs)} {x1 : Int32} {x2 : Int32} {x3 : Int32} {x4 : Int32} {x5 : Int32} {x6 : Int32} {t0 : Int32} {t1 : Int32} {ls : Array Slot} {H : Heap} {locs : List Loc} (C : zC p s m args meth c cX12_moodFor 8 RX12 (some .int)) (hrc12 : ∀ (S : Zs) (x1 : Int32) (x2 : Int32) (x3 : Int32) (x4 : Int32) (x5 : Int32) (x6 : Int32) (H : Heap) (locs : List Loc) (ls : Array Slot), rc12 S x1 x2 x3 x4 x5 x6 = some q → zW (mG D cs ad) s S H locs → lv_has ls 8 [(0, .ref (ad 0)), (1, .int x1), (2, .int x2), (3, .int x3), (4, .int x4), (5, .int x5), (6, .int x6)] → W p l e (zR 6 140) s m args below meth c H locs 0 0 (zQi (mG D cs ad) q below args s) (F0 m 12 ls [])) (h : n_X12_moodFor_0_b25 F rc12 S x1 x2 x3 x4 x5 x6 t0 t1 = some q) (hW : zW (mG D cs ad) s S H locs) (hl : lv_has ls 8 [(0, .ref (ad 0)), (1, .int x1), (2, .int x2), (3, .int x3), (4, .int x4), (5, .int x5), (6, .int x6)]) : W p l e (zR 6 140) s m args below meth c H locs 0 0 (zQi (mG D cs ad) q below args s) (F0 m 25 ls [.int t0, .int t1]) := by
  unfold n_X12_moodFor_0_b25 at h
  obtain ⟨hx, hb, hml, hown, hts, hret, hlk⟩ := id C
  refine zz_cge (tgt := 92) C h dX12_moodFor_25 (by decide) (fun h => ?_) (fun h => ?_)
  · refine lv_iconst (v := -1) hx hb dX12_moodFor_92 (by decide) ?_
    exact zz_iret C rfl h hW dX12_moodFor_93
  · refine lv_aload_n hx hb dX12_moodFor_28 rfl (lv_at hl 0 rfl) ?_
    refine lv_iload hx hb dX12_moodFor_29 (lv_at hl 6 rfl) ?_
    refine lv_iload_n hx hb dX12_moodFor_31 rfl (lv_at hl 2 rfl) ?_
    refine lv_iload_n hx hb dX12_moodFor_32 rfl (lv_at hl 3 rfl) ?_
    refine lv_iload hx hb dX12_moodFor_33 (lv_at hl 5 rfl) ?_
    refine zz_callVi (As := [.int x6, .int x2, .int x3, .int x5]) C hW h (fun r hr => c_X12_proves_0 hr) lk_X12_365 (hW.recv mr_0) rfl hl.1 ⟨rfl, rfl⟩ ⟨Nat.le_of_ble_eq_true rfl, Nat.le_of_ble_eq_true rfl⟩ (Nat.le_of_ble_eq_true rfl) ⟨Nat.zero_le _, Nat.zero_le _⟩ rfl dX12_moodFor_35 (fun v2 S1 H locs h hW => ?_)
    refine lv_iload hx hb dX12_moodFor_38 (lv_at hl 4 rfl) ?_
    refine zz_ceq (tgt := 62) C h dX12_moodFor_40 (by decide) (fun h => ?_) (fun h => ?_)
    · exact w_X12_moodFor_0_b62 (F := F) C hrc12 h hW (lv_sub hl [0, 1, 2, 3, 4, 5, 6] rfl)
    · refine lv_iload_n hx hb dX12_moodFor_43 rfl (lv_at hl 3 rfl) ?_
      refine zz_ilt (tgt := 66) C h dX12_moodFor_44 (by decide) (fun h => ?_) (fun h => ?_)
      · exact w_X12_moodFor_0_b66 (F := F) C hrc12 h hW (lv_sub hl [0, 1, 2, 3, 4, 5, 6] rfl)
      · refine lv_aload_n hx hb dX12_moodFor_47 rfl (lv_at hl 0 rfl) ?_
        refine lv_iload hx hb dX12_moodFor_48 (lv_at hl 6 rfl) ?_
        refine lv_iload_n hx hb dX12_moodFor_50 rfl (lv_at hl 3 rfl) ?_
        refine lv_iload_n hx hb dX12_moodFor_51 rfl (lv_at hl 2 rfl) ?_
        refine lv_iload hx hb dX12_moodFor_52 (lv_at hl 5 rfl) ?_
        refine zz_callVi (As := [.int x6, .int x3, .int x2, .int x5]) C hW h (fun r hr => c_X12_proves_0 hr) lk_X12_365 (hW.recv mr_0) rfl hl.1 ⟨rfl, rfl⟩ ⟨Nat.le_of_ble_eq_true rfl, Nat.le_of_ble_eq_true rfl⟩ (Nat.le_of_ble_eq_true rfl) ⟨Nat.zero_le _, Nat.zero_le _⟩ rfl dX12_moodFor_54 (fun v4 S3 H locs h hW => ?_)
        refine lv_iload hx hb dX12_moodFor_57 (lv_at hl 4 rfl) ?_
        refine zz_cne (tgt := 66) C h dX12_moodFor_59 (by decide) (fun h => ?_) (fun h => ?_)
        · exact w_X12_moodFor_0_b66 (F := F) C hrc12 h hW (lv_sub hl [0, 1, 2, 3, 4, 5, 6] rfl)
        · exact w_X12_moodFor_0_b62 (F := F) C hrc12 h hW (lv_sub hl [0, 1, 2, 3, 4, 5, 6] rfl)
def n_X12_moodFor_0_b12_l (F : Nat) (rc12 : Zs → Int32 → Int32 → Int32 → Int32 → Int32 → Int32 → Option (Int32 × Zs)) (S : Zs) (x1 : Int32) (x2 : Int32) (x3 : Int32) (x4 : Int32) (x5 : Int32) (x6 : Int32) : Option (Int32 × Zs) :=
  if 0 ≤ x3 then (n_X12_moodFor_0_b25 F rc12 S x1 x2 x3 x4 x5 x6 (19 : Int32) x6) else (n_X12_moodFor_0_b25 F rc12 S x1 x2 x3 x4 x5 x6 (22 : Int32) x6)
set_option maxRecDepth 20000 in
set_option maxHeartbeats 4000000 in
theorem w_X12_moodFor_0_b12_l {F : Nat} {q : (Int32 × Zs)} {S : Zs} {rc12 : Zs → Int32 → Int32 → Int32 → Int32 → Int32 → Int32 → Option (Int32 × Zs)} {x1 : Int32} {x2 : Int32} {x3 : Int32} {x4 : Int32} {x5 : Int32} {x6 : Int32} {ls : Array Slot} {H : Heap} {locs : List Loc} (C : zC p s m args meth c cX12_moodFor 8 RX12 (some .int)) (hrc12 : ∀ (S : Zs) (x1 : Int32) (x2 : Int32) (x3 : Int32) (x4 : Int32) (x5 : Int32) (x6 : Int32) (H : Heap) (locs : List Loc) (ls : Array Slot), rc12 S x1 x2 x3 x4 x5 x6 = some q → zW (mG D cs ad) s S H locs → lv_has ls 8 [(0, .ref (ad 0)), (1, .int x1), (2, .int x2), (3, .int x3), (4, .int x4), (5, .int x5), (6, .int x6)] → W p l e (zR 6 140) s m args below meth c H locs 0 0 (zQi (mG D cs ad) q below args s) (F0 m 12 ls [])) (h : n_X12_moodFor_0_b12_l F rc12 S x1 x2 x3 x4 x5 x6 = some q) (hW : zW (mG D cs ad) s S H locs) (hl : lv_has ls 8 [(0, .ref (ad 0)), (1, .int x1), (2, .int x2), (3, .int x3), (4, .int x4), (5, .int x5), (6, .int x6)]) : W p l e (zR 6 140) s m args below meth c H locs 0 0 (zQi (mG D cs ad) q below args s) (F0 m 12 ls []) := by
  unfold n_X12_moodFor_0_b12_l at h
  obtain ⟨hx, hb, hml, hown, hts, hret, hlk⟩ := id C
  refine lv_iload hx hb dX12_moodFor_12 (lv_at hl 6 rfl) ?_
  refine lv_iload_n hx hb dX12_moodFor_14 rfl (lv_at hl 3 rfl) ?_
  refine zz_ige (tgt := 23) C h dX12_moodFor_15 (by decide) (fun h => ?_) (fun h => ?_)
  · refine lv_bipush (v := 19) hx hb dX12_moodFor_23 (by decide) ?_
    exact w_X12_moodFor_0_b25 (F := F) C hrc12 h hW (lv_sub hl [0, 1, 2, 3, 4, 5, 6] rfl)
  · refine lv_bipush (v := 22) hx hb dX12_moodFor_18 (by decide) ?_
    refine lv_goto (tgt := 25) hx hb dX12_moodFor_20 (by decide) ?_
    exact w_X12_moodFor_0_b25 (F := F) C hrc12 h hW (lv_sub hl [0, 1, 2, 3, 4, 5, 6] rfl)
def n_X12_moodFor_0_b12 (F : Nat)  (S : Zs) (x1 : Int32) (x2 : Int32) (x3 : Int32) (x4 : Int32) (x5 : Int32) (x6 : Int32) : Option (Int32 × Zs) :=
  zfix (fun (rc : (Zs × Int32 × Int32 × Int32 × Int32 × Int32 × Int32) → Option (Int32 × Zs)) (u : (Zs × Int32 × Int32 × Int32 × Int32 × Int32 × Int32)) => n_X12_moodFor_0_b12_l F  (fun S x1 x2 x3 x4 x5 x6 => rc (S, x1, x2, x3, x4, x5, x6)) u.1 u.2.1 u.2.2.1 u.2.2.2.1 u.2.2.2.2.1 u.2.2.2.2.2.1 u.2.2.2.2.2.2) F (S, x1, x2, x3, x4, x5, x6)
theorem w_X12_moodFor_0_b12 {F : Nat} {q : (Int32 × Zs)}  (C : zC p s m args meth c cX12_moodFor 8 RX12 (some .int))  : ∀ (n : Nat) (S : Zs) (x1 : Int32) (x2 : Int32) (x3 : Int32) (x4 : Int32) (x5 : Int32) (x6 : Int32) (H : Heap) (locs : List Loc) (ls : Array Slot), zfix (fun (rc : (Zs × Int32 × Int32 × Int32 × Int32 × Int32 × Int32) → Option (Int32 × Zs)) (u : (Zs × Int32 × Int32 × Int32 × Int32 × Int32 × Int32)) => n_X12_moodFor_0_b12_l F  (fun S x1 x2 x3 x4 x5 x6 => rc (S, x1, x2, x3, x4, x5, x6)) u.1 u.2.1 u.2.2.1 u.2.2.2.1 u.2.2.2.2.1 u.2.2.2.2.2.1 u.2.2.2.2.2.2) n (S, x1, x2, x3, x4, x5, x6) = some q → zW (mG D cs ad) s S H locs → lv_has ls 8 [(0, .ref (ad 0)), (1, .int x1), (2, .int x2), (3, .int x3), (4, .int x4), (5, .int x5), (6, .int x6)] → W p l e (zR 6 140) s m args below meth c H locs 0 0 (zQi (mG D cs ad) q below args s) (F0 m 12 ls []) := by
  intro n
  induction n with
  | zero => intro S x1 x2 x3 x4 x5 x6 H locs ls h; exact absurd h (fun h => by cases h)
  | succ n ih => intro S x1 x2 x3 x4 x5 x6 H locs ls h hW hl; exact w_X12_moodFor_0_b12_l (F := F) C (fun S x1 x2 x3 x4 x5 x6 H locs ls h hW hl => ih S x1 x2 x3 x4 x5 x6 H locs ls h hW hl) h hW hl
def n_X12_moodFor_0_b10 (F : Nat)  (S : Zs) (x1 : Int32) (x2 : Int32) (x3 : Int32) (x4 : Int32) (x5 : Int32) (t0 : Int32) : Option (Int32 × Zs) :=
  n_X12_moodFor_0_b12 F  S x1 x2 x3 x4 x5 t0
set_option maxRecDepth 20000 in
set_option maxHeartbeats 4000000 in
theorem w_X12_moodFor_0_b10 {F : Nat} {q : (Int32 × Zs)} {S : Zs}  {x1 : Int32} {x2 : Int32} {x3 : Int32} {x4 : Int32} {x5 : Int32} {t0 : Int32} {ls : Array Slot} {H : Heap} {locs : List Loc} (C : zC p s m args meth c cX12_moodFor 8 RX12 (some .int))  (h : n_X12_moodFor_0_b10 F  S x1 x2 x3 x4 x5 t0 = some q) (hW : zW (mG D cs ad) s S H locs) (hl : lv_has ls 8 [(0, .ref (ad 0)), (1, .int x1), (2, .int x2), (3, .int x3), (4, .int x4), (5, .int x5)]) : W p l e (zR 6 140) s m args below meth c H locs 0 0 (zQi (mG D cs ad) q below args s) (F0 m 10 ls [.int t0]) := by
  unfold n_X12_moodFor_0_b10 at h
  obtain ⟨hx, hb, hml, hown, hts, hret, hlk⟩ := id C
  refine lv_istore (lv' := [(6, .int t0), (0, .ref (ad 0)), (1, .int x1), (2, .int x2), (3, .int x3), (4, .int x4), (5, .int x5)]) hx hb dX12_moodFor_10 hl (by decide) rfl (fun ls hl => ?_)
  exact w_X12_moodFor_0_b12 (F := F) C F _ _ _ _ _ _ _ _ _ _ h hW (lv_sub hl [1, 2, 3, 4, 5, 6, 0] rfl)
def n_X12_moodFor_0_e (F : Nat)  (S : Zs) (x1 : Int32) (x2 : Int32) (x3 : Int32) (x4 : Int32) (x5 : Int32) : Option (Int32 × Zs) :=
  if 0 ≤ x3 then (n_X12_moodFor_0_b10 F  S x1 x2 x3 x4 x5 (0 : Int32)) else (n_X12_moodFor_0_b10 F  S x1 x2 x3 x4 x5 (19 : Int32))
set_option maxRecDepth 20000 in
set_option maxHeartbeats 4000000 in
theorem w_X12_moodFor_0_e {F : Nat} {q : (Int32 × Zs)} {S : Zs}  {x1 : Int32} {x2 : Int32} {x3 : Int32} {x4 : Int32} {x5 : Int32} {ls : Array Slot} {H : Heap} {locs : List Loc} (C : zC p s m args meth c cX12_moodFor 8 RX12 (some .int))  (h : n_X12_moodFor_0_e F  S x1 x2 x3 x4 x5 = some q) (hW : zW (mG D cs ad) s S H locs) (hl : lv_has ls 8 [(0, .ref (ad 0)), (1, .int x1), (2, .int x2), (3, .int x3), (4, .int x4), (5, .int x5)]) : W p l e (zR 6 140) s m args below meth c H locs 0 0 (zQi (mG D cs ad) q below args s) (F0 m 0 ls []) := by
  unfold n_X12_moodFor_0_e at h
  obtain ⟨hx, hb, hml, hown, hts, hret, hlk⟩ := id C
  refine lv_iload_n hx hb dX12_moodFor_0 rfl (lv_at hl 3 rfl) ?_
  refine zz_ige (tgt := 9) C h dX12_moodFor_1 (by decide) (fun h => ?_) (fun h => ?_)
  · refine lv_iconst (v := 0) hx hb dX12_moodFor_9 (by decide) ?_
    exact w_X12_moodFor_0_b10 (F := F) C h hW (lv_sub hl [0, 1, 2, 3, 4, 5] rfl)
  · refine lv_bipush (v := 19) hx hb dX12_moodFor_4 (by decide) ?_
    refine lv_goto (tgt := 10) hx hb dX12_moodFor_6 (by decide) ?_
    exact w_X12_moodFor_0_b10 (F := F) C h hW (lv_sub hl [0, 1, 2, 3, 4, 5] rfl)
def n_X12_moodFor_0 (F : Nat) (S : Zs) (x1 : Int32) (x2 : Int32) (x3 : Int32) (x4 : Int32) (x5 : Int32) : Option (Int32 × Zs) := n_X12_moodFor_0_e F  S x1 x2 x3 x4 x5
theorem c_X12_moodFor_0 {l : Launch} {D : va_G} {cs ad : Nat → Nat} {F : Nat} {S : Zs} {x1 : Int32} {x2 : Int32} {x3 : Int32} {x4 : Int32} {x5 : Int32} {q : (Int32 × Zs)} (h : n_X12_moodFor_0 F S x1 x2 x3 x4 x5 = some q) : zMi l yX12_moodFor cX12_moodFor 8 (some .int) (zR 6 140) (mG D cs ad) [.ref (ad 0), .int x1, .int x2, .int x3, .int x4, .int x5] S q :=
  zz_enter (by decide) (Nat.le_of_ble_eq_true rfl) (fun p e s m below meth c ls C hW hl => w_X12_moodFor_0_e (F := F) C h hW (lv_sub hl [0, 1, 2, 3, 4, 5] rfl))
def n_X12_whyNot_0_b54 (F : Nat)  (S : Zs)  : Option (Int32 × Zs) :=
  some ((1 : Int32), S)
set_option maxRecDepth 20000 in
set_option maxHeartbeats 4000000 in
theorem w_X12_whyNot_0_b54 {F : Nat} {q : (Int32 × Zs)} {S : Zs}   {ls : Array Slot} {H : Heap} {locs : List Loc} (C : zC p s m args meth c cX12_whyNot 4 RX12 (some .int))  (h : n_X12_whyNot_0_b54 F  S  = some q) (hW : zW (mG D cs ad) s S H locs) (hl : lv_has ls 4 []) : W p l e (zR 7 167) s m args below meth c H locs 0 0 (zQi (mG D cs ad) q below args s) (F0 m 54 ls []) := by
  unfold n_X12_whyNot_0_b54 at h
  obtain ⟨hx, hb, hml, hown, hts, hret, hlk⟩ := id C
  refine lv_iconst (v := 1) hx hb dX12_whyNot_54 (by decide) ?_
  exact zz_iret C rfl h hW dX12_whyNot_55
def n_X12_whyNot_0_b160 (F : Nat)  (S : Zs) (t0 : Int32) : Option (Int32 × Zs) :=
  some (t0, S)
set_option maxRecDepth 20000 in
set_option maxHeartbeats 4000000 in
theorem w_X12_whyNot_0_b160 {F : Nat} {q : (Int32 × Zs)} {S : Zs}  {t0 : Int32} {ls : Array Slot} {H : Heap} {locs : List Loc} (C : zC p s m args meth c cX12_whyNot 4 RX12 (some .int))  (h : n_X12_whyNot_0_b160 F  S t0 = some q) (hW : zW (mG D cs ad) s S H locs) (hl : lv_has ls 4 []) : W p l e (zR 7 167) s m args below meth c H locs 0 0 (zQi (mG D cs ad) q below args s) (F0 m 160 ls [.int t0]) := by
  unfold n_X12_whyNot_0_b160 at h
  obtain ⟨hx, hb, hml, hown, hts, hret, hlk⟩ := id C
  exact zz_iret C rfl h hW dX12_whyNot_160
def n_X12_whyNot_0_b56 (F : Nat)  (S : Zs) (x1 : Int32) (x2 : Int32) (x3 : Int32) : Option (Int32 × Zs) :=
  if x1 < (24 : Int32) then (zld S 16 40 x1 (fun v1 => zcl (n_X12_fits_0 F S x2 x3 v1) (fun v3 S2 => if v3 = 0 then (some ((3 : Int32), S2)) else (zld S2 16 40 x1 (fun v4 => zcl (n_X12_moodFor_0 F S2 (-1 : Int32) x2 x3 v4 (0 : Int32)) (fun v6 S5 => if 0 ≤ v6 then (zgf S5 11 (fun v7 => zld S5 16 40 x1 (fun v8 => zcl (n_X12_moodFor_0 F S5 v7 x2 x3 v8 (0 : Int32)) (fun v10 S9 => if 0 ≤ v10 then (zgf S9 11 (fun v11 => zld S9 16 40 x1 (fun v12 => zcl (n_X12_moodFor_0 F S9 v11 x2 x3 v12 (1 : Int32)) (fun v14 S13 => zst S13 20 40 x1 v14 (fun S15 => zld S15 20 40 x1 (fun v16 => if 0 ≤ v16 then (n_X12_whyNot_0_b160 F  S15 (0 : Int32)) else (n_X12_whyNot_0_b160 F  S15 (6 : Int32)))))))) else (some ((5 : Int32), S9)))))) else (some ((4 : Int32), S5)))))))) else (some ((2 : Int32), S))
set_option maxRecDepth 20000 in
set_option maxHeartbeats 4000000 in
theorem w_X12_whyNot_0_b56 {F : Nat} {q : (Int32 × Zs)} {S : Zs}  {x1 : Int32} {x2 : Int32} {x3 : Int32} {ls : Array Slot} {H : Heap} {locs : List Loc} (C : zC p s m args meth c cX12_whyNot 4 RX12 (some .int))  (h : n_X12_whyNot_0_b56 F  S x1 x2 x3 = some q) (hW : zW (mG D cs ad) s S H locs) (hl : lv_has ls 4 [(0, .ref (ad 0)), (1, .int x1), (2, .int x2), (3, .int x3)]) : W p l e (zR 7 167) s m args below meth c H locs 0 0 (zQi (mG D cs ad) q below args s) (F0 m 56 ls []) := by
  unfold n_X12_whyNot_0_b56 at h
  obtain ⟨hx, hb, hml, hown, hts, hret, hlk⟩ := id C
  refine lv_iload_n hx hb dX12_whyNot_56 rfl (lv_at hl 1 rfl) ?_
  refine lv_bipush (v := 24) hx hb dX12_whyNot_57 (by decide) ?_
  refine zz_clt (tgt := 64) C h dX12_whyNot_59 (by decide) (fun h => ?_) (fun h => ?_)
  · refine lv_aload_n hx hb dX12_whyNot_64 rfl (lv_at hl 0 rfl) ?_
    refine lv_iload_n hx hb dX12_whyNot_65 rfl (lv_at hl 2 rfl) ?_
    refine lv_iload_n hx hb dX12_whyNot_66 rfl (lv_at hl 3 rfl) ?_
    refine lv_aload_n hx hb dX12_whyNot_67 rfl (lv_at hl 0 rfl) ?_
    refine mg_0_37 C hW fl_X12_428 dX12_whyNot_68 ?_
    refine lv_iload_n hx hb dX12_whyNot_71 rfl (lv_at hl 1 rfl) ?_
    refine ml_16 C hW h dX12_whyNot_72 (fun v1 h => ?_)
    refine zz_callVi (As := [.int x2, .int x3, .int v1]) C hW h (fun r hr => c_X12_fits_0 hr) lk_X12_434 (hW.recv mr_0) rfl hl.1 ⟨rfl, rfl⟩ ⟨Nat.le_of_ble_eq_true rfl, Nat.le_of_ble_eq_true rfl⟩ (Nat.le_of_ble_eq_true rfl) ⟨Nat.zero_le _, Nat.zero_le _⟩ rfl dX12_whyNot_73 (fun v3 S2 H locs h hW => ?_)
    refine zz_ine (tgt := 81) C h dX12_whyNot_76 (by decide) (fun h => ?_) (fun h => ?_)
    · refine lv_aload_n hx hb dX12_whyNot_81 rfl (lv_at hl 0 rfl) ?_
      refine lv_iconst (v := -1) hx hb dX12_whyNot_82 (by decide) ?_
      refine lv_iload_n hx hb dX12_whyNot_83 rfl (lv_at hl 2 rfl) ?_
      refine lv_iload_n hx hb dX12_whyNot_84 rfl (lv_at hl 3 rfl) ?_
      refine lv_aload_n hx hb dX12_whyNot_85 rfl (lv_at hl 0 rfl) ?_
      refine mg_0_37 C hW fl_X12_428 dX12_whyNot_86 ?_
      refine lv_iload_n hx hb dX12_whyNot_89 rfl (lv_at hl 1 rfl) ?_
      refine ml_16 C hW h dX12_whyNot_90 (fun v4 h => ?_)
      refine lv_iconst (v := 0) hx hb dX12_whyNot_91 (by decide) ?_
      refine zz_callVi (As := [.int (-1 : Int32), .int x2, .int x3, .int v4, .int (0 : Int32)]) C hW h (fun r hr => c_X12_moodFor_0 hr) lk_X12_437 (hW.recv mr_0) rfl hl.1 ⟨rfl, rfl⟩ ⟨Nat.le_of_ble_eq_true rfl, Nat.le_of_ble_eq_true rfl⟩ (Nat.le_of_ble_eq_true rfl) ⟨Nat.zero_le _, Nat.zero_le _⟩ rfl dX12_whyNot_92 (fun v6 S5 H locs h hW => ?_)
      refine zz_ige (tgt := 100) C h dX12_whyNot_95 (by decide) (fun h => ?_) (fun h => ?_)
      · refine lv_aload_n hx hb dX12_whyNot_100 rfl (lv_at hl 0 rfl) ?_
        refine lv_aload_n hx hb dX12_whyNot_101 rfl (lv_at hl 0 rfl) ?_
        refine mg_0_11 C hW h fl_X12_348 dX12_whyNot_102 (fun v7 h => ?_)
        refine lv_iload_n hx hb dX12_whyNot_105 rfl (lv_at hl 2 rfl) ?_
        refine lv_iload_n hx hb dX12_whyNot_106 rfl (lv_at hl 3 rfl) ?_
        refine lv_aload_n hx hb dX12_whyNot_107 rfl (lv_at hl 0 rfl) ?_
        refine mg_0_37 C hW fl_X12_428 dX12_whyNot_108 ?_
        refine lv_iload_n hx hb dX12_whyNot_111 rfl (lv_at hl 1 rfl) ?_
        refine ml_16 C hW h dX12_whyNot_112 (fun v8 h => ?_)
        refine lv_iconst (v := 0) hx hb dX12_whyNot_113 (by decide) ?_
        refine zz_callVi (As := [.int v7, .int x2, .int x3, .int v8, .int (0 : Int32)]) C hW h (fun r hr => c_X12_moodFor_0 hr) lk_X12_437 (hW.recv mr_0) rfl hl.1 ⟨rfl, rfl⟩ ⟨Nat.le_of_ble_eq_true rfl, Nat.le_of_ble_eq_true rfl⟩ (Nat.le_of_ble_eq_true rfl) ⟨Nat.zero_le _, Nat.zero_le _⟩ rfl dX12_whyNot_114 (fun v10 S9 H locs h hW => ?_)
        refine zz_ige (tgt := 122) C h dX12_whyNot_117 (by decide) (fun h => ?_) (fun h => ?_)
        · refine lv_aload_n hx hb dX12_whyNot_122 rfl (lv_at hl 0 rfl) ?_
          refine mg_0_41 C hW fl_X12_441 dX12_whyNot_123 ?_
          refine lv_iload_n hx hb dX12_whyNot_126 rfl (lv_at hl 1 rfl) ?_
          refine lv_aload_n hx hb dX12_whyNot_127 rfl (lv_at hl 0 rfl) ?_
          refine lv_aload_n hx hb dX12_whyNot_128 rfl (lv_at hl 0 rfl) ?_
          refine mg_0_11 C hW h fl_X12_348 dX12_whyNot_129 (fun v11 h => ?_)
          refine lv_iload_n hx hb dX12_whyNot_132 rfl (lv_at hl 2 rfl) ?_
          refine lv_iload_n hx hb dX12_whyNot_133 rfl (lv_at hl 3 rfl) ?_
          refine lv_aload_n hx hb dX12_whyNot_134 rfl (lv_at hl 0 rfl) ?_
          refine mg_0_37 C hW fl_X12_428 dX12_whyNot_135 ?_
          refine lv_iload_n hx hb dX12_whyNot_138 rfl (lv_at hl 1 rfl) ?_
          refine ml_16 C hW h dX12_whyNot_139 (fun v12 h => ?_)
          refine lv_iconst (v := 1) hx hb dX12_whyNot_140 (by decide) ?_
          refine zz_callVi (As := [.int v11, .int x2, .int x3, .int v12, .int (1 : Int32)]) C hW h (fun r hr => c_X12_moodFor_0 hr) lk_X12_437 (hW.recv mr_0) rfl hl.1 ⟨rfl, rfl⟩ ⟨Nat.le_of_ble_eq_true rfl, Nat.le_of_ble_eq_true rfl⟩ (Nat.le_of_ble_eq_true rfl) ⟨Nat.zero_le _, Nat.zero_le _⟩ rfl dX12_whyNot_141 (fun v14 S13 H locs h hW => ?_)
          refine ms_20 C hW h dX12_whyNot_144 (fun S15 H locs h hW => ?_)
          refine lv_aload_n hx hb dX12_whyNot_145 rfl (lv_at hl 0 rfl) ?_
          refine mg_0_41 C hW fl_X12_441 dX12_whyNot_146 ?_
          refine lv_iload_n hx hb dX12_whyNot_149 rfl (lv_at hl 1 rfl) ?_
          refine ml_20 C hW h dX12_whyNot_150 (fun v16 h => ?_)
          refine zz_ige (tgt := 159) C h dX12_whyNot_151 (by decide) (fun h => ?_) (fun h => ?_)
          · refine lv_iconst (v := 0) hx hb dX12_whyNot_159 (by decide) ?_
            exact w_X12_whyNot_0_b160 (F := F) C h hW (lv_sub hl [] rfl)
          · refine lv_bipush (v := 6) hx hb dX12_whyNot_154 (by decide) ?_
            refine lv_goto (tgt := 160) hx hb dX12_whyNot_156 (by decide) ?_
            exact w_X12_whyNot_0_b160 (F := F) C h hW (lv_sub hl [] rfl)
        · refine lv_iconst (v := 5) hx hb dX12_whyNot_120 (by decide) ?_
          exact zz_iret C rfl h hW dX12_whyNot_121
      · refine lv_iconst (v := 4) hx hb dX12_whyNot_98 (by decide) ?_
        exact zz_iret C rfl h hW dX12_whyNot_99
    · refine lv_iconst (v := 3) hx hb dX12_whyNot_79 (by decide) ?_
      exact zz_iret C rfl h hW dX12_whyNot_80
  · refine lv_iconst (v := 2) hx hb dX12_whyNot_62 (by decide) ?_
    exact zz_iret C rfl h hW dX12_whyNot_63
def n_X12_whyNot_0_b36 (F : Nat)  (S : Zs) (x1 : Int32) (x2 : Int32) (t0 : Int32) : Option (Int32 × Zs) :=
  if x2 < 0 then (n_X12_whyNot_0_b54 F  S ) else (zld S 19 40 x1 (fun v1 => if v1 < 0 then (n_X12_whyNot_0_b56 F  S x1 x2 t0) else (if 0 ≤ t0 then (n_X12_whyNot_0_b56 F  S x1 x2 t0) else (n_X12_whyNot_0_b54 F  S ))))
set_option maxRecDepth 20000 in
set_option maxHeartbeats 4000000 in
theorem w_X12_whyNot_0_b36 {F : Nat} {q : (Int32 × Zs)} {S : Zs}  {x1 : Int32} {x2 : Int32} {t0 : Int32} {ls : Array Slot} {H : Heap} {locs : List Loc} (C : zC p s m args meth c cX12_whyNot 4 RX12 (some .int))  (h : n_X12_whyNot_0_b36 F  S x1 x2 t0 = some q) (hW : zW (mG D cs ad) s S H locs) (hl : lv_has ls 4 [(0, .ref (ad 0)), (1, .int x1), (2, .int x2)]) : W p l e (zR 7 167) s m args below meth c H locs 0 0 (zQi (mG D cs ad) q below args s) (F0 m 36 ls [.int t0]) := by
  unfold n_X12_whyNot_0_b36 at h
  obtain ⟨hx, hb, hml, hown, hts, hret, hlk⟩ := id C
  refine lv_istore_n (lv' := [(3, .int t0), (0, .ref (ad 0)), (1, .int x1), (2, .int x2)]) hx hb dX12_whyNot_36 rfl hl (by decide) rfl (fun ls hl => ?_)
  refine lv_iload_n hx hb dX12_whyNot_37 rfl (lv_at hl 3 rfl) ?_
  refine zz_ilt (tgt := 54) C h dX12_whyNot_38 (by decide) (fun h => ?_) (fun h => ?_)
  · exact w_X12_whyNot_0_b54 (F := F) C h hW (lv_sub hl [] rfl)
  · refine lv_aload_n hx hb dX12_whyNot_41 rfl (lv_at hl 1 rfl) ?_
    refine mg_0_40 C hW fl_X12_425 dX12_whyNot_42 ?_
    refine lv_iload_n hx hb dX12_whyNot_45 rfl (lv_at hl 2 rfl) ?_
    refine ml_19 C hW h dX12_whyNot_46 (fun v1 h => ?_)
    refine zz_ilt (tgt := 56) C h dX12_whyNot_47 (by decide) (fun h => ?_) (fun h => ?_)
    · exact w_X12_whyNot_0_b56 (F := F) C h hW (lv_sub hl [1, 2, 3, 0] rfl)
    · refine lv_iload_n hx hb dX12_whyNot_50 rfl (lv_at hl 0 rfl) ?_
      refine zz_ige (tgt := 56) C h dX12_whyNot_51 (by decide) (fun h => ?_) (fun h => ?_)
      · exact w_X12_whyNot_0_b56 (F := F) C h hW (lv_sub hl [1, 2, 3, 0] rfl)
      · exact w_X12_whyNot_0_b54 (F := F) C h hW (lv_sub hl [] rfl)
def n_X12_whyNot_0_e (F : Nat)  (S : Zs) (x1 : Int32) : Option (Int32 × Zs) :=
  zld S 18 40 x1 (fun v1 => zcl (n_X12_codeOfNumber_0 F S v1 x1) (fun v3 S2 => zld S2 19 40 x1 (fun v4 => if 0 ≤ v4 then (zld S2 19 40 x1 (fun v5 => zcl (n_X12_codeOfNumber_0 F S2 v5 x1) (fun v7 S6 => n_X12_whyNot_0_b36 F  S6 x1 v3 v7))) else (n_X12_whyNot_0_b36 F  S2 x1 v3 (-1 : Int32)))))
set_option maxRecDepth 20000 in
set_option maxHeartbeats 4000000 in
theorem w_X12_whyNot_0_e {F : Nat} {q : (Int32 × Zs)} {S : Zs}  {x1 : Int32} {ls : Array Slot} {H : Heap} {locs : List Loc} (C : zC p s m args meth c cX12_whyNot 4 RX12 (some .int))  (h : n_X12_whyNot_0_e F  S x1 = some q) (hW : zW (mG D cs ad) s S H locs) (hl : lv_has ls 4 [(0, .ref (ad 0)), (1, .int x1)]) : W p l e (zR 7 167) s m args below meth c H locs 0 0 (zQi (mG D cs ad) q below args s) (F0 m 0 ls []) := by
  unfold n_X12_whyNot_0_e at h
  obtain ⟨hx, hb, hml, hown, hts, hret, hlk⟩ := id C
  refine lv_aload_n hx hb dX12_whyNot_0 rfl (lv_at hl 0 rfl) ?_
  refine lv_aload_n hx hb dX12_whyNot_1 rfl (lv_at hl 0 rfl) ?_
  refine mg_0_39 C hW fl_X12_419 dX12_whyNot_2 ?_
  refine lv_iload_n hx hb dX12_whyNot_5 rfl (lv_at hl 1 rfl) ?_
  refine ml_18 C hW h dX12_whyNot_6 (fun v1 h => ?_)
  refine lv_iload_n hx hb dX12_whyNot_7 rfl (lv_at hl 1 rfl) ?_
  refine zz_callVi (As := [.int v1, .int x1]) C hW h (fun r hr => c_X12_codeOfNumber_0 hr) lk_X12_431 (hW.recv mr_0) rfl hl.1 ⟨rfl, rfl⟩ ⟨Nat.le_of_ble_eq_true rfl, Nat.le_of_ble_eq_true rfl⟩ (Nat.le_of_ble_eq_true rfl) ⟨Nat.zero_le _, Nat.zero_le _⟩ rfl dX12_whyNot_8 (fun v3 S2 H locs h hW => ?_)
  refine lv_istore_n (lv' := [(2, .int v3), (0, .ref (ad 0)), (1, .int x1)]) hx hb dX12_whyNot_11 rfl hl (by decide) rfl (fun ls hl => ?_)
  refine lv_aload_n hx hb dX12_whyNot_12 rfl (lv_at hl 1 rfl) ?_
  refine mg_0_40 C hW fl_X12_425 dX12_whyNot_13 ?_
  refine lv_iload_n hx hb dX12_whyNot_16 rfl (lv_at hl 2 rfl) ?_
  refine ml_19 C hW h dX12_whyNot_17 (fun v4 h => ?_)
  refine zz_ige (tgt := 25) C h dX12_whyNot_18 (by decide) (fun h => ?_) (fun h => ?_)
  · refine lv_aload_n hx hb dX12_whyNot_25 rfl (lv_at hl 1 rfl) ?_
    refine lv_aload_n hx hb dX12_whyNot_26 rfl (lv_at hl 1 rfl) ?_
    refine mg_0_40 C hW fl_X12_425 dX12_whyNot_27 ?_
    refine lv_iload_n hx hb dX12_whyNot_30 rfl (lv_at hl 2 rfl) ?_
    refine ml_19 C hW h dX12_whyNot_31 (fun v5 h => ?_)
    refine lv_iload_n hx hb dX12_whyNot_32 rfl (lv_at hl 2 rfl) ?_
    refine zz_callVi (As := [.int v5, .int x1]) C hW h (fun r hr => c_X12_codeOfNumber_0 hr) lk_X12_431 (hW.recv mr_0) rfl hl.1 ⟨rfl, rfl⟩ ⟨Nat.le_of_ble_eq_true rfl, Nat.le_of_ble_eq_true rfl⟩ (Nat.le_of_ble_eq_true rfl) ⟨Nat.zero_le _, Nat.zero_le _⟩ rfl dX12_whyNot_33 (fun v7 S6 H locs h hW => ?_)
    exact w_X12_whyNot_0_b36 (F := F) C h hW (lv_sub hl [1, 2, 0] rfl)
  · refine lv_iconst (v := -1) hx hb dX12_whyNot_21 (by decide) ?_
    refine lv_goto (tgt := 36) hx hb dX12_whyNot_22 (by decide) ?_
    exact w_X12_whyNot_0_b36 (F := F) C h hW (lv_sub hl [1, 2, 0] rfl)
def n_X12_whyNot_0 (F : Nat) (S : Zs) (x1 : Int32) : Option (Int32 × Zs) := n_X12_whyNot_0_e F  S x1
theorem c_X12_whyNot_0 {l : Launch} {D : va_G} {cs ad : Nat → Nat} {F : Nat} {S : Zs} {x1 : Int32} {q : (Int32 × Zs)} (h : n_X12_whyNot_0 F S x1 = some q) : zMi l yX12_whyNot cX12_whyNot 4 (some .int) (zR 7 167) (mG D cs ad) [.ref (ad 0), .int x1] S q :=
  zz_enter (by decide) (Nat.le_of_ble_eq_true rfl) (fun p e s m below meth c ls C hW hl => w_X12_whyNot_0_e (F := F) C h hW (lv_sub hl [0, 1] rfl))
def n_X12_plead_0_b83_l (F : Nat) (rc83 : Zs → Int32 → Option (Int32 × Zs)) (S : Zs) (x5 : Int32) : Option (Int32 × Zs) :=
  zgf S 36 (fun v1 => if v1 ≤ x5 then (zgf S 36 (fun v2 => zgf S 35 (fun v3 => zlet (v2 - v3) (fun v4 => zgf S 36 (fun v5 => zpf S 35 v5 (fun S6 => some (v4, S6))))))) else (zcl (n_X12_whyNot_0 F S x5) (fun v8 S7 => if v8 ≤ 0 then (zlet (x5 + (1 : Int32)) (fun v9 => rc83 S7 v9)) else (zgf S7 35 (fun v10 => some ((((-100 : Int32) - ((10 : Int32) * (x5 - v10))) - v8), S7))))))
set_option maxRecDepth 20000 in
set_option maxHeartbeats 4000000 in
theorem w_X12_plead_0_b83_l {F : Nat} {q : (Int32 × Zs)} {S : Zs} {rc83 : Zs → Int32 → Option (Int32 × Zs)} {x5 : Int32} {ls : Array Slot} {H : Heap} {locs : List Loc} (C : zC p s m args meth c cX12_plead 7 RX12 (some .int)) (hrc83 : ∀ (S : Zs) (x5 : Int32) (H : Heap) (locs : List Loc) (ls : Array Slot), rc83 S x5 = some q → zW (mG D cs ad) s S H locs → lv_has ls 7 [(0, .ref (ad 0)), (5, .int x5)] → W p l e (zR 8 190) s m args below meth c H locs 0 0 (zQi (mG D cs ad) q below args s) (F0 m 83 ls [])) (h : n_X12_plead_0_b83_l F rc83 S x5 = some q) (hW : zW (mG D cs ad) s S H locs) (hl : lv_has ls 7 [(0, .ref (ad 0)), (5, .int x5)]) : W p l e (zR 8 190) s m args below meth c H locs 0 0 (zQi (mG D cs ad) q below args s) (F0 m 83 ls []) := by
  unfold n_X12_plead_0_b83_l at h
  obtain ⟨hx, hb, hml, hown, hts, hret, hlk⟩ := id C
  refine lv_iload hx hb dX12_plead_83 (lv_at hl 1 rfl) ?_
  refine lv_aload_n hx hb dX12_plead_85 rfl (lv_at hl 0 rfl) ?_
  refine mg_0_36 C hW h fl_X12_413 dX12_plead_86 (fun v1 h => ?_)
  refine zz_cge (tgt := 128) C h dX12_plead_89 (by decide) (fun h => ?_) (fun h => ?_)
  · refine lv_aload_n hx hb dX12_plead_128 rfl (lv_at hl 0 rfl) ?_
    refine mg_0_36 C hW h fl_X12_413 dX12_plead_129 (fun v2 h => ?_)
    refine lv_aload_n hx hb dX12_plead_132 rfl (lv_at hl 0 rfl) ?_
    refine mg_0_35 C hW h fl_X12_444 dX12_plead_133 (fun v3 h => ?_)
    refine lv_isub hx hb dX12_plead_136 ?_
    refine zz_leti h (fun v4 h => ?_)
    refine lv_istore (lv' := [(5, .int v4), (0, .ref (ad 0))]) hx hb dX12_plead_137 hl (by decide) rfl (fun ls hl => ?_)
    refine lv_aload_n hx hb dX12_plead_139 rfl (lv_at hl 1 rfl) ?_
    refine lv_aload_n hx hb dX12_plead_140 rfl (lv_at hl 1 rfl) ?_
    refine mg_0_36 C hW h fl_X12_413 dX12_plead_141 (fun v5 h => ?_)
    refine mp_0_35 C hW h fl_X12_444 dX12_plead_144 (fun S6 H locs h hW => ?_)
    refine lv_iload hx hb dX12_plead_147 (lv_at hl 0 rfl) ?_
    exact zz_iret C rfl h hW dX12_plead_149
  · refine lv_aload_n hx hb dX12_plead_92 rfl (lv_at hl 0 rfl) ?_
    refine lv_iload hx hb dX12_plead_93 (lv_at hl 1 rfl) ?_
    refine zz_callVi (As := [.int x5]) C hW h (fun r hr => c_X12_whyNot_0 hr) lk_X12_450 (hW.recv mr_0) rfl hl.1 ⟨rfl, rfl⟩ ⟨Nat.le_of_ble_eq_true rfl, Nat.le_of_ble_eq_true rfl⟩ (Nat.le_of_ble_eq_true rfl) ⟨Nat.zero_le _, Nat.zero_le _⟩ rfl dX12_plead_95 (fun v8 S7 H locs h hW => ?_)
    refine lv_istore (lv' := [(6, .int v8), (0, .ref (ad 0)), (5, .int x5)]) hx hb dX12_plead_98 hl (by decide) rfl (fun ls hl => ?_)
    refine lv_iload hx hb dX12_plead_100 (lv_at hl 0 rfl) ?_
    refine zz_ile (tgt := 122) C h dX12_plead_102 (by decide) (fun h => ?_) (fun h => ?_)
    · obtain ⟨v9, ev9, h⟩ := zz_name h
      refine lv_iinc (v := v9) (lv' := [(5, .int v9), (6, .int v8), (0, .ref (ad 0))]) hx hb dX12_plead_122 hl (k := 2) rfl ev9.symm (by decide) rfl (fun ls hl => ?_)
      refine lv_goto (tgt := 83) hx hb dX12_plead_125 (by decide) ?_
      exact hrc83 _ _ _ _ _ h hW (lv_sub hl [2, 0] rfl)
    · refine lv_bipush (v := -100) hx hb dX12_plead_105 (by decide) ?_
      refine lv_bipush (v := 10) hx hb dX12_plead_107 (by decide) ?_
      refine lv_iload hx hb dX12_plead_109 (lv_at hl 2 rfl) ?_
      refine lv_aload_n hx hb dX12_plead_111 rfl (lv_at hl 1 rfl) ?_
      refine mg_0_35 C hW h fl_X12_444 dX12_plead_112 (fun v10 h => ?_)
      refine lv_isub hx hb dX12_plead_115 ?_
      refine lv_imul hx hb dX12_plead_116 ?_
      refine lv_isub hx hb dX12_plead_117 ?_
      refine lv_iload hx hb dX12_plead_118 (lv_at hl 0 rfl) ?_
      refine lv_isub hx hb dX12_plead_120 ?_
      exact zz_iret C rfl h hW dX12_plead_121
def n_X12_plead_0_b83 (F : Nat)  (S : Zs) (x5 : Int32) : Option (Int32 × Zs) :=
  zfix (fun (rc : (Zs × Int32) → Option (Int32 × Zs)) (u : (Zs × Int32)) => n_X12_plead_0_b83_l F  (fun S x5 => rc (S, x5)) u.1 u.2) F (S, x5)
theorem w_X12_plead_0_b83 {F : Nat} {q : (Int32 × Zs)}  (C : zC p s m args meth c cX12_plead 7 RX12 (some .int))  : ∀ (n : Nat) (S : Zs) (x5 : Int32) (H : Heap) (locs : List Loc) (ls : Array Slot), zfix (fun (rc : (Zs × Int32) → Option (Int32 × Zs)) (u : (Zs × Int32)) => n_X12_plead_0_b83_l F  (fun S x5 => rc (S, x5)) u.1 u.2) n (S, x5) = some q → zW (mG D cs ad) s S H locs → lv_has ls 7 [(0, .ref (ad 0)), (5, .int x5)] → W p l e (zR 8 190) s m args below meth c H locs 0 0 (zQi (mG D cs ad) q below args s) (F0 m 83 ls []) := by
  intro n
  induction n with
  | zero => intro S x5 H locs ls h; exact absurd h (fun h => by cases h)
  | succ n ih => intro S x5 H locs ls h hW hl; exact w_X12_plead_0_b83_l (F := F) C (fun S x5 H locs ls h hW hl => ih S x5 H locs ls h hW hl) h hW hl
def n_X12_plead_0_b57 (F : Nat) (rc30 : Zs → Int32 → Int32 → Int32 → Option (Int32 × Zs)) (S : Zs) (x1 : Int32) (x2 : Int32) (t0 : Int32) : Option (Int32 × Zs) :=
  rc30 S x1 x2 t0
set_option maxRecDepth 20000 in
set_option maxHeartbeats 4000000 in
theorem w_X12_plead_0_b57 {F : Nat} {q : (Int32 × Zs)} {S : Zs} {rc30 : Zs → Int32 → Int32 → Int32 → Option (Int32 × Zs)} {x1 : Int32} {x2 : Int32} {t0 : Int32} {ls : Array Slot} {H : Heap} {locs : List Loc} (C : zC p s m args meth c cX12_plead 7 RX12 (some .int)) (hrc30 : ∀ (S : Zs) (x1 : Int32) (x2 : Int32) (x3 : Int32) (H : Heap) (locs : List Loc) (ls : Array Slot), rc30 S x1 x2 x3 = some q → zW (mG D cs ad) s S H locs → lv_has ls 7 [(0, .ref (ad 0)), (1, .int x1), (2, .int x2), (3, .int x3)] → W p l e (zR 8 190) s m args below meth c H locs 0 0 (zQi (mG D cs ad) q below args s) (F0 m 30 ls [])) (h : n_X12_plead_0_b57 F rc30 S x1 x2 t0 = some q) (hW : zW (mG D cs ad) s S H locs) (hl : lv_has ls 7 [(0, .ref (ad 0)), (1, .int x1), (2, .int x2)]) : W p l e (zR 8 190) s m args below meth c H locs 0 0 (zQi (mG D cs ad) q below args s) (F0 m 57 ls [.int t0]) := by
  unfold n_X12_plead_0_b57 at h
  obtain ⟨hx, hb, hml, hown, hts, hret, hlk⟩ := id C
  refine lv_istore_n (lv' := [(3, .int t0), (0, .ref (ad 0)), (1, .int x1), (2, .int x2)]) hx hb dX12_plead_57 rfl hl (by decide) rfl (fun ls hl => ?_)
  refine lv_goto (tgt := 30) hx hb dX12_plead_58 (by decide) ?_
  exact hrc30 _ _ _ _ _ _ _ h hW (lv_sub hl [1, 2, 3, 0] rfl)
def n_X12_plead_0_b56 (F : Nat) (rc30 : Zs → Int32 → Int32 → Int32 → Option (Int32 × Zs)) (S : Zs) (x1 : Int32) (x2 : Int32) : Option (Int32 × Zs) :=
  n_X12_plead_0_b57 F rc30 S x1 x2 (0 : Int32)
set_option maxRecDepth 20000 in
set_option maxHeartbeats 4000000 in
theorem w_X12_plead_0_b56 {F : Nat} {q : (Int32 × Zs)} {S : Zs} {rc30 : Zs → Int32 → Int32 → Int32 → Option (Int32 × Zs)} {x1 : Int32} {x2 : Int32} {ls : Array Slot} {H : Heap} {locs : List Loc} (C : zC p s m args meth c cX12_plead 7 RX12 (some .int)) (hrc30 : ∀ (S : Zs) (x1 : Int32) (x2 : Int32) (x3 : Int32) (H : Heap) (locs : List Loc) (ls : Array Slot), rc30 S x1 x2 x3 = some q → zW (mG D cs ad) s S H locs → lv_has ls 7 [(0, .ref (ad 0)), (1, .int x1), (2, .int x2), (3, .int x3)] → W p l e (zR 8 190) s m args below meth c H locs 0 0 (zQi (mG D cs ad) q below args s) (F0 m 30 ls [])) (h : n_X12_plead_0_b56 F rc30 S x1 x2 = some q) (hW : zW (mG D cs ad) s S H locs) (hl : lv_has ls 7 [(0, .ref (ad 0)), (1, .int x1), (2, .int x2)]) : W p l e (zR 8 190) s m args below meth c H locs 0 0 (zQi (mG D cs ad) q below args s) (F0 m 56 ls []) := by
  unfold n_X12_plead_0_b56 at h
  obtain ⟨hx, hb, hml, hown, hts, hret, hlk⟩ := id C
  refine lv_iconst (v := 0) hx hb dX12_plead_56 (by decide) ?_
  exact w_X12_plead_0_b57 (F := F) C hrc30 h hW (lv_sub hl [0, 1, 2] rfl)
def n_X12_plead_0_b30_l (F : Nat) (rc30 : Zs → Int32 → Int32 → Int32 → Option (Int32 × Zs)) (S : Zs) (x1 : Int32) (x2 : Int32) (x3 : Int32) : Option (Int32 × Zs) :=
  if x3 = 0 then (zcl (n_X12_faultOf_0 F S x1 x2) (fun v2 S1 => if 0 ≤ v2 then (zgf S1 35 (fun v3 => n_X12_plead_0_b83 F  S1 v3)) else (some (v2, S1)))) else (zcl (n_X12_readsPlea_0 F S ) (fun v5 S4 => if v5 = 0 then (n_X12_plead_0_b56 F rc30 S4 x1 v5) else (zcl (n_X12_takes_0 F S4 (59 : Int32)) (fun v7 S6 => if v7 = 0 then (n_X12_plead_0_b56 F rc30 S6 x1 v5) else (n_X12_plead_0_b57 F rc30 S6 x1 v5 (1 : Int32))))))
set_option maxRecDepth 20000 in
set_option maxHeartbeats 4000000 in
theorem w_X12_plead_0_b30_l {F : Nat} {q : (Int32 × Zs)} {S : Zs} {rc30 : Zs → Int32 → Int32 → Int32 → Option (Int32 × Zs)} {x1 : Int32} {x2 : Int32} {x3 : Int32} {ls : Array Slot} {H : Heap} {locs : List Loc} (C : zC p s m args meth c cX12_plead 7 RX12 (some .int)) (hrc30 : ∀ (S : Zs) (x1 : Int32) (x2 : Int32) (x3 : Int32) (H : Heap) (locs : List Loc) (ls : Array Slot), rc30 S x1 x2 x3 = some q → zW (mG D cs ad) s S H locs → lv_has ls 7 [(0, .ref (ad 0)), (1, .int x1), (2, .int x2), (3, .int x3)] → W p l e (zR 8 190) s m args below meth c H locs 0 0 (zQi (mG D cs ad) q below args s) (F0 m 30 ls [])) (h : n_X12_plead_0_b30_l F rc30 S x1 x2 x3 = some q) (hW : zW (mG D cs ad) s S H locs) (hl : lv_has ls 7 [(0, .ref (ad 0)), (1, .int x1), (2, .int x2), (3, .int x3)]) : W p l e (zR 8 190) s m args below meth c H locs 0 0 (zQi (mG D cs ad) q below args s) (F0 m 30 ls []) := by
  unfold n_X12_plead_0_b30_l at h
  obtain ⟨hx, hb, hml, hown, hts, hret, hlk⟩ := id C
  refine lv_iload_n hx hb dX12_plead_30 rfl (lv_at hl 3 rfl) ?_
  refine zz_ieq (tgt := 61) C h dX12_plead_31 (by decide) (fun h => ?_) (fun h => ?_)
  · refine lv_aload_n hx hb dX12_plead_61 rfl (lv_at hl 0 rfl) ?_
    refine lv_iload_n hx hb dX12_plead_62 rfl (lv_at hl 1 rfl) ?_
    refine lv_iload_n hx hb dX12_plead_63 rfl (lv_at hl 2 rfl) ?_
    refine zz_callVi (As := [.int x1, .int x2]) C hW h (fun r hr => c_X12_faultOf_0 hr) lk_X12_111 (hW.recv mr_0) rfl hl.1 ⟨rfl, rfl⟩ ⟨Nat.le_of_ble_eq_true rfl, Nat.le_of_ble_eq_true rfl⟩ (Nat.le_of_ble_eq_true rfl) ⟨Nat.zero_le _, Nat.zero_le _⟩ rfl dX12_plead_64 (fun v2 S1 H locs h hW => ?_)
    refine lv_istore (lv' := [(4, .int v2), (0, .ref (ad 0)), (1, .int x1), (2, .int x2), (3, .int x3)]) hx hb dX12_plead_67 hl (by decide) rfl (fun ls hl => ?_)
    refine lv_iload hx hb dX12_plead_69 (lv_at hl 0 rfl) ?_
    refine zz_ige (tgt := 77) C h dX12_plead_71 (by decide) (fun h => ?_) (fun h => ?_)
    · refine lv_aload_n hx hb dX12_plead_77 rfl (lv_at hl 1 rfl) ?_
      refine mg_0_35 C hW h fl_X12_444 dX12_plead_78 (fun v3 h => ?_)
      refine lv_istore (lv' := [(5, .int v3), (4, .int v2), (0, .ref (ad 0)), (1, .int x1), (2, .int x2), (3, .int x3)]) hx hb dX12_plead_81 hl (by decide) rfl (fun ls hl => ?_)
      exact w_X12_plead_0_b83 (F := F) C F _ _ _ _ _ h hW (lv_sub hl [2, 0] rfl)
    · refine lv_iload hx hb dX12_plead_74 (lv_at hl 0 rfl) ?_
      exact zz_iret C rfl h hW dX12_plead_76
  · refine lv_aload_n hx hb dX12_plead_34 rfl (lv_at hl 0 rfl) ?_
    refine zz_callVi (As := []) C hW h (fun r hr => c_X12_readsPlea_0 hr) lk_X12_447 (hW.recv mr_0) rfl hl.1 ⟨rfl, rfl⟩ ⟨Nat.le_of_ble_eq_true rfl, Nat.le_of_ble_eq_true rfl⟩ (Nat.le_of_ble_eq_true rfl) ⟨Nat.zero_le _, Nat.zero_le _⟩ rfl dX12_plead_35 (fun v5 S4 H locs h hW => ?_)
    refine lv_istore_n (lv' := [(2, .int v5), (0, .ref (ad 0)), (1, .int x1), (3, .int x3)]) hx hb dX12_plead_38 rfl hl (by decide) rfl (fun ls hl => ?_)
    refine lv_iload_n hx hb dX12_plead_39 rfl (lv_at hl 0 rfl) ?_
    refine zz_ieq (tgt := 56) C h dX12_plead_40 (by decide) (fun h => ?_) (fun h => ?_)
    · exact w_X12_plead_0_b56 (F := F) C hrc30 h hW (lv_sub hl [1, 2, 0] rfl)
    · refine lv_aload_n hx hb dX12_plead_43 rfl (lv_at hl 1 rfl) ?_
      refine lv_bipush (v := 59) hx hb dX12_plead_44 (by decide) ?_
      refine zz_callVi (As := [.int (59 : Int32)]) C hW h (fun r hr => c_X12_takes_0 hr) lk_X12_72 (hW.recv mr_0) rfl hl.1 ⟨rfl, rfl⟩ ⟨Nat.le_of_ble_eq_true rfl, Nat.le_of_ble_eq_true rfl⟩ (Nat.le_of_ble_eq_true rfl) ⟨Nat.zero_le _, Nat.zero_le _⟩ rfl dX12_plead_46 (fun v7 S6 H locs h hW => ?_)
      refine zz_ieq (tgt := 56) C h dX12_plead_49 (by decide) (fun h => ?_) (fun h => ?_)
      · exact w_X12_plead_0_b56 (F := F) C hrc30 h hW (lv_sub hl [1, 2, 0] rfl)
      · refine lv_iconst (v := 1) hx hb dX12_plead_52 (by decide) ?_
        refine lv_goto (tgt := 57) hx hb dX12_plead_53 (by decide) ?_
        exact w_X12_plead_0_b57 (F := F) C hrc30 h hW (lv_sub hl [1, 2, 0] rfl)
def n_X12_plead_0_b30 (F : Nat)  (S : Zs) (x1 : Int32) (x2 : Int32) (x3 : Int32) : Option (Int32 × Zs) :=
  zfix (fun (rc : (Zs × Int32 × Int32 × Int32) → Option (Int32 × Zs)) (u : (Zs × Int32 × Int32 × Int32)) => n_X12_plead_0_b30_l F  (fun S x1 x2 x3 => rc (S, x1, x2, x3)) u.1 u.2.1 u.2.2.1 u.2.2.2) F (S, x1, x2, x3)
theorem w_X12_plead_0_b30 {F : Nat} {q : (Int32 × Zs)}  (C : zC p s m args meth c cX12_plead 7 RX12 (some .int))  : ∀ (n : Nat) (S : Zs) (x1 : Int32) (x2 : Int32) (x3 : Int32) (H : Heap) (locs : List Loc) (ls : Array Slot), zfix (fun (rc : (Zs × Int32 × Int32 × Int32) → Option (Int32 × Zs)) (u : (Zs × Int32 × Int32 × Int32)) => n_X12_plead_0_b30_l F  (fun S x1 x2 x3 => rc (S, x1, x2, x3)) u.1 u.2.1 u.2.2.1 u.2.2.2) n (S, x1, x2, x3) = some q → zW (mG D cs ad) s S H locs → lv_has ls 7 [(0, .ref (ad 0)), (1, .int x1), (2, .int x2), (3, .int x3)] → W p l e (zR 8 190) s m args below meth c H locs 0 0 (zQi (mG D cs ad) q below args s) (F0 m 30 ls []) := by
  intro n
  induction n with
  | zero => intro S x1 x2 x3 H locs ls h; exact absurd h (fun h => by cases h)
  | succ n ih => intro S x1 x2 x3 H locs ls h hW hl; exact w_X12_plead_0_b30_l (F := F) C (fun S x1 x2 x3 H locs ls h hW hl => ih S x1 x2 x3 H locs ls h hW hl) h hW hl
def n_X12_plead_0_b29 (F : Nat)  (S : Zs) (x1 : Int32) (x2 : Int32) (t0 : Int32) : Option (Int32 × Zs) :=
  n_X12_plead_0_b30 F  S x1 x2 t0
set_option maxRecDepth 20000 in
set_option maxHeartbeats 4000000 in
theorem w_X12_plead_0_b29 {F : Nat} {q : (Int32 × Zs)} {S : Zs}  {x1 : Int32} {x2 : Int32} {t0 : Int32} {ls : Array Slot} {H : Heap} {locs : List Loc} (C : zC p s m args meth c cX12_plead 7 RX12 (some .int))  (h : n_X12_plead_0_b29 F  S x1 x2 t0 = some q) (hW : zW (mG D cs ad) s S H locs) (hl : lv_has ls 7 [(0, .ref (ad 0)), (1, .int x1), (2, .int x2)]) : W p l e (zR 8 190) s m args below meth c H locs 0 0 (zQi (mG D cs ad) q below args s) (F0 m 29 ls [.int t0]) := by
  unfold n_X12_plead_0_b29 at h
  obtain ⟨hx, hb, hml, hown, hts, hret, hlk⟩ := id C
  refine lv_istore_n (lv' := [(3, .int t0), (0, .ref (ad 0)), (1, .int x1), (2, .int x2)]) hx hb dX12_plead_29 rfl hl (by decide) rfl (fun ls hl => ?_)
  exact w_X12_plead_0_b30 (F := F) C F _ _ _ _ _ _ _ h hW (lv_sub hl [1, 2, 3, 0] rfl)
def n_X12_plead_0_e (F : Nat)  (S : Zs)  : Option (Int32 × Zs) :=
  zpf S 0 (0 : Int32) (fun S1 => zcl (n_X12_begins_0 F S1 ) (fun v3 S2 => zgf S2 35 (fun v4 => zpf S2 36 v4 (fun S5 => if v3 ≤ 0 then (n_X12_plead_0_b29 F  S5 v3 (1 : Int32) (0 : Int32)) else (n_X12_plead_0_b29 F  S5 v3 (1 : Int32) (1 : Int32))))))
set_option maxRecDepth 20000 in
set_option maxHeartbeats 4000000 in
theorem w_X12_plead_0_e {F : Nat} {q : (Int32 × Zs)} {S : Zs}   {ls : Array Slot} {H : Heap} {locs : List Loc} (C : zC p s m args meth c cX12_plead 7 RX12 (some .int))  (h : n_X12_plead_0_e F  S  = some q) (hW : zW (mG D cs ad) s S H locs) (hl : lv_has ls 7 [(0, .ref (ad 0))]) : W p l e (zR 8 190) s m args below meth c H locs 0 0 (zQi (mG D cs ad) q below args s) (F0 m 0 ls []) := by
  unfold n_X12_plead_0_e at h
  obtain ⟨hx, hb, hml, hown, hts, hret, hlk⟩ := id C
  refine lv_aload_n hx hb dX12_plead_0 rfl (lv_at hl 0 rfl) ?_
  refine lv_iconst (v := 0) hx hb dX12_plead_1 (by decide) ?_
  refine mp_0_0 C hW h fl_X12_3 dX12_plead_2 (fun S1 H locs h hW => ?_)
  refine lv_aload_n hx hb dX12_plead_5 rfl (lv_at hl 0 rfl) ?_
  refine zz_callVi (As := []) C hW h (fun r hr => c_X12_begins_0 hr) lk_X12_102 (hW.recv mr_0) rfl hl.1 ⟨rfl, rfl⟩ ⟨Nat.le_of_ble_eq_true rfl, Nat.le_of_ble_eq_true rfl⟩ (Nat.le_of_ble_eq_true rfl) ⟨Nat.zero_le _, Nat.zero_le _⟩ rfl dX12_plead_6 (fun v3 S2 H locs h hW => ?_)
  refine lv_istore_n (lv' := [(1, .int v3), (0, .ref (ad 0))]) hx hb dX12_plead_9 rfl hl (by decide) rfl (fun ls hl => ?_)
  refine lv_aload_n hx hb dX12_plead_10 rfl (lv_at hl 1 rfl) ?_
  refine lv_aload_n hx hb dX12_plead_11 rfl (lv_at hl 1 rfl) ?_
  refine mg_0_35 C hW h fl_X12_444 dX12_plead_12 (fun v4 h => ?_)
  refine mp_0_36 C hW h fl_X12_413 dX12_plead_15 (fun S5 H locs h hW => ?_)
  refine lv_iconst (v := 1) hx hb dX12_plead_18 (by decide) ?_
  refine lv_istore_n (lv' := [(2, .int (1 : Int32)), (1, .int v3), (0, .ref (ad 0))]) hx hb dX12_plead_19 rfl hl (by decide) rfl (fun ls hl => ?_)
  refine lv_iload_n hx hb dX12_plead_20 rfl (lv_at hl 1 rfl) ?_
  refine zz_ile (tgt := 28) C h dX12_plead_21 (by decide) (fun h => ?_) (fun h => ?_)
  · refine lv_iconst (v := 0) hx hb dX12_plead_28 (by decide) ?_
    exact w_X12_plead_0_b29 (F := F) C h hW (lv_sub hl [2, 1, 0] rfl)
  · refine lv_iconst (v := 1) hx hb dX12_plead_24 (by decide) ?_
    refine lv_goto (tgt := 29) hx hb dX12_plead_25 (by decide) ?_
    exact w_X12_plead_0_b29 (F := F) C h hW (lv_sub hl [2, 1, 0] rfl)
def n_X12_plead_0 (F : Nat) (S : Zs)  : Option (Int32 × Zs) := n_X12_plead_0_e F  S 
theorem c_X12_plead_0 {l : Launch} {D : va_G} {cs ad : Nat → Nat} {F : Nat} {S : Zs}  {q : (Int32 × Zs)} (h : n_X12_plead_0 F S  = some q) : zMi l yX12_plead cX12_plead 7 (some .int) (zR 8 190) (mG D cs ad) [.ref (ad 0)] S q :=
  zz_enter (by decide) (Nat.le_of_ble_eq_true rfl) (fun p e s m below meth c ls C hW hl => w_X12_plead_0_e (F := F) C h hW (lv_sub hl [0] rfl))
def n_X12_pleaded_0_b33 (F : Nat)  (S : Zs)  : Option (Int32 × Zs) :=
  zcl (n_X12_refuse_0 F S ) (fun v2 S1 => some (v2, S1))
set_option maxRecDepth 20000 in
set_option maxHeartbeats 4000000 in
theorem w_X12_pleaded_0_b33 {F : Nat} {q : (Int32 × Zs)} {S : Zs}   {ls : Array Slot} {H : Heap} {locs : List Loc} (C : zC p s m args meth c cX12_pleaded 4 RX12 (some .int))  (h : n_X12_pleaded_0_b33 F  S  = some q) (hW : zW (mG D cs ad) s S H locs) (hl : lv_has ls 4 [(0, .ref (ad 0))]) : W p l e (zR 1 25) s m args below meth c H locs 0 0 (zQi (mG D cs ad) q below args s) (F0 m 33 ls []) := by
  unfold n_X12_pleaded_0_b33 at h
  obtain ⟨hx, hb, hml, hown, hts, hret, hlk⟩ := id C
  refine lv_aload_n hx hb dX12_pleaded_33 rfl (lv_at hl 0 rfl) ?_
  refine zz_callVi (As := []) C hW h (fun r hr => c_X12_refuse_0 hr) lk_X12_123 (hW.recv mr_0) rfl hl.1 ⟨rfl, rfl⟩ ⟨Nat.le_of_ble_eq_true rfl, Nat.le_of_ble_eq_true rfl⟩ (Nat.le_of_ble_eq_true rfl) ⟨Nat.zero_le _, Nat.zero_le _⟩ rfl dX12_pleaded_34 (fun v2 S1 H locs h hW => ?_)
  exact zz_iret C rfl h hW dX12_pleaded_37
def n_X12_pleaded_0_b89 (F : Nat)  (S : Zs) (x1 : Int32) : Option (Int32 × Zs) :=
  zld S 20 40 x1 (fun v1 => some (v1, S))
set_option maxRecDepth 20000 in
set_option maxHeartbeats 4000000 in
theorem w_X12_pleaded_0_b89 {F : Nat} {q : (Int32 × Zs)} {S : Zs}  {x1 : Int32} {ls : Array Slot} {H : Heap} {locs : List Loc} (C : zC p s m args meth c cX12_pleaded 4 RX12 (some .int))  (h : n_X12_pleaded_0_b89 F  S x1 = some q) (hW : zW (mG D cs ad) s S H locs) (hl : lv_has ls 4 [(1, .int x1)]) : W p l e (zR 1 25) s m args below meth c H locs 0 0 (zQi (mG D cs ad) q below args s) (F0 m 89 ls [.ref (ad 20)]) := by
  unfold n_X12_pleaded_0_b89 at h
  obtain ⟨hx, hb, hml, hown, hts, hret, hlk⟩ := id C
  refine lv_astore_n (lv' := [(3, .ref (ad 20)), (1, .int x1)]) hx hb dX12_pleaded_89 rfl hl (by decide) rfl (fun ls hl => ?_)
  refine lv_aload_n hx hb dX12_pleaded_90 rfl (lv_at hl 0 rfl) ?_
  refine lv_iload_n hx hb dX12_pleaded_91 rfl (lv_at hl 1 rfl) ?_
  refine ml_20 C hW h dX12_pleaded_92 (fun v1 h => ?_)
  exact zz_iret C rfl h hW dX12_pleaded_93
def n_X12_pleaded_0_b89_1 (F : Nat)  (S : Zs) (x1 : Int32) : Option (Int32 × Zs) :=
  zld S 19 40 x1 (fun v1 => some (v1, S))
set_option maxRecDepth 20000 in
set_option maxHeartbeats 4000000 in
theorem w_X12_pleaded_0_b89_1 {F : Nat} {q : (Int32 × Zs)} {S : Zs}  {x1 : Int32} {ls : Array Slot} {H : Heap} {locs : List Loc} (C : zC p s m args meth c cX12_pleaded 4 RX12 (some .int))  (h : n_X12_pleaded_0_b89_1 F  S x1 = some q) (hW : zW (mG D cs ad) s S H locs) (hl : lv_has ls 4 [(1, .int x1)]) : W p l e (zR 1 25) s m args below meth c H locs 0 0 (zQi (mG D cs ad) q below args s) (F0 m 89 ls [.ref (ad 19)]) := by
  unfold n_X12_pleaded_0_b89_1 at h
  obtain ⟨hx, hb, hml, hown, hts, hret, hlk⟩ := id C
  refine lv_astore_n (lv' := [(3, .ref (ad 19)), (1, .int x1)]) hx hb dX12_pleaded_89 rfl hl (by decide) rfl (fun ls hl => ?_)
  refine lv_aload_n hx hb dX12_pleaded_90 rfl (lv_at hl 0 rfl) ?_
  refine lv_iload_n hx hb dX12_pleaded_91 rfl (lv_at hl 1 rfl) ?_
  refine ml_19 C hW h dX12_pleaded_92 (fun v1 h => ?_)
  exact zz_iret C rfl h hW dX12_pleaded_93
def n_X12_pleaded_0_b89_2 (F : Nat)  (S : Zs) (x1 : Int32) : Option (Int32 × Zs) :=
  zld S 18 40 x1 (fun v1 => some (v1, S))
set_option maxRecDepth 20000 in
set_option maxHeartbeats 4000000 in
theorem w_X12_pleaded_0_b89_2 {F : Nat} {q : (Int32 × Zs)} {S : Zs}  {x1 : Int32} {ls : Array Slot} {H : Heap} {locs : List Loc} (C : zC p s m args meth c cX12_pleaded 4 RX12 (some .int))  (h : n_X12_pleaded_0_b89_2 F  S x1 = some q) (hW : zW (mG D cs ad) s S H locs) (hl : lv_has ls 4 [(1, .int x1)]) : W p l e (zR 1 25) s m args below meth c H locs 0 0 (zQi (mG D cs ad) q below args s) (F0 m 89 ls [.ref (ad 18)]) := by
  unfold n_X12_pleaded_0_b89_2 at h
  obtain ⟨hx, hb, hml, hown, hts, hret, hlk⟩ := id C
  refine lv_astore_n (lv' := [(3, .ref (ad 18)), (1, .int x1)]) hx hb dX12_pleaded_89 rfl hl (by decide) rfl (fun ls hl => ?_)
  refine lv_aload_n hx hb dX12_pleaded_90 rfl (lv_at hl 0 rfl) ?_
  refine lv_iload_n hx hb dX12_pleaded_91 rfl (lv_at hl 1 rfl) ?_
  refine ml_18 C hW h dX12_pleaded_92 (fun v1 h => ?_)
  exact zz_iret C rfl h hW dX12_pleaded_93
def n_X12_pleaded_0_b89_3 (F : Nat)  (S : Zs) (x1 : Int32) : Option (Int32 × Zs) :=
  zld S 17 40 x1 (fun v1 => some (v1, S))
set_option maxRecDepth 20000 in
set_option maxHeartbeats 4000000 in
theorem w_X12_pleaded_0_b89_3 {F : Nat} {q : (Int32 × Zs)} {S : Zs}  {x1 : Int32} {ls : Array Slot} {H : Heap} {locs : List Loc} (C : zC p s m args meth c cX12_pleaded 4 RX12 (some .int))  (h : n_X12_pleaded_0_b89_3 F  S x1 = some q) (hW : zW (mG D cs ad) s S H locs) (hl : lv_has ls 4 [(1, .int x1)]) : W p l e (zR 1 25) s m args below meth c H locs 0 0 (zQi (mG D cs ad) q below args s) (F0 m 89 ls [.ref (ad 17)]) := by
  unfold n_X12_pleaded_0_b89_3 at h
  obtain ⟨hx, hb, hml, hown, hts, hret, hlk⟩ := id C
  refine lv_astore_n (lv' := [(3, .ref (ad 17)), (1, .int x1)]) hx hb dX12_pleaded_89 rfl hl (by decide) rfl (fun ls hl => ?_)
  refine lv_aload_n hx hb dX12_pleaded_90 rfl (lv_at hl 0 rfl) ?_
  refine lv_iload_n hx hb dX12_pleaded_91 rfl (lv_at hl 1 rfl) ?_
  refine ml_17 C hW h dX12_pleaded_92 (fun v1 h => ?_)
  exact zz_iret C rfl h hW dX12_pleaded_93
def n_X12_pleaded_0_b89_4 (F : Nat)  (S : Zs) (x1 : Int32) : Option (Int32 × Zs) :=
  zld S 16 40 x1 (fun v1 => some (v1, S))
set_option maxRecDepth 20000 in
set_option maxHeartbeats 4000000 in
theorem w_X12_pleaded_0_b89_4 {F : Nat} {q : (Int32 × Zs)} {S : Zs}  {x1 : Int32} {ls : Array Slot} {H : Heap} {locs : List Loc} (C : zC p s m args meth c cX12_pleaded 4 RX12 (some .int))  (h : n_X12_pleaded_0_b89_4 F  S x1 = some q) (hW : zW (mG D cs ad) s S H locs) (hl : lv_has ls 4 [(1, .int x1)]) : W p l e (zR 1 25) s m args below meth c H locs 0 0 (zQi (mG D cs ad) q below args s) (F0 m 89 ls [.ref (ad 16)]) := by
  unfold n_X12_pleaded_0_b89_4 at h
  obtain ⟨hx, hb, hml, hown, hts, hret, hlk⟩ := id C
  refine lv_astore_n (lv' := [(3, .ref (ad 16)), (1, .int x1)]) hx hb dX12_pleaded_89 rfl hl (by decide) rfl (fun ls hl => ?_)
  refine lv_aload_n hx hb dX12_pleaded_90 rfl (lv_at hl 0 rfl) ?_
  refine lv_iload_n hx hb dX12_pleaded_91 rfl (lv_at hl 1 rfl) ?_
  refine ml_16 C hW h dX12_pleaded_92 (fun v1 h => ?_)
  exact zz_iret C rfl h hW dX12_pleaded_93
def n_X12_pleaded_0_e (F : Nat)  (S : Zs) (x1 : Int32) (x2 : Int32) : Option (Int32 × Zs) :=
  zpf S 0 (0 : Int32) (fun S1 => zgf S1 35 (fun v2 => zcl (n_X12_in F S1 (x1.toInt64) (0 : Int64) ((v2 - (1 : Int32)).toInt64)) (fun v4 S3 => if v4 = 0 then (n_X12_pleaded_0_b33 F  S3 ) else (zcl (n_X12_in F S3 (x2.toInt64) (0 : Int64) (4 : Int64)) (fun v6 S5 => if v6 = 0 then (n_X12_pleaded_0_b33 F  S5 ) else (if x2 = 0 then (n_X12_pleaded_0_b89_4 F  S5 x1) else (if x2 = (1 : Int32) then (n_X12_pleaded_0_b89_3 F  S5 x1) else (if x2 = (2 : Int32) then (n_X12_pleaded_0_b89_2 F  S5 x1) else (if x2 = (3 : Int32) then (n_X12_pleaded_0_b89_1 F  S5 x1) else (n_X12_pleaded_0_b89 F  S5 x1))))))))))
set_option maxRecDepth 20000 in
set_option maxHeartbeats 4000000 in
theorem w_X12_pleaded_0_e {F : Nat} {q : (Int32 × Zs)} {S : Zs}  {x1 : Int32} {x2 : Int32} {ls : Array Slot} {H : Heap} {locs : List Loc} (C : zC p s m args meth c cX12_pleaded 4 RX12 (some .int))  (h : n_X12_pleaded_0_e F  S x1 x2 = some q) (hW : zW (mG D cs ad) s S H locs) (hl : lv_has ls 4 [(0, .ref (ad 0)), (1, .int x1), (2, .int x2)]) : W p l e (zR 1 25) s m args below meth c H locs 0 0 (zQi (mG D cs ad) q below args s) (F0 m 0 ls []) := by
  unfold n_X12_pleaded_0_e at h
  obtain ⟨hx, hb, hml, hown, hts, hret, hlk⟩ := id C
  refine lv_aload_n hx hb dX12_pleaded_0 rfl (lv_at hl 0 rfl) ?_
  refine lv_iconst (v := 0) hx hb dX12_pleaded_1 (by decide) ?_
  refine mp_0_0 C hW h fl_X12_3 dX12_pleaded_2 (fun S1 H locs h hW => ?_)
  refine lv_iload_n hx hb dX12_pleaded_5 rfl (lv_at hl 1 rfl) ?_
  refine lv_i2l hx hb dX12_pleaded_6 rfl ?_
  refine lv_lconst (v := 0) hx hb dX12_pleaded_7 (by decide) ?_
  refine lv_aload_n hx hb dX12_pleaded_8 rfl (lv_at hl 0 rfl) ?_
  refine mg_0_35 C hW h fl_X12_444 dX12_pleaded_9 (fun v2 h => ?_)
  refine lv_iconst (v := 1) hx hb dX12_pleaded_12 (by decide) ?_
  refine lv_isub hx hb dX12_pleaded_13 ?_
  refine lv_i2l hx hb dX12_pleaded_14 rfl ?_
  refine zz_callSi (As := [.long (x1.toInt64), .long (0 : Int64), .long ((v2 - (1 : Int32)).toInt64)]) C hW h (fun r hr => c_X12_in hr) lk_X12_16 rfl hl.1 ⟨rfl, rfl⟩ ⟨Nat.le_of_ble_eq_true rfl, Nat.le_of_ble_eq_true rfl⟩ (Nat.le_of_ble_eq_true rfl) ⟨Nat.zero_le _, Nat.zero_le _⟩ rfl dX12_pleaded_15 (fun v4 S3 H locs h hW => ?_)
  refine zz_ieq (tgt := 33) C h dX12_pleaded_18 (by decide) (fun h => ?_) (fun h => ?_)
  · exact w_X12_pleaded_0_b33 (F := F) C h hW (lv_sub hl [0] rfl)
  · refine lv_iload_n hx hb dX12_pleaded_21 rfl (lv_at hl 2 rfl) ?_
    refine lv_i2l hx hb dX12_pleaded_22 rfl ?_
    refine lv_lconst (v := 0) hx hb dX12_pleaded_23 (by decide) ?_
    refine lv_ldc2 (v := 4) hx hb hown (hts _ ct_X12_329) dX12_pleaded_24 ?_
    refine zz_callSi (As := [.long (x2.toInt64), .long (0 : Int64), .long (4 : Int64)]) C hW h (fun r hr => c_X12_in hr) lk_X12_16 rfl hl.1 ⟨rfl, rfl⟩ ⟨Nat.le_of_ble_eq_true rfl, Nat.le_of_ble_eq_true rfl⟩ (Nat.le_of_ble_eq_true rfl) ⟨Nat.zero_le _, Nat.zero_le _⟩ rfl dX12_pleaded_27 (fun v6 S5 H locs h hW => ?_)
    refine zz_ine (tgt := 38) C h dX12_pleaded_30 (by decide) (fun h => ?_) (fun h => ?_)
    · refine lv_iload_n hx hb dX12_pleaded_38 rfl (lv_at hl 2 rfl) ?_
      refine zz_ine (tgt := 49) C h dX12_pleaded_39 (by decide) (fun h => ?_) (fun h => ?_)
      · refine lv_iload_n hx hb dX12_pleaded_49 rfl (lv_at hl 2 rfl) ?_
        refine lv_iconst (v := 1) hx hb dX12_pleaded_50 (by decide) ?_
        refine zz_cne (tgt := 61) C h dX12_pleaded_51 (by decide) (fun h => ?_) (fun h => ?_)
        · refine lv_iload_n hx hb dX12_pleaded_61 rfl (lv_at hl 2 rfl) ?_
          refine lv_iconst (v := 2) hx hb dX12_pleaded_62 (by decide) ?_
          refine zz_cne (tgt := 73) C h dX12_pleaded_63 (by decide) (fun h => ?_) (fun h => ?_)
          · refine lv_iload_n hx hb dX12_pleaded_73 rfl (lv_at hl 2 rfl) ?_
            refine lv_iconst (v := 3) hx hb dX12_pleaded_74 (by decide) ?_
            refine zz_cne (tgt := 85) C h dX12_pleaded_75 (by decide) (fun h => ?_) (fun h => ?_)
            · refine lv_aload_n hx hb dX12_pleaded_85 rfl (lv_at hl 0 rfl) ?_
              refine mg_0_41 C hW fl_X12_441 dX12_pleaded_86 ?_
              exact w_X12_pleaded_0_b89 (F := F) C h hW (lv_sub hl [1] rfl)
            · refine lv_aload_n hx hb dX12_pleaded_78 rfl (lv_at hl 0 rfl) ?_
              refine mg_0_40 C hW fl_X12_425 dX12_pleaded_79 ?_
              refine lv_goto (tgt := 89) hx hb dX12_pleaded_82 (by decide) ?_
              exact w_X12_pleaded_0_b89_1 (F := F) C h hW (lv_sub hl [1] rfl)
          · refine lv_aload_n hx hb dX12_pleaded_66 rfl (lv_at hl 0 rfl) ?_
            refine mg_0_39 C hW fl_X12_419 dX12_pleaded_67 ?_
            refine lv_goto (tgt := 89) hx hb dX12_pleaded_70 (by decide) ?_
            exact w_X12_pleaded_0_b89_2 (F := F) C h hW (lv_sub hl [1] rfl)
        · refine lv_aload_n hx hb dX12_pleaded_54 rfl (lv_at hl 0 rfl) ?_
          refine mg_0_38 C hW fl_X12_416 dX12_pleaded_55 ?_
          refine lv_goto (tgt := 89) hx hb dX12_pleaded_58 (by decide) ?_
          exact w_X12_pleaded_0_b89_3 (F := F) C h hW (lv_sub hl [1] rfl)
      · refine lv_aload_n hx hb dX12_pleaded_42 rfl (lv_at hl 0 rfl) ?_
        refine mg_0_37 C hW fl_X12_428 dX12_pleaded_43 ?_
        refine lv_goto (tgt := 89) hx hb dX12_pleaded_46 (by decide) ?_
        exact w_X12_pleaded_0_b89_4 (F := F) C h hW (lv_sub hl [1] rfl)
    · exact w_X12_pleaded_0_b33 (F := F) C h hW (lv_sub hl [0] rfl)
def n_X12_pleaded_0 (F : Nat) (S : Zs) (x1 : Int32) (x2 : Int32) : Option (Int32 × Zs) := n_X12_pleaded_0_e F  S x1 x2
theorem c_X12_pleaded_0 {l : Launch} {D : va_G} {cs ad : Nat → Nat} {F : Nat} {S : Zs} {x1 : Int32} {x2 : Int32} {q : (Int32 × Zs)} (h : n_X12_pleaded_0 F S x1 x2 = some q) : zMi l yX12_pleaded cX12_pleaded 4 (some .int) (zR 1 25) (mG D cs ad) [.ref (ad 0), .int x1, .int x2] S q :=
  zz_enter (by decide) (Nat.le_of_ble_eq_true rfl) (fun p e s m below meth c ls C hW hl => w_X12_pleaded_0_e (F := F) C h hW (lv_sub hl [0, 1, 2] rfl))
def n_X12_isStanding_0_b40 (F : Nat)  (S : Zs) (t0 : Int32) : Option (Int32 × Zs) :=
  zrb t0 S
set_option maxRecDepth 20000 in
set_option maxHeartbeats 4000000 in
theorem w_X12_isStanding_0_b40 {F : Nat} {q : (Int32 × Zs)} {S : Zs}  {t0 : Int32} {ls : Array Slot} {H : Heap} {locs : List Loc} (C : zC p s m args meth c cX12_isStanding 3 RX12 (some .boolean))  (h : n_X12_isStanding_0_b40 F  S t0 = some q) (hW : zW (mG D cs ad) s S H locs) (hl : lv_has ls 3 []) : W p l e (zR 1 21) s m args below meth c H locs 0 0 (zQi (mG D cs ad) q below args s) (F0 m 40 ls [.int t0]) := by
  unfold n_X12_isStanding_0_b40 at h
  obtain ⟨hx, hb, hml, hown, hts, hret, hlk⟩ := id C
  exact zz_zret C rfl h hW dX12_isStanding_40
def n_X12_isStanding_0_b35 (F : Nat)  (S : Zs)  : Option (Int32 × Zs) :=
  n_X12_isStanding_0_b40 F  S (1 : Int32)
set_option maxRecDepth 20000 in
set_option maxHeartbeats 4000000 in
theorem w_X12_isStanding_0_b35 {F : Nat} {q : (Int32 × Zs)} {S : Zs}   {ls : Array Slot} {H : Heap} {locs : List Loc} (C : zC p s m args meth c cX12_isStanding 3 RX12 (some .boolean))  (h : n_X12_isStanding_0_b35 F  S  = some q) (hW : zW (mG D cs ad) s S H locs) (hl : lv_has ls 3 []) : W p l e (zR 1 21) s m args below meth c H locs 0 0 (zQi (mG D cs ad) q below args s) (F0 m 35 ls []) := by
  unfold n_X12_isStanding_0_b35 at h
  obtain ⟨hx, hb, hml, hown, hts, hret, hlk⟩ := id C
  refine lv_iconst (v := 1) hx hb dX12_isStanding_35 (by decide) ?_
  refine lv_goto (tgt := 40) hx hb dX12_isStanding_36 (by decide) ?_
  exact w_X12_isStanding_0_b40 (F := F) C h hW (lv_sub hl [] rfl)
def n_X12_isStanding_0_b39 (F : Nat)  (S : Zs)  : Option (Int32 × Zs) :=
  n_X12_isStanding_0_b40 F  S (0 : Int32)
set_option maxRecDepth 20000 in
set_option maxHeartbeats 4000000 in
theorem w_X12_isStanding_0_b39 {F : Nat} {q : (Int32 × Zs)} {S : Zs}   {ls : Array Slot} {H : Heap} {locs : List Loc} (C : zC p s m args meth c cX12_isStanding 3 RX12 (some .boolean))  (h : n_X12_isStanding_0_b39 F  S  = some q) (hW : zW (mG D cs ad) s S H locs) (hl : lv_has ls 3 []) : W p l e (zR 1 21) s m args below meth c H locs 0 0 (zQi (mG D cs ad) q below args s) (F0 m 39 ls []) := by
  unfold n_X12_isStanding_0_b39 at h
  obtain ⟨hx, hb, hml, hown, hts, hret, hlk⟩ := id C
  refine lv_iconst (v := 0) hx hb dX12_isStanding_39 (by decide) ?_
  exact w_X12_isStanding_0_b40 (F := F) C h hW (lv_sub hl [] rfl)
def n_X12_isStanding_0_e (F : Nat)  (S : Zs) (x1 : Int32) (x2 : Int32) : Option (Int32 × Zs) :=
  if x1 < 0 then (n_X12_isStanding_0_b35 F  S ) else (if (16 : Int32) ≤ x1 then (zcl (n_X12_has F S x2 (x1 - (16 : Int32))) (fun v2 S1 => if v2 = 0 then (n_X12_isStanding_0_b39 F  S1 ) else (n_X12_isStanding_0_b35 F  S1 ))) else (zgf S 7 (fun v3 => zcl (n_X12_has F S v3 x1) (fun v5 S4 => if v5 = 0 then (n_X12_isStanding_0_b35 F  S4 ) else (n_X12_isStanding_0_b39 F  S4 )))))
set_option maxRecDepth 20000 in
set_option maxHeartbeats 4000000 in
theorem w_X12_isStanding_0_e {F : Nat} {q : (Int32 × Zs)} {S : Zs}  {x1 : Int32} {x2 : Int32} {ls : Array Slot} {H : Heap} {locs : List Loc} (C : zC p s m args meth c cX12_isStanding 3 RX12 (some .boolean))  (h : n_X12_isStanding_0_e F  S x1 x2 = some q) (hW : zW (mG D cs ad) s S H locs) (hl : lv_has ls 3 [(0, .ref (ad 0)), (1, .int x1), (2, .int x2)]) : W p l e (zR 1 21) s m args below meth c H locs 0 0 (zQi (mG D cs ad) q below args s) (F0 m 0 ls []) := by
  unfold n_X12_isStanding_0_e at h
  obtain ⟨hx, hb, hml, hown, hts, hret, hlk⟩ := id C
  refine lv_iload_n hx hb dX12_isStanding_0 rfl (lv_at hl 1 rfl) ?_
  refine zz_ilt (tgt := 35) C h dX12_isStanding_1 (by decide) (fun h => ?_) (fun h => ?_)
  · exact w_X12_isStanding_0_b35 (F := F) C h hW (lv_sub hl [] rfl)
  · refine lv_iload_n hx hb dX12_isStanding_4 rfl (lv_at hl 1 rfl) ?_
    refine lv_bipush (v := 16) hx hb dX12_isStanding_5 (by decide) ?_
    refine zz_cge (tgt := 24) C h dX12_isStanding_7 (by decide) (fun h => ?_) (fun h => ?_)
    · refine lv_iload_n hx hb dX12_isStanding_24 rfl (lv_at hl 2 rfl) ?_
      refine lv_iload_n hx hb dX12_isStanding_25 rfl (lv_at hl 1 rfl) ?_
      refine lv_bipush (v := 16) hx hb dX12_isStanding_26 (by decide) ?_
      refine lv_isub hx hb dX12_isStanding_28 ?_
      refine zz_callSi (As := [.int x2, .int (x1 - (16 : Int32))]) C hW h (fun r hr => c_X12_has hr) lk_X12_129 rfl hl.1 ⟨rfl, rfl⟩ ⟨Nat.le_of_ble_eq_true rfl, Nat.le_of_ble_eq_true rfl⟩ (Nat.le_of_ble_eq_true rfl) ⟨Nat.zero_le _, Nat.zero_le _⟩ rfl dX12_isStanding_29 (fun v2 S1 H locs h hW => ?_)
      refine zz_ieq (tgt := 39) C h dX12_isStanding_32 (by decide) (fun h => ?_) (fun h => ?_)
      · exact w_X12_isStanding_0_b39 (F := F) C h hW (lv_sub hl [] rfl)
      · exact w_X12_isStanding_0_b35 (F := F) C h hW (lv_sub hl [] rfl)
    · refine lv_aload_n hx hb dX12_isStanding_10 rfl (lv_at hl 0 rfl) ?_
      refine mg_0_7 C hW h fl_X12_126 dX12_isStanding_11 (fun v3 h => ?_)
      refine lv_iload_n hx hb dX12_isStanding_14 rfl (lv_at hl 1 rfl) ?_
      refine zz_callSi (As := [.int v3, .int x1]) C hW h (fun r hr => c_X12_has hr) lk_X12_129 rfl hl.1 ⟨rfl, rfl⟩ ⟨Nat.le_of_ble_eq_true rfl, Nat.le_of_ble_eq_true rfl⟩ (Nat.le_of_ble_eq_true rfl) ⟨Nat.zero_le _, Nat.zero_le _⟩ rfl dX12_isStanding_15 (fun v5 S4 H locs h hW => ?_)
      refine zz_ine (tgt := 39) C h dX12_isStanding_18 (by decide) (fun h => ?_) (fun h => ?_)
      · exact w_X12_isStanding_0_b39 (F := F) C h hW (lv_sub hl [] rfl)
      · refine lv_goto (tgt := 35) hx hb dX12_isStanding_21 (by decide) ?_
        exact w_X12_isStanding_0_b35 (F := F) C h hW (lv_sub hl [] rfl)
def n_X12_isStanding_0 (F : Nat) (S : Zs) (x1 : Int32) (x2 : Int32) : Option (Int32 × Zs) := n_X12_isStanding_0_e F  S x1 x2
theorem c_X12_isStanding_0 {l : Launch} {D : va_G} {cs ad : Nat → Nat} {F : Nat} {S : Zs} {x1 : Int32} {x2 : Int32} {q : (Int32 × Zs)} (h : n_X12_isStanding_0 F S x1 x2 = some q) : zMi l yX12_isStanding cX12_isStanding 3 (some .boolean) (zR 1 21) (mG D cs ad) [.ref (ad 0), .int x1, .int x2] S q :=
  zz_enter (by decide) (Nat.le_of_ble_eq_true rfl) (fun p e s m below meth c ls C hW hl => w_X12_isStanding_0_e (F := F) C h hW (lv_sub hl [0, 1, 2] rfl))
def n_X12_standingSteps_0_b48 (F : Nat) (rc4 : Zs → Int32 → Int32 → Option (Int32 × Zs)) (S : Zs) (x2 : Int32) (t0 : Int32) (t1 : Int32) : Option (Int32 × Zs) :=
  zlet (t1 ||| t0) (fun v1 => zlet (x2 + (1 : Int32)) (fun v2 => rc4 S v1 v2))
set_option maxRecDepth 20000 in
set_option maxHeartbeats 4000000 in
theorem w_X12_standingSteps_0_b48 {F : Nat} {q : (Int32 × Zs)} {S : Zs} {rc4 : Zs → Int32 → Int32 → Option (Int32 × Zs)} {x2 : Int32} {t0 : Int32} {t1 : Int32} {ls : Array Slot} {H : Heap} {locs : List Loc} (C : zC p s m args meth c cX12_standingSteps 3 RX12 (some .int)) (hrc4 : ∀ (S : Zs) (x1 : Int32) (x2 : Int32) (H : Heap) (locs : List Loc) (ls : Array Slot), rc4 S x1 x2 = some q → zW (mG D cs ad) s S H locs → lv_has ls 3 [(0, .ref (ad 0)), (1, .int x1), (2, .int x2)] → W p l e (zR 2 43) s m args below meth c H locs 0 0 (zQi (mG D cs ad) q below args s) (F0 m 4 ls [])) (h : n_X12_standingSteps_0_b48 F rc4 S x2 t0 t1 = some q) (hW : zW (mG D cs ad) s S H locs) (hl : lv_has ls 3 [(0, .ref (ad 0)), (2, .int x2)]) : W p l e (zR 2 43) s m args below meth c H locs 0 0 (zQi (mG D cs ad) q below args s) (F0 m 48 ls [.int t0, .int t1]) := by
  unfold n_X12_standingSteps_0_b48 at h
  obtain ⟨hx, hb, hml, hown, hts, hret, hlk⟩ := id C
  refine lv_ior hx hb dX12_standingSteps_48 ?_
  refine zz_leti h (fun v1 h => ?_)
  refine lv_istore_n (lv' := [(1, .int v1), (0, .ref (ad 0)), (2, .int x2)]) hx hb dX12_standingSteps_49 rfl hl (by decide) rfl (fun ls hl => ?_)
  obtain ⟨v2, ev2, h⟩ := zz_name h
  refine lv_iinc (v := v2) (lv' := [(2, .int v2), (1, .int v1), (0, .ref (ad 0))]) hx hb dX12_standingSteps_50 hl (k := 2) rfl ev2.symm (by decide) rfl (fun ls hl => ?_)
  refine lv_goto (tgt := 4) hx hb dX12_standingSteps_53 (by decide) ?_
  exact hrc4 _ _ _ _ _ _ h hW (lv_sub hl [2, 1, 0] rfl)
def n_X12_standingSteps_0_b47 (F : Nat) (rc4 : Zs → Int32 → Int32 → Option (Int32 × Zs)) (S : Zs) (x2 : Int32) (t0 : Int32) : Option (Int32 × Zs) :=
  n_X12_standingSteps_0_b48 F rc4 S x2 (0 : Int32) t0
set_option maxRecDepth 20000 in
set_option maxHeartbeats 4000000 in
theorem w_X12_standingSteps_0_b47 {F : Nat} {q : (Int32 × Zs)} {S : Zs} {rc4 : Zs → Int32 → Int32 → Option (Int32 × Zs)} {x2 : Int32} {t0 : Int32} {ls : Array Slot} {H : Heap} {locs : List Loc} (C : zC p s m args meth c cX12_standingSteps 3 RX12 (some .int)) (hrc4 : ∀ (S : Zs) (x1 : Int32) (x2 : Int32) (H : Heap) (locs : List Loc) (ls : Array Slot), rc4 S x1 x2 = some q → zW (mG D cs ad) s S H locs → lv_has ls 3 [(0, .ref (ad 0)), (1, .int x1), (2, .int x2)] → W p l e (zR 2 43) s m args below meth c H locs 0 0 (zQi (mG D cs ad) q below args s) (F0 m 4 ls [])) (h : n_X12_standingSteps_0_b47 F rc4 S x2 t0 = some q) (hW : zW (mG D cs ad) s S H locs) (hl : lv_has ls 3 [(0, .ref (ad 0)), (2, .int x2)]) : W p l e (zR 2 43) s m args below meth c H locs 0 0 (zQi (mG D cs ad) q below args s) (F0 m 47 ls [.int t0]) := by
  unfold n_X12_standingSteps_0_b47 at h
  obtain ⟨hx, hb, hml, hown, hts, hret, hlk⟩ := id C
  refine lv_iconst (v := 0) hx hb dX12_standingSteps_47 (by decide) ?_
  exact w_X12_standingSteps_0_b48 (F := F) C hrc4 h hW (lv_sub hl [0, 1] rfl)
def n_X12_standingSteps_0_b4_l (F : Nat) (rc4 : Zs → Int32 → Int32 → Option (Int32 × Zs)) (S : Zs) (x1 : Int32) (x2 : Int32) : Option (Int32 × Zs) :=
  zgf S 35 (fun v1 => if v1 ≤ x2 then (some (x1, S)) else (zld S 18 40 x2 (fun v2 => zcl (n_X12_isStanding_0 F S v2 x1) (fun v4 S3 => if v4 = 0 then (n_X12_standingSteps_0_b47 F rc4 S3 x2 x1) else (zld S3 19 40 x2 (fun v5 => zcl (n_X12_isStanding_0 F S3 v5 x1) (fun v7 S6 => if v7 = 0 then (n_X12_standingSteps_0_b47 F rc4 S6 x2 x1) else (n_X12_standingSteps_0_b48 F rc4 S6 x2 ((1 : Int32) <<< (x2 &&& 31)) x1))))))))
set_option maxRecDepth 20000 in
set_option maxHeartbeats 4000000 in
theorem w_X12_standingSteps_0_b4_l {F : Nat} {q : (Int32 × Zs)} {S : Zs} {rc4 : Zs → Int32 → Int32 → Option (Int32 × Zs)} {x1 : Int32} {x2 : Int32} {ls : Array Slot} {H : Heap} {locs : List Loc} (C : zC p s m args meth c cX12_standingSteps 3 RX12 (some .int)) (hrc4 : ∀ (S : Zs) (x1 : Int32) (x2 : Int32) (H : Heap) (locs : List Loc) (ls : Array Slot), rc4 S x1 x2 = some q → zW (mG D cs ad) s S H locs → lv_has ls 3 [(0, .ref (ad 0)), (1, .int x1), (2, .int x2)] → W p l e (zR 2 43) s m args below meth c H locs 0 0 (zQi (mG D cs ad) q below args s) (F0 m 4 ls [])) (h : n_X12_standingSteps_0_b4_l F rc4 S x1 x2 = some q) (hW : zW (mG D cs ad) s S H locs) (hl : lv_has ls 3 [(0, .ref (ad 0)), (1, .int x1), (2, .int x2)]) : W p l e (zR 2 43) s m args below meth c H locs 0 0 (zQi (mG D cs ad) q below args s) (F0 m 4 ls []) := by
  unfold n_X12_standingSteps_0_b4_l at h
  obtain ⟨hx, hb, hml, hown, hts, hret, hlk⟩ := id C
  refine lv_iload_n hx hb dX12_standingSteps_4 rfl (lv_at hl 2 rfl) ?_
  refine lv_aload_n hx hb dX12_standingSteps_5 rfl (lv_at hl 0 rfl) ?_
  refine mg_0_35 C hW h fl_X12_444 dX12_standingSteps_6 (fun v1 h => ?_)
  refine zz_cge (tgt := 56) C h dX12_standingSteps_9 (by decide) (fun h => ?_) (fun h => ?_)
  · refine lv_iload_n hx hb dX12_standingSteps_56 rfl (lv_at hl 1 rfl) ?_
    exact zz_iret C rfl h hW dX12_standingSteps_57
  · refine lv_iload_n hx hb dX12_standingSteps_12 rfl (lv_at hl 1 rfl) ?_
    refine lv_aload_n hx hb dX12_standingSteps_13 rfl (lv_at hl 0 rfl) ?_
    refine lv_aload_n hx hb dX12_standingSteps_14 rfl (lv_at hl 0 rfl) ?_
    refine mg_0_39 C hW fl_X12_419 dX12_standingSteps_15 ?_
    refine lv_iload_n hx hb dX12_standingSteps_18 rfl (lv_at hl 2 rfl) ?_
    refine ml_18 C hW h dX12_standingSteps_19 (fun v2 h => ?_)
    refine lv_iload_n hx hb dX12_standingSteps_20 rfl (lv_at hl 1 rfl) ?_
    refine zz_callVi (As := [.int v2, .int x1]) C hW h (fun r hr => c_X12_isStanding_0 hr) lk_X12_453 (hW.recv mr_0) rfl hl.1 ⟨rfl, rfl⟩ ⟨Nat.le_of_ble_eq_true rfl, Nat.le_of_ble_eq_true rfl⟩ (Nat.le_of_ble_eq_true rfl) ⟨Nat.zero_le _, Nat.zero_le _⟩ rfl dX12_standingSteps_21 (fun v4 S3 H locs h hW => ?_)
    refine zz_ieq (tgt := 47) C h dX12_standingSteps_24 (by decide) (fun h => ?_) (fun h => ?_)
    · exact w_X12_standingSteps_0_b47 (F := F) C hrc4 h hW (lv_sub hl [0, 2] rfl)
    · refine lv_aload_n hx hb dX12_standingSteps_27 rfl (lv_at hl 0 rfl) ?_
      refine lv_aload_n hx hb dX12_standingSteps_28 rfl (lv_at hl 0 rfl) ?_
      refine mg_0_40 C hW fl_X12_425 dX12_standingSteps_29 ?_
      refine lv_iload_n hx hb dX12_standingSteps_32 rfl (lv_at hl 2 rfl) ?_
      refine ml_19 C hW h dX12_standingSteps_33 (fun v5 h => ?_)
      refine lv_iload_n hx hb dX12_standingSteps_34 rfl (lv_at hl 1 rfl) ?_
      refine zz_callVi (As := [.int v5, .int x1]) C hW h (fun r hr => c_X12_isStanding_0 hr) lk_X12_453 (hW.recv mr_0) rfl hl.1 ⟨rfl, rfl⟩ ⟨Nat.le_of_ble_eq_true rfl, Nat.le_of_ble_eq_true rfl⟩ (Nat.le_of_ble_eq_true rfl) ⟨Nat.zero_le _, Nat.zero_le _⟩ rfl dX12_standingSteps_35 (fun v7 S6 H locs h hW => ?_)
      refine zz_ieq (tgt := 47) C h dX12_standingSteps_38 (by decide) (fun h => ?_) (fun h => ?_)
      · exact w_X12_standingSteps_0_b47 (F := F) C hrc4 h hW (lv_sub hl [0, 2] rfl)
      · refine lv_iconst (v := 1) hx hb dX12_standingSteps_41 (by decide) ?_
        refine lv_iload_n hx hb dX12_standingSteps_42 rfl (lv_at hl 2 rfl) ?_
        refine lv_ishl hx hb dX12_standingSteps_43 ?_
        refine lv_goto (tgt := 48) hx hb dX12_standingSteps_44 (by decide) ?_
        exact w_X12_standingSteps_0_b48 (F := F) C hrc4 h hW (lv_sub hl [0, 2] rfl)
def n_X12_standingSteps_0_b4 (F : Nat)  (S : Zs) (x1 : Int32) (x2 : Int32) : Option (Int32 × Zs) :=
  zfix (fun (rc : (Zs × Int32 × Int32) → Option (Int32 × Zs)) (u : (Zs × Int32 × Int32)) => n_X12_standingSteps_0_b4_l F  (fun S x1 x2 => rc (S, x1, x2)) u.1 u.2.1 u.2.2) F (S, x1, x2)
theorem w_X12_standingSteps_0_b4 {F : Nat} {q : (Int32 × Zs)}  (C : zC p s m args meth c cX12_standingSteps 3 RX12 (some .int))  : ∀ (n : Nat) (S : Zs) (x1 : Int32) (x2 : Int32) (H : Heap) (locs : List Loc) (ls : Array Slot), zfix (fun (rc : (Zs × Int32 × Int32) → Option (Int32 × Zs)) (u : (Zs × Int32 × Int32)) => n_X12_standingSteps_0_b4_l F  (fun S x1 x2 => rc (S, x1, x2)) u.1 u.2.1 u.2.2) n (S, x1, x2) = some q → zW (mG D cs ad) s S H locs → lv_has ls 3 [(0, .ref (ad 0)), (1, .int x1), (2, .int x2)] → W p l e (zR 2 43) s m args below meth c H locs 0 0 (zQi (mG D cs ad) q below args s) (F0 m 4 ls []) := by
  intro n
  induction n with
  | zero => intro S x1 x2 H locs ls h; exact absurd h (fun h => by cases h)
  | succ n ih => intro S x1 x2 H locs ls h hW hl; exact w_X12_standingSteps_0_b4_l (F := F) C (fun S x1 x2 H locs ls h hW hl => ih S x1 x2 H locs ls h hW hl) h hW hl
def n_X12_standingSteps_0_e (F : Nat)  (S : Zs)  : Option (Int32 × Zs) :=
  n_X12_standingSteps_0_b4 F  S (0 : Int32) (0 : Int32)
set_option maxRecDepth 20000 in
set_option maxHeartbeats 4000000 in
theorem w_X12_standingSteps_0_e {F : Nat} {q : (Int32 × Zs)} {S : Zs}   {ls : Array Slot} {H : Heap} {locs : List Loc} (C : zC p s m args meth c cX12_standingSteps 3 RX12 (some .int))  (h : n_X12_standingSteps_0_e F  S  = some q) (hW : zW (mG D cs ad) s S H locs) (hl : lv_has ls 3 [(0, .ref (ad 0))]) : W p l e (zR 2 43) s m args below meth c H locs 0 0 (zQi (mG D cs ad) q below args s) (F0 m 0 ls []) := by
  unfold n_X12_standingSteps_0_e at h
  obtain ⟨hx, hb, hml, hown, hts, hret, hlk⟩ := id C
  refine lv_iconst (v := 0) hx hb dX12_standingSteps_0 (by decide) ?_
  refine lv_istore_n (lv' := [(1, .int (0 : Int32)), (0, .ref (ad 0))]) hx hb dX12_standingSteps_1 rfl hl (by decide) rfl (fun ls hl => ?_)
  refine lv_iconst (v := 0) hx hb dX12_standingSteps_2 (by decide) ?_
  refine lv_istore_n (lv' := [(2, .int (0 : Int32)), (1, .int (0 : Int32)), (0, .ref (ad 0))]) hx hb dX12_standingSteps_3 rfl hl (by decide) rfl (fun ls hl => ?_)
  exact w_X12_standingSteps_0_b4 (F := F) C F _ _ _ _ _ _ h hW (lv_sub hl [2, 1, 0] rfl)
def n_X12_standingSteps_0 (F : Nat) (S : Zs)  : Option (Int32 × Zs) := n_X12_standingSteps_0_e F  S 
theorem c_X12_standingSteps_0 {l : Launch} {D : va_G} {cs ad : Nat → Nat} {F : Nat} {S : Zs}  {q : (Int32 × Zs)} (h : n_X12_standingSteps_0 F S  = some q) : zMi l yX12_standingSteps cX12_standingSteps 3 (some .int) (zR 2 43) (mG D cs ad) [.ref (ad 0)] S q :=
  zz_enter (by decide) (Nat.le_of_ble_eq_true rfl) (fun p e s m below meth c ls C hW hl => w_X12_standingSteps_0_e (F := F) C h hW (lv_sub hl [0] rfl))
def n_X12_stands_0_e (F : Nat)  (S : Zs)  : Option (Int32 × Zs) :=
  zpf S 0 (0 : Int32) (fun S1 => zcl (n_X12_standingSteps_0 F S1 ) (fun v3 S2 => some (v3, S2)))
set_option maxRecDepth 20000 in
set_option maxHeartbeats 4000000 in
theorem w_X12_stands_0_e {F : Nat} {q : (Int32 × Zs)} {S : Zs}   {ls : Array Slot} {H : Heap} {locs : List Loc} (C : zC p s m args meth c cX12_stands 1 RX12 (some .int))  (h : n_X12_stands_0_e F  S  = some q) (hW : zW (mG D cs ad) s S H locs) (hl : lv_has ls 1 [(0, .ref (ad 0))]) : W p l e (zR 3 65) s m args below meth c H locs 0 0 (zQi (mG D cs ad) q below args s) (F0 m 0 ls []) := by
  unfold n_X12_stands_0_e at h
  obtain ⟨hx, hb, hml, hown, hts, hret, hlk⟩ := id C
  refine lv_aload_n hx hb dX12_stands_0 rfl (lv_at hl 0 rfl) ?_
  refine lv_iconst (v := 0) hx hb dX12_stands_1 (by decide) ?_
  refine mp_0_0 C hW h fl_X12_3 dX12_stands_2 (fun S1 H locs h hW => ?_)
  refine lv_aload_n hx hb dX12_stands_5 rfl (lv_at hl 0 rfl) ?_
  refine zz_callVi (As := []) C hW h (fun r hr => c_X12_standingSteps_0 hr) lk_X12_456 (hW.recv mr_0) rfl hl.1 ⟨rfl, rfl⟩ ⟨Nat.le_of_ble_eq_true rfl, Nat.le_of_ble_eq_true rfl⟩ (Nat.le_of_ble_eq_true rfl) ⟨Nat.zero_le _, Nat.zero_le _⟩ rfl dX12_stands_6 (fun v3 S2 H locs h hW => ?_)
  exact zz_iret C rfl h hW dX12_stands_9
def n_X12_stands_0 (F : Nat) (S : Zs)  : Option (Int32 × Zs) := n_X12_stands_0_e F  S 
theorem c_X12_stands_0 {l : Launch} {D : va_G} {cs ad : Nat → Nat} {F : Nat} {S : Zs}  {q : (Int32 × Zs)} (h : n_X12_stands_0 F S  = some q) : zMi l yX12_stands cX12_stands 1 (some .int) (zR 3 65) (mG D cs ad) [.ref (ad 0)] S q :=
  zz_enter (by decide) (Nat.le_of_ble_eq_true rfl) (fun p e s m below meth c ls C hW hl => w_X12_stands_0_e (F := F) C h hW (lv_sub hl [0] rfl))
def n_X12_isWanted_0_b31 (F : Nat) (rc4 : Zs → Int32 → Int32 → Int32 → Option (Int32 × Zs)) (S : Zs) (x1 : Int32) (x3 : Int32) (t0 : Int32) : Option (Int32 × Zs) :=
  zlet (x3 + (1 : Int32)) (fun v1 => rc4 S x1 t0 v1)
set_option maxRecDepth 20000 in
set_option maxHeartbeats 4000000 in
theorem w_X12_isWanted_0_b31 {F : Nat} {q : (Int32 × Zs)} {S : Zs} {rc4 : Zs → Int32 → Int32 → Int32 → Option (Int32 × Zs)} {x1 : Int32} {x3 : Int32} {t0 : Int32} {ls : Array Slot} {H : Heap} {locs : List Loc} (C : zC p s m args meth c cX12_isWanted 4 RX12 (some .boolean)) (hrc4 : ∀ (S : Zs) (x1 : Int32) (x2 : Int32) (x3 : Int32) (H : Heap) (locs : List Loc) (ls : Array Slot), rc4 S x1 x2 x3 = some q → zW (mG D cs ad) s S H locs → lv_has ls 4 [(0, .ref (ad 0)), (1, .int x1), (2, .int x2), (3, .int x3)] → W p l e (zR 0 0) s m args below meth c H locs 0 0 (zQi (mG D cs ad) q below args s) (F0 m 4 ls [])) (h : n_X12_isWanted_0_b31 F rc4 S x1 x3 t0 = some q) (hW : zW (mG D cs ad) s S H locs) (hl : lv_has ls 4 [(0, .ref (ad 0)), (1, .int x1), (3, .int x3)]) : W p l e (zR 0 0) s m args below meth c H locs 0 0 (zQi (mG D cs ad) q below args s) (F0 m 31 ls [.int t0]) := by
  unfold n_X12_isWanted_0_b31 at h
  obtain ⟨hx, hb, hml, hown, hts, hret, hlk⟩ := id C
  refine lv_istore_n (lv' := [(2, .int t0), (0, .ref (ad 0)), (1, .int x1), (3, .int x3)]) hx hb dX12_isWanted_31 rfl hl (by decide) rfl (fun ls hl => ?_)
  obtain ⟨v1, ev1, h⟩ := zz_name h
  refine lv_iinc (v := v1) (lv' := [(3, .int v1), (2, .int t0), (0, .ref (ad 0)), (1, .int x1)]) hx hb dX12_isWanted_32 hl (k := 3) rfl ev1.symm (by decide) rfl (fun ls hl => ?_)
  refine lv_goto (tgt := 4) hx hb dX12_isWanted_35 (by decide) ?_
  exact hrc4 _ _ _ _ _ _ _ h hW (lv_sub hl [2, 3, 1, 0] rfl)
def n_X12_isWanted_0_b26 (F : Nat) (rc4 : Zs → Int32 → Int32 → Int32 → Option (Int32 × Zs)) (S : Zs) (x1 : Int32) (x3 : Int32) : Option (Int32 × Zs) :=
  n_X12_isWanted_0_b31 F rc4 S x1 x3 (1 : Int32)
set_option maxRecDepth 20000 in
set_option maxHeartbeats 4000000 in
theorem w_X12_isWanted_0_b26 {F : Nat} {q : (Int32 × Zs)} {S : Zs} {rc4 : Zs → Int32 → Int32 → Int32 → Option (Int32 × Zs)} {x1 : Int32} {x3 : Int32} {ls : Array Slot} {H : Heap} {locs : List Loc} (C : zC p s m args meth c cX12_isWanted 4 RX12 (some .boolean)) (hrc4 : ∀ (S : Zs) (x1 : Int32) (x2 : Int32) (x3 : Int32) (H : Heap) (locs : List Loc) (ls : Array Slot), rc4 S x1 x2 x3 = some q → zW (mG D cs ad) s S H locs → lv_has ls 4 [(0, .ref (ad 0)), (1, .int x1), (2, .int x2), (3, .int x3)] → W p l e (zR 0 0) s m args below meth c H locs 0 0 (zQi (mG D cs ad) q below args s) (F0 m 4 ls [])) (h : n_X12_isWanted_0_b26 F rc4 S x1 x3 = some q) (hW : zW (mG D cs ad) s S H locs) (hl : lv_has ls 4 [(0, .ref (ad 0)), (1, .int x1), (3, .int x3)]) : W p l e (zR 0 0) s m args below meth c H locs 0 0 (zQi (mG D cs ad) q below args s) (F0 m 26 ls []) := by
  unfold n_X12_isWanted_0_b26 at h
  obtain ⟨hx, hb, hml, hown, hts, hret, hlk⟩ := id C
  refine lv_iconst (v := 1) hx hb dX12_isWanted_26 (by decide) ?_
  refine lv_goto (tgt := 31) hx hb dX12_isWanted_27 (by decide) ?_
  exact w_X12_isWanted_0_b31 (F := F) C hrc4 h hW (lv_sub hl [0, 1, 2] rfl)
def n_X12_isWanted_0_b4_l (F : Nat) (rc4 : Zs → Int32 → Int32 → Int32 → Option (Int32 × Zs)) (S : Zs) (x1 : Int32) (x2 : Int32) (x3 : Int32) : Option (Int32 × Zs) :=
  zgf S 9 (fun v1 => if v1 ≤ x3 then (zrb x2 S) else (if x2 = 0 then (zld S 4 6 x3 (fun v2 => if v2 = x1 then (n_X12_isWanted_0_b26 F rc4 S x1 x3) else (n_X12_isWanted_0_b31 F rc4 S x1 x3 (0 : Int32)))) else (n_X12_isWanted_0_b26 F rc4 S x1 x3)))
set_option maxRecDepth 20000 in
set_option maxHeartbeats 4000000 in
theorem w_X12_isWanted_0_b4_l {F : Nat} {q : (Int32 × Zs)} {S : Zs} {rc4 : Zs → Int32 → Int32 → Int32 → Option (Int32 × Zs)} {x1 : Int32} {x2 : Int32} {x3 : Int32} {ls : Array Slot} {H : Heap} {locs : List Loc} (C : zC p s m args meth c cX12_isWanted 4 RX12 (some .boolean)) (hrc4 : ∀ (S : Zs) (x1 : Int32) (x2 : Int32) (x3 : Int32) (H : Heap) (locs : List Loc) (ls : Array Slot), rc4 S x1 x2 x3 = some q → zW (mG D cs ad) s S H locs → lv_has ls 4 [(0, .ref (ad 0)), (1, .int x1), (2, .int x2), (3, .int x3)] → W p l e (zR 0 0) s m args below meth c H locs 0 0 (zQi (mG D cs ad) q below args s) (F0 m 4 ls [])) (h : n_X12_isWanted_0_b4_l F rc4 S x1 x2 x3 = some q) (hW : zW (mG D cs ad) s S H locs) (hl : lv_has ls 4 [(0, .ref (ad 0)), (1, .int x1), (2, .int x2), (3, .int x3)]) : W p l e (zR 0 0) s m args below meth c H locs 0 0 (zQi (mG D cs ad) q below args s) (F0 m 4 ls []) := by
  unfold n_X12_isWanted_0_b4_l at h
  obtain ⟨hx, hb, hml, hown, hts, hret, hlk⟩ := id C
  refine lv_iload_n hx hb dX12_isWanted_4 rfl (lv_at hl 3 rfl) ?_
  refine lv_aload_n hx hb dX12_isWanted_5 rfl (lv_at hl 0 rfl) ?_
  refine mg_0_9 C hW h fl_X12_145 dX12_isWanted_6 (fun v1 h => ?_)
  refine zz_cge (tgt := 38) C h dX12_isWanted_9 (by decide) (fun h => ?_) (fun h => ?_)
  · refine lv_iload_n hx hb dX12_isWanted_38 rfl (lv_at hl 2 rfl) ?_
    exact zz_zret C rfl h hW dX12_isWanted_39
  · refine lv_iload_n hx hb dX12_isWanted_12 rfl (lv_at hl 2 rfl) ?_
    refine zz_ine (tgt := 26) C h dX12_isWanted_13 (by decide) (fun h => ?_) (fun h => ?_)
    · exact w_X12_isWanted_0_b26 (F := F) C hrc4 h hW (lv_sub hl [0, 1, 3] rfl)
    · refine lv_aload_n hx hb dX12_isWanted_16 rfl (lv_at hl 0 rfl) ?_
      refine mg_0_10 C hW fl_X12_148 dX12_isWanted_17 ?_
      refine lv_iload_n hx hb dX12_isWanted_20 rfl (lv_at hl 3 rfl) ?_
      refine ml_4 C hW h dX12_isWanted_21 (fun v2 h => ?_)
      refine lv_iload_n hx hb dX12_isWanted_22 rfl (lv_at hl 1 rfl) ?_
      refine zz_cne (tgt := 30) C h dX12_isWanted_23 (by decide) (fun h => ?_) (fun h => ?_)
      · refine lv_iconst (v := 0) hx hb dX12_isWanted_30 (by decide) ?_
        exact w_X12_isWanted_0_b31 (F := F) C hrc4 h hW (lv_sub hl [0, 1, 3] rfl)
      · exact w_X12_isWanted_0_b26 (F := F) C hrc4 h hW (lv_sub hl [0, 1, 3] rfl)
def n_X12_isWanted_0_b4 (F : Nat)  (S : Zs) (x1 : Int32) (x2 : Int32) (x3 : Int32) : Option (Int32 × Zs) :=
  zfix (fun (rc : (Zs × Int32 × Int32 × Int32) → Option (Int32 × Zs)) (u : (Zs × Int32 × Int32 × Int32)) => n_X12_isWanted_0_b4_l F  (fun S x1 x2 x3 => rc (S, x1, x2, x3)) u.1 u.2.1 u.2.2.1 u.2.2.2) F (S, x1, x2, x3)
theorem w_X12_isWanted_0_b4 {F : Nat} {q : (Int32 × Zs)}  (C : zC p s m args meth c cX12_isWanted 4 RX12 (some .boolean))  : ∀ (n : Nat) (S : Zs) (x1 : Int32) (x2 : Int32) (x3 : Int32) (H : Heap) (locs : List Loc) (ls : Array Slot), zfix (fun (rc : (Zs × Int32 × Int32 × Int32) → Option (Int32 × Zs)) (u : (Zs × Int32 × Int32 × Int32)) => n_X12_isWanted_0_b4_l F  (fun S x1 x2 x3 => rc (S, x1, x2, x3)) u.1 u.2.1 u.2.2.1 u.2.2.2) n (S, x1, x2, x3) = some q → zW (mG D cs ad) s S H locs → lv_has ls 4 [(0, .ref (ad 0)), (1, .int x1), (2, .int x2), (3, .int x3)] → W p l e (zR 0 0) s m args below meth c H locs 0 0 (zQi (mG D cs ad) q below args s) (F0 m 4 ls []) := by
  intro n
  induction n with
  | zero => intro S x1 x2 x3 H locs ls h; exact absurd h (fun h => by cases h)
  | succ n ih => intro S x1 x2 x3 H locs ls h hW hl; exact w_X12_isWanted_0_b4_l (F := F) C (fun S x1 x2 x3 H locs ls h hW hl => ih S x1 x2 x3 H locs ls h hW hl) h hW hl
def n_X12_isWanted_0_e (F : Nat)  (S : Zs) (x1 : Int32) : Option (Int32 × Zs) :=
  n_X12_isWanted_0_b4 F  S x1 (0 : Int32) (0 : Int32)
set_option maxRecDepth 20000 in
set_option maxHeartbeats 4000000 in
theorem w_X12_isWanted_0_e {F : Nat} {q : (Int32 × Zs)} {S : Zs}  {x1 : Int32} {ls : Array Slot} {H : Heap} {locs : List Loc} (C : zC p s m args meth c cX12_isWanted 4 RX12 (some .boolean))  (h : n_X12_isWanted_0_e F  S x1 = some q) (hW : zW (mG D cs ad) s S H locs) (hl : lv_has ls 4 [(0, .ref (ad 0)), (1, .int x1)]) : W p l e (zR 0 0) s m args below meth c H locs 0 0 (zQi (mG D cs ad) q below args s) (F0 m 0 ls []) := by
  unfold n_X12_isWanted_0_e at h
  obtain ⟨hx, hb, hml, hown, hts, hret, hlk⟩ := id C
  refine lv_iconst (v := 0) hx hb dX12_isWanted_0 (by decide) ?_
  refine lv_istore_n (lv' := [(2, .int (0 : Int32)), (0, .ref (ad 0)), (1, .int x1)]) hx hb dX12_isWanted_1 rfl hl (by decide) rfl (fun ls hl => ?_)
  refine lv_iconst (v := 0) hx hb dX12_isWanted_2 (by decide) ?_
  refine lv_istore_n (lv' := [(3, .int (0 : Int32)), (2, .int (0 : Int32)), (0, .ref (ad 0)), (1, .int x1)]) hx hb dX12_isWanted_3 rfl hl (by decide) rfl (fun ls hl => ?_)
  exact w_X12_isWanted_0_b4 (F := F) C F _ _ _ _ _ _ _ h hW (lv_sub hl [2, 3, 1, 0] rfl)
def n_X12_isWanted_0 (F : Nat) (S : Zs) (x1 : Int32) : Option (Int32 × Zs) := n_X12_isWanted_0_e F  S x1
theorem c_X12_isWanted_0 {l : Launch} {D : va_G} {cs ad : Nat → Nat} {F : Nat} {S : Zs} {x1 : Int32} {q : (Int32 × Zs)} (h : n_X12_isWanted_0 F S x1 = some q) : zMi l yX12_isWanted cX12_isWanted 4 (some .boolean) (zR 0 0) (mG D cs ad) [.ref (ad 0), .int x1] S q :=
  zz_enter (by decide) (Nat.le_of_ble_eq_true rfl) (fun p e s m below meth c ls C hW hl => w_X12_isWanted_0_e (F := F) C h hW (lv_sub hl [0, 1] rfl))
def n_X12_isSaidAhead_0_b74 (F : Nat) (rc45 : Zs → Int32 → Int32 → Int32 → Option (Int32 × Zs)) (S : Zs) (x1 : Int32) (x3 : Int32) (t0 : Int32) : Option (Int32 × Zs) :=
  zlet (x3 + (1 : Int32)) (fun v1 => rc45 S x1 t0 v1)
set_option maxRecDepth 20000 in
set_option maxHeartbeats 4000000 in
theorem w_X12_isSaidAhead_0_b74 {F : Nat} {q : (Int32 × Zs)} {S : Zs} {rc45 : Zs → Int32 → Int32 → Int32 → Option (Int32 × Zs)} {x1 : Int32} {x3 : Int32} {t0 : Int32} {ls : Array Slot} {H : Heap} {locs : List Loc} (C : zC p s m args meth c cX12_isSaidAhead 4 RX12 (some .boolean)) (hrc45 : ∀ (S : Zs) (x1 : Int32) (x2 : Int32) (x3 : Int32) (H : Heap) (locs : List Loc) (ls : Array Slot), rc45 S x1 x2 x3 = some q → zW (mG D cs ad) s S H locs → lv_has ls 4 [(0, .ref (ad 0)), (1, .int x1), (2, .int x2), (3, .int x3)] → W p l e (zR 0 0) s m args below meth c H locs 0 0 (zQi (mG D cs ad) q below args s) (F0 m 45 ls [])) (h : n_X12_isSaidAhead_0_b74 F rc45 S x1 x3 t0 = some q) (hW : zW (mG D cs ad) s S H locs) (hl : lv_has ls 4 [(0, .ref (ad 0)), (1, .int x1), (3, .int x3)]) : W p l e (zR 0 0) s m args below meth c H locs 0 0 (zQi (mG D cs ad) q below args s) (F0 m 74 ls [.int t0]) := by
  unfold n_X12_isSaidAhead_0_b74 at h
  obtain ⟨hx, hb, hml, hown, hts, hret, hlk⟩ := id C
  refine lv_istore_n (lv' := [(2, .int t0), (0, .ref (ad 0)), (1, .int x1), (3, .int x3)]) hx hb dX12_isSaidAhead_74 rfl hl (by decide) rfl (fun ls hl => ?_)
  obtain ⟨v1, ev1, h⟩ := zz_name h
  refine lv_iinc (v := v1) (lv' := [(3, .int v1), (2, .int t0), (0, .ref (ad 0)), (1, .int x1)]) hx hb dX12_isSaidAhead_75 hl (k := 3) rfl ev1.symm (by decide) rfl (fun ls hl => ?_)
  refine lv_goto (tgt := 45) hx hb dX12_isSaidAhead_78 (by decide) ?_
  exact hrc45 _ _ _ _ _ _ _ h hW (lv_sub hl [2, 3, 1, 0] rfl)
def n_X12_isSaidAhead_0_b69 (F : Nat) (rc45 : Zs → Int32 → Int32 → Int32 → Option (Int32 × Zs)) (S : Zs) (x1 : Int32) (x3 : Int32) : Option (Int32 × Zs) :=
  n_X12_isSaidAhead_0_b74 F rc45 S x1 x3 (1 : Int32)
set_option maxRecDepth 20000 in
set_option maxHeartbeats 4000000 in
theorem w_X12_isSaidAhead_0_b69 {F : Nat} {q : (Int32 × Zs)} {S : Zs} {rc45 : Zs → Int32 → Int32 → Int32 → Option (Int32 × Zs)} {x1 : Int32} {x3 : Int32} {ls : Array Slot} {H : Heap} {locs : List Loc} (C : zC p s m args meth c cX12_isSaidAhead 4 RX12 (some .boolean)) (hrc45 : ∀ (S : Zs) (x1 : Int32) (x2 : Int32) (x3 : Int32) (H : Heap) (locs : List Loc) (ls : Array Slot), rc45 S x1 x2 x3 = some q → zW (mG D cs ad) s S H locs → lv_has ls 4 [(0, .ref (ad 0)), (1, .int x1), (2, .int x2), (3, .int x3)] → W p l e (zR 0 0) s m args below meth c H locs 0 0 (zQi (mG D cs ad) q below args s) (F0 m 45 ls [])) (h : n_X12_isSaidAhead_0_b69 F rc45 S x1 x3 = some q) (hW : zW (mG D cs ad) s S H locs) (hl : lv_has ls 4 [(0, .ref (ad 0)), (1, .int x1), (3, .int x3)]) : W p l e (zR 0 0) s m args below meth c H locs 0 0 (zQi (mG D cs ad) q below args s) (F0 m 69 ls []) := by
  unfold n_X12_isSaidAhead_0_b69 at h
  obtain ⟨hx, hb, hml, hown, hts, hret, hlk⟩ := id C
  refine lv_iconst (v := 1) hx hb dX12_isSaidAhead_69 (by decide) ?_
  refine lv_goto (tgt := 74) hx hb dX12_isSaidAhead_70 (by decide) ?_
  exact w_X12_isSaidAhead_0_b74 (F := F) C hrc45 h hW (lv_sub hl [0, 1, 2] rfl)
def n_X12_isSaidAhead_0_b45_l (F : Nat) (rc45 : Zs → Int32 → Int32 → Int32 → Option (Int32 × Zs)) (S : Zs) (x1 : Int32) (x2 : Int32) (x3 : Int32) : Option (Int32 × Zs) :=
  if x1 ≤ x3 then (zrb x2 S) else (if x2 = 0 then (zld S 16 40 x3 (fun v1 => zld S 16 40 x1 (fun v2 => if v1 = v2 then (n_X12_isSaidAhead_0_b69 F rc45 S x1 x3) else (n_X12_isSaidAhead_0_b74 F rc45 S x1 x3 (0 : Int32))))) else (n_X12_isSaidAhead_0_b69 F rc45 S x1 x3))
set_option maxRecDepth 20000 in
set_option maxHeartbeats 4000000 in
theorem w_X12_isSaidAhead_0_b45_l {F : Nat} {q : (Int32 × Zs)} {S : Zs} {rc45 : Zs → Int32 → Int32 → Int32 → Option (Int32 × Zs)} {x1 : Int32} {x2 : Int32} {x3 : Int32} {ls : Array Slot} {H : Heap} {locs : List Loc} (C : zC p s m args meth c cX12_isSaidAhead 4 RX12 (some .boolean)) (hrc45 : ∀ (S : Zs) (x1 : Int32) (x2 : Int32) (x3 : Int32) (H : Heap) (locs : List Loc) (ls : Array Slot), rc45 S x1 x2 x3 = some q → zW (mG D cs ad) s S H locs → lv_has ls 4 [(0, .ref (ad 0)), (1, .int x1), (2, .int x2), (3, .int x3)] → W p l e (zR 0 0) s m args below meth c H locs 0 0 (zQi (mG D cs ad) q below args s) (F0 m 45 ls [])) (h : n_X12_isSaidAhead_0_b45_l F rc45 S x1 x2 x3 = some q) (hW : zW (mG D cs ad) s S H locs) (hl : lv_has ls 4 [(0, .ref (ad 0)), (1, .int x1), (2, .int x2), (3, .int x3)]) : W p l e (zR 0 0) s m args below meth c H locs 0 0 (zQi (mG D cs ad) q below args s) (F0 m 45 ls []) := by
  unfold n_X12_isSaidAhead_0_b45_l at h
  obtain ⟨hx, hb, hml, hown, hts, hret, hlk⟩ := id C
  refine lv_iload_n hx hb dX12_isSaidAhead_45 rfl (lv_at hl 3 rfl) ?_
  refine lv_iload_n hx hb dX12_isSaidAhead_46 rfl (lv_at hl 1 rfl) ?_
  refine zz_cge (tgt := 81) C h dX12_isSaidAhead_47 (by decide) (fun h => ?_) (fun h => ?_)
  · refine lv_iload_n hx hb dX12_isSaidAhead_81 rfl (lv_at hl 2 rfl) ?_
    exact zz_zret C rfl h hW dX12_isSaidAhead_82
  · refine lv_iload_n hx hb dX12_isSaidAhead_50 rfl (lv_at hl 2 rfl) ?_
    refine zz_ine (tgt := 69) C h dX12_isSaidAhead_51 (by decide) (fun h => ?_) (fun h => ?_)
    · exact w_X12_isSaidAhead_0_b69 (F := F) C hrc45 h hW (lv_sub hl [0, 1, 3] rfl)
    · refine lv_aload_n hx hb dX12_isSaidAhead_54 rfl (lv_at hl 0 rfl) ?_
      refine mg_0_37 C hW fl_X12_428 dX12_isSaidAhead_55 ?_
      refine lv_iload_n hx hb dX12_isSaidAhead_58 rfl (lv_at hl 3 rfl) ?_
      refine ml_16 C hW h dX12_isSaidAhead_59 (fun v1 h => ?_)
      refine lv_aload_n hx hb dX12_isSaidAhead_60 rfl (lv_at hl 0 rfl) ?_
      refine mg_0_37 C hW fl_X12_428 dX12_isSaidAhead_61 ?_
      refine lv_iload_n hx hb dX12_isSaidAhead_64 rfl (lv_at hl 1 rfl) ?_
      refine ml_16 C hW h dX12_isSaidAhead_65 (fun v2 h => ?_)
      refine zz_cne (tgt := 73) C h dX12_isSaidAhead_66 (by decide) (fun h => ?_) (fun h => ?_)
      · refine lv_iconst (v := 0) hx hb dX12_isSaidAhead_73 (by decide) ?_
        exact w_X12_isSaidAhead_0_b74 (F := F) C hrc45 h hW (lv_sub hl [0, 1, 3] rfl)
      · exact w_X12_isSaidAhead_0_b69 (F := F) C hrc45 h hW (lv_sub hl [0, 1, 3] rfl)
def n_X12_isSaidAhead_0_b45 (F : Nat)  (S : Zs) (x1 : Int32) (x2 : Int32) (x3 : Int32) : Option (Int32 × Zs) :=
  zfix (fun (rc : (Zs × Int32 × Int32 × Int32) → Option (Int32 × Zs)) (u : (Zs × Int32 × Int32 × Int32)) => n_X12_isSaidAhead_0_b45_l F  (fun S x1 x2 x3 => rc (S, x1, x2, x3)) u.1 u.2.1 u.2.2.1 u.2.2.2) F (S, x1, x2, x3)
theorem w_X12_isSaidAhead_0_b45 {F : Nat} {q : (Int32 × Zs)}  (C : zC p s m args meth c cX12_isSaidAhead 4 RX12 (some .boolean))  : ∀ (n : Nat) (S : Zs) (x1 : Int32) (x2 : Int32) (x3 : Int32) (H : Heap) (locs : List Loc) (ls : Array Slot), zfix (fun (rc : (Zs × Int32 × Int32 × Int32) → Option (Int32 × Zs)) (u : (Zs × Int32 × Int32 × Int32)) => n_X12_isSaidAhead_0_b45_l F  (fun S x1 x2 x3 => rc (S, x1, x2, x3)) u.1 u.2.1 u.2.2.1 u.2.2.2) n (S, x1, x2, x3) = some q → zW (mG D cs ad) s S H locs → lv_has ls 4 [(0, .ref (ad 0)), (1, .int x1), (2, .int x2), (3, .int x3)] → W p l e (zR 0 0) s m args below meth c H locs 0 0 (zQi (mG D cs ad) q below args s) (F0 m 45 ls []) := by
  intro n
  induction n with
  | zero => intro S x1 x2 x3 H locs ls h; exact absurd h (fun h => by cases h)
  | succ n ih => intro S x1 x2 x3 H locs ls h hW hl; exact w_X12_isSaidAhead_0_b45_l (F := F) C (fun S x1 x2 x3 H locs ls h hW hl => ih S x1 x2 x3 H locs ls h hW hl) h hW hl
def n_X12_isSaidAhead_0_b36 (F : Nat) (rc4 : Zs → Int32 → Int32 → Int32 → Option (Int32 × Zs)) (S : Zs) (x1 : Int32) (x3 : Int32) (t0 : Int32) : Option (Int32 × Zs) :=
  zlet (x3 + (1 : Int32)) (fun v1 => rc4 S x1 t0 v1)
set_option maxRecDepth 20000 in
set_option maxHeartbeats 4000000 in
theorem w_X12_isSaidAhead_0_b36 {F : Nat} {q : (Int32 × Zs)} {S : Zs} {rc4 : Zs → Int32 → Int32 → Int32 → Option (Int32 × Zs)} {x1 : Int32} {x3 : Int32} {t0 : Int32} {ls : Array Slot} {H : Heap} {locs : List Loc} (C : zC p s m args meth c cX12_isSaidAhead 4 RX12 (some .boolean)) (hrc4 : ∀ (S : Zs) (x1 : Int32) (x2 : Int32) (x3 : Int32) (H : Heap) (locs : List Loc) (ls : Array Slot), rc4 S x1 x2 x3 = some q → zW (mG D cs ad) s S H locs → lv_has ls 4 [(0, .ref (ad 0)), (1, .int x1), (2, .int x2), (3, .int x3)] → W p l e (zR 0 0) s m args below meth c H locs 0 0 (zQi (mG D cs ad) q below args s) (F0 m 4 ls [])) (h : n_X12_isSaidAhead_0_b36 F rc4 S x1 x3 t0 = some q) (hW : zW (mG D cs ad) s S H locs) (hl : lv_has ls 4 [(0, .ref (ad 0)), (1, .int x1), (3, .int x3)]) : W p l e (zR 0 0) s m args below meth c H locs 0 0 (zQi (mG D cs ad) q below args s) (F0 m 36 ls [.int t0]) := by
  unfold n_X12_isSaidAhead_0_b36 at h
  obtain ⟨hx, hb, hml, hown, hts, hret, hlk⟩ := id C
  refine lv_istore_n (lv' := [(2, .int t0), (0, .ref (ad 0)), (1, .int x1), (3, .int x3)]) hx hb dX12_isSaidAhead_36 rfl hl (by decide) rfl (fun ls hl => ?_)
  obtain ⟨v1, ev1, h⟩ := zz_name h
  refine lv_iinc (v := v1) (lv' := [(3, .int v1), (2, .int t0), (0, .ref (ad 0)), (1, .int x1)]) hx hb dX12_isSaidAhead_37 hl (k := 3) rfl ev1.symm (by decide) rfl (fun ls hl => ?_)
  refine lv_goto (tgt := 4) hx hb dX12_isSaidAhead_40 (by decide) ?_
  exact hrc4 _ _ _ _ _ _ _ h hW (lv_sub hl [2, 3, 1, 0] rfl)
def n_X12_isSaidAhead_0_b31 (F : Nat) (rc4 : Zs → Int32 → Int32 → Int32 → Option (Int32 × Zs)) (S : Zs) (x1 : Int32) (x3 : Int32) : Option (Int32 × Zs) :=
  n_X12_isSaidAhead_0_b36 F rc4 S x1 x3 (1 : Int32)
set_option maxRecDepth 20000 in
set_option maxHeartbeats 4000000 in
theorem w_X12_isSaidAhead_0_b31 {F : Nat} {q : (Int32 × Zs)} {S : Zs} {rc4 : Zs → Int32 → Int32 → Int32 → Option (Int32 × Zs)} {x1 : Int32} {x3 : Int32} {ls : Array Slot} {H : Heap} {locs : List Loc} (C : zC p s m args meth c cX12_isSaidAhead 4 RX12 (some .boolean)) (hrc4 : ∀ (S : Zs) (x1 : Int32) (x2 : Int32) (x3 : Int32) (H : Heap) (locs : List Loc) (ls : Array Slot), rc4 S x1 x2 x3 = some q → zW (mG D cs ad) s S H locs → lv_has ls 4 [(0, .ref (ad 0)), (1, .int x1), (2, .int x2), (3, .int x3)] → W p l e (zR 0 0) s m args below meth c H locs 0 0 (zQi (mG D cs ad) q below args s) (F0 m 4 ls [])) (h : n_X12_isSaidAhead_0_b31 F rc4 S x1 x3 = some q) (hW : zW (mG D cs ad) s S H locs) (hl : lv_has ls 4 [(0, .ref (ad 0)), (1, .int x1), (3, .int x3)]) : W p l e (zR 0 0) s m args below meth c H locs 0 0 (zQi (mG D cs ad) q below args s) (F0 m 31 ls []) := by
  unfold n_X12_isSaidAhead_0_b31 at h
  obtain ⟨hx, hb, hml, hown, hts, hret, hlk⟩ := id C
  refine lv_iconst (v := 1) hx hb dX12_isSaidAhead_31 (by decide) ?_
  refine lv_goto (tgt := 36) hx hb dX12_isSaidAhead_32 (by decide) ?_
  exact w_X12_isSaidAhead_0_b36 (F := F) C hrc4 h hW (lv_sub hl [0, 1, 2] rfl)
def n_X12_isSaidAhead_0_b4_l (F : Nat) (rc4 : Zs → Int32 → Int32 → Int32 → Option (Int32 × Zs)) (S : Zs) (x1 : Int32) (x2 : Int32) (x3 : Int32) : Option (Int32 × Zs) :=
  zgf S 3 (fun v1 => if v1 ≤ x3 then (n_X12_isSaidAhead_0_b45 F  S x1 x2 (0 : Int32)) else (if x2 = 0 then (zld S 2 16 x3 (fun v2 => zld S 16 40 x1 (fun v3 => if v2 = v3 then (n_X12_isSaidAhead_0_b31 F rc4 S x1 x3) else (n_X12_isSaidAhead_0_b36 F rc4 S x1 x3 (0 : Int32))))) else (n_X12_isSaidAhead_0_b31 F rc4 S x1 x3)))
set_option maxRecDepth 20000 in
set_option maxHeartbeats 4000000 in
theorem w_X12_isSaidAhead_0_b4_l {F : Nat} {q : (Int32 × Zs)} {S : Zs} {rc4 : Zs → Int32 → Int32 → Int32 → Option (Int32 × Zs)} {x1 : Int32} {x2 : Int32} {x3 : Int32} {ls : Array Slot} {H : Heap} {locs : List Loc} (C : zC p s m args meth c cX12_isSaidAhead 4 RX12 (some .boolean)) (hrc4 : ∀ (S : Zs) (x1 : Int32) (x2 : Int32) (x3 : Int32) (H : Heap) (locs : List Loc) (ls : Array Slot), rc4 S x1 x2 x3 = some q → zW (mG D cs ad) s S H locs → lv_has ls 4 [(0, .ref (ad 0)), (1, .int x1), (2, .int x2), (3, .int x3)] → W p l e (zR 0 0) s m args below meth c H locs 0 0 (zQi (mG D cs ad) q below args s) (F0 m 4 ls [])) (h : n_X12_isSaidAhead_0_b4_l F rc4 S x1 x2 x3 = some q) (hW : zW (mG D cs ad) s S H locs) (hl : lv_has ls 4 [(0, .ref (ad 0)), (1, .int x1), (2, .int x2), (3, .int x3)]) : W p l e (zR 0 0) s m args below meth c H locs 0 0 (zQi (mG D cs ad) q below args s) (F0 m 4 ls []) := by
  unfold n_X12_isSaidAhead_0_b4_l at h
  obtain ⟨hx, hb, hml, hown, hts, hret, hlk⟩ := id C
  refine lv_iload_n hx hb dX12_isSaidAhead_4 rfl (lv_at hl 3 rfl) ?_
  refine lv_aload_n hx hb dX12_isSaidAhead_5 rfl (lv_at hl 0 rfl) ?_
  refine mg_0_3 C hW h fl_X12_105 dX12_isSaidAhead_6 (fun v1 h => ?_)
  refine zz_cge (tgt := 43) C h dX12_isSaidAhead_9 (by decide) (fun h => ?_) (fun h => ?_)
  · refine lv_iconst (v := 0) hx hb dX12_isSaidAhead_43 (by decide) ?_
    refine lv_istore_n (lv' := [(3, .int (0 : Int32)), (0, .ref (ad 0)), (1, .int x1), (2, .int x2)]) hx hb dX12_isSaidAhead_44 rfl hl (by decide) rfl (fun ls hl => ?_)
    exact w_X12_isSaidAhead_0_b45 (F := F) C F _ _ _ _ _ _ _ h hW (lv_sub hl [1, 2, 3, 0] rfl)
  · refine lv_iload_n hx hb dX12_isSaidAhead_12 rfl (lv_at hl 2 rfl) ?_
    refine zz_ine (tgt := 31) C h dX12_isSaidAhead_13 (by decide) (fun h => ?_) (fun h => ?_)
    · exact w_X12_isSaidAhead_0_b31 (F := F) C hrc4 h hW (lv_sub hl [0, 1, 3] rfl)
    · refine lv_aload_n hx hb dX12_isSaidAhead_16 rfl (lv_at hl 0 rfl) ?_
      refine mg_0_4 C hW fl_X12_87 dX12_isSaidAhead_17 ?_
      refine lv_iload_n hx hb dX12_isSaidAhead_20 rfl (lv_at hl 3 rfl) ?_
      refine ml_2 C hW h dX12_isSaidAhead_21 (fun v2 h => ?_)
      refine lv_aload_n hx hb dX12_isSaidAhead_22 rfl (lv_at hl 0 rfl) ?_
      refine mg_0_37 C hW fl_X12_428 dX12_isSaidAhead_23 ?_
      refine lv_iload_n hx hb dX12_isSaidAhead_26 rfl (lv_at hl 1 rfl) ?_
      refine ml_16 C hW h dX12_isSaidAhead_27 (fun v3 h => ?_)
      refine zz_cne (tgt := 35) C h dX12_isSaidAhead_28 (by decide) (fun h => ?_) (fun h => ?_)
      · refine lv_iconst (v := 0) hx hb dX12_isSaidAhead_35 (by decide) ?_
        exact w_X12_isSaidAhead_0_b36 (F := F) C hrc4 h hW (lv_sub hl [0, 1, 3] rfl)
      · exact w_X12_isSaidAhead_0_b31 (F := F) C hrc4 h hW (lv_sub hl [0, 1, 3] rfl)
def n_X12_isSaidAhead_0_b4 (F : Nat)  (S : Zs) (x1 : Int32) (x2 : Int32) (x3 : Int32) : Option (Int32 × Zs) :=
  zfix (fun (rc : (Zs × Int32 × Int32 × Int32) → Option (Int32 × Zs)) (u : (Zs × Int32 × Int32 × Int32)) => n_X12_isSaidAhead_0_b4_l F  (fun S x1 x2 x3 => rc (S, x1, x2, x3)) u.1 u.2.1 u.2.2.1 u.2.2.2) F (S, x1, x2, x3)
theorem w_X12_isSaidAhead_0_b4 {F : Nat} {q : (Int32 × Zs)}  (C : zC p s m args meth c cX12_isSaidAhead 4 RX12 (some .boolean))  : ∀ (n : Nat) (S : Zs) (x1 : Int32) (x2 : Int32) (x3 : Int32) (H : Heap) (locs : List Loc) (ls : Array Slot), zfix (fun (rc : (Zs × Int32 × Int32 × Int32) → Option (Int32 × Zs)) (u : (Zs × Int32 × Int32 × Int32)) => n_X12_isSaidAhead_0_b4_l F  (fun S x1 x2 x3 => rc (S, x1, x2, x3)) u.1 u.2.1 u.2.2.1 u.2.2.2) n (S, x1, x2, x3) = some q → zW (mG D cs ad) s S H locs → lv_has ls 4 [(0, .ref (ad 0)), (1, .int x1), (2, .int x2), (3, .int x3)] → W p l e (zR 0 0) s m args below meth c H locs 0 0 (zQi (mG D cs ad) q below args s) (F0 m 4 ls []) := by
  intro n
  induction n with
  | zero => intro S x1 x2 x3 H locs ls h; exact absurd h (fun h => by cases h)
  | succ n ih => intro S x1 x2 x3 H locs ls h hW hl; exact w_X12_isSaidAhead_0_b4_l (F := F) C (fun S x1 x2 x3 H locs ls h hW hl => ih S x1 x2 x3 H locs ls h hW hl) h hW hl
def n_X12_isSaidAhead_0_e (F : Nat)  (S : Zs) (x1 : Int32) : Option (Int32 × Zs) :=
  n_X12_isSaidAhead_0_b4 F  S x1 (0 : Int32) (0 : Int32)
set_option maxRecDepth 20000 in
set_option maxHeartbeats 4000000 in
theorem w_X12_isSaidAhead_0_e {F : Nat} {q : (Int32 × Zs)} {S : Zs}  {x1 : Int32} {ls : Array Slot} {H : Heap} {locs : List Loc} (C : zC p s m args meth c cX12_isSaidAhead 4 RX12 (some .boolean))  (h : n_X12_isSaidAhead_0_e F  S x1 = some q) (hW : zW (mG D cs ad) s S H locs) (hl : lv_has ls 4 [(0, .ref (ad 0)), (1, .int x1)]) : W p l e (zR 0 0) s m args below meth c H locs 0 0 (zQi (mG D cs ad) q below args s) (F0 m 0 ls []) := by
  unfold n_X12_isSaidAhead_0_e at h
  obtain ⟨hx, hb, hml, hown, hts, hret, hlk⟩ := id C
  refine lv_iconst (v := 0) hx hb dX12_isSaidAhead_0 (by decide) ?_
  refine lv_istore_n (lv' := [(2, .int (0 : Int32)), (0, .ref (ad 0)), (1, .int x1)]) hx hb dX12_isSaidAhead_1 rfl hl (by decide) rfl (fun ls hl => ?_)
  refine lv_iconst (v := 0) hx hb dX12_isSaidAhead_2 (by decide) ?_
  refine lv_istore_n (lv' := [(3, .int (0 : Int32)), (2, .int (0 : Int32)), (0, .ref (ad 0)), (1, .int x1)]) hx hb dX12_isSaidAhead_3 rfl hl (by decide) rfl (fun ls hl => ?_)
  exact w_X12_isSaidAhead_0_b4 (F := F) C F _ _ _ _ _ _ _ h hW (lv_sub hl [2, 3, 1, 0] rfl)
def n_X12_isSaidAhead_0 (F : Nat) (S : Zs) (x1 : Int32) : Option (Int32 × Zs) := n_X12_isSaidAhead_0_e F  S x1
theorem c_X12_isSaidAhead_0 {l : Launch} {D : va_G} {cs ad : Nat → Nat} {F : Nat} {S : Zs} {x1 : Int32} {q : (Int32 × Zs)} (h : n_X12_isSaidAhead_0 F S x1 = some q) : zMi l yX12_isSaidAhead cX12_isSaidAhead 4 (some .boolean) (zR 0 0) (mG D cs ad) [.ref (ad 0), .int x1] S q :=
  zz_enter (by decide) (Nat.le_of_ble_eq_true rfl) (fun p e s m below meth c ls C hW hl => w_X12_isSaidAhead_0_e (F := F) C h hW (lv_sub hl [0, 1] rfl))
def n_X12_marks_0_b100 (F : Nat) (rc35 : Zs → Int32 → Int32 → Int32 → Int32 → Int32 → Int32 → Option (Int32 × Zs)) (S : Zs) (x1 : Int32) (x2 : Int32) (x3 : Int32) (x4 : Int32) (x5 : Int32) (x6 : Int32) : Option (Int32 × Zs) :=
  zlet (x6 + (1 : Int32)) (fun v1 => rc35 S x1 x2 x3 x4 x5 v1)
set_option maxRecDepth 20000 in
set_option maxHeartbeats 4000000 in
theorem w_X12_marks_0_b100 {F : Nat} {q : (Int32 × Zs)} {S : Zs} {rc35 : Zs → Int32 → Int32 → Int32 → Int32 → Int32 → Int32 → Option (Int32 × Zs)} {x1 : Int32} {x2 : Int32} {x3 : Int32} {x4 : Int32} {x5 : Int32} {x6 : Int32} {ls : Array Slot} {H : Heap} {locs : List Loc} (C : zC p s m args meth c cX12_marks 7 RX12 (some .int)) (hrc35 : ∀ (S : Zs) (x1 : Int32) (x2 : Int32) (x3 : Int32) (x4 : Int32) (x5 : Int32) (x6 : Int32) (H : Heap) (locs : List Loc) (ls : Array Slot), rc35 S x1 x2 x3 x4 x5 x6 = some q → zW (mG D cs ad) s S H locs → lv_has ls 7 [(0, .ref (ad 0)), (1, .int x1), (2, .int x2), (3, .int x3), (4, .int x4), (5, .int x5), (6, .int x6)] → W p l e (zR 3 65) s m args below meth c H locs 0 0 (zQi (mG D cs ad) q below args s) (F0 m 35 ls [])) (h : n_X12_marks_0_b100 F rc35 S x1 x2 x3 x4 x5 x6 = some q) (hW : zW (mG D cs ad) s S H locs) (hl : lv_has ls 7 [(0, .ref (ad 0)), (1, .int x1), (2, .int x2), (3, .int x3), (4, .int x4), (5, .int x5), (6, .int x6)]) : W p l e (zR 3 65) s m args below meth c H locs 0 0 (zQi (mG D cs ad) q below args s) (F0 m 100 ls []) := by
  unfold n_X12_marks_0_b100 at h
  obtain ⟨hx, hb, hml, hown, hts, hret, hlk⟩ := id C
  obtain ⟨v1, ev1, h⟩ := zz_name h
  refine lv_iinc (v := v1) (lv' := [(6, .int v1), (0, .ref (ad 0)), (1, .int x1), (2, .int x2), (3, .int x3), (4, .int x4), (5, .int x5)]) hx hb dX12_marks_100 hl (k := 6) rfl ev1.symm (by decide) rfl (fun ls hl => ?_)
  refine lv_goto (tgt := 35) hx hb dX12_marks_103 (by decide) ?_
  exact hrc35 _ _ _ _ _ _ _ _ _ _ h hW (lv_sub hl [1, 2, 3, 4, 5, 6, 0] rfl)
def n_X12_marks_0_b35_l (F : Nat) (rc35 : Zs → Int32 → Int32 → Int32 → Int32 → Int32 → Int32 → Option (Int32 × Zs)) (S : Zs) (x1 : Int32) (x2 : Int32) (x3 : Int32) (x4 : Int32) (x5 : Int32) (x6 : Int32) : Option (Int32 × Zs) :=
  zgf S 35 (fun v1 => if v1 ≤ x6 then (zpf S 1 (0 : Int32) (fun S2 => zcl (n_X12_enters_0 F S2 x4) (fun v4 S3 => zcl (n_X12_enters_0 F S3 x5) (fun v6 S5 => some (x3, S5))))) else (zcl (n_X12_has F S x2 x6) (fun v8 S7 => if v8 = 0 then (n_X12_marks_0_b100 F rc35 S7 x1 x2 x3 x4 x5 x6) else (zld S7 17 40 x6 (fun v9 => if v9 = x1 then (zlet (x3 + (1 : Int32)) (fun v10 => zld S7 16 40 x6 (fun v11 => zcl (n_X12_isWanted_0 F S7 v11) (fun v13 S12 => zcl (n_X12_flag F S12 v13) (fun v15 S14 => zlet (x4 + v15) (fun v16 => zcl (n_X12_isSaidAhead_0 F S14 x6) (fun v18 S17 => zcl (n_X12_flag F S17 v18) (fun v20 S19 => zlet (x5 + v20) (fun v21 => n_X12_marks_0_b100 F rc35 S19 x1 x2 v10 v16 v21 x6))))))))) else (n_X12_marks_0_b100 F rc35 S7 x1 x2 x3 x4 x5 x6))))))
set_option maxRecDepth 20000 in
set_option maxHeartbeats 4000000 in
theorem w_X12_marks_0_b35_l {F : Nat} {q : (Int32 × Zs)} {S : Zs} {rc35 : Zs → Int32 → Int32 → Int32 → Int32 → Int32 → Int32 → Option (Int32 × Zs)} {x1 : Int32} {x2 : Int32} {x3 : Int32} {x4 : Int32} {x5 : Int32} {x6 : Int32} {ls : Array Slot} {H : Heap} {locs : List Loc} (C : zC p s m args meth c cX12_marks 7 RX12 (some .int)) (hrc35 : ∀ (S : Zs) (x1 : Int32) (x2 : Int32) (x3 : Int32) (x4 : Int32) (x5 : Int32) (x6 : Int32) (H : Heap) (locs : List Loc) (ls : Array Slot), rc35 S x1 x2 x3 x4 x5 x6 = some q → zW (mG D cs ad) s S H locs → lv_has ls 7 [(0, .ref (ad 0)), (1, .int x1), (2, .int x2), (3, .int x3), (4, .int x4), (5, .int x5), (6, .int x6)] → W p l e (zR 3 65) s m args below meth c H locs 0 0 (zQi (mG D cs ad) q below args s) (F0 m 35 ls [])) (h : n_X12_marks_0_b35_l F rc35 S x1 x2 x3 x4 x5 x6 = some q) (hW : zW (mG D cs ad) s S H locs) (hl : lv_has ls 7 [(0, .ref (ad 0)), (1, .int x1), (2, .int x2), (3, .int x3), (4, .int x4), (5, .int x5), (6, .int x6)]) : W p l e (zR 3 65) s m args below meth c H locs 0 0 (zQi (mG D cs ad) q below args s) (F0 m 35 ls []) := by
  unfold n_X12_marks_0_b35_l at h
  obtain ⟨hx, hb, hml, hown, hts, hret, hlk⟩ := id C
  refine lv_iload hx hb dX12_marks_35 (lv_at hl 6 rfl) ?_
  refine lv_aload_n hx hb dX12_marks_37 rfl (lv_at hl 0 rfl) ?_
  refine mg_0_35 C hW h fl_X12_444 dX12_marks_38 (fun v1 h => ?_)
  refine zz_cge (tgt := 106) C h dX12_marks_41 (by decide) (fun h => ?_) (fun h => ?_)
  · refine lv_aload_n hx hb dX12_marks_106 rfl (lv_at hl 0 rfl) ?_
    refine lv_iconst (v := 0) hx hb dX12_marks_107 (by decide) ?_
    refine mp_0_1 C hW h fl_X12_11 dX12_marks_108 (fun S2 H locs h hW => ?_)
    refine lv_aload_n hx hb dX12_marks_111 rfl (lv_at hl 0 rfl) ?_
    refine lv_iload hx hb dX12_marks_112 (lv_at hl 4 rfl) ?_
    refine zz_callVv (As := [.int x4]) C hW h (fun r hr => c_X12_enters_0 hr) lk_X12_221 (hW.recv mr_0) rfl hl.1 ⟨rfl, rfl⟩ ⟨Nat.le_of_ble_eq_true rfl, Nat.le_of_ble_eq_true rfl⟩ (Nat.le_of_ble_eq_true rfl) ⟨Nat.zero_le _, Nat.zero_le _⟩ rfl dX12_marks_114 (fun v4 S3 H locs h hW => ?_)
    refine lv_aload_n hx hb dX12_marks_117 rfl (lv_at hl 0 rfl) ?_
    refine lv_iload hx hb dX12_marks_118 (lv_at hl 5 rfl) ?_
    refine zz_callVv (As := [.int x5]) C hW h (fun r hr => c_X12_enters_0 hr) lk_X12_221 (hW.recv mr_0) rfl hl.1 ⟨rfl, rfl⟩ ⟨Nat.le_of_ble_eq_true rfl, Nat.le_of_ble_eq_true rfl⟩ (Nat.le_of_ble_eq_true rfl) ⟨Nat.zero_le _, Nat.zero_le _⟩ rfl dX12_marks_120 (fun v6 S5 H locs h hW => ?_)
    refine lv_iload_n hx hb dX12_marks_123 rfl (lv_at hl 3 rfl) ?_
    exact zz_iret C rfl h hW dX12_marks_124
  · refine lv_iload_n hx hb dX12_marks_44 rfl (lv_at hl 2 rfl) ?_
    refine lv_iload hx hb dX12_marks_45 (lv_at hl 6 rfl) ?_
    refine zz_callSi (As := [.int x2, .int x6]) C hW h (fun r hr => c_X12_has hr) lk_X12_129 rfl hl.1 ⟨rfl, rfl⟩ ⟨Nat.le_of_ble_eq_true rfl, Nat.le_of_ble_eq_true rfl⟩ (Nat.le_of_ble_eq_true rfl) ⟨Nat.zero_le _, Nat.zero_le _⟩ rfl dX12_marks_47 (fun v8 S7 H locs h hW => ?_)
    refine zz_ieq (tgt := 100) C h dX12_marks_50 (by decide) (fun h => ?_) (fun h => ?_)
    · exact w_X12_marks_0_b100 (F := F) C hrc35 h hW (lv_sub hl [0, 1, 2, 3, 4, 5, 6] rfl)
    · refine lv_aload_n hx hb dX12_marks_53 rfl (lv_at hl 0 rfl) ?_
      refine mg_0_38 C hW fl_X12_416 dX12_marks_54 ?_
      refine lv_iload hx hb dX12_marks_57 (lv_at hl 6 rfl) ?_
      refine ml_17 C hW h dX12_marks_59 (fun v9 h => ?_)
      refine lv_iload_n hx hb dX12_marks_60 rfl (lv_at hl 1 rfl) ?_
      refine zz_cne (tgt := 100) C h dX12_marks_61 (by decide) (fun h => ?_) (fun h => ?_)
      · exact w_X12_marks_0_b100 (F := F) C hrc35 h hW (lv_sub hl [0, 1, 2, 3, 4, 5, 6] rfl)
      · obtain ⟨v10, ev10, h⟩ := zz_name h
        refine lv_iinc (v := v10) (lv' := [(3, .int v10), (0, .ref (ad 0)), (1, .int x1), (2, .int x2), (4, .int x4), (5, .int x5), (6, .int x6)]) hx hb dX12_marks_64 hl (k := 3) rfl ev10.symm (by decide) rfl (fun ls hl => ?_)
        refine lv_iload hx hb dX12_marks_67 (lv_at hl 4 rfl) ?_
        refine lv_aload_n hx hb dX12_marks_69 rfl (lv_at hl 1 rfl) ?_
        refine lv_aload_n hx hb dX12_marks_70 rfl (lv_at hl 1 rfl) ?_
        refine mg_0_37 C hW fl_X12_428 dX12_marks_71 ?_
        refine lv_iload hx hb dX12_marks_74 (lv_at hl 6 rfl) ?_
        refine ml_16 C hW h dX12_marks_76 (fun v11 h => ?_)
        refine zz_callVi (As := [.int v11]) C hW h (fun r hr => c_X12_isWanted_0 hr) lk_X12_459 (hW.recv mr_0) rfl hl.1 ⟨rfl, rfl⟩ ⟨Nat.le_of_ble_eq_true rfl, Nat.le_of_ble_eq_true rfl⟩ (Nat.le_of_ble_eq_true rfl) ⟨Nat.zero_le _, Nat.zero_le _⟩ rfl dX12_marks_77 (fun v13 S12 H locs h hW => ?_)
        refine zz_callSi (As := [.int v13]) C hW h (fun r hr => c_X12_flag hr) lk_X12_52 rfl hl.1 ⟨rfl, rfl⟩ ⟨Nat.le_of_ble_eq_true rfl, Nat.le_of_ble_eq_true rfl⟩ (Nat.le_of_ble_eq_true rfl) ⟨Nat.zero_le _, Nat.zero_le _⟩ rfl dX12_marks_80 (fun v15 S14 H locs h hW => ?_)
        refine lv_iadd hx hb dX12_marks_83 ?_
        refine zz_leti h (fun v16 h => ?_)
        refine lv_istore (lv' := [(4, .int v16), (3, .int v10), (0, .ref (ad 0)), (1, .int x1), (2, .int x2), (5, .int x5), (6, .int x6)]) hx hb dX12_marks_84 hl (by decide) rfl (fun ls hl => ?_)
        refine lv_iload hx hb dX12_marks_86 (lv_at hl 5 rfl) ?_
        refine lv_aload_n hx hb dX12_marks_88 rfl (lv_at hl 2 rfl) ?_
        refine lv_iload hx hb dX12_marks_89 (lv_at hl 6 rfl) ?_
        refine zz_callVi (As := [.int x6]) C hW h (fun r hr => c_X12_isSaidAhead_0 hr) lk_X12_462 (hW.recv mr_0) rfl hl.1 ⟨rfl, rfl⟩ ⟨Nat.le_of_ble_eq_true rfl, Nat.le_of_ble_eq_true rfl⟩ (Nat.le_of_ble_eq_true rfl) ⟨Nat.zero_le _, Nat.zero_le _⟩ rfl dX12_marks_91 (fun v18 S17 H locs h hW => ?_)
        refine zz_callSi (As := [.int v18]) C hW h (fun r hr => c_X12_flag hr) lk_X12_52 rfl hl.1 ⟨rfl, rfl⟩ ⟨Nat.le_of_ble_eq_true rfl, Nat.le_of_ble_eq_true rfl⟩ (Nat.le_of_ble_eq_true rfl) ⟨Nat.zero_le _, Nat.zero_le _⟩ rfl dX12_marks_94 (fun v20 S19 H locs h hW => ?_)
        refine lv_iadd hx hb dX12_marks_97 ?_
        refine zz_leti h (fun v21 h => ?_)
        refine lv_istore (lv' := [(5, .int v21), (4, .int v16), (3, .int v10), (0, .ref (ad 0)), (1, .int x1), (2, .int x2), (6, .int x6)]) hx hb dX12_marks_98 hl (by decide) rfl (fun ls hl => ?_)
        exact w_X12_marks_0_b100 (F := F) C hrc35 h hW (lv_sub hl [3, 4, 5, 2, 1, 0, 6] rfl)
def n_X12_marks_0_b35 (F : Nat)  (S : Zs) (x1 : Int32) (x2 : Int32) (x3 : Int32) (x4 : Int32) (x5 : Int32) (x6 : Int32) : Option (Int32 × Zs) :=
  zfix (fun (rc : (Zs × Int32 × Int32 × Int32 × Int32 × Int32 × Int32) → Option (Int32 × Zs)) (u : (Zs × Int32 × Int32 × Int32 × Int32 × Int32 × Int32)) => n_X12_marks_0_b35_l F  (fun S x1 x2 x3 x4 x5 x6 => rc (S, x1, x2, x3, x4, x5, x6)) u.1 u.2.1 u.2.2.1 u.2.2.2.1 u.2.2.2.2.1 u.2.2.2.2.2.1 u.2.2.2.2.2.2) F (S, x1, x2, x3, x4, x5, x6)
theorem w_X12_marks_0_b35 {F : Nat} {q : (Int32 × Zs)}  (C : zC p s m args meth c cX12_marks 7 RX12 (some .int))  : ∀ (n : Nat) (S : Zs) (x1 : Int32) (x2 : Int32) (x3 : Int32) (x4 : Int32) (x5 : Int32) (x6 : Int32) (H : Heap) (locs : List Loc) (ls : Array Slot), zfix (fun (rc : (Zs × Int32 × Int32 × Int32 × Int32 × Int32 × Int32) → Option (Int32 × Zs)) (u : (Zs × Int32 × Int32 × Int32 × Int32 × Int32 × Int32)) => n_X12_marks_0_b35_l F  (fun S x1 x2 x3 x4 x5 x6 => rc (S, x1, x2, x3, x4, x5, x6)) u.1 u.2.1 u.2.2.1 u.2.2.2.1 u.2.2.2.2.1 u.2.2.2.2.2.1 u.2.2.2.2.2.2) n (S, x1, x2, x3, x4, x5, x6) = some q → zW (mG D cs ad) s S H locs → lv_has ls 7 [(0, .ref (ad 0)), (1, .int x1), (2, .int x2), (3, .int x3), (4, .int x4), (5, .int x5), (6, .int x6)] → W p l e (zR 3 65) s m args below meth c H locs 0 0 (zQi (mG D cs ad) q below args s) (F0 m 35 ls []) := by
  intro n
  induction n with
  | zero => intro S x1 x2 x3 x4 x5 x6 H locs ls h; exact absurd h (fun h => by cases h)
  | succ n ih => intro S x1 x2 x3 x4 x5 x6 H locs ls h hW hl; exact w_X12_marks_0_b35_l (F := F) C (fun S x1 x2 x3 x4 x5 x6 H locs ls h hW hl => ih S x1 x2 x3 x4 x5 x6 H locs ls h hW hl) h hW hl
def n_X12_marks_0_e (F : Nat)  (S : Zs) (x1 : Int32) : Option (Int32 × Zs) :=
  zpf S 0 (0 : Int32) (fun S1 => zcl (n_X12_in F S1 (x1.toInt64) (0 : Int64) (3 : Int64)) (fun v3 S2 => if v3 = 0 then (some ((-1 : Int32), S2)) else (zcl (n_X12_standingSteps_0 F S2 ) (fun v5 S4 => n_X12_marks_0_b35 F  S4 x1 v5 (0 : Int32) (0 : Int32) (0 : Int32) (0 : Int32)))))
set_option maxRecDepth 20000 in
set_option maxHeartbeats 4000000 in
theorem w_X12_marks_0_e {F : Nat} {q : (Int32 × Zs)} {S : Zs}  {x1 : Int32} {ls : Array Slot} {H : Heap} {locs : List Loc} (C : zC p s m args meth c cX12_marks 7 RX12 (some .int))  (h : n_X12_marks_0_e F  S x1 = some q) (hW : zW (mG D cs ad) s S H locs) (hl : lv_has ls 7 [(0, .ref (ad 0)), (1, .int x1)]) : W p l e (zR 3 65) s m args below meth c H locs 0 0 (zQi (mG D cs ad) q below args s) (F0 m 0 ls []) := by
  unfold n_X12_marks_0_e at h
  obtain ⟨hx, hb, hml, hown, hts, hret, hlk⟩ := id C
  refine lv_aload_n hx hb dX12_marks_0 rfl (lv_at hl 0 rfl) ?_
  refine lv_iconst (v := 0) hx hb dX12_marks_1 (by decide) ?_
  refine mp_0_0 C hW h fl_X12_3 dX12_marks_2 (fun S1 H locs h hW => ?_)
  refine lv_iload_n hx hb dX12_marks_5 rfl (lv_at hl 1 rfl) ?_
  refine lv_i2l hx hb dX12_marks_6 rfl ?_
  refine lv_lconst (v := 0) hx hb dX12_marks_7 (by decide) ?_
  refine lv_ldc2 (v := 3) hx hb hown (hts _ ct_X12_121) dX12_marks_8 ?_
  refine zz_callSi (As := [.long (x1.toInt64), .long (0 : Int64), .long (3 : Int64)]) C hW h (fun r hr => c_X12_in hr) lk_X12_16 rfl hl.1 ⟨rfl, rfl⟩ ⟨Nat.le_of_ble_eq_true rfl, Nat.le_of_ble_eq_true rfl⟩ (Nat.le_of_ble_eq_true rfl) ⟨Nat.zero_le _, Nat.zero_le _⟩ rfl dX12_marks_11 (fun v3 S2 H locs h hW => ?_)
  refine zz_ine (tgt := 19) C h dX12_marks_14 (by decide) (fun h => ?_) (fun h => ?_)
  · refine lv_aload_n hx hb dX12_marks_19 rfl (lv_at hl 0 rfl) ?_
    refine zz_callVi (As := []) C hW h (fun r hr => c_X12_standingSteps_0 hr) lk_X12_456 (hW.recv mr_0) rfl hl.1 ⟨rfl, rfl⟩ ⟨Nat.le_of_ble_eq_true rfl, Nat.le_of_ble_eq_true rfl⟩ (Nat.le_of_ble_eq_true rfl) ⟨Nat.zero_le _, Nat.zero_le _⟩ rfl dX12_marks_20 (fun v5 S4 H locs h hW => ?_)
    refine lv_istore_n (lv' := [(2, .int v5), (0, .ref (ad 0)), (1, .int x1)]) hx hb dX12_marks_23 rfl hl (by decide) rfl (fun ls hl => ?_)
    refine lv_iconst (v := 0) hx hb dX12_marks_24 (by decide) ?_
    refine lv_istore_n (lv' := [(3, .int (0 : Int32)), (2, .int v5), (0, .ref (ad 0)), (1, .int x1)]) hx hb dX12_marks_25 rfl hl (by decide) rfl (fun ls hl => ?_)
    refine lv_iconst (v := 0) hx hb dX12_marks_26 (by decide) ?_
    refine lv_istore (lv' := [(4, .int (0 : Int32)), (3, .int (0 : Int32)), (2, .int v5), (0, .ref (ad 0)), (1, .int x1)]) hx hb dX12_marks_27 hl (by decide) rfl (fun ls hl => ?_)
    refine lv_iconst (v := 0) hx hb dX12_marks_29 (by decide) ?_
    refine lv_istore (lv' := [(5, .int (0 : Int32)), (4, .int (0 : Int32)), (3, .int (0 : Int32)), (2, .int v5), (0, .ref (ad 0)), (1, .int x1)]) hx hb dX12_marks_30 hl (by decide) rfl (fun ls hl => ?_)
    refine lv_iconst (v := 0) hx hb dX12_marks_32 (by decide) ?_
    refine lv_istore (lv' := [(6, .int (0 : Int32)), (5, .int (0 : Int32)), (4, .int (0 : Int32)), (3, .int (0 : Int32)), (2, .int v5), (0, .ref (ad 0)), (1, .int x1)]) hx hb dX12_marks_33 hl (by decide) rfl (fun ls hl => ?_)
    exact w_X12_marks_0_b35 (F := F) C F _ _ _ _ _ _ _ _ _ _ h hW (lv_sub hl [5, 6, 4, 3, 2, 1, 0] rfl)
  · refine lv_iconst (v := -1) hx hb dX12_marks_17 (by decide) ?_
    exact zz_iret C rfl h hW dX12_marks_18
def n_X12_marks_0 (F : Nat) (S : Zs) (x1 : Int32) : Option (Int32 × Zs) := n_X12_marks_0_e F  S x1
theorem c_X12_marks_0 {l : Launch} {D : va_G} {cs ad : Nat → Nat} {F : Nat} {S : Zs} {x1 : Int32} {q : (Int32 × Zs)} (h : n_X12_marks_0 F S x1 = some q) : zMi l yX12_marks cX12_marks 7 (some .int) (zR 3 65) (mG D cs ad) [.ref (ad 0), .int x1] S q :=
  zz_enter (by decide) (Nat.le_of_ble_eq_true rfl) (fun p e s m below meth c ls C hW hl => w_X12_marks_0_e (F := F) C h hW (lv_sub hl [0, 1] rfl))
def n_X12_strike_0_e (F : Nat)  (S : Zs)  : Option (Int32 × Zs) :=
  zpf S 0 (0 : Int32) (fun S1 => zgf S1 35 (fun v2 => if v2 = 0 then (some ((-1 : Int32), S1)) else (zgf S1 35 (fun v3 => zpf S1 35 (v3 - (1 : Int32)) (fun S4 => zgf S4 35 (fun v5 => some (v5, S4)))))))
set_option maxRecDepth 20000 in
set_option maxHeartbeats 4000000 in
theorem w_X12_strike_0_e {F : Nat} {q : (Int32 × Zs)} {S : Zs}   {ls : Array Slot} {H : Heap} {locs : List Loc} (C : zC p s m args meth c cX12_strike 1 RX12 (some .int))  (h : n_X12_strike_0_e F  S  = some q) (hW : zW (mG D cs ad) s S H locs) (hl : lv_has ls 1 [(0, .ref (ad 0))]) : W p l e (zR 0 0) s m args below meth c H locs 0 0 (zQi (mG D cs ad) q below args s) (F0 m 0 ls []) := by
  unfold n_X12_strike_0_e at h
  obtain ⟨hx, hb, hml, hown, hts, hret, hlk⟩ := id C
  refine lv_aload_n hx hb dX12_strike_0 rfl (lv_at hl 0 rfl) ?_
  refine lv_iconst (v := 0) hx hb dX12_strike_1 (by decide) ?_
  refine mp_0_0 C hW h fl_X12_3 dX12_strike_2 (fun S1 H locs h hW => ?_)
  refine lv_aload_n hx hb dX12_strike_5 rfl (lv_at hl 0 rfl) ?_
  refine mg_0_35 C hW h fl_X12_444 dX12_strike_6 (fun v2 h => ?_)
  refine zz_ine (tgt := 14) C h dX12_strike_9 (by decide) (fun h => ?_) (fun h => ?_)
  · refine lv_aload_n hx hb dX12_strike_14 rfl (lv_at hl 0 rfl) ?_
    refine lv_dup hx hb dX12_strike_15 rfl ?_
    refine mg_0_35 C hW h fl_X12_444 dX12_strike_16 (fun v3 h => ?_)
    refine lv_iconst (v := 1) hx hb dX12_strike_19 (by decide) ?_
    refine lv_isub hx hb dX12_strike_20 ?_
    refine mp_0_35 C hW h fl_X12_444 dX12_strike_21 (fun S4 H locs h hW => ?_)
    refine lv_aload_n hx hb dX12_strike_24 rfl (lv_at hl 0 rfl) ?_
    refine mg_0_35 C hW h fl_X12_444 dX12_strike_25 (fun v5 h => ?_)
    exact zz_iret C rfl h hW dX12_strike_28
  · refine lv_iconst (v := -1) hx hb dX12_strike_12 (by decide) ?_
    exact zz_iret C rfl h hW dX12_strike_13
def n_X12_strike_0 (F : Nat) (S : Zs)  : Option (Int32 × Zs) := n_X12_strike_0_e F  S 
theorem c_X12_strike_0 {l : Launch} {D : va_G} {cs ad : Nat → Nat} {F : Nat} {S : Zs}  {q : (Int32 × Zs)} (h : n_X12_strike_0 F S  = some q) : zMi l yX12_strike cX12_strike 1 (some .int) (zR 0 0) (mG D cs ad) [.ref (ad 0)] S q :=
  zz_enter (by decide) (Nat.le_of_ble_eq_true rfl) (fun p e s m below meth c ls C hW hl => w_X12_strike_0_e (F := F) C h hW (lv_sub hl [0] rfl))
def n_X12_keep_0_e (F : Nat)  (S : Zs) (x1 : Int32) : Option (Int32 × Zs) :=
  zpf S 0 (0 : Int32) (fun S1 => zcl (n_X12_in F S1 (x1.toInt64) (0 : Int64) (2 : Int64)) (fun v3 S2 => if v3 = 0 then (zrb (0 : Int32) S2) else (zst S2 21 3 x1 (vp_nar .boolean (1 : Int32)) (fun S4 => zgf S4 6 (fun v5 => zst S4 22 15 ((5 : Int32) * x1) v5 (fun S6 => zgf S6 7 (fun v7 => zst S6 22 15 (((5 : Int32) * x1) + (1 : Int32)) v7 (fun S8 => zgf S8 8 (fun v9 => zst S8 22 15 (((5 : Int32) * x1) + (2 : Int32)) v9 (fun S10 => zgf S10 11 (fun v11 => zst S10 22 15 (((5 : Int32) * x1) + (3 : Int32)) v11 (fun S12 => zgf S12 3 (fun v13 => zst S12 22 15 (((5 : Int32) * x1) + (4 : Int32)) v13 (fun S14 => zrb (1 : Int32) S14))))))))))))))
set_option maxRecDepth 20000 in
set_option maxHeartbeats 4000000 in
theorem w_X12_keep_0_e {F : Nat} {q : (Int32 × Zs)} {S : Zs}  {x1 : Int32} {ls : Array Slot} {H : Heap} {locs : List Loc} (C : zC p s m args meth c cX12_keep 2 RX12 (some .boolean))  (h : n_X12_keep_0_e F  S x1 = some q) (hW : zW (mG D cs ad) s S H locs) (hl : lv_has ls 2 [(0, .ref (ad 0)), (1, .int x1)]) : W p l e (zR 1 25) s m args below meth c H locs 0 0 (zQi (mG D cs ad) q below args s) (F0 m 0 ls []) := by
  unfold n_X12_keep_0_e at h
  obtain ⟨hx, hb, hml, hown, hts, hret, hlk⟩ := id C
  refine lv_aload_n hx hb dX12_keep_0 rfl (lv_at hl 0 rfl) ?_
  refine lv_iconst (v := 0) hx hb dX12_keep_1 (by decide) ?_
  refine mp_0_0 C hW h fl_X12_3 dX12_keep_2 (fun S1 H locs h hW => ?_)
  refine lv_iload_n hx hb dX12_keep_5 rfl (lv_at hl 1 rfl) ?_
  refine lv_i2l hx hb dX12_keep_6 rfl ?_
  refine lv_lconst (v := 0) hx hb dX12_keep_7 (by decide) ?_
  refine lv_ldc2 (v := 2) hx hb hown (hts _ ct_X12_465) dX12_keep_8 ?_
  refine zz_callSi (As := [.long (x1.toInt64), .long (0 : Int64), .long (2 : Int64)]) C hW h (fun r hr => c_X12_in hr) lk_X12_16 rfl hl.1 ⟨rfl, rfl⟩ ⟨Nat.le_of_ble_eq_true rfl, Nat.le_of_ble_eq_true rfl⟩ (Nat.le_of_ble_eq_true rfl) ⟨Nat.zero_le _, Nat.zero_le _⟩ rfl dX12_keep_11 (fun v3 S2 H locs h hW => ?_)
  refine zz_ine (tgt := 19) C h dX12_keep_14 (by decide) (fun h => ?_) (fun h => ?_)
  · refine lv_aload_n hx hb dX12_keep_19 rfl (lv_at hl 0 rfl) ?_
    refine mg_0_42 C hW fl_X12_467 dX12_keep_20 ?_
    refine lv_iload_n hx hb dX12_keep_23 rfl (lv_at hl 1 rfl) ?_
    refine lv_iconst (v := 1) hx hb dX12_keep_24 (by decide) ?_
    refine ms_21 C hW h dX12_keep_25 (fun S4 H locs h hW => ?_)
    refine lv_aload_n hx hb dX12_keep_26 rfl (lv_at hl 0 rfl) ?_
    refine mg_0_43 C hW fl_X12_471 dX12_keep_27 ?_
    refine lv_iconst (v := 5) hx hb dX12_keep_30 (by decide) ?_
    refine lv_iload_n hx hb dX12_keep_31 rfl (lv_at hl 1 rfl) ?_
    refine lv_imul hx hb dX12_keep_32 ?_
    refine lv_aload_n hx hb dX12_keep_33 rfl (lv_at hl 0 rfl) ?_
    refine mg_0_6 C hW h fl_X12_115 dX12_keep_34 (fun v5 h => ?_)
    refine ms_22 C hW h dX12_keep_37 (fun S6 H locs h hW => ?_)
    refine lv_aload_n hx hb dX12_keep_38 rfl (lv_at hl 0 rfl) ?_
    refine mg_0_43 C hW fl_X12_471 dX12_keep_39 ?_
    refine lv_iconst (v := 5) hx hb dX12_keep_42 (by decide) ?_
    refine lv_iload_n hx hb dX12_keep_43 rfl (lv_at hl 1 rfl) ?_
    refine lv_imul hx hb dX12_keep_44 ?_
    refine lv_iconst (v := 1) hx hb dX12_keep_45 (by decide) ?_
    refine lv_iadd hx hb dX12_keep_46 ?_
    refine lv_aload_n hx hb dX12_keep_47 rfl (lv_at hl 0 rfl) ?_
    refine mg_0_7 C hW h fl_X12_126 dX12_keep_48 (fun v7 h => ?_)
    refine ms_22 C hW h dX12_keep_51 (fun S8 H locs h hW => ?_)
    refine lv_aload_n hx hb dX12_keep_52 rfl (lv_at hl 0 rfl) ?_
    refine mg_0_43 C hW fl_X12_471 dX12_keep_53 ?_
    refine lv_iconst (v := 5) hx hb dX12_keep_56 (by decide) ?_
    refine lv_iload_n hx hb dX12_keep_57 rfl (lv_at hl 1 rfl) ?_
    refine lv_imul hx hb dX12_keep_58 ?_
    refine lv_iconst (v := 2) hx hb dX12_keep_59 (by decide) ?_
    refine lv_iadd hx hb dX12_keep_60 ?_
    refine lv_aload_n hx hb dX12_keep_61 rfl (lv_at hl 0 rfl) ?_
    refine mg_0_8 C hW h fl_X12_139 dX12_keep_62 (fun v9 h => ?_)
    refine ms_22 C hW h dX12_keep_65 (fun S10 H locs h hW => ?_)
    refine lv_aload_n hx hb dX12_keep_66 rfl (lv_at hl 0 rfl) ?_
    refine mg_0_43 C hW fl_X12_471 dX12_keep_67 ?_
    refine lv_iconst (v := 5) hx hb dX12_keep_70 (by decide) ?_
    refine lv_iload_n hx hb dX12_keep_71 rfl (lv_at hl 1 rfl) ?_
    refine lv_imul hx hb dX12_keep_72 ?_
    refine lv_iconst (v := 3) hx hb dX12_keep_73 (by decide) ?_
    refine lv_iadd hx hb dX12_keep_74 ?_
    refine lv_aload_n hx hb dX12_keep_75 rfl (lv_at hl 0 rfl) ?_
    refine mg_0_11 C hW h fl_X12_348 dX12_keep_76 (fun v11 h => ?_)
    refine ms_22 C hW h dX12_keep_79 (fun S12 H locs h hW => ?_)
    refine lv_aload_n hx hb dX12_keep_80 rfl (lv_at hl 0 rfl) ?_
    refine mg_0_43 C hW fl_X12_471 dX12_keep_81 ?_
    refine lv_iconst (v := 5) hx hb dX12_keep_84 (by decide) ?_
    refine lv_iload_n hx hb dX12_keep_85 rfl (lv_at hl 1 rfl) ?_
    refine lv_imul hx hb dX12_keep_86 ?_
    refine lv_iconst (v := 4) hx hb dX12_keep_87 (by decide) ?_
    refine lv_iadd hx hb dX12_keep_88 ?_
    refine lv_aload_n hx hb dX12_keep_89 rfl (lv_at hl 0 rfl) ?_
    refine mg_0_3 C hW h fl_X12_105 dX12_keep_90 (fun v13 h => ?_)
    refine ms_22 C hW h dX12_keep_93 (fun S14 H locs h hW => ?_)
    refine lv_iconst (v := 1) hx hb dX12_keep_94 (by decide) ?_
    exact zz_zret C rfl h hW dX12_keep_95
  · refine lv_iconst (v := 0) hx hb dX12_keep_17 (by decide) ?_
    exact zz_zret C rfl h hW dX12_keep_18
def n_X12_keep_0 (F : Nat) (S : Zs) (x1 : Int32) : Option (Int32 × Zs) := n_X12_keep_0_e F  S x1
theorem c_X12_keep_0 {l : Launch} {D : va_G} {cs ad : Nat → Nat} {F : Nat} {S : Zs} {x1 : Int32} {q : (Int32 × Zs)} (h : n_X12_keep_0 F S x1 = some q) : zMi l yX12_keep cX12_keep 2 (some .boolean) (zR 1 25) (mG D cs ad) [.ref (ad 0), .int x1] S q :=
  zz_enter (by decide) (Nat.le_of_ble_eq_true rfl) (fun p e s m below meth c ls C hW hl => w_X12_keep_0_e (F := F) C h hW (lv_sub hl [0, 1] rfl))
def n_X12_again_0_b26 (F : Nat)  (S : Zs)  : Option (Int32 × Zs) :=
  zrb (0 : Int32) S
set_option maxRecDepth 20000 in
set_option maxHeartbeats 4000000 in
theorem w_X12_again_0_b26 {F : Nat} {q : (Int32 × Zs)} {S : Zs}   {ls : Array Slot} {H : Heap} {locs : List Loc} (C : zC p s m args meth c cX12_again 3 RX12 (some .boolean))  (h : n_X12_again_0_b26 F  S  = some q) (hW : zW (mG D cs ad) s S H locs) (hl : lv_has ls 3 []) : W p l e (zR 1 25) s m args below meth c H locs 0 0 (zQi (mG D cs ad) q below args s) (F0 m 26 ls []) := by
  unfold n_X12_again_0_b26 at h
  obtain ⟨hx, hb, hml, hown, hts, hret, hlk⟩ := id C
  refine lv_iconst (v := 0) hx hb dX12_again_26 (by decide) ?_
  exact zz_zret C rfl h hW dX12_again_27
def n_X12_again_0_e (F : Nat)  (S : Zs) (x1 : Int32) : Option (Int32 × Zs) :=
  zpf S 0 (0 : Int32) (fun S1 => zcl (n_X12_in F S1 (x1.toInt64) (0 : Int64) (2 : Int64)) (fun v3 S2 => if v3 = 0 then (n_X12_again_0_b26 F  S2 ) else (zld S2 21 3 x1 (fun v4 => if v4 = 0 then (n_X12_again_0_b26 F  S2 ) else (zld S2 22 15 (((5 : Int32) * x1) + (4 : Int32)) (fun v5 => zlet (((1 : Int32) <<< (v5 &&& 31)) - (1 : Int32)) (fun v6 => zgf S2 6 (fun v7 => zld S2 22 15 ((5 : Int32) * x1) (fun v8 => zpf S2 6 ((v7 &&& (v6 ^^^ (-1 : Int32))) ||| v8) (fun S9 => zgf S9 7 (fun v10 => zld S9 22 15 (((5 : Int32) * x1) + (1 : Int32)) (fun v11 => zpf S9 7 ((v10 &&& (v6 ^^^ (-1 : Int32))) ||| v11) (fun S12 => zld S12 22 15 (((5 : Int32) * x1) + (2 : Int32)) (fun v13 => zpf S12 8 v13 (fun S14 => zld S14 22 15 (((5 : Int32) * x1) + (3 : Int32)) (fun v15 => zpf S14 11 v15 (fun S16 => zrb (1 : Int32) S16)))))))))))))))))
set_option maxRecDepth 20000 in
set_option maxHeartbeats 4000000 in
theorem w_X12_again_0_e {F : Nat} {q : (Int32 × Zs)} {S : Zs}  {x1 : Int32} {ls : Array Slot} {H : Heap} {locs : List Loc} (C : zC p s m args meth c cX12_again 3 RX12 (some .boolean))  (h : n_X12_again_0_e F  S x1 = some q) (hW : zW (mG D cs ad) s S H locs) (hl : lv_has ls 3 [(0, .ref (ad 0)), (1, .int x1)]) : W p l e (zR 1 25) s m args below meth c H locs 0 0 (zQi (mG D cs ad) q below args s) (F0 m 0 ls []) := by
  unfold n_X12_again_0_e at h
  obtain ⟨hx, hb, hml, hown, hts, hret, hlk⟩ := id C
  refine lv_aload_n hx hb dX12_again_0 rfl (lv_at hl 0 rfl) ?_
  refine lv_iconst (v := 0) hx hb dX12_again_1 (by decide) ?_
  refine mp_0_0 C hW h fl_X12_3 dX12_again_2 (fun S1 H locs h hW => ?_)
  refine lv_iload_n hx hb dX12_again_5 rfl (lv_at hl 1 rfl) ?_
  refine lv_i2l hx hb dX12_again_6 rfl ?_
  refine lv_lconst (v := 0) hx hb dX12_again_7 (by decide) ?_
  refine lv_ldc2 (v := 2) hx hb hown (hts _ ct_X12_465) dX12_again_8 ?_
  refine zz_callSi (As := [.long (x1.toInt64), .long (0 : Int64), .long (2 : Int64)]) C hW h (fun r hr => c_X12_in hr) lk_X12_16 rfl hl.1 ⟨rfl, rfl⟩ ⟨Nat.le_of_ble_eq_true rfl, Nat.le_of_ble_eq_true rfl⟩ (Nat.le_of_ble_eq_true rfl) ⟨Nat.zero_le _, Nat.zero_le _⟩ rfl dX12_again_11 (fun v3 S2 H locs h hW => ?_)
  refine zz_ieq (tgt := 26) C h dX12_again_14 (by decide) (fun h => ?_) (fun h => ?_)
  · exact w_X12_again_0_b26 (F := F) C h hW (lv_sub hl [] rfl)
  · refine lv_aload_n hx hb dX12_again_17 rfl (lv_at hl 0 rfl) ?_
    refine mg_0_42 C hW fl_X12_467 dX12_again_18 ?_
    refine lv_iload_n hx hb dX12_again_21 rfl (lv_at hl 1 rfl) ?_
    refine ml_21 C hW h dX12_again_22 (fun v4 h => ?_)
    refine zz_ine (tgt := 28) C h dX12_again_23 (by decide) (fun h => ?_) (fun h => ?_)
    · refine lv_iconst (v := 1) hx hb dX12_again_28 (by decide) ?_
      refine lv_aload_n hx hb dX12_again_29 rfl (lv_at hl 0 rfl) ?_
      refine mg_0_43 C hW fl_X12_471 dX12_again_30 ?_
      refine lv_iconst (v := 5) hx hb dX12_again_33 (by decide) ?_
      refine lv_iload_n hx hb dX12_again_34 rfl (lv_at hl 1 rfl) ?_
      refine lv_imul hx hb dX12_again_35 ?_
      refine lv_iconst (v := 4) hx hb dX12_again_36 (by decide) ?_
      refine lv_iadd hx hb dX12_again_37 ?_
      refine ml_22 C hW h dX12_again_38 (fun v5 h => ?_)
      refine lv_ishl hx hb dX12_again_39 ?_
      refine lv_iconst (v := 1) hx hb dX12_again_40 (by decide) ?_
      refine lv_isub hx hb dX12_again_41 ?_
      refine zz_leti h (fun v6 h => ?_)
      refine lv_istore_n (lv' := [(2, .int v6), (0, .ref (ad 0)), (1, .int x1)]) hx hb dX12_again_42 rfl hl (by decide) rfl (fun ls hl => ?_)
      refine lv_aload_n hx hb dX12_again_43 rfl (lv_at hl 1 rfl) ?_
      refine lv_aload_n hx hb dX12_again_44 rfl (lv_at hl 1 rfl) ?_
      refine mg_0_6 C hW h fl_X12_115 dX12_again_45 (fun v7 h => ?_)
      refine lv_iload_n hx hb dX12_again_48 rfl (lv_at hl 0 rfl) ?_
      refine lv_iconst (v := -1) hx hb dX12_again_49 (by decide) ?_
      refine lv_ixor hx hb dX12_again_50 ?_
      refine lv_iand hx hb dX12_again_51 ?_
      refine lv_aload_n hx hb dX12_again_52 rfl (lv_at hl 1 rfl) ?_
      refine mg_0_43 C hW fl_X12_471 dX12_again_53 ?_
      refine lv_iconst (v := 5) hx hb dX12_again_56 (by decide) ?_
      refine lv_iload_n hx hb dX12_again_57 rfl (lv_at hl 2 rfl) ?_
      refine lv_imul hx hb dX12_again_58 ?_
      refine ml_22 C hW h dX12_again_59 (fun v8 h => ?_)
      refine lv_ior hx hb dX12_again_60 ?_
      refine mp_0_6 C hW h fl_X12_115 dX12_again_61 (fun S9 H locs h hW => ?_)
      refine lv_aload_n hx hb dX12_again_64 rfl (lv_at hl 1 rfl) ?_
      refine lv_aload_n hx hb dX12_again_65 rfl (lv_at hl 1 rfl) ?_
      refine mg_0_7 C hW h fl_X12_126 dX12_again_66 (fun v10 h => ?_)
      refine lv_iload_n hx hb dX12_again_69 rfl (lv_at hl 0 rfl) ?_
      refine lv_iconst (v := -1) hx hb dX12_again_70 (by decide) ?_
      refine lv_ixor hx hb dX12_again_71 ?_
      refine lv_iand hx hb dX12_again_72 ?_
      refine lv_aload_n hx hb dX12_again_73 rfl (lv_at hl 1 rfl) ?_
      refine mg_0_43 C hW fl_X12_471 dX12_again_74 ?_
      refine lv_iconst (v := 5) hx hb dX12_again_77 (by decide) ?_
      refine lv_iload_n hx hb dX12_again_78 rfl (lv_at hl 2 rfl) ?_
      refine lv_imul hx hb dX12_again_79 ?_
      refine lv_iconst (v := 1) hx hb dX12_again_80 (by decide) ?_
      refine lv_iadd hx hb dX12_again_81 ?_
      refine ml_22 C hW h dX12_again_82 (fun v11 h => ?_)
      refine lv_ior hx hb dX12_again_83 ?_
      refine mp_0_7 C hW h fl_X12_126 dX12_again_84 (fun S12 H locs h hW => ?_)
      refine lv_aload_n hx hb dX12_again_87 rfl (lv_at hl 1 rfl) ?_
      refine lv_aload_n hx hb dX12_again_88 rfl (lv_at hl 1 rfl) ?_
      refine mg_0_43 C hW fl_X12_471 dX12_again_89 ?_
      refine lv_iconst (v := 5) hx hb dX12_again_92 (by decide) ?_
      refine lv_iload_n hx hb dX12_again_93 rfl (lv_at hl 2 rfl) ?_
      refine lv_imul hx hb dX12_again_94 ?_
      refine lv_iconst (v := 2) hx hb dX12_again_95 (by decide) ?_
      refine lv_iadd hx hb dX12_again_96 ?_
      refine ml_22 C hW h dX12_again_97 (fun v13 h => ?_)
      refine mp_0_8 C hW h fl_X12_139 dX12_again_98 (fun S14 H locs h hW => ?_)
      refine lv_aload_n hx hb dX12_again_101 rfl (lv_at hl 1 rfl) ?_
      refine lv_aload_n hx hb dX12_again_102 rfl (lv_at hl 1 rfl) ?_
      refine mg_0_43 C hW fl_X12_471 dX12_again_103 ?_
      refine lv_iconst (v := 5) hx hb dX12_again_106 (by decide) ?_
      refine lv_iload_n hx hb dX12_again_107 rfl (lv_at hl 2 rfl) ?_
      refine lv_imul hx hb dX12_again_108 ?_
      refine lv_iconst (v := 3) hx hb dX12_again_109 (by decide) ?_
      refine lv_iadd hx hb dX12_again_110 ?_
      refine ml_22 C hW h dX12_again_111 (fun v15 h => ?_)
      refine mp_0_11 C hW h fl_X12_348 dX12_again_112 (fun S16 H locs h hW => ?_)
      refine lv_iconst (v := 1) hx hb dX12_again_115 (by decide) ?_
      exact zz_zret C rfl h hW dX12_again_116
    · exact w_X12_again_0_b26 (F := F) C h hW (lv_sub hl [] rfl)
def n_X12_again_0 (F : Nat) (S : Zs) (x1 : Int32) : Option (Int32 × Zs) := n_X12_again_0_e F  S x1
theorem c_X12_again_0 {l : Launch} {D : va_G} {cs ad : Nat → Nat} {F : Nat} {S : Zs} {x1 : Int32} {q : (Int32 × Zs)} (h : n_X12_again_0 F S x1 = some q) : zMi l yX12_again cX12_again 3 (some .boolean) (zR 1 25) (mG D cs ad) [.ref (ad 0), .int x1] S q :=
  zz_enter (by decide) (Nat.le_of_ble_eq_true rfl) (fun p e s m below meth c ls C hW hl => w_X12_again_0_e (F := F) C h hW (lv_sub hl [0, 1] rfl))
end ZM
