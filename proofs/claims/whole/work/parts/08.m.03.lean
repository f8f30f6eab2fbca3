section ZM
variable {p : Program} {l : Launch} {e : Env} {s : State} {m : MethodId} {args : Array Value} {below : List Frame} {meth : Method} {c : Code} {D : va_G} {cs ad : Nat → Nat}
def n_X12_town_0_e (F : Nat)  (S : Zs)  : Option (Int32 × Zs) :=
  zpf S 0 (0 : Int32) (fun S1 => zcl (n_X12_standing_0 F S1 ) (fun v3 S2 => zcl (n_X12_lays_0 F S2 v3) (fun v5 S4 => zcl (n_X12_towns_0 F S4 ) (fun v7 S6 => some (v7, S6)))))
set_option maxRecDepth 20000 in
set_option maxHeartbeats 4000000 in
theorem w_X12_town_0_e {F : Nat} {q : (Int32 × Zs)} {S : Zs}   {ls : Array Slot} {H : Heap} {locs : List Loc} (C : zC p s m args meth c cX12_town 1 RX12 (some .int))  (h : n_X12_town_0_e F  S  = some q) (hW : zW (mG D cs ad) s S H locs) (hl : lv_has ls 1 [(0, .ref (ad 0))]) : W p l e (zR 5 111) s m args below meth c H locs 0 0 (zQi (mG D cs ad) q below args s) (F0 m 0 ls []) := by
  unfold n_X12_town_0_e at h
  obtain ⟨hx, hb, hml, hown, hts, hret, hlk⟩ := id C
  refine lv_aload_n hx hb dX12_town_0 rfl (lv_at hl 0 rfl) ?_
  refine lv_iconst (v := 0) hx hb dX12_town_1 (by decide) ?_
  refine mp_0_0 C hW h fl_X12_3 dX12_town_2 (fun S1 H locs h hW => ?_)
  refine lv_aload_n hx hb dX12_town_5 rfl (lv_at hl 0 rfl) ?_
  refine lv_aload_n hx hb dX12_town_6 rfl (lv_at hl 0 rfl) ?_
  refine zz_callVi (As := []) C hW h (fun r hr => c_X12_standing_0 hr) lk_X12_206 (hW.recv mr_0) rfl hl.1 ⟨rfl, rfl⟩ ⟨Nat.le_of_ble_eq_true rfl, Nat.le_of_ble_eq_true rfl⟩ (Nat.le_of_ble_eq_true rfl) ⟨Nat.zero_le _, Nat.zero_le _⟩ rfl dX12_town_7 (fun v3 S2 H locs h hW => ?_)
  refine zz_callVv (As := [.int v3]) C hW h (fun r hr => c_X12_lays_0 hr) lk_X12_200 (hW.recv mr_0) rfl hl.1 ⟨rfl, rfl⟩ ⟨Nat.le_of_ble_eq_true rfl, Nat.le_of_ble_eq_true rfl⟩ (Nat.le_of_ble_eq_true rfl) ⟨Nat.zero_le _, Nat.zero_le _⟩ rfl dX12_town_10 (fun v5 S4 H locs h hW => ?_)
  refine lv_aload_n hx hb dX12_town_13 rfl (lv_at hl 0 rfl) ?_
  refine zz_callVi (As := []) C hW h (fun r hr => c_X12_towns_0 hr) lk_X12_295 (hW.recv mr_0) rfl hl.1 ⟨rfl, rfl⟩ ⟨Nat.le_of_ble_eq_true rfl, Nat.le_of_ble_eq_true rfl⟩ (Nat.le_of_ble_eq_true rfl) ⟨Nat.zero_le _, Nat.zero_le _⟩ rfl dX12_town_14 (fun v7 S6 H locs h hW => ?_)
  exact zz_iret C rfl h hW dX12_town_17
def n_X12_town_0 (F : Nat) (S : Zs)  : Option (Int32 × Zs) := n_X12_town_0_e F  S 
theorem c_X12_town_0 {l : Launch} {D : va_G} {cs ad : Nat → Nat} {F : Nat} {S : Zs}  {q : (Int32 × Zs)} (h : n_X12_town_0 F S  = some q) : zMi l yX12_town cX12_town 1 (some .int) (zR 5 111) (mG D cs ad) [.ref (ad 0)] S q :=
  zz_enter (by decide) (Nat.le_of_ble_eq_true rfl) (fun p e s m below meth c ls C hW hl => w_X12_town_0_e (F := F) C h hW (lv_sub hl [0] rfl))
def n_X12_refute_0_e (F : Nat)  (S : Zs) (x1 : Int32) : Option (Int32 × Zs) :=
  zpf S 0 (0 : Int32) (fun S1 => zcl (n_X12_isCode F S1 x1) (fun v3 S2 => if v3 = 0 then (some ((-1 : Int32), S2)) else (zcl (n_X12_standing_0 F S2 ) (fun v5 S4 => zcl (n_X12_lays_0 F S4 v5) (fun v7 S6 => zcl (n_X12_contraryOf F S6 x1) (fun v9 S8 => zcl (n_X12_laysMore_0 F S8 v9) (fun v11 S10 => zcl (n_X12_towns_0 F S10 ) (fun v13 S12 => some (v13, S12)))))))))
set_option maxRecDepth 20000 in
set_option maxHeartbeats 4000000 in
theorem w_X12_refute_0_e {F : Nat} {q : (Int32 × Zs)} {S : Zs}  {x1 : Int32} {ls : Array Slot} {H : Heap} {locs : List Loc} (C : zC p s m args meth c cX12_refute 2 RX12 (some .int))  (h : n_X12_refute_0_e F  S x1 = some q) (hW : zW (mG D cs ad) s S H locs) (hl : lv_has ls 2 [(0, .ref (ad 0)), (1, .int x1)]) : W p l e (zR 5 111) s m args below meth c H locs 0 0 (zQi (mG D cs ad) q below args s) (F0 m 0 ls []) := by
  unfold n_X12_refute_0_e at h
  obtain ⟨hx, hb, hml, hown, hts, hret, hlk⟩ := id C
  refine lv_aload_n hx hb dX12_refute_0 rfl (lv_at hl 0 rfl) ?_
  refine lv_iconst (v := 0) hx hb dX12_refute_1 (by decide) ?_
  refine mp_0_0 C hW h fl_X12_3 dX12_refute_2 (fun S1 H locs h hW => ?_)
  refine lv_iload_n hx hb dX12_refute_5 rfl (lv_at hl 1 rfl) ?_
  refine zz_callSi (As := [.int x1]) C hW h (fun r hr => c_X12_isCode hr) lk_X12_142 rfl hl.1 ⟨rfl, rfl⟩ ⟨Nat.le_of_ble_eq_true rfl, Nat.le_of_ble_eq_true rfl⟩ (Nat.le_of_ble_eq_true rfl) ⟨Nat.zero_le _, Nat.zero_le _⟩ rfl dX12_refute_6 (fun v3 S2 H locs h hW => ?_)
  refine zz_ine (tgt := 14) C h dX12_refute_9 (by decide) (fun h => ?_) (fun h => ?_)
  · refine lv_aload_n hx hb dX12_refute_14 rfl (lv_at hl 0 rfl) ?_
    refine lv_aload_n hx hb dX12_refute_15 rfl (lv_at hl 0 rfl) ?_
    refine zz_callVi (As := []) C hW h (fun r hr => c_X12_standing_0 hr) lk_X12_206 (hW.recv mr_0) rfl hl.1 ⟨rfl, rfl⟩ ⟨Nat.le_of_ble_eq_true rfl, Nat.le_of_ble_eq_true rfl⟩ (Nat.le_of_ble_eq_true rfl) ⟨Nat.zero_le _, Nat.zero_le _⟩ rfl dX12_refute_16 (fun v5 S4 H locs h hW => ?_)
    refine zz_callVv (As := [.int v5]) C hW h (fun r hr => c_X12_lays_0 hr) lk_X12_200 (hW.recv mr_0) rfl hl.1 ⟨rfl, rfl⟩ ⟨Nat.le_of_ble_eq_true rfl, Nat.le_of_ble_eq_true rfl⟩ (Nat.le_of_ble_eq_true rfl) ⟨Nat.zero_le _, Nat.zero_le _⟩ rfl dX12_refute_19 (fun v7 S6 H locs h hW => ?_)
    refine lv_aload_n hx hb dX12_refute_22 rfl (lv_at hl 0 rfl) ?_
    refine lv_iload_n hx hb dX12_refute_23 rfl (lv_at hl 1 rfl) ?_
    refine zz_callSi (As := [.int x1]) C hW h (fun r hr => c_X12_contraryOf hr) lk_X12_190 rfl hl.1 ⟨rfl, rfl⟩ ⟨Nat.le_of_ble_eq_true rfl, Nat.le_of_ble_eq_true rfl⟩ (Nat.le_of_ble_eq_true rfl) ⟨Nat.zero_le _, Nat.zero_le _⟩ rfl dX12_refute_24 (fun v9 S8 H locs h hW => ?_)
    refine zz_callVv (As := [.int v9]) C hW h (fun r hr => c_X12_laysMore_0 hr) lk_X12_193 (hW.recv mr_0) rfl hl.1 ⟨rfl, rfl⟩ ⟨Nat.le_of_ble_eq_true rfl, Nat.le_of_ble_eq_true rfl⟩ (Nat.le_of_ble_eq_true rfl) ⟨Nat.zero_le _, Nat.zero_le _⟩ rfl dX12_refute_27 (fun v11 S10 H locs h hW => ?_)
    refine lv_aload_n hx hb dX12_refute_30 rfl (lv_at hl 0 rfl) ?_
    refine zz_callVi (As := []) C hW h (fun r hr => c_X12_towns_0 hr) lk_X12_295 (hW.recv mr_0) rfl hl.1 ⟨rfl, rfl⟩ ⟨Nat.le_of_ble_eq_true rfl, Nat.le_of_ble_eq_true rfl⟩ (Nat.le_of_ble_eq_true rfl) ⟨Nat.zero_le _, Nat.zero_le _⟩ rfl dX12_refute_31 (fun v13 S12 H locs h hW => ?_)
    exact zz_iret C rfl h hW dX12_refute_34
  · refine lv_iconst (v := -1) hx hb dX12_refute_12 (by decide) ?_
    exact zz_iret C rfl h hW dX12_refute_13
def n_X12_refute_0 (F : Nat) (S : Zs) (x1 : Int32) : Option (Int32 × Zs) := n_X12_refute_0_e F  S x1
theorem c_X12_refute_0 {l : Launch} {D : va_G} {cs ad : Nat → Nat} {F : Nat} {S : Zs} {x1 : Int32} {q : (Int32 × Zs)} (h : n_X12_refute_0 F S x1 = some q) : zMi l yX12_refute cX12_refute 2 (some .int) (zR 5 111) (mG D cs ad) [.ref (ad 0), .int x1] S q :=
  zz_enter (by decide) (Nat.le_of_ble_eq_true rfl) (fun p e s m below meth c ls C hW hl => w_X12_refute_0_e (F := F) C h hW (lv_sub hl [0, 1] rfl))
def n_X12_isTrue_13_b120 (F : Nat)  (S : Zs) (t0 : Int32) : Option (Int32 × Zs) :=
  zrb t0 S
set_option maxRecDepth 20000 in
set_option maxHeartbeats 4000000 in
theorem w_X12_isTrue_13_b120 {F : Nat} {q : (Int32 × Zs)} {S : Zs}  {t0 : Int32} {ls : Array Slot} {H : Heap} {locs : List Loc} (C : zC p s m args meth c cX12_isTrue 9 RX12 (some .boolean))  (h : n_X12_isTrue_13_b120 F  S t0 = some q) (hW : zW (mG D cs ad) s S H locs) (hl : lv_has ls 9 []) : W p l e (zR 2 42) s m args below meth c H locs 0 0 (zQi (mG D cs ad) q below args s) (F0 m 120 ls [.int t0]) := by
  unfold n_X12_isTrue_13_b120 at h
  obtain ⟨hx, hb, hml, hown, hts, hret, hlk⟩ := id C
  exact zz_zret C rfl h hW dX12_isTrue_120
def n_X12_isTrue_13_b95 (F : Nat) (rc18 : Zs → Int32 → Int32 → Int32 → Int32 → Int32 → Option (Int32 × Zs)) (S : Zs) (x0 : Int32) (x2 : Int32) (x5 : Int32) (x6 : Int32) (t0 : Int32) : Option (Int32 × Zs) :=
  zlet (x6 + (1 : Int32)) (fun v1 => rc18 S x0 x2 t0 x5 v1)
set_option maxRecDepth 20000 in
set_option maxHeartbeats 4000000 in
theorem w_X12_isTrue_13_b95 {F : Nat} {q : (Int32 × Zs)} {S : Zs} {rc18 : Zs → Int32 → Int32 → Int32 → Int32 → Int32 → Option (Int32 × Zs)} {x0 : Int32} {x2 : Int32} {x5 : Int32} {x6 : Int32} {t0 : Int32} {ls : Array Slot} {H : Heap} {locs : List Loc} (C : zC p s m args meth c cX12_isTrue 9 RX12 (some .boolean)) (hrc18 : ∀ (S : Zs) (x0 : Int32) (x2 : Int32) (x3 : Int32) (x5 : Int32) (x6 : Int32) (H : Heap) (locs : List Loc) (ls : Array Slot), rc18 S x0 x2 x3 x5 x6 = some q → zW (mG D cs ad) s S H locs → lv_has ls 9 [(0, .int x0), (2, .int x2), (3, .int x3), (4, .ref (ad 13)), (5, .int x5), (6, .int x6)] → W p l e (zR 2 42) s m args below meth c H locs 0 0 (zQi (mG D cs ad) q below args s) (F0 m 18 ls [])) (h : n_X12_isTrue_13_b95 F rc18 S x0 x2 x5 x6 t0 = some q) (hW : zW (mG D cs ad) s S H locs) (hl : lv_has ls 9 [(0, .int x0), (2, .int x2), (4, .ref (ad 13)), (5, .int x5), (6, .int x6)]) : W p l e (zR 2 42) s m args below meth c H locs 0 0 (zQi (mG D cs ad) q below args s) (F0 m 95 ls [.int t0]) := by
  unfold n_X12_isTrue_13_b95 at h
  obtain ⟨hx, hb, hml, hown, hts, hret, hlk⟩ := id C
  refine lv_istore_n (lv' := [(3, .int t0), (0, .int x0), (2, .int x2), (4, .ref (ad 13)), (5, .int x5), (6, .int x6)]) hx hb dX12_isTrue_95 rfl hl (by decide) rfl (fun ls hl => ?_)
  obtain ⟨v1, ev1, h⟩ := zz_name h
  refine lv_iinc (v := v1) (lv' := [(6, .int v1), (3, .int t0), (0, .int x0), (2, .int x2), (4, .ref (ad 13)), (5, .int x5)]) hx hb dX12_isTrue_96 hl (k := 5) rfl ev1.symm (by decide) rfl (fun ls hl => ?_)
  refine lv_goto (tgt := 18) hx hb dX12_isTrue_99 (by decide) ?_
  exact hrc18 _ _ _ _ _ _ _ _ _ h hW (lv_sub hl [2, 3, 1, 4, 5, 0] rfl)
def n_X12_isTrue_13_b90 (F : Nat) (rc18 : Zs → Int32 → Int32 → Int32 → Int32 → Int32 → Option (Int32 × Zs)) (S : Zs) (x0 : Int32) (x2 : Int32) (x5 : Int32) (x6 : Int32) : Option (Int32 × Zs) :=
  n_X12_isTrue_13_b95 F rc18 S x0 x2 x5 x6 (1 : Int32)
set_option maxRecDepth 20000 in
set_option maxHeartbeats 4000000 in
theorem w_X12_isTrue_13_b90 {F : Nat} {q : (Int32 × Zs)} {S : Zs} {rc18 : Zs → Int32 → Int32 → Int32 → Int32 → Int32 → Option (Int32 × Zs)} {x0 : Int32} {x2 : Int32} {x5 : Int32} {x6 : Int32} {ls : Array Slot} {H : Heap} {locs : List Loc} (C : zC p s m args meth c cX12_isTrue 9 RX12 (some .boolean)) (hrc18 : ∀ (S : Zs) (x0 : Int32) (x2 : Int32) (x3 : Int32) (x5 : Int32) (x6 : Int32) (H : Heap) (locs : List Loc) (ls : Array Slot), rc18 S x0 x2 x3 x5 x6 = some q → zW (mG D cs ad) s S H locs → lv_has ls 9 [(0, .int x0), (2, .int x2), (3, .int x3), (4, .ref (ad 13)), (5, .int x5), (6, .int x6)] → W p l e (zR 2 42) s m args below meth c H locs 0 0 (zQi (mG D cs ad) q below args s) (F0 m 18 ls [])) (h : n_X12_isTrue_13_b90 F rc18 S x0 x2 x5 x6 = some q) (hW : zW (mG D cs ad) s S H locs) (hl : lv_has ls 9 [(0, .int x0), (2, .int x2), (4, .ref (ad 13)), (5, .int x5), (6, .int x6)]) : W p l e (zR 2 42) s m args below meth c H locs 0 0 (zQi (mG D cs ad) q below args s) (F0 m 90 ls []) := by
  unfold n_X12_isTrue_13_b90 at h
  obtain ⟨hx, hb, hml, hown, hts, hret, hlk⟩ := id C
  refine lv_iconst (v := 1) hx hb dX12_isTrue_90 (by decide) ?_
  refine lv_goto (tgt := 95) hx hb dX12_isTrue_91 (by decide) ?_
  exact w_X12_isTrue_13_b95 (F := F) C hrc18 h hW (lv_sub hl [0, 1, 2, 3, 4] rfl)
def n_X12_isTrue_13_b94 (F : Nat) (rc18 : Zs → Int32 → Int32 → Int32 → Int32 → Int32 → Option (Int32 × Zs)) (S : Zs) (x0 : Int32) (x2 : Int32) (x5 : Int32) (x6 : Int32) : Option (Int32 × Zs) :=
  n_X12_isTrue_13_b95 F rc18 S x0 x2 x5 x6 (0 : Int32)
set_option maxRecDepth 20000 in
set_option maxHeartbeats 4000000 in
theorem w_X12_isTrue_13_b94 {F : Nat} {q : (Int32 × Zs)} {S : Zs} {rc18 : Zs → Int32 → Int32 → Int32 → Int32 → Int32 → Option (Int32 × Zs)} {x0 : Int32} {x2 : Int32} {x5 : Int32} {x6 : Int32} {ls : Array Slot} {H : Heap} {locs : List Loc} (C : zC p s m args meth c cX12_isTrue 9 RX12 (some .boolean)) (hrc18 : ∀ (S : Zs) (x0 : Int32) (x2 : Int32) (x3 : Int32) (x5 : Int32) (x6 : Int32) (H : Heap) (locs : List Loc) (ls : Array Slot), rc18 S x0 x2 x3 x5 x6 = some q → zW (mG D cs ad) s S H locs → lv_has ls 9 [(0, .int x0), (2, .int x2), (3, .int x3), (4, .ref (ad 13)), (5, .int x5), (6, .int x6)] → W p l e (zR 2 42) s m args below meth c H locs 0 0 (zQi (mG D cs ad) q below args s) (F0 m 18 ls [])) (h : n_X12_isTrue_13_b94 F rc18 S x0 x2 x5 x6 = some q) (hW : zW (mG D cs ad) s S H locs) (hl : lv_has ls 9 [(0, .int x0), (2, .int x2), (4, .ref (ad 13)), (5, .int x5), (6, .int x6)]) : W p l e (zR 2 42) s m args below meth c H locs 0 0 (zQi (mG D cs ad) q below args s) (F0 m 94 ls []) := by
  unfold n_X12_isTrue_13_b94 at h
  obtain ⟨hx, hb, hml, hown, hts, hret, hlk⟩ := id C
  refine lv_iconst (v := 0) hx hb dX12_isTrue_94 (by decide) ?_
  exact w_X12_isTrue_13_b95 (F := F) C hrc18 h hW (lv_sub hl [0, 1, 2, 3, 4] rfl)
def n_X12_isTrue_13_b54 (F : Nat) (rc18 : Zs → Int32 → Int32 → Int32 → Int32 → Int32 → Option (Int32 × Zs)) (S : Zs) (x0 : Int32) (x2 : Int32) (x3 : Int32) (x5 : Int32) (x6 : Int32) (x7 : Int32) (t0 : Int32) : Option (Int32 × Zs) :=
  if x3 = 0 then (if (4096 : Int32) ≤ x7 then (n_X12_isTrue_13_b94 F rc18 S x0 x2 x5 x6) else (zcl (n_X12_firstOf F S x0) (fun v2 S1 => zcl (n_X12_isOf F S1 x7 v2) (fun v4 S3 => if v4 = 0 then (n_X12_isTrue_13_b94 F rc18 S3 x0 x2 x5 x6) else (zcl (n_X12_isOf F S3 x7 t0) (fun v6 S5 => if v6 = 0 then (n_X12_isTrue_13_b94 F rc18 S5 x0 x2 x5 x6) else (n_X12_isTrue_13_b90 F rc18 S5 x0 x2 x5 x6))))))) else (n_X12_isTrue_13_b90 F rc18 S x0 x2 x5 x6)
set_option maxRecDepth 20000 in
set_option maxHeartbeats 4000000 in
theorem w_X12_isTrue_13_b54 {F : Nat} {q : (Int32 × Zs)} {S : Zs} {rc18 : Zs → Int32 → Int32 → Int32 → Int32 → Int32 → Option (Int32 × Zs)} {x0 : Int32} {x2 : Int32} {x3 : Int32} {x5 : Int32} {x6 : Int32} {x7 : Int32} {t0 : Int32} {ls : Array Slot} {H : Heap} {locs : List Loc} (C : zC p s m args meth c cX12_isTrue 9 RX12 (some .boolean)) (hrc18 : ∀ (S : Zs) (x0 : Int32) (x2 : Int32) (x3 : Int32) (x5 : Int32) (x6 : Int32) (H : Heap) (locs : List Loc) (ls : Array Slot), rc18 S x0 x2 x3 x5 x6 = some q → zW (mG D cs ad) s S H locs → lv_has ls 9 [(0, .int x0), (2, .int x2), (3, .int x3), (4, .ref (ad 13)), (5, .int x5), (6, .int x6)] → W p l e (zR 2 42) s m args below meth c H locs 0 0 (zQi (mG D cs ad) q below args s) (F0 m 18 ls [])) (h : n_X12_isTrue_13_b54 F rc18 S x0 x2 x3 x5 x6 x7 t0 = some q) (hW : zW (mG D cs ad) s S H locs) (hl : lv_has ls 9 [(0, .int x0), (2, .int x2), (3, .int x3), (4, .ref (ad 13)), (5, .int x5), (6, .int x6), (7, .int x7)]) : W p l e (zR 2 42) s m args below meth c H locs 0 0 (zQi (mG D cs ad) q below args s) (F0 m 54 ls [.int t0]) := by
  unfold n_X12_isTrue_13_b54 at h
  obtain ⟨hx, hb, hml, hown, hts, hret, hlk⟩ := id C
  refine lv_istore (lv' := [(8, .int t0), (0, .int x0), (2, .int x2), (3, .int x3), (4, .ref (ad 13)), (5, .int x5), (6, .int x6), (7, .int x7)]) hx hb dX12_isTrue_54 hl (by decide) rfl (fun ls hl => ?_)
  refine lv_iload_n hx hb dX12_isTrue_56 rfl (lv_at hl 3 rfl) ?_
  refine zz_ine (tgt := 90) C h dX12_isTrue_57 (by decide) (fun h => ?_) (fun h => ?_)
  · exact w_X12_isTrue_13_b90 (F := F) C hrc18 h hW (lv_sub hl [1, 2, 4, 5, 6] rfl)
  · refine lv_iload hx hb dX12_isTrue_60 (lv_at hl 7 rfl) ?_
    refine lv_sipush (v := 4096) hx hb dX12_isTrue_62 (by decide) ?_
    refine zz_cge (tgt := 94) C h dX12_isTrue_65 (by decide) (fun h => ?_) (fun h => ?_)
    · exact w_X12_isTrue_13_b94 (F := F) C hrc18 h hW (lv_sub hl [1, 2, 4, 5, 6] rfl)
    · refine lv_iload hx hb dX12_isTrue_68 (lv_at hl 7 rfl) ?_
      refine lv_iload_n hx hb dX12_isTrue_70 rfl (lv_at hl 1 rfl) ?_
      refine zz_callSi (As := [.int x0]) C hW h (fun r hr => c_X12_firstOf hr) lk_X12_24 rfl hl.1 ⟨rfl, rfl⟩ ⟨Nat.le_of_ble_eq_true rfl, Nat.le_of_ble_eq_true rfl⟩ (Nat.le_of_ble_eq_true rfl) ⟨Nat.zero_le _, Nat.zero_le _⟩ rfl dX12_isTrue_71 (fun v2 S1 H locs h hW => ?_)
      refine zz_callSi (As := [.int x7, .int v2]) C hW h (fun r hr => c_X12_isOf hr) lk_X12_262 rfl hl.1 ⟨rfl, rfl⟩ ⟨Nat.le_of_ble_eq_true rfl, Nat.le_of_ble_eq_true rfl⟩ (Nat.le_of_ble_eq_true rfl) ⟨Nat.zero_le _, Nat.zero_le _⟩ rfl dX12_isTrue_74 (fun v4 S3 H locs h hW => ?_)
      refine zz_ieq (tgt := 94) C h dX12_isTrue_77 (by decide) (fun h => ?_) (fun h => ?_)
      · exact w_X12_isTrue_13_b94 (F := F) C hrc18 h hW (lv_sub hl [1, 2, 4, 5, 6] rfl)
      · refine lv_iload hx hb dX12_isTrue_80 (lv_at hl 7 rfl) ?_
        refine lv_iload hx hb dX12_isTrue_82 (lv_at hl 0 rfl) ?_
        refine zz_callSi (As := [.int x7, .int t0]) C hW h (fun r hr => c_X12_isOf hr) lk_X12_262 rfl hl.1 ⟨rfl, rfl⟩ ⟨Nat.le_of_ble_eq_true rfl, Nat.le_of_ble_eq_true rfl⟩ (Nat.le_of_ble_eq_true rfl) ⟨Nat.zero_le _, Nat.zero_le _⟩ rfl dX12_isTrue_84 (fun v6 S5 H locs h hW => ?_)
        refine zz_ieq (tgt := 94) C h dX12_isTrue_87 (by decide) (fun h => ?_) (fun h => ?_)
        · exact w_X12_isTrue_13_b94 (F := F) C hrc18 h hW (lv_sub hl [1, 2, 4, 5, 6] rfl)
        · exact w_X12_isTrue_13_b90 (F := F) C hrc18 h hW (lv_sub hl [1, 2, 4, 5, 6] rfl)
def n_X12_isTrue_13_b41 (F : Nat) (rc18 : Zs → Int32 → Int32 → Int32 → Int32 → Int32 → Option (Int32 × Zs)) (S : Zs) (x0 : Int32) (x2 : Int32) (x3 : Int32) (x5 : Int32) (x6 : Int32) (x7 : Int32) : Option (Int32 × Zs) :=
  zcl (n_X12_secondOf F S x0) (fun v2 S1 => n_X12_isTrue_13_b54 F rc18 S1 x0 x2 x3 x5 x6 x7 (v2 ^^^ (1 : Int32)))
set_option maxRecDepth 20000 in
set_option maxHeartbeats 4000000 in
theorem w_X12_isTrue_13_b41 {F : Nat} {q : (Int32 × Zs)} {S : Zs} {rc18 : Zs → Int32 → Int32 → Int32 → Int32 → Int32 → Option (Int32 × Zs)} {x0 : Int32} {x2 : Int32} {x3 : Int32} {x5 : Int32} {x6 : Int32} {x7 : Int32} {ls : Array Slot} {H : Heap} {locs : List Loc} (C : zC p s m args meth c cX12_isTrue 9 RX12 (some .boolean)) (hrc18 : ∀ (S : Zs) (x0 : Int32) (x2 : Int32) (x3 : Int32) (x5 : Int32) (x6 : Int32) (H : Heap) (locs : List Loc) (ls : Array Slot), rc18 S x0 x2 x3 x5 x6 = some q → zW (mG D cs ad) s S H locs → lv_has ls 9 [(0, .int x0), (2, .int x2), (3, .int x3), (4, .ref (ad 13)), (5, .int x5), (6, .int x6)] → W p l e (zR 2 42) s m args below meth c H locs 0 0 (zQi (mG D cs ad) q below args s) (F0 m 18 ls [])) (h : n_X12_isTrue_13_b41 F rc18 S x0 x2 x3 x5 x6 x7 = some q) (hW : zW (mG D cs ad) s S H locs) (hl : lv_has ls 9 [(0, .int x0), (2, .int x2), (3, .int x3), (4, .ref (ad 13)), (5, .int x5), (6, .int x6), (7, .int x7)]) : W p l e (zR 2 42) s m args below meth c H locs 0 0 (zQi (mG D cs ad) q below args s) (F0 m 41 ls []) := by
  unfold n_X12_isTrue_13_b41 at h
  obtain ⟨hx, hb, hml, hown, hts, hret, hlk⟩ := id C
  refine lv_iload_n hx hb dX12_isTrue_41 rfl (lv_at hl 0 rfl) ?_
  refine zz_callSi (As := [.int x0]) C hW h (fun r hr => c_X12_secondOf hr) lk_X12_27 rfl hl.1 ⟨rfl, rfl⟩ ⟨Nat.le_of_ble_eq_true rfl, Nat.le_of_ble_eq_true rfl⟩ (Nat.le_of_ble_eq_true rfl) ⟨Nat.zero_le _, Nat.zero_le _⟩ rfl dX12_isTrue_42 (fun v2 S1 H locs h hW => ?_)
  refine lv_iconst (v := 1) hx hb dX12_isTrue_45 (by decide) ?_
  refine lv_ixor hx hb dX12_isTrue_46 ?_
  refine lv_goto (tgt := 54) hx hb dX12_isTrue_47 (by decide) ?_
  exact w_X12_isTrue_13_b54 (F := F) C hrc18 h hW (lv_sub hl [0, 1, 2, 3, 4, 5, 6] rfl)
def n_X12_isTrue_13_b18_l (F : Nat) (rc18 : Zs → Int32 → Int32 → Int32 → Int32 → Int32 → Option (Int32 × Zs)) (S : Zs) (x0 : Int32) (x2 : Int32) (x3 : Int32) (x5 : Int32) (x6 : Int32) : Option (Int32 × Zs) :=
  if x5 ≤ x6 then (if (2 : Int32) ≤ x2 then (n_X12_isTrue_13_b120 F  S x3) else (if x3 = 0 then (n_X12_isTrue_13_b120 F  S (1 : Int32)) else (n_X12_isTrue_13_b120 F  S (0 : Int32)))) else (zld S 13 3 x6 (fun v1 => if x2 = 0 then (n_X12_isTrue_13_b41 F rc18 S x0 x2 x3 x5 x6 v1) else (if x2 = (3 : Int32) then (n_X12_isTrue_13_b41 F rc18 S x0 x2 x3 x5 x6 v1) else (zcl (n_X12_secondOf F S x0) (fun v3 S2 => n_X12_isTrue_13_b54 F rc18 S2 x0 x2 x3 x5 x6 v1 v3)))))
set_option maxRecDepth 20000 in
set_option maxHeartbeats 4000000 in
theorem w_X12_isTrue_13_b18_l {F : Nat} {q : (Int32 × Zs)} {S : Zs} {rc18 : Zs → Int32 → Int32 → Int32 → Int32 → Int32 → Option (Int32 × Zs)} {x0 : Int32} {x2 : Int32} {x3 : Int32} {x5 : Int32} {x6 : Int32} {ls : Array Slot} {H : Heap} {locs : List Loc} (C : zC p s m args meth c cX12_isTrue 9 RX12 (some .boolean)) (hrc18 : ∀ (S : Zs) (x0 : Int32) (x2 : Int32) (x3 : Int32) (x5 : Int32) (x6 : Int32) (H : Heap) (locs : List Loc) (ls : Array Slot), rc18 S x0 x2 x3 x5 x6 = some q → zW (mG D cs ad) s S H locs → lv_has ls 9 [(0, .int x0), (2, .int x2), (3, .int x3), (4, .ref (ad 13)), (5, .int x5), (6, .int x6)] → W p l e (zR 2 42) s m args below meth c H locs 0 0 (zQi (mG D cs ad) q below args s) (F0 m 18 ls [])) (h : n_X12_isTrue_13_b18_l F rc18 S x0 x2 x3 x5 x6 = some q) (hW : zW (mG D cs ad) s S H locs) (hl : lv_has ls 9 [(0, .int x0), (2, .int x2), (3, .int x3), (4, .ref (ad 13)), (5, .int x5), (6, .int x6)]) : W p l e (zR 2 42) s m args below meth c H locs 0 0 (zQi (mG D cs ad) q below args s) (F0 m 18 ls []) := by
  unfold n_X12_isTrue_13_b18_l at h
  obtain ⟨hx, hb, hml, hown, hts, hret, hlk⟩ := id C
  refine lv_iload hx hb dX12_isTrue_18 (lv_at hl 5 rfl) ?_
  refine lv_iload hx hb dX12_isTrue_20 (lv_at hl 4 rfl) ?_
  refine zz_cge (tgt := 102) C h dX12_isTrue_22 (by decide) (fun h => ?_) (fun h => ?_)
  · refine lv_iload_n hx hb dX12_isTrue_102 rfl (lv_at hl 1 rfl) ?_
    refine lv_iconst (v := 2) hx hb dX12_isTrue_103 (by decide) ?_
    refine zz_cge (tgt := 119) C h dX12_isTrue_104 (by decide) (fun h => ?_) (fun h => ?_)
    · refine lv_iload_n hx hb dX12_isTrue_119 rfl (lv_at hl 2 rfl) ?_
      exact w_X12_isTrue_13_b120 (F := F) C h hW (lv_sub hl [] rfl)
    · refine lv_iload_n hx hb dX12_isTrue_107 rfl (lv_at hl 2 rfl) ?_
      refine zz_ine (tgt := 115) C h dX12_isTrue_108 (by decide) (fun h => ?_) (fun h => ?_)
      · refine lv_iconst (v := 0) hx hb dX12_isTrue_115 (by decide) ?_
        refine lv_goto (tgt := 120) hx hb dX12_isTrue_116 (by decide) ?_
        exact w_X12_isTrue_13_b120 (F := F) C h hW (lv_sub hl [] rfl)
      · refine lv_iconst (v := 1) hx hb dX12_isTrue_111 (by decide) ?_
        refine lv_goto (tgt := 120) hx hb dX12_isTrue_112 (by decide) ?_
        exact w_X12_isTrue_13_b120 (F := F) C h hW (lv_sub hl [] rfl)
  · refine lv_aload hx hb dX12_isTrue_25 (lv_at hl 3 rfl) ?_
    refine lv_iload hx hb dX12_isTrue_27 (lv_at hl 5 rfl) ?_
    refine ml_13 C hW h dX12_isTrue_29 (fun v1 h => ?_)
    refine lv_istore (lv' := [(7, .int v1), (0, .int x0), (2, .int x2), (3, .int x3), (4, .ref (ad 13)), (5, .int x5), (6, .int x6)]) hx hb dX12_isTrue_30 hl (by decide) rfl (fun ls hl => ?_)
    refine lv_iload_n hx hb dX12_isTrue_32 rfl (lv_at hl 2 rfl) ?_
    refine zz_ieq (tgt := 41) C h dX12_isTrue_33 (by decide) (fun h => ?_) (fun h => ?_)
    · exact w_X12_isTrue_13_b41 (F := F) C hrc18 h hW (lv_sub hl [1, 2, 3, 4, 5, 6, 0] rfl)
    · refine lv_iload_n hx hb dX12_isTrue_36 rfl (lv_at hl 2 rfl) ?_
      refine lv_iconst (v := 3) hx hb dX12_isTrue_37 (by decide) ?_
      refine zz_cne (tgt := 50) C h dX12_isTrue_38 (by decide) (fun h => ?_) (fun h => ?_)
      · refine lv_iload_n hx hb dX12_isTrue_50 rfl (lv_at hl 1 rfl) ?_
        refine zz_callSi (As := [.int x0]) C hW h (fun r hr => c_X12_secondOf hr) lk_X12_27 rfl hl.1 ⟨rfl, rfl⟩ ⟨Nat.le_of_ble_eq_true rfl, Nat.le_of_ble_eq_true rfl⟩ (Nat.le_of_ble_eq_true rfl) ⟨Nat.zero_le _, Nat.zero_le _⟩ rfl dX12_isTrue_51 (fun v3 S2 H locs h hW => ?_)
        exact w_X12_isTrue_13_b54 (F := F) C hrc18 h hW (lv_sub hl [1, 2, 3, 4, 5, 6, 0] rfl)
      · exact w_X12_isTrue_13_b41 (F := F) C hrc18 h hW (lv_sub hl [1, 2, 3, 4, 5, 6, 0] rfl)
def n_X12_isTrue_13_b18 (F : Nat)  (S : Zs) (x0 : Int32) (x2 : Int32) (x3 : Int32) (x5 : Int32) (x6 : Int32) : Option (Int32 × Zs) :=
  zfix (fun (rc : (Zs × Int32 × Int32 × Int32 × Int32 × Int32) → Option (Int32 × Zs)) (u : (Zs × Int32 × Int32 × Int32 × Int32 × Int32)) => n_X12_isTrue_13_b18_l F  (fun S x0 x2 x3 x5 x6 => rc (S, x0, x2, x3, x5, x6)) u.1 u.2.1 u.2.2.1 u.2.2.2.1 u.2.2.2.2.1 u.2.2.2.2.2) F (S, x0, x2, x3, x5, x6)
theorem w_X12_isTrue_13_b18 {F : Nat} {q : (Int32 × Zs)}  (C : zC p s m args meth c cX12_isTrue 9 RX12 (some .boolean))  : ∀ (n : Nat) (S : Zs) (x0 : Int32) (x2 : Int32) (x3 : Int32) (x5 : Int32) (x6 : Int32) (H : Heap) (locs : List Loc) (ls : Array Slot), zfix (fun (rc : (Zs × Int32 × Int32 × Int32 × Int32 × Int32) → Option (Int32 × Zs)) (u : (Zs × Int32 × Int32 × Int32 × Int32 × Int32)) => n_X12_isTrue_13_b18_l F  (fun S x0 x2 x3 x5 x6 => rc (S, x0, x2, x3, x5, x6)) u.1 u.2.1 u.2.2.1 u.2.2.2.1 u.2.2.2.2.1 u.2.2.2.2.2) n (S, x0, x2, x3, x5, x6) = some q → zW (mG D cs ad) s S H locs → lv_has ls 9 [(0, .int x0), (2, .int x2), (3, .int x3), (4, .ref (ad 13)), (5, .int x5), (6, .int x6)] → W p l e (zR 2 42) s m args below meth c H locs 0 0 (zQi (mG D cs ad) q below args s) (F0 m 18 ls []) := by
  intro n
  induction n with
  | zero => intro S x0 x2 x3 x5 x6 H locs ls h; exact absurd h (fun h => by cases h)
  | succ n ih => intro S x0 x2 x3 x5 x6 H locs ls h hW hl; exact w_X12_isTrue_13_b18_l (F := F) C (fun S x0 x2 x3 x5 x6 H locs ls h hW hl => ih S x0 x2 x3 x5 x6 H locs ls h hW hl) h hW hl
def n_X12_isTrue_13_e (F : Nat)  (S : Zs) (x0 : Int32) : Option (Int32 × Zs) :=
  zcl (n_X12_formOf F S x0) (fun v2 S1 => zlet (nI 3) (fun v3 => n_X12_isTrue_13_b18 F  S1 x0 v2 (0 : Int32) v3 (0 : Int32)))
set_option maxRecDepth 20000 in
set_option maxHeartbeats 4000000 in
theorem w_X12_isTrue_13_e {F : Nat} {q : (Int32 × Zs)} {S : Zs}  {x0 : Int32} {ls : Array Slot} {H : Heap} {locs : List Loc} (C : zC p s m args meth c cX12_isTrue 9 RX12 (some .boolean))  (h : n_X12_isTrue_13_e F  S x0 = some q) (hW : zW (mG D cs ad) s S H locs) (hl : lv_has ls 9 [(0, .int x0), (1, .ref (ad 13))]) : W p l e (zR 2 42) s m args below meth c H locs 0 0 (zQi (mG D cs ad) q below args s) (F0 m 0 ls []) := by
  unfold n_X12_isTrue_13_e at h
  obtain ⟨hx, hb, hml, hown, hts, hret, hlk⟩ := id C
  refine lv_iload_n hx hb dX12_isTrue_0 rfl (lv_at hl 0 rfl) ?_
  refine zz_callSi (As := [.int x0]) C hW h (fun r hr => c_X12_formOf hr) lk_X12_20 rfl hl.1 ⟨rfl, rfl⟩ ⟨Nat.le_of_ble_eq_true rfl, Nat.le_of_ble_eq_true rfl⟩ (Nat.le_of_ble_eq_true rfl) ⟨Nat.zero_le _, Nat.zero_le _⟩ rfl dX12_isTrue_1 (fun v2 S1 H locs h hW => ?_)
  refine lv_istore_n (lv' := [(2, .int v2), (0, .int x0), (1, .ref (ad 13))]) hx hb dX12_isTrue_4 rfl hl (by decide) rfl (fun ls hl => ?_)
  refine lv_iconst (v := 0) hx hb dX12_isTrue_5 (by decide) ?_
  refine lv_istore_n (lv' := [(3, .int (0 : Int32)), (2, .int v2), (0, .int x0), (1, .ref (ad 13))]) hx hb dX12_isTrue_6 rfl hl (by decide) rfl (fun ls hl => ?_)
  refine lv_aload_n hx hb dX12_isTrue_7 rfl (lv_at hl 3 rfl) ?_
  refine lv_astore (lv' := [(4, .ref (ad 13)), (3, .int (0 : Int32)), (2, .int v2), (0, .int x0), (1, .ref (ad 13))]) hx hb dX12_isTrue_8 hl (by decide) rfl (fun ls hl => ?_)
  refine lv_aload hx hb dX12_isTrue_10 (lv_at hl 0 rfl) ?_
  refine mn_13 C hW dX12_isTrue_12 ?_
  refine zz_leti h (fun v3 h => ?_)
  refine lv_istore (lv' := [(5, .int v3), (4, .ref (ad 13)), (3, .int (0 : Int32)), (2, .int v2), (0, .int x0), (1, .ref (ad 13))]) hx hb dX12_isTrue_13 hl (by decide) rfl (fun ls hl => ?_)
  refine lv_iconst (v := 0) hx hb dX12_isTrue_15 (by decide) ?_
  refine lv_istore (lv' := [(6, .int (0 : Int32)), (5, .int v3), (4, .ref (ad 13)), (3, .int (0 : Int32)), (2, .int v2), (0, .int x0), (1, .ref (ad 13))]) hx hb dX12_isTrue_16 hl (by decide) rfl (fun ls hl => ?_)
  exact w_X12_isTrue_13_b18 (F := F) C F _ _ _ _ _ _ _ _ _ h hW (lv_sub hl [5, 4, 3, 2, 1, 0] rfl)
def n_X12_isTrue_13 (F : Nat) (S : Zs) (x0 : Int32) : Option (Int32 × Zs) := n_X12_isTrue_13_e F  S x0
theorem c_X12_isTrue_13 {l : Launch} {D : va_G} {cs ad : Nat → Nat} {F : Nat} {S : Zs} {x0 : Int32} {q : (Int32 × Zs)} (h : n_X12_isTrue_13 F S x0 = some q) : zMi l yX12_isTrue cX12_isTrue 9 (some .boolean) (zR 2 42) (mG D cs ad) [.int x0, .ref (ad 13)] S q :=
  zz_enter (by decide) (Nat.le_of_ble_eq_true rfl) (fun p e s m below meth c ls C hW hl => w_X12_isTrue_13_e (F := F) C h hW (lv_sub hl [0, 1] rfl))
def n_X12_judge_0_b41 (F : Nat)  (S : Zs)  : Option (Int32 × Zs) :=
  some ((-1 : Int32), S)
set_option maxRecDepth 20000 in
set_option maxHeartbeats 4000000 in
theorem w_X12_judge_0_b41 {F : Nat} {q : (Int32 × Zs)} {S : Zs}   {ls : Array Slot} {H : Heap} {locs : List Loc} (C : zC p s m args meth c cX12_judge 7 RX12 (some .int))  (h : n_X12_judge_0_b41 F  S  = some q) (hW : zW (mG D cs ad) s S H locs) (hl : lv_has ls 7 []) : W p l e (zR 3 70) s m args below meth c H locs 0 0 (zQi (mG D cs ad) q below args s) (F0 m 41 ls []) := by
  unfold n_X12_judge_0_b41 at h
  obtain ⟨hx, hb, hml, hown, hts, hret, hlk⟩ := id C
  refine lv_iconst (v := -1) hx hb dX12_judge_41 (by decide) ?_
  exact zz_iret C rfl h hW dX12_judge_42
def n_X12_judge_0_b225 (F : Nat)  (S : Zs) (t0 : Int32) : Option (Int32 × Zs) :=
  zcl (n_X12_flag F S t0) (fun v2 S1 => some (v2, S1))
set_option maxRecDepth 20000 in
set_option maxHeartbeats 4000000 in
theorem w_X12_judge_0_b225 {F : Nat} {q : (Int32 × Zs)} {S : Zs}  {t0 : Int32} {ls : Array Slot} {H : Heap} {locs : List Loc} (C : zC p s m args meth c cX12_judge 7 RX12 (some .int))  (h : n_X12_judge_0_b225 F  S t0 = some q) (hW : zW (mG D cs ad) s S H locs) (hl : lv_has ls 7 []) : W p l e (zR 3 70) s m args below meth c H locs 0 0 (zQi (mG D cs ad) q below args s) (F0 m 225 ls [.int t0]) := by
  unfold n_X12_judge_0_b225 at h
  obtain ⟨hx, hb, hml, hown, hts, hret, hlk⟩ := id C
  refine zz_callSi (As := [.int t0]) C hW h (fun r hr => c_X12_flag hr) lk_X12_52 rfl hl.1 ⟨rfl, rfl⟩ ⟨Nat.le_of_ble_eq_true rfl, Nat.le_of_ble_eq_true rfl⟩ (Nat.le_of_ble_eq_true rfl) ⟨Nat.zero_le _, Nat.zero_le _⟩ rfl dX12_judge_225 (fun v2 S1 H locs h hW => ?_)
  exact zz_iret C rfl h hW dX12_judge_228
def n_X12_judge_0_b224 (F : Nat)  (S : Zs)  : Option (Int32 × Zs) :=
  n_X12_judge_0_b225 F  S (0 : Int32)
set_option maxRecDepth 20000 in
set_option maxHeartbeats 4000000 in
theorem w_X12_judge_0_b224 {F : Nat} {q : (Int32 × Zs)} {S : Zs}   {ls : Array Slot} {H : Heap} {locs : List Loc} (C : zC p s m args meth c cX12_judge 7 RX12 (some .int))  (h : n_X12_judge_0_b224 F  S  = some q) (hW : zW (mG D cs ad) s S H locs) (hl : lv_has ls 7 []) : W p l e (zR 3 70) s m args below meth c H locs 0 0 (zQi (mG D cs ad) q below args s) (F0 m 224 ls []) := by
  unfold n_X12_judge_0_b224 at h
  obtain ⟨hx, hb, hml, hown, hts, hret, hlk⟩ := id C
  refine lv_iconst (v := 0) hx hb dX12_judge_224 (by decide) ?_
  exact w_X12_judge_0_b225 (F := F) C h hW (lv_sub hl [] rfl)
def n_X12_judge_0_b184 (F : Nat) (rc133 : Zs → Int32 → Int32 → Int32 → Option (Int32 × Zs)) (S : Zs) (x4 : Int32) (x6 : Int32) (t0 : Int32) (t1 : Int32) : Option (Int32 × Zs) :=
  zlet (t1 ||| t0) (fun v1 => zlet (x6 + (1 : Int32)) (fun v2 => rc133 S x4 v1 v2))
set_option maxRecDepth 20000 in
set_option maxHeartbeats 4000000 in
theorem w_X12_judge_0_b184 {F : Nat} {q : (Int32 × Zs)} {S : Zs} {rc133 : Zs → Int32 → Int32 → Int32 → Option (Int32 × Zs)} {x4 : Int32} {x6 : Int32} {t0 : Int32} {t1 : Int32} {ls : Array Slot} {H : Heap} {locs : List Loc} (C : zC p s m args meth c cX12_judge 7 RX12 (some .int)) (hrc133 : ∀ (S : Zs) (x4 : Int32) (x5 : Int32) (x6 : Int32) (H : Heap) (locs : List Loc) (ls : Array Slot), rc133 S x4 x5 x6 = some q → zW (mG D cs ad) s S H locs → lv_has ls 7 [(0, .ref (ad 0)), (4, .int x4), (5, .int x5), (6, .int x6)] → W p l e (zR 3 70) s m args below meth c H locs 0 0 (zQi (mG D cs ad) q below args s) (F0 m 133 ls [])) (h : n_X12_judge_0_b184 F rc133 S x4 x6 t0 t1 = some q) (hW : zW (mG D cs ad) s S H locs) (hl : lv_has ls 7 [(0, .ref (ad 0)), (4, .int x4), (6, .int x6)]) : W p l e (zR 3 70) s m args below meth c H locs 0 0 (zQi (mG D cs ad) q below args s) (F0 m 184 ls [.int t0, .int t1]) := by
  unfold n_X12_judge_0_b184 at h
  obtain ⟨hx, hb, hml, hown, hts, hret, hlk⟩ := id C
  refine lv_ior hx hb dX12_judge_184 ?_
  refine zz_leti h (fun v1 h => ?_)
  refine lv_istore (lv' := [(5, .int v1), (0, .ref (ad 0)), (4, .int x4), (6, .int x6)]) hx hb dX12_judge_185 hl (by decide) rfl (fun ls hl => ?_)
  obtain ⟨v2, ev2, h⟩ := zz_name h
  refine lv_iinc (v := v2) (lv' := [(6, .int v2), (5, .int v1), (0, .ref (ad 0)), (4, .int x4)]) hx hb dX12_judge_187 hl (k := 3) rfl ev2.symm (by decide) rfl (fun ls hl => ?_)
  refine lv_goto (tgt := 133) hx hb dX12_judge_190 (by decide) ?_
  exact hrc133 _ _ _ _ _ _ _ h hW (lv_sub hl [2, 3, 1, 0] rfl)
def n_X12_judge_0_b183 (F : Nat) (rc133 : Zs → Int32 → Int32 → Int32 → Option (Int32 × Zs)) (S : Zs) (x4 : Int32) (x6 : Int32) (t0 : Int32) : Option (Int32 × Zs) :=
  n_X12_judge_0_b184 F rc133 S x4 x6 (0 : Int32) t0
set_option maxRecDepth 20000 in
set_option maxHeartbeats 4000000 in
theorem w_X12_judge_0_b183 {F : Nat} {q : (Int32 × Zs)} {S : Zs} {rc133 : Zs → Int32 → Int32 → Int32 → Option (Int32 × Zs)} {x4 : Int32} {x6 : Int32} {t0 : Int32} {ls : Array Slot} {H : Heap} {locs : List Loc} (C : zC p s m args meth c cX12_judge 7 RX12 (some .int)) (hrc133 : ∀ (S : Zs) (x4 : Int32) (x5 : Int32) (x6 : Int32) (H : Heap) (locs : List Loc) (ls : Array Slot), rc133 S x4 x5 x6 = some q → zW (mG D cs ad) s S H locs → lv_has ls 7 [(0, .ref (ad 0)), (4, .int x4), (5, .int x5), (6, .int x6)] → W p l e (zR 3 70) s m args below meth c H locs 0 0 (zQi (mG D cs ad) q below args s) (F0 m 133 ls [])) (h : n_X12_judge_0_b183 F rc133 S x4 x6 t0 = some q) (hW : zW (mG D cs ad) s S H locs) (hl : lv_has ls 7 [(0, .ref (ad 0)), (4, .int x4), (6, .int x6)]) : W p l e (zR 3 70) s m args below meth c H locs 0 0 (zQi (mG D cs ad) q below args s) (F0 m 183 ls [.int t0]) := by
  unfold n_X12_judge_0_b183 at h
  obtain ⟨hx, hb, hml, hown, hts, hret, hlk⟩ := id C
  refine lv_iconst (v := 0) hx hb dX12_judge_183 (by decide) ?_
  exact w_X12_judge_0_b184 (F := F) C hrc133 h hW (lv_sub hl [0, 1, 2] rfl)
def n_X12_judge_0_b133_l (F : Nat) (rc133 : Zs → Int32 → Int32 → Int32 → Option (Int32 × Zs)) (S : Zs) (x4 : Int32) (x5 : Int32) (x6 : Int32) : Option (Int32 × Zs) :=
  if (12 : Int32) ≤ x6 then (zpf S 1 (0 : Int32) (fun S1 => zcl (n_X12_enters_0 F S1 x4) (fun v3 S2 => zcl (n_X12_enters_0 F S2 x5) (fun v5 S4 => if x4 = 0 then (if x5 = 0 then (n_X12_judge_0_b225 F  S4 (1 : Int32)) else (n_X12_judge_0_b224 F  S4 )) else (n_X12_judge_0_b224 F  S4 ))))) else (zgf S 8 (fun v6 => zcl (n_X12_has F S v6 x6) (fun v8 S7 => if v8 = 0 then (n_X12_judge_0_b183 F rc133 S7 x4 x6 x5) else (zcl (n_X12_codeOf F S7 (2 : Int32) ((2 : Int32) * x6) ((2 : Int32) * x6)) (fun v10 S9 => zcl (n_X12_isTrue_13 F S9 v10) (fun v12 S11 => if v12 = 0 then (n_X12_judge_0_b184 F rc133 S11 x4 x6 ((1 : Int32) <<< (x6 &&& 31)) x5) else (n_X12_judge_0_b183 F rc133 S11 x4 x6 x5)))))))
set_option maxRecDepth 20000 in
set_option maxHeartbeats 4000000 in
theorem w_X12_judge_0_b133_l {F : Nat} {q : (Int32 × Zs)} {S : Zs} {rc133 : Zs → Int32 → Int32 → Int32 → Option (Int32 × Zs)} {x4 : Int32} {x5 : Int32} {x6 : Int32} {ls : Array Slot} {H : Heap} {locs : List Loc} (C : zC p s m args meth c cX12_judge 7 RX12 (some .int)) (hrc133 : ∀ (S : Zs) (x4 : Int32) (x5 : Int32) (x6 : Int32) (H : Heap) (locs : List Loc) (ls : Array Slot), rc133 S x4 x5 x6 = some q → zW (mG D cs ad) s S H locs → lv_has ls 7 [(0, .ref (ad 0)), (4, .int x4), (5, .int x5), (6, .int x6)] → W p l e (zR 3 70) s m args below meth c H locs 0 0 (zQi (mG D cs ad) q below args s) (F0 m 133 ls [])) (h : n_X12_judge_0_b133_l F rc133 S x4 x5 x6 = some q) (hW : zW (mG D cs ad) s S H locs) (hl : lv_has ls 7 [(0, .ref (ad 0)), (4, .int x4), (5, .int x5), (6, .int x6)]) : W p l e (zR 3 70) s m args below meth c H locs 0 0 (zQi (mG D cs ad) q below args s) (F0 m 133 ls []) := by
  unfold n_X12_judge_0_b133_l at h
  obtain ⟨hx, hb, hml, hown, hts, hret, hlk⟩ := id C
  refine lv_iload hx hb dX12_judge_133 (lv_at hl 3 rfl) ?_
  refine lv_bipush (v := 12) hx hb dX12_judge_135 (by decide) ?_
  refine zz_cge (tgt := 193) C h dX12_judge_137 (by decide) (fun h => ?_) (fun h => ?_)
  · refine lv_aload_n hx hb dX12_judge_193 rfl (lv_at hl 0 rfl) ?_
    refine lv_iconst (v := 0) hx hb dX12_judge_194 (by decide) ?_
    refine mp_0_1 C hW h fl_X12_11 dX12_judge_195 (fun S1 H locs h hW => ?_)
    refine lv_aload_n hx hb dX12_judge_198 rfl (lv_at hl 0 rfl) ?_
    refine lv_iload hx hb dX12_judge_199 (lv_at hl 1 rfl) ?_
    refine zz_callVv (As := [.int x4]) C hW h (fun r hr => c_X12_enters_0 hr) lk_X12_221 (hW.recv mr_0) rfl hl.1 ⟨rfl, rfl⟩ ⟨Nat.le_of_ble_eq_true rfl, Nat.le_of_ble_eq_true rfl⟩ (Nat.le_of_ble_eq_true rfl) ⟨Nat.zero_le _, Nat.zero_le _⟩ rfl dX12_judge_201 (fun v3 S2 H locs h hW => ?_)
    refine lv_aload_n hx hb dX12_judge_204 rfl (lv_at hl 0 rfl) ?_
    refine lv_iload hx hb dX12_judge_205 (lv_at hl 2 rfl) ?_
    refine zz_callVv (As := [.int x5]) C hW h (fun r hr => c_X12_enters_0 hr) lk_X12_221 (hW.recv mr_0) rfl hl.1 ⟨rfl, rfl⟩ ⟨Nat.le_of_ble_eq_true rfl, Nat.le_of_ble_eq_true rfl⟩ (Nat.le_of_ble_eq_true rfl) ⟨Nat.zero_le _, Nat.zero_le _⟩ rfl dX12_judge_207 (fun v5 S4 H locs h hW => ?_)
    refine lv_iload hx hb dX12_judge_210 (lv_at hl 1 rfl) ?_
    refine zz_ine (tgt := 224) C h dX12_judge_212 (by decide) (fun h => ?_) (fun h => ?_)
    · exact w_X12_judge_0_b224 (F := F) C h hW (lv_sub hl [] rfl)
    · refine lv_iload hx hb dX12_judge_215 (lv_at hl 2 rfl) ?_
      refine zz_ine (tgt := 224) C h dX12_judge_217 (by decide) (fun h => ?_) (fun h => ?_)
      · exact w_X12_judge_0_b224 (F := F) C h hW (lv_sub hl [] rfl)
      · refine lv_iconst (v := 1) hx hb dX12_judge_220 (by decide) ?_
        refine lv_goto (tgt := 225) hx hb dX12_judge_221 (by decide) ?_
        exact w_X12_judge_0_b225 (F := F) C h hW (lv_sub hl [] rfl)
  · refine lv_iload hx hb dX12_judge_140 (lv_at hl 2 rfl) ?_
    refine lv_aload_n hx hb dX12_judge_142 rfl (lv_at hl 0 rfl) ?_
    refine mg_0_8 C hW h fl_X12_139 dX12_judge_143 (fun v6 h => ?_)
    refine lv_iload hx hb dX12_judge_146 (lv_at hl 3 rfl) ?_
    refine zz_callSi (As := [.int v6, .int x6]) C hW h (fun r hr => c_X12_has hr) lk_X12_129 rfl hl.1 ⟨rfl, rfl⟩ ⟨Nat.le_of_ble_eq_true rfl, Nat.le_of_ble_eq_true rfl⟩ (Nat.le_of_ble_eq_true rfl) ⟨Nat.zero_le _, Nat.zero_le _⟩ rfl dX12_judge_148 (fun v8 S7 H locs h hW => ?_)
    refine zz_ieq (tgt := 183) C h dX12_judge_151 (by decide) (fun h => ?_) (fun h => ?_)
    · exact w_X12_judge_0_b183 (F := F) C hrc133 h hW (lv_sub hl [0, 1, 3] rfl)
    · refine lv_iconst (v := 2) hx hb dX12_judge_154 (by decide) ?_
      refine lv_iconst (v := 2) hx hb dX12_judge_155 (by decide) ?_
      refine lv_iload hx hb dX12_judge_156 (lv_at hl 3 rfl) ?_
      refine lv_imul hx hb dX12_judge_158 ?_
      refine lv_iconst (v := 2) hx hb dX12_judge_159 (by decide) ?_
      refine lv_iload hx hb dX12_judge_160 (lv_at hl 3 rfl) ?_
      refine lv_imul hx hb dX12_judge_162 ?_
      refine zz_callSi (As := [.int (2 : Int32), .int ((2 : Int32) * x6), .int ((2 : Int32) * x6)]) C hW h (fun r hr => c_X12_codeOf hr) lk_X12_30 rfl hl.1 ⟨rfl, rfl⟩ ⟨Nat.le_of_ble_eq_true rfl, Nat.le_of_ble_eq_true rfl⟩ (Nat.le_of_ble_eq_true rfl) ⟨Nat.zero_le _, Nat.zero_le _⟩ rfl dX12_judge_163 (fun v10 S9 H locs h hW => ?_)
      refine lv_aload_n hx hb dX12_judge_166 rfl (lv_at hl 0 rfl) ?_
      refine mg_0_27 C hW fl_X12_300 dX12_judge_167 ?_
      refine zz_callSi (As := [.int v10, .ref (ad 13)]) C hW h (fun r hr => c_X12_isTrue_13 hr) lk_X12_303 rfl hl.1 ⟨rfl, rfl⟩ ⟨Nat.le_of_ble_eq_true rfl, Nat.le_of_ble_eq_true rfl⟩ (Nat.le_of_ble_eq_true rfl) ⟨Nat.zero_le _, Nat.zero_le _⟩ rfl dX12_judge_170 (fun v12 S11 H locs h hW => ?_)
      refine zz_ine (tgt := 183) C h dX12_judge_173 (by decide) (fun h => ?_) (fun h => ?_)
      · exact w_X12_judge_0_b183 (F := F) C hrc133 h hW (lv_sub hl [0, 1, 3] rfl)
      · refine lv_iconst (v := 1) hx hb dX12_judge_176 (by decide) ?_
        refine lv_iload hx hb dX12_judge_177 (lv_at hl 3 rfl) ?_
        refine lv_ishl hx hb dX12_judge_179 ?_
        refine lv_goto (tgt := 184) hx hb dX12_judge_180 (by decide) ?_
        exact w_X12_judge_0_b184 (F := F) C hrc133 h hW (lv_sub hl [0, 1, 3] rfl)
def n_X12_judge_0_b133 (F : Nat)  (S : Zs) (x4 : Int32) (x5 : Int32) (x6 : Int32) : Option (Int32 × Zs) :=
  zfix (fun (rc : (Zs × Int32 × Int32 × Int32) → Option (Int32 × Zs)) (u : (Zs × Int32 × Int32 × Int32)) => n_X12_judge_0_b133_l F  (fun S x4 x5 x6 => rc (S, x4, x5, x6)) u.1 u.2.1 u.2.2.1 u.2.2.2) F (S, x4, x5, x6)
theorem w_X12_judge_0_b133 {F : Nat} {q : (Int32 × Zs)}  (C : zC p s m args meth c cX12_judge 7 RX12 (some .int))  : ∀ (n : Nat) (S : Zs) (x4 : Int32) (x5 : Int32) (x6 : Int32) (H : Heap) (locs : List Loc) (ls : Array Slot), zfix (fun (rc : (Zs × Int32 × Int32 × Int32) → Option (Int32 × Zs)) (u : (Zs × Int32 × Int32 × Int32)) => n_X12_judge_0_b133_l F  (fun S x4 x5 x6 => rc (S, x4, x5, x6)) u.1 u.2.1 u.2.2.1 u.2.2.2) n (S, x4, x5, x6) = some q → zW (mG D cs ad) s S H locs → lv_has ls 7 [(0, .ref (ad 0)), (4, .int x4), (5, .int x5), (6, .int x6)] → W p l e (zR 3 70) s m args below meth c H locs 0 0 (zQi (mG D cs ad) q below args s) (F0 m 133 ls []) := by
  intro n
  induction n with
  | zero => intro S x4 x5 x6 H locs ls h; exact absurd h (fun h => by cases h)
  | succ n ih => intro S x4 x5 x6 H locs ls h hW hl; exact w_X12_judge_0_b133_l (F := F) C (fun S x4 x5 x6 H locs ls h hW hl => ih S x4 x5 x6 H locs ls h hW hl) h hW hl
def n_X12_judge_0_b118 (F : Nat) (rc70 : Zs → Int32 → Int32 → Option (Int32 × Zs)) (S : Zs) (x5 : Int32) (t0 : Int32) (t1 : Int32) : Option (Int32 × Zs) :=
  zlet (t1 ||| t0) (fun v1 => zlet (x5 + (1 : Int32)) (fun v2 => rc70 S v1 v2))
set_option maxRecDepth 20000 in
set_option maxHeartbeats 4000000 in
theorem w_X12_judge_0_b118 {F : Nat} {q : (Int32 × Zs)} {S : Zs} {rc70 : Zs → Int32 → Int32 → Option (Int32 × Zs)} {x5 : Int32} {t0 : Int32} {t1 : Int32} {ls : Array Slot} {H : Heap} {locs : List Loc} (C : zC p s m args meth c cX12_judge 7 RX12 (some .int)) (hrc70 : ∀ (S : Zs) (x4 : Int32) (x5 : Int32) (H : Heap) (locs : List Loc) (ls : Array Slot), rc70 S x4 x5 = some q → zW (mG D cs ad) s S H locs → lv_has ls 7 [(0, .ref (ad 0)), (4, .int x4), (5, .int x5)] → W p l e (zR 3 70) s m args below meth c H locs 0 0 (zQi (mG D cs ad) q below args s) (F0 m 70 ls [])) (h : n_X12_judge_0_b118 F rc70 S x5 t0 t1 = some q) (hW : zW (mG D cs ad) s S H locs) (hl : lv_has ls 7 [(0, .ref (ad 0)), (5, .int x5)]) : W p l e (zR 3 70) s m args below meth c H locs 0 0 (zQi (mG D cs ad) q below args s) (F0 m 118 ls [.int t0, .int t1]) := by
  unfold n_X12_judge_0_b118 at h
  obtain ⟨hx, hb, hml, hown, hts, hret, hlk⟩ := id C
  refine lv_ior hx hb dX12_judge_118 ?_
  refine zz_leti h (fun v1 h => ?_)
  refine lv_istore (lv' := [(4, .int v1), (0, .ref (ad 0)), (5, .int x5)]) hx hb dX12_judge_119 hl (by decide) rfl (fun ls hl => ?_)
  obtain ⟨v2, ev2, h⟩ := zz_name h
  refine lv_iinc (v := v2) (lv' := [(5, .int v2), (4, .int v1), (0, .ref (ad 0))]) hx hb dX12_judge_121 hl (k := 2) rfl ev2.symm (by decide) rfl (fun ls hl => ?_)
  refine lv_goto (tgt := 70) hx hb dX12_judge_124 (by decide) ?_
  exact hrc70 _ _ _ _ _ _ h hW (lv_sub hl [2, 1, 0] rfl)
def n_X12_judge_0_b117 (F : Nat) (rc70 : Zs → Int32 → Int32 → Option (Int32 × Zs)) (S : Zs) (x5 : Int32) (t0 : Int32) : Option (Int32 × Zs) :=
  n_X12_judge_0_b118 F rc70 S x5 (0 : Int32) t0
set_option maxRecDepth 20000 in
set_option maxHeartbeats 4000000 in
theorem w_X12_judge_0_b117 {F : Nat} {q : (Int32 × Zs)} {S : Zs} {rc70 : Zs → Int32 → Int32 → Option (Int32 × Zs)} {x5 : Int32} {t0 : Int32} {ls : Array Slot} {H : Heap} {locs : List Loc} (C : zC p s m args meth c cX12_judge 7 RX12 (some .int)) (hrc70 : ∀ (S : Zs) (x4 : Int32) (x5 : Int32) (H : Heap) (locs : List Loc) (ls : Array Slot), rc70 S x4 x5 = some q → zW (mG D cs ad) s S H locs → lv_has ls 7 [(0, .ref (ad 0)), (4, .int x4), (5, .int x5)] → W p l e (zR 3 70) s m args below meth c H locs 0 0 (zQi (mG D cs ad) q below args s) (F0 m 70 ls [])) (h : n_X12_judge_0_b117 F rc70 S x5 t0 = some q) (hW : zW (mG D cs ad) s S H locs) (hl : lv_has ls 7 [(0, .ref (ad 0)), (5, .int x5)]) : W p l e (zR 3 70) s m args below meth c H locs 0 0 (zQi (mG D cs ad) q below args s) (F0 m 117 ls [.int t0]) := by
  unfold n_X12_judge_0_b117 at h
  obtain ⟨hx, hb, hml, hown, hts, hret, hlk⟩ := id C
  refine lv_iconst (v := 0) hx hb dX12_judge_117 (by decide) ?_
  exact w_X12_judge_0_b118 (F := F) C hrc70 h hW (lv_sub hl [0, 1] rfl)
def n_X12_judge_0_b70_l (F : Nat) (rc70 : Zs → Int32 → Int32 → Option (Int32 × Zs)) (S : Zs) (x4 : Int32) (x5 : Int32) : Option (Int32 × Zs) :=
  zgf S 3 (fun v1 => if v1 ≤ x5 then (n_X12_judge_0_b133 F  S x4 (0 : Int32) (0 : Int32)) else (zgf S 7 (fun v2 => zcl (n_X12_has F S v2 x5) (fun v4 S3 => if v4 = 0 then (zld S3 2 16 x5 (fun v5 => zcl (n_X12_isTrue_13 F S3 v5) (fun v7 S6 => if v7 = 0 then (n_X12_judge_0_b118 F rc70 S6 x5 ((1 : Int32) <<< (x5 &&& 31)) x4) else (n_X12_judge_0_b117 F rc70 S6 x5 x4)))) else (n_X12_judge_0_b117 F rc70 S3 x5 x4)))))
set_option maxRecDepth 20000 in
set_option maxHeartbeats 4000000 in
theorem w_X12_judge_0_b70_l {F : Nat} {q : (Int32 × Zs)} {S : Zs} {rc70 : Zs → Int32 → Int32 → Option (Int32 × Zs)} {x4 : Int32} {x5 : Int32} {ls : Array Slot} {H : Heap} {locs : List Loc} (C : zC p s m args meth c cX12_judge 7 RX12 (some .int)) (hrc70 : ∀ (S : Zs) (x4 : Int32) (x5 : Int32) (H : Heap) (locs : List Loc) (ls : Array Slot), rc70 S x4 x5 = some q → zW (mG D cs ad) s S H locs → lv_has ls 7 [(0, .ref (ad 0)), (4, .int x4), (5, .int x5)] → W p l e (zR 3 70) s m args below meth c H locs 0 0 (zQi (mG D cs ad) q below args s) (F0 m 70 ls [])) (h : n_X12_judge_0_b70_l F rc70 S x4 x5 = some q) (hW : zW (mG D cs ad) s S H locs) (hl : lv_has ls 7 [(0, .ref (ad 0)), (4, .int x4), (5, .int x5)]) : W p l e (zR 3 70) s m args below meth c H locs 0 0 (zQi (mG D cs ad) q below args s) (F0 m 70 ls []) := by
  unfold n_X12_judge_0_b70_l at h
  obtain ⟨hx, hb, hml, hown, hts, hret, hlk⟩ := id C
  refine lv_iload hx hb dX12_judge_70 (lv_at hl 2 rfl) ?_
  refine lv_aload_n hx hb dX12_judge_72 rfl (lv_at hl 0 rfl) ?_
  refine mg_0_3 C hW h fl_X12_105 dX12_judge_73 (fun v1 h => ?_)
  refine zz_cge (tgt := 127) C h dX12_judge_76 (by decide) (fun h => ?_) (fun h => ?_)
  · refine lv_iconst (v := 0) hx hb dX12_judge_127 (by decide) ?_
    refine lv_istore (lv' := [(5, .int (0 : Int32)), (0, .ref (ad 0)), (4, .int x4)]) hx hb dX12_judge_128 hl (by decide) rfl (fun ls hl => ?_)
    refine lv_iconst (v := 0) hx hb dX12_judge_130 (by decide) ?_
    refine lv_istore (lv' := [(6, .int (0 : Int32)), (5, .int (0 : Int32)), (0, .ref (ad 0)), (4, .int x4)]) hx hb dX12_judge_131 hl (by decide) rfl (fun ls hl => ?_)
    exact w_X12_judge_0_b133 (F := F) C F _ _ _ _ _ _ _ h hW (lv_sub hl [2, 3, 1, 0] rfl)
  · refine lv_iload hx hb dX12_judge_79 (lv_at hl 1 rfl) ?_
    refine lv_aload_n hx hb dX12_judge_81 rfl (lv_at hl 0 rfl) ?_
    refine mg_0_7 C hW h fl_X12_126 dX12_judge_82 (fun v2 h => ?_)
    refine lv_iload hx hb dX12_judge_85 (lv_at hl 2 rfl) ?_
    refine zz_callSi (As := [.int v2, .int x5]) C hW h (fun r hr => c_X12_has hr) lk_X12_129 rfl hl.1 ⟨rfl, rfl⟩ ⟨Nat.le_of_ble_eq_true rfl, Nat.le_of_ble_eq_true rfl⟩ (Nat.le_of_ble_eq_true rfl) ⟨Nat.zero_le _, Nat.zero_le _⟩ rfl dX12_judge_87 (fun v4 S3 H locs h hW => ?_)
    refine zz_ine (tgt := 117) C h dX12_judge_90 (by decide) (fun h => ?_) (fun h => ?_)
    · exact w_X12_judge_0_b117 (F := F) C hrc70 h hW (lv_sub hl [0, 2] rfl)
    · refine lv_aload_n hx hb dX12_judge_93 rfl (lv_at hl 0 rfl) ?_
      refine mg_0_4 C hW fl_X12_87 dX12_judge_94 ?_
      refine lv_iload hx hb dX12_judge_97 (lv_at hl 2 rfl) ?_
      refine ml_2 C hW h dX12_judge_99 (fun v5 h => ?_)
      refine lv_aload_n hx hb dX12_judge_100 rfl (lv_at hl 0 rfl) ?_
      refine mg_0_27 C hW fl_X12_300 dX12_judge_101 ?_
      refine zz_callSi (As := [.int v5, .ref (ad 13)]) C hW h (fun r hr => c_X12_isTrue_13 hr) lk_X12_303 rfl hl.1 ⟨rfl, rfl⟩ ⟨Nat.le_of_ble_eq_true rfl, Nat.le_of_ble_eq_true rfl⟩ (Nat.le_of_ble_eq_true rfl) ⟨Nat.zero_le _, Nat.zero_le _⟩ rfl dX12_judge_104 (fun v7 S6 H locs h hW => ?_)
      refine zz_ine (tgt := 117) C h dX12_judge_107 (by decide) (fun h => ?_) (fun h => ?_)
      · exact w_X12_judge_0_b117 (F := F) C hrc70 h hW (lv_sub hl [0, 2] rfl)
      · refine lv_iconst (v := 1) hx hb dX12_judge_110 (by decide) ?_
        refine lv_iload hx hb dX12_judge_111 (lv_at hl 2 rfl) ?_
        refine lv_ishl hx hb dX12_judge_113 ?_
        refine lv_goto (tgt := 118) hx hb dX12_judge_114 (by decide) ?_
        exact w_X12_judge_0_b118 (F := F) C hrc70 h hW (lv_sub hl [0, 2] rfl)
def n_X12_judge_0_b70 (F : Nat)  (S : Zs) (x4 : Int32) (x5 : Int32) : Option (Int32 × Zs) :=
  zfix (fun (rc : (Zs × Int32 × Int32) → Option (Int32 × Zs)) (u : (Zs × Int32 × Int32)) => n_X12_judge_0_b70_l F  (fun S x4 x5 => rc (S, x4, x5)) u.1 u.2.1 u.2.2) F (S, x4, x5)
theorem w_X12_judge_0_b70 {F : Nat} {q : (Int32 × Zs)}  (C : zC p s m args meth c cX12_judge 7 RX12 (some .int))  : ∀ (n : Nat) (S : Zs) (x4 : Int32) (x5 : Int32) (H : Heap) (locs : List Loc) (ls : Array Slot), zfix (fun (rc : (Zs × Int32 × Int32) → Option (Int32 × Zs)) (u : (Zs × Int32 × Int32)) => n_X12_judge_0_b70_l F  (fun S x4 x5 => rc (S, x4, x5)) u.1 u.2.1 u.2.2) n (S, x4, x5) = some q → zW (mG D cs ad) s S H locs → lv_has ls 7 [(0, .ref (ad 0)), (4, .int x4), (5, .int x5)] → W p l e (zR 3 70) s m args below meth c H locs 0 0 (zQi (mG D cs ad) q below args s) (F0 m 70 ls []) := by
  intro n
  induction n with
  | zero => intro S x4 x5 H locs ls h; exact absurd h (fun h => by cases h)
  | succ n ih => intro S x4 x5 H locs ls h hW hl; exact w_X12_judge_0_b70_l (F := F) C (fun S x4 x5 H locs ls h hW hl => ih S x4 x5 H locs ls h hW hl) h hW hl
def n_X12_judge_0_e (F : Nat)  (S : Zs) (x1 : Int32) (x2 : Int32) (x3 : Int32) : Option (Int32 × Zs) :=
  zpf S 0 (0 : Int32) (fun S1 => zcl (n_X12_in F S1 (x1.toInt64) (0 : Int64) (4096 : Int64)) (fun v3 S2 => if v3 = 0 then (n_X12_judge_0_b41 F  S2 ) else (zcl (n_X12_in F S2 (x2.toInt64) (0 : Int64) (4096 : Int64)) (fun v5 S4 => if v5 = 0 then (n_X12_judge_0_b41 F  S4 ) else (zcl (n_X12_in F S4 (x3.toInt64) (0 : Int64) (4096 : Int64)) (fun v7 S6 => if v7 = 0 then (n_X12_judge_0_b41 F  S6 ) else (zst S6 13 3 (0 : Int32) x1 (fun S8 => zst S8 13 3 (1 : Int32) x2 (fun S9 => zst S9 13 3 (2 : Int32) x3 (fun S10 => n_X12_judge_0_b70 F  S10 (0 : Int32) (0 : Int32)))))))))))
set_option maxRecDepth 20000 in
set_option maxHeartbeats 4000000 in
theorem w_X12_judge_0_e {F : Nat} {q : (Int32 × Zs)} {S : Zs}  {x1 : Int32} {x2 : Int32} {x3 : Int32} {ls : Array Slot} {H : Heap} {locs : List Loc} (C : zC p s m args meth c cX12_judge 7 RX12 (some .int))  (h : n_X12_judge_0_e F  S x1 x2 x3 = some q) (hW : zW (mG D cs ad) s S H locs) (hl : lv_has ls 7 [(0, .ref (ad 0)), (1, .int x1), (2, .int x2), (3, .int x3)]) : W p l e (zR 3 70) s m args below meth c H locs 0 0 (zQi (mG D cs ad) q below args s) (F0 m 0 ls []) := by
  unfold n_X12_judge_0_e at h
  obtain ⟨hx, hb, hml, hown, hts, hret, hlk⟩ := id C
  refine lv_aload_n hx hb dX12_judge_0 rfl (lv_at hl 0 rfl) ?_
  refine lv_iconst (v := 0) hx hb dX12_judge_1 (by decide) ?_
  refine mp_0_0 C hW h fl_X12_3 dX12_judge_2 (fun S1 H locs h hW => ?_)
  refine lv_iload_n hx hb dX12_judge_5 rfl (lv_at hl 1 rfl) ?_
  refine lv_i2l hx hb dX12_judge_6 rfl ?_
  refine lv_lconst (v := 0) hx hb dX12_judge_7 (by decide) ?_
  refine lv_ldc2 (v := 4096) hx hb hown (hts _ ct_X12_298) dX12_judge_8 ?_
  refine zz_callSi (As := [.long (x1.toInt64), .long (0 : Int64), .long (4096 : Int64)]) C hW h (fun r hr => c_X12_in hr) lk_X12_16 rfl hl.1 ⟨rfl, rfl⟩ ⟨Nat.le_of_ble_eq_true rfl, Nat.le_of_ble_eq_true rfl⟩ (Nat.le_of_ble_eq_true rfl) ⟨Nat.zero_le _, Nat.zero_le _⟩ rfl dX12_judge_11 (fun v3 S2 H locs h hW => ?_)
  refine zz_ieq (tgt := 41) C h dX12_judge_14 (by decide) (fun h => ?_) (fun h => ?_)
  · exact w_X12_judge_0_b41 (F := F) C h hW (lv_sub hl [] rfl)
  · refine lv_iload_n hx hb dX12_judge_17 rfl (lv_at hl 2 rfl) ?_
    refine lv_i2l hx hb dX12_judge_18 rfl ?_
    refine lv_lconst (v := 0) hx hb dX12_judge_19 (by decide) ?_
    refine lv_ldc2 (v := 4096) hx hb hown (hts _ ct_X12_298) dX12_judge_20 ?_
    refine zz_callSi (As := [.long (x2.toInt64), .long (0 : Int64), .long (4096 : Int64)]) C hW h (fun r hr => c_X12_in hr) lk_X12_16 rfl hl.1 ⟨rfl, rfl⟩ ⟨Nat.le_of_ble_eq_true rfl, Nat.le_of_ble_eq_true rfl⟩ (Nat.le_of_ble_eq_true rfl) ⟨Nat.zero_le _, Nat.zero_le _⟩ rfl dX12_judge_23 (fun v5 S4 H locs h hW => ?_)
    refine zz_ieq (tgt := 41) C h dX12_judge_26 (by decide) (fun h => ?_) (fun h => ?_)
    · exact w_X12_judge_0_b41 (F := F) C h hW (lv_sub hl [] rfl)
    · refine lv_iload_n hx hb dX12_judge_29 rfl (lv_at hl 3 rfl) ?_
      refine lv_i2l hx hb dX12_judge_30 rfl ?_
      refine lv_lconst (v := 0) hx hb dX12_judge_31 (by decide) ?_
      refine lv_ldc2 (v := 4096) hx hb hown (hts _ ct_X12_298) dX12_judge_32 ?_
      refine zz_callSi (As := [.long (x3.toInt64), .long (0 : Int64), .long (4096 : Int64)]) C hW h (fun r hr => c_X12_in hr) lk_X12_16 rfl hl.1 ⟨rfl, rfl⟩ ⟨Nat.le_of_ble_eq_true rfl, Nat.le_of_ble_eq_true rfl⟩ (Nat.le_of_ble_eq_true rfl) ⟨Nat.zero_le _, Nat.zero_le _⟩ rfl dX12_judge_35 (fun v7 S6 H locs h hW => ?_)
      refine zz_ine (tgt := 43) C h dX12_judge_38 (by decide) (fun h => ?_) (fun h => ?_)
      · refine lv_aload_n hx hb dX12_judge_43 rfl (lv_at hl 0 rfl) ?_
        refine mg_0_27 C hW fl_X12_300 dX12_judge_44 ?_
        refine lv_iconst (v := 0) hx hb dX12_judge_47 (by decide) ?_
        refine lv_iload_n hx hb dX12_judge_48 rfl (lv_at hl 1 rfl) ?_
        refine ms_13 C hW h dX12_judge_49 (fun S8 H locs h hW => ?_)
        refine lv_aload_n hx hb dX12_judge_50 rfl (lv_at hl 0 rfl) ?_
        refine mg_0_27 C hW fl_X12_300 dX12_judge_51 ?_
        refine lv_iconst (v := 1) hx hb dX12_judge_54 (by decide) ?_
        refine lv_iload_n hx hb dX12_judge_55 rfl (lv_at hl 2 rfl) ?_
        refine ms_13 C hW h dX12_judge_56 (fun S9 H locs h hW => ?_)
        refine lv_aload_n hx hb dX12_judge_57 rfl (lv_at hl 0 rfl) ?_
        refine mg_0_27 C hW fl_X12_300 dX12_judge_58 ?_
        refine lv_iconst (v := 2) hx hb dX12_judge_61 (by decide) ?_
        refine lv_iload_n hx hb dX12_judge_62 rfl (lv_at hl 3 rfl) ?_
        refine ms_13 C hW h dX12_judge_63 (fun S10 H locs h hW => ?_)
        refine lv_iconst (v := 0) hx hb dX12_judge_64 (by decide) ?_
        refine lv_istore (lv' := [(4, .int (0 : Int32)), (0, .ref (ad 0)), (1, .int x1), (2, .int x2), (3, .int x3)]) hx hb dX12_judge_65 hl (by decide) rfl (fun ls hl => ?_)
        refine lv_iconst (v := 0) hx hb dX12_judge_67 (by decide) ?_
        refine lv_istore (lv' := [(5, .int (0 : Int32)), (4, .int (0 : Int32)), (0, .ref (ad 0)), (1, .int x1), (2, .int x2), (3, .int x3)]) hx hb dX12_judge_68 hl (by decide) rfl (fun ls hl => ?_)
        exact w_X12_judge_0_b70 (F := F) C F _ _ _ _ _ _ h hW (lv_sub hl [2, 1, 0] rfl)
      · exact w_X12_judge_0_b41 (F := F) C h hW (lv_sub hl [] rfl)
def n_X12_judge_0 (F : Nat) (S : Zs) (x1 : Int32) (x2 : Int32) (x3 : Int32) : Option (Int32 × Zs) := n_X12_judge_0_e F  S x1 x2 x3
theorem c_X12_judge_0 {l : Launch} {D : va_G} {cs ad : Nat → Nat} {F : Nat} {S : Zs} {x1 : Int32} {x2 : Int32} {x3 : Int32} {q : (Int32 × Zs)} (h : n_X12_judge_0 F S x1 x2 x3 = some q) : zMi l yX12_judge cX12_judge 7 (some .int) (zR 3 70) (mG D cs ad) [.ref (ad 0), .int x1, .int x2, .int x3] S q :=
  zz_enter (by decide) (Nat.le_of_ble_eq_true rfl) (fun p e s m below meth c ls C hW hl => w_X12_judge_0_e (F := F) C h hW (lv_sub hl [0, 1, 2, 3] rfl))
def n_X12_majorX_b12 (F : Nat)  (S : Zs) (t0 : Int32) : Option (Int32 × Zs) :=
  some (t0, S)
set_option maxRecDepth 20000 in
set_option maxHeartbeats 4000000 in
theorem w_X12_majorX_b12 {F : Nat} {q : (Int32 × Zs)} {S : Zs}  {t0 : Int32} {ls : Array Slot} {H : Heap} {locs : List Loc} (C : zC p s m args meth c cX12_majorX 1 RX12 (some .int))  (h : n_X12_majorX_b12 F  S t0 = some q) (hW : zW (mG D cs ad) s S H locs) (hl : lv_has ls 1 []) : W p l e (zR 0 0) s m args below meth c H locs 0 0 (zQi (mG D cs ad) q below args s) (F0 m 12 ls [.int t0]) := by
  unfold n_X12_majorX_b12 at h
  obtain ⟨hx, hb, hml, hown, hts, hret, hlk⟩ := id C
  exact zz_iret C rfl h hW dX12_majorX_12
def n_X12_majorX_e (F : Nat)  (S : Zs) (x0 : Int32) : Option (Int32 × Zs) :=
  if (x0 - x0 / (2 : Int32) * (2 : Int32)) = (1 : Int32) then (n_X12_majorX_b12 F  S (2 : Int32)) else (n_X12_majorX_b12 F  S (4 : Int32))
set_option maxRecDepth 20000 in
set_option maxHeartbeats 4000000 in
theorem w_X12_majorX_e {F : Nat} {q : (Int32 × Zs)} {S : Zs}  {x0 : Int32} {ls : Array Slot} {H : Heap} {locs : List Loc} (C : zC p s m args meth c cX12_majorX 1 RX12 (some .int))  (h : n_X12_majorX_e F  S x0 = some q) (hW : zW (mG D cs ad) s S H locs) (hl : lv_has ls 1 [(0, .int x0)]) : W p l e (zR 0 0) s m args below meth c H locs 0 0 (zQi (mG D cs ad) q below args s) (F0 m 0 ls []) := by
  unfold n_X12_majorX_e at h
  obtain ⟨hx, hb, hml, hown, hts, hret, hlk⟩ := id C
  refine lv_iload_n hx hb dX12_majorX_0 rfl (lv_at hl 0 rfl) ?_
  refine lv_iconst (v := 2) hx hb dX12_majorX_1 (by decide) ?_
  refine lv_irem hx hb dX12_majorX_2 (by decide) ?_
  refine lv_iconst (v := 1) hx hb dX12_majorX_3 (by decide) ?_
  refine zz_cne (tgt := 11) C h dX12_majorX_4 (by decide) (fun h => ?_) (fun h => ?_)
  · refine lv_iconst (v := 4) hx hb dX12_majorX_11 (by decide) ?_
    exact w_X12_majorX_b12 (F := F) C h hW (lv_sub hl [] rfl)
  · refine lv_iconst (v := 2) hx hb dX12_majorX_7 (by decide) ?_
    refine lv_goto (tgt := 12) hx hb dX12_majorX_8 (by decide) ?_
    exact w_X12_majorX_b12 (F := F) C h hW (lv_sub hl [] rfl)
def n_X12_majorX (F : Nat) (S : Zs) (x0 : Int32) : Option (Int32 × Zs) := n_X12_majorX_e F  S x0
theorem c_X12_majorX {l : Launch} {D : va_G} {cs ad : Nat → Nat} {F : Nat} {S : Zs} {x0 : Int32} {q : (Int32 × Zs)} (h : n_X12_majorX F S x0 = some q) : zMi l yX12_majorX cX12_majorX 1 (some .int) (zR 0 0) (mG D cs ad) [.int x0] S q :=
  zz_enter (by decide) (Nat.le_of_ble_eq_true rfl) (fun p e s m below meth c ls C hW hl => w_X12_majorX_e (F := F) C h hW (lv_sub hl [0] rfl))
def n_X12_majorY_b12 (F : Nat)  (S : Zs) (t0 : Int32) : Option (Int32 × Zs) :=
  some (t0, S)
set_option maxRecDepth 20000 in
set_option maxHeartbeats 4000000 in
theorem w_X12_majorY_b12 {F : Nat} {q : (Int32 × Zs)} {S : Zs}  {t0 : Int32} {ls : Array Slot} {H : Heap} {locs : List Loc} (C : zC p s m args meth c cX12_majorY 1 RX12 (some .int))  (h : n_X12_majorY_b12 F  S t0 = some q) (hW : zW (mG D cs ad) s S H locs) (hl : lv_has ls 1 []) : W p l e (zR 0 0) s m args below meth c H locs 0 0 (zQi (mG D cs ad) q below args s) (F0 m 12 ls [.int t0]) := by
  unfold n_X12_majorY_b12 at h
  obtain ⟨hx, hb, hml, hown, hts, hret, hlk⟩ := id C
  exact zz_iret C rfl h hW dX12_majorY_12
def n_X12_majorY_e (F : Nat)  (S : Zs) (x0 : Int32) : Option (Int32 × Zs) :=
  if (x0 - x0 / (2 : Int32) * (2 : Int32)) = (1 : Int32) then (n_X12_majorY_b12 F  S (4 : Int32)) else (n_X12_majorY_b12 F  S (2 : Int32))
set_option maxRecDepth 20000 in
set_option maxHeartbeats 4000000 in
theorem w_X12_majorY_e {F : Nat} {q : (Int32 × Zs)} {S : Zs}  {x0 : Int32} {ls : Array Slot} {H : Heap} {locs : List Loc} (C : zC p s m args meth c cX12_majorY 1 RX12 (some .int))  (h : n_X12_majorY_e F  S x0 = some q) (hW : zW (mG D cs ad) s S H locs) (hl : lv_has ls 1 [(0, .int x0)]) : W p l e (zR 0 0) s m args below meth c H locs 0 0 (zQi (mG D cs ad) q below args s) (F0 m 0 ls []) := by
  unfold n_X12_majorY_e at h
  obtain ⟨hx, hb, hml, hown, hts, hret, hlk⟩ := id C
  refine lv_iload_n hx hb dX12_majorY_0 rfl (lv_at hl 0 rfl) ?_
  refine lv_iconst (v := 2) hx hb dX12_majorY_1 (by decide) ?_
  refine lv_irem hx hb dX12_majorY_2 (by decide) ?_
  refine lv_iconst (v := 1) hx hb dX12_majorY_3 (by decide) ?_
  refine zz_cne (tgt := 11) C h dX12_majorY_4 (by decide) (fun h => ?_) (fun h => ?_)
  · refine lv_iconst (v := 2) hx hb dX12_majorY_11 (by decide) ?_
    exact w_X12_majorY_b12 (F := F) C h hW (lv_sub hl [] rfl)
  · refine lv_iconst (v := 4) hx hb dX12_majorY_7 (by decide) ?_
    refine lv_goto (tgt := 12) hx hb dX12_majorY_8 (by decide) ?_
    exact w_X12_majorY_b12 (F := F) C h hW (lv_sub hl [] rfl)
def n_X12_majorY (F : Nat) (S : Zs) (x0 : Int32) : Option (Int32 × Zs) := n_X12_majorY_e F  S x0
theorem c_X12_majorY {l : Launch} {D : va_G} {cs ad : Nat → Nat} {F : Nat} {S : Zs} {x0 : Int32} {q : (Int32 × Zs)} (h : n_X12_majorY F S x0 = some q) : zMi l yX12_majorY cX12_majorY 1 (some .int) (zR 0 0) (mG D cs ad) [.int x0] S q :=
  zz_enter (by decide) (Nat.le_of_ble_eq_true rfl) (fun p e s m below meth c ls C hW hl => w_X12_majorY_e (F := F) C h hW (lv_sub hl [0] rfl))
def n_X12_minorX_b10 (F : Nat)  (S : Zs) (t0 : Int32) : Option (Int32 × Zs) :=
  some (t0, S)
set_option maxRecDepth 20000 in
set_option maxHeartbeats 4000000 in
theorem w_X12_minorX_b10 {F : Nat} {q : (Int32 × Zs)} {S : Zs}  {t0 : Int32} {ls : Array Slot} {H : Heap} {locs : List Loc} (C : zC p s m args meth c cX12_minorX 1 RX12 (some .int))  (h : n_X12_minorX_b10 F  S t0 = some q) (hW : zW (mG D cs ad) s S H locs) (hl : lv_has ls 1 []) : W p l e (zR 0 0) s m args below meth c H locs 0 0 (zQi (mG D cs ad) q below args s) (F0 m 10 ls [.int t0]) := by
  unfold n_X12_minorX_b10 at h
  obtain ⟨hx, hb, hml, hown, hts, hret, hlk⟩ := id C
  exact zz_iret C rfl h hW dX12_minorX_10
def n_X12_minorX_e (F : Nat)  (S : Zs) (x0 : Int32) : Option (Int32 × Zs) :=
  if (3 : Int32) ≤ x0 then (n_X12_minorX_b10 F  S (2 : Int32)) else (n_X12_minorX_b10 F  S (0 : Int32))
set_option maxRecDepth 20000 in
set_option maxHeartbeats 4000000 in
theorem w_X12_minorX_e {F : Nat} {q : (Int32 × Zs)} {S : Zs}  {x0 : Int32} {ls : Array Slot} {H : Heap} {locs : List Loc} (C : zC p s m args meth c cX12_minorX 1 RX12 (some .int))  (h : n_X12_minorX_e F  S x0 = some q) (hW : zW (mG D cs ad) s S H locs) (hl : lv_has ls 1 [(0, .int x0)]) : W p l e (zR 0 0) s m args below meth c H locs 0 0 (zQi (mG D cs ad) q below args s) (F0 m 0 ls []) := by
  unfold n_X12_minorX_e at h
  obtain ⟨hx, hb, hml, hown, hts, hret, hlk⟩ := id C
  refine lv_iload_n hx hb dX12_minorX_0 rfl (lv_at hl 0 rfl) ?_
  refine lv_iconst (v := 3) hx hb dX12_minorX_1 (by decide) ?_
  refine zz_cge (tgt := 9) C h dX12_minorX_2 (by decide) (fun h => ?_) (fun h => ?_)
  · refine lv_iconst (v := 2) hx hb dX12_minorX_9 (by decide) ?_
    exact w_X12_minorX_b10 (F := F) C h hW (lv_sub hl [] rfl)
  · refine lv_iconst (v := 0) hx hb dX12_minorX_5 (by decide) ?_
    refine lv_goto (tgt := 10) hx hb dX12_minorX_6 (by decide) ?_
    exact w_X12_minorX_b10 (F := F) C h hW (lv_sub hl [] rfl)
def n_X12_minorX (F : Nat) (S : Zs) (x0 : Int32) : Option (Int32 × Zs) := n_X12_minorX_e F  S x0
theorem c_X12_minorX {l : Launch} {D : va_G} {cs ad : Nat → Nat} {F : Nat} {S : Zs} {x0 : Int32} {q : (Int32 × Zs)} (h : n_X12_minorX F S x0 = some q) : zMi l yX12_minorX cX12_minorX 1 (some .int) (zR 0 0) (mG D cs ad) [.int x0] S q :=
  zz_enter (by decide) (Nat.le_of_ble_eq_true rfl) (fun p e s m below meth c ls C hW hl => w_X12_minorX_e (F := F) C h hW (lv_sub hl [0] rfl))
def n_X12_minorY_b10 (F : Nat)  (S : Zs) (t0 : Int32) : Option (Int32 × Zs) :=
  some (t0, S)
set_option maxRecDepth 20000 in
set_option maxHeartbeats 4000000 in
theorem w_X12_minorY_b10 {F : Nat} {q : (Int32 × Zs)} {S : Zs}  {t0 : Int32} {ls : Array Slot} {H : Heap} {locs : List Loc} (C : zC p s m args meth c cX12_minorY 1 RX12 (some .int))  (h : n_X12_minorY_b10 F  S t0 = some q) (hW : zW (mG D cs ad) s S H locs) (hl : lv_has ls 1 []) : W p l e (zR 0 0) s m args below meth c H locs 0 0 (zQi (mG D cs ad) q below args s) (F0 m 10 ls [.int t0]) := by
  unfold n_X12_minorY_b10 at h
  obtain ⟨hx, hb, hml, hown, hts, hret, hlk⟩ := id C
  exact zz_iret C rfl h hW dX12_minorY_10
def n_X12_minorY_e (F : Nat)  (S : Zs) (x0 : Int32) : Option (Int32 × Zs) :=
  if (3 : Int32) ≤ x0 then (n_X12_minorY_b10 F  S (0 : Int32)) else (n_X12_minorY_b10 F  S (2 : Int32))
set_option maxRecDepth 20000 in
set_option maxHeartbeats 4000000 in
theorem w_X12_minorY_e {F : Nat} {q : (Int32 × Zs)} {S : Zs}  {x0 : Int32} {ls : Array Slot} {H : Heap} {locs : List Loc} (C : zC p s m args meth c cX12_minorY 1 RX12 (some .int))  (h : n_X12_minorY_e F  S x0 = some q) (hW : zW (mG D cs ad) s S H locs) (hl : lv_has ls 1 [(0, .int x0)]) : W p l e (zR 0 0) s m args below meth c H locs 0 0 (zQi (mG D cs ad) q below args s) (F0 m 0 ls []) := by
  unfold n_X12_minorY_e at h
  obtain ⟨hx, hb, hml, hown, hts, hret, hlk⟩ := id C
  refine lv_iload_n hx hb dX12_minorY_0 rfl (lv_at hl 0 rfl) ?_
  refine lv_iconst (v := 3) hx hb dX12_minorY_1 (by decide) ?_
  refine zz_cge (tgt := 9) C h dX12_minorY_2 (by decide) (fun h => ?_) (fun h => ?_)
  · refine lv_iconst (v := 0) hx hb dX12_minorY_9 (by decide) ?_
    exact w_X12_minorY_b10 (F := F) C h hW (lv_sub hl [] rfl)
  · refine lv_iconst (v := 2) hx hb dX12_minorY_5 (by decide) ?_
    refine lv_goto (tgt := 10) hx hb dX12_minorY_6 (by decide) ?_
    exact w_X12_minorY_b10 (F := F) C h hW (lv_sub hl [] rfl)
def n_X12_minorY (F : Nat) (S : Zs) (x0 : Int32) : Option (Int32 × Zs) := n_X12_minorY_e F  S x0
theorem c_X12_minorY {l : Launch} {D : va_G} {cs ad : Nat → Nat} {F : Nat} {S : Zs} {x0 : Int32} {q : (Int32 × Zs)} (h : n_X12_minorY F S x0 = some q) : zMi l yX12_minorY cX12_minorY 1 (some .int) (zR 0 0) (mG D cs ad) [.int x0] S q :=
  zz_enter (by decide) (Nat.le_of_ble_eq_true rfl) (fun p e s m below meth c ls C hW hl => w_X12_minorY_e (F := F) C h hW (lv_sub hl [0] rfl))
def n_X12_isTrueOf_b93 (F : Nat)  (S : Zs) (t0 : Int32) : Option (Int32 × Zs) :=
  zrb t0 S
set_option maxRecDepth 20000 in
set_option maxHeartbeats 4000000 in
theorem w_X12_isTrueOf_b93 {F : Nat} {q : (Int32 × Zs)} {S : Zs}  {t0 : Int32} {ls : Array Slot} {H : Heap} {locs : List Loc} (C : zC p s m args meth c cX12_isTrueOf 6 RX12 (some .boolean))  (h : n_X12_isTrueOf_b93 F  S t0 = some q) (hW : zW (mG D cs ad) s S H locs) (hl : lv_has ls 6 []) : W p l e (zR 2 42) s m args below meth c H locs 0 0 (zQi (mG D cs ad) q below args s) (F0 m 93 ls [.int t0]) := by
  unfold n_X12_isTrueOf_b93 at h
  obtain ⟨hx, hb, hml, hown, hts, hret, hlk⟩ := id C
  exact zz_zret C rfl h hW dX12_isTrueOf_93
def n_X12_isTrueOf_b65 (F : Nat) (rc6 : Zs → Int32 → Int32 → Int32 → Int32 → Int32 → Int32 → Option (Int32 × Zs)) (S : Zs) (x0 : Int32) (x1 : Int32) (x2 : Int32) (x3 : Int32) (x5 : Int32) (t0 : Int32) : Option (Int32 × Zs) :=
  zlet (x5 + (1 : Int32)) (fun v1 => rc6 S x0 x1 x2 x3 t0 v1)
set_option maxRecDepth 20000 in
set_option maxHeartbeats 4000000 in
theorem w_X12_isTrueOf_b65 {F : Nat} {q : (Int32 × Zs)} {S : Zs} {rc6 : Zs → Int32 → Int32 → Int32 → Int32 → Int32 → Int32 → Option (Int32 × Zs)} {x0 : Int32} {x1 : Int32} {x2 : Int32} {x3 : Int32} {x5 : Int32} {t0 : Int32} {ls : Array Slot} {H : Heap} {locs : List Loc} (C : zC p s m args meth c cX12_isTrueOf 6 RX12 (some .boolean)) (hrc6 : ∀ (S : Zs) (x0 : Int32) (x1 : Int32) (x2 : Int32) (x3 : Int32) (x4 : Int32) (x5 : Int32) (H : Heap) (locs : List Loc) (ls : Array Slot), rc6 S x0 x1 x2 x3 x4 x5 = some q → zW (mG D cs ad) s S H locs → lv_has ls 6 [(0, .int x0), (1, .int x1), (2, .int x2), (3, .int x3), (4, .int x4), (5, .int x5)] → W p l e (zR 2 42) s m args below meth c H locs 0 0 (zQi (mG D cs ad) q below args s) (F0 m 6 ls [])) (h : n_X12_isTrueOf_b65 F rc6 S x0 x1 x2 x3 x5 t0 = some q) (hW : zW (mG D cs ad) s S H locs) (hl : lv_has ls 6 [(0, .int x0), (1, .int x1), (2, .int x2), (3, .int x3), (5, .int x5)]) : W p l e (zR 2 42) s m args below meth c H locs 0 0 (zQi (mG D cs ad) q below args s) (F0 m 65 ls [.int t0]) := by
  unfold n_X12_isTrueOf_b65 at h
  obtain ⟨hx, hb, hml, hown, hts, hret, hlk⟩ := id C
  refine lv_istore (lv' := [(4, .int t0), (0, .int x0), (1, .int x1), (2, .int x2), (3, .int x3), (5, .int x5)]) hx hb dX12_isTrueOf_65 hl (by decide) rfl (fun ls hl => ?_)
  obtain ⟨v1, ev1, h⟩ := zz_name h
  refine lv_iinc (v := v1) (lv' := [(5, .int v1), (4, .int t0), (0, .int x0), (1, .int x1), (2, .int x2), (3, .int x3)]) hx hb dX12_isTrueOf_67 hl (k := 5) rfl ev1.symm (by decide) rfl (fun ls hl => ?_)
  refine lv_goto (tgt := 6) hx hb dX12_isTrueOf_70 (by decide) ?_
  exact hrc6 _ _ _ _ _ _ _ _ _ _ h hW (lv_sub hl [2, 3, 4, 5, 1, 0] rfl)
def n_X12_isTrueOf_b60 (F : Nat) (rc6 : Zs → Int32 → Int32 → Int32 → Int32 → Int32 → Int32 → Option (Int32 × Zs)) (S : Zs) (x0 : Int32) (x1 : Int32) (x2 : Int32) (x3 : Int32) (x5 : Int32) : Option (Int32 × Zs) :=
  n_X12_isTrueOf_b65 F rc6 S x0 x1 x2 x3 x5 (1 : Int32)
set_option maxRecDepth 20000 in
set_option maxHeartbeats 4000000 in
theorem w_X12_isTrueOf_b60 {F : Nat} {q : (Int32 × Zs)} {S : Zs} {rc6 : Zs → Int32 → Int32 → Int32 → Int32 → Int32 → Int32 → Option (Int32 × Zs)} {x0 : Int32} {x1 : Int32} {x2 : Int32} {x3 : Int32} {x5 : Int32} {ls : Array Slot} {H : Heap} {locs : List Loc} (C : zC p s m args meth c cX12_isTrueOf 6 RX12 (some .boolean)) (hrc6 : ∀ (S : Zs) (x0 : Int32) (x1 : Int32) (x2 : Int32) (x3 : Int32) (x4 : Int32) (x5 : Int32) (H : Heap) (locs : List Loc) (ls : Array Slot), rc6 S x0 x1 x2 x3 x4 x5 = some q → zW (mG D cs ad) s S H locs → lv_has ls 6 [(0, .int x0), (1, .int x1), (2, .int x2), (3, .int x3), (4, .int x4), (5, .int x5)] → W p l e (zR 2 42) s m args below meth c H locs 0 0 (zQi (mG D cs ad) q below args s) (F0 m 6 ls [])) (h : n_X12_isTrueOf_b60 F rc6 S x0 x1 x2 x3 x5 = some q) (hW : zW (mG D cs ad) s S H locs) (hl : lv_has ls 6 [(0, .int x0), (1, .int x1), (2, .int x2), (3, .int x3), (5, .int x5)]) : W p l e (zR 2 42) s m args below meth c H locs 0 0 (zQi (mG D cs ad) q below args s) (F0 m 60 ls []) := by
  unfold n_X12_isTrueOf_b60 at h
  obtain ⟨hx, hb, hml, hown, hts, hret, hlk⟩ := id C
  refine lv_iconst (v := 1) hx hb dX12_isTrueOf_60 (by decide) ?_
  refine lv_goto (tgt := 65) hx hb dX12_isTrueOf_61 (by decide) ?_
  exact w_X12_isTrueOf_b65 (F := F) C hrc6 h hW (lv_sub hl [0, 1, 2, 3, 4] rfl)
def n_X12_isTrueOf_b64 (F : Nat) (rc6 : Zs → Int32 → Int32 → Int32 → Int32 → Int32 → Int32 → Option (Int32 × Zs)) (S : Zs) (x0 : Int32) (x1 : Int32) (x2 : Int32) (x3 : Int32) (x5 : Int32) : Option (Int32 × Zs) :=
  n_X12_isTrueOf_b65 F rc6 S x0 x1 x2 x3 x5 (0 : Int32)
set_option maxRecDepth 20000 in
set_option maxHeartbeats 4000000 in
theorem w_X12_isTrueOf_b64 {F : Nat} {q : (Int32 × Zs)} {S : Zs} {rc6 : Zs → Int32 → Int32 → Int32 → Int32 → Int32 → Int32 → Option (Int32 × Zs)} {x0 : Int32} {x1 : Int32} {x2 : Int32} {x3 : Int32} {x5 : Int32} {ls : Array Slot} {H : Heap} {locs : List Loc} (C : zC p s m args meth c cX12_isTrueOf 6 RX12 (some .boolean)) (hrc6 : ∀ (S : Zs) (x0 : Int32) (x1 : Int32) (x2 : Int32) (x3 : Int32) (x4 : Int32) (x5 : Int32) (H : Heap) (locs : List Loc) (ls : Array Slot), rc6 S x0 x1 x2 x3 x4 x5 = some q → zW (mG D cs ad) s S H locs → lv_has ls 6 [(0, .int x0), (1, .int x1), (2, .int x2), (3, .int x3), (4, .int x4), (5, .int x5)] → W p l e (zR 2 42) s m args below meth c H locs 0 0 (zQi (mG D cs ad) q below args s) (F0 m 6 ls [])) (h : n_X12_isTrueOf_b64 F rc6 S x0 x1 x2 x3 x5 = some q) (hW : zW (mG D cs ad) s S H locs) (hl : lv_has ls 6 [(0, .int x0), (1, .int x1), (2, .int x2), (3, .int x3), (5, .int x5)]) : W p l e (zR 2 42) s m args below meth c H locs 0 0 (zQi (mG D cs ad) q below args s) (F0 m 64 ls []) := by
  unfold n_X12_isTrueOf_b64 at h
  obtain ⟨hx, hb, hml, hown, hts, hret, hlk⟩ := id C
  refine lv_iconst (v := 0) hx hb dX12_isTrueOf_64 (by decide) ?_
  exact w_X12_isTrueOf_b65 (F := F) C hrc6 h hW (lv_sub hl [0, 1, 2, 3, 4] rfl)
def n_X12_isTrueOf_b54 (F : Nat) (rc6 : Zs → Int32 → Int32 → Int32 → Int32 → Int32 → Int32 → Option (Int32 × Zs)) (S : Zs) (x0 : Int32) (x1 : Int32) (x2 : Int32) (x3 : Int32) (x5 : Int32) (t0 : Int32) (t1 : Int32) : Option (Int32 × Zs) :=
  zcl (n_X12_isOf F S t1 t0) (fun v2 S1 => if v2 = 0 then (n_X12_isTrueOf_b64 F rc6 S1 x0 x1 x2 x3 x5) else (n_X12_isTrueOf_b60 F rc6 S1 x0 x1 x2 x3 x5))
set_option maxRecDepth 20000 in
set_option maxHeartbeats 4000000 in
theorem w_X12_isTrueOf_b54 {F : Nat} {q : (Int32 × Zs)} {S : Zs} {rc6 : Zs → Int32 → Int32 → Int32 → Int32 → Int32 → Int32 → Option (Int32 × Zs)} {x0 : Int32} {x1 : Int32} {x2 : Int32} {x3 : Int32} {x5 : Int32} {t0 : Int32} {t1 : Int32} {ls : Array Slot} {H : Heap} {locs : List Loc} (C : zC p s m args meth c cX12_isTrueOf 6 RX12 (some .boolean)) (hrc6 : ∀ (S : Zs) (x0 : Int32) (x1 : Int32) (x2 : Int32) (x3 : Int32) (x4 : Int32) (x5 : Int32) (H : Heap) (locs : List Loc) (ls : Array Slot), rc6 S x0 x1 x2 x3 x4 x5 = some q → zW (mG D cs ad) s S H locs → lv_has ls 6 [(0, .int x0), (1, .int x1), (2, .int x2), (3, .int x3), (4, .int x4), (5, .int x5)] → W p l e (zR 2 42) s m args below meth c H locs 0 0 (zQi (mG D cs ad) q below args s) (F0 m 6 ls [])) (h : n_X12_isTrueOf_b54 F rc6 S x0 x1 x2 x3 x5 t0 t1 = some q) (hW : zW (mG D cs ad) s S H locs) (hl : lv_has ls 6 [(0, .int x0), (1, .int x1), (2, .int x2), (3, .int x3), (5, .int x5)]) : W p l e (zR 2 42) s m args below meth c H locs 0 0 (zQi (mG D cs ad) q below args s) (F0 m 54 ls [.int t0, .int t1]) := by
  unfold n_X12_isTrueOf_b54 at h
  obtain ⟨hx, hb, hml, hown, hts, hret, hlk⟩ := id C
  refine zz_callSi (As := [.int t1, .int t0]) C hW h (fun r hr => c_X12_isOf hr) lk_X12_262 rfl hl.1 ⟨rfl, rfl⟩ ⟨Nat.le_of_ble_eq_true rfl, Nat.le_of_ble_eq_true rfl⟩ (Nat.le_of_ble_eq_true rfl) ⟨Nat.zero_le _, Nat.zero_le _⟩ rfl dX12_isTrueOf_54 (fun v2 S1 H locs h hW => ?_)
  refine zz_ieq (tgt := 64) C h dX12_isTrueOf_57 (by decide) (fun h => ?_) (fun h => ?_)
  · exact w_X12_isTrueOf_b64 (F := F) C hrc6 h hW (lv_sub hl [0, 1, 2, 3, 4] rfl)
  · exact w_X12_isTrueOf_b60 (F := F) C hrc6 h hW (lv_sub hl [0, 1, 2, 3, 4] rfl)
def n_X12_isTrueOf_b47 (F : Nat) (rc6 : Zs → Int32 → Int32 → Int32 → Int32 → Int32 → Int32 → Option (Int32 × Zs)) (S : Zs) (x0 : Int32) (x1 : Int32) (x2 : Int32) (x3 : Int32) (x5 : Int32) (t0 : Int32) : Option (Int32 × Zs) :=
  n_X12_isTrueOf_b54 F rc6 S x0 x1 x2 x3 x5 (x3 ^^^ (1 : Int32)) t0
set_option maxRecDepth 20000 in
set_option maxHeartbeats 4000000 in
theorem w_X12_isTrueOf_b47 {F : Nat} {q : (Int32 × Zs)} {S : Zs} {rc6 : Zs → Int32 → Int32 → Int32 → Int32 → Int32 → Int32 → Option (Int32 × Zs)} {x0 : Int32} {x1 : Int32} {x2 : Int32} {x3 : Int32} {x5 : Int32} {t0 : Int32} {ls : Array Slot} {H : Heap} {locs : List Loc} (C : zC p s m args meth c cX12_isTrueOf 6 RX12 (some .boolean)) (hrc6 : ∀ (S : Zs) (x0 : Int32) (x1 : Int32) (x2 : Int32) (x3 : Int32) (x4 : Int32) (x5 : Int32) (H : Heap) (locs : List Loc) (ls : Array Slot), rc6 S x0 x1 x2 x3 x4 x5 = some q → zW (mG D cs ad) s S H locs → lv_has ls 6 [(0, .int x0), (1, .int x1), (2, .int x2), (3, .int x3), (4, .int x4), (5, .int x5)] → W p l e (zR 2 42) s m args below meth c H locs 0 0 (zQi (mG D cs ad) q below args s) (F0 m 6 ls [])) (h : n_X12_isTrueOf_b47 F rc6 S x0 x1 x2 x3 x5 t0 = some q) (hW : zW (mG D cs ad) s S H locs) (hl : lv_has ls 6 [(0, .int x0), (1, .int x1), (2, .int x2), (3, .int x3), (5, .int x5)]) : W p l e (zR 2 42) s m args below meth c H locs 0 0 (zQi (mG D cs ad) q below args s) (F0 m 47 ls [.int t0]) := by
  unfold n_X12_isTrueOf_b47 at h
  obtain ⟨hx, hb, hml, hown, hts, hret, hlk⟩ := id C
  refine lv_iload_n hx hb dX12_isTrueOf_47 rfl (lv_at hl 3 rfl) ?_
  refine lv_iconst (v := 1) hx hb dX12_isTrueOf_48 (by decide) ?_
  refine lv_ixor hx hb dX12_isTrueOf_49 ?_
  refine lv_goto (tgt := 54) hx hb dX12_isTrueOf_50 (by decide) ?_
  exact w_X12_isTrueOf_b54 (F := F) C hrc6 h hW (lv_sub hl [0, 1, 2, 3, 4] rfl)
def n_X12_isTrueOf_b6_l (F : Nat) (rc6 : Zs → Int32 → Int32 → Int32 → Int32 → Int32 → Int32 → Option (Int32 × Zs)) (S : Zs) (x0 : Int32) (x1 : Int32) (x2 : Int32) (x3 : Int32) (x4 : Int32) (x5 : Int32) : Option (Int32 × Zs) :=
  if (8 : Int32) ≤ x5 then (if (2 : Int32) ≤ x1 then (n_X12_isTrueOf_b93 F  S x4) else (if x4 = 0 then (n_X12_isTrueOf_b93 F  S (1 : Int32)) else (n_X12_isTrueOf_b93 F  S (0 : Int32)))) else (if x4 = 0 then (zcl (n_X12_has F S x0 x5) (fun v2 S1 => if v2 = 0 then (n_X12_isTrueOf_b64 F rc6 S1 x0 x1 x2 x3 x5) else (zcl (n_X12_isOf F S1 x5 x2) (fun v4 S3 => if v4 = 0 then (n_X12_isTrueOf_b64 F rc6 S3 x0 x1 x2 x3 x5) else (if x1 = 0 then (n_X12_isTrueOf_b47 F rc6 S3 x0 x1 x2 x3 x5 x5) else (if x1 = (3 : Int32) then (n_X12_isTrueOf_b47 F rc6 S3 x0 x1 x2 x3 x5 x5) else (n_X12_isTrueOf_b54 F rc6 S3 x0 x1 x2 x3 x5 x3 x5))))))) else (n_X12_isTrueOf_b60 F rc6 S x0 x1 x2 x3 x5))
set_option maxRecDepth 20000 in
set_option maxHeartbeats 4000000 in
theorem w_X12_isTrueOf_b6_l {F : Nat} {q : (Int32 × Zs)} {S : Zs} {rc6 : Zs → Int32 → Int32 → Int32 → Int32 → Int32 → Int32 → Option (Int32 × Zs)} {x0 : Int32} {x1 : Int32} {x2 : Int32} {x3 : Int32} {x4 : Int32} {x5 : Int32} {ls : Array Slot} {H : Heap} {locs : List Loc} (C : zC p s m args meth c cX12_isTrueOf 6 RX12 (some .boolean)) (hrc6 : ∀ (S : Zs) (x0 : Int32) (x1 : Int32) (x2 : Int32) (x3 : Int32) (x4 : Int32) (x5 : Int32) (H : Heap) (locs : List Loc) (ls : Array Slot), rc6 S x0 x1 x2 x3 x4 x5 = some q → zW (mG D cs ad) s S H locs → lv_has ls 6 [(0, .int x0), (1, .int x1), (2, .int x2), (3, .int x3), (4, .int x4), (5, .int x5)] → W p l e (zR 2 42) s m args below meth c H locs 0 0 (zQi (mG D cs ad) q below args s) (F0 m 6 ls [])) (h : n_X12_isTrueOf_b6_l F rc6 S x0 x1 x2 x3 x4 x5 = some q) (hW : zW (mG D cs ad) s S H locs) (hl : lv_has ls 6 [(0, .int x0), (1, .int x1), (2, .int x2), (3, .int x3), (4, .int x4), (5, .int x5)]) : W p l e (zR 2 42) s m args below meth c H locs 0 0 (zQi (mG D cs ad) q below args s) (F0 m 6 ls []) := by
  unfold n_X12_isTrueOf_b6_l at h
  obtain ⟨hx, hb, hml, hown, hts, hret, hlk⟩ := id C
  refine lv_iload hx hb dX12_isTrueOf_6 (lv_at hl 5 rfl) ?_
  refine lv_bipush (v := 8) hx hb dX12_isTrueOf_8 (by decide) ?_
  refine zz_cge (tgt := 73) C h dX12_isTrueOf_10 (by decide) (fun h => ?_) (fun h => ?_)
  · refine lv_iload_n hx hb dX12_isTrueOf_73 rfl (lv_at hl 1 rfl) ?_
    refine lv_iconst (v := 2) hx hb dX12_isTrueOf_74 (by decide) ?_
    refine zz_cge (tgt := 91) C h dX12_isTrueOf_75 (by decide) (fun h => ?_) (fun h => ?_)
    · refine lv_iload hx hb dX12_isTrueOf_91 (lv_at hl 4 rfl) ?_
      exact w_X12_isTrueOf_b93 (F := F) C h hW (lv_sub hl [] rfl)
    · refine lv_iload hx hb dX12_isTrueOf_78 (lv_at hl 4 rfl) ?_
      refine zz_ine (tgt := 87) C h dX12_isTrueOf_80 (by decide) (fun h => ?_) (fun h => ?_)
      · refine lv_iconst (v := 0) hx hb dX12_isTrueOf_87 (by decide) ?_
        refine lv_goto (tgt := 93) hx hb dX12_isTrueOf_88 (by decide) ?_
        exact w_X12_isTrueOf_b93 (F := F) C h hW (lv_sub hl [] rfl)
      · refine lv_iconst (v := 1) hx hb dX12_isTrueOf_83 (by decide) ?_
        refine lv_goto (tgt := 93) hx hb dX12_isTrueOf_84 (by decide) ?_
        exact w_X12_isTrueOf_b93 (F := F) C h hW (lv_sub hl [] rfl)
  · refine lv_iload hx hb dX12_isTrueOf_13 (lv_at hl 4 rfl) ?_
    refine zz_ine (tgt := 60) C h dX12_isTrueOf_15 (by decide) (fun h => ?_) (fun h => ?_)
    · exact w_X12_isTrueOf_b60 (F := F) C hrc6 h hW (lv_sub hl [0, 1, 2, 3, 5] rfl)
    · refine lv_iload_n hx hb dX12_isTrueOf_18 rfl (lv_at hl 0 rfl) ?_
      refine lv_iload hx hb dX12_isTrueOf_19 (lv_at hl 5 rfl) ?_
      refine zz_callSi (As := [.int x0, .int x5]) C hW h (fun r hr => c_X12_has hr) lk_X12_129 rfl hl.1 ⟨rfl, rfl⟩ ⟨Nat.le_of_ble_eq_true rfl, Nat.le_of_ble_eq_true rfl⟩ (Nat.le_of_ble_eq_true rfl) ⟨Nat.zero_le _, Nat.zero_le _⟩ rfl dX12_isTrueOf_21 (fun v2 S1 H locs h hW => ?_)
      refine zz_ieq (tgt := 64) C h dX12_isTrueOf_24 (by decide) (fun h => ?_) (fun h => ?_)
      · exact w_X12_isTrueOf_b64 (F := F) C hrc6 h hW (lv_sub hl [0, 1, 2, 3, 5] rfl)
      · refine lv_iload hx hb dX12_isTrueOf_27 (lv_at hl 5 rfl) ?_
        refine lv_iload_n hx hb dX12_isTrueOf_29 rfl (lv_at hl 2 rfl) ?_
        refine zz_callSi (As := [.int x5, .int x2]) C hW h (fun r hr => c_X12_isOf hr) lk_X12_262 rfl hl.1 ⟨rfl, rfl⟩ ⟨Nat.le_of_ble_eq_true rfl, Nat.le_of_ble_eq_true rfl⟩ (Nat.le_of_ble_eq_true rfl) ⟨Nat.zero_le _, Nat.zero_le _⟩ rfl dX12_isTrueOf_30 (fun v4 S3 H locs h hW => ?_)
        refine zz_ieq (tgt := 64) C h dX12_isTrueOf_33 (by decide) (fun h => ?_) (fun h => ?_)
        · exact w_X12_isTrueOf_b64 (F := F) C hrc6 h hW (lv_sub hl [0, 1, 2, 3, 5] rfl)
        · refine lv_iload hx hb dX12_isTrueOf_36 (lv_at hl 5 rfl) ?_
          refine lv_iload_n hx hb dX12_isTrueOf_38 rfl (lv_at hl 1 rfl) ?_
          refine zz_ieq (tgt := 47) C h dX12_isTrueOf_39 (by decide) (fun h => ?_) (fun h => ?_)
          · exact w_X12_isTrueOf_b47 (F := F) C hrc6 h hW (lv_sub hl [0, 1, 2, 3, 5] rfl)
          · refine lv_iload_n hx hb dX12_isTrueOf_42 rfl (lv_at hl 1 rfl) ?_
            refine lv_iconst (v := 3) hx hb dX12_isTrueOf_43 (by decide) ?_
            refine zz_cne (tgt := 53) C h dX12_isTrueOf_44 (by decide) (fun h => ?_) (fun h => ?_)
            · refine lv_iload_n hx hb dX12_isTrueOf_53 rfl (lv_at hl 3 rfl) ?_
              exact w_X12_isTrueOf_b54 (F := F) C hrc6 h hW (lv_sub hl [0, 1, 2, 3, 5] rfl)
            · exact w_X12_isTrueOf_b47 (F := F) C hrc6 h hW (lv_sub hl [0, 1, 2, 3, 5] rfl)
def n_X12_isTrueOf_b6 (F : Nat)  (S : Zs) (x0 : Int32) (x1 : Int32) (x2 : Int32) (x3 : Int32) (x4 : Int32) (x5 : Int32) : Option (Int32 × Zs) :=
  zfix (fun (rc : (Zs × Int32 × Int32 × Int32 × Int32 × Int32 × Int32) → Option (Int32 × Zs)) (u : (Zs × Int32 × Int32 × Int32 × Int32 × Int32 × Int32)) => n_X12_isTrueOf_b6_l F  (fun S x0 x1 x2 x3 x4 x5 => rc (S, x0, x1, x2, x3, x4, x5)) u.1 u.2.1 u.2.2.1 u.2.2.2.1 u.2.2.2.2.1 u.2.2.2.2.2.1 u.2.2.2.2.2.2) F (S, x0, x1, x2, x3, x4, x5)
theorem w_X12_isTrueOf_b6 {F : Nat} {q : (Int32 × Zs)}  (C : zC p s m args meth c cX12_isTrueOf 6 RX12 (some .boolean))  : ∀ (n : Nat) (S : Zs) (x0 : Int32) (x1 : Int32) (x2 : Int32) (x3 : Int32) (x4 : Int32) (x5 : Int32) (H : Heap) (locs : List Loc) (ls : Array Slot), zfix (fun (rc : (Zs × Int32 × Int32 × Int32 × Int32 × Int32 × Int32) → Option (Int32 × Zs)) (u : (Zs × Int32 × Int32 × Int32 × Int32 × Int32 × Int32)) => n_X12_isTrueOf_b6_l F  (fun S x0 x1 x2 x3 x4 x5 => rc (S, x0, x1, x2, x3, x4, x5)) u.1 u.2.1 u.2.2.1 u.2.2.2.1 u.2.2.2.2.1 u.2.2.2.2.2.1 u.2.2.2.2.2.2) n (S, x0, x1, x2, x3, x4, x5) = some q → zW (mG D cs ad) s S H locs → lv_has ls 6 [(0, .int x0), (1, .int x1), (2, .int x2), (3, .int x3), (4, .int x4), (5, .int x5)] → W p l e (zR 2 42) s m args below meth c H locs 0 0 (zQi (mG D cs ad) q below args s) (F0 m 6 ls []) := by
  intro n
  induction n with
  | zero => intro S x0 x1 x2 x3 x4 x5 H locs ls h; exact absurd h (fun h => by cases h)
  | succ n ih => intro S x0 x1 x2 x3 x4 x5 H locs ls h hW hl; exact w_X12_isTrueOf_b6_l (F := F) C (fun S x0 x1 x2 x3 x4 x5 H locs ls h hW hl => ih S x0 x1 x2 x3 x4 x5 H locs ls h hW hl) h hW hl
def n_X12_isTrueOf_e (F : Nat)  (S : Zs) (x0 : Int32) (x1 : Int32) (x2 : Int32) (x3 : Int32) : Option (Int32 × Zs) :=
  n_X12_isTrueOf_b6 F  S x0 x1 x2 x3 (0 : Int32) (0 : Int32)
set_option maxRecDepth 20000 in
set_option maxHeartbeats 4000000 in
theorem w_X12_isTrueOf_e {F : Nat} {q : (Int32 × Zs)} {S : Zs}  {x0 : Int32} {x1 : Int32} {x2 : Int32} {x3 : Int32} {ls : Array Slot} {H : Heap} {locs : List Loc} (C : zC p s m args meth c cX12_isTrueOf 6 RX12 (some .boolean))  (h : n_X12_isTrueOf_e F  S x0 x1 x2 x3 = some q) (hW : zW (mG D cs ad) s S H locs) (hl : lv_has ls 6 [(0, .int x0), (1, .int x1), (2, .int x2), (3, .int x3)]) : W p l e (zR 2 42) s m args below meth c H locs 0 0 (zQi (mG D cs ad) q below args s) (F0 m 0 ls []) := by
  unfold n_X12_isTrueOf_e at h
  obtain ⟨hx, hb, hml, hown, hts, hret, hlk⟩ := id C
  refine lv_iconst (v := 0) hx hb dX12_isTrueOf_0 (by decide) ?_
  refine lv_istore (lv' := [(4, .int (0 : Int32)), (0, .int x0), (1, .int x1), (2, .int x2), (3, .int x3)]) hx hb dX12_isTrueOf_1 hl (by decide) rfl (fun ls hl => ?_)
  refine lv_iconst (v := 0) hx hb dX12_isTrueOf_3 (by decide) ?_
  refine lv_istore (lv' := [(5, .int (0 : Int32)), (4, .int (0 : Int32)), (0, .int x0), (1, .int x1), (2, .int x2), (3, .int x3)]) hx hb dX12_isTrueOf_4 hl (by decide) rfl (fun ls hl => ?_)
  exact w_X12_isTrueOf_b6 (F := F) C F _ _ _ _ _ _ _ _ _ _ h hW (lv_sub hl [2, 3, 4, 5, 1, 0] rfl)
def n_X12_isTrueOf (F : Nat) (S : Zs) (x0 : Int32) (x1 : Int32) (x2 : Int32) (x3 : Int32) : Option (Int32 × Zs) := n_X12_isTrueOf_e F  S x0 x1 x2 x3
theorem c_X12_isTrueOf {l : Launch} {D : va_G} {cs ad : Nat → Nat} {F : Nat} {S : Zs} {x0 : Int32} {x1 : Int32} {x2 : Int32} {x3 : Int32} {q : (Int32 × Zs)} (h : n_X12_isTrueOf F S x0 x1 x2 x3 = some q) : zMi l yX12_isTrueOf cX12_isTrueOf 6 (some .boolean) (zR 2 42) (mG D cs ad) [.int x0, .int x1, .int x2, .int x3] S q :=
  zz_enter (by decide) (Nat.le_of_ble_eq_true rfl) (fun p e s m below meth c ls C hW hl => w_X12_isTrueOf_e (F := F) C h hW (lv_sub hl [0, 1, 2, 3] rfl))
def n_X12_holdsIf_b132 (F : Nat) (rc3 : Zs → Int32 → Int32 → Int32 → Int32 → Int32 → Int32 → Option (Int32 × Zs)) (S : Zs) (x0 : Int32) (x1 : Int32) (x2 : Int32) (x3 : Int32) (x4 : Int32) (x5 : Int32) : Option (Int32 × Zs) :=
  zlet (x5 + (1 : Int32)) (fun v1 => rc3 S x0 x1 x2 x3 x4 v1)
set_option maxRecDepth 20000 in
set_option maxHeartbeats 4000000 in
theorem w_X12_holdsIf_b132 {F : Nat} {q : (Int32 × Zs)} {S : Zs} {rc3 : Zs → Int32 → Int32 → Int32 → Int32 → Int32 → Int32 → Option (Int32 × Zs)} {x0 : Int32} {x1 : Int32} {x2 : Int32} {x3 : Int32} {x4 : Int32} {x5 : Int32} {ls : Array Slot} {H : Heap} {locs : List Loc} (C : zC p s m args meth c cX12_holdsIf 8 RX12 (some .boolean)) (hrc3 : ∀ (S : Zs) (x0 : Int32) (x1 : Int32) (x2 : Int32) (x3 : Int32) (x4 : Int32) (x5 : Int32) (H : Heap) (locs : List Loc) (ls : Array Slot), rc3 S x0 x1 x2 x3 x4 x5 = some q → zW (mG D cs ad) s S H locs → lv_has ls 8 [(0, .int x0), (1, .int x1), (2, .int x2), (3, .int x3), (4, .int x4), (5, .int x5)] → W p l e (zR 3 67) s m args below meth c H locs 0 0 (zQi (mG D cs ad) q below args s) (F0 m 3 ls [])) (h : n_X12_holdsIf_b132 F rc3 S x0 x1 x2 x3 x4 x5 = some q) (hW : zW (mG D cs ad) s S H locs) (hl : lv_has ls 8 [(0, .int x0), (1, .int x1), (2, .int x2), (3, .int x3), (4, .int x4), (5, .int x5)]) : W p l e (zR 3 67) s m args below meth c H locs 0 0 (zQi (mG D cs ad) q below args s) (F0 m 132 ls []) := by
  unfold n_X12_holdsIf_b132 at h
  obtain ⟨hx, hb, hml, hown, hts, hret, hlk⟩ := id C
  obtain ⟨v1, ev1, h⟩ := zz_name h
  refine lv_iinc (v := v1) (lv' := [(5, .int v1), (0, .int x0), (1, .int x1), (2, .int x2), (3, .int x3), (4, .int x4)]) hx hb dX12_holdsIf_132 hl (k := 5) rfl ev1.symm (by decide) rfl (fun ls hl => ?_)
  refine lv_goto (tgt := 3) hx hb dX12_holdsIf_135 (by decide) ?_
  exact hrc3 _ _ _ _ _ _ _ _ _ _ h hW (lv_sub hl [1, 2, 3, 4, 5, 0] rfl)
def n_X12_holdsIf_b112 (F : Nat) (rc3 : Zs → Int32 → Int32 → Int32 → Int32 → Int32 → Int32 → Option (Int32 × Zs)) (S : Zs) (x0 : Int32) (x1 : Int32) (x2 : Int32) (x3 : Int32) (x4 : Int32) (x5 : Int32) (t0 : Int32) : Option (Int32 × Zs) :=
  if t0 = 0 then (n_X12_holdsIf_b132 F rc3 S x0 x1 x2 x3 x4 x5) else (zcl (n_X12_isTrueOf F S x5 x2 (0 : Int32) (4 : Int32)) (fun v2 S1 => if v2 = 0 then (zrb (0 : Int32) S1) else (n_X12_holdsIf_b132 F rc3 S1 x0 x1 x2 x3 x4 x5)))
set_option maxRecDepth 20000 in
set_option maxHeartbeats 4000000 in
theorem w_X12_holdsIf_b112 {F : Nat} {q : (Int32 × Zs)} {S : Zs} {rc3 : Zs → Int32 → Int32 → Int32 → Int32 → Int32 → Int32 → Option (Int32 × Zs)} {x0 : Int32} {x1 : Int32} {x2 : Int32} {x3 : Int32} {x4 : Int32} {x5 : Int32} {t0 : Int32} {ls : Array Slot} {H : Heap} {locs : List Loc} (C : zC p s m args meth c cX12_holdsIf 8 RX12 (some .boolean)) (hrc3 : ∀ (S : Zs) (x0 : Int32) (x1 : Int32) (x2 : Int32) (x3 : Int32) (x4 : Int32) (x5 : Int32) (H : Heap) (locs : List Loc) (ls : Array Slot), rc3 S x0 x1 x2 x3 x4 x5 = some q → zW (mG D cs ad) s S H locs → lv_has ls 8 [(0, .int x0), (1, .int x1), (2, .int x2), (3, .int x3), (4, .int x4), (5, .int x5)] → W p l e (zR 3 67) s m args below meth c H locs 0 0 (zQi (mG D cs ad) q below args s) (F0 m 3 ls [])) (h : n_X12_holdsIf_b112 F rc3 S x0 x1 x2 x3 x4 x5 t0 = some q) (hW : zW (mG D cs ad) s S H locs) (hl : lv_has ls 8 [(0, .int x0), (1, .int x1), (2, .int x2), (3, .int x3), (4, .int x4), (5, .int x5)]) : W p l e (zR 3 67) s m args below meth c H locs 0 0 (zQi (mG D cs ad) q below args s) (F0 m 112 ls [.int t0]) := by
  unfold n_X12_holdsIf_b112 at h
  obtain ⟨hx, hb, hml, hown, hts, hret, hlk⟩ := id C
  refine lv_istore (lv' := [(6, .int t0), (0, .int x0), (1, .int x1), (2, .int x2), (3, .int x3), (4, .int x4), (5, .int x5)]) hx hb dX12_holdsIf_112 hl (by decide) rfl (fun ls hl => ?_)
  refine lv_iload hx hb dX12_holdsIf_114 (lv_at hl 0 rfl) ?_
  refine zz_ieq (tgt := 132) C h dX12_holdsIf_116 (by decide) (fun h => ?_) (fun h => ?_)
  · exact w_X12_holdsIf_b132 (F := F) C hrc3 h hW (lv_sub hl [1, 2, 3, 4, 5, 6] rfl)
  · refine lv_iload hx hb dX12_holdsIf_119 (lv_at hl 6 rfl) ?_
    refine lv_iload_n hx hb dX12_holdsIf_121 rfl (lv_at hl 3 rfl) ?_
    refine lv_iconst (v := 0) hx hb dX12_holdsIf_122 (by decide) ?_
    refine lv_iconst (v := 4) hx hb dX12_holdsIf_123 (by decide) ?_
    refine zz_callSi (As := [.int x5, .int x2, .int (0 : Int32), .int (4 : Int32)]) C hW h (fun r hr => c_X12_isTrueOf hr) lk_X12_307 rfl hl.1 ⟨rfl, rfl⟩ ⟨Nat.le_of_ble_eq_true rfl, Nat.le_of_ble_eq_true rfl⟩ (Nat.le_of_ble_eq_true rfl) ⟨Nat.zero_le _, Nat.zero_le _⟩ rfl dX12_holdsIf_124 (fun v2 S1 H locs h hW => ?_)
    refine zz_ine (tgt := 132) C h dX12_holdsIf_127 (by decide) (fun h => ?_) (fun h => ?_)
    · exact w_X12_holdsIf_b132 (F := F) C hrc3 h hW (lv_sub hl [1, 2, 3, 4, 5, 6] rfl)
    · refine lv_iconst (v := 0) hx hb dX12_holdsIf_130 (by decide) ?_
      exact zz_zret C rfl h hW dX12_holdsIf_131
def n_X12_holdsIf_b111 (F : Nat) (rc3 : Zs → Int32 → Int32 → Int32 → Int32 → Int32 → Int32 → Option (Int32 × Zs)) (S : Zs) (x0 : Int32) (x1 : Int32) (x2 : Int32) (x3 : Int32) (x4 : Int32) (x5 : Int32) : Option (Int32 × Zs) :=
  n_X12_holdsIf_b112 F rc3 S x0 x1 x2 x3 x4 x5 (0 : Int32)
set_option maxRecDepth 20000 in
set_option maxHeartbeats 4000000 in
theorem w_X12_holdsIf_b111 {F : Nat} {q : (Int32 × Zs)} {S : Zs} {rc3 : Zs → Int32 → Int32 → Int32 → Int32 → Int32 → Int32 → Option (Int32 × Zs)} {x0 : Int32} {x1 : Int32} {x2 : Int32} {x3 : Int32} {x4 : Int32} {x5 : Int32} {ls : Array Slot} {H : Heap} {locs : List Loc} (C : zC p s m args meth c cX12_holdsIf 8 RX12 (some .boolean)) (hrc3 : ∀ (S : Zs) (x0 : Int32) (x1 : Int32) (x2 : Int32) (x3 : Int32) (x4 : Int32) (x5 : Int32) (H : Heap) (locs : List Loc) (ls : Array Slot), rc3 S x0 x1 x2 x3 x4 x5 = some q → zW (mG D cs ad) s S H locs → lv_has ls 8 [(0, .int x0), (1, .int x1), (2, .int x2), (3, .int x3), (4, .int x4), (5, .int x5)] → W p l e (zR 3 67) s m args below meth c H locs 0 0 (zQi (mG D cs ad) q below args s) (F0 m 3 ls [])) (h : n_X12_holdsIf_b111 F rc3 S x0 x1 x2 x3 x4 x5 = some q) (hW : zW (mG D cs ad) s S H locs) (hl : lv_has ls 8 [(0, .int x0), (1, .int x1), (2, .int x2), (3, .int x3), (4, .int x4), (5, .int x5)]) : W p l e (zR 3 67) s m args below meth c H locs 0 0 (zQi (mG D cs ad) q below args s) (F0 m 111 ls []) := by
  unfold n_X12_holdsIf_b111 at h
  obtain ⟨hx, hb, hml, hown, hts, hret, hlk⟩ := id C
  refine lv_iconst (v := 0) hx hb dX12_holdsIf_111 (by decide) ?_
  exact w_X12_holdsIf_b112 (F := F) C hrc3 h hW (lv_sub hl [0, 1, 2, 3, 4, 5] rfl)
def n_X12_holdsIf_b60 (F : Nat) (rc3 : Zs → Int32 → Int32 → Int32 → Int32 → Int32 → Int32 → Option (Int32 × Zs)) (rc17 : Zs → Int32 → Int32 → Int32 → Int32 → Int32 → Int32 → Int32 → Int32 → Option (Int32 × Zs)) (S : Zs) (x0 : Int32) (x1 : Int32) (x2 : Int32) (x3 : Int32) (x4 : Int32) (x5 : Int32) (x7 : Int32) (t0 : Int32) : Option (Int32 × Zs) :=
  zlet (x7 + (1 : Int32)) (fun v1 => rc17 S x0 x1 x2 x3 x4 x5 t0 v1)
set_option maxRecDepth 20000 in
set_option maxHeartbeats 4000000 in
theorem w_X12_holdsIf_b60 {F : Nat} {q : (Int32 × Zs)} {S : Zs} {rc3 : Zs → Int32 → Int32 → Int32 → Int32 → Int32 → Int32 → Option (Int32 × Zs)} {rc17 : Zs → Int32 → Int32 → Int32 → Int32 → Int32 → Int32 → Int32 → Int32 → Option (Int32 × Zs)} {x0 : Int32} {x1 : Int32} {x2 : Int32} {x3 : Int32} {x4 : Int32} {x5 : Int32} {x7 : Int32} {t0 : Int32} {ls : Array Slot} {H : Heap} {locs : List Loc} (C : zC p s m args meth c cX12_holdsIf 8 RX12 (some .boolean)) (hrc3 : ∀ (S : Zs) (x0 : Int32) (x1 : Int32) (x2 : Int32) (x3 : Int32) (x4 : Int32) (x5 : Int32) (H : Heap) (locs : List Loc) (ls : Array Slot), rc3 S x0 x1 x2 x3 x4 x5 = some q → zW (mG D cs ad) s S H locs → lv_has ls 8 [(0, .int x0), (1, .int x1), (2, .int x2), (3, .int x3), (4, .int x4), (5, .int x5)] → W p l e (zR 3 67) s m args below meth c H locs 0 0 (zQi (mG D cs ad) q below args s) (F0 m 3 ls [])) (hrc17 : ∀ (S : Zs) (x0 : Int32) (x1 : Int32) (x2 : Int32) (x3 : Int32) (x4 : Int32) (x5 : Int32) (x6 : Int32) (x7 : Int32) (H : Heap) (locs : List Loc) (ls : Array Slot), rc17 S x0 x1 x2 x3 x4 x5 x6 x7 = some q → zW (mG D cs ad) s S H locs → lv_has ls 8 [(0, .int x0), (1, .int x1), (2, .int x2), (3, .int x3), (4, .int x4), (5, .int x5), (6, .int x6), (7, .int x7)] → W p l e (zR 3 67) s m args below meth c H locs 0 0 (zQi (mG D cs ad) q below args s) (F0 m 17 ls [])) (h : n_X12_holdsIf_b60 F rc3 rc17 S x0 x1 x2 x3 x4 x5 x7 t0 = some q) (hW : zW (mG D cs ad) s S H locs) (hl : lv_has ls 8 [(0, .int x0), (1, .int x1), (2, .int x2), (3, .int x3), (4, .int x4), (5, .int x5), (7, .int x7)]) : W p l e (zR 3 67) s m args below meth c H locs 0 0 (zQi (mG D cs ad) q below args s) (F0 m 60 ls [.int t0]) := by
  unfold n_X12_holdsIf_b60 at h
  obtain ⟨hx, hb, hml, hown, hts, hret, hlk⟩ := id C
  refine lv_istore (lv' := [(6, .int t0), (0, .int x0), (1, .int x1), (2, .int x2), (3, .int x3), (4, .int x4), (5, .int x5), (7, .int x7)]) hx hb dX12_holdsIf_60 hl (by decide) rfl (fun ls hl => ?_)
  obtain ⟨v1, ev1, h⟩ := zz_name h
  refine lv_iinc (v := v1) (lv' := [(7, .int v1), (6, .int t0), (0, .int x0), (1, .int x1), (2, .int x2), (3, .int x3), (4, .int x4), (5, .int x5)]) hx hb dX12_holdsIf_62 hl (k := 7) rfl ev1.symm (by decide) rfl (fun ls hl => ?_)
  refine lv_goto (tgt := 17) hx hb dX12_holdsIf_65 (by decide) ?_
  exact hrc17 _ _ _ _ _ _ _ _ _ _ _ _ h hW (lv_sub hl [2, 3, 4, 5, 6, 7, 1, 0] rfl)
def n_X12_holdsIf_b59 (F : Nat) (rc3 : Zs → Int32 → Int32 → Int32 → Int32 → Int32 → Int32 → Option (Int32 × Zs)) (rc17 : Zs → Int32 → Int32 → Int32 → Int32 → Int32 → Int32 → Int32 → Int32 → Option (Int32 × Zs)) (S : Zs) (x0 : Int32) (x1 : Int32) (x2 : Int32) (x3 : Int32) (x4 : Int32) (x5 : Int32) (x7 : Int32) : Option (Int32 × Zs) :=
  n_X12_holdsIf_b60 F rc3 rc17 S x0 x1 x2 x3 x4 x5 x7 (0 : Int32)
set_option maxRecDepth 20000 in
set_option maxHeartbeats 4000000 in
theorem w_X12_holdsIf_b59 {F : Nat} {q : (Int32 × Zs)} {S : Zs} {rc3 : Zs → Int32 → Int32 → Int32 → Int32 → Int32 → Int32 → Option (Int32 × Zs)} {rc17 : Zs → Int32 → Int32 → Int32 → Int32 → Int32 → Int32 → Int32 → Int32 → Option (Int32 × Zs)} {x0 : Int32} {x1 : Int32} {x2 : Int32} {x3 : Int32} {x4 : Int32} {x5 : Int32} {x7 : Int32} {ls : Array Slot} {H : Heap} {locs : List Loc} (C : zC p s m args meth c cX12_holdsIf 8 RX12 (some .boolean)) (hrc3 : ∀ (S : Zs) (x0 : Int32) (x1 : Int32) (x2 : Int32) (x3 : Int32) (x4 : Int32) (x5 : Int32) (H : Heap) (locs : List Loc) (ls : Array Slot), rc3 S x0 x1 x2 x3 x4 x5 = some q → zW (mG D cs ad) s S H locs → lv_has ls 8 [(0, .int x0), (1, .int x1), (2, .int x2), (3, .int x3), (4, .int x4), (5, .int x5)] → W p l e (zR 3 67) s m args below meth c H locs 0 0 (zQi (mG D cs ad) q below args s) (F0 m 3 ls [])) (hrc17 : ∀ (S : Zs) (x0 : Int32) (x1 : Int32) (x2 : Int32) (x3 : Int32) (x4 : Int32) (x5 : Int32) (x6 : Int32) (x7 : Int32) (H : Heap) (locs : List Loc) (ls : Array Slot), rc17 S x0 x1 x2 x3 x4 x5 x6 x7 = some q → zW (mG D cs ad) s S H locs → lv_has ls 8 [(0, .int x0), (1, .int x1), (2, .int x2), (3, .int x3), (4, .int x4), (5, .int x5), (6, .int x6), (7, .int x7)] → W p l e (zR 3 67) s m args below meth c H locs 0 0 (zQi (mG D cs ad) q below args s) (F0 m 17 ls [])) (h : n_X12_holdsIf_b59 F rc3 rc17 S x0 x1 x2 x3 x4 x5 x7 = some q) (hW : zW (mG D cs ad) s S H locs) (hl : lv_has ls 8 [(0, .int x0), (1, .int x1), (2, .int x2), (3, .int x3), (4, .int x4), (5, .int x5), (7, .int x7)]) : W p l e (zR 3 67) s m args below meth c H locs 0 0 (zQi (mG D cs ad) q below args s) (F0 m 59 ls []) := by
  unfold n_X12_holdsIf_b59 at h
  obtain ⟨hx, hb, hml, hown, hts, hret, hlk⟩ := id C
  refine lv_iconst (v := 0) hx hb dX12_holdsIf_59 (by decide) ?_
  exact w_X12_holdsIf_b60 (F := F) C hrc3 hrc17 h hW (lv_sub hl [0, 1, 2, 3, 4, 5, 6] rfl)
def n_X12_holdsIf_b55 (F : Nat) (rc3 : Zs → Int32 → Int32 → Int32 → Int32 → Int32 → Int32 → Option (Int32 × Zs)) (rc17 : Zs → Int32 → Int32 → Int32 → Int32 → Int32 → Int32 → Int32 → Int32 → Option (Int32 × Zs)) (S : Zs) (x0 : Int32) (x1 : Int32) (x2 : Int32) (x3 : Int32) (x4 : Int32) (x5 : Int32) (x7 : Int32) : Option (Int32 × Zs) :=
  n_X12_holdsIf_b60 F rc3 rc17 S x0 x1 x2 x3 x4 x5 x7 (1 : Int32)
set_option maxRecDepth 20000 in
set_option maxHeartbeats 4000000 in
theorem w_X12_holdsIf_b55 {F : Nat} {q : (Int32 × Zs)} {S : Zs} {rc3 : Zs → Int32 → Int32 → Int32 → Int32 → Int32 → Int32 → Option (Int32 × Zs)} {rc17 : Zs → Int32 → Int32 → Int32 → Int32 → Int32 → Int32 → Int32 → Int32 → Option (Int32 × Zs)} {x0 : Int32} {x1 : Int32} {x2 : Int32} {x3 : Int32} {x4 : Int32} {x5 : Int32} {x7 : Int32} {ls : Array Slot} {H : Heap} {locs : List Loc} (C : zC p s m args meth c cX12_holdsIf 8 RX12 (some .boolean)) (hrc3 : ∀ (S : Zs) (x0 : Int32) (x1 : Int32) (x2 : Int32) (x3 : Int32) (x4 : Int32) (x5 : Int32) (H : Heap) (locs : List Loc) (ls : Array Slot), rc3 S x0 x1 x2 x3 x4 x5 = some q → zW (mG D cs ad) s S H locs → lv_has ls 8 [(0, .int x0), (1, .int x1), (2, .int x2), (3, .int x3), (4, .int x4), (5, .int x5)] → W p l e (zR 3 67) s m args below meth c H locs 0 0 (zQi (mG D cs ad) q below args s) (F0 m 3 ls [])) (hrc17 : ∀ (S : Zs) (x0 : Int32) (x1 : Int32) (x2 : Int32) (x3 : Int32) (x4 : Int32) (x5 : Int32) (x6 : Int32) (x7 : Int32) (H : Heap) (locs : List Loc) (ls : Array Slot), rc17 S x0 x1 x2 x3 x4 x5 x6 x7 = some q → zW (mG D cs ad) s S H locs → lv_has ls 8 [(0, .int x0), (1, .int x1), (2, .int x2), (3, .int x3), (4, .int x4), (5, .int x5), (6, .int x6), (7, .int x7)] → W p l e (zR 3 67) s m args below meth c H locs 0 0 (zQi (mG D cs ad) q below args s) (F0 m 17 ls [])) (h : n_X12_holdsIf_b55 F rc3 rc17 S x0 x1 x2 x3 x4 x5 x7 = some q) (hW : zW (mG D cs ad) s S H locs) (hl : lv_has ls 8 [(0, .int x0), (1, .int x1), (2, .int x2), (3, .int x3), (4, .int x4), (5, .int x5), (7, .int x7)]) : W p l e (zR 3 67) s m args below meth c H locs 0 0 (zQi (mG D cs ad) q below args s) (F0 m 55 ls []) := by
  unfold n_X12_holdsIf_b55 at h
  obtain ⟨hx, hb, hml, hown, hts, hret, hlk⟩ := id C
  refine lv_iconst (v := 1) hx hb dX12_holdsIf_55 (by decide) ?_
  refine lv_goto (tgt := 60) hx hb dX12_holdsIf_56 (by decide) ?_
  exact w_X12_holdsIf_b60 (F := F) C hrc3 hrc17 h hW (lv_sub hl [0, 1, 2, 3, 4, 5, 6] rfl)
def n_X12_holdsIf_b17_l (F : Nat) (rc3 : Zs → Int32 → Int32 → Int32 → Int32 → Int32 → Int32 → Option (Int32 × Zs)) (rc17 : Zs → Int32 → Int32 → Int32 → Int32 → Int32 → Int32 → Int32 → Int32 → Option (Int32 × Zs)) (S : Zs) (x0 : Int32) (x1 : Int32) (x2 : Int32) (x3 : Int32) (x4 : Int32) (x5 : Int32) (x6 : Int32) (x7 : Int32) : Option (Int32 × Zs) :=
  if (3 : Int32) ≤ x7 then (if x6 = 0 then (n_X12_holdsIf_b111 F rc3 S x0 x1 x2 x3 x4 x5) else (zcl (n_X12_majorX F S x3) (fun v2 S1 => zcl (n_X12_majorY F S1 x3) (fun v4 S3 => zcl (n_X12_isTrueOf F S3 x5 x0 v2 v4) (fun v6 S5 => if v6 = 0 then (n_X12_holdsIf_b111 F rc3 S5 x0 x1 x2 x3 x4 x5) else (zcl (n_X12_minorX F S5 x3) (fun v8 S7 => zcl (n_X12_minorY F S7 x3) (fun v10 S9 => zcl (n_X12_isTrueOf F S9 x5 x1 v8 v10) (fun v12 S11 => if v12 = 0 then (n_X12_holdsIf_b111 F rc3 S11 x0 x1 x2 x3 x4 x5) else (n_X12_holdsIf_b112 F rc3 S11 x0 x1 x2 x3 x4 x5 (1 : Int32))))))))))) else (if x6 = 0 then (n_X12_holdsIf_b59 F rc3 rc17 S x0 x1 x2 x3 x4 x5 x7) else (zcl (n_X12_has F S x4 x7) (fun v14 S13 => if v14 = 0 then (n_X12_holdsIf_b55 F rc3 rc17 S13 x0 x1 x2 x3 x4 x5 x7) else (zcl (n_X12_isTrueOf F S13 x5 (2 : Int32) ((2 : Int32) * x7) ((2 : Int32) * x7)) (fun v16 S15 => if v16 = 0 then (n_X12_holdsIf_b59 F rc3 rc17 S15 x0 x1 x2 x3 x4 x5 x7) else (n_X12_holdsIf_b55 F rc3 rc17 S15 x0 x1 x2 x3 x4 x5 x7))))))
set_option maxRecDepth 20000 in
set_option maxHeartbeats 4000000 in
theorem w_X12_holdsIf_b17_l {F : Nat} {q : (Int32 × Zs)} {S : Zs} {rc3 : Zs → Int32 → Int32 → Int32 → Int32 → Int32 → Int32 → Option (Int32 × Zs)} {rc17 : Zs → Int32 → Int32 → Int32 → Int32 → Int32 → Int32 → Int32 → Int32 → Option (Int32 × Zs)} {x0 : Int32} {x1 : Int32} {x2 : Int32} {x3 : Int32} {x4 : Int32} {x5 : Int32} {x6 : Int32} {x7 : Int32} {ls : Array Slot} {H : Heap} {locs : List Loc} (C : zC p s m args meth c cX12_holdsIf 8 RX12 (some .boolean)) (hrc3 : ∀ (S : Zs) (x0 : Int32) (x1 : Int32) (x2 : Int32) (x3 : Int32) (x4 : Int32) (x5 : Int32) (H : Heap) (locs : List Loc) (ls : Array Slot), rc3 S x0 x1 x2 x3 x4 x5 = some q → zW (mG D cs ad) s S H locs → lv_has ls 8 [(0, .int x0), (1, .int x1), (2, .int x2), (3, .int x3), (4, .int x4), (5, .int x5)] → W p l e (zR 3 67) s m args below meth c H locs 0 0 (zQi (mG D cs ad) q below args s) (F0 m 3 ls [])) (hrc17 : ∀ (S : Zs) (x0 : Int32) (x1 : Int32) (x2 : Int32) (x3 : Int32) (x4 : Int32) (x5 : Int32) (x6 : Int32) (x7 : Int32) (H : Heap) (locs : List Loc) (ls : Array Slot), rc17 S x0 x1 x2 x3 x4 x5 x6 x7 = some q → zW (mG D cs ad) s S H locs → lv_has ls 8 [(0, .int x0), (1, .int x1), (2, .int x2), (3, .int x3), (4, .int x4), (5, .int x5), (6, .int x6), (7, .int x7)] → W p l e (zR 3 67) s m args below meth c H locs 0 0 (zQi (mG D cs ad) q below args s) (F0 m 17 ls [])) (h : n_X12_holdsIf_b17_l F rc3 rc17 S x0 x1 x2 x3 x4 x5 x6 x7 = some q) (hW : zW (mG D cs ad) s S H locs) (hl : lv_has ls 8 [(0, .int x0), (1, .int x1), (2, .int x2), (3, .int x3), (4, .int x4), (5, .int x5), (6, .int x6), (7, .int x7)]) : W p l e (zR 3 67) s m args below meth c H locs 0 0 (zQi (mG D cs ad) q below args s) (F0 m 17 ls []) := by
  unfold n_X12_holdsIf_b17_l at h
  obtain ⟨hx, hb, hml, hown, hts, hret, hlk⟩ := id C
  refine lv_iload hx hb dX12_holdsIf_17 (lv_at hl 7 rfl) ?_
  refine lv_iconst (v := 3) hx hb dX12_holdsIf_19 (by decide) ?_
  refine zz_cge (tgt := 68) C h dX12_holdsIf_20 (by decide) (fun h => ?_) (fun h => ?_)
  · refine lv_iload hx hb dX12_holdsIf_68 (lv_at hl 6 rfl) ?_
    refine zz_ieq (tgt := 111) C h dX12_holdsIf_70 (by decide) (fun h => ?_) (fun h => ?_)
    · exact w_X12_holdsIf_b111 (F := F) C hrc3 h hW (lv_sub hl [0, 1, 2, 3, 4, 5] rfl)
    · refine lv_iload hx hb dX12_holdsIf_73 (lv_at hl 5 rfl) ?_
      refine lv_iload_n hx hb dX12_holdsIf_75 rfl (lv_at hl 0 rfl) ?_
      refine lv_iload_n hx hb dX12_holdsIf_76 rfl (lv_at hl 3 rfl) ?_
      refine zz_callSi (As := [.int x3]) C hW h (fun r hr => c_X12_majorX hr) lk_X12_311 rfl hl.1 ⟨rfl, rfl⟩ ⟨Nat.le_of_ble_eq_true rfl, Nat.le_of_ble_eq_true rfl⟩ (Nat.le_of_ble_eq_true rfl) ⟨Nat.zero_le _, Nat.zero_le _⟩ rfl dX12_holdsIf_77 (fun v2 S1 H locs h hW => ?_)
      refine lv_iload_n hx hb dX12_holdsIf_80 rfl (lv_at hl 3 rfl) ?_
      refine zz_callSi (As := [.int x3]) C hW h (fun r hr => c_X12_majorY hr) lk_X12_314 rfl hl.1 ⟨rfl, rfl⟩ ⟨Nat.le_of_ble_eq_true rfl, Nat.le_of_ble_eq_true rfl⟩ (Nat.le_of_ble_eq_true rfl) ⟨Nat.zero_le _, Nat.zero_le _⟩ rfl dX12_holdsIf_81 (fun v4 S3 H locs h hW => ?_)
      refine zz_callSi (As := [.int x5, .int x0, .int v2, .int v4]) C hW h (fun r hr => c_X12_isTrueOf hr) lk_X12_307 rfl hl.1 ⟨rfl, rfl⟩ ⟨Nat.le_of_ble_eq_true rfl, Nat.le_of_ble_eq_true rfl⟩ (Nat.le_of_ble_eq_true rfl) ⟨Nat.zero_le _, Nat.zero_le _⟩ rfl dX12_holdsIf_84 (fun v6 S5 H locs h hW => ?_)
      refine zz_ieq (tgt := 111) C h dX12_holdsIf_87 (by decide) (fun h => ?_) (fun h => ?_)
      · exact w_X12_holdsIf_b111 (F := F) C hrc3 h hW (lv_sub hl [0, 1, 2, 3, 4, 5] rfl)
      · refine lv_iload hx hb dX12_holdsIf_90 (lv_at hl 5 rfl) ?_
        refine lv_iload_n hx hb dX12_holdsIf_92 rfl (lv_at hl 1 rfl) ?_
        refine lv_iload_n hx hb dX12_holdsIf_93 rfl (lv_at hl 3 rfl) ?_
        refine zz_callSi (As := [.int x3]) C hW h (fun r hr => c_X12_minorX hr) lk_X12_317 rfl hl.1 ⟨rfl, rfl⟩ ⟨Nat.le_of_ble_eq_true rfl, Nat.le_of_ble_eq_true rfl⟩ (Nat.le_of_ble_eq_true rfl) ⟨Nat.zero_le _, Nat.zero_le _⟩ rfl dX12_holdsIf_94 (fun v8 S7 H locs h hW => ?_)
        refine lv_iload_n hx hb dX12_holdsIf_97 rfl (lv_at hl 3 rfl) ?_
        refine zz_callSi (As := [.int x3]) C hW h (fun r hr => c_X12_minorY hr) lk_X12_320 rfl hl.1 ⟨rfl, rfl⟩ ⟨Nat.le_of_ble_eq_true rfl, Nat.le_of_ble_eq_true rfl⟩ (Nat.le_of_ble_eq_true rfl) ⟨Nat.zero_le _, Nat.zero_le _⟩ rfl dX12_holdsIf_98 (fun v10 S9 H locs h hW => ?_)
        refine zz_callSi (As := [.int x5, .int x1, .int v8, .int v10]) C hW h (fun r hr => c_X12_isTrueOf hr) lk_X12_307 rfl hl.1 ⟨rfl, rfl⟩ ⟨Nat.le_of_ble_eq_true rfl, Nat.le_of_ble_eq_true rfl⟩ (Nat.le_of_ble_eq_true rfl) ⟨Nat.zero_le _, Nat.zero_le _⟩ rfl dX12_holdsIf_101 (fun v12 S11 H locs h hW => ?_)
        refine zz_ieq (tgt := 111) C h dX12_holdsIf_104 (by decide) (fun h => ?_) (fun h => ?_)
        · exact w_X12_holdsIf_b111 (F := F) C hrc3 h hW (lv_sub hl [0, 1, 2, 3, 4, 5] rfl)
        · refine lv_iconst (v := 1) hx hb dX12_holdsIf_107 (by decide) ?_
          refine lv_goto (tgt := 112) hx hb dX12_holdsIf_108 (by decide) ?_
          exact w_X12_holdsIf_b112 (F := F) C hrc3 h hW (lv_sub hl [0, 1, 2, 3, 4, 5] rfl)
  · refine lv_iload hx hb dX12_holdsIf_23 (lv_at hl 6 rfl) ?_
    refine zz_ieq (tgt := 59) C h dX12_holdsIf_25 (by decide) (fun h => ?_) (fun h => ?_)
    · exact w_X12_holdsIf_b59 (F := F) C hrc3 hrc17 h hW (lv_sub hl [0, 1, 2, 3, 4, 5, 7] rfl)
    · refine lv_iload hx hb dX12_holdsIf_28 (lv_at hl 4 rfl) ?_
      refine lv_iload hx hb dX12_holdsIf_30 (lv_at hl 7 rfl) ?_
      refine zz_callSi (As := [.int x4, .int x7]) C hW h (fun r hr => c_X12_has hr) lk_X12_129 rfl hl.1 ⟨rfl, rfl⟩ ⟨Nat.le_of_ble_eq_true rfl, Nat.le_of_ble_eq_true rfl⟩ (Nat.le_of_ble_eq_true rfl) ⟨Nat.zero_le _, Nat.zero_le _⟩ rfl dX12_holdsIf_32 (fun v14 S13 H locs h hW => ?_)
      refine zz_ieq (tgt := 55) C h dX12_holdsIf_35 (by decide) (fun h => ?_) (fun h => ?_)
      · exact w_X12_holdsIf_b55 (F := F) C hrc3 hrc17 h hW (lv_sub hl [0, 1, 2, 3, 4, 5, 7] rfl)
      · refine lv_iload hx hb dX12_holdsIf_38 (lv_at hl 5 rfl) ?_
        refine lv_iconst (v := 2) hx hb dX12_holdsIf_40 (by decide) ?_
        refine lv_iconst (v := 2) hx hb dX12_holdsIf_41 (by decide) ?_
        refine lv_iload hx hb dX12_holdsIf_42 (lv_at hl 7 rfl) ?_
        refine lv_imul hx hb dX12_holdsIf_44 ?_
        refine lv_iconst (v := 2) hx hb dX12_holdsIf_45 (by decide) ?_
        refine lv_iload hx hb dX12_holdsIf_46 (lv_at hl 7 rfl) ?_
        refine lv_imul hx hb dX12_holdsIf_48 ?_
        refine zz_callSi (As := [.int x5, .int (2 : Int32), .int ((2 : Int32) * x7), .int ((2 : Int32) * x7)]) C hW h (fun r hr => c_X12_isTrueOf hr) lk_X12_307 rfl hl.1 ⟨rfl, rfl⟩ ⟨Nat.le_of_ble_eq_true rfl, Nat.le_of_ble_eq_true rfl⟩ (Nat.le_of_ble_eq_true rfl) ⟨Nat.zero_le _, Nat.zero_le _⟩ rfl dX12_holdsIf_49 (fun v16 S15 H locs h hW => ?_)
        refine zz_ieq (tgt := 59) C h dX12_holdsIf_52 (by decide) (fun h => ?_) (fun h => ?_)
        · exact w_X12_holdsIf_b59 (F := F) C hrc3 hrc17 h hW (lv_sub hl [0, 1, 2, 3, 4, 5, 7] rfl)
        · exact w_X12_holdsIf_b55 (F := F) C hrc3 hrc17 h hW (lv_sub hl [0, 1, 2, 3, 4, 5, 7] rfl)
def n_X12_holdsIf_b17 (F : Nat) (rc3 : Zs → Int32 → Int32 → Int32 → Int32 → Int32 → Int32 → Option (Int32 × Zs)) (S : Zs) (x0 : Int32) (x1 : Int32) (x2 : Int32) (x3 : Int32) (x4 : Int32) (x5 : Int32) (x6 : Int32) (x7 : Int32) : Option (Int32 × Zs) :=
  zfix (fun (rc : (Zs × Int32 × Int32 × Int32 × Int32 × Int32 × Int32 × Int32 × Int32) → Option (Int32 × Zs)) (u : (Zs × Int32 × Int32 × Int32 × Int32 × Int32 × Int32 × Int32 × Int32)) => n_X12_holdsIf_b17_l F rc3 (fun S x0 x1 x2 x3 x4 x5 x6 x7 => rc (S, x0, x1, x2, x3, x4, x5, x6, x7)) u.1 u.2.1 u.2.2.1 u.2.2.2.1 u.2.2.2.2.1 u.2.2.2.2.2.1 u.2.2.2.2.2.2.1 u.2.2.2.2.2.2.2.1 u.2.2.2.2.2.2.2.2) F (S, x0, x1, x2, x3, x4, x5, x6, x7)
theorem w_X12_holdsIf_b17 {F : Nat} {q : (Int32 × Zs)} {rc3 : Zs → Int32 → Int32 → Int32 → Int32 → Int32 → Int32 → Option (Int32 × Zs)} (C : zC p s m args meth c cX12_holdsIf 8 RX12 (some .boolean)) (hrc3 : ∀ (S : Zs) (x0 : Int32) (x1 : Int32) (x2 : Int32) (x3 : Int32) (x4 : Int32) (x5 : Int32) (H : Heap) (locs : List Loc) (ls : Array Slot), rc3 S x0 x1 x2 x3 x4 x5 = some q → zW (mG D cs ad) s S H locs → lv_has ls 8 [(0, .int x0), (1, .int x1), (2, .int x2), (3, .int x3), (4, .int x4), (5, .int x5)] → W p l e (zR 3 67) s m args below meth c H locs 0 0 (zQi (mG D cs ad) q below args s) (F0 m 3 ls [])) : ∀ (n : Nat) (S : Zs) (x0 : Int32) (x1 : Int32) (x2 : Int32) (x3 : Int32) (x4 : Int32) (x5 : Int32) (x6 : Int32) (x7 : Int32) (H : Heap) (locs : List Loc) (ls : Array Slot), zfix (fun (rc : (Zs × Int32 × Int32 × Int32 × Int32 × Int32 × Int32 × Int32 × Int32) → Option (Int32 × Zs)) (u : (Zs × Int32 × Int32 × Int32 × Int32 × Int32 × Int32 × Int32 × Int32)) => n_X12_holdsIf_b17_l F rc3 (fun S x0 x1 x2 x3 x4 x5 x6 x7 => rc (S, x0, x1, x2, x3, x4, x5, x6, x7)) u.1 u.2.1 u.2.2.1 u.2.2.2.1 u.2.2.2.2.1 u.2.2.2.2.2.1 u.2.2.2.2.2.2.1 u.2.2.2.2.2.2.2.1 u.2.2.2.2.2.2.2.2) n (S, x0, x1, x2, x3, x4, x5, x6, x7) = some q → zW (mG D cs ad) s S H locs → lv_has ls 8 [(0, .int x0), (1, .int x1), (2, .int x2), (3, .int x3), (4, .int x4), (5, .int x5), (6, .int x6), (7, .int x7)] → W p l e (zR 3 67) s m args below meth c H locs 0 0 (zQi (mG D cs ad) q below args s) (F0 m 17 ls []) := by
  intro n
  induction n with
  | zero => intro S x0 x1 x2 x3 x4 x5 x6 x7 H locs ls h; exact absurd h (fun h => by cases h)
  | succ n ih => intro S x0 x1 x2 x3 x4 x5 x6 x7 H locs ls h hW hl; exact w_X12_holdsIf_b17_l (F := F) C hrc3 (fun S x0 x1 x2 x3 x4 x5 x6 x7 H locs ls h hW hl => ih S x0 x1 x2 x3 x4 x5 x6 x7 H locs ls h hW hl) h hW hl
def n_X12_holdsIf_b3_l (F : Nat) (rc3 : Zs → Int32 → Int32 → Int32 → Int32 → Int32 → Int32 → Option (Int32 × Zs)) (S : Zs) (x0 : Int32) (x1 : Int32) (x2 : Int32) (x3 : Int32) (x4 : Int32) (x5 : Int32) : Option (Int32 × Zs) :=
  if (256 : Int32) ≤ x5 then (zrb (1 : Int32) S) else (n_X12_holdsIf_b17 F rc3 S x0 x1 x2 x3 x4 x5 (1 : Int32) (0 : Int32))
set_option maxRecDepth 20000 in
set_option maxHeartbeats 4000000 in
theorem w_X12_holdsIf_b3_l {F : Nat} {q : (Int32 × Zs)} {S : Zs} {rc3 : Zs → Int32 → Int32 → Int32 → Int32 → Int32 → Int32 → Option (Int32 × Zs)} {x0 : Int32} {x1 : Int32} {x2 : Int32} {x3 : Int32} {x4 : Int32} {x5 : Int32} {ls : Array Slot} {H : Heap} {locs : List Loc} (C : zC p s m args meth c cX12_holdsIf 8 RX12 (some .boolean)) (hrc3 : ∀ (S : Zs) (x0 : Int32) (x1 : Int32) (x2 : Int32) (x3 : Int32) (x4 : Int32) (x5 : Int32) (H : Heap) (locs : List Loc) (ls : Array Slot), rc3 S x0 x1 x2 x3 x4 x5 = some q → zW (mG D cs ad) s S H locs → lv_has ls 8 [(0, .int x0), (1, .int x1), (2, .int x2), (3, .int x3), (4, .int x4), (5, .int x5)] → W p l e (zR 3 67) s m args below meth c H locs 0 0 (zQi (mG D cs ad) q below args s) (F0 m 3 ls [])) (h : n_X12_holdsIf_b3_l F rc3 S x0 x1 x2 x3 x4 x5 = some q) (hW : zW (mG D cs ad) s S H locs) (hl : lv_has ls 8 [(0, .int x0), (1, .int x1), (2, .int x2), (3, .int x3), (4, .int x4), (5, .int x5)]) : W p l e (zR 3 67) s m args below meth c H locs 0 0 (zQi (mG D cs ad) q below args s) (F0 m 3 ls []) := by
  unfold n_X12_holdsIf_b3_l at h
  obtain ⟨hx, hb, hml, hown, hts, hret, hlk⟩ := id C
  refine lv_iload hx hb dX12_holdsIf_3 (lv_at hl 5 rfl) ?_
  refine lv_sipush (v := 256) hx hb dX12_holdsIf_5 (by decide) ?_
  refine zz_cge (tgt := 138) C h dX12_holdsIf_8 (by decide) (fun h => ?_) (fun h => ?_)
  · refine lv_iconst (v := 1) hx hb dX12_holdsIf_138 (by decide) ?_
    exact zz_zret C rfl h hW dX12_holdsIf_139
  · refine lv_iconst (v := 1) hx hb dX12_holdsIf_11 (by decide) ?_
    refine lv_istore (lv' := [(6, .int (1 : Int32)), (0, .int x0), (1, .int x1), (2, .int x2), (3, .int x3), (4, .int x4), (5, .int x5)]) hx hb dX12_holdsIf_12 hl (by decide) rfl (fun ls hl => ?_)
    refine lv_iconst (v := 0) hx hb dX12_holdsIf_14 (by decide) ?_
    refine lv_istore (lv' := [(7, .int (0 : Int32)), (6, .int (1 : Int32)), (0, .int x0), (1, .int x1), (2, .int x2), (3, .int x3), (4, .int x4), (5, .int x5)]) hx hb dX12_holdsIf_15 hl (by decide) rfl (fun ls hl => ?_)
    exact w_X12_holdsIf_b17 (F := F) C hrc3 F _ _ _ _ _ _ _ _ _ _ _ _ h hW (lv_sub hl [2, 3, 4, 5, 6, 7, 1, 0] rfl)
def n_X12_holdsIf_b3 (F : Nat)  (S : Zs) (x0 : Int32) (x1 : Int32) (x2 : Int32) (x3 : Int32) (x4 : Int32) (x5 : Int32) : Option (Int32 × Zs) :=
  zfix (fun (rc : (Zs × Int32 × Int32 × Int32 × Int32 × Int32 × Int32) → Option (Int32 × Zs)) (u : (Zs × Int32 × Int32 × Int32 × Int32 × Int32 × Int32)) => n_X12_holdsIf_b3_l F  (fun S x0 x1 x2 x3 x4 x5 => rc (S, x0, x1, x2, x3, x4, x5)) u.1 u.2.1 u.2.2.1 u.2.2.2.1 u.2.2.2.2.1 u.2.2.2.2.2.1 u.2.2.2.2.2.2) F (S, x0, x1, x2, x3, x4, x5)
theorem w_X12_holdsIf_b3 {F : Nat} {q : (Int32 × Zs)}  (C : zC p s m args meth c cX12_holdsIf 8 RX12 (some .boolean))  : ∀ (n : Nat) (S : Zs) (x0 : Int32) (x1 : Int32) (x2 : Int32) (x3 : Int32) (x4 : Int32) (x5 : Int32) (H : Heap) (locs : List Loc) (ls : Array Slot), zfix (fun (rc : (Zs × Int32 × Int32 × Int32 × Int32 × Int32 × Int32) → Option (Int32 × Zs)) (u : (Zs × Int32 × Int32 × Int32 × Int32 × Int32 × Int32)) => n_X12_holdsIf_b3_l F  (fun S x0 x1 x2 x3 x4 x5 => rc (S, x0, x1, x2, x3, x4, x5)) u.1 u.2.1 u.2.2.1 u.2.2.2.1 u.2.2.2.2.1 u.2.2.2.2.2.1 u.2.2.2.2.2.2) n (S, x0, x1, x2, x3, x4, x5) = some q → zW (mG D cs ad) s S H locs → lv_has ls 8 [(0, .int x0), (1, .int x1), (2, .int x2), (3, .int x3), (4, .int x4), (5, .int x5)] → W p l e (zR 3 67) s m args below meth c H locs 0 0 (zQi (mG D cs ad) q below args s) (F0 m 3 ls []) := by
  intro n
  induction n with
  | zero => intro S x0 x1 x2 x3 x4 x5 H locs ls h; exact absurd h (fun h => by cases h)
  | succ n ih => intro S x0 x1 x2 x3 x4 x5 H locs ls h hW hl; exact w_X12_holdsIf_b3_l (F := F) C (fun S x0 x1 x2 x3 x4 x5 H locs ls h hW hl => ih S x0 x1 x2 x3 x4 x5 H locs ls h hW hl) h hW hl
def n_X12_holdsIf_e (F : Nat)  (S : Zs) (x0 : Int32) (x1 : Int32) (x2 : Int32) (x3 : Int32) (x4 : Int32) : Option (Int32 × Zs) :=
  n_X12_holdsIf_b3 F  S x0 x1 x2 x3 x4 (0 : Int32)
set_option maxRecDepth 20000 in
set_option maxHeartbeats 4000000 in
theorem w_X12_holdsIf_e {F : Nat} {q : (Int32 × Zs)} {S : Zs}  {x0 : Int32} {x1 : Int32} {x2 : Int32} {x3 : Int32} {x4 : Int32} {ls : Array Slot} {H : Heap} {locs : List Loc} (C : zC p s m args meth c cX12_holdsIf 8 RX12 (some .boolean))  (h : n_X12_holdsIf_e F  S x0 x1 x2 x3 x4 = some q) (hW : zW (mG D cs ad) s S H locs) (hl : lv_has ls 8 [(0, .int x0), (1, .int x1), (2, .int x2), (3, .int x3), (4, .int x4)]) : W p l e (zR 3 67) s m args below meth c H locs 0 0 (zQi (mG D cs ad) q below args s) (F0 m 0 ls []) := by
  unfold n_X12_holdsIf_e at h
  obtain ⟨hx, hb, hml, hown, hts, hret, hlk⟩ := id C
  refine lv_iconst (v := 0) hx hb dX12_holdsIf_0 (by decide) ?_
  refine lv_istore (lv' := [(5, .int (0 : Int32)), (0, .int x0), (1, .int x1), (2, .int x2), (3, .int x3), (4, .int x4)]) hx hb dX12_holdsIf_1 hl (by decide) rfl (fun ls hl => ?_)
  exact w_X12_holdsIf_b3 (F := F) C F _ _ _ _ _ _ _ _ _ _ h hW (lv_sub hl [1, 2, 3, 4, 5, 0] rfl)
def n_X12_holdsIf (F : Nat) (S : Zs) (x0 : Int32) (x1 : Int32) (x2 : Int32) (x3 : Int32) (x4 : Int32) : Option (Int32 × Zs) := n_X12_holdsIf_e F  S x0 x1 x2 x3 x4
theorem c_X12_holdsIf {l : Launch} {D : va_G} {cs ad : Nat → Nat} {F : Nat} {S : Zs} {x0 : Int32} {x1 : Int32} {x2 : Int32} {x3 : Int32} {x4 : Int32} {q : (Int32 × Zs)} (h : n_X12_holdsIf F S x0 x1 x2 x3 x4 = some q) : zMi l yX12_holdsIf cX12_holdsIf 8 (some .boolean) (zR 3 67) (mG D cs ad) [.int x0, .int x1, .int x2, .int x3, .int x4] S q :=
  zz_enter (by decide) (Nat.le_of_ble_eq_true rfl) (fun p e s m below meth c ls C hW hl => w_X12_holdsIf_e (F := F) C h hW (lv_sub hl [0, 1, 2, 3, 4] rfl))
def n_X12_isToldOfAll_b27 (F : Nat)  (S : Zs) (t0 : Int32) : Option (Int32 × Zs) :=
  zrb t0 S
set_option maxRecDepth 20000 in
set_option maxHeartbeats 4000000 in
theorem w_X12_isToldOfAll_b27 {F : Nat} {q : (Int32 × Zs)} {S : Zs}  {t0 : Int32} {ls : Array Slot} {H : Heap} {locs : List Loc} (C : zC p s m args meth c cX12_isToldOfAll 4 RX12 (some .boolean))  (h : n_X12_isToldOfAll_b27 F  S t0 = some q) (hW : zW (mG D cs ad) s S H locs) (hl : lv_has ls 4 []) : W p l e (zR 0 0) s m args below meth c H locs 0 0 (zQi (mG D cs ad) q below args s) (F0 m 27 ls [.int t0]) := by
  unfold n_X12_isToldOfAll_b27 at h
  obtain ⟨hx, hb, hml, hown, hts, hret, hlk⟩ := id C
  exact zz_zret C rfl h hW dX12_isToldOfAll_27
def n_X12_isToldOfAll_b26 (F : Nat)  (S : Zs)  : Option (Int32 × Zs) :=
  n_X12_isToldOfAll_b27 F  S (0 : Int32)
set_option maxRecDepth 20000 in
set_option maxHeartbeats 4000000 in
theorem w_X12_isToldOfAll_b26 {F : Nat} {q : (Int32 × Zs)} {S : Zs}   {ls : Array Slot} {H : Heap} {locs : List Loc} (C : zC p s m args meth c cX12_isToldOfAll 4 RX12 (some .boolean))  (h : n_X12_isToldOfAll_b26 F  S  = some q) (hW : zW (mG D cs ad) s S H locs) (hl : lv_has ls 4 []) : W p l e (zR 0 0) s m args below meth c H locs 0 0 (zQi (mG D cs ad) q below args s) (F0 m 26 ls []) := by
  unfold n_X12_isToldOfAll_b26 at h
  obtain ⟨hx, hb, hml, hown, hts, hret, hlk⟩ := id C
  refine lv_iconst (v := 0) hx hb dX12_isToldOfAll_26 (by decide) ?_
  exact w_X12_isToldOfAll_b27 (F := F) C h hW (lv_sub hl [] rfl)
def n_X12_isToldOfAll_b22 (F : Nat)  (S : Zs)  : Option (Int32 × Zs) :=
  n_X12_isToldOfAll_b27 F  S (1 : Int32)
set_option maxRecDepth 20000 in
set_option maxHeartbeats 4000000 in
theorem w_X12_isToldOfAll_b22 {F : Nat} {q : (Int32 × Zs)} {S : Zs}   {ls : Array Slot} {H : Heap} {locs : List Loc} (C : zC p s m args meth c cX12_isToldOfAll 4 RX12 (some .boolean))  (h : n_X12_isToldOfAll_b22 F  S  = some q) (hW : zW (mG D cs ad) s S H locs) (hl : lv_has ls 4 []) : W p l e (zR 0 0) s m args below meth c H locs 0 0 (zQi (mG D cs ad) q below args s) (F0 m 22 ls []) := by
  unfold n_X12_isToldOfAll_b22 at h
  obtain ⟨hx, hb, hml, hown, hts, hret, hlk⟩ := id C
  refine lv_iconst (v := 1) hx hb dX12_isToldOfAll_22 (by decide) ?_
  refine lv_goto (tgt := 27) hx hb dX12_isToldOfAll_23 (by decide) ?_
  exact w_X12_isToldOfAll_b27 (F := F) C h hW (lv_sub hl [] rfl)
def n_X12_isToldOfAll_b10 (F : Nat)  (S : Zs) (x0 : Int32) (x1 : Int32) (x3 : Int32) : Option (Int32 × Zs) :=
  if x0 = x3 then (if (x1 - x1 / (2 : Int32) * (2 : Int32)) = (1 : Int32) then (n_X12_isToldOfAll_b22 F  S ) else (n_X12_isToldOfAll_b26 F  S )) else (n_X12_isToldOfAll_b26 F  S )
set_option maxRecDepth 20000 in
set_option maxHeartbeats 4000000 in
theorem w_X12_isToldOfAll_b10 {F : Nat} {q : (Int32 × Zs)} {S : Zs}  {x0 : Int32} {x1 : Int32} {x3 : Int32} {ls : Array Slot} {H : Heap} {locs : List Loc} (C : zC p s m args meth c cX12_isToldOfAll 4 RX12 (some .boolean))  (h : n_X12_isToldOfAll_b10 F  S x0 x1 x3 = some q) (hW : zW (mG D cs ad) s S H locs) (hl : lv_has ls 4 [(0, .int x0), (1, .int x1), (3, .int x3)]) : W p l e (zR 0 0) s m args below meth c H locs 0 0 (zQi (mG D cs ad) q below args s) (F0 m 10 ls []) := by
  unfold n_X12_isToldOfAll_b10 at h
  obtain ⟨hx, hb, hml, hown, hts, hret, hlk⟩ := id C
  refine lv_iload_n hx hb dX12_isToldOfAll_10 rfl (lv_at hl 0 rfl) ?_
  refine lv_iload_n hx hb dX12_isToldOfAll_11 rfl (lv_at hl 2 rfl) ?_
  refine zz_cne (tgt := 26) C h dX12_isToldOfAll_12 (by decide) (fun h => ?_) (fun h => ?_)
  · exact w_X12_isToldOfAll_b26 (F := F) C h hW (lv_sub hl [] rfl)
  · refine lv_iload_n hx hb dX12_isToldOfAll_15 rfl (lv_at hl 1 rfl) ?_
    refine lv_iconst (v := 2) hx hb dX12_isToldOfAll_16 (by decide) ?_
    refine lv_irem hx hb dX12_isToldOfAll_17 (by decide) ?_
    refine lv_iconst (v := 1) hx hb dX12_isToldOfAll_18 (by decide) ?_
    refine zz_cne (tgt := 26) C h dX12_isToldOfAll_19 (by decide) (fun h => ?_) (fun h => ?_)
    · exact w_X12_isToldOfAll_b26 (F := F) C h hW (lv_sub hl [] rfl)
    · exact w_X12_isToldOfAll_b22 (F := F) C h hW (lv_sub hl [] rfl)
def n_X12_isToldOfAll_e (F : Nat)  (S : Zs) (x0 : Int32) (x1 : Int32) (x2 : Int32) (x3 : Int32) : Option (Int32 × Zs) :=
  if x0 = x2 then (if x1 < (2 : Int32) then (n_X12_isToldOfAll_b22 F  S ) else (n_X12_isToldOfAll_b10 F  S x0 x1 x3)) else (n_X12_isToldOfAll_b10 F  S x0 x1 x3)
set_option maxRecDepth 20000 in
set_option maxHeartbeats 4000000 in
theorem w_X12_isToldOfAll_e {F : Nat} {q : (Int32 × Zs)} {S : Zs}  {x0 : Int32} {x1 : Int32} {x2 : Int32} {x3 : Int32} {ls : Array Slot} {H : Heap} {locs : List Loc} (C : zC p s m args meth c cX12_isToldOfAll 4 RX12 (some .boolean))  (h : n_X12_isToldOfAll_e F  S x0 x1 x2 x3 = some q) (hW : zW (mG D cs ad) s S H locs) (hl : lv_has ls 4 [(0, .int x0), (1, .int x1), (2, .int x2), (3, .int x3)]) : W p l e (zR 0 0) s m args below meth c H locs 0 0 (zQi (mG D cs ad) q below args s) (F0 m 0 ls []) := by
  unfold n_X12_isToldOfAll_e at h
  obtain ⟨hx, hb, hml, hown, hts, hret, hlk⟩ := id C
  refine lv_iload_n hx hb dX12_isToldOfAll_0 rfl (lv_at hl 0 rfl) ?_
  refine lv_iload_n hx hb dX12_isToldOfAll_1 rfl (lv_at hl 2 rfl) ?_
  refine zz_cne (tgt := 10) C h dX12_isToldOfAll_2 (by decide) (fun h => ?_) (fun h => ?_)
  · exact w_X12_isToldOfAll_b10 (F := F) C h hW (lv_sub hl [0, 1, 3] rfl)
  · refine lv_iload_n hx hb dX12_isToldOfAll_5 rfl (lv_at hl 1 rfl) ?_
    refine lv_iconst (v := 2) hx hb dX12_isToldOfAll_6 (by decide) ?_
    refine zz_clt (tgt := 22) C h dX12_isToldOfAll_7 (by decide) (fun h => ?_) (fun h => ?_)
    · exact w_X12_isToldOfAll_b22 (F := F) C h hW (lv_sub hl [] rfl)
    · exact w_X12_isToldOfAll_b10 (F := F) C h hW (lv_sub hl [0, 1, 3] rfl)
def n_X12_isToldOfAll (F : Nat) (S : Zs) (x0 : Int32) (x1 : Int32) (x2 : Int32) (x3 : Int32) : Option (Int32 × Zs) := n_X12_isToldOfAll_e F  S x0 x1 x2 x3
theorem c_X12_isToldOfAll {l : Launch} {D : va_G} {cs ad : Nat → Nat} {F : Nat} {S : Zs} {x0 : Int32} {x1 : Int32} {x2 : Int32} {x3 : Int32} {q : (Int32 × Zs)} (h : n_X12_isToldOfAll F S x0 x1 x2 x3 = some q) : zMi l yX12_isToldOfAll cX12_isToldOfAll 4 (some .boolean) (zR 0 0) (mG D cs ad) [.int x0, .int x1, .int x2, .int x3] S q :=
  zz_enter (by decide) (Nat.le_of_ble_eq_true rfl) (fun p e s m below meth c ls C hW hl => w_X12_isToldOfAll_e (F := F) C h hW (lv_sub hl [0, 1, 2, 3] rfl))
def n_X12_denies_b12 (F : Nat)  (S : Zs) (t0 : Int32) : Option (Int32 × Zs) :=
  zrb t0 S
set_option maxRecDepth 20000 in
set_option maxHeartbeats 4000000 in
theorem w_X12_denies_b12 {F : Nat} {q : (Int32 × Zs)} {S : Zs}  {t0 : Int32} {ls : Array Slot} {H : Heap} {locs : List Loc} (C : zC p s m args meth c cX12_denies 1 RX12 (some .boolean))  (h : n_X12_denies_b12 F  S t0 = some q) (hW : zW (mG D cs ad) s S H locs) (hl : lv_has ls 1 []) : W p l e (zR 0 0) s m args below meth c H locs 0 0 (zQi (mG D cs ad) q below args s) (F0 m 12 ls [.int t0]) := by
  unfold n_X12_denies_b12 at h
  obtain ⟨hx, hb, hml, hown, hts, hret, hlk⟩ := id C
  exact zz_zret C rfl h hW dX12_denies_12
def n_X12_denies_e (F : Nat)  (S : Zs) (x0 : Int32) : Option (Int32 × Zs) :=
  if (x0 - x0 / (2 : Int32) * (2 : Int32)) = (1 : Int32) then (n_X12_denies_b12 F  S (1 : Int32)) else (n_X12_denies_b12 F  S (0 : Int32))
set_option maxRecDepth 20000 in
set_option maxHeartbeats 4000000 in
theorem w_X12_denies_e {F : Nat} {q : (Int32 × Zs)} {S : Zs}  {x0 : Int32} {ls : Array Slot} {H : Heap} {locs : List Loc} (C : zC p s m args meth c cX12_denies 1 RX12 (some .boolean))  (h : n_X12_denies_e F  S x0 = some q) (hW : zW (mG D cs ad) s S H locs) (hl : lv_has ls 1 [(0, .int x0)]) : W p l e (zR 0 0) s m args below meth c H locs 0 0 (zQi (mG D cs ad) q below args s) (F0 m 0 ls []) := by
  unfold n_X12_denies_e at h
  obtain ⟨hx, hb, hml, hown, hts, hret, hlk⟩ := id C
  refine lv_iload_n hx hb dX12_denies_0 rfl (lv_at hl 0 rfl) ?_
  refine lv_iconst (v := 2) hx hb dX12_denies_1 (by decide) ?_
  refine lv_irem hx hb dX12_denies_2 (by decide) ?_
  refine lv_iconst (v := 1) hx hb dX12_denies_3 (by decide) ?_
  refine zz_cne (tgt := 11) C h dX12_denies_4 (by decide) (fun h => ?_) (fun h => ?_)
  · refine lv_iconst (v := 0) hx hb dX12_denies_11 (by decide) ?_
    exact w_X12_denies_b12 (F := F) C h hW (lv_sub hl [] rfl)
  · refine lv_iconst (v := 1) hx hb dX12_denies_7 (by decide) ?_
    refine lv_goto (tgt := 12) hx hb dX12_denies_8 (by decide) ?_
    exact w_X12_denies_b12 (F := F) C h hW (lv_sub hl [] rfl)
def n_X12_denies (F : Nat) (S : Zs) (x0 : Int32) : Option (Int32 × Zs) := n_X12_denies_e F  S x0
theorem c_X12_denies {l : Launch} {D : va_G} {cs ad : Nat → Nat} {F : Nat} {S : Zs} {x0 : Int32} {q : (Int32 × Zs)} (h : n_X12_denies F S x0 = some q) : zMi l yX12_denies cX12_denies 1 (some .boolean) (zR 0 0) (mG D cs ad) [.int x0] S q :=
  zz_enter (by decide) (Nat.le_of_ble_eq_true rfl) (fun p e s m below meth c ls C hW hl => w_X12_denies_e (F := F) C h hW (lv_sub hl [0] rfl))
def n_X12_broken_b146 (F : Nat)  (S : Zs) (t0 : Int32) : Option (Int32 × Zs) :=
  some (t0, S)
set_option maxRecDepth 20000 in
set_option maxHeartbeats 4000000 in
theorem w_X12_broken_b146 {F : Nat} {q : (Int32 × Zs)} {S : Zs}  {t0 : Int32} {ls : Array Slot} {H : Heap} {locs : List Loc} (C : zC p s m args meth c cX12_broken 8 RX12 (some .int))  (h : n_X12_broken_b146 F  S t0 = some q) (hW : zW (mG D cs ad) s S H locs) (hl : lv_has ls 8 []) : W p l e (zR 1 23) s m args below meth c H locs 0 0 (zQi (mG D cs ad) q below args s) (F0 m 146 ls [.int t0]) := by
  unfold n_X12_broken_b146 at h
  obtain ⟨hx, hb, hml, hown, hts, hret, hlk⟩ := id C
  exact zz_iret C rfl h hW dX12_broken_146
def n_X12_broken_b133 (F : Nat)  (S : Zs) (x2 : Int32) (t0 : Int32) : Option (Int32 × Zs) :=
  zcl (n_X12_denies F S x2) (fun v2 S1 => if t0 = v2 then (n_X12_broken_b146 F  S1 (6 : Int32)) else (n_X12_broken_b146 F  S1 (5 : Int32)))
set_option maxRecDepth 20000 in
set_option maxHeartbeats 4000000 in
theorem w_X12_broken_b133 {F : Nat} {q : (Int32 × Zs)} {S : Zs}  {x2 : Int32} {t0 : Int32} {ls : Array Slot} {H : Heap} {locs : List Loc} (C : zC p s m args meth c cX12_broken 8 RX12 (some .int))  (h : n_X12_broken_b133 F  S x2 t0 = some q) (hW : zW (mG D cs ad) s S H locs) (hl : lv_has ls 8 [(2, .int x2)]) : W p l e (zR 1 23) s m args below meth c H locs 0 0 (zQi (mG D cs ad) q below args s) (F0 m 133 ls [.int t0]) := by
  unfold n_X12_broken_b133 at h
  obtain ⟨hx, hb, hml, hown, hts, hret, hlk⟩ := id C
  refine lv_iload_n hx hb dX12_broken_133 rfl (lv_at hl 0 rfl) ?_
  refine zz_callSi (As := [.int x2]) C hW h (fun r hr => c_X12_denies hr) lk_X12_326 rfl hl.1 ⟨rfl, rfl⟩ ⟨Nat.le_of_ble_eq_true rfl, Nat.le_of_ble_eq_true rfl⟩ (Nat.le_of_ble_eq_true rfl) ⟨Nat.zero_le _, Nat.zero_le _⟩ rfl dX12_broken_134 (fun v2 S1 H locs h hW => ?_)
  refine zz_ceq (tgt := 144) C h dX12_broken_137 (by decide) (fun h => ?_) (fun h => ?_)
  · refine lv_bipush (v := 6) hx hb dX12_broken_144 (by decide) ?_
    exact w_X12_broken_b146 (F := F) C h hW (lv_sub hl [] rfl)
  · refine lv_iconst (v := 5) hx hb dX12_broken_140 (by decide) ?_
    refine lv_goto (tgt := 146) hx hb dX12_broken_141 (by decide) ?_
    exact w_X12_broken_b146 (F := F) C h hW (lv_sub hl [] rfl)
def n_X12_broken_b128 (F : Nat)  (S : Zs) (x2 : Int32) : Option (Int32 × Zs) :=
  n_X12_broken_b133 F  S x2 (1 : Int32)
set_option maxRecDepth 20000 in
set_option maxHeartbeats 4000000 in
theorem w_X12_broken_b128 {F : Nat} {q : (Int32 × Zs)} {S : Zs}  {x2 : Int32} {ls : Array Slot} {H : Heap} {locs : List Loc} (C : zC p s m args meth c cX12_broken 8 RX12 (some .int))  (h : n_X12_broken_b128 F  S x2 = some q) (hW : zW (mG D cs ad) s S H locs) (hl : lv_has ls 8 [(2, .int x2)]) : W p l e (zR 1 23) s m args below meth c H locs 0 0 (zQi (mG D cs ad) q below args s) (F0 m 128 ls []) := by
  unfold n_X12_broken_b128 at h
  obtain ⟨hx, hb, hml, hown, hts, hret, hlk⟩ := id C
  refine lv_iconst (v := 1) hx hb dX12_broken_128 (by decide) ?_
  refine lv_goto (tgt := 133) hx hb dX12_broken_129 (by decide) ?_
  exact w_X12_broken_b133 (F := F) C h hW (lv_sub hl [0] rfl)
def n_X12_broken_b114 (F : Nat)  (S : Zs) (x0 : Int32) (x1 : Int32) (x2 : Int32) : Option (Int32 × Zs) :=
  zcl (n_X12_denies F S x0) (fun v2 S1 => if v2 = 0 then (zcl (n_X12_denies F S1 x1) (fun v4 S3 => if v4 = 0 then (n_X12_broken_b133 F  S3 x2 (0 : Int32)) else (n_X12_broken_b128 F  S3 x2))) else (n_X12_broken_b128 F  S1 x2))
set_option maxRecDepth 20000 in
set_option maxHeartbeats 4000000 in
theorem w_X12_broken_b114 {F : Nat} {q : (Int32 × Zs)} {S : Zs}  {x0 : Int32} {x1 : Int32} {x2 : Int32} {ls : Array Slot} {H : Heap} {locs : List Loc} (C : zC p s m args meth c cX12_broken 8 RX12 (some .int))  (h : n_X12_broken_b114 F  S x0 x1 x2 = some q) (hW : zW (mG D cs ad) s S H locs) (hl : lv_has ls 8 [(0, .int x0), (1, .int x1), (2, .int x2)]) : W p l e (zR 1 23) s m args below meth c H locs 0 0 (zQi (mG D cs ad) q below args s) (F0 m 114 ls []) := by
  unfold n_X12_broken_b114 at h
  obtain ⟨hx, hb, hml, hown, hts, hret, hlk⟩ := id C
  refine lv_iload_n hx hb dX12_broken_114 rfl (lv_at hl 0 rfl) ?_
  refine zz_callSi (As := [.int x0]) C hW h (fun r hr => c_X12_denies hr) lk_X12_326 rfl hl.1 ⟨rfl, rfl⟩ ⟨Nat.le_of_ble_eq_true rfl, Nat.le_of_ble_eq_true rfl⟩ (Nat.le_of_ble_eq_true rfl) ⟨Nat.zero_le _, Nat.zero_le _⟩ rfl dX12_broken_115 (fun v2 S1 H locs h hW => ?_)
  refine zz_ine (tgt := 128) C h dX12_broken_118 (by decide) (fun h => ?_) (fun h => ?_)
  · exact w_X12_broken_b128 (F := F) C h hW (lv_sub hl [2] rfl)
  · refine lv_iload_n hx hb dX12_broken_121 rfl (lv_at hl 1 rfl) ?_
    refine zz_callSi (As := [.int x1]) C hW h (fun r hr => c_X12_denies hr) lk_X12_326 rfl hl.1 ⟨rfl, rfl⟩ ⟨Nat.le_of_ble_eq_true rfl, Nat.le_of_ble_eq_true rfl⟩ (Nat.le_of_ble_eq_true rfl) ⟨Nat.zero_le _, Nat.zero_le _⟩ rfl dX12_broken_122 (fun v4 S3 H locs h hW => ?_)
    refine zz_ieq (tgt := 132) C h dX12_broken_125 (by decide) (fun h => ?_) (fun h => ?_)
    · refine lv_iconst (v := 0) hx hb dX12_broken_132 (by decide) ?_
      exact w_X12_broken_b133 (F := F) C h hW (lv_sub hl [2] rfl)
    · exact w_X12_broken_b128 (F := F) C h hW (lv_sub hl [2] rfl)
def n_X12_broken_b98 (F : Nat)  (S : Zs) (x0 : Int32) (x1 : Int32) (x2 : Int32) : Option (Int32 × Zs) :=
  zcl (n_X12_denies F S x0) (fun v2 S1 => if v2 = 0 then (n_X12_broken_b114 F  S1 x0 x1 x2) else (zcl (n_X12_denies F S1 x1) (fun v4 S3 => if v4 = 0 then (n_X12_broken_b114 F  S3 x0 x1 x2) else (some ((4 : Int32), S3)))))
set_option maxRecDepth 20000 in
set_option maxHeartbeats 4000000 in
theorem w_X12_broken_b98 {F : Nat} {q : (Int32 × Zs)} {S : Zs}  {x0 : Int32} {x1 : Int32} {x2 : Int32} {ls : Array Slot} {H : Heap} {locs : List Loc} (C : zC p s m args meth c cX12_broken 8 RX12 (some .int))  (h : n_X12_broken_b98 F  S x0 x1 x2 = some q) (hW : zW (mG D cs ad) s S H locs) (hl : lv_has ls 8 [(0, .int x0), (1, .int x1), (2, .int x2)]) : W p l e (zR 1 23) s m args below meth c H locs 0 0 (zQi (mG D cs ad) q below args s) (F0 m 98 ls []) := by
  unfold n_X12_broken_b98 at h
  obtain ⟨hx, hb, hml, hown, hts, hret, hlk⟩ := id C
  refine lv_iload_n hx hb dX12_broken_98 rfl (lv_at hl 0 rfl) ?_
  refine zz_callSi (As := [.int x0]) C hW h (fun r hr => c_X12_denies hr) lk_X12_326 rfl hl.1 ⟨rfl, rfl⟩ ⟨Nat.le_of_ble_eq_true rfl, Nat.le_of_ble_eq_true rfl⟩ (Nat.le_of_ble_eq_true rfl) ⟨Nat.zero_le _, Nat.zero_le _⟩ rfl dX12_broken_99 (fun v2 S1 H locs h hW => ?_)
  refine zz_ieq (tgt := 114) C h dX12_broken_102 (by decide) (fun h => ?_) (fun h => ?_)
  · exact w_X12_broken_b114 (F := F) C h hW (lv_sub hl [0, 1, 2] rfl)
  · refine lv_iload_n hx hb dX12_broken_105 rfl (lv_at hl 1 rfl) ?_
    refine zz_callSi (As := [.int x1]) C hW h (fun r hr => c_X12_denies hr) lk_X12_326 rfl hl.1 ⟨rfl, rfl⟩ ⟨Nat.le_of_ble_eq_true rfl, Nat.le_of_ble_eq_true rfl⟩ (Nat.le_of_ble_eq_true rfl) ⟨Nat.zero_le _, Nat.zero_le _⟩ rfl dX12_broken_106 (fun v4 S3 H locs h hW => ?_)
    refine zz_ieq (tgt := 114) C h dX12_broken_109 (by decide) (fun h => ?_) (fun h => ?_)
    · exact w_X12_broken_b114 (F := F) C h hW (lv_sub hl [0, 1, 2] rfl)
    · refine lv_iconst (v := 4) hx hb dX12_broken_112 (by decide) ?_
      exact zz_iret C rfl h hW dX12_broken_113
def n_X12_broken_b74 (F : Nat)  (S : Zs) (x0 : Int32) (x1 : Int32) (x2 : Int32) (x6 : Int32) (x7 : Int32) : Option (Int32 × Zs) :=
  zcl (n_X12_isToldOfAll F S (0 : Int32) x2 (0 : Int32) (4 : Int32)) (fun v2 S1 => if v2 = 0 then (n_X12_broken_b98 F  S1 x0 x1 x2) else (zcl (n_X12_isToldOfAll F S1 (0 : Int32) x1 x6 x7) (fun v4 S3 => if v4 = 0 then (some ((3 : Int32), S3)) else (n_X12_broken_b98 F  S3 x0 x1 x2))))
set_option maxRecDepth 20000 in
set_option maxHeartbeats 4000000 in
theorem w_X12_broken_b74 {F : Nat} {q : (Int32 × Zs)} {S : Zs}  {x0 : Int32} {x1 : Int32} {x2 : Int32} {x6 : Int32} {x7 : Int32} {ls : Array Slot} {H : Heap} {locs : List Loc} (C : zC p s m args meth c cX12_broken 8 RX12 (some .int))  (h : n_X12_broken_b74 F  S x0 x1 x2 x6 x7 = some q) (hW : zW (mG D cs ad) s S H locs) (hl : lv_has ls 8 [(0, .int x0), (1, .int x1), (2, .int x2), (6, .int x6), (7, .int x7)]) : W p l e (zR 1 23) s m args below meth c H locs 0 0 (zQi (mG D cs ad) q below args s) (F0 m 74 ls []) := by
  unfold n_X12_broken_b74 at h
  obtain ⟨hx, hb, hml, hown, hts, hret, hlk⟩ := id C
  refine lv_iconst (v := 0) hx hb dX12_broken_74 (by decide) ?_
  refine lv_iload_n hx hb dX12_broken_75 rfl (lv_at hl 2 rfl) ?_
  refine lv_iconst (v := 0) hx hb dX12_broken_76 (by decide) ?_
  refine lv_iconst (v := 4) hx hb dX12_broken_77 (by decide) ?_
  refine zz_callSi (As := [.int (0 : Int32), .int x2, .int (0 : Int32), .int (4 : Int32)]) C hW h (fun r hr => c_X12_isToldOfAll hr) lk_X12_323 rfl hl.1 ⟨rfl, rfl⟩ ⟨Nat.le_of_ble_eq_true rfl, Nat.le_of_ble_eq_true rfl⟩ (Nat.le_of_ble_eq_true rfl) ⟨Nat.zero_le _, Nat.zero_le _⟩ rfl dX12_broken_78 (fun v2 S1 H locs h hW => ?_)
  refine zz_ieq (tgt := 98) C h dX12_broken_81 (by decide) (fun h => ?_) (fun h => ?_)
  · exact w_X12_broken_b98 (F := F) C h hW (lv_sub hl [0, 1, 2] rfl)
  · refine lv_iconst (v := 0) hx hb dX12_broken_84 (by decide) ?_
    refine lv_iload_n hx hb dX12_broken_85 rfl (lv_at hl 1 rfl) ?_
    refine lv_iload hx hb dX12_broken_86 (lv_at hl 3 rfl) ?_
    refine lv_iload hx hb dX12_broken_88 (lv_at hl 4 rfl) ?_
    refine zz_callSi (As := [.int (0 : Int32), .int x1, .int x6, .int x7]) C hW h (fun r hr => c_X12_isToldOfAll hr) lk_X12_323 rfl hl.1 ⟨rfl, rfl⟩ ⟨Nat.le_of_ble_eq_true rfl, Nat.le_of_ble_eq_true rfl⟩ (Nat.le_of_ble_eq_true rfl) ⟨Nat.zero_le _, Nat.zero_le _⟩ rfl dX12_broken_90 (fun v4 S3 H locs h hW => ?_)
    refine zz_ine (tgt := 98) C h dX12_broken_93 (by decide) (fun h => ?_) (fun h => ?_)
    · exact w_X12_broken_b98 (F := F) C h hW (lv_sub hl [0, 1, 2] rfl)
    · refine lv_iconst (v := 3) hx hb dX12_broken_96 (by decide) ?_
      exact zz_iret C rfl h hW dX12_broken_97
def n_X12_broken_b50 (F : Nat)  (S : Zs) (x0 : Int32) (x1 : Int32) (x2 : Int32) (x4 : Int32) (x5 : Int32) (x6 : Int32) (x7 : Int32) : Option (Int32 × Zs) :=
  zcl (n_X12_isToldOfAll F S (4 : Int32) x2 (0 : Int32) (4 : Int32)) (fun v2 S1 => if v2 = 0 then (n_X12_broken_b74 F  S1 x0 x1 x2 x6 x7) else (zcl (n_X12_isToldOfAll F S1 (4 : Int32) x0 x4 x5) (fun v4 S3 => if v4 = 0 then (some ((2 : Int32), S3)) else (n_X12_broken_b74 F  S3 x0 x1 x2 x6 x7))))
set_option maxRecDepth 20000 in
set_option maxHeartbeats 4000000 in
theorem w_X12_broken_b50 {F : Nat} {q : (Int32 × Zs)} {S : Zs}  {x0 : Int32} {x1 : Int32} {x2 : Int32} {x4 : Int32} {x5 : Int32} {x6 : Int32} {x7 : Int32} {ls : Array Slot} {H : Heap} {locs : List Loc} (C : zC p s m args meth c cX12_broken 8 RX12 (some .int))  (h : n_X12_broken_b50 F  S x0 x1 x2 x4 x5 x6 x7 = some q) (hW : zW (mG D cs ad) s S H locs) (hl : lv_has ls 8 [(0, .int x0), (1, .int x1), (2, .int x2), (4, .int x4), (5, .int x5), (6, .int x6), (7, .int x7)]) : W p l e (zR 1 23) s m args below meth c H locs 0 0 (zQi (mG D cs ad) q below args s) (F0 m 50 ls []) := by
  unfold n_X12_broken_b50 at h
  obtain ⟨hx, hb, hml, hown, hts, hret, hlk⟩ := id C
  refine lv_iconst (v := 4) hx hb dX12_broken_50 (by decide) ?_
  refine lv_iload_n hx hb dX12_broken_51 rfl (lv_at hl 2 rfl) ?_
  refine lv_iconst (v := 0) hx hb dX12_broken_52 (by decide) ?_
  refine lv_iconst (v := 4) hx hb dX12_broken_53 (by decide) ?_
  refine zz_callSi (As := [.int (4 : Int32), .int x2, .int (0 : Int32), .int (4 : Int32)]) C hW h (fun r hr => c_X12_isToldOfAll hr) lk_X12_323 rfl hl.1 ⟨rfl, rfl⟩ ⟨Nat.le_of_ble_eq_true rfl, Nat.le_of_ble_eq_true rfl⟩ (Nat.le_of_ble_eq_true rfl) ⟨Nat.zero_le _, Nat.zero_le _⟩ rfl dX12_broken_54 (fun v2 S1 H locs h hW => ?_)
  refine zz_ieq (tgt := 74) C h dX12_broken_57 (by decide) (fun h => ?_) (fun h => ?_)
  · exact w_X12_broken_b74 (F := F) C h hW (lv_sub hl [0, 1, 2, 5, 6] rfl)
  · refine lv_iconst (v := 4) hx hb dX12_broken_60 (by decide) ?_
    refine lv_iload_n hx hb dX12_broken_61 rfl (lv_at hl 0 rfl) ?_
    refine lv_iload hx hb dX12_broken_62 (lv_at hl 3 rfl) ?_
    refine lv_iload hx hb dX12_broken_64 (lv_at hl 4 rfl) ?_
    refine zz_callSi (As := [.int (4 : Int32), .int x0, .int x4, .int x5]) C hW h (fun r hr => c_X12_isToldOfAll hr) lk_X12_323 rfl hl.1 ⟨rfl, rfl⟩ ⟨Nat.le_of_ble_eq_true rfl, Nat.le_of_ble_eq_true rfl⟩ (Nat.le_of_ble_eq_true rfl) ⟨Nat.zero_le _, Nat.zero_le _⟩ rfl dX12_broken_66 (fun v4 S3 H locs h hW => ?_)
    refine zz_ine (tgt := 74) C h dX12_broken_69 (by decide) (fun h => ?_) (fun h => ?_)
    · exact w_X12_broken_b74 (F := F) C h hW (lv_sub hl [0, 1, 2, 5, 6] rfl)
    · refine lv_iconst (v := 2) hx hb dX12_broken_72 (by decide) ?_
      exact zz_iret C rfl h hW dX12_broken_73
def n_X12_broken_e (F : Nat)  (S : Zs) (x0 : Int32) (x1 : Int32) (x2 : Int32) (x3 : Int32) : Option (Int32 × Zs) :=
  zcl (n_X12_majorX F S x3) (fun v2 S1 => zcl (n_X12_majorY F S1 x3) (fun v4 S3 => zcl (n_X12_minorX F S3 x3) (fun v6 S5 => zcl (n_X12_minorY F S5 x3) (fun v8 S7 => zcl (n_X12_isToldOfAll F S7 (2 : Int32) x0 v2 v4) (fun v10 S9 => if v10 = 0 then (zcl (n_X12_isToldOfAll F S9 (2 : Int32) x1 v6 v8) (fun v12 S11 => if v12 = 0 then (some ((1 : Int32), S11)) else (n_X12_broken_b50 F  S11 x0 x1 x2 v2 v4 v6 v8))) else (n_X12_broken_b50 F  S9 x0 x1 x2 v2 v4 v6 v8))))))
set_option maxRecDepth 20000 in
set_option maxHeartbeats 4000000 in
theorem w_X12_broken_e {F : Nat} {q : (Int32 × Zs)} {S : Zs}  {x0 : Int32} {x1 : Int32} {x2 : Int32} {x3 : Int32} {ls : Array Slot} {H : Heap} {locs : List Loc} (C : zC p s m args meth c cX12_broken 8 RX12 (some .int))  (h : n_X12_broken_e F  S x0 x1 x2 x3 = some q) (hW : zW (mG D cs ad) s S H locs) (hl : lv_has ls 8 [(0, .int x0), (1, .int x1), (2, .int x2), (3, .int x3)]) : W p l e (zR 1 23) s m args below meth c H locs 0 0 (zQi (mG D cs ad) q below args s) (F0 m 0 ls []) := by
  unfold n_X12_broken_e at h
  obtain ⟨hx, hb, hml, hown, hts, hret, hlk⟩ := id C
  refine lv_iload_n hx hb dX12_broken_0 rfl (lv_at hl 3 rfl) ?_
  refine zz_callSi (As := [.int x3]) C hW h (fun r hr => c_X12_majorX hr) lk_X12_311 rfl hl.1 ⟨rfl, rfl⟩ ⟨Nat.le_of_ble_eq_true rfl, Nat.le_of_ble_eq_true rfl⟩ (Nat.le_of_ble_eq_true rfl) ⟨Nat.zero_le _, Nat.zero_le _⟩ rfl dX12_broken_1 (fun v2 S1 H locs h hW => ?_)
  refine lv_istore (lv' := [(4, .int v2), (0, .int x0), (1, .int x1), (2, .int x2), (3, .int x3)]) hx hb dX12_broken_4 hl (by decide) rfl (fun ls hl => ?_)
  refine lv_iload_n hx hb dX12_broken_6 rfl (lv_at hl 4 rfl) ?_
  refine zz_callSi (As := [.int x3]) C hW h (fun r hr => c_X12_majorY hr) lk_X12_314 rfl hl.1 ⟨rfl, rfl⟩ ⟨Nat.le_of_ble_eq_true rfl, Nat.le_of_ble_eq_true rfl⟩ (Nat.le_of_ble_eq_true rfl) ⟨Nat.zero_le _, Nat.zero_le _⟩ rfl dX12_broken_7 (fun v4 S3 H locs h hW => ?_)
  refine lv_istore (lv' := [(5, .int v4), (4, .int v2), (0, .int x0), (1, .int x1), (2, .int x2), (3, .int x3)]) hx hb dX12_broken_10 hl (by decide) rfl (fun ls hl => ?_)
  refine lv_iload_n hx hb dX12_broken_12 rfl (lv_at hl 5 rfl) ?_
  refine zz_callSi (As := [.int x3]) C hW h (fun r hr => c_X12_minorX hr) lk_X12_317 rfl hl.1 ⟨rfl, rfl⟩ ⟨Nat.le_of_ble_eq_true rfl, Nat.le_of_ble_eq_true rfl⟩ (Nat.le_of_ble_eq_true rfl) ⟨Nat.zero_le _, Nat.zero_le _⟩ rfl dX12_broken_13 (fun v6 S5 H locs h hW => ?_)
  refine lv_istore (lv' := [(6, .int v6), (5, .int v4), (4, .int v2), (0, .int x0), (1, .int x1), (2, .int x2), (3, .int x3)]) hx hb dX12_broken_16 hl (by decide) rfl (fun ls hl => ?_)
  refine lv_iload_n hx hb dX12_broken_18 rfl (lv_at hl 6 rfl) ?_
  refine zz_callSi (As := [.int x3]) C hW h (fun r hr => c_X12_minorY hr) lk_X12_320 rfl hl.1 ⟨rfl, rfl⟩ ⟨Nat.le_of_ble_eq_true rfl, Nat.le_of_ble_eq_true rfl⟩ (Nat.le_of_ble_eq_true rfl) ⟨Nat.zero_le _, Nat.zero_le _⟩ rfl dX12_broken_19 (fun v8 S7 H locs h hW => ?_)
  refine lv_istore (lv' := [(7, .int v8), (6, .int v6), (5, .int v4), (4, .int v2), (0, .int x0), (1, .int x1), (2, .int x2), (3, .int x3)]) hx hb dX12_broken_22 hl (by decide) rfl (fun ls hl => ?_)
  refine lv_iconst (v := 2) hx hb dX12_broken_24 (by decide) ?_
  refine lv_iload_n hx hb dX12_broken_25 rfl (lv_at hl 4 rfl) ?_
  refine lv_iload hx hb dX12_broken_26 (lv_at hl 3 rfl) ?_
  refine lv_iload hx hb dX12_broken_28 (lv_at hl 2 rfl) ?_
  refine zz_callSi (As := [.int (2 : Int32), .int x0, .int v2, .int v4]) C hW h (fun r hr => c_X12_isToldOfAll hr) lk_X12_323 rfl hl.1 ⟨rfl, rfl⟩ ⟨Nat.le_of_ble_eq_true rfl, Nat.le_of_ble_eq_true rfl⟩ (Nat.le_of_ble_eq_true rfl) ⟨Nat.zero_le _, Nat.zero_le _⟩ rfl dX12_broken_30 (fun v10 S9 H locs h hW => ?_)
  refine zz_ine (tgt := 50) C h dX12_broken_33 (by decide) (fun h => ?_) (fun h => ?_)
  · exact w_X12_broken_b50 (F := F) C h hW (lv_sub hl [4, 5, 6, 3, 2, 1, 0] rfl)
  · refine lv_iconst (v := 2) hx hb dX12_broken_36 (by decide) ?_
    refine lv_iload_n hx hb dX12_broken_37 rfl (lv_at hl 5 rfl) ?_
    refine lv_iload hx hb dX12_broken_38 (lv_at hl 1 rfl) ?_
    refine lv_iload hx hb dX12_broken_40 (lv_at hl 0 rfl) ?_
    refine zz_callSi (As := [.int (2 : Int32), .int x1, .int v6, .int v8]) C hW h (fun r hr => c_X12_isToldOfAll hr) lk_X12_323 rfl hl.1 ⟨rfl, rfl⟩ ⟨Nat.le_of_ble_eq_true rfl, Nat.le_of_ble_eq_true rfl⟩ (Nat.le_of_ble_eq_true rfl) ⟨Nat.zero_le _, Nat.zero_le _⟩ rfl dX12_broken_42 (fun v12 S11 H locs h hW => ?_)
    refine zz_ine (tgt := 50) C h dX12_broken_45 (by decide) (fun h => ?_) (fun h => ?_)
    · exact w_X12_broken_b50 (F := F) C h hW (lv_sub hl [4, 5, 6, 3, 2, 1, 0] rfl)
    · refine lv_iconst (v := 1) hx hb dX12_broken_48 (by decide) ?_
      exact zz_iret C rfl h hW dX12_broken_49
def n_X12_broken (F : Nat) (S : Zs) (x0 : Int32) (x1 : Int32) (x2 : Int32) (x3 : Int32) : Option (Int32 × Zs) := n_X12_broken_e F  S x0 x1 x2 x3
theorem c_X12_broken {l : Launch} {D : va_G} {cs ad : Nat → Nat} {F : Nat} {S : Zs} {x0 : Int32} {x1 : Int32} {x2 : Int32} {x3 : Int32} {q : (Int32 × Zs)} (h : n_X12_broken F S x0 x1 x2 x3 = some q) : zMi l yX12_broken cX12_broken 8 (some .int) (zR 1 23) (mG D cs ad) [.int x0, .int x1, .int x2, .int x3] S q :=
  zz_enter (by decide) (Nat.le_of_ble_eq_true rfl) (fun p e s m below meth c ls C hW hl => w_X12_broken_e (F := F) C h hW (lv_sub hl [0, 1, 2, 3] rfl))
def n_X12_mood_0_b54 (F : Nat)  (S : Zs)  : Option (Int32 × Zs) :=
  some ((-1 : Int32), S)
set_option maxRecDepth 20000 in
set_option maxHeartbeats 4000000 in
theorem w_X12_mood_0_b54 {F : Nat} {q : (Int32 × Zs)} {S : Zs}   {ls : Array Slot} {H : Heap} {locs : List Loc} (C : zC p s m args meth c cX12_mood 8 RX12 (some .int))  (h : n_X12_mood_0_b54 F  S  = some q) (hW : zW (mG D cs ad) s S H locs) (hl : lv_has ls 8 []) : W p l e (zR 4 94) s m args below meth c H locs 0 0 (zQi (mG D cs ad) q below args s) (F0 m 54 ls []) := by
  unfold n_X12_mood_0_b54 at h
  obtain ⟨hx, hb, hml, hown, hts, hret, hlk⟩ := id C
  refine lv_iconst (v := -1) hx hb dX12_mood_54 (by decide) ?_
  exact zz_iret C rfl h hW dX12_mood_55
def n_X12_mood_0_b178 (F : Nat)  (S : Zs) (t0 : Int32) : Option (Int32 × Zs) :=
  some (t0, S)
set_option maxRecDepth 20000 in
set_option maxHeartbeats 4000000 in
theorem w_X12_mood_0_b178 {F : Nat} {q : (Int32 × Zs)} {S : Zs}  {t0 : Int32} {ls : Array Slot} {H : Heap} {locs : List Loc} (C : zC p s m args meth c cX12_mood 8 RX12 (some .int))  (h : n_X12_mood_0_b178 F  S t0 = some q) (hW : zW (mG D cs ad) s S H locs) (hl : lv_has ls 8 []) : W p l e (zR 4 94) s m args below meth c H locs 0 0 (zQi (mG D cs ad) q below args s) (F0 m 178 ls [.int t0]) := by
  unfold n_X12_mood_0_b178 at h
  obtain ⟨hx, hb, hml, hown, hts, hret, hlk⟩ := id C
  exact zz_iret C rfl h hW dX12_mood_178
def n_X12_mood_0_b165 (F : Nat)  (S : Zs) (x5 : Int32) (t0 : Int32) : Option (Int32 × Zs) :=
  zcl (n_X12_enters_0 F S t0) (fun v2 S1 => if 0 ≤ x5 then (n_X12_mood_0_b178 F  S1 (1 : Int32)) else (n_X12_mood_0_b178 F  S1 (0 : Int32)))
set_option maxRecDepth 20000 in
set_option maxHeartbeats 4000000 in
theorem w_X12_mood_0_b165 {F : Nat} {q : (Int32 × Zs)} {S : Zs}  {x5 : Int32} {t0 : Int32} {ls : Array Slot} {H : Heap} {locs : List Loc} (C : zC p s m args meth c cX12_mood 8 RX12 (some .int))  (h : n_X12_mood_0_b165 F  S x5 t0 = some q) (hW : zW (mG D cs ad) s S H locs) (hl : lv_has ls 8 [(5, .int x5)]) : W p l e (zR 4 94) s m args below meth c H locs 0 0 (zQi (mG D cs ad) q below args s) (F0 m 165 ls [.int t0, .ref (ad 0)]) := by
  unfold n_X12_mood_0_b165 at h
  obtain ⟨hx, hb, hml, hown, hts, hret, hlk⟩ := id C
  refine zz_callVv (As := [.int t0]) C hW h (fun r hr => c_X12_enters_0 hr) lk_X12_221 (hW.recv mr_0) rfl hl.1 ⟨rfl, rfl⟩ ⟨Nat.le_of_ble_eq_true rfl, Nat.le_of_ble_eq_true rfl⟩ (Nat.le_of_ble_eq_true rfl) ⟨Nat.zero_le _, Nat.zero_le _⟩ rfl dX12_mood_165 (fun v2 S1 H locs h hW => ?_)
  refine lv_iload hx hb dX12_mood_168 (lv_at hl 0 rfl) ?_
  refine zz_ige (tgt := 177) C h dX12_mood_170 (by decide) (fun h => ?_) (fun h => ?_)
  · refine lv_iconst (v := 1) hx hb dX12_mood_177 (by decide) ?_
    exact w_X12_mood_0_b178 (F := F) C h hW (lv_sub hl [] rfl)
  · refine lv_iconst (v := 0) hx hb dX12_mood_173 (by decide) ?_
    refine lv_goto (tgt := 178) hx hb dX12_mood_174 (by decide) ?_
    exact w_X12_mood_0_b178 (F := F) C h hW (lv_sub hl [] rfl)
def n_X12_mood_0_b138 (F : Nat) (rc81 : Zs → Int32 → Int32 → Int32 → Int32 → Int32 → Int32 → Option (Int32 × Zs)) (S : Zs) (x1 : Int32) (x2 : Int32) (x3 : Int32) (x4 : Int32) (x6 : Int32) (t0 : Int32) : Option (Int32 × Zs) :=
  zlet (x6 + (1 : Int32)) (fun v1 => rc81 S x1 x2 x3 x4 t0 v1)
set_option maxRecDepth 20000 in
set_option maxHeartbeats 4000000 in
theorem w_X12_mood_0_b138 {F : Nat} {q : (Int32 × Zs)} {S : Zs} {rc81 : Zs → Int32 → Int32 → Int32 → Int32 → Int32 → Int32 → Option (Int32 × Zs)} {x1 : Int32} {x2 : Int32} {x3 : Int32} {x4 : Int32} {x6 : Int32} {t0 : Int32} {ls : Array Slot} {H : Heap} {locs : List Loc} (C : zC p s m args meth c cX12_mood 8 RX12 (some .int)) (hrc81 : ∀ (S : Zs) (x1 : Int32) (x2 : Int32) (x3 : Int32) (x4 : Int32) (x5 : Int32) (x6 : Int32) (H : Heap) (locs : List Loc) (ls : Array Slot), rc81 S x1 x2 x3 x4 x5 x6 = some q → zW (mG D cs ad) s S H locs → lv_has ls 8 [(0, .ref (ad 0)), (1, .int x1), (2, .int x2), (3, .int x3), (4, .int x4), (5, .int x5), (6, .int x6)] → W p l e (zR 4 94) s m args below meth c H locs 0 0 (zQi (mG D cs ad) q below args s) (F0 m 81 ls [])) (h : n_X12_mood_0_b138 F rc81 S x1 x2 x3 x4 x6 t0 = some q) (hW : zW (mG D cs ad) s S H locs) (hl : lv_has ls 8 [(0, .ref (ad 0)), (1, .int x1), (2, .int x2), (3, .int x3), (4, .int x4), (6, .int x6)]) : W p l e (zR 4 94) s m args below meth c H locs 0 0 (zQi (mG D cs ad) q below args s) (F0 m 138 ls [.int t0]) := by
  unfold n_X12_mood_0_b138 at h
  obtain ⟨hx, hb, hml, hown, hts, hret, hlk⟩ := id C
  refine lv_istore (lv' := [(5, .int t0), (0, .ref (ad 0)), (1, .int x1), (2, .int x2), (3, .int x3), (4, .int x4), (6, .int x6)]) hx hb dX12_mood_138 hl (by decide) rfl (fun ls hl => ?_)
  obtain ⟨v1, ev1, h⟩ := zz_name h
  refine lv_iinc (v := v1) (lv' := [(6, .int v1), (5, .int t0), (0, .ref (ad 0)), (1, .int x1), (2, .int x2), (3, .int x3), (4, .int x4)]) hx hb dX12_mood_140 hl (k := 6) rfl ev1.symm (by decide) rfl (fun ls hl => ?_)
  refine lv_goto (tgt := 81) hx hb dX12_mood_143 (by decide) ?_
  exact hrc81 _ _ _ _ _ _ _ _ _ _ h hW (lv_sub hl [2, 3, 4, 5, 6, 1, 0] rfl)
def n_X12_mood_0_b136 (F : Nat) (rc81 : Zs → Int32 → Int32 → Int32 → Int32 → Int32 → Int32 → Option (Int32 × Zs)) (S : Zs) (x1 : Int32) (x2 : Int32) (x3 : Int32) (x4 : Int32) (x5 : Int32) (x6 : Int32) : Option (Int32 × Zs) :=
  n_X12_mood_0_b138 F rc81 S x1 x2 x3 x4 x6 x5
set_option maxRecDepth 20000 in
set_option maxHeartbeats 4000000 in
theorem w_X12_mood_0_b136 {F : Nat} {q : (Int32 × Zs)} {S : Zs} {rc81 : Zs → Int32 → Int32 → Int32 → Int32 → Int32 → Int32 → Option (Int32 × Zs)} {x1 : Int32} {x2 : Int32} {x3 : Int32} {x4 : Int32} {x5 : Int32} {x6 : Int32} {ls : Array Slot} {H : Heap} {locs : List Loc} (C : zC p s m args meth c cX12_mood 8 RX12 (some .int)) (hrc81 : ∀ (S : Zs) (x1 : Int32) (x2 : Int32) (x3 : Int32) (x4 : Int32) (x5 : Int32) (x6 : Int32) (H : Heap) (locs : List Loc) (ls : Array Slot), rc81 S x1 x2 x3 x4 x5 x6 = some q → zW (mG D cs ad) s S H locs → lv_has ls 8 [(0, .ref (ad 0)), (1, .int x1), (2, .int x2), (3, .int x3), (4, .int x4), (5, .int x5), (6, .int x6)] → W p l e (zR 4 94) s m args below meth c H locs 0 0 (zQi (mG D cs ad) q below args s) (F0 m 81 ls [])) (h : n_X12_mood_0_b136 F rc81 S x1 x2 x3 x4 x5 x6 = some q) (hW : zW (mG D cs ad) s S H locs) (hl : lv_has ls 8 [(0, .ref (ad 0)), (1, .int x1), (2, .int x2), (3, .int x3), (4, .int x4), (5, .int x5), (6, .int x6)]) : W p l e (zR 4 94) s m args below meth c H locs 0 0 (zQi (mG D cs ad) q below args s) (F0 m 136 ls []) := by
  unfold n_X12_mood_0_b136 at h
  obtain ⟨hx, hb, hml, hown, hts, hret, hlk⟩ := id C
  refine lv_iload hx hb dX12_mood_136 (lv_at hl 5 rfl) ?_
  exact w_X12_mood_0_b138 (F := F) C hrc81 h hW (lv_sub hl [0, 1, 2, 3, 4, 6] rfl)
def n_X12_mood_0_b111 (F : Nat) (rc81 : Zs → Int32 → Int32 → Int32 → Int32 → Int32 → Int32 → Option (Int32 × Zs)) (S : Zs) (x1 : Int32) (x2 : Int32) (x3 : Int32) (x4 : Int32) (x5 : Int32) (x6 : Int32) (t0 : Int32) : Option (Int32 × Zs) :=
  if t0 = 0 then (n_X12_mood_0_b136 F rc81 S x1 x2 x3 x4 x5 x6) else (zcl (n_X12_holdsIf F S x1 x2 x3 x4 x6) (fun v2 S1 => if v2 = 0 then (n_X12_mood_0_b136 F rc81 S1 x1 x2 x3 x4 x5 x6) else (n_X12_mood_0_b138 F rc81 S1 x1 x2 x3 x4 x6 x6)))
set_option maxRecDepth 20000 in
set_option maxHeartbeats 4000000 in
theorem w_X12_mood_0_b111 {F : Nat} {q : (Int32 × Zs)} {S : Zs} {rc81 : Zs → Int32 → Int32 → Int32 → Int32 → Int32 → Int32 → Option (Int32 × Zs)} {x1 : Int32} {x2 : Int32} {x3 : Int32} {x4 : Int32} {x5 : Int32} {x6 : Int32} {t0 : Int32} {ls : Array Slot} {H : Heap} {locs : List Loc} (C : zC p s m args meth c cX12_mood 8 RX12 (some .int)) (hrc81 : ∀ (S : Zs) (x1 : Int32) (x2 : Int32) (x3 : Int32) (x4 : Int32) (x5 : Int32) (x6 : Int32) (H : Heap) (locs : List Loc) (ls : Array Slot), rc81 S x1 x2 x3 x4 x5 x6 = some q → zW (mG D cs ad) s S H locs → lv_has ls 8 [(0, .ref (ad 0)), (1, .int x1), (2, .int x2), (3, .int x3), (4, .int x4), (5, .int x5), (6, .int x6)] → W p l e (zR 4 94) s m args below meth c H locs 0 0 (zQi (mG D cs ad) q below args s) (F0 m 81 ls [])) (h : n_X12_mood_0_b111 F rc81 S x1 x2 x3 x4 x5 x6 t0 = some q) (hW : zW (mG D cs ad) s S H locs) (hl : lv_has ls 8 [(0, .ref (ad 0)), (1, .int x1), (2, .int x2), (3, .int x3), (4, .int x4), (5, .int x5), (6, .int x6)]) : W p l e (zR 4 94) s m args below meth c H locs 0 0 (zQi (mG D cs ad) q below args s) (F0 m 111 ls [.int t0]) := by
  unfold n_X12_mood_0_b111 at h
  obtain ⟨hx, hb, hml, hown, hts, hret, hlk⟩ := id C
  refine lv_istore (lv' := [(7, .int t0), (0, .ref (ad 0)), (1, .int x1), (2, .int x2), (3, .int x3), (4, .int x4), (5, .int x5), (6, .int x6)]) hx hb dX12_mood_111 hl (by decide) rfl (fun ls hl => ?_)
  refine lv_iload hx hb dX12_mood_113 (lv_at hl 0 rfl) ?_
  refine zz_ieq (tgt := 136) C h dX12_mood_115 (by decide) (fun h => ?_) (fun h => ?_)
  · exact w_X12_mood_0_b136 (F := F) C hrc81 h hW (lv_sub hl [1, 2, 3, 4, 5, 6, 7] rfl)
  · refine lv_iload_n hx hb dX12_mood_118 rfl (lv_at hl 2 rfl) ?_
    refine lv_iload_n hx hb dX12_mood_119 rfl (lv_at hl 3 rfl) ?_
    refine lv_iload_n hx hb dX12_mood_120 rfl (lv_at hl 4 rfl) ?_
    refine lv_iload hx hb dX12_mood_121 (lv_at hl 5 rfl) ?_
    refine lv_iload hx hb dX12_mood_123 (lv_at hl 7 rfl) ?_
    refine zz_callSi (As := [.int x1, .int x2, .int x3, .int x4, .int x6]) C hW h (fun r hr => c_X12_holdsIf hr) lk_X12_331 rfl hl.1 ⟨rfl, rfl⟩ ⟨Nat.le_of_ble_eq_true rfl, Nat.le_of_ble_eq_true rfl⟩ (Nat.le_of_ble_eq_true rfl) ⟨Nat.zero_le _, Nat.zero_le _⟩ rfl dX12_mood_125 (fun v2 S1 H locs h hW => ?_)
    refine zz_ieq (tgt := 136) C h dX12_mood_128 (by decide) (fun h => ?_) (fun h => ?_)
    · exact w_X12_mood_0_b136 (F := F) C hrc81 h hW (lv_sub hl [1, 2, 3, 4, 5, 6, 7] rfl)
    · refine lv_iload hx hb dX12_mood_131 (lv_at hl 7 rfl) ?_
      refine lv_goto (tgt := 138) hx hb dX12_mood_133 (by decide) ?_
      exact w_X12_mood_0_b138 (F := F) C hrc81 h hW (lv_sub hl [1, 2, 3, 4, 5, 7] rfl)
def n_X12_mood_0_b106 (F : Nat) (rc81 : Zs → Int32 → Int32 → Int32 → Int32 → Int32 → Int32 → Option (Int32 × Zs)) (S : Zs) (x1 : Int32) (x2 : Int32) (x3 : Int32) (x4 : Int32) (x5 : Int32) (x6 : Int32) : Option (Int32 × Zs) :=
  n_X12_mood_0_b111 F rc81 S x1 x2 x3 x4 x5 x6 (1 : Int32)
set_option maxRecDepth 20000 in
set_option maxHeartbeats 4000000 in
theorem w_X12_mood_0_b106 {F : Nat} {q : (Int32 × Zs)} {S : Zs} {rc81 : Zs → Int32 → Int32 → Int32 → Int32 → Int32 → Int32 → Option (Int32 × Zs)} {x1 : Int32} {x2 : Int32} {x3 : Int32} {x4 : Int32} {x5 : Int32} {x6 : Int32} {ls : Array Slot} {H : Heap} {locs : List Loc} (C : zC p s m args meth c cX12_mood 8 RX12 (some .int)) (hrc81 : ∀ (S : Zs) (x1 : Int32) (x2 : Int32) (x3 : Int32) (x4 : Int32) (x5 : Int32) (x6 : Int32) (H : Heap) (locs : List Loc) (ls : Array Slot), rc81 S x1 x2 x3 x4 x5 x6 = some q → zW (mG D cs ad) s S H locs → lv_has ls 8 [(0, .ref (ad 0)), (1, .int x1), (2, .int x2), (3, .int x3), (4, .int x4), (5, .int x5), (6, .int x6)] → W p l e (zR 4 94) s m args below meth c H locs 0 0 (zQi (mG D cs ad) q below args s) (F0 m 81 ls [])) (h : n_X12_mood_0_b106 F rc81 S x1 x2 x3 x4 x5 x6 = some q) (hW : zW (mG D cs ad) s S H locs) (hl : lv_has ls 8 [(0, .ref (ad 0)), (1, .int x1), (2, .int x2), (3, .int x3), (4, .int x4), (5, .int x5), (6, .int x6)]) : W p l e (zR 4 94) s m args below meth c H locs 0 0 (zQi (mG D cs ad) q below args s) (F0 m 106 ls []) := by
  unfold n_X12_mood_0_b106 at h
  obtain ⟨hx, hb, hml, hown, hts, hret, hlk⟩ := id C
  refine lv_iconst (v := 1) hx hb dX12_mood_106 (by decide) ?_
  refine lv_goto (tgt := 111) hx hb dX12_mood_107 (by decide) ?_
  exact w_X12_mood_0_b111 (F := F) C hrc81 h hW (lv_sub hl [0, 1, 2, 3, 4, 5, 6] rfl)
def n_X12_mood_0_b81_l (F : Nat) (rc81 : Zs → Int32 → Int32 → Int32 → Int32 → Int32 → Int32 → Option (Int32 × Zs)) (S : Zs) (x1 : Int32) (x2 : Int32) (x3 : Int32) (x4 : Int32) (x5 : Int32) (x6 : Int32) : Option (Int32 × Zs) :=
  if (8 : Int32) ≤ x6 then (if 0 ≤ x5 then (n_X12_mood_0_b165 F  S x5 x5) else (zcl (n_X12_broken F S x1 x2 x3 x4) (fun v2 S1 => n_X12_mood_0_b165 F  S1 x5 v2))) else (if x5 < 0 then (n_X12_mood_0_b106 F rc81 S x1 x2 x3 x4 x5 x6) else (zcl (n_J6_bitCount_0f7a4_m F S x6) (fun v4 S3 => zcl (n_J6_bitCount_0f7a4_m F S3 x5) (fun v6 S5 => if v6 ≤ v4 then (n_X12_mood_0_b111 F rc81 S5 x1 x2 x3 x4 x5 x6 (0 : Int32)) else (n_X12_mood_0_b106 F rc81 S5 x1 x2 x3 x4 x5 x6)))))
set_option maxRecDepth 20000 in
set_option maxHeartbeats 4000000 in
theorem w_X12_mood_0_b81_l {F : Nat} {q : (Int32 × Zs)} {S : Zs} {rc81 : Zs → Int32 → Int32 → Int32 → Int32 → Int32 → Int32 → Option (Int32 × Zs)} {x1 : Int32} {x2 : Int32} {x3 : Int32} {x4 : Int32} {x5 : Int32} {x6 : Int32} {ls : Array Slot} {H : Heap} {locs : List Loc} (C : zC p s m args meth c cX12_mood 8 RX12 (some .int)) (hrc81 : ∀ (S : Zs) (x1 : Int32) (x2 : Int32) (x3 : Int32) (x4 : Int32) (x5 : Int32) (x6 : Int32) (H : Heap) (locs : List Loc) (ls : Array Slot), rc81 S x1 x2 x3 x4 x5 x6 = some q → zW (mG D cs ad) s S H locs → lv_has ls 8 [(0, .ref (ad 0)), (1, .int x1), (2, .int x2), (3, .int x3), (4, .int x4), (5, .int x5), (6, .int x6)] → W p l e (zR 4 94) s m args below meth c H locs 0 0 (zQi (mG D cs ad) q below args s) (F0 m 81 ls [])) (h : n_X12_mood_0_b81_l F rc81 S x1 x2 x3 x4 x5 x6 = some q) (hW : zW (mG D cs ad) s S H locs) (hl : lv_has ls 8 [(0, .ref (ad 0)), (1, .int x1), (2, .int x2), (3, .int x3), (4, .int x4), (5, .int x5), (6, .int x6)]) : W p l e (zR 4 94) s m args below meth c H locs 0 0 (zQi (mG D cs ad) q below args s) (F0 m 81 ls []) := by
  unfold n_X12_mood_0_b81_l at h
  obtain ⟨hx, hb, hml, hown, hts, hret, hlk⟩ := id C
  refine lv_iload hx hb dX12_mood_81 (lv_at hl 6 rfl) ?_
  refine lv_bipush (v := 8) hx hb dX12_mood_83 (by decide) ?_
  refine zz_cge (tgt := 146) C h dX12_mood_85 (by decide) (fun h => ?_) (fun h => ?_)
  · refine lv_aload_n hx hb dX12_mood_146 rfl (lv_at hl 0 rfl) ?_
    refine lv_iload hx hb dX12_mood_147 (lv_at hl 5 rfl) ?_
    refine zz_ige (tgt := 163) C h dX12_mood_149 (by decide) (fun h => ?_) (fun h => ?_)
    · refine lv_iload hx hb dX12_mood_163 (lv_at hl 5 rfl) ?_
      exact w_X12_mood_0_b165 (F := F) C h hW (lv_sub hl [5] rfl)
    · refine lv_iload_n hx hb dX12_mood_152 rfl (lv_at hl 1 rfl) ?_
      refine lv_iload_n hx hb dX12_mood_153 rfl (lv_at hl 2 rfl) ?_
      refine lv_iload_n hx hb dX12_mood_154 rfl (lv_at hl 3 rfl) ?_
      refine lv_iload hx hb dX12_mood_155 (lv_at hl 4 rfl) ?_
      refine zz_callSi (As := [.int x1, .int x2, .int x3, .int x4]) C hW h (fun r hr => c_X12_broken hr) lk_X12_335 rfl hl.1 ⟨rfl, rfl⟩ ⟨Nat.le_of_ble_eq_true rfl, Nat.le_of_ble_eq_true rfl⟩ (Nat.le_of_ble_eq_true rfl) ⟨Nat.zero_le _, Nat.zero_le _⟩ rfl dX12_mood_157 (fun v2 S1 H locs h hW => ?_)
      refine lv_goto (tgt := 165) hx hb dX12_mood_160 (by decide) ?_
      exact w_X12_mood_0_b165 (F := F) C h hW (lv_sub hl [5] rfl)
  · refine lv_iload hx hb dX12_mood_88 (lv_at hl 5 rfl) ?_
    refine zz_ilt (tgt := 106) C h dX12_mood_90 (by decide) (fun h => ?_) (fun h => ?_)
    · exact w_X12_mood_0_b106 (F := F) C hrc81 h hW (lv_sub hl [0, 1, 2, 3, 4, 5, 6] rfl)
    · refine lv_iload hx hb dX12_mood_93 (lv_at hl 6 rfl) ?_
      refine zz_callSi (As := [.int x6]) C hW h (fun r hr => c_J6_bitCount_0f7a4_m hr) lk_X12_151 rfl hl.1 ⟨rfl, rfl⟩ ⟨Nat.le_of_ble_eq_true rfl, Nat.le_of_ble_eq_true rfl⟩ (Nat.le_of_ble_eq_true rfl) ⟨Nat.zero_le _, Nat.zero_le _⟩ rfl dX12_mood_95 (fun v4 S3 H locs h hW => ?_)
      refine lv_iload hx hb dX12_mood_98 (lv_at hl 5 rfl) ?_
      refine zz_callSi (As := [.int x5]) C hW h (fun r hr => c_J6_bitCount_0f7a4_m hr) lk_X12_151 rfl hl.1 ⟨rfl, rfl⟩ ⟨Nat.le_of_ble_eq_true rfl, Nat.le_of_ble_eq_true rfl⟩ (Nat.le_of_ble_eq_true rfl) ⟨Nat.zero_le _, Nat.zero_le _⟩ rfl dX12_mood_100 (fun v6 S5 H locs h hW => ?_)
      refine zz_cge (tgt := 110) C h dX12_mood_103 (by decide) (fun h => ?_) (fun h => ?_)
      · refine lv_iconst (v := 0) hx hb dX12_mood_110 (by decide) ?_
        exact w_X12_mood_0_b111 (F := F) C hrc81 h hW (lv_sub hl [0, 1, 2, 3, 4, 5, 6] rfl)
      · exact w_X12_mood_0_b106 (F := F) C hrc81 h hW (lv_sub hl [0, 1, 2, 3, 4, 5, 6] rfl)
def n_X12_mood_0_b81 (F : Nat)  (S : Zs) (x1 : Int32) (x2 : Int32) (x3 : Int32) (x4 : Int32) (x5 : Int32) (x6 : Int32) : Option (Int32 × Zs) :=
  zfix (fun (rc : (Zs × Int32 × Int32 × Int32 × Int32 × Int32 × Int32) → Option (Int32 × Zs)) (u : (Zs × Int32 × Int32 × Int32 × Int32 × Int32 × Int32)) => n_X12_mood_0_b81_l F  (fun S x1 x2 x3 x4 x5 x6 => rc (S, x1, x2, x3, x4, x5, x6)) u.1 u.2.1 u.2.2.1 u.2.2.2.1 u.2.2.2.2.1 u.2.2.2.2.2.1 u.2.2.2.2.2.2) F (S, x1, x2, x3, x4, x5, x6)
theorem w_X12_mood_0_b81 {F : Nat} {q : (Int32 × Zs)}  (C : zC p s m args meth c cX12_mood 8 RX12 (some .int))  : ∀ (n : Nat) (S : Zs) (x1 : Int32) (x2 : Int32) (x3 : Int32) (x4 : Int32) (x5 : Int32) (x6 : Int32) (H : Heap) (locs : List Loc) (ls : Array Slot), zfix (fun (rc : (Zs × Int32 × Int32 × Int32 × Int32 × Int32 × Int32) → Option (Int32 × Zs)) (u : (Zs × Int32 × Int32 × Int32 × Int32 × Int32 × Int32)) => n_X12_mood_0_b81_l F  (fun S x1 x2 x3 x4 x5 x6 => rc (S, x1, x2, x3, x4, x5, x6)) u.1 u.2.1 u.2.2.1 u.2.2.2.1 u.2.2.2.2.1 u.2.2.2.2.2.1 u.2.2.2.2.2.2) n (S, x1, x2, x3, x4, x5, x6) = some q → zW (mG D cs ad) s S H locs → lv_has ls 8 [(0, .ref (ad 0)), (1, .int x1), (2, .int x2), (3, .int x3), (4, .int x4), (5, .int x5), (6, .int x6)] → W p l e (zR 4 94) s m args below meth c H locs 0 0 (zQi (mG D cs ad) q below args s) (F0 m 81 ls []) := by
  intro n
  induction n with
  | zero => intro S x1 x2 x3 x4 x5 x6 H locs ls h; exact absurd h (fun h => by cases h)
  | succ n ih => intro S x1 x2 x3 x4 x5 x6 H locs ls h hW hl; exact w_X12_mood_0_b81_l (F := F) C (fun S x1 x2 x3 x4 x5 x6 H locs ls h hW hl => ih S x1 x2 x3 x4 x5 x6 H locs ls h hW hl) h hW hl
def n_X12_mood_0_e (F : Nat)  (S : Zs) (x1 : Int32) (x2 : Int32) (x3 : Int32) (x4 : Int32) : Option (Int32 × Zs) :=
  zpf S 0 (0 : Int32) (fun S1 => zcl (n_X12_in F S1 (x1.toInt64) (0 : Int64) (3 : Int64)) (fun v3 S2 => if v3 = 0 then (n_X12_mood_0_b54 F  S2 ) else (zcl (n_X12_in F S2 (x2.toInt64) (0 : Int64) (3 : Int64)) (fun v5 S4 => if v5 = 0 then (n_X12_mood_0_b54 F  S4 ) else (zcl (n_X12_in F S4 (x3.toInt64) (0 : Int64) (3 : Int64)) (fun v7 S6 => if v7 = 0 then (n_X12_mood_0_b54 F  S6 ) else (zcl (n_X12_in F S6 (x4.toInt64) (1 : Int64) (4 : Int64)) (fun v9 S8 => if v9 = 0 then (n_X12_mood_0_b54 F  S8 ) else (zpf S8 1 (0 : Int32) (fun S10 => zcl (n_X12_holdsIf F S10 x1 x2 x3 x4 (0 : Int32)) (fun v12 S11 => if v12 = 0 then (n_X12_mood_0_b81 F  S11 x1 x2 x3 x4 (-1 : Int32) (1 : Int32)) else (some ((2 : Int32), S11)))))))))))))
set_option maxRecDepth 20000 in
set_option maxHeartbeats 4000000 in
theorem w_X12_mood_0_e {F : Nat} {q : (Int32 × Zs)} {S : Zs}  {x1 : Int32} {x2 : Int32} {x3 : Int32} {x4 : Int32} {ls : Array Slot} {H : Heap} {locs : List Loc} (C : zC p s m args meth c cX12_mood 8 RX12 (some .int))  (h : n_X12_mood_0_e F  S x1 x2 x3 x4 = some q) (hW : zW (mG D cs ad) s S H locs) (hl : lv_has ls 8 [(0, .ref (ad 0)), (1, .int x1), (2, .int x2), (3, .int x3), (4, .int x4)]) : W p l e (zR 4 94) s m args below meth c H locs 0 0 (zQi (mG D cs ad) q below args s) (F0 m 0 ls []) := by
  unfold n_X12_mood_0_e at h
  obtain ⟨hx, hb, hml, hown, hts, hret, hlk⟩ := id C
  refine lv_aload_n hx hb dX12_mood_0 rfl (lv_at hl 0 rfl) ?_
  refine lv_iconst (v := 0) hx hb dX12_mood_1 (by decide) ?_
  refine mp_0_0 C hW h fl_X12_3 dX12_mood_2 (fun S1 H locs h hW => ?_)
  refine lv_iload_n hx hb dX12_mood_5 rfl (lv_at hl 1 rfl) ?_
  refine lv_i2l hx hb dX12_mood_6 rfl ?_
  refine lv_lconst (v := 0) hx hb dX12_mood_7 (by decide) ?_
  refine lv_ldc2 (v := 3) hx hb hown (hts _ ct_X12_121) dX12_mood_8 ?_
  refine zz_callSi (As := [.long (x1.toInt64), .long (0 : Int64), .long (3 : Int64)]) C hW h (fun r hr => c_X12_in hr) lk_X12_16 rfl hl.1 ⟨rfl, rfl⟩ ⟨Nat.le_of_ble_eq_true rfl, Nat.le_of_ble_eq_true rfl⟩ (Nat.le_of_ble_eq_true rfl) ⟨Nat.zero_le _, Nat.zero_le _⟩ rfl dX12_mood_11 (fun v3 S2 H locs h hW => ?_)
  refine zz_ieq (tgt := 54) C h dX12_mood_14 (by decide) (fun h => ?_) (fun h => ?_)
  · exact w_X12_mood_0_b54 (F := F) C h hW (lv_sub hl [] rfl)
  · refine lv_iload_n hx hb dX12_mood_17 rfl (lv_at hl 2 rfl) ?_
    refine lv_i2l hx hb dX12_mood_18 rfl ?_
    refine lv_lconst (v := 0) hx hb dX12_mood_19 (by decide) ?_
    refine lv_ldc2 (v := 3) hx hb hown (hts _ ct_X12_121) dX12_mood_20 ?_
    refine zz_callSi (As := [.long (x2.toInt64), .long (0 : Int64), .long (3 : Int64)]) C hW h (fun r hr => c_X12_in hr) lk_X12_16 rfl hl.1 ⟨rfl, rfl⟩ ⟨Nat.le_of_ble_eq_true rfl, Nat.le_of_ble_eq_true rfl⟩ (Nat.le_of_ble_eq_true rfl) ⟨Nat.zero_le _, Nat.zero_le _⟩ rfl dX12_mood_23 (fun v5 S4 H locs h hW => ?_)
    refine zz_ieq (tgt := 54) C h dX12_mood_26 (by decide) (fun h => ?_) (fun h => ?_)
    · exact w_X12_mood_0_b54 (F := F) C h hW (lv_sub hl [] rfl)
    · refine lv_iload_n hx hb dX12_mood_29 rfl (lv_at hl 3 rfl) ?_
      refine lv_i2l hx hb dX12_mood_30 rfl ?_
      refine lv_lconst (v := 0) hx hb dX12_mood_31 (by decide) ?_
      refine lv_ldc2 (v := 3) hx hb hown (hts _ ct_X12_121) dX12_mood_32 ?_
      refine zz_callSi (As := [.long (x3.toInt64), .long (0 : Int64), .long (3 : Int64)]) C hW h (fun r hr => c_X12_in hr) lk_X12_16 rfl hl.1 ⟨rfl, rfl⟩ ⟨Nat.le_of_ble_eq_true rfl, Nat.le_of_ble_eq_true rfl⟩ (Nat.le_of_ble_eq_true rfl) ⟨Nat.zero_le _, Nat.zero_le _⟩ rfl dX12_mood_35 (fun v7 S6 H locs h hW => ?_)
      refine zz_ieq (tgt := 54) C h dX12_mood_38 (by decide) (fun h => ?_) (fun h => ?_)
      · exact w_X12_mood_0_b54 (F := F) C h hW (lv_sub hl [] rfl)
      · refine lv_iload hx hb dX12_mood_41 (lv_at hl 4 rfl) ?_
        refine lv_i2l hx hb dX12_mood_43 rfl ?_
        refine lv_lconst (v := 1) hx hb dX12_mood_44 (by decide) ?_
        refine lv_ldc2 (v := 4) hx hb hown (hts _ ct_X12_329) dX12_mood_45 ?_
        refine zz_callSi (As := [.long (x4.toInt64), .long (1 : Int64), .long (4 : Int64)]) C hW h (fun r hr => c_X12_in hr) lk_X12_16 rfl hl.1 ⟨rfl, rfl⟩ ⟨Nat.le_of_ble_eq_true rfl, Nat.le_of_ble_eq_true rfl⟩ (Nat.le_of_ble_eq_true rfl) ⟨Nat.zero_le _, Nat.zero_le _⟩ rfl dX12_mood_48 (fun v9 S8 H locs h hW => ?_)
        refine zz_ine (tgt := 56) C h dX12_mood_51 (by decide) (fun h => ?_) (fun h => ?_)
        · refine lv_aload_n hx hb dX12_mood_56 rfl (lv_at hl 0 rfl) ?_
          refine lv_iconst (v := 0) hx hb dX12_mood_57 (by decide) ?_
          refine mp_0_1 C hW h fl_X12_11 dX12_mood_58 (fun S10 H locs h hW => ?_)
          refine lv_iload_n hx hb dX12_mood_61 rfl (lv_at hl 1 rfl) ?_
          refine lv_iload_n hx hb dX12_mood_62 rfl (lv_at hl 2 rfl) ?_
          refine lv_iload_n hx hb dX12_mood_63 rfl (lv_at hl 3 rfl) ?_
          refine lv_iload hx hb dX12_mood_64 (lv_at hl 4 rfl) ?_
          refine lv_iconst (v := 0) hx hb dX12_mood_66 (by decide) ?_
          refine zz_callSi (As := [.int x1, .int x2, .int x3, .int x4, .int (0 : Int32)]) C hW h (fun r hr => c_X12_holdsIf hr) lk_X12_331 rfl hl.1 ⟨rfl, rfl⟩ ⟨Nat.le_of_ble_eq_true rfl, Nat.le_of_ble_eq_true rfl⟩ (Nat.le_of_ble_eq_true rfl) ⟨Nat.zero_le _, Nat.zero_le _⟩ rfl dX12_mood_67 (fun v12 S11 H locs h hW => ?_)
          refine zz_ieq (tgt := 75) C h dX12_mood_70 (by decide) (fun h => ?_) (fun h => ?_)
          · refine lv_iconst (v := -1) hx hb dX12_mood_75 (by decide) ?_
            refine lv_istore (lv' := [(5, .int (-1 : Int32)), (0, .ref (ad 0)), (1, .int x1), (2, .int x2), (3, .int x3), (4, .int x4)]) hx hb dX12_mood_76 hl (by decide) rfl (fun ls hl => ?_)
            refine lv_iconst (v := 1) hx hb dX12_mood_78 (by decide) ?_
            refine lv_istore (lv' := [(6, .int (1 : Int32)), (5, .int (-1 : Int32)), (0, .ref (ad 0)), (1, .int x1), (2, .int x2), (3, .int x3), (4, .int x4)]) hx hb dX12_mood_79 hl (by decide) rfl (fun ls hl => ?_)
            exact w_X12_mood_0_b81 (F := F) C F _ _ _ _ _ _ _ _ _ _ h hW (lv_sub hl [2, 3, 4, 5, 6, 1, 0] rfl)
          · refine lv_iconst (v := 2) hx hb dX12_mood_73 (by decide) ?_
            exact zz_iret C rfl h hW dX12_mood_74
        · exact w_X12_mood_0_b54 (F := F) C h hW (lv_sub hl [] rfl)
def n_X12_mood_0 (F : Nat) (S : Zs) (x1 : Int32) (x2 : Int32) (x3 : Int32) (x4 : Int32) : Option (Int32 × Zs) := n_X12_mood_0_e F  S x1 x2 x3 x4
theorem c_X12_mood_0 {l : Launch} {D : va_G} {cs ad : Nat → Nat} {F : Nat} {S : Zs} {x1 : Int32} {x2 : Int32} {x3 : Int32} {x4 : Int32} {q : (Int32 × Zs)} (h : n_X12_mood_0 F S x1 x2 x3 x4 = some q) : zMi l yX12_mood cX12_mood 8 (some .int) (zR 4 94) (mG D cs ad) [.ref (ad 0), .int x1, .int x2, .int x3, .int x4] S q :=
  zz_enter (by decide) (Nat.le_of_ble_eq_true rfl) (fun p e s m below meth c ls C hW hl => w_X12_mood_0_e (F := F) C h hW (lv_sub hl [0, 1, 2, 3, 4] rfl))
def n_X12_figure_0_b98 (F : Nat) (rc26 : Zs → Int32 → Int32 → Int32 → Int32 → Option (Int32 × Zs)) (S : Zs) (x1 : Int32) (x2 : Int32) (x4 : Int32) (t0 : Int32) (t1 : Int32) : Option (Int32 × Zs) :=
  zcl (n_X12_flag F S t0) (fun v2 S1 => zlet (t1 + v2) (fun v3 => zlet (x4 + (1 : Int32)) (fun v4 => rc26 S1 x1 x2 v3 v4)))
set_option maxRecDepth 20000 in
set_option maxHeartbeats 4000000 in
theorem w_X12_figure_0_b98 {F : Nat} {q : (Int32 × Zs)} {S : Zs} {rc26 : Zs → Int32 → Int32 → Int32 → Int32 → Option (Int32 × Zs)} {x1 : Int32} {x2 : Int32} {x4 : Int32} {t0 : Int32} {t1 : Int32} {ls : Array Slot} {H : Heap} {locs : List Loc} (C : zC p s m args meth c cX12_figure 6 RX12 (some .int)) (hrc26 : ∀ (S : Zs) (x1 : Int32) (x2 : Int32) (x3 : Int32) (x4 : Int32) (H : Heap) (locs : List Loc) (ls : Array Slot), rc26 S x1 x2 x3 x4 = some q → zW (mG D cs ad) s S H locs → lv_has ls 6 [(0, .ref (ad 0)), (1, .int x1), (2, .int x2), (3, .int x3), (4, .int x4)] → W p l e (zR 4 94) s m args below meth c H locs 0 0 (zQi (mG D cs ad) q below args s) (F0 m 26 ls [])) (h : n_X12_figure_0_b98 F rc26 S x1 x2 x4 t0 t1 = some q) (hW : zW (mG D cs ad) s S H locs) (hl : lv_has ls 6 [(0, .ref (ad 0)), (1, .int x1), (2, .int x2), (4, .int x4)]) : W p l e (zR 4 94) s m args below meth c H locs 0 0 (zQi (mG D cs ad) q below args s) (F0 m 98 ls [.int t0, .int t1]) := by
  unfold n_X12_figure_0_b98 at h
  obtain ⟨hx, hb, hml, hown, hts, hret, hlk⟩ := id C
  refine zz_callSi (As := [.int t0]) C hW h (fun r hr => c_X12_flag hr) lk_X12_52 rfl hl.1 ⟨rfl, rfl⟩ ⟨Nat.le_of_ble_eq_true rfl, Nat.le_of_ble_eq_true rfl⟩ (Nat.le_of_ble_eq_true rfl) ⟨Nat.zero_le _, Nat.zero_le _⟩ rfl dX12_figure_98 (fun v2 S1 H locs h hW => ?_)
  refine lv_iadd hx hb dX12_figure_101 ?_
  refine zz_leti h (fun v3 h => ?_)
  refine lv_istore_n (lv' := [(3, .int v3), (0, .ref (ad 0)), (1, .int x1), (2, .int x2), (4, .int x4)]) hx hb dX12_figure_102 rfl hl (by decide) rfl (fun ls hl => ?_)
  obtain ⟨v4, ev4, h⟩ := zz_name h
  refine lv_iinc (v := v4) (lv' := [(4, .int v4), (3, .int v3), (0, .ref (ad 0)), (1, .int x1), (2, .int x2)]) hx hb dX12_figure_103 hl (k := 4) rfl ev4.symm (by decide) rfl (fun ls hl => ?_)
  refine lv_goto (tgt := 26) hx hb dX12_figure_106 (by decide) ?_
  exact hrc26 _ _ _ _ _ _ _ _ h hW (lv_sub hl [2, 3, 4, 1, 0] rfl)
def n_X12_figure_0_b97 (F : Nat) (rc26 : Zs → Int32 → Int32 → Int32 → Int32 → Option (Int32 × Zs)) (S : Zs) (x1 : Int32) (x2 : Int32) (x4 : Int32) (t0 : Int32) : Option (Int32 × Zs) :=
  n_X12_figure_0_b98 F rc26 S x1 x2 x4 (0 : Int32) t0
set_option maxRecDepth 20000 in
set_option maxHeartbeats 4000000 in
theorem w_X12_figure_0_b97 {F : Nat} {q : (Int32 × Zs)} {S : Zs} {rc26 : Zs → Int32 → Int32 → Int32 → Int32 → Option (Int32 × Zs)} {x1 : Int32} {x2 : Int32} {x4 : Int32} {t0 : Int32} {ls : Array Slot} {H : Heap} {locs : List Loc} (C : zC p s m args meth c cX12_figure 6 RX12 (some .int)) (hrc26 : ∀ (S : Zs) (x1 : Int32) (x2 : Int32) (x3 : Int32) (x4 : Int32) (H : Heap) (locs : List Loc) (ls : Array Slot), rc26 S x1 x2 x3 x4 = some q → zW (mG D cs ad) s S H locs → lv_has ls 6 [(0, .ref (ad 0)), (1, .int x1), (2, .int x2), (3, .int x3), (4, .int x4)] → W p l e (zR 4 94) s m args below meth c H locs 0 0 (zQi (mG D cs ad) q below args s) (F0 m 26 ls [])) (h : n_X12_figure_0_b97 F rc26 S x1 x2 x4 t0 = some q) (hW : zW (mG D cs ad) s S H locs) (hl : lv_has ls 6 [(0, .ref (ad 0)), (1, .int x1), (2, .int x2), (4, .int x4)]) : W p l e (zR 4 94) s m args below meth c H locs 0 0 (zQi (mG D cs ad) q below args s) (F0 m 97 ls [.int t0]) := by
  unfold n_X12_figure_0_b97 at h
  obtain ⟨hx, hb, hml, hown, hts, hret, hlk⟩ := id C
  refine lv_iconst (v := 0) hx hb dX12_figure_97 (by decide) ?_
  exact w_X12_figure_0_b98 (F := F) C hrc26 h hW (lv_sub hl [0, 1, 2, 3] rfl)
def n_X12_figure_0_b26_l (F : Nat) (rc26 : Zs → Int32 → Int32 → Int32 → Int32 → Option (Int32 × Zs)) (S : Zs) (x1 : Int32) (x2 : Int32) (x3 : Int32) (x4 : Int32) : Option (Int32 × Zs) :=
  if (64 : Int32) ≤ x4 then (zpf S 1 (0 : Int32) (fun S1 => zcl (n_X12_enters_0 F S1 x3) (fun v3 S2 => some (x2, S2)))) else (zcl (n_X12_holdsIf F S (x4 / (16 : Int32)) ((x4 / (4 : Int32)) - (x4 / (4 : Int32)) / (4 : Int32) * (4 : Int32)) (x4 - x4 / (4 : Int32) * (4 : Int32)) x1 (0 : Int32)) (fun v5 S4 => zcl (n_X12_flag F S4 v5) (fun v7 S6 => zlet (x2 + v7) (fun v8 => if v5 = 0 then (zcl (n_X12_holdsIf F S6 (x4 / (16 : Int32)) ((x4 / (4 : Int32)) - (x4 / (4 : Int32)) / (4 : Int32) * (4 : Int32)) (x4 - x4 / (4 : Int32) * (4 : Int32)) x1 (7 : Int32)) (fun v10 S9 => if v10 = 0 then (n_X12_figure_0_b97 F rc26 S9 x1 v8 x4 x3) else (n_X12_figure_0_b98 F rc26 S9 x1 v8 x4 (1 : Int32) x3))) else (n_X12_figure_0_b97 F rc26 S6 x1 v8 x4 x3)))))
set_option maxRecDepth 20000 in
set_option maxHeartbeats 4000000 in
theorem w_X12_figure_0_b26_l {F : Nat} {q : (Int32 × Zs)} {S : Zs} {rc26 : Zs → Int32 → Int32 → Int32 → Int32 → Option (Int32 × Zs)} {x1 : Int32} {x2 : Int32} {x3 : Int32} {x4 : Int32} {ls : Array Slot} {H : Heap} {locs : List Loc} (C : zC p s m args meth c cX12_figure 6 RX12 (some .int)) (hrc26 : ∀ (S : Zs) (x1 : Int32) (x2 : Int32) (x3 : Int32) (x4 : Int32) (H : Heap) (locs : List Loc) (ls : Array Slot), rc26 S x1 x2 x3 x4 = some q → zW (mG D cs ad) s S H locs → lv_has ls 6 [(0, .ref (ad 0)), (1, .int x1), (2, .int x2), (3, .int x3), (4, .int x4)] → W p l e (zR 4 94) s m args below meth c H locs 0 0 (zQi (mG D cs ad) q below args s) (F0 m 26 ls [])) (h : n_X12_figure_0_b26_l F rc26 S x1 x2 x3 x4 = some q) (hW : zW (mG D cs ad) s S H locs) (hl : lv_has ls 6 [(0, .ref (ad 0)), (1, .int x1), (2, .int x2), (3, .int x3), (4, .int x4)]) : W p l e (zR 4 94) s m args below meth c H locs 0 0 (zQi (mG D cs ad) q below args s) (F0 m 26 ls []) := by
  unfold n_X12_figure_0_b26_l at h
  obtain ⟨hx, hb, hml, hown, hts, hret, hlk⟩ := id C
  refine lv_iload hx hb dX12_figure_26 (lv_at hl 4 rfl) ?_
  refine lv_bipush (v := 64) hx hb dX12_figure_28 (by decide) ?_
  refine zz_cge (tgt := 109) C h dX12_figure_30 (by decide) (fun h => ?_) (fun h => ?_)
  · refine lv_aload_n hx hb dX12_figure_109 rfl (lv_at hl 0 rfl) ?_
    refine lv_iconst (v := 0) hx hb dX12_figure_110 (by decide) ?_
    refine mp_0_1 C hW h fl_X12_11 dX12_figure_111 (fun S1 H locs h hW => ?_)
    refine lv_aload_n hx hb dX12_figure_114 rfl (lv_at hl 0 rfl) ?_
    refine lv_iload_n hx hb dX12_figure_115 rfl (lv_at hl 3 rfl) ?_
    refine zz_callVv (As := [.int x3]) C hW h (fun r hr => c_X12_enters_0 hr) lk_X12_221 (hW.recv mr_0) rfl hl.1 ⟨rfl, rfl⟩ ⟨Nat.le_of_ble_eq_true rfl, Nat.le_of_ble_eq_true rfl⟩ (Nat.le_of_ble_eq_true rfl) ⟨Nat.zero_le _, Nat.zero_le _⟩ rfl dX12_figure_116 (fun v3 S2 H locs h hW => ?_)
    refine lv_iload_n hx hb dX12_figure_119 rfl (lv_at hl 2 rfl) ?_
    exact zz_iret C rfl h hW dX12_figure_120
  · refine lv_iload hx hb dX12_figure_33 (lv_at hl 4 rfl) ?_
    refine lv_bipush (v := 16) hx hb dX12_figure_35 (by decide) ?_
    refine lv_idiv hx hb dX12_figure_37 (by decide) ?_
    refine lv_iload hx hb dX12_figure_38 (lv_at hl 4 rfl) ?_
    refine lv_iconst (v := 4) hx hb dX12_figure_40 (by decide) ?_
    refine lv_idiv hx hb dX12_figure_41 (by decide) ?_
    refine lv_iconst (v := 4) hx hb dX12_figure_42 (by decide) ?_
    refine lv_irem hx hb dX12_figure_43 (by decide) ?_
    refine lv_iload hx hb dX12_figure_44 (lv_at hl 4 rfl) ?_
    refine lv_iconst (v := 4) hx hb dX12_figure_46 (by decide) ?_
    refine lv_irem hx hb dX12_figure_47 (by decide) ?_
    refine lv_iload_n hx hb dX12_figure_48 rfl (lv_at hl 1 rfl) ?_
    refine lv_iconst (v := 0) hx hb dX12_figure_49 (by decide) ?_
    refine zz_callSi (As := [.int (x4 / (16 : Int32)), .int ((x4 / (4 : Int32)) - (x4 / (4 : Int32)) / (4 : Int32) * (4 : Int32)), .int (x4 - x4 / (4 : Int32) * (4 : Int32)), .int x1, .int (0 : Int32)]) C hW h (fun r hr => c_X12_holdsIf hr) lk_X12_331 rfl hl.1 ⟨rfl, rfl⟩ ⟨Nat.le_of_ble_eq_true rfl, Nat.le_of_ble_eq_true rfl⟩ (Nat.le_of_ble_eq_true rfl) ⟨Nat.zero_le _, Nat.zero_le _⟩ rfl dX12_figure_50 (fun v5 S4 H locs h hW => ?_)
    refine lv_istore (lv' := [(5, .int v5), (0, .ref (ad 0)), (1, .int x1), (2, .int x2), (3, .int x3), (4, .int x4)]) hx hb dX12_figure_53 hl (by decide) rfl (fun ls hl => ?_)
    refine lv_iload_n hx hb dX12_figure_55 rfl (lv_at hl 3 rfl) ?_
    refine lv_iload hx hb dX12_figure_56 (lv_at hl 0 rfl) ?_
    refine zz_callSi (As := [.int v5]) C hW h (fun r hr => c_X12_flag hr) lk_X12_52 rfl hl.1 ⟨rfl, rfl⟩ ⟨Nat.le_of_ble_eq_true rfl, Nat.le_of_ble_eq_true rfl⟩ (Nat.le_of_ble_eq_true rfl) ⟨Nat.zero_le _, Nat.zero_le _⟩ rfl dX12_figure_58 (fun v7 S6 H locs h hW => ?_)
    refine lv_iadd hx hb dX12_figure_61 ?_
    refine zz_leti h (fun v8 h => ?_)
    refine lv_istore_n (lv' := [(2, .int v8), (5, .int v5), (0, .ref (ad 0)), (1, .int x1), (3, .int x3), (4, .int x4)]) hx hb dX12_figure_62 rfl hl (by decide) rfl (fun ls hl => ?_)
    refine lv_iload_n hx hb dX12_figure_63 rfl (lv_at hl 4 rfl) ?_
    refine lv_iload hx hb dX12_figure_64 (lv_at hl 1 rfl) ?_
    refine zz_ine (tgt := 97) C h dX12_figure_66 (by decide) (fun h => ?_) (fun h => ?_)
    · exact w_X12_figure_0_b97 (F := F) C hrc26 h hW (lv_sub hl [2, 3, 0, 5] rfl)
    · refine lv_iload hx hb dX12_figure_69 (lv_at hl 5 rfl) ?_
      refine lv_bipush (v := 16) hx hb dX12_figure_71 (by decide) ?_
      refine lv_idiv hx hb dX12_figure_73 (by decide) ?_
      refine lv_iload hx hb dX12_figure_74 (lv_at hl 5 rfl) ?_
      refine lv_iconst (v := 4) hx hb dX12_figure_76 (by decide) ?_
      refine lv_idiv hx hb dX12_figure_77 (by decide) ?_
      refine lv_iconst (v := 4) hx hb dX12_figure_78 (by decide) ?_
      refine lv_irem hx hb dX12_figure_79 (by decide) ?_
      refine lv_iload hx hb dX12_figure_80 (lv_at hl 5 rfl) ?_
      refine lv_iconst (v := 4) hx hb dX12_figure_82 (by decide) ?_
      refine lv_irem hx hb dX12_figure_83 (by decide) ?_
      refine lv_iload_n hx hb dX12_figure_84 rfl (lv_at hl 3 rfl) ?_
      refine lv_bipush (v := 7) hx hb dX12_figure_85 (by decide) ?_
      refine zz_callSi (As := [.int (x4 / (16 : Int32)), .int ((x4 / (4 : Int32)) - (x4 / (4 : Int32)) / (4 : Int32) * (4 : Int32)), .int (x4 - x4 / (4 : Int32) * (4 : Int32)), .int x1, .int (7 : Int32)]) C hW h (fun r hr => c_X12_holdsIf hr) lk_X12_331 rfl hl.1 ⟨rfl, rfl⟩ ⟨Nat.le_of_ble_eq_true rfl, Nat.le_of_ble_eq_true rfl⟩ (Nat.le_of_ble_eq_true rfl) ⟨Nat.zero_le _, Nat.zero_le _⟩ rfl dX12_figure_87 (fun v10 S9 H locs h hW => ?_)
      refine zz_ieq (tgt := 97) C h dX12_figure_90 (by decide) (fun h => ?_) (fun h => ?_)
      · exact w_X12_figure_0_b97 (F := F) C hrc26 h hW (lv_sub hl [2, 3, 0, 5] rfl)
      · refine lv_iconst (v := 1) hx hb dX12_figure_93 (by decide) ?_
        refine lv_goto (tgt := 98) hx hb dX12_figure_94 (by decide) ?_
        exact w_X12_figure_0_b98 (F := F) C hrc26 h hW (lv_sub hl [2, 3, 0, 5] rfl)
def n_X12_figure_0_b26 (F : Nat)  (S : Zs) (x1 : Int32) (x2 : Int32) (x3 : Int32) (x4 : Int32) : Option (Int32 × Zs) :=
  zfix (fun (rc : (Zs × Int32 × Int32 × Int32 × Int32) → Option (Int32 × Zs)) (u : (Zs × Int32 × Int32 × Int32 × Int32)) => n_X12_figure_0_b26_l F  (fun S x1 x2 x3 x4 => rc (S, x1, x2, x3, x4)) u.1 u.2.1 u.2.2.1 u.2.2.2.1 u.2.2.2.2) F (S, x1, x2, x3, x4)
theorem w_X12_figure_0_b26 {F : Nat} {q : (Int32 × Zs)}  (C : zC p s m args meth c cX12_figure 6 RX12 (some .int))  : ∀ (n : Nat) (S : Zs) (x1 : Int32) (x2 : Int32) (x3 : Int32) (x4 : Int32) (H : Heap) (locs : List Loc) (ls : Array Slot), zfix (fun (rc : (Zs × Int32 × Int32 × Int32 × Int32) → Option (Int32 × Zs)) (u : (Zs × Int32 × Int32 × Int32 × Int32)) => n_X12_figure_0_b26_l F  (fun S x1 x2 x3 x4 => rc (S, x1, x2, x3, x4)) u.1 u.2.1 u.2.2.1 u.2.2.2.1 u.2.2.2.2) n (S, x1, x2, x3, x4) = some q → zW (mG D cs ad) s S H locs → lv_has ls 6 [(0, .ref (ad 0)), (1, .int x1), (2, .int x2), (3, .int x3), (4, .int x4)] → W p l e (zR 4 94) s m args below meth c H locs 0 0 (zQi (mG D cs ad) q below args s) (F0 m 26 ls []) := by
  intro n
  induction n with
  | zero => intro S x1 x2 x3 x4 H locs ls h; exact absurd h (fun h => by cases h)
  | succ n ih => intro S x1 x2 x3 x4 H locs ls h hW hl; exact w_X12_figure_0_b26_l (F := F) C (fun S x1 x2 x3 x4 H locs ls h hW hl => ih S x1 x2 x3 x4 H locs ls h hW hl) h hW hl
def n_X12_figure_0_e (F : Nat)  (S : Zs) (x1 : Int32) : Option (Int32 × Zs) :=
  zpf S 0 (0 : Int32) (fun S1 => zcl (n_X12_in F S1 (x1.toInt64) (1 : Int64) (4 : Int64)) (fun v3 S2 => if v3 = 0 then (some ((-1 : Int32), S2)) else (n_X12_figure_0_b26 F  S2 x1 (0 : Int32) (0 : Int32) (0 : Int32))))
set_option maxRecDepth 20000 in
set_option maxHeartbeats 4000000 in
theorem w_X12_figure_0_e {F : Nat} {q : (Int32 × Zs)} {S : Zs}  {x1 : Int32} {ls : Array Slot} {H : Heap} {locs : List Loc} (C : zC p s m args meth c cX12_figure 6 RX12 (some .int))  (h : n_X12_figure_0_e F  S x1 = some q) (hW : zW (mG D cs ad) s S H locs) (hl : lv_has ls 6 [(0, .ref (ad 0)), (1, .int x1)]) : W p l e (zR 4 94) s m args below meth c H locs 0 0 (zQi (mG D cs ad) q below args s) (F0 m 0 ls []) := by
  unfold n_X12_figure_0_e at h
  obtain ⟨hx, hb, hml, hown, hts, hret, hlk⟩ := id C
  refine lv_aload_n hx hb dX12_figure_0 rfl (lv_at hl 0 rfl) ?_
  refine lv_iconst (v := 0) hx hb dX12_figure_1 (by decide) ?_
  refine mp_0_0 C hW h fl_X12_3 dX12_figure_2 (fun S1 H locs h hW => ?_)
  refine lv_iload_n hx hb dX12_figure_5 rfl (lv_at hl 1 rfl) ?_
  refine lv_i2l hx hb dX12_figure_6 rfl ?_
  refine lv_lconst (v := 1) hx hb dX12_figure_7 (by decide) ?_
  refine lv_ldc2 (v := 4) hx hb hown (hts _ ct_X12_329) dX12_figure_8 ?_
  refine zz_callSi (As := [.long (x1.toInt64), .long (1 : Int64), .long (4 : Int64)]) C hW h (fun r hr => c_X12_in hr) lk_X12_16 rfl hl.1 ⟨rfl, rfl⟩ ⟨Nat.le_of_ble_eq_true rfl, Nat.le_of_ble_eq_true rfl⟩ (Nat.le_of_ble_eq_true rfl) ⟨Nat.zero_le _, Nat.zero_le _⟩ rfl dX12_figure_11 (fun v3 S2 H locs h hW => ?_)
  refine zz_ine (tgt := 19) C h dX12_figure_14 (by decide) (fun h => ?_) (fun h => ?_)
  · refine lv_iconst (v := 0) hx hb dX12_figure_19 (by decide) ?_
    refine lv_istore_n (lv' := [(2, .int (0 : Int32)), (0, .ref (ad 0)), (1, .int x1)]) hx hb dX12_figure_20 rfl hl (by decide) rfl (fun ls hl => ?_)
    refine lv_iconst (v := 0) hx hb dX12_figure_21 (by decide) ?_
    refine lv_istore_n (lv' := [(3, .int (0 : Int32)), (2, .int (0 : Int32)), (0, .ref (ad 0)), (1, .int x1)]) hx hb dX12_figure_22 rfl hl (by decide) rfl (fun ls hl => ?_)
    refine lv_iconst (v := 0) hx hb dX12_figure_23 (by decide) ?_
    refine lv_istore (lv' := [(4, .int (0 : Int32)), (3, .int (0 : Int32)), (2, .int (0 : Int32)), (0, .ref (ad 0)), (1, .int x1)]) hx hb dX12_figure_24 hl (by decide) rfl (fun ls hl => ?_)
    exact w_X12_figure_0_b26 (F := F) C F _ _ _ _ _ _ _ _ h hW (lv_sub hl [3, 4, 2, 1, 0] rfl)
  · refine lv_iconst (v := -1) hx hb dX12_figure_17 (by decide) ?_
    exact zz_iret C rfl h hW dX12_figure_18
def n_X12_figure_0 (F : Nat) (S : Zs) (x1 : Int32) : Option (Int32 × Zs) := n_X12_figure_0_e F  S x1
theorem c_X12_figure_0 {l : Launch} {D : va_G} {cs ad : Nat → Nat} {F : Nat} {S : Zs} {x1 : Int32} {q : (Int32 × Zs)} (h : n_X12_figure_0 F S x1 = some q) : zMi l yX12_figure cX12_figure 6 (some .int) (zR 4 94) (mG D cs ad) [.ref (ad 0), .int x1] S q :=
  zz_enter (by decide) (Nat.le_of_ble_eq_true rfl) (fun p e s m below meth c ls C hW hl => w_X12_figure_0_e (F := F) C h hW (lv_sub hl [0, 1] rfl))
def n_X12_forms_0_b19 (F : Nat)  (S : Zs)  : Option (Int32 × Zs) :=
  some ((-1 : Int32), S)
set_option maxRecDepth 20000 in
set_option maxHeartbeats 4000000 in
theorem w_X12_forms_0_b19 {F : Nat} {q : (Int32 × Zs)} {S : Zs}   {ls : Array Slot} {H : Heap} {locs : List Loc} (C : zC p s m args meth c cX12_forms 5 RX12 (some .int))  (h : n_X12_forms_0_b19 F  S  = some q) (hW : zW (mG D cs ad) s S H locs) (hl : lv_has ls 5 []) : W p l e (zR 6 129) s m args below meth c H locs 0 0 (zQi (mG D cs ad) q below args s) (F0 m 19 ls []) := by
  unfold n_X12_forms_0_b19 at h
  obtain ⟨hx, hb, hml, hown, hts, hret, hlk⟩ := id C
  refine lv_iconst (v := -1) hx hb dX12_forms_19 (by decide) ?_
  exact zz_iret C rfl h hW dX12_forms_20
def n_X12_forms_0_b59 (F : Nat) (rc26 : Zs → Int32 → Int32 → Int32 → Int32 → Option (Int32 × Zs)) (S : Zs) (x1 : Int32) (x2 : Int32) (x4 : Int32) (t0 : Int32) (t1 : Int32) : Option (Int32 × Zs) :=
  zlet (t1 ||| t0) (fun v1 => zlet (x4 + (1 : Int32)) (fun v2 => rc26 S x1 x2 v1 v2))
set_option maxRecDepth 20000 in
set_option maxHeartbeats 4000000 in
theorem w_X12_forms_0_b59 {F : Nat} {q : (Int32 × Zs)} {S : Zs} {rc26 : Zs → Int32 → Int32 → Int32 → Int32 → Option (Int32 × Zs)} {x1 : Int32} {x2 : Int32} {x4 : Int32} {t0 : Int32} {t1 : Int32} {ls : Array Slot} {H : Heap} {locs : List Loc} (C : zC p s m args meth c cX12_forms 5 RX12 (some .int)) (hrc26 : ∀ (S : Zs) (x1 : Int32) (x2 : Int32) (x3 : Int32) (x4 : Int32) (H : Heap) (locs : List Loc) (ls : Array Slot), rc26 S x1 x2 x3 x4 = some q → zW (mG D cs ad) s S H locs → lv_has ls 5 [(0, .ref (ad 0)), (1, .int x1), (2, .int x2), (3, .int x3), (4, .int x4)] → W p l e (zR 6 129) s m args below meth c H locs 0 0 (zQi (mG D cs ad) q below args s) (F0 m 26 ls [])) (h : n_X12_forms_0_b59 F rc26 S x1 x2 x4 t0 t1 = some q) (hW : zW (mG D cs ad) s S H locs) (hl : lv_has ls 5 [(0, .ref (ad 0)), (1, .int x1), (2, .int x2), (4, .int x4)]) : W p l e (zR 6 129) s m args below meth c H locs 0 0 (zQi (mG D cs ad) q below args s) (F0 m 59 ls [.int t0, .int t1]) := by
  unfold n_X12_forms_0_b59 at h
  obtain ⟨hx, hb, hml, hown, hts, hret, hlk⟩ := id C
  refine lv_ior hx hb dX12_forms_59 ?_
  refine zz_leti h (fun v1 h => ?_)
  refine lv_istore_n (lv' := [(3, .int v1), (0, .ref (ad 0)), (1, .int x1), (2, .int x2), (4, .int x4)]) hx hb dX12_forms_60 rfl hl (by decide) rfl (fun ls hl => ?_)
  obtain ⟨v2, ev2, h⟩ := zz_name h
  refine lv_iinc (v := v2) (lv' := [(4, .int v2), (3, .int v1), (0, .ref (ad 0)), (1, .int x1), (2, .int x2)]) hx hb dX12_forms_61 hl (k := 4) rfl ev2.symm (by decide) rfl (fun ls hl => ?_)
  refine lv_goto (tgt := 26) hx hb dX12_forms_64 (by decide) ?_
  exact hrc26 _ _ _ _ _ _ _ _ h hW (lv_sub hl [2, 3, 4, 1, 0] rfl)
def n_X12_forms_0_b26_l (F : Nat) (rc26 : Zs → Int32 → Int32 → Int32 → Int32 → Option (Int32 × Zs)) (S : Zs) (x1 : Int32) (x2 : Int32) (x3 : Int32) (x4 : Int32) : Option (Int32 × Zs) :=
  if (4 : Int32) ≤ x4 then (zpf S 1 (0 : Int32) (fun S1 => zcl (n_X12_countsBoth_0 F S1 x1 x2) (fun v3 S2 => zcl (n_X12_enters_0 F S2 v3) (fun v5 S4 => zcl (n_X12_countsBoth_0 F S4 x1 (x2 ^^^ (1 : Int32))) (fun v7 S6 => zcl (n_X12_enters_0 F S6 v7) (fun v9 S8 => some (x3, S8))))))) else (zcl (n_X12_standing_0 F S ) (fun v11 S10 => zcl (n_X12_codeOf F S10 x4 x1 x2) (fun v13 S12 => zcl (n_X12_followsFrom_0 F S12 v11 v13) (fun v15 S14 => if v15 = 0 then (n_X12_forms_0_b59 F rc26 S14 x1 x2 x4 (0 : Int32) x3) else (n_X12_forms_0_b59 F rc26 S14 x1 x2 x4 ((1 : Int32) <<< (x4 &&& 31)) x3)))))
set_option maxRecDepth 20000 in
set_option maxHeartbeats 4000000 in
theorem w_X12_forms_0_b26_l {F : Nat} {q : (Int32 × Zs)} {S : Zs} {rc26 : Zs → Int32 → Int32 → Int32 → Int32 → Option (Int32 × Zs)} {x1 : Int32} {x2 : Int32} {x3 : Int32} {x4 : Int32} {ls : Array Slot} {H : Heap} {locs : List Loc} (C : zC p s m args meth c cX12_forms 5 RX12 (some .int)) (hrc26 : ∀ (S : Zs) (x1 : Int32) (x2 : Int32) (x3 : Int32) (x4 : Int32) (H : Heap) (locs : List Loc) (ls : Array Slot), rc26 S x1 x2 x3 x4 = some q → zW (mG D cs ad) s S H locs → lv_has ls 5 [(0, .ref (ad 0)), (1, .int x1), (2, .int x2), (3, .int x3), (4, .int x4)] → W p l e (zR 6 129) s m args below meth c H locs 0 0 (zQi (mG D cs ad) q below args s) (F0 m 26 ls [])) (h : n_X12_forms_0_b26_l F rc26 S x1 x2 x3 x4 = some q) (hW : zW (mG D cs ad) s S H locs) (hl : lv_has ls 5 [(0, .ref (ad 0)), (1, .int x1), (2, .int x2), (3, .int x3), (4, .int x4)]) : W p l e (zR 6 129) s m args below meth c H locs 0 0 (zQi (mG D cs ad) q below args s) (F0 m 26 ls []) := by
  unfold n_X12_forms_0_b26_l at h
  obtain ⟨hx, hb, hml, hown, hts, hret, hlk⟩ := id C
  refine lv_iload hx hb dX12_forms_26 (lv_at hl 4 rfl) ?_
  refine lv_iconst (v := 4) hx hb dX12_forms_28 (by decide) ?_
  refine zz_cge (tgt := 67) C h dX12_forms_29 (by decide) (fun h => ?_) (fun h => ?_)
  · refine lv_aload_n hx hb dX12_forms_67 rfl (lv_at hl 0 rfl) ?_
    refine lv_iconst (v := 0) hx hb dX12_forms_68 (by decide) ?_
    refine mp_0_1 C hW h fl_X12_11 dX12_forms_69 (fun S1 H locs h hW => ?_)
    refine lv_aload_n hx hb dX12_forms_72 rfl (lv_at hl 0 rfl) ?_
    refine lv_aload_n hx hb dX12_forms_73 rfl (lv_at hl 0 rfl) ?_
    refine lv_iload_n hx hb dX12_forms_74 rfl (lv_at hl 1 rfl) ?_
    refine lv_iload_n hx hb dX12_forms_75 rfl (lv_at hl 2 rfl) ?_
    refine zz_callVi (As := [.int x1, .int x2]) C hW h (fun r hr => c_X12_countsBoth_0 hr) lk_X12_268 (hW.recv mr_0) rfl hl.1 ⟨rfl, rfl⟩ ⟨Nat.le_of_ble_eq_true rfl, Nat.le_of_ble_eq_true rfl⟩ (Nat.le_of_ble_eq_true rfl) ⟨Nat.zero_le _, Nat.zero_le _⟩ rfl dX12_forms_76 (fun v3 S2 H locs h hW => ?_)
    refine zz_callVv (As := [.int v3]) C hW h (fun r hr => c_X12_enters_0 hr) lk_X12_221 (hW.recv mr_0) rfl hl.1 ⟨rfl, rfl⟩ ⟨Nat.le_of_ble_eq_true rfl, Nat.le_of_ble_eq_true rfl⟩ (Nat.le_of_ble_eq_true rfl) ⟨Nat.zero_le _, Nat.zero_le _⟩ rfl dX12_forms_79 (fun v5 S4 H locs h hW => ?_)
    refine lv_aload_n hx hb dX12_forms_82 rfl (lv_at hl 0 rfl) ?_
    refine lv_aload_n hx hb dX12_forms_83 rfl (lv_at hl 0 rfl) ?_
    refine lv_iload_n hx hb dX12_forms_84 rfl (lv_at hl 1 rfl) ?_
    refine lv_iload_n hx hb dX12_forms_85 rfl (lv_at hl 2 rfl) ?_
    refine lv_iconst (v := 1) hx hb dX12_forms_86 (by decide) ?_
    refine lv_ixor hx hb dX12_forms_87 ?_
    refine zz_callVi (As := [.int x1, .int (x2 ^^^ (1 : Int32))]) C hW h (fun r hr => c_X12_countsBoth_0 hr) lk_X12_268 (hW.recv mr_0) rfl hl.1 ⟨rfl, rfl⟩ ⟨Nat.le_of_ble_eq_true rfl, Nat.le_of_ble_eq_true rfl⟩ (Nat.le_of_ble_eq_true rfl) ⟨Nat.zero_le _, Nat.zero_le _⟩ rfl dX12_forms_88 (fun v7 S6 H locs h hW => ?_)
    refine zz_callVv (As := [.int v7]) C hW h (fun r hr => c_X12_enters_0 hr) lk_X12_221 (hW.recv mr_0) rfl hl.1 ⟨rfl, rfl⟩ ⟨Nat.le_of_ble_eq_true rfl, Nat.le_of_ble_eq_true rfl⟩ (Nat.le_of_ble_eq_true rfl) ⟨Nat.zero_le _, Nat.zero_le _⟩ rfl dX12_forms_91 (fun v9 S8 H locs h hW => ?_)
    refine lv_iload_n hx hb dX12_forms_94 rfl (lv_at hl 3 rfl) ?_
    exact zz_iret C rfl h hW dX12_forms_95
  · refine lv_iload_n hx hb dX12_forms_32 rfl (lv_at hl 3 rfl) ?_
    refine lv_aload_n hx hb dX12_forms_33 rfl (lv_at hl 0 rfl) ?_
    refine lv_aload_n hx hb dX12_forms_34 rfl (lv_at hl 0 rfl) ?_
    refine zz_callVi (As := []) C hW h (fun r hr => c_X12_standing_0 hr) lk_X12_206 (hW.recv mr_0) rfl hl.1 ⟨rfl, rfl⟩ ⟨Nat.le_of_ble_eq_true rfl, Nat.le_of_ble_eq_true rfl⟩ (Nat.le_of_ble_eq_true rfl) ⟨Nat.zero_le _, Nat.zero_le _⟩ rfl dX12_forms_35 (fun v11 S10 H locs h hW => ?_)
    refine lv_iload hx hb dX12_forms_38 (lv_at hl 4 rfl) ?_
    refine lv_iload_n hx hb dX12_forms_40 rfl (lv_at hl 1 rfl) ?_
    refine lv_iload_n hx hb dX12_forms_41 rfl (lv_at hl 2 rfl) ?_
    refine zz_callSi (As := [.int x4, .int x1, .int x2]) C hW h (fun r hr => c_X12_codeOf hr) lk_X12_30 rfl hl.1 ⟨rfl, rfl⟩ ⟨Nat.le_of_ble_eq_true rfl, Nat.le_of_ble_eq_true rfl⟩ (Nat.le_of_ble_eq_true rfl) ⟨Nat.zero_le _, Nat.zero_le _⟩ rfl dX12_forms_42 (fun v13 S12 H locs h hW => ?_)
    refine zz_callVi (As := [.int v11, .int v13]) C hW h (fun r hr => c_X12_followsFrom_0 hr) lk_X12_212 (hW.recv mr_0) rfl hl.1 ⟨rfl, rfl⟩ ⟨Nat.le_of_ble_eq_true rfl, Nat.le_of_ble_eq_true rfl⟩ (Nat.le_of_ble_eq_true rfl) ⟨Nat.zero_le _, Nat.zero_le _⟩ rfl dX12_forms_45 (fun v15 S14 H locs h hW => ?_)
    refine zz_ieq (tgt := 58) C h dX12_forms_48 (by decide) (fun h => ?_) (fun h => ?_)
    · refine lv_iconst (v := 0) hx hb dX12_forms_58 (by decide) ?_
      exact w_X12_forms_0_b59 (F := F) C hrc26 h hW (lv_sub hl [0, 1, 2, 4] rfl)
    · refine lv_iconst (v := 1) hx hb dX12_forms_51 (by decide) ?_
      refine lv_iload hx hb dX12_forms_52 (lv_at hl 4 rfl) ?_
      refine lv_ishl hx hb dX12_forms_54 ?_
      refine lv_goto (tgt := 59) hx hb dX12_forms_55 (by decide) ?_
      exact w_X12_forms_0_b59 (F := F) C hrc26 h hW (lv_sub hl [0, 1, 2, 4] rfl)
def n_X12_forms_0_b26 (F : Nat)  (S : Zs) (x1 : Int32) (x2 : Int32) (x3 : Int32) (x4 : Int32) : Option (Int32 × Zs) :=
  zfix (fun (rc : (Zs × Int32 × Int32 × Int32 × Int32) → Option (Int32 × Zs)) (u : (Zs × Int32 × Int32 × Int32 × Int32)) => n_X12_forms_0_b26_l F  (fun S x1 x2 x3 x4 => rc (S, x1, x2, x3, x4)) u.1 u.2.1 u.2.2.1 u.2.2.2.1 u.2.2.2.2) F (S, x1, x2, x3, x4)
theorem w_X12_forms_0_b26 {F : Nat} {q : (Int32 × Zs)}  (C : zC p s m args meth c cX12_forms 5 RX12 (some .int))  : ∀ (n : Nat) (S : Zs) (x1 : Int32) (x2 : Int32) (x3 : Int32) (x4 : Int32) (H : Heap) (locs : List Loc) (ls : Array Slot), zfix (fun (rc : (Zs × Int32 × Int32 × Int32 × Int32) → Option (Int32 × Zs)) (u : (Zs × Int32 × Int32 × Int32 × Int32)) => n_X12_forms_0_b26_l F  (fun S x1 x2 x3 x4 => rc (S, x1, x2, x3, x4)) u.1 u.2.1 u.2.2.1 u.2.2.2.1 u.2.2.2.2) n (S, x1, x2, x3, x4) = some q → zW (mG D cs ad) s S H locs → lv_has ls 5 [(0, .ref (ad 0)), (1, .int x1), (2, .int x2), (3, .int x3), (4, .int x4)] → W p l e (zR 6 129) s m args below meth c H locs 0 0 (zQi (mG D cs ad) q below args s) (F0 m 26 ls []) := by
  intro n
  induction n with
  | zero => intro S x1 x2 x3 x4 H locs ls h; exact absurd h (fun h => by cases h)
  | succ n ih => intro S x1 x2 x3 x4 H locs ls h hW hl; exact w_X12_forms_0_b26_l (F := F) C (fun S x1 x2 x3 x4 H locs ls h hW hl => ih S x1 x2 x3 x4 H locs ls h hW hl) h hW hl
def n_X12_forms_0_e (F : Nat)  (S : Zs) (x1 : Int32) (x2 : Int32) : Option (Int32 × Zs) :=
  zpf S 0 (0 : Int32) (fun S1 => zcl (n_X12_isTerm F S1 x1) (fun v3 S2 => if v3 = 0 then (n_X12_forms_0_b19 F  S2 ) else (zcl (n_X12_isTerm F S2 x2) (fun v5 S4 => if v5 = 0 then (n_X12_forms_0_b19 F  S4 ) else (n_X12_forms_0_b26 F  S4 x1 x2 (0 : Int32) (0 : Int32))))))
set_option maxRecDepth 20000 in
set_option maxHeartbeats 4000000 in
theorem w_X12_forms_0_e {F : Nat} {q : (Int32 × Zs)} {S : Zs}  {x1 : Int32} {x2 : Int32} {ls : Array Slot} {H : Heap} {locs : List Loc} (C : zC p s m args meth c cX12_forms 5 RX12 (some .int))  (h : n_X12_forms_0_e F  S x1 x2 = some q) (hW : zW (mG D cs ad) s S H locs) (hl : lv_has ls 5 [(0, .ref (ad 0)), (1, .int x1), (2, .int x2)]) : W p l e (zR 6 129) s m args below meth c H locs 0 0 (zQi (mG D cs ad) q below args s) (F0 m 0 ls []) := by
  unfold n_X12_forms_0_e at h
  obtain ⟨hx, hb, hml, hown, hts, hret, hlk⟩ := id C
  refine lv_aload_n hx hb dX12_forms_0 rfl (lv_at hl 0 rfl) ?_
  refine lv_iconst (v := 0) hx hb dX12_forms_1 (by decide) ?_
  refine mp_0_0 C hW h fl_X12_3 dX12_forms_2 (fun S1 H locs h hW => ?_)
  refine lv_iload_n hx hb dX12_forms_5 rfl (lv_at hl 1 rfl) ?_
  refine zz_callSi (As := [.int x1]) C hW h (fun r hr => c_X12_isTerm hr) lk_X12_236 rfl hl.1 ⟨rfl, rfl⟩ ⟨Nat.le_of_ble_eq_true rfl, Nat.le_of_ble_eq_true rfl⟩ (Nat.le_of_ble_eq_true rfl) ⟨Nat.zero_le _, Nat.zero_le _⟩ rfl dX12_forms_6 (fun v3 S2 H locs h hW => ?_)
  refine zz_ieq (tgt := 19) C h dX12_forms_9 (by decide) (fun h => ?_) (fun h => ?_)
  · exact w_X12_forms_0_b19 (F := F) C h hW (lv_sub hl [] rfl)
  · refine lv_iload_n hx hb dX12_forms_12 rfl (lv_at hl 2 rfl) ?_
    refine zz_callSi (As := [.int x2]) C hW h (fun r hr => c_X12_isTerm hr) lk_X12_236 rfl hl.1 ⟨rfl, rfl⟩ ⟨Nat.le_of_ble_eq_true rfl, Nat.le_of_ble_eq_true rfl⟩ (Nat.le_of_ble_eq_true rfl) ⟨Nat.zero_le _, Nat.zero_le _⟩ rfl dX12_forms_13 (fun v5 S4 H locs h hW => ?_)
    refine zz_ine (tgt := 21) C h dX12_forms_16 (by decide) (fun h => ?_) (fun h => ?_)
    · refine lv_iconst (v := 0) hx hb dX12_forms_21 (by decide) ?_
      refine lv_istore_n (lv' := [(3, .int (0 : Int32)), (0, .ref (ad 0)), (1, .int x1), (2, .int x2)]) hx hb dX12_forms_22 rfl hl (by decide) rfl (fun ls hl => ?_)
      refine lv_iconst (v := 0) hx hb dX12_forms_23 (by decide) ?_
      refine lv_istore (lv' := [(4, .int (0 : Int32)), (3, .int (0 : Int32)), (0, .ref (ad 0)), (1, .int x1), (2, .int x2)]) hx hb dX12_forms_24 hl (by decide) rfl (fun ls hl => ?_)
      exact w_X12_forms_0_b26 (F := F) C F _ _ _ _ _ _ _ _ h hW (lv_sub hl [2, 3, 4, 1, 0] rfl)
    · exact w_X12_forms_0_b19 (F := F) C h hW (lv_sub hl [] rfl)
def n_X12_forms_0 (F : Nat) (S : Zs) (x1 : Int32) (x2 : Int32) : Option (Int32 × Zs) := n_X12_forms_0_e F  S x1 x2
theorem c_X12_forms_0 {l : Launch} {D : va_G} {cs ad : Nat → Nat} {F : Nat} {S : Zs} {x1 : Int32} {x2 : Int32} {q : (Int32 × Zs)} (h : n_X12_forms_0 F S x1 x2 = some q) : zMi l yX12_forms cX12_forms 5 (some .int) (zR 6 129) (mG D cs ad) [.ref (ad 0), .int x1, .int x2] S q :=
  zz_enter (by decide) (Nat.le_of_ble_eq_true rfl) (fun p e s m below meth c ls C hW hl => w_X12_forms_0_e (F := F) C h hW (lv_sub hl [0, 1, 2] rfl))
def n_J0_isLatin1_aae02_31_m_b18 (F : Nat)  (S : Zs) (t0 : Int32) : Option (Int32 × Zs) :=
  zrb t0 S
set_option maxRecDepth 20000 in
set_option maxHeartbeats 4000000 in
theorem w_J0_isLatin1_aae02_31_m_b18 {F : Nat} {q : (Int32 × Zs)} {S : Zs}  {t0 : Int32} {ls : Array Slot} {H : Heap} {locs : List Loc} (C : zC p s m args meth c cJ0_isLatin1_aae02 1 RJ0 (some .boolean))  (h : n_J0_isLatin1_aae02_31_m_b18 F  S t0 = some q) (hW : zW (mG D cs ad) s S H locs) (hl : lv_has ls 1 []) : W p l e (zR 0 0) s m args below meth c H locs 0 0 (zQi (mG D cs ad) q below args s) (F0 m 18 ls [.int t0]) := by
  unfold n_J0_isLatin1_aae02_31_m_b18 at h
  obtain ⟨hx, hb, hml, hown, hts, hret, hlk⟩ := id C
  exact zz_zret C rfl h hW dJ0_isLatin1_aae02_18
def n_J0_isLatin1_aae02_31_m_b17 (F : Nat)  (S : Zs)  : Option (Int32 × Zs) :=
  n_J0_isLatin1_aae02_31_m_b18 F  S (0 : Int32)
set_option maxRecDepth 20000 in
set_option maxHeartbeats 4000000 in
theorem w_J0_isLatin1_aae02_31_m_b17 {F : Nat} {q : (Int32 × Zs)} {S : Zs}   {ls : Array Slot} {H : Heap} {locs : List Loc} (C : zC p s m args meth c cJ0_isLatin1_aae02 1 RJ0 (some .boolean))  (h : n_J0_isLatin1_aae02_31_m_b17 F  S  = some q) (hW : zW (mG D cs ad) s S H locs) (hl : lv_has ls 1 []) : W p l e (zR 0 0) s m args below meth c H locs 0 0 (zQi (mG D cs ad) q below args s) (F0 m 17 ls []) := by
  unfold n_J0_isLatin1_aae02_31_m_b17 at h
  obtain ⟨hx, hb, hml, hown, hts, hret, hlk⟩ := id C
  refine lv_iconst (v := 0) hx hb dJ0_isLatin1_aae02_17 (by decide) ?_
  exact w_J0_isLatin1_aae02_31_m_b18 (F := F) C h hW (lv_sub hl [] rfl)
def n_J0_isLatin1_aae02_31_m_e (F : Nat)  (S : Zs)  : Option (Int32 × Zs) :=
  if (1 : Int32) = 0 then (n_J0_isLatin1_aae02_31_m_b17 F  S ) else (if (0 : Int32) = 0 then (n_J0_isLatin1_aae02_31_m_b18 F  S (1 : Int32)) else (n_J0_isLatin1_aae02_31_m_b17 F  S ))
set_option maxRecDepth 20000 in
set_option maxHeartbeats 4000000 in
theorem w_J0_isLatin1_aae02_31_m_e {F : Nat} {q : (Int32 × Zs)} {S : Zs}   {ls : Array Slot} {H : Heap} {locs : List Loc} (C : zC p s m args meth c cJ0_isLatin1_aae02 1 RJ0 (some .boolean))  (h : n_J0_isLatin1_aae02_31_m_e F  S  = some q) (hW : zW (mG D cs ad) s S H locs) (hl : lv_has ls 1 [(0, .ref (ad 31))]) : W p l e (zR 0 0) s m args below meth c H locs 0 0 (zQi (mG D cs ad) q below args s) (F0 m 0 ls []) := by
  unfold n_J0_isLatin1_aae02_31_m_e at h
  obtain ⟨hx, hb, hml, hown, hts, hret, hlk⟩ := id C
  refine mcomp C hW fk_J0_38 dJ0_isLatin1_aae02_0 ?_
  refine zz_ieq (tgt := 17) C h dJ0_isLatin1_aae02_3 (by decide) (fun h => ?_) (fun h => ?_)
  · exact w_J0_isLatin1_aae02_31_m_b17 (F := F) C h hW (lv_sub hl [] rfl)
  · refine lv_aload_n hx hb dJ0_isLatin1_aae02_6 rfl (lv_at hl 0 rfl) ?_
    refine mstc_31 C hW fk_J0_15 dJ0_isLatin1_aae02_7 ?_
    refine zz_ine (tgt := 17) C h dJ0_isLatin1_aae02_10 (by decide) (fun h => ?_) (fun h => ?_)
    · exact w_J0_isLatin1_aae02_31_m_b17 (F := F) C h hW (lv_sub hl [] rfl)
    · refine lv_iconst (v := 1) hx hb dJ0_isLatin1_aae02_13 (by decide) ?_
      refine lv_goto (tgt := 18) hx hb dJ0_isLatin1_aae02_14 (by decide) ?_
      exact w_J0_isLatin1_aae02_31_m_b18 (F := F) C h hW (lv_sub hl [] rfl)
def n_J0_isLatin1_aae02_31_m (F : Nat) (S : Zs)  : Option (Int32 × Zs) := n_J0_isLatin1_aae02_31_m_e F  S 
theorem c_J0_isLatin1_aae02_31_m {l : Launch} {D : va_G} {cs ad : Nat → Nat} {F : Nat} {S : Zs}  {q : (Int32 × Zs)} (h : n_J0_isLatin1_aae02_31_m F S  = some q) : zMi l yJ0_isLatin1_aae02 cJ0_isLatin1_aae02 1 (some .boolean) (zR 0 0) (mG D cs ad) [.ref (ad 31)] S q :=
  zz_enter (by decide) (Nat.le_of_ble_eq_true rfl) (fun p e s m below meth c ls C hW hl => w_J0_isLatin1_aae02_31_m_e (F := F) C h hW (lv_sub hl [0] rfl))
def n_J1_charAt_3b067_34_m_e (F : Nat)  (S : Zs) (x1 : Int32) : Option (Int32 × Zs) :=
  zcl (n_J0_checkIndex_df160_m F S x1 (nI 19)) (fun v2 S1 => zlt (mstr 1) 19 x1 (fun v3 => zrn .char (((v3 &&& (255 : Int32)).toUInt32 % 65536).toInt32) S1))
set_option maxRecDepth 20000 in
set_option maxHeartbeats 4000000 in
theorem w_J1_charAt_3b067_34_m_e {F : Nat} {q : (Int32 × Zs)} {S : Zs}  {x1 : Int32} {ls : Array Slot} {H : Heap} {locs : List Loc} (C : zC p s m args meth c cJ1_charAt_3b067 2 RJ1 (some .char))  (h : n_J1_charAt_3b067_34_m_e F  S x1 = some q) (hW : zW (mG D cs ad) s S H locs) (hl : lv_has ls 2 [(0, .ref (ad 34)), (1, .int x1)]) : W p l e (zR 2 43) s m args below meth c H locs 0 0 (zQi (mG D cs ad) q below args s) (F0 m 0 ls []) := by
  unfold n_J1_charAt_3b067_34_m_e at h
  obtain ⟨hx, hb, hml, hown, hts, hret, hlk⟩ := id C
  refine lv_iload_n hx hb dJ1_charAt_3b067_0 rfl (lv_at hl 1 rfl) ?_
  refine lv_aload_n hx hb dJ1_charAt_3b067_1 rfl (lv_at hl 0 rfl) ?_
  refine mstn_34 C hW dJ1_charAt_3b067_2 ?_
  refine zz_callSv (As := [.int x1, .int (nI 19)]) C hW h (fun r hr => c_J0_checkIndex_df160_m hr) lk_J1_9 rfl hl.1 ⟨rfl, rfl⟩ ⟨Nat.le_of_ble_eq_true rfl, Nat.le_of_ble_eq_true rfl⟩ (Nat.le_of_ble_eq_true rfl) ⟨Nat.zero_le _, Nat.zero_le _⟩ rfl dJ1_charAt_3b067_3 (fun v2 S1 H locs h hW => ?_)
  refine lv_aload_n hx hb dJ1_charAt_3b067_6 rfl (lv_at hl 0 rfl) ?_
  refine lv_iload_n hx hb dJ1_charAt_3b067_7 rfl (lv_at hl 1 rfl) ?_
  refine mstl_34 C hW h dJ1_charAt_3b067_8 (fun v3 h => ?_)
  refine lv_sipush (v := 255) hx hb dJ1_charAt_3b067_9 (by decide) ?_
  refine lv_iand hx hb dJ1_charAt_3b067_12 ?_
  refine lv_i2c hx hb dJ1_charAt_3b067_13 rfl ?_
  exact zz_nret C rfl (by decide) h hW dJ1_charAt_3b067_14
def n_J1_charAt_3b067_34_m (F : Nat) (S : Zs) (x1 : Int32) : Option (Int32 × Zs) := n_J1_charAt_3b067_34_m_e F  S x1
theorem c_J1_charAt_3b067_34_m {l : Launch} {D : va_G} {cs ad : Nat → Nat} {F : Nat} {S : Zs} {x1 : Int32} {q : (Int32 × Zs)} (h : n_J1_charAt_3b067_34_m F S x1 = some q) : zMi l yJ1_charAt_3b067 cJ1_charAt_3b067 2 (some .char) (zR 2 43) (mG D cs ad) [.ref (ad 34), .int x1] S q :=
  zz_enter (by decide) (Nat.le_of_ble_eq_true rfl) (fun p e s m below meth c ls C hW hl => w_J1_charAt_3b067_34_m_e (F := F) C h hW (lv_sub hl [0, 1] rfl))
end ZM
