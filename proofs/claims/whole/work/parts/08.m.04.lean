section ZM
variable {p : Program} {l : Launch} {e : Env} {s : State} {m : MethodId} {args : Array Value} {below : List Frame} {meth : Method} {c : Code} {D : va_G} {cs ad : Nat → Nat}
def n_J0_charAt_5068e_31_m_e (F : Nat)  (S : Zs) (x1 : Int32) : Option (Int32 × Zs) :=
  zcl (n_J0_isLatin1_aae02_31_m F S ) (fun v2 S1 => if v2 = 0 then (none) else (zcl (n_J1_charAt_3b067_34_m F S1 x1) (fun v4 S3 => zrn .char v4 S3)))
set_option maxRecDepth 20000 in
set_option maxHeartbeats 4000000 in
theorem w_J0_charAt_5068e_31_m_e {F : Nat} {q : (Int32 × Zs)} {S : Zs}  {x1 : Int32} {ls : Array Slot} {H : Heap} {locs : List Loc} (C : zC p s m args meth c cJ0_charAt_5068e 2 RJ0 (some .char))  (h : n_J0_charAt_5068e_31_m_e F  S x1 = some q) (hW : zW (mG D cs ad) s S H locs) (hl : lv_has ls 2 [(0, .ref (ad 31)), (1, .int x1)]) : W p l e (zR 3 64) s m args below meth c H locs 0 0 (zQi (mG D cs ad) q below args s) (F0 m 0 ls []) := by
  unfold n_J0_charAt_5068e_31_m_e at h
  obtain ⟨hx, hb, hml, hown, hts, hret, hlk⟩ := id C
  refine lv_aload_n hx hb dJ0_charAt_5068e_0 rfl (lv_at hl 0 rfl) ?_
  refine zz_callVi (As := []) C hW h (fun r hr => c_J0_isLatin1_aae02_31_m hr) lk_J0_492 (mstr_r31 hW) rfl hl.1 ⟨rfl, rfl⟩ ⟨Nat.le_of_ble_eq_true rfl, Nat.le_of_ble_eq_true rfl⟩ (Nat.le_of_ble_eq_true rfl) ⟨Nat.zero_le _, Nat.zero_le _⟩ rfl dJ0_charAt_5068e_1 (fun v2 S1 H locs h hW => ?_)
  refine zz_ieq (tgt := 16) C h dJ0_charAt_5068e_4 (by decide) (fun h => ?_) (fun h => ?_)
  · refine lv_aload_n hx hb dJ0_charAt_5068e_16 rfl (lv_at hl 0 rfl) ?_
    refine mstv_31 C hW fk_J0_9 dJ0_charAt_5068e_17 ?_
    refine lv_iload_n hx hb dJ0_charAt_5068e_20 rfl (lv_at hl 1 rfl) ?_
    cases h
  · refine lv_aload_n hx hb dJ0_charAt_5068e_7 rfl (lv_at hl 0 rfl) ?_
    refine mstv_31 C hW fk_J0_9 dJ0_charAt_5068e_8 ?_
    refine lv_iload_n hx hb dJ0_charAt_5068e_11 rfl (lv_at hl 1 rfl) ?_
    refine zz_callSi (As := [.ref (ad 34), .int x1]) C hW h (fun r hr => c_J1_charAt_3b067_34_m hr) lk_J0_495 rfl hl.1 ⟨rfl, rfl⟩ ⟨Nat.le_of_ble_eq_true rfl, Nat.le_of_ble_eq_true rfl⟩ (Nat.le_of_ble_eq_true rfl) ⟨Nat.zero_le _, Nat.zero_le _⟩ rfl dJ0_charAt_5068e_12 (fun v4 S3 H locs h hW => ?_)
    exact zz_nret C rfl (by decide) h hW dJ0_charAt_5068e_15
def n_J0_charAt_5068e_31_m (F : Nat) (S : Zs) (x1 : Int32) : Option (Int32 × Zs) := n_J0_charAt_5068e_31_m_e F  S x1
theorem c_J0_charAt_5068e_31_m {l : Launch} {D : va_G} {cs ad : Nat → Nat} {F : Nat} {S : Zs} {x1 : Int32} {q : (Int32 × Zs)} (h : n_J0_charAt_5068e_31_m F S x1 = some q) : zMi l yJ0_charAt_5068e cJ0_charAt_5068e 2 (some .char) (zR 3 64) (mG D cs ad) [.ref (ad 31), .int x1] S q :=
  zz_enter (by decide) (Nat.le_of_ble_eq_true rfl) (fun p e s m below meth c ls C hW hl => w_J0_charAt_5068e_31_m_e (F := F) C h hW (lv_sub hl [0, 1] rfl))
def n_X12_figureOf_e (F : Nat)  (S : Zs) (x0 : Int32) : Option (Int32 × Zs) :=
  zcl (n_J0_charAt_5068e_31_m F S x0) (fun v2 S1 => some ((v2 - (48 : Int32)), S1))
set_option maxRecDepth 20000 in
set_option maxHeartbeats 4000000 in
theorem w_X12_figureOf_e {F : Nat} {q : (Int32 × Zs)} {S : Zs}  {x0 : Int32} {ls : Array Slot} {H : Heap} {locs : List Loc} (C : zC p s m args meth c cX12_figureOf 1 RX12 (some .int))  (h : n_X12_figureOf_e F  S x0 = some q) (hW : zW (mG D cs ad) s S H locs) (hl : lv_has ls 1 [(0, .int x0)]) : W p l e (zR 4 85) s m args below meth c H locs 0 0 (zQi (mG D cs ad) q below args s) (F0 m 0 ls []) := by
  unfold n_X12_figureOf_e at h
  obtain ⟨hx, hb, hml, hown, hts, hret, hlk⟩ := id C
  refine mstr_339 C hW dX12_figureOf_0 ?_
  refine lv_iload_n hx hb dX12_figureOf_3 rfl (lv_at hl 0 rfl) ?_
  refine zz_callVi (As := [.int x0]) C hW h (fun r hr => c_J0_charAt_5068e_31_m hr) lk_X12_66 (mstr_r31 hW) rfl hl.1 ⟨rfl, rfl⟩ ⟨Nat.le_of_ble_eq_true rfl, Nat.le_of_ble_eq_true rfl⟩ (Nat.le_of_ble_eq_true rfl) ⟨Nat.zero_le _, Nat.zero_le _⟩ rfl dX12_figureOf_4 (fun v2 S1 H locs h hW => ?_)
  refine lv_bipush (v := 48) hx hb dX12_figureOf_7 (by decide) ?_
  refine lv_isub hx hb dX12_figureOf_9 ?_
  exact zz_iret C rfl h hW dX12_figureOf_10
def n_X12_figureOf (F : Nat) (S : Zs) (x0 : Int32) : Option (Int32 × Zs) := n_X12_figureOf_e F  S x0
theorem c_X12_figureOf {l : Launch} {D : va_G} {cs ad : Nat → Nat} {F : Nat} {S : Zs} {x0 : Int32} {q : (Int32 × Zs)} (h : n_X12_figureOf F S x0 = some q) : zMi l yX12_figureOf cX12_figureOf 1 (some .int) (zR 4 85) (mG D cs ad) [.int x0] S q :=
  zz_enter (by decide) (Nat.le_of_ble_eq_true rfl) (fun p e s m below meth c ls C hW hl => w_X12_figureOf_e (F := F) C h hW (lv_sub hl [0] rfl))
def n_J0_isLatin1_aae02_32_m_b18 (F : Nat)  (S : Zs) (t0 : Int32) : Option (Int32 × Zs) :=
  zrb t0 S
set_option maxRecDepth 20000 in
set_option maxHeartbeats 4000000 in
theorem w_J0_isLatin1_aae02_32_m_b18 {F : Nat} {q : (Int32 × Zs)} {S : Zs}  {t0 : Int32} {ls : Array Slot} {H : Heap} {locs : List Loc} (C : zC p s m args meth c cJ0_isLatin1_aae02 1 RJ0 (some .boolean))  (h : n_J0_isLatin1_aae02_32_m_b18 F  S t0 = some q) (hW : zW (mG D cs ad) s S H locs) (hl : lv_has ls 1 []) : W p l e (zR 0 0) s m args below meth c H locs 0 0 (zQi (mG D cs ad) q below args s) (F0 m 18 ls [.int t0]) := by
  unfold n_J0_isLatin1_aae02_32_m_b18 at h
  obtain ⟨hx, hb, hml, hown, hts, hret, hlk⟩ := id C
  exact zz_zret C rfl h hW dJ0_isLatin1_aae02_18
def n_J0_isLatin1_aae02_32_m_b17 (F : Nat)  (S : Zs)  : Option (Int32 × Zs) :=
  n_J0_isLatin1_aae02_32_m_b18 F  S (0 : Int32)
set_option maxRecDepth 20000 in
set_option maxHeartbeats 4000000 in
theorem w_J0_isLatin1_aae02_32_m_b17 {F : Nat} {q : (Int32 × Zs)} {S : Zs}   {ls : Array Slot} {H : Heap} {locs : List Loc} (C : zC p s m args meth c cJ0_isLatin1_aae02 1 RJ0 (some .boolean))  (h : n_J0_isLatin1_aae02_32_m_b17 F  S  = some q) (hW : zW (mG D cs ad) s S H locs) (hl : lv_has ls 1 []) : W p l e (zR 0 0) s m args below meth c H locs 0 0 (zQi (mG D cs ad) q below args s) (F0 m 17 ls []) := by
  unfold n_J0_isLatin1_aae02_32_m_b17 at h
  obtain ⟨hx, hb, hml, hown, hts, hret, hlk⟩ := id C
  refine lv_iconst (v := 0) hx hb dJ0_isLatin1_aae02_17 (by decide) ?_
  exact w_J0_isLatin1_aae02_32_m_b18 (F := F) C h hW (lv_sub hl [] rfl)
def n_J0_isLatin1_aae02_32_m_e (F : Nat)  (S : Zs)  : Option (Int32 × Zs) :=
  if (1 : Int32) = 0 then (n_J0_isLatin1_aae02_32_m_b17 F  S ) else (if (0 : Int32) = 0 then (n_J0_isLatin1_aae02_32_m_b18 F  S (1 : Int32)) else (n_J0_isLatin1_aae02_32_m_b17 F  S ))
set_option maxRecDepth 20000 in
set_option maxHeartbeats 4000000 in
theorem w_J0_isLatin1_aae02_32_m_e {F : Nat} {q : (Int32 × Zs)} {S : Zs}   {ls : Array Slot} {H : Heap} {locs : List Loc} (C : zC p s m args meth c cJ0_isLatin1_aae02 1 RJ0 (some .boolean))  (h : n_J0_isLatin1_aae02_32_m_e F  S  = some q) (hW : zW (mG D cs ad) s S H locs) (hl : lv_has ls 1 [(0, .ref (ad 32))]) : W p l e (zR 0 0) s m args below meth c H locs 0 0 (zQi (mG D cs ad) q below args s) (F0 m 0 ls []) := by
  unfold n_J0_isLatin1_aae02_32_m_e at h
  obtain ⟨hx, hb, hml, hown, hts, hret, hlk⟩ := id C
  refine mcomp C hW fk_J0_38 dJ0_isLatin1_aae02_0 ?_
  refine zz_ieq (tgt := 17) C h dJ0_isLatin1_aae02_3 (by decide) (fun h => ?_) (fun h => ?_)
  · exact w_J0_isLatin1_aae02_32_m_b17 (F := F) C h hW (lv_sub hl [] rfl)
  · refine lv_aload_n hx hb dJ0_isLatin1_aae02_6 rfl (lv_at hl 0 rfl) ?_
    refine mstc_32 C hW fk_J0_15 dJ0_isLatin1_aae02_7 ?_
    refine zz_ine (tgt := 17) C h dJ0_isLatin1_aae02_10 (by decide) (fun h => ?_) (fun h => ?_)
    · exact w_J0_isLatin1_aae02_32_m_b17 (F := F) C h hW (lv_sub hl [] rfl)
    · refine lv_iconst (v := 1) hx hb dJ0_isLatin1_aae02_13 (by decide) ?_
      refine lv_goto (tgt := 18) hx hb dJ0_isLatin1_aae02_14 (by decide) ?_
      exact w_J0_isLatin1_aae02_32_m_b18 (F := F) C h hW (lv_sub hl [] rfl)
def n_J0_isLatin1_aae02_32_m (F : Nat) (S : Zs)  : Option (Int32 × Zs) := n_J0_isLatin1_aae02_32_m_e F  S 
theorem c_J0_isLatin1_aae02_32_m {l : Launch} {D : va_G} {cs ad : Nat → Nat} {F : Nat} {S : Zs}  {q : (Int32 × Zs)} (h : n_J0_isLatin1_aae02_32_m F S  = some q) : zMi l yJ0_isLatin1_aae02 cJ0_isLatin1_aae02 1 (some .boolean) (zR 0 0) (mG D cs ad) [.ref (ad 32)] S q :=
  zz_enter (by decide) (Nat.le_of_ble_eq_true rfl) (fun p e s m below meth c ls C hW hl => w_J0_isLatin1_aae02_32_m_e (F := F) C h hW (lv_sub hl [0] rfl))
def n_J1_charAt_3b067_35_m_e (F : Nat)  (S : Zs) (x1 : Int32) : Option (Int32 × Zs) :=
  zcl (n_J0_checkIndex_df160_m F S x1 (nI 57)) (fun v2 S1 => zlt (mstr 2) 57 x1 (fun v3 => zrn .char (((v3 &&& (255 : Int32)).toUInt32 % 65536).toInt32) S1))
set_option maxRecDepth 20000 in
set_option maxHeartbeats 4000000 in
theorem w_J1_charAt_3b067_35_m_e {F : Nat} {q : (Int32 × Zs)} {S : Zs}  {x1 : Int32} {ls : Array Slot} {H : Heap} {locs : List Loc} (C : zC p s m args meth c cJ1_charAt_3b067 2 RJ1 (some .char))  (h : n_J1_charAt_3b067_35_m_e F  S x1 = some q) (hW : zW (mG D cs ad) s S H locs) (hl : lv_has ls 2 [(0, .ref (ad 35)), (1, .int x1)]) : W p l e (zR 2 43) s m args below meth c H locs 0 0 (zQi (mG D cs ad) q below args s) (F0 m 0 ls []) := by
  unfold n_J1_charAt_3b067_35_m_e at h
  obtain ⟨hx, hb, hml, hown, hts, hret, hlk⟩ := id C
  refine lv_iload_n hx hb dJ1_charAt_3b067_0 rfl (lv_at hl 1 rfl) ?_
  refine lv_aload_n hx hb dJ1_charAt_3b067_1 rfl (lv_at hl 0 rfl) ?_
  refine mstn_35 C hW dJ1_charAt_3b067_2 ?_
  refine zz_callSv (As := [.int x1, .int (nI 57)]) C hW h (fun r hr => c_J0_checkIndex_df160_m hr) lk_J1_9 rfl hl.1 ⟨rfl, rfl⟩ ⟨Nat.le_of_ble_eq_true rfl, Nat.le_of_ble_eq_true rfl⟩ (Nat.le_of_ble_eq_true rfl) ⟨Nat.zero_le _, Nat.zero_le _⟩ rfl dJ1_charAt_3b067_3 (fun v2 S1 H locs h hW => ?_)
  refine lv_aload_n hx hb dJ1_charAt_3b067_6 rfl (lv_at hl 0 rfl) ?_
  refine lv_iload_n hx hb dJ1_charAt_3b067_7 rfl (lv_at hl 1 rfl) ?_
  refine mstl_35 C hW h dJ1_charAt_3b067_8 (fun v3 h => ?_)
  refine lv_sipush (v := 255) hx hb dJ1_charAt_3b067_9 (by decide) ?_
  refine lv_iand hx hb dJ1_charAt_3b067_12 ?_
  refine lv_i2c hx hb dJ1_charAt_3b067_13 rfl ?_
  exact zz_nret C rfl (by decide) h hW dJ1_charAt_3b067_14
def n_J1_charAt_3b067_35_m (F : Nat) (S : Zs) (x1 : Int32) : Option (Int32 × Zs) := n_J1_charAt_3b067_35_m_e F  S x1
theorem c_J1_charAt_3b067_35_m {l : Launch} {D : va_G} {cs ad : Nat → Nat} {F : Nat} {S : Zs} {x1 : Int32} {q : (Int32 × Zs)} (h : n_J1_charAt_3b067_35_m F S x1 = some q) : zMi l yJ1_charAt_3b067 cJ1_charAt_3b067 2 (some .char) (zR 2 43) (mG D cs ad) [.ref (ad 35), .int x1] S q :=
  zz_enter (by decide) (Nat.le_of_ble_eq_true rfl) (fun p e s m below meth c ls C hW hl => w_J1_charAt_3b067_35_m_e (F := F) C h hW (lv_sub hl [0, 1] rfl))
def n_J0_charAt_5068e_32_m_e (F : Nat)  (S : Zs) (x1 : Int32) : Option (Int32 × Zs) :=
  zcl (n_J0_isLatin1_aae02_32_m F S ) (fun v2 S1 => if v2 = 0 then (none) else (zcl (n_J1_charAt_3b067_35_m F S1 x1) (fun v4 S3 => zrn .char v4 S3)))
set_option maxRecDepth 20000 in
set_option maxHeartbeats 4000000 in
theorem w_J0_charAt_5068e_32_m_e {F : Nat} {q : (Int32 × Zs)} {S : Zs}  {x1 : Int32} {ls : Array Slot} {H : Heap} {locs : List Loc} (C : zC p s m args meth c cJ0_charAt_5068e 2 RJ0 (some .char))  (h : n_J0_charAt_5068e_32_m_e F  S x1 = some q) (hW : zW (mG D cs ad) s S H locs) (hl : lv_has ls 2 [(0, .ref (ad 32)), (1, .int x1)]) : W p l e (zR 3 64) s m args below meth c H locs 0 0 (zQi (mG D cs ad) q below args s) (F0 m 0 ls []) := by
  unfold n_J0_charAt_5068e_32_m_e at h
  obtain ⟨hx, hb, hml, hown, hts, hret, hlk⟩ := id C
  refine lv_aload_n hx hb dJ0_charAt_5068e_0 rfl (lv_at hl 0 rfl) ?_
  refine zz_callVi (As := []) C hW h (fun r hr => c_J0_isLatin1_aae02_32_m hr) lk_J0_492 (mstr_r32 hW) rfl hl.1 ⟨rfl, rfl⟩ ⟨Nat.le_of_ble_eq_true rfl, Nat.le_of_ble_eq_true rfl⟩ (Nat.le_of_ble_eq_true rfl) ⟨Nat.zero_le _, Nat.zero_le _⟩ rfl dJ0_charAt_5068e_1 (fun v2 S1 H locs h hW => ?_)
  refine zz_ieq (tgt := 16) C h dJ0_charAt_5068e_4 (by decide) (fun h => ?_) (fun h => ?_)
  · refine lv_aload_n hx hb dJ0_charAt_5068e_16 rfl (lv_at hl 0 rfl) ?_
    refine mstv_32 C hW fk_J0_9 dJ0_charAt_5068e_17 ?_
    refine lv_iload_n hx hb dJ0_charAt_5068e_20 rfl (lv_at hl 1 rfl) ?_
    cases h
  · refine lv_aload_n hx hb dJ0_charAt_5068e_7 rfl (lv_at hl 0 rfl) ?_
    refine mstv_32 C hW fk_J0_9 dJ0_charAt_5068e_8 ?_
    refine lv_iload_n hx hb dJ0_charAt_5068e_11 rfl (lv_at hl 1 rfl) ?_
    refine zz_callSi (As := [.ref (ad 35), .int x1]) C hW h (fun r hr => c_J1_charAt_3b067_35_m hr) lk_J0_495 rfl hl.1 ⟨rfl, rfl⟩ ⟨Nat.le_of_ble_eq_true rfl, Nat.le_of_ble_eq_true rfl⟩ (Nat.le_of_ble_eq_true rfl) ⟨Nat.zero_le _, Nat.zero_le _⟩ rfl dJ0_charAt_5068e_12 (fun v4 S3 H locs h hW => ?_)
    exact zz_nret C rfl (by decide) h hW dJ0_charAt_5068e_15
def n_J0_charAt_5068e_32_m (F : Nat) (S : Zs) (x1 : Int32) : Option (Int32 × Zs) := n_J0_charAt_5068e_32_m_e F  S x1
theorem c_J0_charAt_5068e_32_m {l : Launch} {D : va_G} {cs ad : Nat → Nat} {F : Nat} {S : Zs} {x1 : Int32} {q : (Int32 × Zs)} (h : n_J0_charAt_5068e_32_m F S x1 = some q) : zMi l yJ0_charAt_5068e cJ0_charAt_5068e 2 (some .char) (zR 3 64) (mG D cs ad) [.ref (ad 32), .int x1] S q :=
  zz_enter (by decide) (Nat.le_of_ble_eq_true rfl) (fun p e s m below meth c ls C hW hl => w_J0_charAt_5068e_32_m_e (F := F) C h hW (lv_sub hl [0, 1] rfl))
def n_J0_coder_7d493_30_m_b14 (F : Nat)  (S : Zs) (t0 : Int32) : Option (Int32 × Zs) :=
  zrn .byte t0 S
set_option maxRecDepth 20000 in
set_option maxHeartbeats 4000000 in
theorem w_J0_coder_7d493_30_m_b14 {F : Nat} {q : (Int32 × Zs)} {S : Zs}  {t0 : Int32} {ls : Array Slot} {H : Heap} {locs : List Loc} (C : zC p s m args meth c cJ0_coder_7d493 1 RJ0 (some .byte))  (h : n_J0_coder_7d493_30_m_b14 F  S t0 = some q) (hW : zW (mG D cs ad) s S H locs) (hl : lv_has ls 1 []) : W p l e (zR 0 0) s m args below meth c H locs 0 0 (zQi (mG D cs ad) q below args s) (F0 m 14 ls [.int t0]) := by
  unfold n_J0_coder_7d493_30_m_b14 at h
  obtain ⟨hx, hb, hml, hown, hts, hret, hlk⟩ := id C
  exact zz_nret C rfl (by decide) h hW dJ0_coder_7d493_14
def n_J0_coder_7d493_30_m_e (F : Nat)  (S : Zs)  : Option (Int32 × Zs) :=
  if (1 : Int32) = 0 then (n_J0_coder_7d493_30_m_b14 F  S (1 : Int32)) else (n_J0_coder_7d493_30_m_b14 F  S (0 : Int32))
set_option maxRecDepth 20000 in
set_option maxHeartbeats 4000000 in
theorem w_J0_coder_7d493_30_m_e {F : Nat} {q : (Int32 × Zs)} {S : Zs}   {ls : Array Slot} {H : Heap} {locs : List Loc} (C : zC p s m args meth c cJ0_coder_7d493 1 RJ0 (some .byte))  (h : n_J0_coder_7d493_30_m_e F  S  = some q) (hW : zW (mG D cs ad) s S H locs) (hl : lv_has ls 1 [(0, .ref (ad 30))]) : W p l e (zR 0 0) s m args below meth c H locs 0 0 (zQi (mG D cs ad) q below args s) (F0 m 0 ls []) := by
  unfold n_J0_coder_7d493_30_m_e at h
  obtain ⟨hx, hb, hml, hown, hts, hret, hlk⟩ := id C
  refine mcomp C hW fk_J0_38 dJ0_coder_7d493_0 ?_
  refine zz_ieq (tgt := 13) C h dJ0_coder_7d493_3 (by decide) (fun h => ?_) (fun h => ?_)
  · refine lv_iconst (v := 1) hx hb dJ0_coder_7d493_13 (by decide) ?_
    exact w_J0_coder_7d493_30_m_b14 (F := F) C h hW (lv_sub hl [] rfl)
  · refine lv_aload_n hx hb dJ0_coder_7d493_6 rfl (lv_at hl 0 rfl) ?_
    refine mstc_30 C hW fk_J0_15 dJ0_coder_7d493_7 ?_
    refine lv_goto (tgt := 14) hx hb dJ0_coder_7d493_10 (by decide) ?_
    exact w_J0_coder_7d493_30_m_b14 (F := F) C h hW (lv_sub hl [] rfl)
def n_J0_coder_7d493_30_m (F : Nat) (S : Zs)  : Option (Int32 × Zs) := n_J0_coder_7d493_30_m_e F  S 
theorem c_J0_coder_7d493_30_m {l : Launch} {D : va_G} {cs ad : Nat → Nat} {F : Nat} {S : Zs}  {q : (Int32 × Zs)} (h : n_J0_coder_7d493_30_m F S  = some q) : zMi l yJ0_coder_7d493 cJ0_coder_7d493 1 (some .byte) (zR 0 0) (mG D cs ad) [.ref (ad 30)] S q :=
  zz_enter (by decide) (Nat.le_of_ble_eq_true rfl) (fun p e s m below meth c ls C hW hl => w_J0_coder_7d493_30_m_e (F := F) C h hW (lv_sub hl [0] rfl))
def n_J0_length_8abf5_30_m_e (F : Nat)  (S : Zs)  : Option (Int32 × Zs) :=
  zcl (n_J0_coder_7d493_30_m F S ) (fun v2 S1 => some (((nI 4) >>> (v2 &&& 31)), S1))
set_option maxRecDepth 20000 in
set_option maxHeartbeats 4000000 in
theorem w_J0_length_8abf5_30_m_e {F : Nat} {q : (Int32 × Zs)} {S : Zs}   {ls : Array Slot} {H : Heap} {locs : List Loc} (C : zC p s m args meth c cJ0_length_8abf5 1 RJ0 (some .int))  (h : n_J0_length_8abf5_30_m_e F  S  = some q) (hW : zW (mG D cs ad) s S H locs) (hl : lv_has ls 1 [(0, .ref (ad 30))]) : W p l e (zR 1 20) s m args below meth c H locs 0 0 (zQi (mG D cs ad) q below args s) (F0 m 0 ls []) := by
  unfold n_J0_length_8abf5_30_m_e at h
  obtain ⟨hx, hb, hml, hown, hts, hret, hlk⟩ := id C
  refine lv_aload_n hx hb dJ0_length_8abf5_0 rfl (lv_at hl 0 rfl) ?_
  refine mstv_30 C hW fk_J0_9 dJ0_length_8abf5_1 ?_
  refine mstn_33 C hW dJ0_length_8abf5_4 ?_
  refine lv_aload_n hx hb dJ0_length_8abf5_5 rfl (lv_at hl 0 rfl) ?_
  refine zz_callVi (As := []) C hW h (fun r hr => c_J0_coder_7d493_30_m hr) lk_J0_335 (mstr_r30 hW) rfl hl.1 ⟨rfl, rfl⟩ ⟨Nat.le_of_ble_eq_true rfl, Nat.le_of_ble_eq_true rfl⟩ (Nat.le_of_ble_eq_true rfl) ⟨Nat.zero_le _, Nat.zero_le _⟩ rfl dJ0_length_8abf5_6 (fun v2 S1 H locs h hW => ?_)
  refine lv_ishr hx hb dJ0_length_8abf5_9 ?_
  exact zz_iret C rfl h hW dJ0_length_8abf5_10
def n_J0_length_8abf5_30_m (F : Nat) (S : Zs)  : Option (Int32 × Zs) := n_J0_length_8abf5_30_m_e F  S 
theorem c_J0_length_8abf5_30_m {l : Launch} {D : va_G} {cs ad : Nat → Nat} {F : Nat} {S : Zs}  {q : (Int32 × Zs)} (h : n_J0_length_8abf5_30_m F S  = some q) : zMi l yJ0_length_8abf5 cJ0_length_8abf5 1 (some .int) (zR 1 20) (mG D cs ad) [.ref (ad 30)] S q :=
  zz_enter (by decide) (Nat.le_of_ble_eq_true rfl) (fun p e s m below meth c ls C hW hl => w_J0_length_8abf5_30_m_e (F := F) C h hW (lv_sub hl [0] rfl))
def n_J1_canEncode_9a6ad_m_b16 (F : Nat)  (S : Zs) (t0 : Int32) : Option (Int32 × Zs) :=
  zrb t0 S
set_option maxRecDepth 20000 in
set_option maxHeartbeats 4000000 in
theorem w_J1_canEncode_9a6ad_m_b16 {F : Nat} {q : (Int32 × Zs)} {S : Zs}  {t0 : Int32} {ls : Array Slot} {H : Heap} {locs : List Loc} (C : zC p s m args meth c cJ1_canEncode_9a6ad 1 RJ1 (some .boolean))  (h : n_J1_canEncode_9a6ad_m_b16 F  S t0 = some q) (hW : zW (mG D cs ad) s S H locs) (hl : lv_has ls 1 []) : W p l e (zR 0 0) s m args below meth c H locs 0 0 (zQi (mG D cs ad) q below args s) (F0 m 16 ls [.int t0]) := by
  unfold n_J1_canEncode_9a6ad_m_b16 at h
  obtain ⟨hx, hb, hml, hown, hts, hret, hlk⟩ := id C
  exact zz_zret C rfl h hW dJ1_canEncode_9a6ad_16
def n_J1_canEncode_9a6ad_m_b15 (F : Nat)  (S : Zs)  : Option (Int32 × Zs) :=
  n_J1_canEncode_9a6ad_m_b16 F  S (0 : Int32)
set_option maxRecDepth 20000 in
set_option maxHeartbeats 4000000 in
theorem w_J1_canEncode_9a6ad_m_b15 {F : Nat} {q : (Int32 × Zs)} {S : Zs}   {ls : Array Slot} {H : Heap} {locs : List Loc} (C : zC p s m args meth c cJ1_canEncode_9a6ad 1 RJ1 (some .boolean))  (h : n_J1_canEncode_9a6ad_m_b15 F  S  = some q) (hW : zW (mG D cs ad) s S H locs) (hl : lv_has ls 1 []) : W p l e (zR 0 0) s m args below meth c H locs 0 0 (zQi (mG D cs ad) q below args s) (F0 m 15 ls []) := by
  unfold n_J1_canEncode_9a6ad_m_b15 at h
  obtain ⟨hx, hb, hml, hown, hts, hret, hlk⟩ := id C
  refine lv_iconst (v := 0) hx hb dJ1_canEncode_9a6ad_15 (by decide) ?_
  exact w_J1_canEncode_9a6ad_m_b16 (F := F) C h hW (lv_sub hl [] rfl)
def n_J1_canEncode_9a6ad_m_e (F : Nat)  (S : Zs) (x0 : Int32) : Option (Int32 × Zs) :=
  if x0 < 0 then (n_J1_canEncode_9a6ad_m_b15 F  S ) else (if (255 : Int32) < x0 then (n_J1_canEncode_9a6ad_m_b15 F  S ) else (n_J1_canEncode_9a6ad_m_b16 F  S (1 : Int32)))
set_option maxRecDepth 20000 in
set_option maxHeartbeats 4000000 in
theorem w_J1_canEncode_9a6ad_m_e {F : Nat} {q : (Int32 × Zs)} {S : Zs}  {x0 : Int32} {ls : Array Slot} {H : Heap} {locs : List Loc} (C : zC p s m args meth c cJ1_canEncode_9a6ad 1 RJ1 (some .boolean))  (h : n_J1_canEncode_9a6ad_m_e F  S x0 = some q) (hW : zW (mG D cs ad) s S H locs) (hl : lv_has ls 1 [(0, .int x0)]) : W p l e (zR 0 0) s m args below meth c H locs 0 0 (zQi (mG D cs ad) q below args s) (F0 m 0 ls []) := by
  unfold n_J1_canEncode_9a6ad_m_e at h
  obtain ⟨hx, hb, hml, hown, hts, hret, hlk⟩ := id C
  refine lv_iload_n hx hb dJ1_canEncode_9a6ad_0 rfl (lv_at hl 0 rfl) ?_
  refine zz_ilt (tgt := 15) C h dJ1_canEncode_9a6ad_1 (by decide) (fun h => ?_) (fun h => ?_)
  · exact w_J1_canEncode_9a6ad_m_b15 (F := F) C h hW (lv_sub hl [] rfl)
  · refine lv_iload_n hx hb dJ1_canEncode_9a6ad_4 rfl (lv_at hl 0 rfl) ?_
    refine lv_sipush (v := 255) hx hb dJ1_canEncode_9a6ad_5 (by decide) ?_
    refine zz_cgt (tgt := 15) C h dJ1_canEncode_9a6ad_8 (by decide) (fun h => ?_) (fun h => ?_)
    · exact w_J1_canEncode_9a6ad_m_b15 (F := F) C h hW (lv_sub hl [] rfl)
    · refine lv_iconst (v := 1) hx hb dJ1_canEncode_9a6ad_11 (by decide) ?_
      refine lv_goto (tgt := 16) hx hb dJ1_canEncode_9a6ad_12 (by decide) ?_
      exact w_J1_canEncode_9a6ad_m_b16 (F := F) C h hW (lv_sub hl [] rfl)
def n_J1_canEncode_9a6ad_m (F : Nat) (S : Zs) (x0 : Int32) : Option (Int32 × Zs) := n_J1_canEncode_9a6ad_m_e F  S x0
theorem c_J1_canEncode_9a6ad_m {l : Launch} {D : va_G} {cs ad : Nat → Nat} {F : Nat} {S : Zs} {x0 : Int32} {q : (Int32 × Zs)} (h : n_J1_canEncode_9a6ad_m F S x0 = some q) : zMi l yJ1_canEncode_9a6ad cJ1_canEncode_9a6ad 1 (some .boolean) (zR 0 0) (mG D cs ad) [.int x0] S q :=
  zz_enter (by decide) (Nat.le_of_ble_eq_true rfl) (fun p e s m below meth c ls C hW hl => w_J1_canEncode_9a6ad_m_e (F := F) C h hW (lv_sub hl [0] rfl))
def n_J1_indexOfChar_4cfef_33_m_b7_l (F : Nat) (rc7 : Zs → Int32 → Int32 → Int32 → Option (Int32 × Zs)) (S : Zs) (x3 : Int32) (x4 : Int32) (x5 : Int32) : Option (Int32 × Zs) :=
  if x3 ≤ x5 then (some ((-1 : Int32), S)) else (zlt (mstr 0) 4 x5 (fun v1 => if v1 = x4 then (some (x5, S)) else (zlet (x5 + (1 : Int32)) (fun v2 => rc7 S x3 x4 v2))))
set_option maxRecDepth 20000 in
set_option maxHeartbeats 4000000 in
theorem w_J1_indexOfChar_4cfef_33_m_b7_l {F : Nat} {q : (Int32 × Zs)} {S : Zs} {rc7 : Zs → Int32 → Int32 → Int32 → Option (Int32 × Zs)} {x3 : Int32} {x4 : Int32} {x5 : Int32} {ls : Array Slot} {H : Heap} {locs : List Loc} (C : zC p s m args meth c cJ1_indexOfChar_4cfef 6 RJ1 (some .int)) (hrc7 : ∀ (S : Zs) (x3 : Int32) (x4 : Int32) (x5 : Int32) (H : Heap) (locs : List Loc) (ls : Array Slot), rc7 S x3 x4 x5 = some q → zW (mG D cs ad) s S H locs → lv_has ls 6 [(0, .ref (ad 33)), (3, .int x3), (4, .int x4), (5, .int x5)] → W p l e (zR 0 0) s m args below meth c H locs 0 0 (zQi (mG D cs ad) q below args s) (F0 m 7 ls [])) (h : n_J1_indexOfChar_4cfef_33_m_b7_l F rc7 S x3 x4 x5 = some q) (hW : zW (mG D cs ad) s S H locs) (hl : lv_has ls 6 [(0, .ref (ad 33)), (3, .int x3), (4, .int x4), (5, .int x5)]) : W p l e (zR 0 0) s m args below meth c H locs 0 0 (zQi (mG D cs ad) q below args s) (F0 m 7 ls []) := by
  unfold n_J1_indexOfChar_4cfef_33_m_b7_l at h
  obtain ⟨hx, hb, hml, hown, hts, hret, hlk⟩ := id C
  refine lv_iload hx hb dJ1_indexOfChar_4cfef_7 (lv_at hl 3 rfl) ?_
  refine lv_iload_n hx hb dJ1_indexOfChar_4cfef_9 rfl (lv_at hl 1 rfl) ?_
  refine zz_cge (tgt := 31) C h dJ1_indexOfChar_4cfef_10 (by decide) (fun h => ?_) (fun h => ?_)
  · refine lv_iconst (v := -1) hx hb dJ1_indexOfChar_4cfef_31 (by decide) ?_
    exact zz_iret C rfl h hW dJ1_indexOfChar_4cfef_32
  · refine lv_aload_n hx hb dJ1_indexOfChar_4cfef_13 rfl (lv_at hl 0 rfl) ?_
    refine lv_iload hx hb dJ1_indexOfChar_4cfef_14 (lv_at hl 3 rfl) ?_
    refine mstl_33 C hW h dJ1_indexOfChar_4cfef_16 (fun v1 h => ?_)
    refine lv_iload hx hb dJ1_indexOfChar_4cfef_17 (lv_at hl 2 rfl) ?_
    refine zz_cne (tgt := 25) C h dJ1_indexOfChar_4cfef_19 (by decide) (fun h => ?_) (fun h => ?_)
    · obtain ⟨v2, ev2, h⟩ := zz_name h
      refine lv_iinc (v := v2) (lv' := [(5, .int v2), (0, .ref (ad 33)), (3, .int x3), (4, .int x4)]) hx hb dJ1_indexOfChar_4cfef_25 hl (k := 3) rfl ev2.symm (by decide) rfl (fun ls hl => ?_)
      refine lv_goto (tgt := 7) hx hb dJ1_indexOfChar_4cfef_28 (by decide) ?_
      exact hrc7 _ _ _ _ _ _ _ h hW (lv_sub hl [1, 2, 3, 0] rfl)
    · refine lv_iload hx hb dJ1_indexOfChar_4cfef_22 (lv_at hl 3 rfl) ?_
      exact zz_iret C rfl h hW dJ1_indexOfChar_4cfef_24
def n_J1_indexOfChar_4cfef_33_m_b7 (F : Nat)  (S : Zs) (x3 : Int32) (x4 : Int32) (x5 : Int32) : Option (Int32 × Zs) :=
  zfix (fun (rc : (Zs × Int32 × Int32 × Int32) → Option (Int32 × Zs)) (u : (Zs × Int32 × Int32 × Int32)) => n_J1_indexOfChar_4cfef_33_m_b7_l F  (fun S x3 x4 x5 => rc (S, x3, x4, x5)) u.1 u.2.1 u.2.2.1 u.2.2.2) F (S, x3, x4, x5)
theorem w_J1_indexOfChar_4cfef_33_m_b7 {F : Nat} {q : (Int32 × Zs)}  (C : zC p s m args meth c cJ1_indexOfChar_4cfef 6 RJ1 (some .int))  : ∀ (n : Nat) (S : Zs) (x3 : Int32) (x4 : Int32) (x5 : Int32) (H : Heap) (locs : List Loc) (ls : Array Slot), zfix (fun (rc : (Zs × Int32 × Int32 × Int32) → Option (Int32 × Zs)) (u : (Zs × Int32 × Int32 × Int32)) => n_J1_indexOfChar_4cfef_33_m_b7_l F  (fun S x3 x4 x5 => rc (S, x3, x4, x5)) u.1 u.2.1 u.2.2.1 u.2.2.2) n (S, x3, x4, x5) = some q → zW (mG D cs ad) s S H locs → lv_has ls 6 [(0, .ref (ad 33)), (3, .int x3), (4, .int x4), (5, .int x5)] → W p l e (zR 0 0) s m args below meth c H locs 0 0 (zQi (mG D cs ad) q below args s) (F0 m 7 ls []) := by
  intro n
  induction n with
  | zero => intro S x3 x4 x5 H locs ls h; exact absurd h (fun h => by cases h)
  | succ n ih => intro S x3 x4 x5 H locs ls h hW hl; exact w_J1_indexOfChar_4cfef_33_m_b7_l (F := F) C (fun S x3 x4 x5 H locs ls h hW hl => ih S x3 x4 x5 H locs ls h hW hl) h hW hl
def n_J1_indexOfChar_4cfef_33_m_e (F : Nat)  (S : Zs) (x1 : Int32) (x2 : Int32) (x3 : Int32) : Option (Int32 × Zs) :=
  zlet (x1.toInt8.toInt32) (fun v1 => n_J1_indexOfChar_4cfef_33_m_b7 F  S x3 v1 x2)
set_option maxRecDepth 20000 in
set_option maxHeartbeats 4000000 in
theorem w_J1_indexOfChar_4cfef_33_m_e {F : Nat} {q : (Int32 × Zs)} {S : Zs}  {x1 : Int32} {x2 : Int32} {x3 : Int32} {ls : Array Slot} {H : Heap} {locs : List Loc} (C : zC p s m args meth c cJ1_indexOfChar_4cfef 6 RJ1 (some .int))  (h : n_J1_indexOfChar_4cfef_33_m_e F  S x1 x2 x3 = some q) (hW : zW (mG D cs ad) s S H locs) (hl : lv_has ls 6 [(0, .ref (ad 33)), (1, .int x1), (2, .int x2), (3, .int x3)]) : W p l e (zR 0 0) s m args below meth c H locs 0 0 (zQi (mG D cs ad) q below args s) (F0 m 0 ls []) := by
  unfold n_J1_indexOfChar_4cfef_33_m_e at h
  obtain ⟨hx, hb, hml, hown, hts, hret, hlk⟩ := id C
  refine lv_iload_n hx hb dJ1_indexOfChar_4cfef_0 rfl (lv_at hl 1 rfl) ?_
  refine lv_i2b hx hb dJ1_indexOfChar_4cfef_1 rfl ?_
  refine zz_leti h (fun v1 h => ?_)
  refine lv_istore (lv' := [(4, .int v1), (0, .ref (ad 33)), (1, .int x1), (2, .int x2), (3, .int x3)]) hx hb dJ1_indexOfChar_4cfef_2 hl (by decide) rfl (fun ls hl => ?_)
  refine lv_iload_n hx hb dJ1_indexOfChar_4cfef_4 rfl (lv_at hl 3 rfl) ?_
  refine lv_istore (lv' := [(5, .int x2), (4, .int v1), (0, .ref (ad 33)), (1, .int x1), (2, .int x2), (3, .int x3)]) hx hb dJ1_indexOfChar_4cfef_5 hl (by decide) rfl (fun ls hl => ?_)
  exact w_J1_indexOfChar_4cfef_33_m_b7 (F := F) C F _ _ _ _ _ _ _ h hW (lv_sub hl [2, 5, 1, 0] rfl)
def n_J1_indexOfChar_4cfef_33_m (F : Nat) (S : Zs) (x1 : Int32) (x2 : Int32) (x3 : Int32) : Option (Int32 × Zs) := n_J1_indexOfChar_4cfef_33_m_e F  S x1 x2 x3
theorem c_J1_indexOfChar_4cfef_33_m {l : Launch} {D : va_G} {cs ad : Nat → Nat} {F : Nat} {S : Zs} {x1 : Int32} {x2 : Int32} {x3 : Int32} {q : (Int32 × Zs)} (h : n_J1_indexOfChar_4cfef_33_m F S x1 x2 x3 = some q) : zMi l yJ1_indexOfChar_4cfef cJ1_indexOfChar_4cfef 6 (some .int) (zR 0 0) (mG D cs ad) [.ref (ad 33), .int x1, .int x2, .int x3] S q :=
  zz_enter (by decide) (Nat.le_of_ble_eq_true rfl) (fun p e s m below meth c ls C hW hl => w_J1_indexOfChar_4cfef_33_m_e (F := F) C h hW (lv_sub hl [0, 1, 2, 3] rfl))
def n_J1_indexOf_4cfef_33_m_e (F : Nat)  (S : Zs) (x1 : Int32) (x2 : Int32) (x3 : Int32) : Option (Int32 × Zs) :=
  zcl (n_J1_canEncode_9a6ad_m F S x1) (fun v2 S1 => if v2 = 0 then (some ((-1 : Int32), S1)) else (zlet (if x2 < (0 : Int32) then (0 : Int32) else x2) (fun v3 => zlet (if (nI 4) < x3 then (nI 4) else x3) (fun v4 => if v3 < v4 then (zcl (n_J1_indexOfChar_4cfef_33_m F S1 x1 v3 v4) (fun v6 S5 => some (v6, S5))) else (some ((-1 : Int32), S1))))))
set_option maxRecDepth 20000 in
set_option maxHeartbeats 4000000 in
theorem w_J1_indexOf_4cfef_33_m_e {F : Nat} {q : (Int32 × Zs)} {S : Zs}  {x1 : Int32} {x2 : Int32} {x3 : Int32} {ls : Array Slot} {H : Heap} {locs : List Loc} (C : zC p s m args meth c cJ1_indexOf_4cfef 4 RJ1 (some .int))  (h : n_J1_indexOf_4cfef_33_m_e F  S x1 x2 x3 = some q) (hW : zW (mG D cs ad) s S H locs) (hl : lv_has ls 4 [(0, .ref (ad 33)), (1, .int x1), (2, .int x2), (3, .int x3)]) : W p l e (zR 1 25) s m args below meth c H locs 0 0 (zQi (mG D cs ad) q below args s) (F0 m 0 ls []) := by
  unfold n_J1_indexOf_4cfef_33_m_e at h
  obtain ⟨hx, hb, hml, hown, hts, hret, hlk⟩ := id C
  refine lv_iload_n hx hb dJ1_indexOf_4cfef_0 rfl (lv_at hl 1 rfl) ?_
  refine zz_callSi (As := [.int x1]) C hW h (fun r hr => c_J1_canEncode_9a6ad_m hr) lk_J1_88 rfl hl.1 ⟨rfl, rfl⟩ ⟨Nat.le_of_ble_eq_true rfl, Nat.le_of_ble_eq_true rfl⟩ (Nat.le_of_ble_eq_true rfl) ⟨Nat.zero_le _, Nat.zero_le _⟩ rfl dJ1_indexOf_4cfef_1 (fun v2 S1 H locs h hW => ?_)
  refine zz_ine (tgt := 9) C h dJ1_indexOf_4cfef_4 (by decide) (fun h => ?_) (fun h => ?_)
  · refine lv_iload_n hx hb dJ1_indexOf_4cfef_9 rfl (lv_at hl 2 rfl) ?_
    refine lv_iconst (v := 0) hx hb dJ1_indexOf_4cfef_10 (by decide) ?_
    refine va_mmax hx hb (hml.trans hl.1.symm) hown (hts _ lkm_J1_92) (hts _ sm_max) (hts _ it_Math) (hts _ cd_max) (Nat.le_of_ble_eq_true rfl) (Nat.le_of_ble_eq_true rfl) (Nat.zero_le _) (Nat.zero_le _) dJ1_indexOf_4cfef_11 ?_
    refine zz_leti h (fun v3 h => ?_)
    refine lv_istore_n (lv' := [(2, .int v3), (0, .ref (ad 33)), (1, .int x1), (3, .int x3)]) hx hb dJ1_indexOf_4cfef_14 rfl hl (by decide) rfl (fun ls hl => ?_)
    refine lv_iload_n hx hb dJ1_indexOf_4cfef_15 rfl (lv_at hl 3 rfl) ?_
    refine lv_aload_n hx hb dJ1_indexOf_4cfef_16 rfl (lv_at hl 1 rfl) ?_
    refine mstn_33 C hW dJ1_indexOf_4cfef_17 ?_
    refine va_mmin hx hb (hml.trans hl.1.symm) hown (hts _ lkm_J1_38) (hts _ sm_min) (hts _ it_Math) (hts _ cd_min) (Nat.le_of_ble_eq_true rfl) (Nat.le_of_ble_eq_true rfl) (Nat.zero_le _) (Nat.zero_le _) dJ1_indexOf_4cfef_18 ?_
    refine zz_leti h (fun v4 h => ?_)
    refine lv_istore_n (lv' := [(3, .int v4), (2, .int v3), (0, .ref (ad 33)), (1, .int x1)]) hx hb dJ1_indexOf_4cfef_21 rfl hl (by decide) rfl (fun ls hl => ?_)
    refine lv_iload_n hx hb dJ1_indexOf_4cfef_22 rfl (lv_at hl 1 rfl) ?_
    refine lv_iload_n hx hb dJ1_indexOf_4cfef_23 rfl (lv_at hl 0 rfl) ?_
    refine zz_clt (tgt := 29) C h dJ1_indexOf_4cfef_24 (by decide) (fun h => ?_) (fun h => ?_)
    · refine lv_aload_n hx hb dJ1_indexOf_4cfef_29 rfl (lv_at hl 2 rfl) ?_
      refine lv_iload_n hx hb dJ1_indexOf_4cfef_30 rfl (lv_at hl 3 rfl) ?_
      refine lv_iload_n hx hb dJ1_indexOf_4cfef_31 rfl (lv_at hl 1 rfl) ?_
      refine lv_iload_n hx hb dJ1_indexOf_4cfef_32 rfl (lv_at hl 0 rfl) ?_
      refine zz_callSi (As := [.ref (ad 33), .int x1, .int v3, .int v4]) C hW h (fun r hr => c_J1_indexOfChar_4cfef_33_m hr) lk_J1_95 rfl hl.1 ⟨rfl, rfl⟩ ⟨Nat.le_of_ble_eq_true rfl, Nat.le_of_ble_eq_true rfl⟩ (Nat.le_of_ble_eq_true rfl) ⟨Nat.zero_le _, Nat.zero_le _⟩ rfl dJ1_indexOf_4cfef_33 (fun v6 S5 H locs h hW => ?_)
      exact zz_iret C rfl h hW dJ1_indexOf_4cfef_36
    · refine lv_iconst (v := -1) hx hb dJ1_indexOf_4cfef_27 (by decide) ?_
      exact zz_iret C rfl h hW dJ1_indexOf_4cfef_28
  · refine lv_iconst (v := -1) hx hb dJ1_indexOf_4cfef_7 (by decide) ?_
    exact zz_iret C rfl h hW dJ1_indexOf_4cfef_8
def n_J1_indexOf_4cfef_33_m (F : Nat) (S : Zs) (x1 : Int32) (x2 : Int32) (x3 : Int32) : Option (Int32 × Zs) := n_J1_indexOf_4cfef_33_m_e F  S x1 x2 x3
theorem c_J1_indexOf_4cfef_33_m {l : Launch} {D : va_G} {cs ad : Nat → Nat} {F : Nat} {S : Zs} {x1 : Int32} {x2 : Int32} {x3 : Int32} {q : (Int32 × Zs)} (h : n_J1_indexOf_4cfef_33_m F S x1 x2 x3 = some q) : zMi l yJ1_indexOf_4cfef cJ1_indexOf_4cfef 4 (some .int) (zR 1 25) (mG D cs ad) [.ref (ad 33), .int x1, .int x2, .int x3] S q :=
  zz_enter (by decide) (Nat.le_of_ble_eq_true rfl) (fun p e s m below meth c ls C hW hl => w_J1_indexOf_4cfef_33_m_e (F := F) C h hW (lv_sub hl [0, 1, 2, 3] rfl))
def n_J0_indexOf_7cf53_30_m_b36 (F : Nat)  (S : Zs) (t0 : Int32) : Option (Int32 × Zs) :=
  some (t0, S)
set_option maxRecDepth 20000 in
set_option maxHeartbeats 4000000 in
theorem w_J0_indexOf_7cf53_30_m_b36 {F : Nat} {q : (Int32 × Zs)} {S : Zs}  {t0 : Int32} {ls : Array Slot} {H : Heap} {locs : List Loc} (C : zC p s m args meth c cJ0_indexOf_7cf53 3 RJ0 (some .int))  (h : n_J0_indexOf_7cf53_30_m_b36 F  S t0 = some q) (hW : zW (mG D cs ad) s S H locs) (hl : lv_has ls 3 []) : W p l e (zR 2 48) s m args below meth c H locs 0 0 (zQi (mG D cs ad) q below args s) (F0 m 36 ls [.int t0]) := by
  unfold n_J0_indexOf_7cf53_30_m_b36 at h
  obtain ⟨hx, hb, hml, hown, hts, hret, hlk⟩ := id C
  exact zz_iret C rfl h hW dJ0_indexOf_7cf53_36
def n_J0_indexOf_7cf53_30_m_e (F : Nat)  (S : Zs) (x1 : Int32) (x2 : Int32) : Option (Int32 × Zs) :=
  zcl (n_J0_isLatin1_aae02_30_m F S ) (fun v2 S1 => if v2 = 0 then (zcl (n_J0_length_8abf5_30_m F S1 ) (fun v4 S3 => none)) else (zcl (n_J0_length_8abf5_30_m F S1 ) (fun v6 S5 => zcl (n_J1_indexOf_4cfef_33_m F S5 x1 x2 v6) (fun v8 S7 => n_J0_indexOf_7cf53_30_m_b36 F  S7 v8))))
set_option maxRecDepth 20000 in
set_option maxHeartbeats 4000000 in
theorem w_J0_indexOf_7cf53_30_m_e {F : Nat} {q : (Int32 × Zs)} {S : Zs}  {x1 : Int32} {x2 : Int32} {ls : Array Slot} {H : Heap} {locs : List Loc} (C : zC p s m args meth c cJ0_indexOf_7cf53 3 RJ0 (some .int))  (h : n_J0_indexOf_7cf53_30_m_e F  S x1 x2 = some q) (hW : zW (mG D cs ad) s S H locs) (hl : lv_has ls 3 [(0, .ref (ad 30)), (1, .int x1), (2, .int x2)]) : W p l e (zR 2 48) s m args below meth c H locs 0 0 (zQi (mG D cs ad) q below args s) (F0 m 0 ls []) := by
  unfold n_J0_indexOf_7cf53_30_m_e at h
  obtain ⟨hx, hb, hml, hown, hts, hret, hlk⟩ := id C
  refine lv_aload_n hx hb dJ0_indexOf_7cf53_0 rfl (lv_at hl 0 rfl) ?_
  refine zz_callVi (As := []) C hW h (fun r hr => c_J0_isLatin1_aae02_30_m hr) lk_J0_492 (mstr_r30 hW) rfl hl.1 ⟨rfl, rfl⟩ ⟨Nat.le_of_ble_eq_true rfl, Nat.le_of_ble_eq_true rfl⟩ (Nat.le_of_ble_eq_true rfl) ⟨Nat.zero_le _, Nat.zero_le _⟩ rfl dJ0_indexOf_7cf53_1 (fun v2 S1 H locs h hW => ?_)
  refine zz_ieq (tgt := 23) C h dJ0_indexOf_7cf53_4 (by decide) (fun h => ?_) (fun h => ?_)
  · refine lv_aload_n hx hb dJ0_indexOf_7cf53_23 rfl (lv_at hl 0 rfl) ?_
    refine mstv_30 C hW fk_J0_9 dJ0_indexOf_7cf53_24 ?_
    refine lv_iload_n hx hb dJ0_indexOf_7cf53_27 rfl (lv_at hl 1 rfl) ?_
    refine lv_iload_n hx hb dJ0_indexOf_7cf53_28 rfl (lv_at hl 2 rfl) ?_
    refine lv_aload_n hx hb dJ0_indexOf_7cf53_29 rfl (lv_at hl 0 rfl) ?_
    refine zz_callVi (As := []) C hW h (fun r hr => c_J0_length_8abf5_30_m hr) lk_J0_505 (mstr_r30 hW) rfl hl.1 ⟨rfl, rfl⟩ ⟨Nat.le_of_ble_eq_true rfl, Nat.le_of_ble_eq_true rfl⟩ (Nat.le_of_ble_eq_true rfl) ⟨Nat.zero_le _, Nat.zero_le _⟩ rfl dJ0_indexOf_7cf53_30 (fun v4 S3 H locs h hW => ?_)
    cases h
  · refine lv_aload_n hx hb dJ0_indexOf_7cf53_7 rfl (lv_at hl 0 rfl) ?_
    refine mstv_30 C hW fk_J0_9 dJ0_indexOf_7cf53_8 ?_
    refine lv_iload_n hx hb dJ0_indexOf_7cf53_11 rfl (lv_at hl 1 rfl) ?_
    refine lv_iload_n hx hb dJ0_indexOf_7cf53_12 rfl (lv_at hl 2 rfl) ?_
    refine lv_aload_n hx hb dJ0_indexOf_7cf53_13 rfl (lv_at hl 0 rfl) ?_
    refine zz_callVi (As := []) C hW h (fun r hr => c_J0_length_8abf5_30_m hr) lk_J0_505 (mstr_r30 hW) rfl hl.1 ⟨rfl, rfl⟩ ⟨Nat.le_of_ble_eq_true rfl, Nat.le_of_ble_eq_true rfl⟩ (Nat.le_of_ble_eq_true rfl) ⟨Nat.zero_le _, Nat.zero_le _⟩ rfl dJ0_indexOf_7cf53_14 (fun v6 S5 H locs h hW => ?_)
    refine zz_callSi (As := [.ref (ad 33), .int x1, .int x2, .int v6]) C hW h (fun r hr => c_J1_indexOf_4cfef_33_m hr) lk_J0_637 rfl hl.1 ⟨rfl, rfl⟩ ⟨Nat.le_of_ble_eq_true rfl, Nat.le_of_ble_eq_true rfl⟩ (Nat.le_of_ble_eq_true rfl) ⟨Nat.zero_le _, Nat.zero_le _⟩ rfl dJ0_indexOf_7cf53_17 (fun v8 S7 H locs h hW => ?_)
    refine lv_goto (tgt := 36) hx hb dJ0_indexOf_7cf53_20 (by decide) ?_
    exact w_J0_indexOf_7cf53_30_m_b36 (F := F) C h hW (lv_sub hl [] rfl)
def n_J0_indexOf_7cf53_30_m (F : Nat) (S : Zs) (x1 : Int32) (x2 : Int32) : Option (Int32 × Zs) := n_J0_indexOf_7cf53_30_m_e F  S x1 x2
theorem c_J0_indexOf_7cf53_30_m {l : Launch} {D : va_G} {cs ad : Nat → Nat} {F : Nat} {S : Zs} {x1 : Int32} {x2 : Int32} {q : (Int32 × Zs)} (h : n_J0_indexOf_7cf53_30_m F S x1 x2 = some q) : zMi l yJ0_indexOf_7cf53 cJ0_indexOf_7cf53 3 (some .int) (zR 2 48) (mG D cs ad) [.ref (ad 30), .int x1, .int x2] S q :=
  zz_enter (by decide) (Nat.le_of_ble_eq_true rfl) (fun p e s m below meth c ls C hW hl => w_J0_indexOf_7cf53_30_m_e (F := F) C h hW (lv_sub hl [0, 1, 2] rfl))
def n_J0_indexOf_0f7a4_30_m_e (F : Nat)  (S : Zs) (x1 : Int32) : Option (Int32 × Zs) :=
  zcl (n_J0_indexOf_7cf53_30_m F S x1 (0 : Int32)) (fun v2 S1 => some (v2, S1))
set_option maxRecDepth 20000 in
set_option maxHeartbeats 4000000 in
theorem w_J0_indexOf_0f7a4_30_m_e {F : Nat} {q : (Int32 × Zs)} {S : Zs}  {x1 : Int32} {ls : Array Slot} {H : Heap} {locs : List Loc} (C : zC p s m args meth c cJ0_indexOf_0f7a4 2 RJ0 (some .int))  (h : n_J0_indexOf_0f7a4_30_m_e F  S x1 = some q) (hW : zW (mG D cs ad) s S H locs) (hl : lv_has ls 2 [(0, .ref (ad 30)), (1, .int x1)]) : W p l e (zR 3 70) s m args below meth c H locs 0 0 (zQi (mG D cs ad) q below args s) (F0 m 0 ls []) := by
  unfold n_J0_indexOf_0f7a4_30_m_e at h
  obtain ⟨hx, hb, hml, hown, hts, hret, hlk⟩ := id C
  refine lv_aload_n hx hb dJ0_indexOf_0f7a4_0 rfl (lv_at hl 0 rfl) ?_
  refine lv_iload_n hx hb dJ0_indexOf_0f7a4_1 rfl (lv_at hl 1 rfl) ?_
  refine lv_iconst (v := 0) hx hb dJ0_indexOf_0f7a4_2 (by decide) ?_
  refine zz_callVi (As := [.int x1, .int (0 : Int32)]) C hW h (fun r hr => c_J0_indexOf_7cf53_30_m hr) lk_J0_633 (mstr_r30 hW) rfl hl.1 ⟨rfl, rfl⟩ ⟨Nat.le_of_ble_eq_true rfl, Nat.le_of_ble_eq_true rfl⟩ (Nat.le_of_ble_eq_true rfl) ⟨Nat.zero_le _, Nat.zero_le _⟩ rfl dJ0_indexOf_0f7a4_3 (fun v2 S1 H locs h hW => ?_)
  exact zz_iret C rfl h hW dJ0_indexOf_0f7a4_6
def n_J0_indexOf_0f7a4_30_m (F : Nat) (S : Zs) (x1 : Int32) : Option (Int32 × Zs) := n_J0_indexOf_0f7a4_30_m_e F  S x1
theorem c_J0_indexOf_0f7a4_30_m {l : Launch} {D : va_G} {cs ad : Nat → Nat} {F : Nat} {S : Zs} {x1 : Int32} {q : (Int32 × Zs)} (h : n_J0_indexOf_0f7a4_30_m F S x1 = some q) : zMi l yJ0_indexOf_0f7a4 cJ0_indexOf_0f7a4 2 (some .int) (zR 3 70) (mG D cs ad) [.ref (ad 30), .int x1] S q :=
  zz_enter (by decide) (Nat.le_of_ble_eq_true rfl) (fun p e s m below meth c ls C hW hl => w_J0_indexOf_0f7a4_30_m_e (F := F) C h hW (lv_sub hl [0, 1] rfl))
def n_X12_formOfMood_e (F : Nat)  (S : Zs) (x0 : Int32) (x1 : Int32) : Option (Int32 × Zs) :=
  zcl (n_J0_charAt_5068e_32_m F S (((3 : Int32) * x0) + x1)) (fun v2 S1 => zcl (n_J0_indexOf_0f7a4_30_m F S1 v2) (fun v4 S3 => some (v4, S3)))
set_option maxRecDepth 20000 in
set_option maxHeartbeats 4000000 in
theorem w_X12_formOfMood_e {F : Nat} {q : (Int32 × Zs)} {S : Zs}  {x0 : Int32} {x1 : Int32} {ls : Array Slot} {H : Heap} {locs : List Loc} (C : zC p s m args meth c cX12_formOfMood 2 RX12 (some .int))  (h : n_X12_formOfMood_e F  S x0 x1 = some q) (hW : zW (mG D cs ad) s S H locs) (hl : lv_has ls 2 [(0, .int x0), (1, .int x1)]) : W p l e (zR 4 91) s m args below meth c H locs 0 0 (zQi (mG D cs ad) q below args s) (F0 m 0 ls []) := by
  unfold n_X12_formOfMood_e at h
  obtain ⟨hx, hb, hml, hown, hts, hret, hlk⟩ := id C
  refine mstr_64 C hW dX12_formOfMood_0 ?_
  refine mstr_341 C hW dX12_formOfMood_2 ?_
  refine lv_iconst (v := 3) hx hb dX12_formOfMood_5 (by decide) ?_
  refine lv_iload_n hx hb dX12_formOfMood_6 rfl (lv_at hl 0 rfl) ?_
  refine lv_imul hx hb dX12_formOfMood_7 ?_
  refine lv_iload_n hx hb dX12_formOfMood_8 rfl (lv_at hl 1 rfl) ?_
  refine lv_iadd hx hb dX12_formOfMood_9 ?_
  refine zz_callVi (As := [.int (((3 : Int32) * x0) + x1)]) C hW h (fun r hr => c_J0_charAt_5068e_32_m hr) lk_X12_66 (mstr_r32 hW) rfl hl.1 ⟨rfl, rfl⟩ ⟨Nat.le_of_ble_eq_true rfl, Nat.le_of_ble_eq_true rfl⟩ (Nat.le_of_ble_eq_true rfl) ⟨Nat.zero_le _, Nat.zero_le _⟩ rfl dX12_formOfMood_10 (fun v2 S1 H locs h hW => ?_)
  refine zz_callVi (As := [.int v2]) C hW h (fun r hr => c_J0_indexOf_0f7a4_30_m hr) lk_X12_343 (mstr_r30 hW) rfl hl.1 ⟨rfl, rfl⟩ ⟨Nat.le_of_ble_eq_true rfl, Nat.le_of_ble_eq_true rfl⟩ (Nat.le_of_ble_eq_true rfl) ⟨Nat.zero_le _, Nat.zero_le _⟩ rfl dX12_formOfMood_13 (fun v4 S3 H locs h hW => ?_)
  exact zz_iret C rfl h hW dX12_formOfMood_16
def n_X12_formOfMood (F : Nat) (S : Zs) (x0 : Int32) (x1 : Int32) : Option (Int32 × Zs) := n_X12_formOfMood_e F  S x0 x1
theorem c_X12_formOfMood {l : Launch} {D : va_G} {cs ad : Nat → Nat} {F : Nat} {S : Zs} {x0 : Int32} {x1 : Int32} {q : (Int32 × Zs)} (h : n_X12_formOfMood F S x0 x1 = some q) : zMi l yX12_formOfMood cX12_formOfMood 2 (some .int) (zR 4 91) (mG D cs ad) [.int x0, .int x1] S q :=
  zz_enter (by decide) (Nat.le_of_ble_eq_true rfl) (fun p e s m below meth c ls C hW hl => w_X12_formOfMood_e (F := F) C h hW (lv_sub hl [0, 1] rfl))
def n_X12_allow_0_e (F : Nat)  (S : Zs) (x1 : Int32) : Option (Int32 × Zs) :=
  zpf S 0 (0 : Int32) (fun S1 => zcl (n_X12_in F S1 (x1.toInt64) (0 : Int64) (4194303 : Int64)) (fun v3 S2 => if v3 = 0 then (some ((-1 : Int32), S2)) else (zgf S2 11 (fun v4 => zpf S2 11 x1 (fun S5 => some (v4, S5))))))
set_option maxRecDepth 20000 in
set_option maxHeartbeats 4000000 in
theorem w_X12_allow_0_e {F : Nat} {q : (Int32 × Zs)} {S : Zs}  {x1 : Int32} {ls : Array Slot} {H : Heap} {locs : List Loc} (C : zC p s m args meth c cX12_allow 3 RX12 (some .int))  (h : n_X12_allow_0_e F  S x1 = some q) (hW : zW (mG D cs ad) s S H locs) (hl : lv_has ls 3 [(0, .ref (ad 0)), (1, .int x1)]) : W p l e (zR 1 25) s m args below meth c H locs 0 0 (zQi (mG D cs ad) q below args s) (F0 m 0 ls []) := by
  unfold n_X12_allow_0_e at h
  obtain ⟨hx, hb, hml, hown, hts, hret, hlk⟩ := id C
  refine lv_aload_n hx hb dX12_allow_0 rfl (lv_at hl 0 rfl) ?_
  refine lv_iconst (v := 0) hx hb dX12_allow_1 (by decide) ?_
  refine mp_0_0 C hW h fl_X12_3 dX12_allow_2 (fun S1 H locs h hW => ?_)
  refine lv_iload_n hx hb dX12_allow_5 rfl (lv_at hl 1 rfl) ?_
  refine lv_i2l hx hb dX12_allow_6 rfl ?_
  refine lv_lconst (v := 0) hx hb dX12_allow_7 (by decide) ?_
  refine lv_ldc2 (v := 4194303) hx hb hown (hts _ ct_X12_346) dX12_allow_8 ?_
  refine zz_callSi (As := [.long (x1.toInt64), .long (0 : Int64), .long (4194303 : Int64)]) C hW h (fun r hr => c_X12_in hr) lk_X12_16 rfl hl.1 ⟨rfl, rfl⟩ ⟨Nat.le_of_ble_eq_true rfl, Nat.le_of_ble_eq_true rfl⟩ (Nat.le_of_ble_eq_true rfl) ⟨Nat.zero_le _, Nat.zero_le _⟩ rfl dX12_allow_11 (fun v3 S2 H locs h hW => ?_)
  refine zz_ine (tgt := 19) C h dX12_allow_14 (by decide) (fun h => ?_) (fun h => ?_)
  · refine lv_aload_n hx hb dX12_allow_19 rfl (lv_at hl 0 rfl) ?_
    refine mg_0_11 C hW h fl_X12_348 dX12_allow_20 (fun v4 h => ?_)
    refine lv_istore_n (lv' := [(2, .int v4), (0, .ref (ad 0)), (1, .int x1)]) hx hb dX12_allow_23 rfl hl (by decide) rfl (fun ls hl => ?_)
    refine lv_aload_n hx hb dX12_allow_24 rfl (lv_at hl 1 rfl) ?_
    refine lv_iload_n hx hb dX12_allow_25 rfl (lv_at hl 2 rfl) ?_
    refine mp_0_11 C hW h fl_X12_348 dX12_allow_26 (fun S5 H locs h hW => ?_)
    refine lv_iload_n hx hb dX12_allow_29 rfl (lv_at hl 0 rfl) ?_
    exact zz_iret C rfl h hW dX12_allow_30
  · refine lv_iconst (v := -1) hx hb dX12_allow_17 (by decide) ?_
    exact zz_iret C rfl h hW dX12_allow_18
def n_X12_allow_0 (F : Nat) (S : Zs) (x1 : Int32) : Option (Int32 × Zs) := n_X12_allow_0_e F  S x1
theorem c_X12_allow_0 {l : Launch} {D : va_G} {cs ad : Nat → Nat} {F : Nat} {S : Zs} {x1 : Int32} {q : (Int32 × Zs)} (h : n_X12_allow_0 F S x1 = some q) : zMi l yX12_allow cX12_allow 3 (some .int) (zR 1 25) (mG D cs ad) [.ref (ad 0), .int x1] S q :=
  zz_enter (by decide) (Nat.le_of_ble_eq_true rfl) (fun p e s m below meth c ls C hW hl => w_X12_allow_0_e (F := F) C h hW (lv_sub hl [0, 1] rfl))
def n_X12_isLiving_0_b24 (F : Nat)  (S : Zs) (t0 : Int32) : Option (Int32 × Zs) :=
  zrb t0 S
set_option maxRecDepth 20000 in
set_option maxHeartbeats 4000000 in
theorem w_X12_isLiving_0_b24 {F : Nat} {q : (Int32 × Zs)} {S : Zs}  {t0 : Int32} {ls : Array Slot} {H : Heap} {locs : List Loc} (C : zC p s m args meth c cX12_isLiving 2 RX12 (some .boolean))  (h : n_X12_isLiving_0_b24 F  S t0 = some q) (hW : zW (mG D cs ad) s S H locs) (hl : lv_has ls 2 []) : W p l e (zR 1 21) s m args below meth c H locs 0 0 (zQi (mG D cs ad) q below args s) (F0 m 24 ls [.int t0]) := by
  unfold n_X12_isLiving_0_b24 at h
  obtain ⟨hx, hb, hml, hown, hts, hret, hlk⟩ := id C
  exact zz_zret C rfl h hW dX12_isLiving_24
def n_X12_isLiving_0_b23 (F : Nat)  (S : Zs)  : Option (Int32 × Zs) :=
  n_X12_isLiving_0_b24 F  S (0 : Int32)
set_option maxRecDepth 20000 in
set_option maxHeartbeats 4000000 in
theorem w_X12_isLiving_0_b23 {F : Nat} {q : (Int32 × Zs)} {S : Zs}   {ls : Array Slot} {H : Heap} {locs : List Loc} (C : zC p s m args meth c cX12_isLiving 2 RX12 (some .boolean))  (h : n_X12_isLiving_0_b23 F  S  = some q) (hW : zW (mG D cs ad) s S H locs) (hl : lv_has ls 2 []) : W p l e (zR 1 21) s m args below meth c H locs 0 0 (zQi (mG D cs ad) q below args s) (F0 m 23 ls []) := by
  unfold n_X12_isLiving_0_b23 at h
  obtain ⟨hx, hb, hml, hown, hts, hret, hlk⟩ := id C
  refine lv_iconst (v := 0) hx hb dX12_isLiving_23 (by decide) ?_
  exact w_X12_isLiving_0_b24 (F := F) C h hW (lv_sub hl [] rfl)
def n_X12_isLiving_0_e (F : Nat)  (S : Zs) (x1 : Int32) : Option (Int32 × Zs) :=
  if (x1 - x1 / (2 : Int32) * (2 : Int32)) = 0 then (zgf S 8 (fun v1 => zcl (n_X12_has F S v1 (x1 / (2 : Int32))) (fun v3 S2 => if v3 = 0 then (n_X12_isLiving_0_b23 F  S2 ) else (n_X12_isLiving_0_b24 F  S2 (1 : Int32))))) else (n_X12_isLiving_0_b23 F  S )
set_option maxRecDepth 20000 in
set_option maxHeartbeats 4000000 in
theorem w_X12_isLiving_0_e {F : Nat} {q : (Int32 × Zs)} {S : Zs}  {x1 : Int32} {ls : Array Slot} {H : Heap} {locs : List Loc} (C : zC p s m args meth c cX12_isLiving 2 RX12 (some .boolean))  (h : n_X12_isLiving_0_e F  S x1 = some q) (hW : zW (mG D cs ad) s S H locs) (hl : lv_has ls 2 [(0, .ref (ad 0)), (1, .int x1)]) : W p l e (zR 1 21) s m args below meth c H locs 0 0 (zQi (mG D cs ad) q below args s) (F0 m 0 ls []) := by
  unfold n_X12_isLiving_0_e at h
  obtain ⟨hx, hb, hml, hown, hts, hret, hlk⟩ := id C
  refine lv_iload_n hx hb dX12_isLiving_0 rfl (lv_at hl 1 rfl) ?_
  refine lv_iconst (v := 2) hx hb dX12_isLiving_1 (by decide) ?_
  refine lv_irem hx hb dX12_isLiving_2 (by decide) ?_
  refine zz_ine (tgt := 23) C h dX12_isLiving_3 (by decide) (fun h => ?_) (fun h => ?_)
  · exact w_X12_isLiving_0_b23 (F := F) C h hW (lv_sub hl [] rfl)
  · refine lv_aload_n hx hb dX12_isLiving_6 rfl (lv_at hl 0 rfl) ?_
    refine mg_0_8 C hW h fl_X12_139 dX12_isLiving_7 (fun v1 h => ?_)
    refine lv_iload_n hx hb dX12_isLiving_10 rfl (lv_at hl 1 rfl) ?_
    refine lv_iconst (v := 2) hx hb dX12_isLiving_11 (by decide) ?_
    refine lv_idiv hx hb dX12_isLiving_12 (by decide) ?_
    refine zz_callSi (As := [.int v1, .int (x1 / (2 : Int32))]) C hW h (fun r hr => c_X12_has hr) lk_X12_129 rfl hl.1 ⟨rfl, rfl⟩ ⟨Nat.le_of_ble_eq_true rfl, Nat.le_of_ble_eq_true rfl⟩ (Nat.le_of_ble_eq_true rfl) ⟨Nat.zero_le _, Nat.zero_le _⟩ rfl dX12_isLiving_13 (fun v3 S2 H locs h hW => ?_)
    refine zz_ieq (tgt := 23) C h dX12_isLiving_16 (by decide) (fun h => ?_) (fun h => ?_)
    · exact w_X12_isLiving_0_b23 (F := F) C h hW (lv_sub hl [] rfl)
    · refine lv_iconst (v := 1) hx hb dX12_isLiving_19 (by decide) ?_
      refine lv_goto (tgt := 24) hx hb dX12_isLiving_20 (by decide) ?_
      exact w_X12_isLiving_0_b24 (F := F) C h hW (lv_sub hl [] rfl)
def n_X12_isLiving_0 (F : Nat) (S : Zs) (x1 : Int32) : Option (Int32 × Zs) := n_X12_isLiving_0_e F  S x1
theorem c_X12_isLiving_0 {l : Launch} {D : va_G} {cs ad : Nat → Nat} {F : Nat} {S : Zs} {x1 : Int32} {q : (Int32 × Zs)} (h : n_X12_isLiving_0 F S x1 = some q) : zMi l yX12_isLiving cX12_isLiving 2 (some .boolean) (zR 1 21) (mG D cs ad) [.ref (ad 0), .int x1] S q :=
  zz_enter (by decide) (Nat.le_of_ble_eq_true rfl) (fun p e s m below meth c ls C hW hl => w_X12_isLiving_0_e (F := F) C h hW (lv_sub hl [0, 1] rfl))
def n_X12_concludes_b93 (F : Nat)  (S : Zs) (t0 : Int32) : Option (Int32 × Zs) :=
  some (t0, S)
set_option maxRecDepth 20000 in
set_option maxHeartbeats 4000000 in
theorem w_X12_concludes_b93 {F : Nat} {q : (Int32 × Zs)} {S : Zs}  {t0 : Int32} {ls : Array Slot} {H : Heap} {locs : List Loc} (C : zC p s m args meth c cX12_concludes 7 RX12 (some .int))  (h : n_X12_concludes_b93 F  S t0 = some q) (hW : zW (mG D cs ad) s S H locs) (hl : lv_has ls 7 []) : W p l e (zR 1 20) s m args below meth c H locs 0 0 (zQi (mG D cs ad) q below args s) (F0 m 93 ls [.int t0]) := by
  unfold n_X12_concludes_b93 at h
  obtain ⟨hx, hb, hml, hown, hts, hret, hlk⟩ := id C
  exact zz_iret C rfl h hW dX12_concludes_93
def n_X12_concludes_b73 (F : Nat)  (S : Zs) (x3 : Int32) (x4 : Int32) (x5 : Int32) (t0 : Int32) : Option (Int32 × Zs) :=
  if x5 = x3 then (n_X12_concludes_b93 F  S (((24 : Int32) * t0) + x4)) else (n_X12_concludes_b93 F  S (-1 : Int32))
set_option maxRecDepth 20000 in
set_option maxHeartbeats 4000000 in
theorem w_X12_concludes_b73 {F : Nat} {q : (Int32 × Zs)} {S : Zs}  {x3 : Int32} {x4 : Int32} {x5 : Int32} {t0 : Int32} {ls : Array Slot} {H : Heap} {locs : List Loc} (C : zC p s m args meth c cX12_concludes 7 RX12 (some .int))  (h : n_X12_concludes_b73 F  S x3 x4 x5 t0 = some q) (hW : zW (mG D cs ad) s S H locs) (hl : lv_has ls 7 [(3, .int x3), (4, .int x4), (5, .int x5)]) : W p l e (zR 1 20) s m args below meth c H locs 0 0 (zQi (mG D cs ad) q below args s) (F0 m 73 ls [.int t0]) := by
  unfold n_X12_concludes_b73 at h
  obtain ⟨hx, hb, hml, hown, hts, hret, hlk⟩ := id C
  refine lv_istore (lv' := [(6, .int t0), (3, .int x3), (4, .int x4), (5, .int x5)]) hx hb dX12_concludes_73 hl (by decide) rfl (fun ls hl => ?_)
  refine lv_iload hx hb dX12_concludes_75 (lv_at hl 3 rfl) ?_
  refine lv_iload_n hx hb dX12_concludes_77 rfl (lv_at hl 1 rfl) ?_
  refine zz_cne (tgt := 92) C h dX12_concludes_78 (by decide) (fun h => ?_) (fun h => ?_)
  · refine lv_iconst (v := -1) hx hb dX12_concludes_92 (by decide) ?_
    exact w_X12_concludes_b93 (F := F) C h hW (lv_sub hl [] rfl)
  · refine lv_bipush (v := 24) hx hb dX12_concludes_81 (by decide) ?_
    refine lv_iload hx hb dX12_concludes_83 (lv_at hl 0 rfl) ?_
    refine lv_imul hx hb dX12_concludes_85 ?_
    refine lv_iload hx hb dX12_concludes_86 (lv_at hl 2 rfl) ?_
    refine lv_iadd hx hb dX12_concludes_88 ?_
    refine lv_goto (tgt := 93) hx hb dX12_concludes_89 (by decide) ?_
    exact w_X12_concludes_b93 (F := F) C h hW (lv_sub hl [] rfl)
def n_X12_concludes_b55 (F : Nat)  (S : Zs) (x0 : Int32) (x2 : Int32) (x3 : Int32) (x4 : Int32) (t0 : Int32) : Option (Int32 × Zs) :=
  if (3 : Int32) ≤ x0 then (zcl (n_X12_secondOf F S x2) (fun v2 S1 => n_X12_concludes_b73 F  S1 x3 x4 t0 v2)) else (zcl (n_X12_firstOf F S x2) (fun v4 S3 => n_X12_concludes_b73 F  S3 x3 x4 t0 v4))
set_option maxRecDepth 20000 in
set_option maxHeartbeats 4000000 in
theorem w_X12_concludes_b55 {F : Nat} {q : (Int32 × Zs)} {S : Zs}  {x0 : Int32} {x2 : Int32} {x3 : Int32} {x4 : Int32} {t0 : Int32} {ls : Array Slot} {H : Heap} {locs : List Loc} (C : zC p s m args meth c cX12_concludes 7 RX12 (some .int))  (h : n_X12_concludes_b55 F  S x0 x2 x3 x4 t0 = some q) (hW : zW (mG D cs ad) s S H locs) (hl : lv_has ls 7 [(0, .int x0), (2, .int x2), (3, .int x3), (4, .int x4)]) : W p l e (zR 1 20) s m args below meth c H locs 0 0 (zQi (mG D cs ad) q below args s) (F0 m 55 ls [.int t0]) := by
  unfold n_X12_concludes_b55 at h
  obtain ⟨hx, hb, hml, hown, hts, hret, hlk⟩ := id C
  refine lv_istore (lv' := [(5, .int t0), (0, .int x0), (2, .int x2), (3, .int x3), (4, .int x4)]) hx hb dX12_concludes_55 hl (by decide) rfl (fun ls hl => ?_)
  refine lv_iload_n hx hb dX12_concludes_57 rfl (lv_at hl 1 rfl) ?_
  refine lv_iconst (v := 3) hx hb dX12_concludes_58 (by decide) ?_
  refine zz_cge (tgt := 69) C h dX12_concludes_59 (by decide) (fun h => ?_) (fun h => ?_)
  · refine lv_iload_n hx hb dX12_concludes_69 rfl (lv_at hl 2 rfl) ?_
    refine zz_callSi (As := [.int x2]) C hW h (fun r hr => c_X12_secondOf hr) lk_X12_27 rfl hl.1 ⟨rfl, rfl⟩ ⟨Nat.le_of_ble_eq_true rfl, Nat.le_of_ble_eq_true rfl⟩ (Nat.le_of_ble_eq_true rfl) ⟨Nat.zero_le _, Nat.zero_le _⟩ rfl dX12_concludes_70 (fun v2 S1 H locs h hW => ?_)
    exact w_X12_concludes_b73 (F := F) C h hW (lv_sub hl [3, 4, 0] rfl)
  · refine lv_iload_n hx hb dX12_concludes_62 rfl (lv_at hl 2 rfl) ?_
    refine zz_callSi (As := [.int x2]) C hW h (fun r hr => c_X12_firstOf hr) lk_X12_24 rfl hl.1 ⟨rfl, rfl⟩ ⟨Nat.le_of_ble_eq_true rfl, Nat.le_of_ble_eq_true rfl⟩ (Nat.le_of_ble_eq_true rfl) ⟨Nat.zero_le _, Nat.zero_le _⟩ rfl dX12_concludes_63 (fun v4 S3 H locs h hW => ?_)
    refine lv_goto (tgt := 73) hx hb dX12_concludes_66 (by decide) ?_
    exact w_X12_concludes_b73 (F := F) C h hW (lv_sub hl [3, 4, 0] rfl)
def n_X12_concludes_b37 (F : Nat)  (S : Zs) (x0 : Int32) (x2 : Int32) (x3 : Int32) (t0 : Int32) : Option (Int32 × Zs) :=
  if (3 : Int32) ≤ x0 then (zcl (n_X12_firstOf F S x2) (fun v2 S1 => n_X12_concludes_b55 F  S1 x0 x2 x3 t0 v2)) else (zcl (n_X12_secondOf F S x2) (fun v4 S3 => n_X12_concludes_b55 F  S3 x0 x2 x3 t0 v4))
set_option maxRecDepth 20000 in
set_option maxHeartbeats 4000000 in
theorem w_X12_concludes_b37 {F : Nat} {q : (Int32 × Zs)} {S : Zs}  {x0 : Int32} {x2 : Int32} {x3 : Int32} {t0 : Int32} {ls : Array Slot} {H : Heap} {locs : List Loc} (C : zC p s m args meth c cX12_concludes 7 RX12 (some .int))  (h : n_X12_concludes_b37 F  S x0 x2 x3 t0 = some q) (hW : zW (mG D cs ad) s S H locs) (hl : lv_has ls 7 [(0, .int x0), (2, .int x2), (3, .int x3)]) : W p l e (zR 1 20) s m args below meth c H locs 0 0 (zQi (mG D cs ad) q below args s) (F0 m 37 ls [.int t0]) := by
  unfold n_X12_concludes_b37 at h
  obtain ⟨hx, hb, hml, hown, hts, hret, hlk⟩ := id C
  refine lv_istore (lv' := [(4, .int t0), (0, .int x0), (2, .int x2), (3, .int x3)]) hx hb dX12_concludes_37 hl (by decide) rfl (fun ls hl => ?_)
  refine lv_iload_n hx hb dX12_concludes_39 rfl (lv_at hl 1 rfl) ?_
  refine lv_iconst (v := 3) hx hb dX12_concludes_40 (by decide) ?_
  refine zz_cge (tgt := 51) C h dX12_concludes_41 (by decide) (fun h => ?_) (fun h => ?_)
  · refine lv_iload_n hx hb dX12_concludes_51 rfl (lv_at hl 2 rfl) ?_
    refine zz_callSi (As := [.int x2]) C hW h (fun r hr => c_X12_firstOf hr) lk_X12_24 rfl hl.1 ⟨rfl, rfl⟩ ⟨Nat.le_of_ble_eq_true rfl, Nat.le_of_ble_eq_true rfl⟩ (Nat.le_of_ble_eq_true rfl) ⟨Nat.zero_le _, Nat.zero_le _⟩ rfl dX12_concludes_52 (fun v2 S1 H locs h hW => ?_)
    exact w_X12_concludes_b55 (F := F) C h hW (lv_sub hl [1, 2, 3, 0] rfl)
  · refine lv_iload_n hx hb dX12_concludes_44 rfl (lv_at hl 2 rfl) ?_
    refine zz_callSi (As := [.int x2]) C hW h (fun r hr => c_X12_secondOf hr) lk_X12_27 rfl hl.1 ⟨rfl, rfl⟩ ⟨Nat.le_of_ble_eq_true rfl, Nat.le_of_ble_eq_true rfl⟩ (Nat.le_of_ble_eq_true rfl) ⟨Nat.zero_le _, Nat.zero_le _⟩ rfl dX12_concludes_45 (fun v4 S3 H locs h hW => ?_)
    refine lv_goto (tgt := 55) hx hb dX12_concludes_48 (by decide) ?_
    exact w_X12_concludes_b55 (F := F) C h hW (lv_sub hl [1, 2, 3, 0] rfl)
def n_X12_concludes_b18 (F : Nat)  (S : Zs) (x0 : Int32) (x1 : Int32) (x2 : Int32) (t0 : Int32) : Option (Int32 × Zs) :=
  if (x0 - x0 / (2 : Int32) * (2 : Int32)) = (1 : Int32) then (zcl (n_X12_secondOf F S x1) (fun v4 S3 => n_X12_concludes_b37 F  S3 x0 x2 t0 v4)) else (zcl (n_X12_firstOf F S x1) (fun v2 S1 => n_X12_concludes_b37 F  S1 x0 x2 t0 v2))
set_option maxRecDepth 20000 in
set_option maxHeartbeats 4000000 in
theorem w_X12_concludes_b18 {F : Nat} {q : (Int32 × Zs)} {S : Zs}  {x0 : Int32} {x1 : Int32} {x2 : Int32} {t0 : Int32} {ls : Array Slot} {H : Heap} {locs : List Loc} (C : zC p s m args meth c cX12_concludes 7 RX12 (some .int))  (h : n_X12_concludes_b18 F  S x0 x1 x2 t0 = some q) (hW : zW (mG D cs ad) s S H locs) (hl : lv_has ls 7 [(0, .int x0), (1, .int x1), (2, .int x2)]) : W p l e (zR 1 20) s m args below meth c H locs 0 0 (zQi (mG D cs ad) q below args s) (F0 m 18 ls [.int t0]) := by
  unfold n_X12_concludes_b18 at h
  obtain ⟨hx, hb, hml, hown, hts, hret, hlk⟩ := id C
  refine lv_istore_n (lv' := [(3, .int t0), (0, .int x0), (1, .int x1), (2, .int x2)]) hx hb dX12_concludes_18 rfl hl (by decide) rfl (fun ls hl => ?_)
  refine lv_iload_n hx hb dX12_concludes_19 rfl (lv_at hl 1 rfl) ?_
  refine lv_iconst (v := 2) hx hb dX12_concludes_20 (by decide) ?_
  refine lv_irem hx hb dX12_concludes_21 (by decide) ?_
  refine lv_iconst (v := 1) hx hb dX12_concludes_22 (by decide) ?_
  refine zz_cne (tgt := 33) C h dX12_concludes_23 (by decide) (fun h => ?_) (fun h => ?_)
  · refine lv_iload_n hx hb dX12_concludes_33 rfl (lv_at hl 2 rfl) ?_
    refine zz_callSi (As := [.int x1]) C hW h (fun r hr => c_X12_firstOf hr) lk_X12_24 rfl hl.1 ⟨rfl, rfl⟩ ⟨Nat.le_of_ble_eq_true rfl, Nat.le_of_ble_eq_true rfl⟩ (Nat.le_of_ble_eq_true rfl) ⟨Nat.zero_le _, Nat.zero_le _⟩ rfl dX12_concludes_34 (fun v2 S1 H locs h hW => ?_)
    exact w_X12_concludes_b37 (F := F) C h hW (lv_sub hl [1, 3, 0] rfl)
  · refine lv_iload_n hx hb dX12_concludes_26 rfl (lv_at hl 2 rfl) ?_
    refine zz_callSi (As := [.int x1]) C hW h (fun r hr => c_X12_secondOf hr) lk_X12_27 rfl hl.1 ⟨rfl, rfl⟩ ⟨Nat.le_of_ble_eq_true rfl, Nat.le_of_ble_eq_true rfl⟩ (Nat.le_of_ble_eq_true rfl) ⟨Nat.zero_le _, Nat.zero_le _⟩ rfl dX12_concludes_27 (fun v4 S3 H locs h hW => ?_)
    refine lv_goto (tgt := 37) hx hb dX12_concludes_30 (by decide) ?_
    exact w_X12_concludes_b37 (F := F) C h hW (lv_sub hl [1, 3, 0] rfl)
def n_X12_concludes_e (F : Nat)  (S : Zs) (x0 : Int32) (x1 : Int32) (x2 : Int32) : Option (Int32 × Zs) :=
  if (x0 - x0 / (2 : Int32) * (2 : Int32)) = (1 : Int32) then (zcl (n_X12_firstOf F S x1) (fun v4 S3 => n_X12_concludes_b18 F  S3 x0 x1 x2 v4)) else (zcl (n_X12_secondOf F S x1) (fun v2 S1 => n_X12_concludes_b18 F  S1 x0 x1 x2 v2))
set_option maxRecDepth 20000 in
set_option maxHeartbeats 4000000 in
theorem w_X12_concludes_e {F : Nat} {q : (Int32 × Zs)} {S : Zs}  {x0 : Int32} {x1 : Int32} {x2 : Int32} {ls : Array Slot} {H : Heap} {locs : List Loc} (C : zC p s m args meth c cX12_concludes 7 RX12 (some .int))  (h : n_X12_concludes_e F  S x0 x1 x2 = some q) (hW : zW (mG D cs ad) s S H locs) (hl : lv_has ls 7 [(0, .int x0), (1, .int x1), (2, .int x2)]) : W p l e (zR 1 20) s m args below meth c H locs 0 0 (zQi (mG D cs ad) q below args s) (F0 m 0 ls []) := by
  unfold n_X12_concludes_e at h
  obtain ⟨hx, hb, hml, hown, hts, hret, hlk⟩ := id C
  refine lv_iload_n hx hb dX12_concludes_0 rfl (lv_at hl 0 rfl) ?_
  refine lv_iconst (v := 2) hx hb dX12_concludes_1 (by decide) ?_
  refine lv_irem hx hb dX12_concludes_2 (by decide) ?_
  refine lv_iconst (v := 1) hx hb dX12_concludes_3 (by decide) ?_
  refine zz_cne (tgt := 14) C h dX12_concludes_4 (by decide) (fun h => ?_) (fun h => ?_)
  · refine lv_iload_n hx hb dX12_concludes_14 rfl (lv_at hl 1 rfl) ?_
    refine zz_callSi (As := [.int x1]) C hW h (fun r hr => c_X12_secondOf hr) lk_X12_27 rfl hl.1 ⟨rfl, rfl⟩ ⟨Nat.le_of_ble_eq_true rfl, Nat.le_of_ble_eq_true rfl⟩ (Nat.le_of_ble_eq_true rfl) ⟨Nat.zero_le _, Nat.zero_le _⟩ rfl dX12_concludes_15 (fun v2 S1 H locs h hW => ?_)
    exact w_X12_concludes_b18 (F := F) C h hW (lv_sub hl [0, 1, 2] rfl)
  · refine lv_iload_n hx hb dX12_concludes_7 rfl (lv_at hl 1 rfl) ?_
    refine zz_callSi (As := [.int x1]) C hW h (fun r hr => c_X12_firstOf hr) lk_X12_24 rfl hl.1 ⟨rfl, rfl⟩ ⟨Nat.le_of_ble_eq_true rfl, Nat.le_of_ble_eq_true rfl⟩ (Nat.le_of_ble_eq_true rfl) ⟨Nat.zero_le _, Nat.zero_le _⟩ rfl dX12_concludes_8 (fun v4 S3 H locs h hW => ?_)
    refine lv_goto (tgt := 18) hx hb dX12_concludes_11 (by decide) ?_
    exact w_X12_concludes_b18 (F := F) C h hW (lv_sub hl [0, 1, 2] rfl)
def n_X12_concludes (F : Nat) (S : Zs) (x0 : Int32) (x1 : Int32) (x2 : Int32) : Option (Int32 × Zs) := n_X12_concludes_e F  S x0 x1 x2
theorem c_X12_concludes {l : Launch} {D : va_G} {cs ad : Nat → Nat} {F : Nat} {S : Zs} {x0 : Int32} {x1 : Int32} {x2 : Int32} {q : (Int32 × Zs)} (h : n_X12_concludes F S x0 x1 x2 = some q) : zMi l yX12_concludes cX12_concludes 7 (some .int) (zR 1 20) (mG D cs ad) [.int x0, .int x1, .int x2] S q :=
  zz_enter (by decide) (Nat.le_of_ble_eq_true rfl) (fun p e s m below meth c ls C hW hl => w_X12_concludes_e (F := F) C h hW (lv_sub hl [0, 1, 2] rfl))
def n_X12_proves_0_b243 (F : Nat)  (S : Zs) (t0 : Int32) : Option (Int32 × Zs) :=
  some (t0, S)
set_option maxRecDepth 20000 in
set_option maxHeartbeats 4000000 in
theorem w_X12_proves_0_b243 {F : Nat} {q : (Int32 × Zs)} {S : Zs}  {t0 : Int32} {ls : Array Slot} {H : Heap} {locs : List Loc} (C : zC p s m args meth c cX12_proves 9 RX12 (some .int))  (h : n_X12_proves_0_b243 F  S t0 = some q) (hW : zW (mG D cs ad) s S H locs) (hl : lv_has ls 9 []) : W p l e (zR 5 112) s m args below meth c H locs 0 0 (zQi (mG D cs ad) q below args s) (F0 m 243 ls [.int t0]) := by
  unfold n_X12_proves_0_b243 at h
  obtain ⟨hx, hb, hml, hown, hts, hret, hlk⟩ := id C
  exact zz_iret C rfl h hW dX12_proves_243
def n_X12_proves_0_b242 (F : Nat)  (S : Zs)  : Option (Int32 × Zs) :=
  n_X12_proves_0_b243 F  S (-1 : Int32)
set_option maxRecDepth 20000 in
set_option maxHeartbeats 4000000 in
theorem w_X12_proves_0_b242 {F : Nat} {q : (Int32 × Zs)} {S : Zs}   {ls : Array Slot} {H : Heap} {locs : List Loc} (C : zC p s m args meth c cX12_proves 9 RX12 (some .int))  (h : n_X12_proves_0_b242 F  S  = some q) (hW : zW (mG D cs ad) s S H locs) (hl : lv_has ls 9 []) : W p l e (zR 5 112) s m args below meth c H locs 0 0 (zQi (mG D cs ad) q below args s) (F0 m 242 ls []) := by
  unfold n_X12_proves_0_b242 at h
  obtain ⟨hx, hb, hml, hown, hts, hret, hlk⟩ := id C
  refine lv_iconst (v := -1) hx hb dX12_proves_242 (by decide) ?_
  exact w_X12_proves_0_b243 (F := F) C h hW (lv_sub hl [] rfl)
def n_X12_proves_0_b228 (F : Nat)  (S : Zs) (x5 : Int32) (x6 : Int32) (x7 : Int32) : Option (Int32 × Zs) :=
  zcl (n_X12_codeOf F S (x5 + (2 : Int32)) x6 x7) (fun v2 S1 => n_X12_proves_0_b243 F  S1 v2)
set_option maxRecDepth 20000 in
set_option maxHeartbeats 4000000 in
theorem w_X12_proves_0_b228 {F : Nat} {q : (Int32 × Zs)} {S : Zs}  {x5 : Int32} {x6 : Int32} {x7 : Int32} {ls : Array Slot} {H : Heap} {locs : List Loc} (C : zC p s m args meth c cX12_proves 9 RX12 (some .int))  (h : n_X12_proves_0_b228 F  S x5 x6 x7 = some q) (hW : zW (mG D cs ad) s S H locs) (hl : lv_has ls 9 [(5, .int x5), (6, .int x6), (7, .int x7)]) : W p l e (zR 5 112) s m args below meth c H locs 0 0 (zQi (mG D cs ad) q below args s) (F0 m 228 ls []) := by
  unfold n_X12_proves_0_b228 at h
  obtain ⟨hx, hb, hml, hown, hts, hret, hlk⟩ := id C
  refine lv_iload hx hb dX12_proves_228 (lv_at hl 0 rfl) ?_
  refine lv_iconst (v := 2) hx hb dX12_proves_230 (by decide) ?_
  refine lv_iadd hx hb dX12_proves_231 ?_
  refine lv_iload hx hb dX12_proves_232 (lv_at hl 1 rfl) ?_
  refine lv_iload hx hb dX12_proves_234 (lv_at hl 2 rfl) ?_
  refine zz_callSi (As := [.int (x5 + (2 : Int32)), .int x6, .int x7]) C hW h (fun r hr => c_X12_codeOf hr) lk_X12_30 rfl hl.1 ⟨rfl, rfl⟩ ⟨Nat.le_of_ble_eq_true rfl, Nat.le_of_ble_eq_true rfl⟩ (Nat.le_of_ble_eq_true rfl) ⟨Nat.zero_le _, Nat.zero_le _⟩ rfl dX12_proves_236 (fun v2 S1 H locs h hW => ?_)
  refine lv_goto (tgt := 243) hx hb dX12_proves_239 (by decide) ?_
  exact w_X12_proves_0_b243 (F := F) C h hW (lv_sub hl [] rfl)
def n_X12_proves_0_b187 (F : Nat)  (S : Zs) (t0 : Int32) : Option (Int32 × Zs) :=
  some (t0, S)
set_option maxRecDepth 20000 in
set_option maxHeartbeats 4000000 in
theorem w_X12_proves_0_b187 {F : Nat} {q : (Int32 × Zs)} {S : Zs}  {t0 : Int32} {ls : Array Slot} {H : Heap} {locs : List Loc} (C : zC p s m args meth c cX12_proves 9 RX12 (some .int))  (h : n_X12_proves_0_b187 F  S t0 = some q) (hW : zW (mG D cs ad) s S H locs) (hl : lv_has ls 9 []) : W p l e (zR 5 112) s m args below meth c H locs 0 0 (zQi (mG D cs ad) q below args s) (F0 m 187 ls [.int t0]) := by
  unfold n_X12_proves_0_b187 at h
  obtain ⟨hx, hb, hml, hown, hts, hret, hlk⟩ := id C
  exact zz_iret C rfl h hW dX12_proves_187
def n_X12_proves_0_b174 (F : Nat)  (S : Zs) (x5 : Int32) (x6 : Int32) (x7 : Int32) : Option (Int32 × Zs) :=
  zcl (n_X12_codeOf F S x5 x7 x6) (fun v2 S1 => n_X12_proves_0_b187 F  S1 v2)
set_option maxRecDepth 20000 in
set_option maxHeartbeats 4000000 in
theorem w_X12_proves_0_b174 {F : Nat} {q : (Int32 × Zs)} {S : Zs}  {x5 : Int32} {x6 : Int32} {x7 : Int32} {ls : Array Slot} {H : Heap} {locs : List Loc} (C : zC p s m args meth c cX12_proves 9 RX12 (some .int))  (h : n_X12_proves_0_b174 F  S x5 x6 x7 = some q) (hW : zW (mG D cs ad) s S H locs) (hl : lv_has ls 9 [(5, .int x5), (6, .int x6), (7, .int x7)]) : W p l e (zR 5 112) s m args below meth c H locs 0 0 (zQi (mG D cs ad) q below args s) (F0 m 174 ls []) := by
  unfold n_X12_proves_0_b174 at h
  obtain ⟨hx, hb, hml, hown, hts, hret, hlk⟩ := id C
  refine lv_iload hx hb dX12_proves_174 (lv_at hl 0 rfl) ?_
  refine lv_iload hx hb dX12_proves_176 (lv_at hl 2 rfl) ?_
  refine lv_iload hx hb dX12_proves_178 (lv_at hl 1 rfl) ?_
  refine zz_callSi (As := [.int x5, .int x7, .int x6]) C hW h (fun r hr => c_X12_codeOf hr) lk_X12_30 rfl hl.1 ⟨rfl, rfl⟩ ⟨Nat.le_of_ble_eq_true rfl, Nat.le_of_ble_eq_true rfl⟩ (Nat.le_of_ble_eq_true rfl) ⟨Nat.zero_le _, Nat.zero_le _⟩ rfl dX12_proves_180 (fun v2 S1 H locs h hW => ?_)
  refine lv_goto (tgt := 187) hx hb dX12_proves_183 (by decide) ?_
  exact w_X12_proves_0_b187 (F := F) C h hW (lv_sub hl [] rfl)
def n_X12_proves_0_b46 (F : Nat)  (S : Zs)  : Option (Int32 × Zs) :=
  some ((-1 : Int32), S)
set_option maxRecDepth 20000 in
set_option maxHeartbeats 4000000 in
theorem w_X12_proves_0_b46 {F : Nat} {q : (Int32 × Zs)} {S : Zs}   {ls : Array Slot} {H : Heap} {locs : List Loc} (C : zC p s m args meth c cX12_proves 9 RX12 (some .int))  (h : n_X12_proves_0_b46 F  S  = some q) (hW : zW (mG D cs ad) s S H locs) (hl : lv_has ls 9 []) : W p l e (zR 5 112) s m args below meth c H locs 0 0 (zQi (mG D cs ad) q below args s) (F0 m 46 ls []) := by
  unfold n_X12_proves_0_b46 at h
  obtain ⟨hx, hb, hml, hown, hts, hret, hlk⟩ := id C
  refine lv_iconst (v := -1) hx hb dX12_proves_46 (by decide) ?_
  exact zz_iret C rfl h hW dX12_proves_47
def n_X12_proves_0_b137 (F : Nat)  (S : Zs) (t0 : Int32) : Option (Int32 × Zs) :=
  some (t0, S)
set_option maxRecDepth 20000 in
set_option maxHeartbeats 4000000 in
theorem w_X12_proves_0_b137 {F : Nat} {q : (Int32 × Zs)} {S : Zs}  {t0 : Int32} {ls : Array Slot} {H : Heap} {locs : List Loc} (C : zC p s m args meth c cX12_proves 9 RX12 (some .int))  (h : n_X12_proves_0_b137 F  S t0 = some q) (hW : zW (mG D cs ad) s S H locs) (hl : lv_has ls 9 []) : W p l e (zR 5 112) s m args below meth c H locs 0 0 (zQi (mG D cs ad) q below args s) (F0 m 137 ls [.int t0]) := by
  unfold n_X12_proves_0_b137 at h
  obtain ⟨hx, hb, hml, hown, hts, hret, hlk⟩ := id C
  exact zz_iret C rfl h hW dX12_proves_137
def n_X12_proves_0_b114 (F : Nat)  (S : Zs) (x1 : Int32) (x5 : Int32) (t0 : Int32) : Option (Int32 × Zs) :=
  if t0 = 0 then (n_X12_proves_0_b137 F  S (-1 : Int32)) else (zcl (n_X12_formOfMood F S x1 (2 : Int32)) (fun v2 S1 => n_X12_proves_0_b137 F  S1 (((576 : Int32) * v2) + x5)))
set_option maxRecDepth 20000 in
set_option maxHeartbeats 4000000 in
theorem w_X12_proves_0_b114 {F : Nat} {q : (Int32 × Zs)} {S : Zs}  {x1 : Int32} {x5 : Int32} {t0 : Int32} {ls : Array Slot} {H : Heap} {locs : List Loc} (C : zC p s m args meth c cX12_proves 9 RX12 (some .int))  (h : n_X12_proves_0_b114 F  S x1 x5 t0 = some q) (hW : zW (mG D cs ad) s S H locs) (hl : lv_has ls 9 [(1, .int x1), (5, .int x5)]) : W p l e (zR 5 112) s m args below meth c H locs 0 0 (zQi (mG D cs ad) q below args s) (F0 m 114 ls [.int t0]) := by
  unfold n_X12_proves_0_b114 at h
  obtain ⟨hx, hb, hml, hown, hts, hret, hlk⟩ := id C
  refine lv_istore (lv' := [(8, .int t0), (1, .int x1), (5, .int x5)]) hx hb dX12_proves_114 hl (by decide) rfl (fun ls hl => ?_)
  refine lv_iload hx hb dX12_proves_116 (lv_at hl 0 rfl) ?_
  refine zz_ieq (tgt := 136) C h dX12_proves_118 (by decide) (fun h => ?_) (fun h => ?_)
  · refine lv_iconst (v := -1) hx hb dX12_proves_136 (by decide) ?_
    exact w_X12_proves_0_b137 (F := F) C h hW (lv_sub hl [] rfl)
  · refine lv_sipush (v := 576) hx hb dX12_proves_121 (by decide) ?_
    refine lv_iload_n hx hb dX12_proves_124 rfl (lv_at hl 1 rfl) ?_
    refine lv_iconst (v := 2) hx hb dX12_proves_125 (by decide) ?_
    refine zz_callSi (As := [.int x1, .int (2 : Int32)]) C hW h (fun r hr => c_X12_formOfMood hr) lk_X12_357 rfl hl.1 ⟨rfl, rfl⟩ ⟨Nat.le_of_ble_eq_true rfl, Nat.le_of_ble_eq_true rfl⟩ (Nat.le_of_ble_eq_true rfl) ⟨Nat.zero_le _, Nat.zero_le _⟩ rfl dX12_proves_126 (fun v2 S1 H locs h hW => ?_)
    refine lv_imul hx hb dX12_proves_129 ?_
    refine lv_iload hx hb dX12_proves_130 (lv_at hl 2 rfl) ?_
    refine lv_iadd hx hb dX12_proves_132 ?_
    refine lv_goto (tgt := 137) hx hb dX12_proves_133 (by decide) ?_
    exact w_X12_proves_0_b137 (F := F) C h hW (lv_sub hl [] rfl)
def n_X12_proves_0_b109 (F : Nat)  (S : Zs) (x1 : Int32) (x5 : Int32) : Option (Int32 × Zs) :=
  n_X12_proves_0_b114 F  S x1 x5 (1 : Int32)
set_option maxRecDepth 20000 in
set_option maxHeartbeats 4000000 in
theorem w_X12_proves_0_b109 {F : Nat} {q : (Int32 × Zs)} {S : Zs}  {x1 : Int32} {x5 : Int32} {ls : Array Slot} {H : Heap} {locs : List Loc} (C : zC p s m args meth c cX12_proves 9 RX12 (some .int))  (h : n_X12_proves_0_b109 F  S x1 x5 = some q) (hW : zW (mG D cs ad) s S H locs) (hl : lv_has ls 9 [(1, .int x1), (5, .int x5)]) : W p l e (zR 5 112) s m args below meth c H locs 0 0 (zQi (mG D cs ad) q below args s) (F0 m 109 ls []) := by
  unfold n_X12_proves_0_b109 at h
  obtain ⟨hx, hb, hml, hown, hts, hret, hlk⟩ := id C
  refine lv_iconst (v := 1) hx hb dX12_proves_109 (by decide) ?_
  refine lv_goto (tgt := 114) hx hb dX12_proves_110 (by decide) ?_
  exact w_X12_proves_0_b114 (F := F) C h hW (lv_sub hl [0, 1] rfl)
def n_X12_proves_0_b87 (F : Nat)  (S : Zs) (x1 : Int32) (x4 : Int32) (x5 : Int32) (t0 : Int32) : Option (Int32 × Zs) :=
  if x1 < (15 : Int32) then (n_X12_proves_0_b109 F  S x1 x5) else (if x4 = 0 then (n_X12_proves_0_b109 F  S x1 x5) else (zcl (n_X12_isLiving_0 F S t0) (fun v2 S1 => if v2 = 0 then (n_X12_proves_0_b114 F  S1 x1 x5 (0 : Int32)) else (n_X12_proves_0_b109 F  S1 x1 x5))))
set_option maxRecDepth 20000 in
set_option maxHeartbeats 4000000 in
theorem w_X12_proves_0_b87 {F : Nat} {q : (Int32 × Zs)} {S : Zs}  {x1 : Int32} {x4 : Int32} {x5 : Int32} {t0 : Int32} {ls : Array Slot} {H : Heap} {locs : List Loc} (C : zC p s m args meth c cX12_proves 9 RX12 (some .int))  (h : n_X12_proves_0_b87 F  S x1 x4 x5 t0 = some q) (hW : zW (mG D cs ad) s S H locs) (hl : lv_has ls 9 [(0, .ref (ad 0)), (1, .int x1), (4, .int x4), (5, .int x5)]) : W p l e (zR 5 112) s m args below meth c H locs 0 0 (zQi (mG D cs ad) q below args s) (F0 m 87 ls [.int t0]) := by
  unfold n_X12_proves_0_b87 at h
  obtain ⟨hx, hb, hml, hown, hts, hret, hlk⟩ := id C
  refine lv_istore (lv' := [(7, .int t0), (0, .ref (ad 0)), (1, .int x1), (4, .int x4), (5, .int x5)]) hx hb dX12_proves_87 hl (by decide) rfl (fun ls hl => ?_)
  refine lv_iload_n hx hb dX12_proves_89 rfl (lv_at hl 2 rfl) ?_
  refine lv_bipush (v := 15) hx hb dX12_proves_90 (by decide) ?_
  refine zz_clt (tgt := 109) C h dX12_proves_92 (by decide) (fun h => ?_) (fun h => ?_)
  · exact w_X12_proves_0_b109 (F := F) C h hW (lv_sub hl [2, 4] rfl)
  · refine lv_iload hx hb dX12_proves_95 (lv_at hl 3 rfl) ?_
    refine zz_ieq (tgt := 109) C h dX12_proves_97 (by decide) (fun h => ?_) (fun h => ?_)
    · exact w_X12_proves_0_b109 (F := F) C h hW (lv_sub hl [2, 4] rfl)
    · refine lv_aload_n hx hb dX12_proves_100 rfl (lv_at hl 1 rfl) ?_
      refine lv_iload hx hb dX12_proves_101 (lv_at hl 0 rfl) ?_
      refine zz_callVi (As := [.int t0]) C hW h (fun r hr => c_X12_isLiving_0 hr) lk_X12_360 (hW.recv mr_0) rfl hl.1 ⟨rfl, rfl⟩ ⟨Nat.le_of_ble_eq_true rfl, Nat.le_of_ble_eq_true rfl⟩ (Nat.le_of_ble_eq_true rfl) ⟨Nat.zero_le _, Nat.zero_le _⟩ rfl dX12_proves_103 (fun v2 S1 H locs h hW => ?_)
      refine zz_ieq (tgt := 113) C h dX12_proves_106 (by decide) (fun h => ?_) (fun h => ?_)
      · refine lv_iconst (v := 0) hx hb dX12_proves_113 (by decide) ?_
        exact w_X12_proves_0_b114 (F := F) C h hW (lv_sub hl [2, 4] rfl)
      · exact w_X12_proves_0_b109 (F := F) C h hW (lv_sub hl [2, 4] rfl)
def n_X12_proves_0_b69 (F : Nat)  (S : Zs) (x1 : Int32) (x4 : Int32) (x5 : Int32) (t0 : Int32) : Option (Int32 × Zs) :=
  if (18 : Int32) ≤ x1 then (n_X12_proves_0_b87 F  S x1 x4 x5 (x5 - x5 / (24 : Int32) * (24 : Int32))) else (n_X12_proves_0_b87 F  S x1 x4 x5 t0)
set_option maxRecDepth 20000 in
set_option maxHeartbeats 4000000 in
theorem w_X12_proves_0_b69 {F : Nat} {q : (Int32 × Zs)} {S : Zs}  {x1 : Int32} {x4 : Int32} {x5 : Int32} {t0 : Int32} {ls : Array Slot} {H : Heap} {locs : List Loc} (C : zC p s m args meth c cX12_proves 9 RX12 (some .int))  (h : n_X12_proves_0_b69 F  S x1 x4 x5 t0 = some q) (hW : zW (mG D cs ad) s S H locs) (hl : lv_has ls 9 [(0, .ref (ad 0)), (1, .int x1), (4, .int x4), (5, .int x5)]) : W p l e (zR 5 112) s m args below meth c H locs 0 0 (zQi (mG D cs ad) q below args s) (F0 m 69 ls [.int t0]) := by
  unfold n_X12_proves_0_b69 at h
  obtain ⟨hx, hb, hml, hown, hts, hret, hlk⟩ := id C
  refine lv_istore (lv' := [(6, .int t0), (0, .ref (ad 0)), (1, .int x1), (4, .int x4), (5, .int x5)]) hx hb dX12_proves_69 hl (by decide) rfl (fun ls hl => ?_)
  refine lv_iload_n hx hb dX12_proves_71 rfl (lv_at hl 2 rfl) ?_
  refine lv_bipush (v := 18) hx hb dX12_proves_72 (by decide) ?_
  refine zz_cge (tgt := 82) C h dX12_proves_74 (by decide) (fun h => ?_) (fun h => ?_)
  · refine lv_iload hx hb dX12_proves_82 (lv_at hl 4 rfl) ?_
    refine lv_bipush (v := 24) hx hb dX12_proves_84 (by decide) ?_
    refine lv_irem hx hb dX12_proves_86 (by decide) ?_
    exact w_X12_proves_0_b87 (F := F) C h hW (lv_sub hl [1, 2, 3, 4] rfl)
  · refine lv_iload hx hb dX12_proves_77 (lv_at hl 0 rfl) ?_
    refine lv_goto (tgt := 87) hx hb dX12_proves_79 (by decide) ?_
    exact w_X12_proves_0_b87 (F := F) C h hW (lv_sub hl [1, 2, 3, 4] rfl)
def n_X12_proves_0_e (F : Nat)  (S : Zs) (x1 : Int32) (x2 : Int32) (x3 : Int32) (x4 : Int32) : Option (Int32 × Zs) :=
  if (19 : Int32) ≤ x1 then (zcl (n_X12_formOf F S x2) (fun v2 S1 => zcl (n_X12_firstOf F S1 x2) (fun v4 S3 => zcl (n_X12_secondOf F S3 x2) (fun v6 S5 => if x1 = (19 : Int32) then (if v2 = (1 : Int32) then (n_X12_proves_0_b174 F  S5 v2 v4 v6) else (if v2 = (2 : Int32) then (n_X12_proves_0_b174 F  S5 v2 v4 v6) else (n_X12_proves_0_b187 F  S5 (-1 : Int32)))) else (if x1 = (20 : Int32) then (zcl (n_X12_codeOf F S5 (v2 ^^^ (1 : Int32)) v4 (v6 ^^^ (1 : Int32))) (fun v10 S9 => some (v10, S9))) else (if (2 : Int32) ≤ v2 then (n_X12_proves_0_b242 F  S5 ) else (if x4 = 0 then (n_X12_proves_0_b228 F  S5 v2 v4 v6) else (zcl (n_X12_isLiving_0 F S5 v4) (fun v8 S7 => if v8 = 0 then (n_X12_proves_0_b242 F  S7 ) else (n_X12_proves_0_b228 F  S7 v2 v4 v6)))))))))) else (zcl (n_X12_figureOf F S x1) (fun v12 S11 => zcl (n_X12_concludes F S11 v12 x2 x3) (fun v14 S13 => if v14 < 0 then (n_X12_proves_0_b46 F  S13 ) else (zcl (n_X12_formOf F S13 x2) (fun v16 S15 => zcl (n_X12_formOfMood F S15 x1 (0 : Int32)) (fun v18 S17 => if v16 = v18 then (zcl (n_X12_formOf F S17 x3) (fun v20 S19 => zcl (n_X12_formOfMood F S19 x1 (1 : Int32)) (fun v22 S21 => if v20 = v22 then (zcl (n_X12_figureOf F S21 x1) (fun v24 S23 => if (v24 - v24 / (2 : Int32) * (2 : Int32)) = (1 : Int32) then (zcl (n_X12_firstOf F S23 x2) (fun v28 S27 => n_X12_proves_0_b69 F  S27 x1 x4 v14 v28)) else (zcl (n_X12_secondOf F S23 x2) (fun v26 S25 => n_X12_proves_0_b69 F  S25 x1 x4 v14 v26)))) else (n_X12_proves_0_b46 F  S21 )))) else (n_X12_proves_0_b46 F  S17 )))))))
set_option maxRecDepth 20000 in
set_option maxHeartbeats 4000000 in
theorem w_X12_proves_0_e {F : Nat} {q : (Int32 × Zs)} {S : Zs}  {x1 : Int32} {x2 : Int32} {x3 : Int32} {x4 : Int32} {ls : Array Slot} {H : Heap} {locs : List Loc} (C : zC p s m args meth c cX12_proves 9 RX12 (some .int))  (h : n_X12_proves_0_e F  S x1 x2 x3 x4 = some q) (hW : zW (mG D cs ad) s S H locs) (hl : lv_has ls 9 [(0, .ref (ad 0)), (1, .int x1), (2, .int x2), (3, .int x3), (4, .int x4)]) : W p l e (zR 5 112) s m args below meth c H locs 0 0 (zQi (mG D cs ad) q below args s) (F0 m 0 ls []) := by
  unfold n_X12_proves_0_e at h
  obtain ⟨hx, hb, hml, hown, hts, hret, hlk⟩ := id C
  refine lv_iload_n hx hb dX12_proves_0 rfl (lv_at hl 1 rfl) ?_
  refine lv_bipush (v := 19) hx hb dX12_proves_1 (by decide) ?_
  refine zz_cge (tgt := 138) C h dX12_proves_3 (by decide) (fun h => ?_) (fun h => ?_)
  · refine lv_iload_n hx hb dX12_proves_138 rfl (lv_at hl 2 rfl) ?_
    refine zz_callSi (As := [.int x2]) C hW h (fun r hr => c_X12_formOf hr) lk_X12_20 rfl hl.1 ⟨rfl, rfl⟩ ⟨Nat.le_of_ble_eq_true rfl, Nat.le_of_ble_eq_true rfl⟩ (Nat.le_of_ble_eq_true rfl) ⟨Nat.zero_le _, Nat.zero_le _⟩ rfl dX12_proves_139 (fun v2 S1 H locs h hW => ?_)
    refine lv_istore (lv' := [(5, .int v2), (0, .ref (ad 0)), (1, .int x1), (2, .int x2), (3, .int x3), (4, .int x4)]) hx hb dX12_proves_142 hl (by decide) rfl (fun ls hl => ?_)
    refine lv_iload_n hx hb dX12_proves_144 rfl (lv_at hl 3 rfl) ?_
    refine zz_callSi (As := [.int x2]) C hW h (fun r hr => c_X12_firstOf hr) lk_X12_24 rfl hl.1 ⟨rfl, rfl⟩ ⟨Nat.le_of_ble_eq_true rfl, Nat.le_of_ble_eq_true rfl⟩ (Nat.le_of_ble_eq_true rfl) ⟨Nat.zero_le _, Nat.zero_le _⟩ rfl dX12_proves_145 (fun v4 S3 H locs h hW => ?_)
    refine lv_istore (lv' := [(6, .int v4), (5, .int v2), (0, .ref (ad 0)), (1, .int x1), (2, .int x2), (3, .int x3), (4, .int x4)]) hx hb dX12_proves_148 hl (by decide) rfl (fun ls hl => ?_)
    refine lv_iload_n hx hb dX12_proves_150 rfl (lv_at hl 4 rfl) ?_
    refine zz_callSi (As := [.int x2]) C hW h (fun r hr => c_X12_secondOf hr) lk_X12_27 rfl hl.1 ⟨rfl, rfl⟩ ⟨Nat.le_of_ble_eq_true rfl, Nat.le_of_ble_eq_true rfl⟩ (Nat.le_of_ble_eq_true rfl) ⟨Nat.zero_le _, Nat.zero_le _⟩ rfl dX12_proves_151 (fun v6 S5 H locs h hW => ?_)
    refine lv_istore (lv' := [(7, .int v6), (6, .int v4), (5, .int v2), (0, .ref (ad 0)), (1, .int x1), (2, .int x2), (3, .int x3), (4, .int x4)]) hx hb dX12_proves_154 hl (by decide) rfl (fun ls hl => ?_)
    refine lv_iload_n hx hb dX12_proves_156 rfl (lv_at hl 4 rfl) ?_
    refine lv_bipush (v := 19) hx hb dX12_proves_157 (by decide) ?_
    refine zz_cne (tgt := 188) C h dX12_proves_159 (by decide) (fun h => ?_) (fun h => ?_)
    · refine lv_iload_n hx hb dX12_proves_188 rfl (lv_at hl 4 rfl) ?_
      refine lv_bipush (v := 20) hx hb dX12_proves_189 (by decide) ?_
      refine zz_cne (tgt := 208) C h dX12_proves_191 (by decide) (fun h => ?_) (fun h => ?_)
      · refine lv_iload hx hb dX12_proves_208 (lv_at hl 2 rfl) ?_
        refine lv_iconst (v := 2) hx hb dX12_proves_210 (by decide) ?_
        refine zz_cge (tgt := 242) C h dX12_proves_211 (by decide) (fun h => ?_) (fun h => ?_)
        · exact w_X12_proves_0_b242 (F := F) C h hW (lv_sub hl [] rfl)
        · refine lv_iload hx hb dX12_proves_214 (lv_at hl 7 rfl) ?_
          refine zz_ieq (tgt := 228) C h dX12_proves_216 (by decide) (fun h => ?_) (fun h => ?_)
          · exact w_X12_proves_0_b228 (F := F) C h hW (lv_sub hl [2, 1, 0] rfl)
          · refine lv_aload_n hx hb dX12_proves_219 rfl (lv_at hl 3 rfl) ?_
            refine lv_iload hx hb dX12_proves_220 (lv_at hl 1 rfl) ?_
            refine zz_callVi (As := [.int v4]) C hW h (fun r hr => c_X12_isLiving_0 hr) lk_X12_360 (hW.recv mr_0) rfl hl.1 ⟨rfl, rfl⟩ ⟨Nat.le_of_ble_eq_true rfl, Nat.le_of_ble_eq_true rfl⟩ (Nat.le_of_ble_eq_true rfl) ⟨Nat.zero_le _, Nat.zero_le _⟩ rfl dX12_proves_222 (fun v8 S7 H locs h hW => ?_)
            refine zz_ieq (tgt := 242) C h dX12_proves_225 (by decide) (fun h => ?_) (fun h => ?_)
            · exact w_X12_proves_0_b242 (F := F) C h hW (lv_sub hl [] rfl)
            · exact w_X12_proves_0_b228 (F := F) C h hW (lv_sub hl [2, 1, 0] rfl)
      · refine lv_iload hx hb dX12_proves_194 (lv_at hl 2 rfl) ?_
        refine lv_iconst (v := 1) hx hb dX12_proves_196 (by decide) ?_
        refine lv_ixor hx hb dX12_proves_197 ?_
        refine lv_iload hx hb dX12_proves_198 (lv_at hl 1 rfl) ?_
        refine lv_iload hx hb dX12_proves_200 (lv_at hl 0 rfl) ?_
        refine lv_iconst (v := 1) hx hb dX12_proves_202 (by decide) ?_
        refine lv_ixor hx hb dX12_proves_203 ?_
        refine zz_callSi (As := [.int (v2 ^^^ (1 : Int32)), .int v4, .int (v6 ^^^ (1 : Int32))]) C hW h (fun r hr => c_X12_codeOf hr) lk_X12_30 rfl hl.1 ⟨rfl, rfl⟩ ⟨Nat.le_of_ble_eq_true rfl, Nat.le_of_ble_eq_true rfl⟩ (Nat.le_of_ble_eq_true rfl) ⟨Nat.zero_le _, Nat.zero_le _⟩ rfl dX12_proves_204 (fun v10 S9 H locs h hW => ?_)
        exact zz_iret C rfl h hW dX12_proves_207
    · refine lv_iload hx hb dX12_proves_162 (lv_at hl 2 rfl) ?_
      refine lv_iconst (v := 1) hx hb dX12_proves_164 (by decide) ?_
      refine zz_ceq (tgt := 174) C h dX12_proves_165 (by decide) (fun h => ?_) (fun h => ?_)
      · exact w_X12_proves_0_b174 (F := F) C h hW (lv_sub hl [2, 1, 0] rfl)
      · refine lv_iload hx hb dX12_proves_168 (lv_at hl 2 rfl) ?_
        refine lv_iconst (v := 2) hx hb dX12_proves_170 (by decide) ?_
        refine zz_cne (tgt := 186) C h dX12_proves_171 (by decide) (fun h => ?_) (fun h => ?_)
        · refine lv_iconst (v := -1) hx hb dX12_proves_186 (by decide) ?_
          exact w_X12_proves_0_b187 (F := F) C h hW (lv_sub hl [] rfl)
        · exact w_X12_proves_0_b174 (F := F) C h hW (lv_sub hl [2, 1, 0] rfl)
  · refine lv_iload_n hx hb dX12_proves_6 rfl (lv_at hl 1 rfl) ?_
    refine zz_callSi (As := [.int x1]) C hW h (fun r hr => c_X12_figureOf hr) lk_X12_351 rfl hl.1 ⟨rfl, rfl⟩ ⟨Nat.le_of_ble_eq_true rfl, Nat.le_of_ble_eq_true rfl⟩ (Nat.le_of_ble_eq_true rfl) ⟨Nat.zero_le _, Nat.zero_le _⟩ rfl dX12_proves_7 (fun v12 S11 H locs h hW => ?_)
    refine lv_iload_n hx hb dX12_proves_10 rfl (lv_at hl 2 rfl) ?_
    refine lv_iload_n hx hb dX12_proves_11 rfl (lv_at hl 3 rfl) ?_
    refine zz_callSi (As := [.int v12, .int x2, .int x3]) C hW h (fun r hr => c_X12_concludes hr) lk_X12_354 rfl hl.1 ⟨rfl, rfl⟩ ⟨Nat.le_of_ble_eq_true rfl, Nat.le_of_ble_eq_true rfl⟩ (Nat.le_of_ble_eq_true rfl) ⟨Nat.zero_le _, Nat.zero_le _⟩ rfl dX12_proves_12 (fun v14 S13 H locs h hW => ?_)
    refine lv_istore (lv' := [(5, .int v14), (0, .ref (ad 0)), (1, .int x1), (2, .int x2), (3, .int x3), (4, .int x4)]) hx hb dX12_proves_15 hl (by decide) rfl (fun ls hl => ?_)
    refine lv_iload hx hb dX12_proves_17 (lv_at hl 0 rfl) ?_
    refine zz_ilt (tgt := 46) C h dX12_proves_19 (by decide) (fun h => ?_) (fun h => ?_)
    · exact w_X12_proves_0_b46 (F := F) C h hW (lv_sub hl [] rfl)
    · refine lv_iload_n hx hb dX12_proves_22 rfl (lv_at hl 3 rfl) ?_
      refine zz_callSi (As := [.int x2]) C hW h (fun r hr => c_X12_formOf hr) lk_X12_20 rfl hl.1 ⟨rfl, rfl⟩ ⟨Nat.le_of_ble_eq_true rfl, Nat.le_of_ble_eq_true rfl⟩ (Nat.le_of_ble_eq_true rfl) ⟨Nat.zero_le _, Nat.zero_le _⟩ rfl dX12_proves_23 (fun v16 S15 H locs h hW => ?_)
      refine lv_iload_n hx hb dX12_proves_26 rfl (lv_at hl 2 rfl) ?_
      refine lv_iconst (v := 0) hx hb dX12_proves_27 (by decide) ?_
      refine zz_callSi (As := [.int x1, .int (0 : Int32)]) C hW h (fun r hr => c_X12_formOfMood hr) lk_X12_357 rfl hl.1 ⟨rfl, rfl⟩ ⟨Nat.le_of_ble_eq_true rfl, Nat.le_of_ble_eq_true rfl⟩ (Nat.le_of_ble_eq_true rfl) ⟨Nat.zero_le _, Nat.zero_le _⟩ rfl dX12_proves_28 (fun v18 S17 H locs h hW => ?_)
      refine zz_cne (tgt := 46) C h dX12_proves_31 (by decide) (fun h => ?_) (fun h => ?_)
      · exact w_X12_proves_0_b46 (F := F) C h hW (lv_sub hl [] rfl)
      · refine lv_iload_n hx hb dX12_proves_34 rfl (lv_at hl 4 rfl) ?_
        refine zz_callSi (As := [.int x3]) C hW h (fun r hr => c_X12_formOf hr) lk_X12_20 rfl hl.1 ⟨rfl, rfl⟩ ⟨Nat.le_of_ble_eq_true rfl, Nat.le_of_ble_eq_true rfl⟩ (Nat.le_of_ble_eq_true rfl) ⟨Nat.zero_le _, Nat.zero_le _⟩ rfl dX12_proves_35 (fun v20 S19 H locs h hW => ?_)
        refine lv_iload_n hx hb dX12_proves_38 rfl (lv_at hl 2 rfl) ?_
        refine lv_iconst (v := 1) hx hb dX12_proves_39 (by decide) ?_
        refine zz_callSi (As := [.int x1, .int (1 : Int32)]) C hW h (fun r hr => c_X12_formOfMood hr) lk_X12_357 rfl hl.1 ⟨rfl, rfl⟩ ⟨Nat.le_of_ble_eq_true rfl, Nat.le_of_ble_eq_true rfl⟩ (Nat.le_of_ble_eq_true rfl) ⟨Nat.zero_le _, Nat.zero_le _⟩ rfl dX12_proves_40 (fun v22 S21 H locs h hW => ?_)
        refine zz_ceq (tgt := 48) C h dX12_proves_43 (by decide) (fun h => ?_) (fun h => ?_)
        · refine lv_iload_n hx hb dX12_proves_48 rfl (lv_at hl 2 rfl) ?_
          refine zz_callSi (As := [.int x1]) C hW h (fun r hr => c_X12_figureOf hr) lk_X12_351 rfl hl.1 ⟨rfl, rfl⟩ ⟨Nat.le_of_ble_eq_true rfl, Nat.le_of_ble_eq_true rfl⟩ (Nat.le_of_ble_eq_true rfl) ⟨Nat.zero_le _, Nat.zero_le _⟩ rfl dX12_proves_49 (fun v24 S23 H locs h hW => ?_)
          refine lv_iconst (v := 2) hx hb dX12_proves_52 (by decide) ?_
          refine lv_irem hx hb dX12_proves_53 (by decide) ?_
          refine lv_iconst (v := 1) hx hb dX12_proves_54 (by decide) ?_
          refine zz_cne (tgt := 65) C h dX12_proves_55 (by decide) (fun h => ?_) (fun h => ?_)
          · refine lv_iload_n hx hb dX12_proves_65 rfl (lv_at hl 3 rfl) ?_
            refine zz_callSi (As := [.int x2]) C hW h (fun r hr => c_X12_secondOf hr) lk_X12_27 rfl hl.1 ⟨rfl, rfl⟩ ⟨Nat.le_of_ble_eq_true rfl, Nat.le_of_ble_eq_true rfl⟩ (Nat.le_of_ble_eq_true rfl) ⟨Nat.zero_le _, Nat.zero_le _⟩ rfl dX12_proves_66 (fun v26 S25 H locs h hW => ?_)
            exact w_X12_proves_0_b69 (F := F) C h hW (lv_sub hl [1, 2, 5, 0] rfl)
          · refine lv_iload_n hx hb dX12_proves_58 rfl (lv_at hl 3 rfl) ?_
            refine zz_callSi (As := [.int x2]) C hW h (fun r hr => c_X12_firstOf hr) lk_X12_24 rfl hl.1 ⟨rfl, rfl⟩ ⟨Nat.le_of_ble_eq_true rfl, Nat.le_of_ble_eq_true rfl⟩ (Nat.le_of_ble_eq_true rfl) ⟨Nat.zero_le _, Nat.zero_le _⟩ rfl dX12_proves_59 (fun v28 S27 H locs h hW => ?_)
            refine lv_goto (tgt := 69) hx hb dX12_proves_62 (by decide) ?_
            exact w_X12_proves_0_b69 (F := F) C h hW (lv_sub hl [1, 2, 5, 0] rfl)
        · exact w_X12_proves_0_b46 (F := F) C h hW (lv_sub hl [] rfl)
def n_X12_proves_0 (F : Nat) (S : Zs) (x1 : Int32) (x2 : Int32) (x3 : Int32) (x4 : Int32) : Option (Int32 × Zs) := n_X12_proves_0_e F  S x1 x2 x3 x4
theorem c_X12_proves_0 {l : Launch} {D : va_G} {cs ad : Nat → Nat} {F : Nat} {S : Zs} {x1 : Int32} {x2 : Int32} {x3 : Int32} {x4 : Int32} {q : (Int32 × Zs)} (h : n_X12_proves_0 F S x1 x2 x3 x4 = some q) : zMi l yX12_proves cX12_proves 9 (some .int) (zR 5 112) (mG D cs ad) [.ref (ad 0), .int x1, .int x2, .int x3, .int x4] S q :=
  zz_enter (by decide) (Nat.le_of_ble_eq_true rfl) (fun p e s m below meth c ls C hW hl => w_X12_proves_0_e (F := F) C h hW (lv_sub hl [0, 1, 2, 3, 4] rfl))
def n_X12_step_0_b45 (F : Nat)  (S : Zs)  : Option (Int32 × Zs) :=
  some ((-1 : Int32), S)
set_option maxRecDepth 20000 in
set_option maxHeartbeats 4000000 in
theorem w_X12_step_0_b45 {F : Nat} {q : (Int32 × Zs)} {S : Zs}   {ls : Array Slot} {H : Heap} {locs : List Loc} (C : zC p s m args meth c cX12_step 5 RX12 (some .int))  (h : n_X12_step_0_b45 F  S  = some q) (hW : zW (mG D cs ad) s S H locs) (hl : lv_has ls 5 []) : W p l e (zR 6 140) s m args below meth c H locs 0 0 (zQi (mG D cs ad) q below args s) (F0 m 45 ls []) := by
  unfold n_X12_step_0_b45 at h
  obtain ⟨hx, hb, hml, hown, hts, hret, hlk⟩ := id C
  refine lv_iconst (v := -1) hx hb dX12_step_45 (by decide) ?_
  exact zz_iret C rfl h hW dX12_step_46
def n_X12_step_0_b69 (F : Nat)  (S : Zs) (t0 : Int32) : Option (Int32 × Zs) :=
  some (t0, S)
set_option maxRecDepth 20000 in
set_option maxHeartbeats 4000000 in
theorem w_X12_step_0_b69 {F : Nat} {q : (Int32 × Zs)} {S : Zs}  {t0 : Int32} {ls : Array Slot} {H : Heap} {locs : List Loc} (C : zC p s m args meth c cX12_step 5 RX12 (some .int))  (h : n_X12_step_0_b69 F  S t0 = some q) (hW : zW (mG D cs ad) s S H locs) (hl : lv_has ls 5 []) : W p l e (zR 6 140) s m args below meth c H locs 0 0 (zQi (mG D cs ad) q below args s) (F0 m 69 ls [.int t0]) := by
  unfold n_X12_step_0_b69 at h
  obtain ⟨hx, hb, hml, hown, hts, hret, hlk⟩ := id C
  exact zz_iret C rfl h hW dX12_step_69
def n_X12_step_0_b47 (F : Nat)  (S : Zs) (x1 : Int32) (x2 : Int32) (x3 : Int32) : Option (Int32 × Zs) :=
  zcl (n_X12_proves_0 F S x1 x2 x3 (1 : Int32)) (fun v2 S1 => if 0 ≤ v2 then (n_X12_step_0_b69 F  S1 v2) else (n_X12_step_0_b69 F  S1 (-2 : Int32)))
set_option maxRecDepth 20000 in
set_option maxHeartbeats 4000000 in
theorem w_X12_step_0_b47 {F : Nat} {q : (Int32 × Zs)} {S : Zs}  {x1 : Int32} {x2 : Int32} {x3 : Int32} {ls : Array Slot} {H : Heap} {locs : List Loc} (C : zC p s m args meth c cX12_step 5 RX12 (some .int))  (h : n_X12_step_0_b47 F  S x1 x2 x3 = some q) (hW : zW (mG D cs ad) s S H locs) (hl : lv_has ls 5 [(0, .ref (ad 0)), (1, .int x1), (2, .int x2), (3, .int x3)]) : W p l e (zR 6 140) s m args below meth c H locs 0 0 (zQi (mG D cs ad) q below args s) (F0 m 47 ls []) := by
  unfold n_X12_step_0_b47 at h
  obtain ⟨hx, hb, hml, hown, hts, hret, hlk⟩ := id C
  refine lv_aload_n hx hb dX12_step_47 rfl (lv_at hl 0 rfl) ?_
  refine lv_iload_n hx hb dX12_step_48 rfl (lv_at hl 1 rfl) ?_
  refine lv_iload_n hx hb dX12_step_49 rfl (lv_at hl 2 rfl) ?_
  refine lv_iload_n hx hb dX12_step_50 rfl (lv_at hl 3 rfl) ?_
  refine lv_iconst (v := 1) hx hb dX12_step_51 (by decide) ?_
  refine zz_callVi (As := [.int x1, .int x2, .int x3, .int (1 : Int32)]) C hW h (fun r hr => c_X12_proves_0 hr) lk_X12_365 (hW.recv mr_0) rfl hl.1 ⟨rfl, rfl⟩ ⟨Nat.le_of_ble_eq_true rfl, Nat.le_of_ble_eq_true rfl⟩ (Nat.le_of_ble_eq_true rfl) ⟨Nat.zero_le _, Nat.zero_le _⟩ rfl dX12_step_52 (fun v2 S1 H locs h hW => ?_)
  refine lv_istore (lv' := [(4, .int v2), (0, .ref (ad 0)), (1, .int x1), (2, .int x2), (3, .int x3)]) hx hb dX12_step_55 hl (by decide) rfl (fun ls hl => ?_)
  refine lv_iload hx hb dX12_step_57 (lv_at hl 0 rfl) ?_
  refine zz_ige (tgt := 67) C h dX12_step_59 (by decide) (fun h => ?_) (fun h => ?_)
  · refine lv_iload hx hb dX12_step_67 (lv_at hl 0 rfl) ?_
    exact w_X12_step_0_b69 (F := F) C h hW (lv_sub hl [] rfl)
  · refine lv_bipush (v := -2) hx hb dX12_step_62 (by decide) ?_
    refine lv_goto (tgt := 69) hx hb dX12_step_64 (by decide) ?_
    exact w_X12_step_0_b69 (F := F) C h hW (lv_sub hl [] rfl)
def n_X12_step_0_e (F : Nat)  (S : Zs) (x1 : Int32) (x2 : Int32) (x3 : Int32) : Option (Int32 × Zs) :=
  zpf S 0 (0 : Int32) (fun S1 => zcl (n_X12_in F S1 (x1.toInt64) (0 : Int64) (21 : Int64)) (fun v3 S2 => if v3 = 0 then (n_X12_step_0_b45 F  S2 ) else (zcl (n_X12_isCode F S2 x2) (fun v5 S4 => if v5 = 0 then (n_X12_step_0_b45 F  S4 ) else (if (19 : Int32) ≤ x1 then (if x3 = (-1 : Int32) then (n_X12_step_0_b47 F  S4 x1 x2 x3) else (n_X12_step_0_b45 F  S4 )) else (zcl (n_X12_isCode F S4 x3) (fun v7 S6 => if v7 = 0 then (n_X12_step_0_b45 F  S6 ) else (n_X12_step_0_b47 F  S6 x1 x2 x3))))))))
set_option maxRecDepth 20000 in
set_option maxHeartbeats 4000000 in
theorem w_X12_step_0_e {F : Nat} {q : (Int32 × Zs)} {S : Zs}  {x1 : Int32} {x2 : Int32} {x3 : Int32} {ls : Array Slot} {H : Heap} {locs : List Loc} (C : zC p s m args meth c cX12_step 5 RX12 (some .int))  (h : n_X12_step_0_e F  S x1 x2 x3 = some q) (hW : zW (mG D cs ad) s S H locs) (hl : lv_has ls 5 [(0, .ref (ad 0)), (1, .int x1), (2, .int x2), (3, .int x3)]) : W p l e (zR 6 140) s m args below meth c H locs 0 0 (zQi (mG D cs ad) q below args s) (F0 m 0 ls []) := by
  unfold n_X12_step_0_e at h
  obtain ⟨hx, hb, hml, hown, hts, hret, hlk⟩ := id C
  refine lv_aload_n hx hb dX12_step_0 rfl (lv_at hl 0 rfl) ?_
  refine lv_iconst (v := 0) hx hb dX12_step_1 (by decide) ?_
  refine mp_0_0 C hW h fl_X12_3 dX12_step_2 (fun S1 H locs h hW => ?_)
  refine lv_iload_n hx hb dX12_step_5 rfl (lv_at hl 1 rfl) ?_
  refine lv_i2l hx hb dX12_step_6 rfl ?_
  refine lv_lconst (v := 0) hx hb dX12_step_7 (by decide) ?_
  refine lv_ldc2 (v := 21) hx hb hown (hts _ ct_X12_363) dX12_step_8 ?_
  refine zz_callSi (As := [.long (x1.toInt64), .long (0 : Int64), .long (21 : Int64)]) C hW h (fun r hr => c_X12_in hr) lk_X12_16 rfl hl.1 ⟨rfl, rfl⟩ ⟨Nat.le_of_ble_eq_true rfl, Nat.le_of_ble_eq_true rfl⟩ (Nat.le_of_ble_eq_true rfl) ⟨Nat.zero_le _, Nat.zero_le _⟩ rfl dX12_step_11 (fun v3 S2 H locs h hW => ?_)
  refine zz_ieq (tgt := 45) C h dX12_step_14 (by decide) (fun h => ?_) (fun h => ?_)
  · exact w_X12_step_0_b45 (F := F) C h hW (lv_sub hl [] rfl)
  · refine lv_iload_n hx hb dX12_step_17 rfl (lv_at hl 2 rfl) ?_
    refine zz_callSi (As := [.int x2]) C hW h (fun r hr => c_X12_isCode hr) lk_X12_142 rfl hl.1 ⟨rfl, rfl⟩ ⟨Nat.le_of_ble_eq_true rfl, Nat.le_of_ble_eq_true rfl⟩ (Nat.le_of_ble_eq_true rfl) ⟨Nat.zero_le _, Nat.zero_le _⟩ rfl dX12_step_18 (fun v5 S4 H locs h hW => ?_)
    refine zz_ieq (tgt := 45) C h dX12_step_21 (by decide) (fun h => ?_) (fun h => ?_)
    · exact w_X12_step_0_b45 (F := F) C h hW (lv_sub hl [] rfl)
    · refine lv_iload_n hx hb dX12_step_24 rfl (lv_at hl 1 rfl) ?_
      refine lv_bipush (v := 19) hx hb dX12_step_25 (by decide) ?_
      refine zz_cge (tgt := 40) C h dX12_step_27 (by decide) (fun h => ?_) (fun h => ?_)
      · refine lv_iload_n hx hb dX12_step_40 rfl (lv_at hl 3 rfl) ?_
        refine lv_iconst (v := -1) hx hb dX12_step_41 (by decide) ?_
        refine zz_ceq (tgt := 47) C h dX12_step_42 (by decide) (fun h => ?_) (fun h => ?_)
        · exact w_X12_step_0_b47 (F := F) C h hW (lv_sub hl [0, 1, 2, 3] rfl)
        · exact w_X12_step_0_b45 (F := F) C h hW (lv_sub hl [] rfl)
      · refine lv_iload_n hx hb dX12_step_30 rfl (lv_at hl 3 rfl) ?_
        refine zz_callSi (As := [.int x3]) C hW h (fun r hr => c_X12_isCode hr) lk_X12_142 rfl hl.1 ⟨rfl, rfl⟩ ⟨Nat.le_of_ble_eq_true rfl, Nat.le_of_ble_eq_true rfl⟩ (Nat.le_of_ble_eq_true rfl) ⟨Nat.zero_le _, Nat.zero_le _⟩ rfl dX12_step_31 (fun v7 S6 H locs h hW => ?_)
        refine zz_ine (tgt := 47) C h dX12_step_34 (by decide) (fun h => ?_) (fun h => ?_)
        · exact w_X12_step_0_b47 (F := F) C h hW (lv_sub hl [0, 1, 2, 3] rfl)
        · refine lv_goto (tgt := 45) hx hb dX12_step_37 (by decide) ?_
          exact w_X12_step_0_b45 (F := F) C h hW (lv_sub hl [] rfl)
def n_X12_step_0 (F : Nat) (S : Zs) (x1 : Int32) (x2 : Int32) (x3 : Int32) : Option (Int32 × Zs) := n_X12_step_0_e F  S x1 x2 x3
theorem c_X12_step_0 {l : Launch} {D : va_G} {cs ad : Nat → Nat} {F : Nat} {S : Zs} {x1 : Int32} {x2 : Int32} {x3 : Int32} {q : (Int32 × Zs)} (h : n_X12_step_0 F S x1 x2 x3 = some q) : zMi l yX12_step cX12_step 5 (some .int) (zR 6 140) (mG D cs ad) [.ref (ad 0), .int x1, .int x2, .int x3] S q :=
  zz_enter (by decide) (Nat.le_of_ble_eq_true rfl) (fun p e s m below meth c ls C hW hl => w_X12_step_0_e (F := F) C h hW (lv_sub hl [0, 1, 2, 3] rfl))
def n_X12_majorCode_b33 (F : Nat)  (S : Zs) (t0 : Int32) : Option (Int32 × Zs) :=
  some (t0, S)
set_option maxRecDepth 20000 in
set_option maxHeartbeats 4000000 in
theorem w_X12_majorCode_b33 {F : Nat} {q : (Int32 × Zs)} {S : Zs}  {t0 : Int32} {ls : Array Slot} {H : Heap} {locs : List Loc} (C : zC p s m args meth c cX12_majorCode 3 RX12 (some .int))  (h : n_X12_majorCode_b33 F  S t0 = some q) (hW : zW (mG D cs ad) s S H locs) (hl : lv_has ls 3 []) : W p l e (zR 5 112) s m args below meth c H locs 0 0 (zQi (mG D cs ad) q below args s) (F0 m 33 ls [.int t0]) := by
  unfold n_X12_majorCode_b33 at h
  obtain ⟨hx, hb, hml, hown, hts, hret, hlk⟩ := id C
  exact zz_iret C rfl h hW dX12_majorCode_33
def n_X12_majorCode_e (F : Nat)  (S : Zs) (x0 : Int32) (x1 : Int32) (x2 : Int32) : Option (Int32 × Zs) :=
  zcl (n_X12_figureOf F S x0) (fun v2 S1 => if (v2 - v2 / (2 : Int32) * (2 : Int32)) = (1 : Int32) then (zcl (n_X12_formOfMood F S1 x0 (0 : Int32)) (fun v8 S7 => zcl (n_X12_codeOf F S7 v8 x2 x1) (fun v10 S9 => n_X12_majorCode_b33 F  S9 v10))) else (zcl (n_X12_formOfMood F S1 x0 (0 : Int32)) (fun v4 S3 => zcl (n_X12_codeOf F S3 v4 x1 x2) (fun v6 S5 => n_X12_majorCode_b33 F  S5 v6))))
set_option maxRecDepth 20000 in
set_option maxHeartbeats 4000000 in
theorem w_X12_majorCode_e {F : Nat} {q : (Int32 × Zs)} {S : Zs}  {x0 : Int32} {x1 : Int32} {x2 : Int32} {ls : Array Slot} {H : Heap} {locs : List Loc} (C : zC p s m args meth c cX12_majorCode 3 RX12 (some .int))  (h : n_X12_majorCode_e F  S x0 x1 x2 = some q) (hW : zW (mG D cs ad) s S H locs) (hl : lv_has ls 3 [(0, .int x0), (1, .int x1), (2, .int x2)]) : W p l e (zR 5 112) s m args below meth c H locs 0 0 (zQi (mG D cs ad) q below args s) (F0 m 0 ls []) := by
  unfold n_X12_majorCode_e at h
  obtain ⟨hx, hb, hml, hown, hts, hret, hlk⟩ := id C
  refine lv_iload_n hx hb dX12_majorCode_0 rfl (lv_at hl 0 rfl) ?_
  refine zz_callSi (As := [.int x0]) C hW h (fun r hr => c_X12_figureOf hr) lk_X12_351 rfl hl.1 ⟨rfl, rfl⟩ ⟨Nat.le_of_ble_eq_true rfl, Nat.le_of_ble_eq_true rfl⟩ (Nat.le_of_ble_eq_true rfl) ⟨Nat.zero_le _, Nat.zero_le _⟩ rfl dX12_majorCode_1 (fun v2 S1 H locs h hW => ?_)
  refine lv_iconst (v := 2) hx hb dX12_majorCode_4 (by decide) ?_
  refine lv_irem hx hb dX12_majorCode_5 (by decide) ?_
  refine lv_iconst (v := 1) hx hb dX12_majorCode_6 (by decide) ?_
  refine zz_cne (tgt := 23) C h dX12_majorCode_7 (by decide) (fun h => ?_) (fun h => ?_)
  · refine lv_iload_n hx hb dX12_majorCode_23 rfl (lv_at hl 0 rfl) ?_
    refine lv_iconst (v := 0) hx hb dX12_majorCode_24 (by decide) ?_
    refine zz_callSi (As := [.int x0, .int (0 : Int32)]) C hW h (fun r hr => c_X12_formOfMood hr) lk_X12_357 rfl hl.1 ⟨rfl, rfl⟩ ⟨Nat.le_of_ble_eq_true rfl, Nat.le_of_ble_eq_true rfl⟩ (Nat.le_of_ble_eq_true rfl) ⟨Nat.zero_le _, Nat.zero_le _⟩ rfl dX12_majorCode_25 (fun v4 S3 H locs h hW => ?_)
    refine lv_iload_n hx hb dX12_majorCode_28 rfl (lv_at hl 1 rfl) ?_
    refine lv_iload_n hx hb dX12_majorCode_29 rfl (lv_at hl 2 rfl) ?_
    refine zz_callSi (As := [.int v4, .int x1, .int x2]) C hW h (fun r hr => c_X12_codeOf hr) lk_X12_30 rfl hl.1 ⟨rfl, rfl⟩ ⟨Nat.le_of_ble_eq_true rfl, Nat.le_of_ble_eq_true rfl⟩ (Nat.le_of_ble_eq_true rfl) ⟨Nat.zero_le _, Nat.zero_le _⟩ rfl dX12_majorCode_30 (fun v6 S5 H locs h hW => ?_)
    exact w_X12_majorCode_b33 (F := F) C h hW (lv_sub hl [] rfl)
  · refine lv_iload_n hx hb dX12_majorCode_10 rfl (lv_at hl 0 rfl) ?_
    refine lv_iconst (v := 0) hx hb dX12_majorCode_11 (by decide) ?_
    refine zz_callSi (As := [.int x0, .int (0 : Int32)]) C hW h (fun r hr => c_X12_formOfMood hr) lk_X12_357 rfl hl.1 ⟨rfl, rfl⟩ ⟨Nat.le_of_ble_eq_true rfl, Nat.le_of_ble_eq_true rfl⟩ (Nat.le_of_ble_eq_true rfl) ⟨Nat.zero_le _, Nat.zero_le _⟩ rfl dX12_majorCode_12 (fun v8 S7 H locs h hW => ?_)
    refine lv_iload_n hx hb dX12_majorCode_15 rfl (lv_at hl 2 rfl) ?_
    refine lv_iload_n hx hb dX12_majorCode_16 rfl (lv_at hl 1 rfl) ?_
    refine zz_callSi (As := [.int v8, .int x2, .int x1]) C hW h (fun r hr => c_X12_codeOf hr) lk_X12_30 rfl hl.1 ⟨rfl, rfl⟩ ⟨Nat.le_of_ble_eq_true rfl, Nat.le_of_ble_eq_true rfl⟩ (Nat.le_of_ble_eq_true rfl) ⟨Nat.zero_le _, Nat.zero_le _⟩ rfl dX12_majorCode_17 (fun v10 S9 H locs h hW => ?_)
    refine lv_goto (tgt := 33) hx hb dX12_majorCode_20 (by decide) ?_
    exact w_X12_majorCode_b33 (F := F) C h hW (lv_sub hl [] rfl)
def n_X12_majorCode (F : Nat) (S : Zs) (x0 : Int32) (x1 : Int32) (x2 : Int32) : Option (Int32 × Zs) := n_X12_majorCode_e F  S x0 x1 x2
theorem c_X12_majorCode {l : Launch} {D : va_G} {cs ad : Nat → Nat} {F : Nat} {S : Zs} {x0 : Int32} {x1 : Int32} {x2 : Int32} {q : (Int32 × Zs)} (h : n_X12_majorCode F S x0 x1 x2 = some q) : zMi l yX12_majorCode cX12_majorCode 3 (some .int) (zR 5 112) (mG D cs ad) [.int x0, .int x1, .int x2] S q :=
  zz_enter (by decide) (Nat.le_of_ble_eq_true rfl) (fun p e s m below meth c ls C hW hl => w_X12_majorCode_e (F := F) C h hW (lv_sub hl [0, 1, 2] rfl))
def n_X12_minorCode_b31 (F : Nat)  (S : Zs) (t0 : Int32) : Option (Int32 × Zs) :=
  some (t0, S)
set_option maxRecDepth 20000 in
set_option maxHeartbeats 4000000 in
theorem w_X12_minorCode_b31 {F : Nat} {q : (Int32 × Zs)} {S : Zs}  {t0 : Int32} {ls : Array Slot} {H : Heap} {locs : List Loc} (C : zC p s m args meth c cX12_minorCode 3 RX12 (some .int))  (h : n_X12_minorCode_b31 F  S t0 = some q) (hW : zW (mG D cs ad) s S H locs) (hl : lv_has ls 3 []) : W p l e (zR 5 112) s m args below meth c H locs 0 0 (zQi (mG D cs ad) q below args s) (F0 m 31 ls [.int t0]) := by
  unfold n_X12_minorCode_b31 at h
  obtain ⟨hx, hb, hml, hown, hts, hret, hlk⟩ := id C
  exact zz_iret C rfl h hW dX12_minorCode_31
def n_X12_minorCode_e (F : Nat)  (S : Zs) (x0 : Int32) (x1 : Int32) (x2 : Int32) : Option (Int32 × Zs) :=
  zcl (n_X12_figureOf F S x0) (fun v2 S1 => if (3 : Int32) ≤ v2 then (zcl (n_X12_formOfMood F S1 x0 (1 : Int32)) (fun v4 S3 => zcl (n_X12_codeOf F S3 v4 x2 x1) (fun v6 S5 => n_X12_minorCode_b31 F  S5 v6))) else (zcl (n_X12_formOfMood F S1 x0 (1 : Int32)) (fun v8 S7 => zcl (n_X12_codeOf F S7 v8 x1 x2) (fun v10 S9 => n_X12_minorCode_b31 F  S9 v10))))
set_option maxRecDepth 20000 in
set_option maxHeartbeats 4000000 in
theorem w_X12_minorCode_e {F : Nat} {q : (Int32 × Zs)} {S : Zs}  {x0 : Int32} {x1 : Int32} {x2 : Int32} {ls : Array Slot} {H : Heap} {locs : List Loc} (C : zC p s m args meth c cX12_minorCode 3 RX12 (some .int))  (h : n_X12_minorCode_e F  S x0 x1 x2 = some q) (hW : zW (mG D cs ad) s S H locs) (hl : lv_has ls 3 [(0, .int x0), (1, .int x1), (2, .int x2)]) : W p l e (zR 5 112) s m args below meth c H locs 0 0 (zQi (mG D cs ad) q below args s) (F0 m 0 ls []) := by
  unfold n_X12_minorCode_e at h
  obtain ⟨hx, hb, hml, hown, hts, hret, hlk⟩ := id C
  refine lv_iload_n hx hb dX12_minorCode_0 rfl (lv_at hl 0 rfl) ?_
  refine zz_callSi (As := [.int x0]) C hW h (fun r hr => c_X12_figureOf hr) lk_X12_351 rfl hl.1 ⟨rfl, rfl⟩ ⟨Nat.le_of_ble_eq_true rfl, Nat.le_of_ble_eq_true rfl⟩ (Nat.le_of_ble_eq_true rfl) ⟨Nat.zero_le _, Nat.zero_le _⟩ rfl dX12_minorCode_1 (fun v2 S1 H locs h hW => ?_)
  refine lv_iconst (v := 3) hx hb dX12_minorCode_4 (by decide) ?_
  refine zz_cge (tgt := 21) C h dX12_minorCode_5 (by decide) (fun h => ?_) (fun h => ?_)
  · refine lv_iload_n hx hb dX12_minorCode_21 rfl (lv_at hl 0 rfl) ?_
    refine lv_iconst (v := 1) hx hb dX12_minorCode_22 (by decide) ?_
    refine zz_callSi (As := [.int x0, .int (1 : Int32)]) C hW h (fun r hr => c_X12_formOfMood hr) lk_X12_357 rfl hl.1 ⟨rfl, rfl⟩ ⟨Nat.le_of_ble_eq_true rfl, Nat.le_of_ble_eq_true rfl⟩ (Nat.le_of_ble_eq_true rfl) ⟨Nat.zero_le _, Nat.zero_le _⟩ rfl dX12_minorCode_23 (fun v4 S3 H locs h hW => ?_)
    refine lv_iload_n hx hb dX12_minorCode_26 rfl (lv_at hl 2 rfl) ?_
    refine lv_iload_n hx hb dX12_minorCode_27 rfl (lv_at hl 1 rfl) ?_
    refine zz_callSi (As := [.int v4, .int x2, .int x1]) C hW h (fun r hr => c_X12_codeOf hr) lk_X12_30 rfl hl.1 ⟨rfl, rfl⟩ ⟨Nat.le_of_ble_eq_true rfl, Nat.le_of_ble_eq_true rfl⟩ (Nat.le_of_ble_eq_true rfl) ⟨Nat.zero_le _, Nat.zero_le _⟩ rfl dX12_minorCode_28 (fun v6 S5 H locs h hW => ?_)
    exact w_X12_minorCode_b31 (F := F) C h hW (lv_sub hl [] rfl)
  · refine lv_iload_n hx hb dX12_minorCode_8 rfl (lv_at hl 0 rfl) ?_
    refine lv_iconst (v := 1) hx hb dX12_minorCode_9 (by decide) ?_
    refine zz_callSi (As := [.int x0, .int (1 : Int32)]) C hW h (fun r hr => c_X12_formOfMood hr) lk_X12_357 rfl hl.1 ⟨rfl, rfl⟩ ⟨Nat.le_of_ble_eq_true rfl, Nat.le_of_ble_eq_true rfl⟩ (Nat.le_of_ble_eq_true rfl) ⟨Nat.zero_le _, Nat.zero_le _⟩ rfl dX12_minorCode_10 (fun v8 S7 H locs h hW => ?_)
    refine lv_iload_n hx hb dX12_minorCode_13 rfl (lv_at hl 1 rfl) ?_
    refine lv_iload_n hx hb dX12_minorCode_14 rfl (lv_at hl 2 rfl) ?_
    refine zz_callSi (As := [.int v8, .int x1, .int x2]) C hW h (fun r hr => c_X12_codeOf hr) lk_X12_30 rfl hl.1 ⟨rfl, rfl⟩ ⟨Nat.le_of_ble_eq_true rfl, Nat.le_of_ble_eq_true rfl⟩ (Nat.le_of_ble_eq_true rfl) ⟨Nat.zero_le _, Nat.zero_le _⟩ rfl dX12_minorCode_15 (fun v10 S9 H locs h hW => ?_)
    refine lv_goto (tgt := 31) hx hb dX12_minorCode_18 (by decide) ?_
    exact w_X12_minorCode_b31 (F := F) C h hW (lv_sub hl [] rfl)
def n_X12_minorCode (F : Nat) (S : Zs) (x0 : Int32) (x1 : Int32) (x2 : Int32) : Option (Int32 × Zs) := n_X12_minorCode_e F  S x0 x1 x2
theorem c_X12_minorCode {l : Launch} {D : va_G} {cs ad : Nat → Nat} {F : Nat} {S : Zs} {x0 : Int32} {x1 : Int32} {x2 : Int32} {q : (Int32 × Zs)} (h : n_X12_minorCode F S x0 x1 x2 = some q) : zMi l yX12_minorCode cX12_minorCode 3 (some .int) (zR 5 112) (mG D cs ad) [.int x0, .int x1, .int x2] S q :=
  zz_enter (by decide) (Nat.le_of_ble_eq_true rfl) (fun p e s m below meth c ls C hW hl => w_X12_minorCode_e (F := F) C h hW (lv_sub hl [0, 1, 2] rfl))
def n_X12_keepsBest_0_b88 (F : Nat)  (S : Zs)  : Option (Int32 × Zs) :=
  some (0, S)
set_option maxRecDepth 20000 in
set_option maxHeartbeats 4000000 in
theorem w_X12_keepsBest_0_b88 {F : Nat} {q : (Int32 × Zs)} {S : Zs}   {ls : Array Slot} {H : Heap} {locs : List Loc} (C : zC p s m args meth c cX12_keepsBest 6 RX12 none)  (h : n_X12_keepsBest_0_b88 F  S  = some q) (hW : zW (mG D cs ad) s S H locs) (hl : lv_has ls 6 []) : W p l e (zR 0 0) s m args below meth c H locs 0 0 (zQv (mG D cs ad) q below args s) (F0 m 88 ls []) := by
  unfold n_X12_keepsBest_0_b88 at h
  obtain ⟨hx, hb, hml, hown, hts, hret, hlk⟩ := id C
  exact zz_vret C rfl h hW dX12_keepsBest_88
def n_X12_keepsBest_0_b54 (F : Nat)  (S : Zs) (x1 : Int32) (x2 : Int32) (x3 : Int32) (x4 : Int32) (t0 : Int32) : Option (Int32 × Zs) :=
  if (1000000 : Int32) ≤ x2 then (n_X12_keepsBest_0_b88 F  S ) else (if t0 = 0 then (n_X12_keepsBest_0_b88 F  S ) else (zpf S 29 x2 (fun S1 => zpf S1 30 x1 (fun S2 => zpf S2 31 x3 (fun S3 => zpf S3 32 x4 (fun S4 => n_X12_keepsBest_0_b88 F  S4 ))))))
set_option maxRecDepth 20000 in
set_option maxHeartbeats 4000000 in
theorem w_X12_keepsBest_0_b54 {F : Nat} {q : (Int32 × Zs)} {S : Zs}  {x1 : Int32} {x2 : Int32} {x3 : Int32} {x4 : Int32} {t0 : Int32} {ls : Array Slot} {H : Heap} {locs : List Loc} (C : zC p s m args meth c cX12_keepsBest 6 RX12 none)  (h : n_X12_keepsBest_0_b54 F  S x1 x2 x3 x4 t0 = some q) (hW : zW (mG D cs ad) s S H locs) (hl : lv_has ls 6 [(0, .ref (ad 0)), (1, .int x1), (2, .int x2), (3, .int x3), (4, .int x4)]) : W p l e (zR 0 0) s m args below meth c H locs 0 0 (zQv (mG D cs ad) q below args s) (F0 m 54 ls [.int t0]) := by
  unfold n_X12_keepsBest_0_b54 at h
  obtain ⟨hx, hb, hml, hown, hts, hret, hlk⟩ := id C
  refine lv_istore (lv' := [(5, .int t0), (0, .ref (ad 0)), (1, .int x1), (2, .int x2), (3, .int x3), (4, .int x4)]) hx hb dX12_keepsBest_54 hl (by decide) rfl (fun ls hl => ?_)
  refine lv_iload_n hx hb dX12_keepsBest_56 rfl (lv_at hl 3 rfl) ?_
  refine lv_ldc (v := 1000000) hx hb hown (hts _ ct_X12_249) dX12_keepsBest_57 ?_
  refine zz_cge (tgt := 88) C h dX12_keepsBest_59 (by decide) (fun h => ?_) (fun h => ?_)
  · exact w_X12_keepsBest_0_b88 (F := F) C h hW (lv_sub hl [] rfl)
  · refine lv_iload hx hb dX12_keepsBest_62 (lv_at hl 0 rfl) ?_
    refine zz_ieq (tgt := 88) C h dX12_keepsBest_64 (by decide) (fun h => ?_) (fun h => ?_)
    · exact w_X12_keepsBest_0_b88 (F := F) C h hW (lv_sub hl [] rfl)
    · refine lv_aload_n hx hb dX12_keepsBest_67 rfl (lv_at hl 1 rfl) ?_
      refine lv_iload_n hx hb dX12_keepsBest_68 rfl (lv_at hl 3 rfl) ?_
      refine mp_0_29 C hW h fl_X12_369 dX12_keepsBest_69 (fun S1 H locs h hW => ?_)
      refine lv_aload_n hx hb dX12_keepsBest_72 rfl (lv_at hl 1 rfl) ?_
      refine lv_iload_n hx hb dX12_keepsBest_73 rfl (lv_at hl 2 rfl) ?_
      refine mp_0_30 C hW h fl_X12_372 dX12_keepsBest_74 (fun S2 H locs h hW => ?_)
      refine lv_aload_n hx hb dX12_keepsBest_77 rfl (lv_at hl 1 rfl) ?_
      refine lv_iload_n hx hb dX12_keepsBest_78 rfl (lv_at hl 4 rfl) ?_
      refine mp_0_31 C hW h fl_X12_375 dX12_keepsBest_79 (fun S3 H locs h hW => ?_)
      refine lv_aload_n hx hb dX12_keepsBest_82 rfl (lv_at hl 1 rfl) ?_
      refine lv_iload hx hb dX12_keepsBest_83 (lv_at hl 5 rfl) ?_
      refine mp_0_32 C hW h fl_X12_378 dX12_keepsBest_85 (fun S4 H locs h hW => ?_)
      exact w_X12_keepsBest_0_b88 (F := F) C h hW (lv_sub hl [] rfl)
def n_X12_keepsBest_0_b49 (F : Nat)  (S : Zs) (x1 : Int32) (x2 : Int32) (x3 : Int32) (x4 : Int32) : Option (Int32 × Zs) :=
  n_X12_keepsBest_0_b54 F  S x1 x2 x3 x4 (1 : Int32)
set_option maxRecDepth 20000 in
set_option maxHeartbeats 4000000 in
theorem w_X12_keepsBest_0_b49 {F : Nat} {q : (Int32 × Zs)} {S : Zs}  {x1 : Int32} {x2 : Int32} {x3 : Int32} {x4 : Int32} {ls : Array Slot} {H : Heap} {locs : List Loc} (C : zC p s m args meth c cX12_keepsBest 6 RX12 none)  (h : n_X12_keepsBest_0_b49 F  S x1 x2 x3 x4 = some q) (hW : zW (mG D cs ad) s S H locs) (hl : lv_has ls 6 [(0, .ref (ad 0)), (1, .int x1), (2, .int x2), (3, .int x3), (4, .int x4)]) : W p l e (zR 0 0) s m args below meth c H locs 0 0 (zQv (mG D cs ad) q below args s) (F0 m 49 ls []) := by
  unfold n_X12_keepsBest_0_b49 at h
  obtain ⟨hx, hb, hml, hown, hts, hret, hlk⟩ := id C
  refine lv_iconst (v := 1) hx hb dX12_keepsBest_49 (by decide) ?_
  refine lv_goto (tgt := 54) hx hb dX12_keepsBest_50 (by decide) ?_
  exact w_X12_keepsBest_0_b54 (F := F) C h hW (lv_sub hl [0, 1, 2, 3, 4] rfl)
def n_X12_keepsBest_0_b53 (F : Nat)  (S : Zs) (x1 : Int32) (x2 : Int32) (x3 : Int32) (x4 : Int32) : Option (Int32 × Zs) :=
  n_X12_keepsBest_0_b54 F  S x1 x2 x3 x4 (0 : Int32)
set_option maxRecDepth 20000 in
set_option maxHeartbeats 4000000 in
theorem w_X12_keepsBest_0_b53 {F : Nat} {q : (Int32 × Zs)} {S : Zs}  {x1 : Int32} {x2 : Int32} {x3 : Int32} {x4 : Int32} {ls : Array Slot} {H : Heap} {locs : List Loc} (C : zC p s m args meth c cX12_keepsBest 6 RX12 none)  (h : n_X12_keepsBest_0_b53 F  S x1 x2 x3 x4 = some q) (hW : zW (mG D cs ad) s S H locs) (hl : lv_has ls 6 [(0, .ref (ad 0)), (1, .int x1), (2, .int x2), (3, .int x3), (4, .int x4)]) : W p l e (zR 0 0) s m args below meth c H locs 0 0 (zQv (mG D cs ad) q below args s) (F0 m 53 ls []) := by
  unfold n_X12_keepsBest_0_b53 at h
  obtain ⟨hx, hb, hml, hown, hts, hret, hlk⟩ := id C
  refine lv_iconst (v := 0) hx hb dX12_keepsBest_53 (by decide) ?_
  exact w_X12_keepsBest_0_b54 (F := F) C h hW (lv_sub hl [0, 1, 2, 3, 4] rfl)
def n_X12_keepsBest_0_e (F : Nat)  (S : Zs) (x1 : Int32) (x2 : Int32) (x3 : Int32) (x4 : Int32) : Option (Int32 × Zs) :=
  zgf S 29 (fun v1 => if x2 < v1 then (n_X12_keepsBest_0_b49 F  S x1 x2 x3 x4) else (zgf S 29 (fun v2 => if x2 = v2 then (zgf S 30 (fun v3 => if x1 = v3 then (zgf S 31 (fun v4 => if x3 < v4 then (n_X12_keepsBest_0_b49 F  S x1 x2 x3 x4) else (zgf S 31 (fun v5 => if x3 = v5 then (zgf S 32 (fun v6 => if v6 ≤ x4 then (n_X12_keepsBest_0_b53 F  S x1 x2 x3 x4) else (n_X12_keepsBest_0_b49 F  S x1 x2 x3 x4))) else (n_X12_keepsBest_0_b53 F  S x1 x2 x3 x4))))) else (n_X12_keepsBest_0_b53 F  S x1 x2 x3 x4))) else (n_X12_keepsBest_0_b53 F  S x1 x2 x3 x4))))
set_option maxRecDepth 20000 in
set_option maxHeartbeats 4000000 in
theorem w_X12_keepsBest_0_e {F : Nat} {q : (Int32 × Zs)} {S : Zs}  {x1 : Int32} {x2 : Int32} {x3 : Int32} {x4 : Int32} {ls : Array Slot} {H : Heap} {locs : List Loc} (C : zC p s m args meth c cX12_keepsBest 6 RX12 none)  (h : n_X12_keepsBest_0_e F  S x1 x2 x3 x4 = some q) (hW : zW (mG D cs ad) s S H locs) (hl : lv_has ls 6 [(0, .ref (ad 0)), (1, .int x1), (2, .int x2), (3, .int x3), (4, .int x4)]) : W p l e (zR 0 0) s m args below meth c H locs 0 0 (zQv (mG D cs ad) q below args s) (F0 m 0 ls []) := by
  unfold n_X12_keepsBest_0_e at h
  obtain ⟨hx, hb, hml, hown, hts, hret, hlk⟩ := id C
  refine lv_iload_n hx hb dX12_keepsBest_0 rfl (lv_at hl 2 rfl) ?_
  refine lv_aload_n hx hb dX12_keepsBest_1 rfl (lv_at hl 0 rfl) ?_
  refine mg_0_29 C hW h fl_X12_369 dX12_keepsBest_2 (fun v1 h => ?_)
  refine zz_clt (tgt := 49) C h dX12_keepsBest_5 (by decide) (fun h => ?_) (fun h => ?_)
  · exact w_X12_keepsBest_0_b49 (F := F) C h hW (lv_sub hl [0, 1, 2, 3, 4] rfl)
  · refine lv_iload_n hx hb dX12_keepsBest_8 rfl (lv_at hl 2 rfl) ?_
    refine lv_aload_n hx hb dX12_keepsBest_9 rfl (lv_at hl 0 rfl) ?_
    refine mg_0_29 C hW h fl_X12_369 dX12_keepsBest_10 (fun v2 h => ?_)
    refine zz_cne (tgt := 53) C h dX12_keepsBest_13 (by decide) (fun h => ?_) (fun h => ?_)
    · exact w_X12_keepsBest_0_b53 (F := F) C h hW (lv_sub hl [0, 1, 2, 3, 4] rfl)
    · refine lv_iload_n hx hb dX12_keepsBest_16 rfl (lv_at hl 1 rfl) ?_
      refine lv_aload_n hx hb dX12_keepsBest_17 rfl (lv_at hl 0 rfl) ?_
      refine mg_0_30 C hW h fl_X12_372 dX12_keepsBest_18 (fun v3 h => ?_)
      refine zz_cne (tgt := 53) C h dX12_keepsBest_21 (by decide) (fun h => ?_) (fun h => ?_)
      · exact w_X12_keepsBest_0_b53 (F := F) C h hW (lv_sub hl [0, 1, 2, 3, 4] rfl)
      · refine lv_iload_n hx hb dX12_keepsBest_24 rfl (lv_at hl 3 rfl) ?_
        refine lv_aload_n hx hb dX12_keepsBest_25 rfl (lv_at hl 0 rfl) ?_
        refine mg_0_31 C hW h fl_X12_375 dX12_keepsBest_26 (fun v4 h => ?_)
        refine zz_clt (tgt := 49) C h dX12_keepsBest_29 (by decide) (fun h => ?_) (fun h => ?_)
        · exact w_X12_keepsBest_0_b49 (F := F) C h hW (lv_sub hl [0, 1, 2, 3, 4] rfl)
        · refine lv_iload_n hx hb dX12_keepsBest_32 rfl (lv_at hl 3 rfl) ?_
          refine lv_aload_n hx hb dX12_keepsBest_33 rfl (lv_at hl 0 rfl) ?_
          refine mg_0_31 C hW h fl_X12_375 dX12_keepsBest_34 (fun v5 h => ?_)
          refine zz_cne (tgt := 53) C h dX12_keepsBest_37 (by decide) (fun h => ?_) (fun h => ?_)
          · exact w_X12_keepsBest_0_b53 (F := F) C h hW (lv_sub hl [0, 1, 2, 3, 4] rfl)
          · refine lv_iload hx hb dX12_keepsBest_40 (lv_at hl 4 rfl) ?_
            refine lv_aload_n hx hb dX12_keepsBest_42 rfl (lv_at hl 0 rfl) ?_
            refine mg_0_32 C hW h fl_X12_378 dX12_keepsBest_43 (fun v6 h => ?_)
            refine zz_cge (tgt := 53) C h dX12_keepsBest_46 (by decide) (fun h => ?_) (fun h => ?_)
            · exact w_X12_keepsBest_0_b53 (F := F) C h hW (lv_sub hl [0, 1, 2, 3, 4] rfl)
            · exact w_X12_keepsBest_0_b49 (F := F) C h hW (lv_sub hl [0, 1, 2, 3, 4] rfl)
def n_X12_keepsBest_0 (F : Nat) (S : Zs) (x1 : Int32) (x2 : Int32) (x3 : Int32) (x4 : Int32) : Option (Int32 × Zs) := n_X12_keepsBest_0_e F  S x1 x2 x3 x4
theorem c_X12_keepsBest_0 {l : Launch} {D : va_G} {cs ad : Nat → Nat} {F : Nat} {S : Zs} {x1 : Int32} {x2 : Int32} {x3 : Int32} {x4 : Int32} {q : (Int32 × Zs)} (h : n_X12_keepsBest_0 F S x1 x2 x3 x4 = some q) : zMv l yX12_keepsBest cX12_keepsBest 6 none (zR 0 0) (mG D cs ad) [.ref (ad 0), .int x1, .int x2, .int x3, .int x4] S q :=
  zz_enter (by decide) (Nat.le_of_ble_eq_true rfl) (fun p e s m below meth c ls C hW hl => w_X12_keepsBest_0_e (F := F) C h hW (lv_sub hl [0, 1, 2, 3, 4] rfl))
def n_X12_looks_0_b331 (F : Nat) (rc171 : Zs → Int32 → Int32 → Int32 → Int32 → Option (Int32 × Zs)) (S : Zs) (x1 : Int32) (x2 : Int32) (x3 : Int32) (x4 : Int32) : Option (Int32 × Zs) :=
  zlet (x4 + (1 : Int32)) (fun v1 => rc171 S x1 x2 x3 v1)
set_option maxRecDepth 20000 in
set_option maxHeartbeats 4000000 in
theorem w_X12_looks_0_b331 {F : Nat} {q : (Int32 × Zs)} {S : Zs} {rc171 : Zs → Int32 → Int32 → Int32 → Int32 → Option (Int32 × Zs)} {x1 : Int32} {x2 : Int32} {x3 : Int32} {x4 : Int32} {ls : Array Slot} {H : Heap} {locs : List Loc} (C : zC p s m args meth c cX12_looks 8 RX12 none) (hrc171 : ∀ (S : Zs) (x1 : Int32) (x2 : Int32) (x3 : Int32) (x4 : Int32) (H : Heap) (locs : List Loc) (ls : Array Slot), rc171 S x1 x2 x3 x4 = some q → zW (mG D cs ad) s S H locs → lv_has ls 8 [(0, .ref (ad 0)), (1, .int x1), (2, .int x2), (3, .int x3), (4, .int x4)] → W p l e (zR 6 140) s m args below meth c H locs 0 0 (zQv (mG D cs ad) q below args s) (F0 m 171 ls [])) (h : n_X12_looks_0_b331 F rc171 S x1 x2 x3 x4 = some q) (hW : zW (mG D cs ad) s S H locs) (hl : lv_has ls 8 [(0, .ref (ad 0)), (1, .int x1), (2, .int x2), (3, .int x3), (4, .int x4)]) : W p l e (zR 6 140) s m args below meth c H locs 0 0 (zQv (mG D cs ad) q below args s) (F0 m 331 ls []) := by
  unfold n_X12_looks_0_b331 at h
  obtain ⟨hx, hb, hml, hown, hts, hret, hlk⟩ := id C
  obtain ⟨v1, ev1, h⟩ := zz_name h
  refine lv_iinc (v := v1) (lv' := [(4, .int v1), (0, .ref (ad 0)), (1, .int x1), (2, .int x2), (3, .int x3)]) hx hb dX12_looks_331 hl (k := 4) rfl ev1.symm (by decide) rfl (fun ls hl => ?_)
  refine lv_goto (tgt := 171) hx hb dX12_looks_334 (by decide) ?_
  exact hrc171 _ _ _ _ _ _ _ _ h hW (lv_sub hl [1, 2, 3, 4, 0] rfl)
def n_X12_looks_0_b268 (F : Nat) (rc171 : Zs → Int32 → Int32 → Int32 → Int32 → Option (Int32 × Zs)) (S : Zs) (x1 : Int32) (x2 : Int32) (x3 : Int32) (x4 : Int32) (t0 : Int32) : Option (Int32 × Zs) :=
  zgf S 11 (fun v1 => zcl (n_X12_has F S v1 x4) (fun v3 S2 => if v3 = 0 then (n_X12_looks_0_b331 F rc171 S2 x1 x2 x3 x4) else (if t0 < 0 then (n_X12_looks_0_b331 F rc171 S2 x1 x2 x3 x4) else (zld S2 14 2304 t0 (fun v4 => if (1000000 : Int32) ≤ v4 then (n_X12_looks_0_b331 F rc171 S2 x1 x2 x3 x4) else (zcl (n_X12_proves_0 F S2 x4 t0 (-1 : Int32) (1 : Int32)) (fun v6 S5 => if v6 = x1 then (zld S5 14 2304 t0 (fun v7 => zcl (n_X12_keepsBest_0 F S5 x4 ((1 : Int32) + v7) t0 (-1 : Int32)) (fun v9 S8 => n_X12_looks_0_b331 F rc171 S8 x1 x2 x3 x4))) else (n_X12_looks_0_b331 F rc171 S5 x1 x2 x3 x4))))))))
set_option maxRecDepth 20000 in
set_option maxHeartbeats 4000000 in
theorem w_X12_looks_0_b268 {F : Nat} {q : (Int32 × Zs)} {S : Zs} {rc171 : Zs → Int32 → Int32 → Int32 → Int32 → Option (Int32 × Zs)} {x1 : Int32} {x2 : Int32} {x3 : Int32} {x4 : Int32} {t0 : Int32} {ls : Array Slot} {H : Heap} {locs : List Loc} (C : zC p s m args meth c cX12_looks 8 RX12 none) (hrc171 : ∀ (S : Zs) (x1 : Int32) (x2 : Int32) (x3 : Int32) (x4 : Int32) (H : Heap) (locs : List Loc) (ls : Array Slot), rc171 S x1 x2 x3 x4 = some q → zW (mG D cs ad) s S H locs → lv_has ls 8 [(0, .ref (ad 0)), (1, .int x1), (2, .int x2), (3, .int x3), (4, .int x4)] → W p l e (zR 6 140) s m args below meth c H locs 0 0 (zQv (mG D cs ad) q below args s) (F0 m 171 ls [])) (h : n_X12_looks_0_b268 F rc171 S x1 x2 x3 x4 t0 = some q) (hW : zW (mG D cs ad) s S H locs) (hl : lv_has ls 8 [(0, .ref (ad 0)), (1, .int x1), (2, .int x2), (3, .int x3), (4, .int x4)]) : W p l e (zR 6 140) s m args below meth c H locs 0 0 (zQv (mG D cs ad) q below args s) (F0 m 268 ls [.int t0]) := by
  unfold n_X12_looks_0_b268 at h
  obtain ⟨hx, hb, hml, hown, hts, hret, hlk⟩ := id C
  refine lv_istore (lv' := [(6, .int t0), (0, .ref (ad 0)), (1, .int x1), (2, .int x2), (3, .int x3), (4, .int x4)]) hx hb dX12_looks_268 hl (by decide) rfl (fun ls hl => ?_)
  refine lv_aload_n hx hb dX12_looks_270 rfl (lv_at hl 1 rfl) ?_
  refine mg_0_11 C hW h fl_X12_348 dX12_looks_271 (fun v1 h => ?_)
  refine lv_iload hx hb dX12_looks_274 (lv_at hl 5 rfl) ?_
  refine zz_callSi (As := [.int v1, .int x4]) C hW h (fun r hr => c_X12_has hr) lk_X12_129 rfl hl.1 ⟨rfl, rfl⟩ ⟨Nat.le_of_ble_eq_true rfl, Nat.le_of_ble_eq_true rfl⟩ (Nat.le_of_ble_eq_true rfl) ⟨Nat.zero_le _, Nat.zero_le _⟩ rfl dX12_looks_276 (fun v3 S2 H locs h hW => ?_)
  refine zz_ieq (tgt := 331) C h dX12_looks_279 (by decide) (fun h => ?_) (fun h => ?_)
  · exact w_X12_looks_0_b331 (F := F) C hrc171 h hW (lv_sub hl [1, 2, 3, 4, 5] rfl)
  · refine lv_iload hx hb dX12_looks_282 (lv_at hl 0 rfl) ?_
    refine zz_ilt (tgt := 331) C h dX12_looks_284 (by decide) (fun h => ?_) (fun h => ?_)
    · exact w_X12_looks_0_b331 (F := F) C hrc171 h hW (lv_sub hl [1, 2, 3, 4, 5] rfl)
    · refine lv_aload_n hx hb dX12_looks_287 rfl (lv_at hl 1 rfl) ?_
      refine mg_0_28 C hW fl_X12_387 dX12_looks_288 ?_
      refine lv_iload hx hb dX12_looks_291 (lv_at hl 0 rfl) ?_
      refine ml_14 C hW h dX12_looks_293 (fun v4 h => ?_)
      refine lv_ldc (v := 1000000) hx hb hown (hts _ ct_X12_249) dX12_looks_294 ?_
      refine zz_cge (tgt := 331) C h dX12_looks_296 (by decide) (fun h => ?_) (fun h => ?_)
      · exact w_X12_looks_0_b331 (F := F) C hrc171 h hW (lv_sub hl [1, 2, 3, 4, 5] rfl)
      · refine lv_aload_n hx hb dX12_looks_299 rfl (lv_at hl 1 rfl) ?_
        refine lv_iload hx hb dX12_looks_300 (lv_at hl 5 rfl) ?_
        refine lv_iload hx hb dX12_looks_302 (lv_at hl 0 rfl) ?_
        refine lv_iconst (v := -1) hx hb dX12_looks_304 (by decide) ?_
        refine lv_iconst (v := 1) hx hb dX12_looks_305 (by decide) ?_
        refine zz_callVi (As := [.int x4, .int t0, .int (-1 : Int32), .int (1 : Int32)]) C hW h (fun r hr => c_X12_proves_0 hr) lk_X12_365 (hW.recv mr_0) rfl hl.1 ⟨rfl, rfl⟩ ⟨Nat.le_of_ble_eq_true rfl, Nat.le_of_ble_eq_true rfl⟩ (Nat.le_of_ble_eq_true rfl) ⟨Nat.zero_le _, Nat.zero_le _⟩ rfl dX12_looks_306 (fun v6 S5 H locs h hW => ?_)
        refine lv_iload_n hx hb dX12_looks_309 rfl (lv_at hl 2 rfl) ?_
        refine zz_cne (tgt := 331) C h dX12_looks_310 (by decide) (fun h => ?_) (fun h => ?_)
        · exact w_X12_looks_0_b331 (F := F) C hrc171 h hW (lv_sub hl [1, 2, 3, 4, 5] rfl)
        · refine lv_aload_n hx hb dX12_looks_313 rfl (lv_at hl 1 rfl) ?_
          refine lv_iload hx hb dX12_looks_314 (lv_at hl 5 rfl) ?_
          refine lv_iconst (v := 1) hx hb dX12_looks_316 (by decide) ?_
          refine lv_aload_n hx hb dX12_looks_317 rfl (lv_at hl 1 rfl) ?_
          refine mg_0_28 C hW fl_X12_387 dX12_looks_318 ?_
          refine lv_iload hx hb dX12_looks_321 (lv_at hl 0 rfl) ?_
          refine ml_14 C hW h dX12_looks_323 (fun v7 h => ?_)
          refine lv_iadd hx hb dX12_looks_324 ?_
          refine lv_iload hx hb dX12_looks_325 (lv_at hl 0 rfl) ?_
          refine lv_iconst (v := -1) hx hb dX12_looks_327 (by decide) ?_
          refine zz_callVv (As := [.int x4, .int ((1 : Int32) + v7), .int t0, .int (-1 : Int32)]) C hW h (fun r hr => c_X12_keepsBest_0 hr) lk_X12_390 (hW.recv mr_0) rfl hl.1 ⟨rfl, rfl⟩ ⟨Nat.le_of_ble_eq_true rfl, Nat.le_of_ble_eq_true rfl⟩ (Nat.le_of_ble_eq_true rfl) ⟨Nat.zero_le _, Nat.zero_le _⟩ rfl dX12_looks_328 (fun v9 S8 H locs h hW => ?_)
          exact w_X12_looks_0_b331 (F := F) C hrc171 h hW (lv_sub hl [1, 2, 3, 4, 5] rfl)
def n_X12_looks_0_b214 (F : Nat) (rc171 : Zs → Int32 → Int32 → Int32 → Int32 → Option (Int32 × Zs)) (S : Zs) (x1 : Int32) (x2 : Int32) (x3 : Int32) (x4 : Int32) (t0 : Int32) : Option (Int32 × Zs) :=
  if 0 ≤ t0 then (if x4 = (19 : Int32) then (zcl (n_X12_codeOf F S t0 x3 x2) (fun v6 S5 => n_X12_looks_0_b268 F rc171 S5 x1 x2 x3 x4 v6)) else (if x4 = (20 : Int32) then (zcl (n_X12_codeOf F S t0 x2 (x3 ^^^ (1 : Int32))) (fun v4 S3 => n_X12_looks_0_b268 F rc171 S3 x1 x2 x3 x4 v4)) else (zcl (n_X12_codeOf F S t0 x2 x3) (fun v2 S1 => n_X12_looks_0_b268 F rc171 S1 x1 x2 x3 x4 v2)))) else (n_X12_looks_0_b268 F rc171 S x1 x2 x3 x4 (-1 : Int32))
set_option maxRecDepth 20000 in
set_option maxHeartbeats 4000000 in
theorem w_X12_looks_0_b214 {F : Nat} {q : (Int32 × Zs)} {S : Zs} {rc171 : Zs → Int32 → Int32 → Int32 → Int32 → Option (Int32 × Zs)} {x1 : Int32} {x2 : Int32} {x3 : Int32} {x4 : Int32} {t0 : Int32} {ls : Array Slot} {H : Heap} {locs : List Loc} (C : zC p s m args meth c cX12_looks 8 RX12 none) (hrc171 : ∀ (S : Zs) (x1 : Int32) (x2 : Int32) (x3 : Int32) (x4 : Int32) (H : Heap) (locs : List Loc) (ls : Array Slot), rc171 S x1 x2 x3 x4 = some q → zW (mG D cs ad) s S H locs → lv_has ls 8 [(0, .ref (ad 0)), (1, .int x1), (2, .int x2), (3, .int x3), (4, .int x4)] → W p l e (zR 6 140) s m args below meth c H locs 0 0 (zQv (mG D cs ad) q below args s) (F0 m 171 ls [])) (h : n_X12_looks_0_b214 F rc171 S x1 x2 x3 x4 t0 = some q) (hW : zW (mG D cs ad) s S H locs) (hl : lv_has ls 8 [(0, .ref (ad 0)), (1, .int x1), (2, .int x2), (3, .int x3), (4, .int x4)]) : W p l e (zR 6 140) s m args below meth c H locs 0 0 (zQv (mG D cs ad) q below args s) (F0 m 214 ls [.int t0]) := by
  unfold n_X12_looks_0_b214 at h
  obtain ⟨hx, hb, hml, hown, hts, hret, hlk⟩ := id C
  refine lv_istore (lv' := [(5, .int t0), (0, .ref (ad 0)), (1, .int x1), (2, .int x2), (3, .int x3), (4, .int x4)]) hx hb dX12_looks_214 hl (by decide) rfl (fun ls hl => ?_)
  refine lv_iload hx hb dX12_looks_216 (lv_at hl 0 rfl) ?_
  refine zz_ige (tgt := 225) C h dX12_looks_218 (by decide) (fun h => ?_) (fun h => ?_)
  · refine lv_iload hx hb dX12_looks_225 (lv_at hl 5 rfl) ?_
    refine lv_bipush (v := 19) hx hb dX12_looks_227 (by decide) ?_
    refine zz_cne (tgt := 242) C h dX12_looks_229 (by decide) (fun h => ?_) (fun h => ?_)
    · refine lv_iload hx hb dX12_looks_242 (lv_at hl 5 rfl) ?_
      refine lv_bipush (v := 20) hx hb dX12_looks_244 (by decide) ?_
      refine zz_cne (tgt := 261) C h dX12_looks_246 (by decide) (fun h => ?_) (fun h => ?_)
      · refine lv_iload hx hb dX12_looks_261 (lv_at hl 0 rfl) ?_
        refine lv_iload_n hx hb dX12_looks_263 rfl (lv_at hl 3 rfl) ?_
        refine lv_iload_n hx hb dX12_looks_264 rfl (lv_at hl 4 rfl) ?_
        refine zz_callSi (As := [.int t0, .int x2, .int x3]) C hW h (fun r hr => c_X12_codeOf hr) lk_X12_30 rfl hl.1 ⟨rfl, rfl⟩ ⟨Nat.le_of_ble_eq_true rfl, Nat.le_of_ble_eq_true rfl⟩ (Nat.le_of_ble_eq_true rfl) ⟨Nat.zero_le _, Nat.zero_le _⟩ rfl dX12_looks_265 (fun v2 S1 H locs h hW => ?_)
        exact w_X12_looks_0_b268 (F := F) C hrc171 h hW (lv_sub hl [1, 2, 3, 4, 5] rfl)
      · refine lv_iload hx hb dX12_looks_249 (lv_at hl 0 rfl) ?_
        refine lv_iload_n hx hb dX12_looks_251 rfl (lv_at hl 3 rfl) ?_
        refine lv_iload_n hx hb dX12_looks_252 rfl (lv_at hl 4 rfl) ?_
        refine lv_iconst (v := 1) hx hb dX12_looks_253 (by decide) ?_
        refine lv_ixor hx hb dX12_looks_254 ?_
        refine zz_callSi (As := [.int t0, .int x2, .int (x3 ^^^ (1 : Int32))]) C hW h (fun r hr => c_X12_codeOf hr) lk_X12_30 rfl hl.1 ⟨rfl, rfl⟩ ⟨Nat.le_of_ble_eq_true rfl, Nat.le_of_ble_eq_true rfl⟩ (Nat.le_of_ble_eq_true rfl) ⟨Nat.zero_le _, Nat.zero_le _⟩ rfl dX12_looks_255 (fun v4 S3 H locs h hW => ?_)
        refine lv_goto (tgt := 268) hx hb dX12_looks_258 (by decide) ?_
        exact w_X12_looks_0_b268 (F := F) C hrc171 h hW (lv_sub hl [1, 2, 3, 4, 5] rfl)
    · refine lv_iload hx hb dX12_looks_232 (lv_at hl 0 rfl) ?_
      refine lv_iload_n hx hb dX12_looks_234 rfl (lv_at hl 4 rfl) ?_
      refine lv_iload_n hx hb dX12_looks_235 rfl (lv_at hl 3 rfl) ?_
      refine zz_callSi (As := [.int t0, .int x3, .int x2]) C hW h (fun r hr => c_X12_codeOf hr) lk_X12_30 rfl hl.1 ⟨rfl, rfl⟩ ⟨Nat.le_of_ble_eq_true rfl, Nat.le_of_ble_eq_true rfl⟩ (Nat.le_of_ble_eq_true rfl) ⟨Nat.zero_le _, Nat.zero_le _⟩ rfl dX12_looks_236 (fun v6 S5 H locs h hW => ?_)
      refine lv_goto (tgt := 268) hx hb dX12_looks_239 (by decide) ?_
      exact w_X12_looks_0_b268 (F := F) C hrc171 h hW (lv_sub hl [1, 2, 3, 4, 5] rfl)
  · refine lv_iconst (v := -1) hx hb dX12_looks_221 (by decide) ?_
    refine lv_goto (tgt := 268) hx hb dX12_looks_222 (by decide) ?_
    exact w_X12_looks_0_b268 (F := F) C hrc171 h hW (lv_sub hl [1, 2, 3, 4, 5] rfl)
def n_X12_looks_0_b171_l (F : Nat) (rc171 : Zs → Int32 → Int32 → Int32 → Int32 → Option (Int32 × Zs)) (S : Zs) (x1 : Int32) (x2 : Int32) (x3 : Int32) (x4 : Int32) : Option (Int32 × Zs) :=
  if (22 : Int32) ≤ x4 then (some (0, S)) else (if x4 = (19 : Int32) then (zcl (n_X12_formOf F S x1) (fun v6 S5 => n_X12_looks_0_b214 F rc171 S5 x1 x2 x3 x4 v6)) else (if x4 = (20 : Int32) then (zcl (n_X12_formOf F S x1) (fun v4 S3 => n_X12_looks_0_b214 F rc171 S3 x1 x2 x3 x4 (v4 ^^^ (1 : Int32)))) else (zcl (n_X12_formOf F S x1) (fun v2 S1 => n_X12_looks_0_b214 F rc171 S1 x1 x2 x3 x4 (v2 - (2 : Int32))))))
set_option maxRecDepth 20000 in
set_option maxHeartbeats 4000000 in
theorem w_X12_looks_0_b171_l {F : Nat} {q : (Int32 × Zs)} {S : Zs} {rc171 : Zs → Int32 → Int32 → Int32 → Int32 → Option (Int32 × Zs)} {x1 : Int32} {x2 : Int32} {x3 : Int32} {x4 : Int32} {ls : Array Slot} {H : Heap} {locs : List Loc} (C : zC p s m args meth c cX12_looks 8 RX12 none) (hrc171 : ∀ (S : Zs) (x1 : Int32) (x2 : Int32) (x3 : Int32) (x4 : Int32) (H : Heap) (locs : List Loc) (ls : Array Slot), rc171 S x1 x2 x3 x4 = some q → zW (mG D cs ad) s S H locs → lv_has ls 8 [(0, .ref (ad 0)), (1, .int x1), (2, .int x2), (3, .int x3), (4, .int x4)] → W p l e (zR 6 140) s m args below meth c H locs 0 0 (zQv (mG D cs ad) q below args s) (F0 m 171 ls [])) (h : n_X12_looks_0_b171_l F rc171 S x1 x2 x3 x4 = some q) (hW : zW (mG D cs ad) s S H locs) (hl : lv_has ls 8 [(0, .ref (ad 0)), (1, .int x1), (2, .int x2), (3, .int x3), (4, .int x4)]) : W p l e (zR 6 140) s m args below meth c H locs 0 0 (zQv (mG D cs ad) q below args s) (F0 m 171 ls []) := by
  unfold n_X12_looks_0_b171_l at h
  obtain ⟨hx, hb, hml, hown, hts, hret, hlk⟩ := id C
  refine lv_iload hx hb dX12_looks_171 (lv_at hl 4 rfl) ?_
  refine lv_bipush (v := 22) hx hb dX12_looks_173 (by decide) ?_
  refine zz_cge (tgt := 337) C h dX12_looks_175 (by decide) (fun h => ?_) (fun h => ?_)
  · exact zz_vret C rfl h hW dX12_looks_337
  · refine lv_iload hx hb dX12_looks_178 (lv_at hl 4 rfl) ?_
    refine lv_bipush (v := 19) hx hb dX12_looks_180 (by decide) ?_
    refine zz_cne (tgt := 192) C h dX12_looks_182 (by decide) (fun h => ?_) (fun h => ?_)
    · refine lv_iload hx hb dX12_looks_192 (lv_at hl 4 rfl) ?_
      refine lv_bipush (v := 20) hx hb dX12_looks_194 (by decide) ?_
      refine zz_cne (tgt := 208) C h dX12_looks_196 (by decide) (fun h => ?_) (fun h => ?_)
      · refine lv_iload_n hx hb dX12_looks_208 rfl (lv_at hl 1 rfl) ?_
        refine zz_callSi (As := [.int x1]) C hW h (fun r hr => c_X12_formOf hr) lk_X12_20 rfl hl.1 ⟨rfl, rfl⟩ ⟨Nat.le_of_ble_eq_true rfl, Nat.le_of_ble_eq_true rfl⟩ (Nat.le_of_ble_eq_true rfl) ⟨Nat.zero_le _, Nat.zero_le _⟩ rfl dX12_looks_209 (fun v2 S1 H locs h hW => ?_)
        refine lv_iconst (v := 2) hx hb dX12_looks_212 (by decide) ?_
        refine lv_isub hx hb dX12_looks_213 ?_
        exact w_X12_looks_0_b214 (F := F) C hrc171 h hW (lv_sub hl [0, 1, 2, 3, 4] rfl)
      · refine lv_iload_n hx hb dX12_looks_199 rfl (lv_at hl 1 rfl) ?_
        refine zz_callSi (As := [.int x1]) C hW h (fun r hr => c_X12_formOf hr) lk_X12_20 rfl hl.1 ⟨rfl, rfl⟩ ⟨Nat.le_of_ble_eq_true rfl, Nat.le_of_ble_eq_true rfl⟩ (Nat.le_of_ble_eq_true rfl) ⟨Nat.zero_le _, Nat.zero_le _⟩ rfl dX12_looks_200 (fun v4 S3 H locs h hW => ?_)
        refine lv_iconst (v := 1) hx hb dX12_looks_203 (by decide) ?_
        refine lv_ixor hx hb dX12_looks_204 ?_
        refine lv_goto (tgt := 214) hx hb dX12_looks_205 (by decide) ?_
        exact w_X12_looks_0_b214 (F := F) C hrc171 h hW (lv_sub hl [0, 1, 2, 3, 4] rfl)
    · refine lv_iload_n hx hb dX12_looks_185 rfl (lv_at hl 1 rfl) ?_
      refine zz_callSi (As := [.int x1]) C hW h (fun r hr => c_X12_formOf hr) lk_X12_20 rfl hl.1 ⟨rfl, rfl⟩ ⟨Nat.le_of_ble_eq_true rfl, Nat.le_of_ble_eq_true rfl⟩ (Nat.le_of_ble_eq_true rfl) ⟨Nat.zero_le _, Nat.zero_le _⟩ rfl dX12_looks_186 (fun v6 S5 H locs h hW => ?_)
      refine lv_goto (tgt := 214) hx hb dX12_looks_189 (by decide) ?_
      exact w_X12_looks_0_b214 (F := F) C hrc171 h hW (lv_sub hl [0, 1, 2, 3, 4] rfl)
def n_X12_looks_0_b171 (F : Nat)  (S : Zs) (x1 : Int32) (x2 : Int32) (x3 : Int32) (x4 : Int32) : Option (Int32 × Zs) :=
  zfix (fun (rc : (Zs × Int32 × Int32 × Int32 × Int32) → Option (Int32 × Zs)) (u : (Zs × Int32 × Int32 × Int32 × Int32)) => n_X12_looks_0_b171_l F  (fun S x1 x2 x3 x4 => rc (S, x1, x2, x3, x4)) u.1 u.2.1 u.2.2.1 u.2.2.2.1 u.2.2.2.2) F (S, x1, x2, x3, x4)
theorem w_X12_looks_0_b171 {F : Nat} {q : (Int32 × Zs)}  (C : zC p s m args meth c cX12_looks 8 RX12 none)  : ∀ (n : Nat) (S : Zs) (x1 : Int32) (x2 : Int32) (x3 : Int32) (x4 : Int32) (H : Heap) (locs : List Loc) (ls : Array Slot), zfix (fun (rc : (Zs × Int32 × Int32 × Int32 × Int32) → Option (Int32 × Zs)) (u : (Zs × Int32 × Int32 × Int32 × Int32)) => n_X12_looks_0_b171_l F  (fun S x1 x2 x3 x4 => rc (S, x1, x2, x3, x4)) u.1 u.2.1 u.2.2.1 u.2.2.2.1 u.2.2.2.2) n (S, x1, x2, x3, x4) = some q → zW (mG D cs ad) s S H locs → lv_has ls 8 [(0, .ref (ad 0)), (1, .int x1), (2, .int x2), (3, .int x3), (4, .int x4)] → W p l e (zR 6 140) s m args below meth c H locs 0 0 (zQv (mG D cs ad) q below args s) (F0 m 171 ls []) := by
  intro n
  induction n with
  | zero => intro S x1 x2 x3 x4 H locs ls h; exact absurd h (fun h => by cases h)
  | succ n ih => intro S x1 x2 x3 x4 H locs ls h hW hl; exact w_X12_looks_0_b171_l (F := F) C (fun S x1 x2 x3 x4 H locs ls h hW hl => ih S x1 x2 x3 x4 H locs ls h hW hl) h hW hl
def n_X12_looks_0_b161 (F : Nat) (rc24 : Zs → Int32 → Int32 → Int32 → Int32 → Option (Int32 × Zs)) (S : Zs) (x1 : Int32) (x2 : Int32) (x3 : Int32) (x4 : Int32) : Option (Int32 × Zs) :=
  zlet (x4 + (1 : Int32)) (fun v1 => rc24 S x1 x2 x3 v1)
set_option maxRecDepth 20000 in
set_option maxHeartbeats 4000000 in
theorem w_X12_looks_0_b161 {F : Nat} {q : (Int32 × Zs)} {S : Zs} {rc24 : Zs → Int32 → Int32 → Int32 → Int32 → Option (Int32 × Zs)} {x1 : Int32} {x2 : Int32} {x3 : Int32} {x4 : Int32} {ls : Array Slot} {H : Heap} {locs : List Loc} (C : zC p s m args meth c cX12_looks 8 RX12 none) (hrc24 : ∀ (S : Zs) (x1 : Int32) (x2 : Int32) (x3 : Int32) (x4 : Int32) (H : Heap) (locs : List Loc) (ls : Array Slot), rc24 S x1 x2 x3 x4 = some q → zW (mG D cs ad) s S H locs → lv_has ls 8 [(0, .ref (ad 0)), (1, .int x1), (2, .int x2), (3, .int x3), (4, .int x4)] → W p l e (zR 6 140) s m args below meth c H locs 0 0 (zQv (mG D cs ad) q below args s) (F0 m 24 ls [])) (h : n_X12_looks_0_b161 F rc24 S x1 x2 x3 x4 = some q) (hW : zW (mG D cs ad) s S H locs) (hl : lv_has ls 8 [(0, .ref (ad 0)), (1, .int x1), (2, .int x2), (3, .int x3), (4, .int x4)]) : W p l e (zR 6 140) s m args below meth c H locs 0 0 (zQv (mG D cs ad) q below args s) (F0 m 161 ls []) := by
  unfold n_X12_looks_0_b161 at h
  obtain ⟨hx, hb, hml, hown, hts, hret, hlk⟩ := id C
  obtain ⟨v1, ev1, h⟩ := zz_name h
  refine lv_iinc (v := v1) (lv' := [(4, .int v1), (0, .ref (ad 0)), (1, .int x1), (2, .int x2), (3, .int x3)]) hx hb dX12_looks_161 hl (k := 4) rfl ev1.symm (by decide) rfl (fun ls hl => ?_)
  refine lv_goto (tgt := 24) hx hb dX12_looks_164 (by decide) ?_
  exact hrc24 _ _ _ _ _ _ _ _ h hW (lv_sub hl [1, 2, 3, 4, 0] rfl)
def n_X12_looks_0_b155 (F : Nat) (rc24 : Zs → Int32 → Int32 → Int32 → Int32 → Option (Int32 × Zs)) (rc62 : Zs → Int32 → Int32 → Int32 → Int32 → Int32 → Option (Int32 × Zs)) (S : Zs) (x1 : Int32) (x2 : Int32) (x3 : Int32) (x4 : Int32) (x5 : Int32) : Option (Int32 × Zs) :=
  zlet (x5 + (1 : Int32)) (fun v1 => rc62 S x1 x2 x3 x4 v1)
set_option maxRecDepth 20000 in
set_option maxHeartbeats 4000000 in
theorem w_X12_looks_0_b155 {F : Nat} {q : (Int32 × Zs)} {S : Zs} {rc24 : Zs → Int32 → Int32 → Int32 → Int32 → Option (Int32 × Zs)} {rc62 : Zs → Int32 → Int32 → Int32 → Int32 → Int32 → Option (Int32 × Zs)} {x1 : Int32} {x2 : Int32} {x3 : Int32} {x4 : Int32} {x5 : Int32} {ls : Array Slot} {H : Heap} {locs : List Loc} (C : zC p s m args meth c cX12_looks 8 RX12 none) (hrc24 : ∀ (S : Zs) (x1 : Int32) (x2 : Int32) (x3 : Int32) (x4 : Int32) (H : Heap) (locs : List Loc) (ls : Array Slot), rc24 S x1 x2 x3 x4 = some q → zW (mG D cs ad) s S H locs → lv_has ls 8 [(0, .ref (ad 0)), (1, .int x1), (2, .int x2), (3, .int x3), (4, .int x4)] → W p l e (zR 6 140) s m args below meth c H locs 0 0 (zQv (mG D cs ad) q below args s) (F0 m 24 ls [])) (hrc62 : ∀ (S : Zs) (x1 : Int32) (x2 : Int32) (x3 : Int32) (x4 : Int32) (x5 : Int32) (H : Heap) (locs : List Loc) (ls : Array Slot), rc62 S x1 x2 x3 x4 x5 = some q → zW (mG D cs ad) s S H locs → lv_has ls 8 [(0, .ref (ad 0)), (1, .int x1), (2, .int x2), (3, .int x3), (4, .int x4), (5, .int x5)] → W p l e (zR 6 140) s m args below meth c H locs 0 0 (zQv (mG D cs ad) q below args s) (F0 m 62 ls [])) (h : n_X12_looks_0_b155 F rc24 rc62 S x1 x2 x3 x4 x5 = some q) (hW : zW (mG D cs ad) s S H locs) (hl : lv_has ls 8 [(0, .ref (ad 0)), (1, .int x1), (2, .int x2), (3, .int x3), (4, .int x4), (5, .int x5)]) : W p l e (zR 6 140) s m args below meth c H locs 0 0 (zQv (mG D cs ad) q below args s) (F0 m 155 ls []) := by
  unfold n_X12_looks_0_b155 at h
  obtain ⟨hx, hb, hml, hown, hts, hret, hlk⟩ := id C
  obtain ⟨v1, ev1, h⟩ := zz_name h
  refine lv_iinc (v := v1) (lv' := [(5, .int v1), (0, .ref (ad 0)), (1, .int x1), (2, .int x2), (3, .int x3), (4, .int x4)]) hx hb dX12_looks_155 hl (k := 5) rfl ev1.symm (by decide) rfl (fun ls hl => ?_)
  refine lv_goto (tgt := 62) hx hb dX12_looks_158 (by decide) ?_
  exact hrc62 _ _ _ _ _ _ _ _ _ h hW (lv_sub hl [1, 2, 3, 4, 5, 0] rfl)
def n_X12_looks_0_b62_l (F : Nat) (rc24 : Zs → Int32 → Int32 → Int32 → Int32 → Option (Int32 × Zs)) (rc62 : Zs → Int32 → Int32 → Int32 → Int32 → Int32 → Option (Int32 × Zs)) (S : Zs) (x1 : Int32) (x2 : Int32) (x3 : Int32) (x4 : Int32) (x5 : Int32) : Option (Int32 × Zs) :=
  if (24 : Int32) ≤ x5 then (n_X12_looks_0_b161 F rc24 S x1 x2 x3 x4) else (zcl (n_X12_majorCode F S x4 x3 x5) (fun v2 S1 => zcl (n_X12_minorCode F S1 x4 x2 x5) (fun v4 S3 => zld S3 14 2304 v2 (fun v5 => if (1000000 : Int32) ≤ v5 then (n_X12_looks_0_b155 F rc24 rc62 S3 x1 x2 x3 x4 x5) else (zld S3 14 2304 v4 (fun v6 => if (1000000 : Int32) ≤ v6 then (n_X12_looks_0_b155 F rc24 rc62 S3 x1 x2 x3 x4 x5) else (zcl (n_X12_proves_0 F S3 x4 v2 v4 (1 : Int32)) (fun v8 S7 => if v8 = x1 then (zld S7 14 2304 v2 (fun v9 => zld S7 14 2304 v4 (fun v10 => zcl (n_X12_keepsBest_0 F S7 x4 (((1 : Int32) + v9) + v10) v2 v4) (fun v12 S11 => n_X12_looks_0_b155 F rc24 rc62 S11 x1 x2 x3 x4 x5)))) else (n_X12_looks_0_b155 F rc24 rc62 S7 x1 x2 x3 x4 x5)))))))))
set_option maxRecDepth 20000 in
set_option maxHeartbeats 4000000 in
theorem w_X12_looks_0_b62_l {F : Nat} {q : (Int32 × Zs)} {S : Zs} {rc24 : Zs → Int32 → Int32 → Int32 → Int32 → Option (Int32 × Zs)} {rc62 : Zs → Int32 → Int32 → Int32 → Int32 → Int32 → Option (Int32 × Zs)} {x1 : Int32} {x2 : Int32} {x3 : Int32} {x4 : Int32} {x5 : Int32} {ls : Array Slot} {H : Heap} {locs : List Loc} (C : zC p s m args meth c cX12_looks 8 RX12 none) (hrc24 : ∀ (S : Zs) (x1 : Int32) (x2 : Int32) (x3 : Int32) (x4 : Int32) (H : Heap) (locs : List Loc) (ls : Array Slot), rc24 S x1 x2 x3 x4 = some q → zW (mG D cs ad) s S H locs → lv_has ls 8 [(0, .ref (ad 0)), (1, .int x1), (2, .int x2), (3, .int x3), (4, .int x4)] → W p l e (zR 6 140) s m args below meth c H locs 0 0 (zQv (mG D cs ad) q below args s) (F0 m 24 ls [])) (hrc62 : ∀ (S : Zs) (x1 : Int32) (x2 : Int32) (x3 : Int32) (x4 : Int32) (x5 : Int32) (H : Heap) (locs : List Loc) (ls : Array Slot), rc62 S x1 x2 x3 x4 x5 = some q → zW (mG D cs ad) s S H locs → lv_has ls 8 [(0, .ref (ad 0)), (1, .int x1), (2, .int x2), (3, .int x3), (4, .int x4), (5, .int x5)] → W p l e (zR 6 140) s m args below meth c H locs 0 0 (zQv (mG D cs ad) q below args s) (F0 m 62 ls [])) (h : n_X12_looks_0_b62_l F rc24 rc62 S x1 x2 x3 x4 x5 = some q) (hW : zW (mG D cs ad) s S H locs) (hl : lv_has ls 8 [(0, .ref (ad 0)), (1, .int x1), (2, .int x2), (3, .int x3), (4, .int x4), (5, .int x5)]) : W p l e (zR 6 140) s m args below meth c H locs 0 0 (zQv (mG D cs ad) q below args s) (F0 m 62 ls []) := by
  unfold n_X12_looks_0_b62_l at h
  obtain ⟨hx, hb, hml, hown, hts, hret, hlk⟩ := id C
  refine lv_iload hx hb dX12_looks_62 (lv_at hl 5 rfl) ?_
  refine lv_bipush (v := 24) hx hb dX12_looks_64 (by decide) ?_
  refine zz_cge (tgt := 161) C h dX12_looks_66 (by decide) (fun h => ?_) (fun h => ?_)
  · exact w_X12_looks_0_b161 (F := F) C hrc24 h hW (lv_sub hl [0, 1, 2, 3, 4] rfl)
  · refine lv_iload hx hb dX12_looks_69 (lv_at hl 4 rfl) ?_
    refine lv_iload_n hx hb dX12_looks_71 rfl (lv_at hl 3 rfl) ?_
    refine lv_iload hx hb dX12_looks_72 (lv_at hl 5 rfl) ?_
    refine zz_callSi (As := [.int x4, .int x3, .int x5]) C hW h (fun r hr => c_X12_majorCode hr) lk_X12_381 rfl hl.1 ⟨rfl, rfl⟩ ⟨Nat.le_of_ble_eq_true rfl, Nat.le_of_ble_eq_true rfl⟩ (Nat.le_of_ble_eq_true rfl) ⟨Nat.zero_le _, Nat.zero_le _⟩ rfl dX12_looks_74 (fun v2 S1 H locs h hW => ?_)
    refine lv_istore (lv' := [(6, .int v2), (0, .ref (ad 0)), (1, .int x1), (2, .int x2), (3, .int x3), (4, .int x4), (5, .int x5)]) hx hb dX12_looks_77 hl (by decide) rfl (fun ls hl => ?_)
    refine lv_iload hx hb dX12_looks_79 (lv_at hl 5 rfl) ?_
    refine lv_iload_n hx hb dX12_looks_81 rfl (lv_at hl 3 rfl) ?_
    refine lv_iload hx hb dX12_looks_82 (lv_at hl 6 rfl) ?_
    refine zz_callSi (As := [.int x4, .int x2, .int x5]) C hW h (fun r hr => c_X12_minorCode hr) lk_X12_384 rfl hl.1 ⟨rfl, rfl⟩ ⟨Nat.le_of_ble_eq_true rfl, Nat.le_of_ble_eq_true rfl⟩ (Nat.le_of_ble_eq_true rfl) ⟨Nat.zero_le _, Nat.zero_le _⟩ rfl dX12_looks_84 (fun v4 S3 H locs h hW => ?_)
    refine lv_istore (lv' := [(7, .int v4), (6, .int v2), (0, .ref (ad 0)), (1, .int x1), (2, .int x2), (3, .int x3), (4, .int x4), (5, .int x5)]) hx hb dX12_looks_87 hl (by decide) rfl (fun ls hl => ?_)
    refine lv_aload_n hx hb dX12_looks_89 rfl (lv_at hl 2 rfl) ?_
    refine mg_0_28 C hW fl_X12_387 dX12_looks_90 ?_
    refine lv_iload hx hb dX12_looks_93 (lv_at hl 1 rfl) ?_
    refine ml_14 C hW h dX12_looks_95 (fun v5 h => ?_)
    refine lv_ldc (v := 1000000) hx hb hown (hts _ ct_X12_249) dX12_looks_96 ?_
    refine zz_cge (tgt := 155) C h dX12_looks_98 (by decide) (fun h => ?_) (fun h => ?_)
    · exact w_X12_looks_0_b155 (F := F) C hrc24 hrc62 h hW (lv_sub hl [2, 3, 4, 5, 6, 7] rfl)
    · refine lv_aload_n hx hb dX12_looks_101 rfl (lv_at hl 2 rfl) ?_
      refine mg_0_28 C hW fl_X12_387 dX12_looks_102 ?_
      refine lv_iload hx hb dX12_looks_105 (lv_at hl 0 rfl) ?_
      refine ml_14 C hW h dX12_looks_107 (fun v6 h => ?_)
      refine lv_ldc (v := 1000000) hx hb hown (hts _ ct_X12_249) dX12_looks_108 ?_
      refine zz_cge (tgt := 155) C h dX12_looks_110 (by decide) (fun h => ?_) (fun h => ?_)
      · exact w_X12_looks_0_b155 (F := F) C hrc24 hrc62 h hW (lv_sub hl [2, 3, 4, 5, 6, 7] rfl)
      · refine lv_aload_n hx hb dX12_looks_113 rfl (lv_at hl 2 rfl) ?_
        refine lv_iload hx hb dX12_looks_114 (lv_at hl 6 rfl) ?_
        refine lv_iload hx hb dX12_looks_116 (lv_at hl 1 rfl) ?_
        refine lv_iload hx hb dX12_looks_118 (lv_at hl 0 rfl) ?_
        refine lv_iconst (v := 1) hx hb dX12_looks_120 (by decide) ?_
        refine zz_callVi (As := [.int x4, .int v2, .int v4, .int (1 : Int32)]) C hW h (fun r hr => c_X12_proves_0 hr) lk_X12_365 (hW.recv mr_0) rfl hl.1 ⟨rfl, rfl⟩ ⟨Nat.le_of_ble_eq_true rfl, Nat.le_of_ble_eq_true rfl⟩ (Nat.le_of_ble_eq_true rfl) ⟨Nat.zero_le _, Nat.zero_le _⟩ rfl dX12_looks_121 (fun v8 S7 H locs h hW => ?_)
        refine lv_iload_n hx hb dX12_looks_124 rfl (lv_at hl 3 rfl) ?_
        refine zz_cne (tgt := 155) C h dX12_looks_125 (by decide) (fun h => ?_) (fun h => ?_)
        · exact w_X12_looks_0_b155 (F := F) C hrc24 hrc62 h hW (lv_sub hl [2, 3, 4, 5, 6, 7] rfl)
        · refine lv_aload_n hx hb dX12_looks_128 rfl (lv_at hl 2 rfl) ?_
          refine lv_iload hx hb dX12_looks_129 (lv_at hl 6 rfl) ?_
          refine lv_iconst (v := 1) hx hb dX12_looks_131 (by decide) ?_
          refine lv_aload_n hx hb dX12_looks_132 rfl (lv_at hl 2 rfl) ?_
          refine mg_0_28 C hW fl_X12_387 dX12_looks_133 ?_
          refine lv_iload hx hb dX12_looks_136 (lv_at hl 1 rfl) ?_
          refine ml_14 C hW h dX12_looks_138 (fun v9 h => ?_)
          refine lv_iadd hx hb dX12_looks_139 ?_
          refine lv_aload_n hx hb dX12_looks_140 rfl (lv_at hl 2 rfl) ?_
          refine mg_0_28 C hW fl_X12_387 dX12_looks_141 ?_
          refine lv_iload hx hb dX12_looks_144 (lv_at hl 0 rfl) ?_
          refine ml_14 C hW h dX12_looks_146 (fun v10 h => ?_)
          refine lv_iadd hx hb dX12_looks_147 ?_
          refine lv_iload hx hb dX12_looks_148 (lv_at hl 1 rfl) ?_
          refine lv_iload hx hb dX12_looks_150 (lv_at hl 0 rfl) ?_
          refine zz_callVv (As := [.int x4, .int (((1 : Int32) + v9) + v10), .int v2, .int v4]) C hW h (fun r hr => c_X12_keepsBest_0 hr) lk_X12_390 (hW.recv mr_0) rfl hl.1 ⟨rfl, rfl⟩ ⟨Nat.le_of_ble_eq_true rfl, Nat.le_of_ble_eq_true rfl⟩ (Nat.le_of_ble_eq_true rfl) ⟨Nat.zero_le _, Nat.zero_le _⟩ rfl dX12_looks_152 (fun v12 S11 H locs h hW => ?_)
          exact w_X12_looks_0_b155 (F := F) C hrc24 hrc62 h hW (lv_sub hl [2, 3, 4, 5, 6, 7] rfl)
def n_X12_looks_0_b62 (F : Nat) (rc24 : Zs → Int32 → Int32 → Int32 → Int32 → Option (Int32 × Zs)) (S : Zs) (x1 : Int32) (x2 : Int32) (x3 : Int32) (x4 : Int32) (x5 : Int32) : Option (Int32 × Zs) :=
  zfix (fun (rc : (Zs × Int32 × Int32 × Int32 × Int32 × Int32) → Option (Int32 × Zs)) (u : (Zs × Int32 × Int32 × Int32 × Int32 × Int32)) => n_X12_looks_0_b62_l F rc24 (fun S x1 x2 x3 x4 x5 => rc (S, x1, x2, x3, x4, x5)) u.1 u.2.1 u.2.2.1 u.2.2.2.1 u.2.2.2.2.1 u.2.2.2.2.2) F (S, x1, x2, x3, x4, x5)
theorem w_X12_looks_0_b62 {F : Nat} {q : (Int32 × Zs)} {rc24 : Zs → Int32 → Int32 → Int32 → Int32 → Option (Int32 × Zs)} (C : zC p s m args meth c cX12_looks 8 RX12 none) (hrc24 : ∀ (S : Zs) (x1 : Int32) (x2 : Int32) (x3 : Int32) (x4 : Int32) (H : Heap) (locs : List Loc) (ls : Array Slot), rc24 S x1 x2 x3 x4 = some q → zW (mG D cs ad) s S H locs → lv_has ls 8 [(0, .ref (ad 0)), (1, .int x1), (2, .int x2), (3, .int x3), (4, .int x4)] → W p l e (zR 6 140) s m args below meth c H locs 0 0 (zQv (mG D cs ad) q below args s) (F0 m 24 ls [])) : ∀ (n : Nat) (S : Zs) (x1 : Int32) (x2 : Int32) (x3 : Int32) (x4 : Int32) (x5 : Int32) (H : Heap) (locs : List Loc) (ls : Array Slot), zfix (fun (rc : (Zs × Int32 × Int32 × Int32 × Int32 × Int32) → Option (Int32 × Zs)) (u : (Zs × Int32 × Int32 × Int32 × Int32 × Int32)) => n_X12_looks_0_b62_l F rc24 (fun S x1 x2 x3 x4 x5 => rc (S, x1, x2, x3, x4, x5)) u.1 u.2.1 u.2.2.1 u.2.2.2.1 u.2.2.2.2.1 u.2.2.2.2.2) n (S, x1, x2, x3, x4, x5) = some q → zW (mG D cs ad) s S H locs → lv_has ls 8 [(0, .ref (ad 0)), (1, .int x1), (2, .int x2), (3, .int x3), (4, .int x4), (5, .int x5)] → W p l e (zR 6 140) s m args below meth c H locs 0 0 (zQv (mG D cs ad) q below args s) (F0 m 62 ls []) := by
  intro n
  induction n with
  | zero => intro S x1 x2 x3 x4 x5 H locs ls h; exact absurd h (fun h => by cases h)
  | succ n ih => intro S x1 x2 x3 x4 x5 H locs ls h hW hl; exact w_X12_looks_0_b62_l (F := F) C hrc24 (fun S x1 x2 x3 x4 x5 H locs ls h hW hl => ih S x1 x2 x3 x4 x5 H locs ls h hW hl) h hW hl
def n_X12_looks_0_b24_l (F : Nat) (rc24 : Zs → Int32 → Int32 → Int32 → Int32 → Option (Int32 × Zs)) (S : Zs) (x1 : Int32) (x2 : Int32) (x3 : Int32) (x4 : Int32) : Option (Int32 × Zs) :=
  if (19 : Int32) ≤ x4 then (n_X12_looks_0_b171 F  S x1 x2 x3 (19 : Int32)) else (zgf S 11 (fun v1 => zcl (n_X12_has F S v1 x4) (fun v3 S2 => if v3 = 0 then (n_X12_looks_0_b161 F rc24 S2 x1 x2 x3 x4) else (zcl (n_X12_formOfMood F S2 x4 (2 : Int32)) (fun v5 S4 => zcl (n_X12_formOf F S4 x1) (fun v7 S6 => if v5 = v7 then (n_X12_looks_0_b62 F rc24 S6 x1 x2 x3 x4 (0 : Int32)) else (n_X12_looks_0_b161 F rc24 S6 x1 x2 x3 x4)))))))
set_option maxRecDepth 20000 in
set_option maxHeartbeats 4000000 in
theorem w_X12_looks_0_b24_l {F : Nat} {q : (Int32 × Zs)} {S : Zs} {rc24 : Zs → Int32 → Int32 → Int32 → Int32 → Option (Int32 × Zs)} {x1 : Int32} {x2 : Int32} {x3 : Int32} {x4 : Int32} {ls : Array Slot} {H : Heap} {locs : List Loc} (C : zC p s m args meth c cX12_looks 8 RX12 none) (hrc24 : ∀ (S : Zs) (x1 : Int32) (x2 : Int32) (x3 : Int32) (x4 : Int32) (H : Heap) (locs : List Loc) (ls : Array Slot), rc24 S x1 x2 x3 x4 = some q → zW (mG D cs ad) s S H locs → lv_has ls 8 [(0, .ref (ad 0)), (1, .int x1), (2, .int x2), (3, .int x3), (4, .int x4)] → W p l e (zR 6 140) s m args below meth c H locs 0 0 (zQv (mG D cs ad) q below args s) (F0 m 24 ls [])) (h : n_X12_looks_0_b24_l F rc24 S x1 x2 x3 x4 = some q) (hW : zW (mG D cs ad) s S H locs) (hl : lv_has ls 8 [(0, .ref (ad 0)), (1, .int x1), (2, .int x2), (3, .int x3), (4, .int x4)]) : W p l e (zR 6 140) s m args below meth c H locs 0 0 (zQv (mG D cs ad) q below args s) (F0 m 24 ls []) := by
  unfold n_X12_looks_0_b24_l at h
  obtain ⟨hx, hb, hml, hown, hts, hret, hlk⟩ := id C
  refine lv_iload hx hb dX12_looks_24 (lv_at hl 4 rfl) ?_
  refine lv_bipush (v := 19) hx hb dX12_looks_26 (by decide) ?_
  refine zz_cge (tgt := 167) C h dX12_looks_28 (by decide) (fun h => ?_) (fun h => ?_)
  · refine lv_bipush (v := 19) hx hb dX12_looks_167 (by decide) ?_
    refine lv_istore (lv' := [(4, .int (19 : Int32)), (0, .ref (ad 0)), (1, .int x1), (2, .int x2), (3, .int x3)]) hx hb dX12_looks_169 hl (by decide) rfl (fun ls hl => ?_)
    exact w_X12_looks_0_b171 (F := F) C F _ _ _ _ _ _ _ _ h hW (lv_sub hl [1, 2, 3, 4, 0] rfl)
  · refine lv_aload_n hx hb dX12_looks_31 rfl (lv_at hl 0 rfl) ?_
    refine mg_0_11 C hW h fl_X12_348 dX12_looks_32 (fun v1 h => ?_)
    refine lv_iload hx hb dX12_looks_35 (lv_at hl 4 rfl) ?_
    refine zz_callSi (As := [.int v1, .int x4]) C hW h (fun r hr => c_X12_has hr) lk_X12_129 rfl hl.1 ⟨rfl, rfl⟩ ⟨Nat.le_of_ble_eq_true rfl, Nat.le_of_ble_eq_true rfl⟩ (Nat.le_of_ble_eq_true rfl) ⟨Nat.zero_le _, Nat.zero_le _⟩ rfl dX12_looks_37 (fun v3 S2 H locs h hW => ?_)
    refine zz_ieq (tgt := 161) C h dX12_looks_40 (by decide) (fun h => ?_) (fun h => ?_)
    · exact w_X12_looks_0_b161 (F := F) C hrc24 h hW (lv_sub hl [0, 1, 2, 3, 4] rfl)
    · refine lv_iload hx hb dX12_looks_43 (lv_at hl 4 rfl) ?_
      refine lv_iconst (v := 2) hx hb dX12_looks_45 (by decide) ?_
      refine zz_callSi (As := [.int x4, .int (2 : Int32)]) C hW h (fun r hr => c_X12_formOfMood hr) lk_X12_357 rfl hl.1 ⟨rfl, rfl⟩ ⟨Nat.le_of_ble_eq_true rfl, Nat.le_of_ble_eq_true rfl⟩ (Nat.le_of_ble_eq_true rfl) ⟨Nat.zero_le _, Nat.zero_le _⟩ rfl dX12_looks_46 (fun v5 S4 H locs h hW => ?_)
      refine lv_iload_n hx hb dX12_looks_49 rfl (lv_at hl 1 rfl) ?_
      refine zz_callSi (As := [.int x1]) C hW h (fun r hr => c_X12_formOf hr) lk_X12_20 rfl hl.1 ⟨rfl, rfl⟩ ⟨Nat.le_of_ble_eq_true rfl, Nat.le_of_ble_eq_true rfl⟩ (Nat.le_of_ble_eq_true rfl) ⟨Nat.zero_le _, Nat.zero_le _⟩ rfl dX12_looks_50 (fun v7 S6 H locs h hW => ?_)
      refine zz_ceq (tgt := 59) C h dX12_looks_53 (by decide) (fun h => ?_) (fun h => ?_)
      · refine lv_iconst (v := 0) hx hb dX12_looks_59 (by decide) ?_
        refine lv_istore (lv' := [(5, .int (0 : Int32)), (0, .ref (ad 0)), (1, .int x1), (2, .int x2), (3, .int x3), (4, .int x4)]) hx hb dX12_looks_60 hl (by decide) rfl (fun ls hl => ?_)
        exact w_X12_looks_0_b62 (F := F) C hrc24 F _ _ _ _ _ _ _ _ _ h hW (lv_sub hl [1, 2, 3, 4, 5, 0] rfl)
      · refine lv_goto (tgt := 161) hx hb dX12_looks_56 (by decide) ?_
        exact w_X12_looks_0_b161 (F := F) C hrc24 h hW (lv_sub hl [0, 1, 2, 3, 4] rfl)
def n_X12_looks_0_b24 (F : Nat)  (S : Zs) (x1 : Int32) (x2 : Int32) (x3 : Int32) (x4 : Int32) : Option (Int32 × Zs) :=
  zfix (fun (rc : (Zs × Int32 × Int32 × Int32 × Int32) → Option (Int32 × Zs)) (u : (Zs × Int32 × Int32 × Int32 × Int32)) => n_X12_looks_0_b24_l F  (fun S x1 x2 x3 x4 => rc (S, x1, x2, x3, x4)) u.1 u.2.1 u.2.2.1 u.2.2.2.1 u.2.2.2.2) F (S, x1, x2, x3, x4)
theorem w_X12_looks_0_b24 {F : Nat} {q : (Int32 × Zs)}  (C : zC p s m args meth c cX12_looks 8 RX12 none)  : ∀ (n : Nat) (S : Zs) (x1 : Int32) (x2 : Int32) (x3 : Int32) (x4 : Int32) (H : Heap) (locs : List Loc) (ls : Array Slot), zfix (fun (rc : (Zs × Int32 × Int32 × Int32 × Int32) → Option (Int32 × Zs)) (u : (Zs × Int32 × Int32 × Int32 × Int32)) => n_X12_looks_0_b24_l F  (fun S x1 x2 x3 x4 => rc (S, x1, x2, x3, x4)) u.1 u.2.1 u.2.2.1 u.2.2.2.1 u.2.2.2.2) n (S, x1, x2, x3, x4) = some q → zW (mG D cs ad) s S H locs → lv_has ls 8 [(0, .ref (ad 0)), (1, .int x1), (2, .int x2), (3, .int x3), (4, .int x4)] → W p l e (zR 6 140) s m args below meth c H locs 0 0 (zQv (mG D cs ad) q below args s) (F0 m 24 ls []) := by
  intro n
  induction n with
  | zero => intro S x1 x2 x3 x4 H locs ls h; exact absurd h (fun h => by cases h)
  | succ n ih => intro S x1 x2 x3 x4 H locs ls h hW hl; exact w_X12_looks_0_b24_l (F := F) C (fun S x1 x2 x3 x4 H locs ls h hW hl => ih S x1 x2 x3 x4 H locs ls h hW hl) h hW hl
def n_X12_looks_0_e (F : Nat)  (S : Zs) (x1 : Int32) : Option (Int32 × Zs) :=
  zpf S 29 (1000000 : Int32) (fun S1 => zpf S1 30 (-1 : Int32) (fun S2 => zcl (n_X12_firstOf F S2 x1) (fun v4 S3 => zcl (n_X12_secondOf F S3 x1) (fun v6 S5 => n_X12_looks_0_b24 F  S5 x1 v4 v6 (0 : Int32)))))
set_option maxRecDepth 20000 in
set_option maxHeartbeats 4000000 in
theorem w_X12_looks_0_e {F : Nat} {q : (Int32 × Zs)} {S : Zs}  {x1 : Int32} {ls : Array Slot} {H : Heap} {locs : List Loc} (C : zC p s m args meth c cX12_looks 8 RX12 none)  (h : n_X12_looks_0_e F  S x1 = some q) (hW : zW (mG D cs ad) s S H locs) (hl : lv_has ls 8 [(0, .ref (ad 0)), (1, .int x1)]) : W p l e (zR 6 140) s m args below meth c H locs 0 0 (zQv (mG D cs ad) q below args s) (F0 m 0 ls []) := by
  unfold n_X12_looks_0_e at h
  obtain ⟨hx, hb, hml, hown, hts, hret, hlk⟩ := id C
  refine lv_aload_n hx hb dX12_looks_0 rfl (lv_at hl 0 rfl) ?_
  refine lv_ldc (v := 1000000) hx hb hown (hts _ ct_X12_249) dX12_looks_1 ?_
  refine mp_0_29 C hW h fl_X12_369 dX12_looks_3 (fun S1 H locs h hW => ?_)
  refine lv_aload_n hx hb dX12_looks_6 rfl (lv_at hl 0 rfl) ?_
  refine lv_iconst (v := -1) hx hb dX12_looks_7 (by decide) ?_
  refine mp_0_30 C hW h fl_X12_372 dX12_looks_8 (fun S2 H locs h hW => ?_)
  refine lv_iload_n hx hb dX12_looks_11 rfl (lv_at hl 1 rfl) ?_
  refine zz_callSi (As := [.int x1]) C hW h (fun r hr => c_X12_firstOf hr) lk_X12_24 rfl hl.1 ⟨rfl, rfl⟩ ⟨Nat.le_of_ble_eq_true rfl, Nat.le_of_ble_eq_true rfl⟩ (Nat.le_of_ble_eq_true rfl) ⟨Nat.zero_le _, Nat.zero_le _⟩ rfl dX12_looks_12 (fun v4 S3 H locs h hW => ?_)
  refine lv_istore_n (lv' := [(2, .int v4), (0, .ref (ad 0)), (1, .int x1)]) hx hb dX12_looks_15 rfl hl (by decide) rfl (fun ls hl => ?_)
  refine lv_iload_n hx hb dX12_looks_16 rfl (lv_at hl 2 rfl) ?_
  refine zz_callSi (As := [.int x1]) C hW h (fun r hr => c_X12_secondOf hr) lk_X12_27 rfl hl.1 ⟨rfl, rfl⟩ ⟨Nat.le_of_ble_eq_true rfl, Nat.le_of_ble_eq_true rfl⟩ (Nat.le_of_ble_eq_true rfl) ⟨Nat.zero_le _, Nat.zero_le _⟩ rfl dX12_looks_17 (fun v6 S5 H locs h hW => ?_)
  refine lv_istore_n (lv' := [(3, .int v6), (2, .int v4), (0, .ref (ad 0)), (1, .int x1)]) hx hb dX12_looks_20 rfl hl (by decide) rfl (fun ls hl => ?_)
  refine lv_iconst (v := 0) hx hb dX12_looks_21 (by decide) ?_
  refine lv_istore (lv' := [(4, .int (0 : Int32)), (3, .int v6), (2, .int v4), (0, .ref (ad 0)), (1, .int x1)]) hx hb dX12_looks_22 hl (by decide) rfl (fun ls hl => ?_)
  exact w_X12_looks_0_b24 (F := F) C F _ _ _ _ _ _ _ _ h hW (lv_sub hl [3, 4, 2, 1, 0] rfl)
def n_X12_looks_0 (F : Nat) (S : Zs) (x1 : Int32) : Option (Int32 × Zs) := n_X12_looks_0_e F  S x1
theorem c_X12_looks_0 {l : Launch} {D : va_G} {cs ad : Nat → Nat} {F : Nat} {S : Zs} {x1 : Int32} {q : (Int32 × Zs)} (h : n_X12_looks_0 F S x1 = some q) : zMv l yX12_looks cX12_looks 8 none (zR 6 140) (mG D cs ad) [.ref (ad 0), .int x1] S q :=
  zz_enter (by decide) (Nat.le_of_ble_eq_true rfl) (fun p e s m below meth c ls C hW hl => w_X12_looks_0_e (F := F) C h hW (lv_sub hl [0, 1] rfl))
def n_X12_provesAll_0_b123 (F : Nat) (rc78 : Zs → Int32 → Option (Int32 × Zs)) (rc86 : Zs → Int32 → Int32 → Option (Int32 × Zs)) (S : Zs) (x1 : Int32) (x2 : Int32) : Option (Int32 × Zs) :=
  zlet (x2 + (1 : Int32)) (fun v1 => rc86 S x1 v1)
set_option maxRecDepth 20000 in
set_option maxHeartbeats 4000000 in
theorem w_X12_provesAll_0_b123 {F : Nat} {q : (Int32 × Zs)} {S : Zs} {rc78 : Zs → Int32 → Option (Int32 × Zs)} {rc86 : Zs → Int32 → Int32 → Option (Int32 × Zs)} {x1 : Int32} {x2 : Int32} {ls : Array Slot} {H : Heap} {locs : List Loc} (C : zC p s m args meth c cX12_provesAll 3 RX12 none) (hrc78 : ∀ (S : Zs) (x1 : Int32) (H : Heap) (locs : List Loc) (ls : Array Slot), rc78 S x1 = some q → zW (mG D cs ad) s S H locs → lv_has ls 3 [(0, .ref (ad 0)), (1, .int x1)] → W p l e (zR 7 167) s m args below meth c H locs 0 0 (zQv (mG D cs ad) q below args s) (F0 m 78 ls [])) (hrc86 : ∀ (S : Zs) (x1 : Int32) (x2 : Int32) (H : Heap) (locs : List Loc) (ls : Array Slot), rc86 S x1 x2 = some q → zW (mG D cs ad) s S H locs → lv_has ls 3 [(0, .ref (ad 0)), (1, .int x1), (2, .int x2)] → W p l e (zR 7 167) s m args below meth c H locs 0 0 (zQv (mG D cs ad) q below args s) (F0 m 86 ls [])) (h : n_X12_provesAll_0_b123 F rc78 rc86 S x1 x2 = some q) (hW : zW (mG D cs ad) s S H locs) (hl : lv_has ls 3 [(0, .ref (ad 0)), (1, .int x1), (2, .int x2)]) : W p l e (zR 7 167) s m args below meth c H locs 0 0 (zQv (mG D cs ad) q below args s) (F0 m 123 ls []) := by
  unfold n_X12_provesAll_0_b123 at h
  obtain ⟨hx, hb, hml, hown, hts, hret, hlk⟩ := id C
  obtain ⟨v1, ev1, h⟩ := zz_name h
  refine lv_iinc (v := v1) (lv' := [(2, .int v1), (0, .ref (ad 0)), (1, .int x1)]) hx hb dX12_provesAll_123 hl (k := 2) rfl ev1.symm (by decide) rfl (fun ls hl => ?_)
  refine lv_goto (tgt := 86) hx hb dX12_provesAll_126 (by decide) ?_
  exact hrc86 _ _ _ _ _ _ h hW (lv_sub hl [1, 2, 0] rfl)
def n_X12_provesAll_0_b86_l (F : Nat) (rc78 : Zs → Int32 → Option (Int32 × Zs)) (rc86 : Zs → Int32 → Int32 → Option (Int32 × Zs)) (S : Zs) (x1 : Int32) (x2 : Int32) : Option (Int32 × Zs) :=
  if (2304 : Int32) ≤ x2 then (rc78 S x1) else (zcl (n_X12_looks_0 F S x2) (fun v2 S1 => zgf S1 29 (fun v3 => zld S1 14 2304 x2 (fun v4 => if v4 ≤ v3 then (n_X12_provesAll_0_b123 F rc78 rc86 S1 x1 x2) else (zgf S1 29 (fun v5 => zst S1 14 2304 x2 v5 (fun S6 => n_X12_provesAll_0_b123 F rc78 rc86 S6 (1 : Int32) x2)))))))
set_option maxRecDepth 20000 in
set_option maxHeartbeats 4000000 in
theorem w_X12_provesAll_0_b86_l {F : Nat} {q : (Int32 × Zs)} {S : Zs} {rc78 : Zs → Int32 → Option (Int32 × Zs)} {rc86 : Zs → Int32 → Int32 → Option (Int32 × Zs)} {x1 : Int32} {x2 : Int32} {ls : Array Slot} {H : Heap} {locs : List Loc} (C : zC p s m args meth c cX12_provesAll 3 RX12 none) (hrc78 : ∀ (S : Zs) (x1 : Int32) (H : Heap) (locs : List Loc) (ls : Array Slot), rc78 S x1 = some q → zW (mG D cs ad) s S H locs → lv_has ls 3 [(0, .ref (ad 0)), (1, .int x1)] → W p l e (zR 7 167) s m args below meth c H locs 0 0 (zQv (mG D cs ad) q below args s) (F0 m 78 ls [])) (hrc86 : ∀ (S : Zs) (x1 : Int32) (x2 : Int32) (H : Heap) (locs : List Loc) (ls : Array Slot), rc86 S x1 x2 = some q → zW (mG D cs ad) s S H locs → lv_has ls 3 [(0, .ref (ad 0)), (1, .int x1), (2, .int x2)] → W p l e (zR 7 167) s m args below meth c H locs 0 0 (zQv (mG D cs ad) q below args s) (F0 m 86 ls [])) (h : n_X12_provesAll_0_b86_l F rc78 rc86 S x1 x2 = some q) (hW : zW (mG D cs ad) s S H locs) (hl : lv_has ls 3 [(0, .ref (ad 0)), (1, .int x1), (2, .int x2)]) : W p l e (zR 7 167) s m args below meth c H locs 0 0 (zQv (mG D cs ad) q below args s) (F0 m 86 ls []) := by
  unfold n_X12_provesAll_0_b86_l at h
  obtain ⟨hx, hb, hml, hown, hts, hret, hlk⟩ := id C
  refine lv_iload_n hx hb dX12_provesAll_86 rfl (lv_at hl 2 rfl) ?_
  refine lv_sipush (v := 2304) hx hb dX12_provesAll_87 (by decide) ?_
  refine zz_cge (tgt := 129) C h dX12_provesAll_90 (by decide) (fun h => ?_) (fun h => ?_)
  · refine lv_goto (tgt := 78) hx hb dX12_provesAll_129 (by decide) ?_
    exact hrc78 _ _ _ _ _ h hW (lv_sub hl [0, 1] rfl)
  · refine lv_aload_n hx hb dX12_provesAll_93 rfl (lv_at hl 0 rfl) ?_
    refine lv_iload_n hx hb dX12_provesAll_94 rfl (lv_at hl 2 rfl) ?_
    refine zz_callVv (As := [.int x2]) C hW h (fun r hr => c_X12_looks_0 hr) lk_X12_394 (hW.recv mr_0) rfl hl.1 ⟨rfl, rfl⟩ ⟨Nat.le_of_ble_eq_true rfl, Nat.le_of_ble_eq_true rfl⟩ (Nat.le_of_ble_eq_true rfl) ⟨Nat.zero_le _, Nat.zero_le _⟩ rfl dX12_provesAll_95 (fun v2 S1 H locs h hW => ?_)
    refine lv_aload_n hx hb dX12_provesAll_98 rfl (lv_at hl 0 rfl) ?_
    refine mg_0_29 C hW h fl_X12_369 dX12_provesAll_99 (fun v3 h => ?_)
    refine lv_aload_n hx hb dX12_provesAll_102 rfl (lv_at hl 0 rfl) ?_
    refine mg_0_28 C hW fl_X12_387 dX12_provesAll_103 ?_
    refine lv_iload_n hx hb dX12_provesAll_106 rfl (lv_at hl 2 rfl) ?_
    refine ml_14 C hW h dX12_provesAll_107 (fun v4 h => ?_)
    refine zz_cge (tgt := 123) C h dX12_provesAll_108 (by decide) (fun h => ?_) (fun h => ?_)
    · exact w_X12_provesAll_0_b123 (F := F) C hrc78 hrc86 h hW (lv_sub hl [0, 1, 2] rfl)
    · refine lv_aload_n hx hb dX12_provesAll_111 rfl (lv_at hl 0 rfl) ?_
      refine mg_0_28 C hW fl_X12_387 dX12_provesAll_112 ?_
      refine lv_iload_n hx hb dX12_provesAll_115 rfl (lv_at hl 2 rfl) ?_
      refine lv_aload_n hx hb dX12_provesAll_116 rfl (lv_at hl 0 rfl) ?_
      refine mg_0_29 C hW h fl_X12_369 dX12_provesAll_117 (fun v5 h => ?_)
      refine ms_14 C hW h dX12_provesAll_120 (fun S6 H locs h hW => ?_)
      refine lv_iconst (v := 1) hx hb dX12_provesAll_121 (by decide) ?_
      refine lv_istore_n (lv' := [(1, .int (1 : Int32)), (0, .ref (ad 0)), (2, .int x2)]) hx hb dX12_provesAll_122 rfl hl (by decide) rfl (fun ls hl => ?_)
      exact w_X12_provesAll_0_b123 (F := F) C hrc78 hrc86 h hW (lv_sub hl [1, 0, 2] rfl)
def n_X12_provesAll_0_b86 (F : Nat) (rc78 : Zs → Int32 → Option (Int32 × Zs)) (S : Zs) (x1 : Int32) (x2 : Int32) : Option (Int32 × Zs) :=
  zfix (fun (rc : (Zs × Int32 × Int32) → Option (Int32 × Zs)) (u : (Zs × Int32 × Int32)) => n_X12_provesAll_0_b86_l F rc78 (fun S x1 x2 => rc (S, x1, x2)) u.1 u.2.1 u.2.2) F (S, x1, x2)
theorem w_X12_provesAll_0_b86 {F : Nat} {q : (Int32 × Zs)} {rc78 : Zs → Int32 → Option (Int32 × Zs)} (C : zC p s m args meth c cX12_provesAll 3 RX12 none) (hrc78 : ∀ (S : Zs) (x1 : Int32) (H : Heap) (locs : List Loc) (ls : Array Slot), rc78 S x1 = some q → zW (mG D cs ad) s S H locs → lv_has ls 3 [(0, .ref (ad 0)), (1, .int x1)] → W p l e (zR 7 167) s m args below meth c H locs 0 0 (zQv (mG D cs ad) q below args s) (F0 m 78 ls [])) : ∀ (n : Nat) (S : Zs) (x1 : Int32) (x2 : Int32) (H : Heap) (locs : List Loc) (ls : Array Slot), zfix (fun (rc : (Zs × Int32 × Int32) → Option (Int32 × Zs)) (u : (Zs × Int32 × Int32)) => n_X12_provesAll_0_b86_l F rc78 (fun S x1 x2 => rc (S, x1, x2)) u.1 u.2.1 u.2.2) n (S, x1, x2) = some q → zW (mG D cs ad) s S H locs → lv_has ls 3 [(0, .ref (ad 0)), (1, .int x1), (2, .int x2)] → W p l e (zR 7 167) s m args below meth c H locs 0 0 (zQv (mG D cs ad) q below args s) (F0 m 86 ls []) := by
  intro n
  induction n with
  | zero => intro S x1 x2 H locs ls h; exact absurd h (fun h => by cases h)
  | succ n ih => intro S x1 x2 H locs ls h hW hl; exact w_X12_provesAll_0_b86_l (F := F) C hrc78 (fun S x1 x2 H locs ls h hW hl => ih S x1 x2 H locs ls h hW hl) h hW hl
def n_X12_provesAll_0_b78_l (F : Nat) (rc78 : Zs → Int32 → Option (Int32 × Zs)) (S : Zs) (x1 : Int32) : Option (Int32 × Zs) :=
  if x1 = 0 then (some (0, S)) else (n_X12_provesAll_0_b86 F rc78 S (0 : Int32) (0 : Int32))
set_option maxRecDepth 20000 in
set_option maxHeartbeats 4000000 in
theorem w_X12_provesAll_0_b78_l {F : Nat} {q : (Int32 × Zs)} {S : Zs} {rc78 : Zs → Int32 → Option (Int32 × Zs)} {x1 : Int32} {ls : Array Slot} {H : Heap} {locs : List Loc} (C : zC p s m args meth c cX12_provesAll 3 RX12 none) (hrc78 : ∀ (S : Zs) (x1 : Int32) (H : Heap) (locs : List Loc) (ls : Array Slot), rc78 S x1 = some q → zW (mG D cs ad) s S H locs → lv_has ls 3 [(0, .ref (ad 0)), (1, .int x1)] → W p l e (zR 7 167) s m args below meth c H locs 0 0 (zQv (mG D cs ad) q below args s) (F0 m 78 ls [])) (h : n_X12_provesAll_0_b78_l F rc78 S x1 = some q) (hW : zW (mG D cs ad) s S H locs) (hl : lv_has ls 3 [(0, .ref (ad 0)), (1, .int x1)]) : W p l e (zR 7 167) s m args below meth c H locs 0 0 (zQv (mG D cs ad) q below args s) (F0 m 78 ls []) := by
  unfold n_X12_provesAll_0_b78_l at h
  obtain ⟨hx, hb, hml, hown, hts, hret, hlk⟩ := id C
  refine lv_iload_n hx hb dX12_provesAll_78 rfl (lv_at hl 1 rfl) ?_
  refine zz_ieq (tgt := 132) C h dX12_provesAll_79 (by decide) (fun h => ?_) (fun h => ?_)
  · exact zz_vret C rfl h hW dX12_provesAll_132
  · refine lv_iconst (v := 0) hx hb dX12_provesAll_82 (by decide) ?_
    refine lv_istore_n (lv' := [(1, .int (0 : Int32)), (0, .ref (ad 0))]) hx hb dX12_provesAll_83 rfl hl (by decide) rfl (fun ls hl => ?_)
    refine lv_iconst (v := 0) hx hb dX12_provesAll_84 (by decide) ?_
    refine lv_istore_n (lv' := [(2, .int (0 : Int32)), (1, .int (0 : Int32)), (0, .ref (ad 0))]) hx hb dX12_provesAll_85 rfl hl (by decide) rfl (fun ls hl => ?_)
    exact w_X12_provesAll_0_b86 (F := F) C hrc78 F _ _ _ _ _ _ h hW (lv_sub hl [2, 1, 0] rfl)
def n_X12_provesAll_0_b78 (F : Nat)  (S : Zs) (x1 : Int32) : Option (Int32 × Zs) :=
  zfix (fun (rc : (Zs × Int32) → Option (Int32 × Zs)) (u : (Zs × Int32)) => n_X12_provesAll_0_b78_l F  (fun S x1 => rc (S, x1)) u.1 u.2) F (S, x1)
theorem w_X12_provesAll_0_b78 {F : Nat} {q : (Int32 × Zs)}  (C : zC p s m args meth c cX12_provesAll 3 RX12 none)  : ∀ (n : Nat) (S : Zs) (x1 : Int32) (H : Heap) (locs : List Loc) (ls : Array Slot), zfix (fun (rc : (Zs × Int32) → Option (Int32 × Zs)) (u : (Zs × Int32)) => n_X12_provesAll_0_b78_l F  (fun S x1 => rc (S, x1)) u.1 u.2) n (S, x1) = some q → zW (mG D cs ad) s S H locs → lv_has ls 3 [(0, .ref (ad 0)), (1, .int x1)] → W p l e (zR 7 167) s m args below meth c H locs 0 0 (zQv (mG D cs ad) q below args s) (F0 m 78 ls []) := by
  intro n
  induction n with
  | zero => intro S x1 H locs ls h; exact absurd h (fun h => by cases h)
  | succ n ih => intro S x1 H locs ls h hW hl; exact w_X12_provesAll_0_b78_l (F := F) C (fun S x1 H locs ls h hW hl => ih S x1 H locs ls h hW hl) h hW hl
def n_X12_provesAll_0_b69 (F : Nat) (rc25 : Zs → Int32 → Option (Int32 × Zs)) (S : Zs) (x1 : Int32) (t0 : Int32) (t1 : Int32) : Option (Int32 × Zs) :=
  zst S 14 2304 t1 t0 (fun S1 => zlet (x1 + (1 : Int32)) (fun v2 => rc25 S1 v2))
set_option maxRecDepth 20000 in
set_option maxHeartbeats 4000000 in
theorem w_X12_provesAll_0_b69 {F : Nat} {q : (Int32 × Zs)} {S : Zs} {rc25 : Zs → Int32 → Option (Int32 × Zs)} {x1 : Int32} {t0 : Int32} {t1 : Int32} {ls : Array Slot} {H : Heap} {locs : List Loc} (C : zC p s m args meth c cX12_provesAll 3 RX12 none) (hrc25 : ∀ (S : Zs) (x1 : Int32) (H : Heap) (locs : List Loc) (ls : Array Slot), rc25 S x1 = some q → zW (mG D cs ad) s S H locs → lv_has ls 3 [(0, .ref (ad 0)), (1, .int x1)] → W p l e (zR 7 167) s m args below meth c H locs 0 0 (zQv (mG D cs ad) q below args s) (F0 m 25 ls [])) (h : n_X12_provesAll_0_b69 F rc25 S x1 t0 t1 = some q) (hW : zW (mG D cs ad) s S H locs) (hl : lv_has ls 3 [(0, .ref (ad 0)), (1, .int x1)]) : W p l e (zR 7 167) s m args below meth c H locs 0 0 (zQv (mG D cs ad) q below args s) (F0 m 69 ls [.int t0, .int t1, .ref (ad 14)]) := by
  unfold n_X12_provesAll_0_b69 at h
  obtain ⟨hx, hb, hml, hown, hts, hret, hlk⟩ := id C
  refine ms_14 C hW h dX12_provesAll_69 (fun S1 H locs h hW => ?_)
  obtain ⟨v2, ev2, h⟩ := zz_name h
  refine lv_iinc (v := v2) (lv' := [(1, .int v2), (0, .ref (ad 0))]) hx hb dX12_provesAll_70 hl (k := 1) rfl ev2.symm (by decide) rfl (fun ls hl => ?_)
  refine lv_goto (tgt := 25) hx hb dX12_provesAll_73 (by decide) ?_
  exact hrc25 _ _ _ _ _ h hW (lv_sub hl [1, 0] rfl)
def n_X12_provesAll_0_b25_l (F : Nat) (rc25 : Zs → Int32 → Option (Int32 × Zs)) (S : Zs) (x1 : Int32) : Option (Int32 × Zs) :=
  zgf S 3 (fun v1 => if v1 ≤ x1 then (n_X12_provesAll_0_b78 F  S (1 : Int32)) else (zld S 2 16 x1 (fun v2 => zgf S 7 (fun v3 => zcl (n_X12_has F S v3 x1) (fun v5 S4 => if v5 = 0 then (n_X12_provesAll_0_b69 F rc25 S4 x1 (0 : Int32) v2) else (zld S4 2 16 x1 (fun v6 => zld S4 14 2304 v6 (fun v7 => n_X12_provesAll_0_b69 F rc25 S4 x1 v7 v2))))))))
set_option maxRecDepth 20000 in
set_option maxHeartbeats 4000000 in
theorem w_X12_provesAll_0_b25_l {F : Nat} {q : (Int32 × Zs)} {S : Zs} {rc25 : Zs → Int32 → Option (Int32 × Zs)} {x1 : Int32} {ls : Array Slot} {H : Heap} {locs : List Loc} (C : zC p s m args meth c cX12_provesAll 3 RX12 none) (hrc25 : ∀ (S : Zs) (x1 : Int32) (H : Heap) (locs : List Loc) (ls : Array Slot), rc25 S x1 = some q → zW (mG D cs ad) s S H locs → lv_has ls 3 [(0, .ref (ad 0)), (1, .int x1)] → W p l e (zR 7 167) s m args below meth c H locs 0 0 (zQv (mG D cs ad) q below args s) (F0 m 25 ls [])) (h : n_X12_provesAll_0_b25_l F rc25 S x1 = some q) (hW : zW (mG D cs ad) s S H locs) (hl : lv_has ls 3 [(0, .ref (ad 0)), (1, .int x1)]) : W p l e (zR 7 167) s m args below meth c H locs 0 0 (zQv (mG D cs ad) q below args s) (F0 m 25 ls []) := by
  unfold n_X12_provesAll_0_b25_l at h
  obtain ⟨hx, hb, hml, hown, hts, hret, hlk⟩ := id C
  refine lv_iload_n hx hb dX12_provesAll_25 rfl (lv_at hl 1 rfl) ?_
  refine lv_aload_n hx hb dX12_provesAll_26 rfl (lv_at hl 0 rfl) ?_
  refine mg_0_3 C hW h fl_X12_105 dX12_provesAll_27 (fun v1 h => ?_)
  refine zz_cge (tgt := 76) C h dX12_provesAll_30 (by decide) (fun h => ?_) (fun h => ?_)
  · refine lv_iconst (v := 1) hx hb dX12_provesAll_76 (by decide) ?_
    refine lv_istore_n (lv' := [(1, .int (1 : Int32)), (0, .ref (ad 0))]) hx hb dX12_provesAll_77 rfl hl (by decide) rfl (fun ls hl => ?_)
    exact w_X12_provesAll_0_b78 (F := F) C F _ _ _ _ _ h hW (lv_sub hl [1, 0] rfl)
  · refine lv_aload_n hx hb dX12_provesAll_33 rfl (lv_at hl 0 rfl) ?_
    refine mg_0_28 C hW fl_X12_387 dX12_provesAll_34 ?_
    refine lv_aload_n hx hb dX12_provesAll_37 rfl (lv_at hl 0 rfl) ?_
    refine mg_0_4 C hW fl_X12_87 dX12_provesAll_38 ?_
    refine lv_iload_n hx hb dX12_provesAll_41 rfl (lv_at hl 1 rfl) ?_
    refine ml_2 C hW h dX12_provesAll_42 (fun v2 h => ?_)
    refine lv_aload_n hx hb dX12_provesAll_43 rfl (lv_at hl 0 rfl) ?_
    refine mg_0_7 C hW h fl_X12_126 dX12_provesAll_44 (fun v3 h => ?_)
    refine lv_iload_n hx hb dX12_provesAll_47 rfl (lv_at hl 1 rfl) ?_
    refine zz_callSi (As := [.int v3, .int x1]) C hW h (fun r hr => c_X12_has hr) lk_X12_129 rfl hl.1 ⟨rfl, rfl⟩ ⟨Nat.le_of_ble_eq_true rfl, Nat.le_of_ble_eq_true rfl⟩ (Nat.le_of_ble_eq_true rfl) ⟨Nat.zero_le _, Nat.zero_le _⟩ rfl dX12_provesAll_48 (fun v5 S4 H locs h hW => ?_)
    refine zz_ieq (tgt := 68) C h dX12_provesAll_51 (by decide) (fun h => ?_) (fun h => ?_)
    · refine lv_iconst (v := 0) hx hb dX12_provesAll_68 (by decide) ?_
      exact w_X12_provesAll_0_b69 (F := F) C hrc25 h hW (lv_sub hl [0, 1] rfl)
    · refine lv_aload_n hx hb dX12_provesAll_54 rfl (lv_at hl 0 rfl) ?_
      refine mg_0_28 C hW fl_X12_387 dX12_provesAll_55 ?_
      refine lv_aload_n hx hb dX12_provesAll_58 rfl (lv_at hl 0 rfl) ?_
      refine mg_0_4 C hW fl_X12_87 dX12_provesAll_59 ?_
      refine lv_iload_n hx hb dX12_provesAll_62 rfl (lv_at hl 1 rfl) ?_
      refine ml_2 C hW h dX12_provesAll_63 (fun v6 h => ?_)
      refine ml_14 C hW h dX12_provesAll_64 (fun v7 h => ?_)
      refine lv_goto (tgt := 69) hx hb dX12_provesAll_65 (by decide) ?_
      exact w_X12_provesAll_0_b69 (F := F) C hrc25 h hW (lv_sub hl [0, 1] rfl)
def n_X12_provesAll_0_b25 (F : Nat)  (S : Zs) (x1 : Int32) : Option (Int32 × Zs) :=
  zfix (fun (rc : (Zs × Int32) → Option (Int32 × Zs)) (u : (Zs × Int32)) => n_X12_provesAll_0_b25_l F  (fun S x1 => rc (S, x1)) u.1 u.2) F (S, x1)
theorem w_X12_provesAll_0_b25 {F : Nat} {q : (Int32 × Zs)}  (C : zC p s m args meth c cX12_provesAll 3 RX12 none)  : ∀ (n : Nat) (S : Zs) (x1 : Int32) (H : Heap) (locs : List Loc) (ls : Array Slot), zfix (fun (rc : (Zs × Int32) → Option (Int32 × Zs)) (u : (Zs × Int32)) => n_X12_provesAll_0_b25_l F  (fun S x1 => rc (S, x1)) u.1 u.2) n (S, x1) = some q → zW (mG D cs ad) s S H locs → lv_has ls 3 [(0, .ref (ad 0)), (1, .int x1)] → W p l e (zR 7 167) s m args below meth c H locs 0 0 (zQv (mG D cs ad) q below args s) (F0 m 25 ls []) := by
  intro n
  induction n with
  | zero => intro S x1 H locs ls h; exact absurd h (fun h => by cases h)
  | succ n ih => intro S x1 H locs ls h hW hl; exact w_X12_provesAll_0_b25_l (F := F) C (fun S x1 H locs ls h hW hl => ih S x1 H locs ls h hW hl) h hW hl
def n_X12_provesAll_0_b2_l (F : Nat) (rc2 : Zs → Int32 → Option (Int32 × Zs)) (S : Zs) (x1 : Int32) : Option (Int32 × Zs) :=
  if (2304 : Int32) ≤ x1 then (n_X12_provesAll_0_b25 F  S (0 : Int32)) else (zst S 14 2304 x1 (1000000 : Int32) (fun S1 => zlet (x1 + (1 : Int32)) (fun v2 => rc2 S1 v2)))
set_option maxRecDepth 20000 in
set_option maxHeartbeats 4000000 in
theorem w_X12_provesAll_0_b2_l {F : Nat} {q : (Int32 × Zs)} {S : Zs} {rc2 : Zs → Int32 → Option (Int32 × Zs)} {x1 : Int32} {ls : Array Slot} {H : Heap} {locs : List Loc} (C : zC p s m args meth c cX12_provesAll 3 RX12 none) (hrc2 : ∀ (S : Zs) (x1 : Int32) (H : Heap) (locs : List Loc) (ls : Array Slot), rc2 S x1 = some q → zW (mG D cs ad) s S H locs → lv_has ls 3 [(0, .ref (ad 0)), (1, .int x1)] → W p l e (zR 7 167) s m args below meth c H locs 0 0 (zQv (mG D cs ad) q below args s) (F0 m 2 ls [])) (h : n_X12_provesAll_0_b2_l F rc2 S x1 = some q) (hW : zW (mG D cs ad) s S H locs) (hl : lv_has ls 3 [(0, .ref (ad 0)), (1, .int x1)]) : W p l e (zR 7 167) s m args below meth c H locs 0 0 (zQv (mG D cs ad) q below args s) (F0 m 2 ls []) := by
  unfold n_X12_provesAll_0_b2_l at h
  obtain ⟨hx, hb, hml, hown, hts, hret, hlk⟩ := id C
  refine lv_iload_n hx hb dX12_provesAll_2 rfl (lv_at hl 1 rfl) ?_
  refine lv_sipush (v := 2304) hx hb dX12_provesAll_3 (by decide) ?_
  refine zz_cge (tgt := 23) C h dX12_provesAll_6 (by decide) (fun h => ?_) (fun h => ?_)
  · refine lv_iconst (v := 0) hx hb dX12_provesAll_23 (by decide) ?_
    refine lv_istore_n (lv' := [(1, .int (0 : Int32)), (0, .ref (ad 0))]) hx hb dX12_provesAll_24 rfl hl (by decide) rfl (fun ls hl => ?_)
    exact w_X12_provesAll_0_b25 (F := F) C F _ _ _ _ _ h hW (lv_sub hl [1, 0] rfl)
  · refine lv_aload_n hx hb dX12_provesAll_9 rfl (lv_at hl 0 rfl) ?_
    refine mg_0_28 C hW fl_X12_387 dX12_provesAll_10 ?_
    refine lv_iload_n hx hb dX12_provesAll_13 rfl (lv_at hl 1 rfl) ?_
    refine lv_ldc (v := 1000000) hx hb hown (hts _ ct_X12_249) dX12_provesAll_14 ?_
    refine ms_14 C hW h dX12_provesAll_16 (fun S1 H locs h hW => ?_)
    obtain ⟨v2, ev2, h⟩ := zz_name h
    refine lv_iinc (v := v2) (lv' := [(1, .int v2), (0, .ref (ad 0))]) hx hb dX12_provesAll_17 hl (k := 1) rfl ev2.symm (by decide) rfl (fun ls hl => ?_)
    refine lv_goto (tgt := 2) hx hb dX12_provesAll_20 (by decide) ?_
    exact hrc2 _ _ _ _ _ h hW (lv_sub hl [1, 0] rfl)
def n_X12_provesAll_0_b2 (F : Nat)  (S : Zs) (x1 : Int32) : Option (Int32 × Zs) :=
  zfix (fun (rc : (Zs × Int32) → Option (Int32 × Zs)) (u : (Zs × Int32)) => n_X12_provesAll_0_b2_l F  (fun S x1 => rc (S, x1)) u.1 u.2) F (S, x1)
theorem w_X12_provesAll_0_b2 {F : Nat} {q : (Int32 × Zs)}  (C : zC p s m args meth c cX12_provesAll 3 RX12 none)  : ∀ (n : Nat) (S : Zs) (x1 : Int32) (H : Heap) (locs : List Loc) (ls : Array Slot), zfix (fun (rc : (Zs × Int32) → Option (Int32 × Zs)) (u : (Zs × Int32)) => n_X12_provesAll_0_b2_l F  (fun S x1 => rc (S, x1)) u.1 u.2) n (S, x1) = some q → zW (mG D cs ad) s S H locs → lv_has ls 3 [(0, .ref (ad 0)), (1, .int x1)] → W p l e (zR 7 167) s m args below meth c H locs 0 0 (zQv (mG D cs ad) q below args s) (F0 m 2 ls []) := by
  intro n
  induction n with
  | zero => intro S x1 H locs ls h; exact absurd h (fun h => by cases h)
  | succ n ih => intro S x1 H locs ls h hW hl; exact w_X12_provesAll_0_b2_l (F := F) C (fun S x1 H locs ls h hW hl => ih S x1 H locs ls h hW hl) h hW hl
def n_X12_provesAll_0_e (F : Nat)  (S : Zs)  : Option (Int32 × Zs) :=
  n_X12_provesAll_0_b2 F  S (0 : Int32)
set_option maxRecDepth 20000 in
set_option maxHeartbeats 4000000 in
theorem w_X12_provesAll_0_e {F : Nat} {q : (Int32 × Zs)} {S : Zs}   {ls : Array Slot} {H : Heap} {locs : List Loc} (C : zC p s m args meth c cX12_provesAll 3 RX12 none)  (h : n_X12_provesAll_0_e F  S  = some q) (hW : zW (mG D cs ad) s S H locs) (hl : lv_has ls 3 [(0, .ref (ad 0))]) : W p l e (zR 7 167) s m args below meth c H locs 0 0 (zQv (mG D cs ad) q below args s) (F0 m 0 ls []) := by
  unfold n_X12_provesAll_0_e at h
  obtain ⟨hx, hb, hml, hown, hts, hret, hlk⟩ := id C
  refine lv_iconst (v := 0) hx hb dX12_provesAll_0 (by decide) ?_
  refine lv_istore_n (lv' := [(1, .int (0 : Int32)), (0, .ref (ad 0))]) hx hb dX12_provesAll_1 rfl hl (by decide) rfl (fun ls hl => ?_)
  exact w_X12_provesAll_0_b2 (F := F) C F _ _ _ _ _ h hW (lv_sub hl [1, 0] rfl)
def n_X12_provesAll_0 (F : Nat) (S : Zs)  : Option (Int32 × Zs) := n_X12_provesAll_0_e F  S 
theorem c_X12_provesAll_0 {l : Launch} {D : va_G} {cs ad : Nat → Nat} {F : Nat} {S : Zs}  {q : (Int32 × Zs)} (h : n_X12_provesAll_0 F S  = some q) : zMv l yX12_provesAll cX12_provesAll 3 none (zR 7 167) (mG D cs ad) [.ref (ad 0)] S q :=
  zz_enter (by decide) (Nat.le_of_ble_eq_true rfl) (fun p e s m below meth c ls C hW hl => w_X12_provesAll_0_e (F := F) C h hW (lv_sub hl [0] rfl))
def n_X12_proof_0_b111 (F : Nat)  (S : Zs) (x1 : Int32) (t0 : Int32) : Option (Int32 × Zs) :=
  zcl (n_X12_enters_0 F S t0) (fun v2 S1 => zld S1 14 2304 x1 (fun v3 => some (v3, S1)))
set_option maxRecDepth 20000 in
set_option maxHeartbeats 4000000 in
theorem w_X12_proof_0_b111 {F : Nat} {q : (Int32 × Zs)} {S : Zs}  {x1 : Int32} {t0 : Int32} {ls : Array Slot} {H : Heap} {locs : List Loc} (C : zC p s m args meth c cX12_proof 3 RX12 (some .int))  (h : n_X12_proof_0_b111 F  S x1 t0 = some q) (hW : zW (mG D cs ad) s S H locs) (hl : lv_has ls 3 [(0, .ref (ad 0)), (1, .int x1)]) : W p l e (zR 8 189) s m args below meth c H locs 0 0 (zQi (mG D cs ad) q below args s) (F0 m 111 ls [.int t0, .ref (ad 0)]) := by
  unfold n_X12_proof_0_b111 at h
  obtain ⟨hx, hb, hml, hown, hts, hret, hlk⟩ := id C
  refine zz_callVv (As := [.int t0]) C hW h (fun r hr => c_X12_enters_0 hr) lk_X12_221 (hW.recv mr_0) rfl hl.1 ⟨rfl, rfl⟩ ⟨Nat.le_of_ble_eq_true rfl, Nat.le_of_ble_eq_true rfl⟩ (Nat.le_of_ble_eq_true rfl) ⟨Nat.zero_le _, Nat.zero_le _⟩ rfl dX12_proof_111 (fun v2 S1 H locs h hW => ?_)
  refine lv_aload_n hx hb dX12_proof_114 rfl (lv_at hl 0 rfl) ?_
  refine mg_0_28 C hW fl_X12_387 dX12_proof_115 ?_
  refine lv_iload_n hx hb dX12_proof_118 rfl (lv_at hl 1 rfl) ?_
  refine ml_14 C hW h dX12_proof_119 (fun v3 h => ?_)
  exact zz_iret C rfl h hW dX12_proof_120
def n_X12_proof_0_b95 (F : Nat)  (S : Zs) (x1 : Int32) (x2 : Int32) (t0 : Int32) : Option (Int32 × Zs) :=
  zcl (n_X12_enters_0 F S t0) (fun v2 S1 => if x2 = 0 then (n_X12_proof_0_b111 F  S1 x1 (-1 : Int32)) else (zgf S1 32 (fun v3 => n_X12_proof_0_b111 F  S1 x1 v3)))
set_option maxRecDepth 20000 in
set_option maxHeartbeats 4000000 in
theorem w_X12_proof_0_b95 {F : Nat} {q : (Int32 × Zs)} {S : Zs}  {x1 : Int32} {x2 : Int32} {t0 : Int32} {ls : Array Slot} {H : Heap} {locs : List Loc} (C : zC p s m args meth c cX12_proof 3 RX12 (some .int))  (h : n_X12_proof_0_b95 F  S x1 x2 t0 = some q) (hW : zW (mG D cs ad) s S H locs) (hl : lv_has ls 3 [(0, .ref (ad 0)), (1, .int x1), (2, .int x2)]) : W p l e (zR 8 189) s m args below meth c H locs 0 0 (zQi (mG D cs ad) q below args s) (F0 m 95 ls [.int t0, .ref (ad 0)]) := by
  unfold n_X12_proof_0_b95 at h
  obtain ⟨hx, hb, hml, hown, hts, hret, hlk⟩ := id C
  refine zz_callVv (As := [.int t0]) C hW h (fun r hr => c_X12_enters_0 hr) lk_X12_221 (hW.recv mr_0) rfl hl.1 ⟨rfl, rfl⟩ ⟨Nat.le_of_ble_eq_true rfl, Nat.le_of_ble_eq_true rfl⟩ (Nat.le_of_ble_eq_true rfl) ⟨Nat.zero_le _, Nat.zero_le _⟩ rfl dX12_proof_95 (fun v2 S1 H locs h hW => ?_)
  refine lv_aload_n hx hb dX12_proof_98 rfl (lv_at hl 0 rfl) ?_
  refine lv_iload_n hx hb dX12_proof_99 rfl (lv_at hl 2 rfl) ?_
  refine zz_ieq (tgt := 110) C h dX12_proof_100 (by decide) (fun h => ?_) (fun h => ?_)
  · refine lv_iconst (v := -1) hx hb dX12_proof_110 (by decide) ?_
    exact w_X12_proof_0_b111 (F := F) C h hW (lv_sub hl [0, 1] rfl)
  · refine lv_aload_n hx hb dX12_proof_103 rfl (lv_at hl 0 rfl) ?_
    refine mg_0_32 C hW h fl_X12_378 dX12_proof_104 (fun v3 h => ?_)
    refine lv_goto (tgt := 111) hx hb dX12_proof_107 (by decide) ?_
    exact w_X12_proof_0_b111 (F := F) C h hW (lv_sub hl [0, 1] rfl)
def n_X12_proof_0_b79 (F : Nat)  (S : Zs) (x1 : Int32) (x2 : Int32) (t0 : Int32) : Option (Int32 × Zs) :=
  zcl (n_X12_enters_0 F S t0) (fun v2 S1 => if x2 = 0 then (n_X12_proof_0_b95 F  S1 x1 x2 (-1 : Int32)) else (zgf S1 31 (fun v3 => n_X12_proof_0_b95 F  S1 x1 x2 v3)))
set_option maxRecDepth 20000 in
set_option maxHeartbeats 4000000 in
theorem w_X12_proof_0_b79 {F : Nat} {q : (Int32 × Zs)} {S : Zs}  {x1 : Int32} {x2 : Int32} {t0 : Int32} {ls : Array Slot} {H : Heap} {locs : List Loc} (C : zC p s m args meth c cX12_proof 3 RX12 (some .int))  (h : n_X12_proof_0_b79 F  S x1 x2 t0 = some q) (hW : zW (mG D cs ad) s S H locs) (hl : lv_has ls 3 [(0, .ref (ad 0)), (1, .int x1), (2, .int x2)]) : W p l e (zR 8 189) s m args below meth c H locs 0 0 (zQi (mG D cs ad) q below args s) (F0 m 79 ls [.int t0, .ref (ad 0)]) := by
  unfold n_X12_proof_0_b79 at h
  obtain ⟨hx, hb, hml, hown, hts, hret, hlk⟩ := id C
  refine zz_callVv (As := [.int t0]) C hW h (fun r hr => c_X12_enters_0 hr) lk_X12_221 (hW.recv mr_0) rfl hl.1 ⟨rfl, rfl⟩ ⟨Nat.le_of_ble_eq_true rfl, Nat.le_of_ble_eq_true rfl⟩ (Nat.le_of_ble_eq_true rfl) ⟨Nat.zero_le _, Nat.zero_le _⟩ rfl dX12_proof_79 (fun v2 S1 H locs h hW => ?_)
  refine lv_aload_n hx hb dX12_proof_82 rfl (lv_at hl 0 rfl) ?_
  refine lv_iload_n hx hb dX12_proof_83 rfl (lv_at hl 2 rfl) ?_
  refine zz_ieq (tgt := 94) C h dX12_proof_84 (by decide) (fun h => ?_) (fun h => ?_)
  · refine lv_iconst (v := -1) hx hb dX12_proof_94 (by decide) ?_
    exact w_X12_proof_0_b95 (F := F) C h hW (lv_sub hl [0, 1, 2] rfl)
  · refine lv_aload_n hx hb dX12_proof_87 rfl (lv_at hl 0 rfl) ?_
    refine mg_0_31 C hW h fl_X12_375 dX12_proof_88 (fun v3 h => ?_)
    refine lv_goto (tgt := 95) hx hb dX12_proof_91 (by decide) ?_
    exact w_X12_proof_0_b95 (F := F) C h hW (lv_sub hl [0, 1, 2] rfl)
def n_X12_proof_0_b60 (F : Nat)  (S : Zs) (x1 : Int32) (t0 : Int32) : Option (Int32 × Zs) :=
  zpf S 1 (0 : Int32) (fun S1 => if t0 = 0 then (n_X12_proof_0_b79 F  S1 x1 t0 (-1 : Int32)) else (zgf S1 30 (fun v2 => n_X12_proof_0_b79 F  S1 x1 t0 v2)))
set_option maxRecDepth 20000 in
set_option maxHeartbeats 4000000 in
theorem w_X12_proof_0_b60 {F : Nat} {q : (Int32 × Zs)} {S : Zs}  {x1 : Int32} {t0 : Int32} {ls : Array Slot} {H : Heap} {locs : List Loc} (C : zC p s m args meth c cX12_proof 3 RX12 (some .int))  (h : n_X12_proof_0_b60 F  S x1 t0 = some q) (hW : zW (mG D cs ad) s S H locs) (hl : lv_has ls 3 [(0, .ref (ad 0)), (1, .int x1)]) : W p l e (zR 8 189) s m args below meth c H locs 0 0 (zQi (mG D cs ad) q below args s) (F0 m 60 ls [.int t0]) := by
  unfold n_X12_proof_0_b60 at h
  obtain ⟨hx, hb, hml, hown, hts, hret, hlk⟩ := id C
  refine lv_istore_n (lv' := [(2, .int t0), (0, .ref (ad 0)), (1, .int x1)]) hx hb dX12_proof_60 rfl hl (by decide) rfl (fun ls hl => ?_)
  refine lv_aload_n hx hb dX12_proof_61 rfl (lv_at hl 1 rfl) ?_
  refine lv_iconst (v := 0) hx hb dX12_proof_62 (by decide) ?_
  refine mp_0_1 C hW h fl_X12_11 dX12_proof_63 (fun S1 H locs h hW => ?_)
  refine lv_aload_n hx hb dX12_proof_66 rfl (lv_at hl 1 rfl) ?_
  refine lv_iload_n hx hb dX12_proof_67 rfl (lv_at hl 0 rfl) ?_
  refine zz_ieq (tgt := 78) C h dX12_proof_68 (by decide) (fun h => ?_) (fun h => ?_)
  · refine lv_iconst (v := -1) hx hb dX12_proof_78 (by decide) ?_
    exact w_X12_proof_0_b79 (F := F) C h hW (lv_sub hl [1, 2, 0] rfl)
  · refine lv_aload_n hx hb dX12_proof_71 rfl (lv_at hl 1 rfl) ?_
    refine mg_0_30 C hW h fl_X12_372 dX12_proof_72 (fun v2 h => ?_)
    refine lv_goto (tgt := 79) hx hb dX12_proof_75 (by decide) ?_
    exact w_X12_proof_0_b79 (F := F) C h hW (lv_sub hl [1, 2, 0] rfl)
def n_X12_proof_0_b46 (F : Nat)  (S : Zs) (x1 : Int32) : Option (Int32 × Zs) :=
  zld S 14 2304 x1 (fun v1 => if v1 ≤ 0 then (n_X12_proof_0_b60 F  S x1 (0 : Int32)) else (n_X12_proof_0_b60 F  S x1 (1 : Int32)))
set_option maxRecDepth 20000 in
set_option maxHeartbeats 4000000 in
theorem w_X12_proof_0_b46 {F : Nat} {q : (Int32 × Zs)} {S : Zs}  {x1 : Int32} {ls : Array Slot} {H : Heap} {locs : List Loc} (C : zC p s m args meth c cX12_proof 3 RX12 (some .int))  (h : n_X12_proof_0_b46 F  S x1 = some q) (hW : zW (mG D cs ad) s S H locs) (hl : lv_has ls 3 [(0, .ref (ad 0)), (1, .int x1)]) : W p l e (zR 8 189) s m args below meth c H locs 0 0 (zQi (mG D cs ad) q below args s) (F0 m 46 ls []) := by
  unfold n_X12_proof_0_b46 at h
  obtain ⟨hx, hb, hml, hown, hts, hret, hlk⟩ := id C
  refine lv_aload_n hx hb dX12_proof_46 rfl (lv_at hl 0 rfl) ?_
  refine mg_0_28 C hW fl_X12_387 dX12_proof_47 ?_
  refine lv_iload_n hx hb dX12_proof_50 rfl (lv_at hl 1 rfl) ?_
  refine ml_14 C hW h dX12_proof_51 (fun v1 h => ?_)
  refine zz_ile (tgt := 59) C h dX12_proof_52 (by decide) (fun h => ?_) (fun h => ?_)
  · refine lv_iconst (v := 0) hx hb dX12_proof_59 (by decide) ?_
    exact w_X12_proof_0_b60 (F := F) C h hW (lv_sub hl [0, 1] rfl)
  · refine lv_iconst (v := 1) hx hb dX12_proof_55 (by decide) ?_
    refine lv_goto (tgt := 60) hx hb dX12_proof_56 (by decide) ?_
    exact w_X12_proof_0_b60 (F := F) C h hW (lv_sub hl [0, 1] rfl)
def n_X12_proof_0_e (F : Nat)  (S : Zs) (x1 : Int32) : Option (Int32 × Zs) :=
  zpf S 0 (0 : Int32) (fun S1 => zcl (n_X12_isCode F S1 x1) (fun v3 S2 => if v3 = 0 then (some ((-1 : Int32), S2)) else (zcl (n_X12_provesAll_0 F S2 ) (fun v5 S4 => zld S4 14 2304 x1 (fun v6 => if v6 = (1000000 : Int32) then (some ((-2 : Int32), S4)) else (zld S4 14 2304 x1 (fun v7 => if v7 ≤ 0 then (n_X12_proof_0_b46 F  S4 x1) else (zcl (n_X12_looks_0 F S4 x1) (fun v9 S8 => n_X12_proof_0_b46 F  S8 x1)))))))))
set_option maxRecDepth 20000 in
set_option maxHeartbeats 4000000 in
theorem w_X12_proof_0_e {F : Nat} {q : (Int32 × Zs)} {S : Zs}  {x1 : Int32} {ls : Array Slot} {H : Heap} {locs : List Loc} (C : zC p s m args meth c cX12_proof 3 RX12 (some .int))  (h : n_X12_proof_0_e F  S x1 = some q) (hW : zW (mG D cs ad) s S H locs) (hl : lv_has ls 3 [(0, .ref (ad 0)), (1, .int x1)]) : W p l e (zR 8 189) s m args below meth c H locs 0 0 (zQi (mG D cs ad) q below args s) (F0 m 0 ls []) := by
  unfold n_X12_proof_0_e at h
  obtain ⟨hx, hb, hml, hown, hts, hret, hlk⟩ := id C
  refine lv_aload_n hx hb dX12_proof_0 rfl (lv_at hl 0 rfl) ?_
  refine lv_iconst (v := 0) hx hb dX12_proof_1 (by decide) ?_
  refine mp_0_0 C hW h fl_X12_3 dX12_proof_2 (fun S1 H locs h hW => ?_)
  refine lv_iload_n hx hb dX12_proof_5 rfl (lv_at hl 1 rfl) ?_
  refine zz_callSi (As := [.int x1]) C hW h (fun r hr => c_X12_isCode hr) lk_X12_142 rfl hl.1 ⟨rfl, rfl⟩ ⟨Nat.le_of_ble_eq_true rfl, Nat.le_of_ble_eq_true rfl⟩ (Nat.le_of_ble_eq_true rfl) ⟨Nat.zero_le _, Nat.zero_le _⟩ rfl dX12_proof_6 (fun v3 S2 H locs h hW => ?_)
  refine zz_ine (tgt := 14) C h dX12_proof_9 (by decide) (fun h => ?_) (fun h => ?_)
  · refine lv_aload_n hx hb dX12_proof_14 rfl (lv_at hl 0 rfl) ?_
    refine zz_callVv (As := []) C hW h (fun r hr => c_X12_provesAll_0 hr) lk_X12_397 (hW.recv mr_0) rfl hl.1 ⟨rfl, rfl⟩ ⟨Nat.le_of_ble_eq_true rfl, Nat.le_of_ble_eq_true rfl⟩ (Nat.le_of_ble_eq_true rfl) ⟨Nat.zero_le _, Nat.zero_le _⟩ rfl dX12_proof_15 (fun v5 S4 H locs h hW => ?_)
    refine lv_aload_n hx hb dX12_proof_18 rfl (lv_at hl 0 rfl) ?_
    refine mg_0_28 C hW fl_X12_387 dX12_proof_19 ?_
    refine lv_iload_n hx hb dX12_proof_22 rfl (lv_at hl 1 rfl) ?_
    refine ml_14 C hW h dX12_proof_23 (fun v6 h => ?_)
    refine lv_ldc (v := 1000000) hx hb hown (hts _ ct_X12_249) dX12_proof_24 ?_
    refine zz_cne (tgt := 32) C h dX12_proof_26 (by decide) (fun h => ?_) (fun h => ?_)
    · refine lv_aload_n hx hb dX12_proof_32 rfl (lv_at hl 0 rfl) ?_
      refine mg_0_28 C hW fl_X12_387 dX12_proof_33 ?_
      refine lv_iload_n hx hb dX12_proof_36 rfl (lv_at hl 1 rfl) ?_
      refine ml_14 C hW h dX12_proof_37 (fun v7 h => ?_)
      refine zz_ile (tgt := 46) C h dX12_proof_38 (by decide) (fun h => ?_) (fun h => ?_)
      · exact w_X12_proof_0_b46 (F := F) C h hW (lv_sub hl [0, 1] rfl)
      · refine lv_aload_n hx hb dX12_proof_41 rfl (lv_at hl 0 rfl) ?_
        refine lv_iload_n hx hb dX12_proof_42 rfl (lv_at hl 1 rfl) ?_
        refine zz_callVv (As := [.int x1]) C hW h (fun r hr => c_X12_looks_0 hr) lk_X12_394 (hW.recv mr_0) rfl hl.1 ⟨rfl, rfl⟩ ⟨Nat.le_of_ble_eq_true rfl, Nat.le_of_ble_eq_true rfl⟩ (Nat.le_of_ble_eq_true rfl) ⟨Nat.zero_le _, Nat.zero_le _⟩ rfl dX12_proof_43 (fun v9 S8 H locs h hW => ?_)
        exact w_X12_proof_0_b46 (F := F) C h hW (lv_sub hl [0, 1] rfl)
    · refine lv_bipush (v := -2) hx hb dX12_proof_29 (by decide) ?_
      exact zz_iret C rfl h hW dX12_proof_31
  · refine lv_iconst (v := -1) hx hb dX12_proof_12 (by decide) ?_
    exact zz_iret C rfl h hW dX12_proof_13
def n_X12_proof_0 (F : Nat) (S : Zs) (x1 : Int32) : Option (Int32 × Zs) := n_X12_proof_0_e F  S x1
theorem c_X12_proof_0 {l : Launch} {D : va_G} {cs ad : Nat → Nat} {F : Nat} {S : Zs} {x1 : Int32} {q : (Int32 × Zs)} (h : n_X12_proof_0 F S x1 = some q) : zMi l yX12_proof cX12_proof 3 (some .int) (zR 8 189) (mG D cs ad) [.ref (ad 0), .int x1] S q :=
  zz_enter (by decide) (Nat.le_of_ble_eq_true rfl) (fun p e s m below meth c ls C hW hl => w_X12_proof_0_e (F := F) C h hW (lv_sub hl [0, 1] rfl))
def n_X12_restsOn_0_15_b117 (F : Nat) (slf : Zs → Int32 → Option (Int32 × Zs))  (S : Zs) (x5 : Int32) (x6 : Int32) : Option (Int32 × Zs) :=
  zst S 15 1 (0 : Int32) ((1 : Int32) + x6) (fun S1 => some (x5, S1))
set_option maxRecDepth 20000 in
set_option maxHeartbeats 4000000 in
theorem w_X12_restsOn_0_15_b117 {F : Nat} {q : (Int32 × Zs)} {S : Zs}  {x5 : Int32} {x6 : Int32} {ls : Array Slot} {H : Heap} {locs : List Loc} {d : Nat} {slf : Zs → Int32 → Option (Int32 × Zs)} (C : zC p s m args meth c cX12_restsOn 7 RX12 (some .int)) (hslf : ∀ (S : Zs) (x1 : Int32) (r : (Int32 × Zs)), slf S x1 = some r → zMi l yX12_restsOn cX12_restsOn 7 (some .int) (zR (6 + d) (167 + 26 * d)) (mG D cs ad) [.ref (ad 0), .int x1, .ref (ad 15)] S r)  (h : n_X12_restsOn_0_15_b117 F slf  S x5 x6 = some q) (hW : zW (mG D cs ad) s S H locs) (hl : lv_has ls 7 [(2, .ref (ad 15)), (5, .int x5), (6, .int x6)]) : W p l e (zR (6 + (d + 1)) (167 + 26 * (d + 1))) s m args below meth c H locs 0 0 (zQi (mG D cs ad) q below args s) (F0 m 117 ls []) := by
  unfold n_X12_restsOn_0_15_b117 at h
  obtain ⟨hx, hb, hml, hown, hts, hret, hlk⟩ := id C
  refine lv_aload_n hx hb dX12_restsOn_117 rfl (lv_at hl 0 rfl) ?_
  refine lv_iconst (v := 0) hx hb dX12_restsOn_118 (by decide) ?_
  refine lv_iconst (v := 1) hx hb dX12_restsOn_119 (by decide) ?_
  refine lv_iload hx hb dX12_restsOn_120 (lv_at hl 2 rfl) ?_
  refine lv_iadd hx hb dX12_restsOn_122 ?_
  refine ms_15 C hW h dX12_restsOn_123 (fun S1 H locs h hW => ?_)
  refine lv_iload hx hb dX12_restsOn_124 (lv_at hl 1 rfl) ?_
  exact zz_iret C rfl h hW dX12_restsOn_126
def n_X12_restsOn_0_15_b36 (F : Nat) (slf : Zs → Int32 → Option (Int32 × Zs)) (rc15 : Zs → Int32 → Int32 → Option (Int32 × Zs)) (S : Zs) (x1 : Int32) (x3 : Int32) : Option (Int32 × Zs) :=
  zlet (x3 + (1 : Int32)) (fun v1 => rc15 S x1 v1)
set_option maxRecDepth 20000 in
set_option maxHeartbeats 4000000 in
theorem w_X12_restsOn_0_15_b36 {F : Nat} {q : (Int32 × Zs)} {S : Zs} {rc15 : Zs → Int32 → Int32 → Option (Int32 × Zs)} {x1 : Int32} {x3 : Int32} {ls : Array Slot} {H : Heap} {locs : List Loc} {d : Nat} {slf : Zs → Int32 → Option (Int32 × Zs)} (C : zC p s m args meth c cX12_restsOn 7 RX12 (some .int)) (hslf : ∀ (S : Zs) (x1 : Int32) (r : (Int32 × Zs)), slf S x1 = some r → zMi l yX12_restsOn cX12_restsOn 7 (some .int) (zR (6 + d) (167 + 26 * d)) (mG D cs ad) [.ref (ad 0), .int x1, .ref (ad 15)] S r) (hrc15 : ∀ (S : Zs) (x1 : Int32) (x3 : Int32) (H : Heap) (locs : List Loc) (ls : Array Slot), rc15 S x1 x3 = some q → zW (mG D cs ad) s S H locs → lv_has ls 7 [(0, .ref (ad 0)), (1, .int x1), (3, .int x3)] → W p l e (zR (6 + (d + 1)) (167 + 26 * (d + 1))) s m args below meth c H locs 0 0 (zQi (mG D cs ad) q below args s) (F0 m 15 ls [])) (h : n_X12_restsOn_0_15_b36 F slf rc15 S x1 x3 = some q) (hW : zW (mG D cs ad) s S H locs) (hl : lv_has ls 7 [(0, .ref (ad 0)), (1, .int x1), (3, .int x3)]) : W p l e (zR (6 + (d + 1)) (167 + 26 * (d + 1))) s m args below meth c H locs 0 0 (zQi (mG D cs ad) q below args s) (F0 m 36 ls []) := by
  unfold n_X12_restsOn_0_15_b36 at h
  obtain ⟨hx, hb, hml, hown, hts, hret, hlk⟩ := id C
  obtain ⟨v1, ev1, h⟩ := zz_name h
  refine lv_iinc (v := v1) (lv' := [(3, .int v1), (0, .ref (ad 0)), (1, .int x1)]) hx hb dX12_restsOn_36 hl (k := 2) rfl ev1.symm (by decide) rfl (fun ls hl => ?_)
  refine lv_goto (tgt := 15) hx hb dX12_restsOn_39 (by decide) ?_
  exact hrc15 _ _ _ _ _ _ h hW (lv_sub hl [1, 2, 0] rfl)
def n_X12_restsOn_0_15_b15_l (F : Nat) (slf : Zs → Int32 → Option (Int32 × Zs)) (rc15 : Zs → Int32 → Int32 → Option (Int32 × Zs)) (S : Zs) (x1 : Int32) (x3 : Int32) : Option (Int32 × Zs) :=
  zld S 2 16 x3 (fun v1 => if v1 = x1 then (zgf S 7 (fun v2 => zcl (n_X12_has F S v2 x3) (fun v4 S3 => if v4 = 0 then (some (((1 : Int32) <<< (x3 &&& 31)), S3)) else (n_X12_restsOn_0_15_b36 F slf rc15 S3 x1 x3)))) else (n_X12_restsOn_0_15_b36 F slf rc15 S x1 x3))
set_option maxRecDepth 20000 in
set_option maxHeartbeats 4000000 in
theorem w_X12_restsOn_0_15_b15_l {F : Nat} {q : (Int32 × Zs)} {S : Zs} {rc15 : Zs → Int32 → Int32 → Option (Int32 × Zs)} {x1 : Int32} {x3 : Int32} {ls : Array Slot} {H : Heap} {locs : List Loc} {d : Nat} {slf : Zs → Int32 → Option (Int32 × Zs)} (C : zC p s m args meth c cX12_restsOn 7 RX12 (some .int)) (hslf : ∀ (S : Zs) (x1 : Int32) (r : (Int32 × Zs)), slf S x1 = some r → zMi l yX12_restsOn cX12_restsOn 7 (some .int) (zR (6 + d) (167 + 26 * d)) (mG D cs ad) [.ref (ad 0), .int x1, .ref (ad 15)] S r) (hrc15 : ∀ (S : Zs) (x1 : Int32) (x3 : Int32) (H : Heap) (locs : List Loc) (ls : Array Slot), rc15 S x1 x3 = some q → zW (mG D cs ad) s S H locs → lv_has ls 7 [(0, .ref (ad 0)), (1, .int x1), (3, .int x3)] → W p l e (zR (6 + (d + 1)) (167 + 26 * (d + 1))) s m args below meth c H locs 0 0 (zQi (mG D cs ad) q below args s) (F0 m 15 ls [])) (h : n_X12_restsOn_0_15_b15_l F slf rc15 S x1 x3 = some q) (hW : zW (mG D cs ad) s S H locs) (hl : lv_has ls 7 [(0, .ref (ad 0)), (1, .int x1), (3, .int x3)]) : W p l e (zR (6 + (d + 1)) (167 + 26 * (d + 1))) s m args below meth c H locs 0 0 (zQi (mG D cs ad) q below args s) (F0 m 15 ls []) := by
  unfold n_X12_restsOn_0_15_b15_l at h
  obtain ⟨hx, hb, hml, hown, hts, hret, hlk⟩ := id C
  refine lv_aload_n hx hb dX12_restsOn_15 rfl (lv_at hl 0 rfl) ?_
  refine mg_0_4 C hW fl_X12_87 dX12_restsOn_16 ?_
  refine lv_iload_n hx hb dX12_restsOn_19 rfl (lv_at hl 2 rfl) ?_
  refine ml_2 C hW h dX12_restsOn_20 (fun v1 h => ?_)
  refine lv_iload_n hx hb dX12_restsOn_21 rfl (lv_at hl 1 rfl) ?_
  refine zz_cne (tgt := 36) C h dX12_restsOn_22 (by decide) (fun h => ?_) (fun h => ?_)
  · exact w_X12_restsOn_0_15_b36 (F := F) C hslf hrc15 h hW (lv_sub hl [0, 1, 2] rfl)
  · refine lv_aload_n hx hb dX12_restsOn_25 rfl (lv_at hl 0 rfl) ?_
    refine mg_0_7 C hW h fl_X12_126 dX12_restsOn_26 (fun v2 h => ?_)
    refine lv_iload_n hx hb dX12_restsOn_29 rfl (lv_at hl 2 rfl) ?_
    refine zz_callSi (As := [.int v2, .int x3]) C hW h (fun r hr => c_X12_has hr) lk_X12_129 rfl hl.1 ⟨rfl, rfl⟩ ⟨by dsimp only [zR]; omega, by dsimp only [zR]; omega⟩ (Nat.le_of_ble_eq_true rfl) ⟨Nat.zero_le _, Nat.zero_le _⟩ rfl dX12_restsOn_30 (fun v4 S3 H locs h hW => ?_)
    refine zz_ieq (tgt := 42) C h dX12_restsOn_33 (by decide) (fun h => ?_) (fun h => ?_)
    · refine lv_iconst (v := 1) hx hb dX12_restsOn_42 (by decide) ?_
      refine lv_iload_n hx hb dX12_restsOn_43 rfl (lv_at hl 2 rfl) ?_
      refine lv_ishl hx hb dX12_restsOn_44 ?_
      exact zz_iret C rfl h hW dX12_restsOn_45
    · exact w_X12_restsOn_0_15_b36 (F := F) C hslf hrc15 h hW (lv_sub hl [0, 1, 2] rfl)
def n_X12_restsOn_0_15_b15 (F : Nat) (slf : Zs → Int32 → Option (Int32 × Zs))  (S : Zs) (x1 : Int32) (x3 : Int32) : Option (Int32 × Zs) :=
  zfix (fun (rc : (Zs × Int32 × Int32) → Option (Int32 × Zs)) (u : (Zs × Int32 × Int32)) => n_X12_restsOn_0_15_b15_l F slf  (fun S x1 x3 => rc (S, x1, x3)) u.1 u.2.1 u.2.2) F (S, x1, x3)
theorem w_X12_restsOn_0_15_b15 {F : Nat} {q : (Int32 × Zs)}  {d : Nat} {slf : Zs → Int32 → Option (Int32 × Zs)} (C : zC p s m args meth c cX12_restsOn 7 RX12 (some .int)) (hslf : ∀ (S : Zs) (x1 : Int32) (r : (Int32 × Zs)), slf S x1 = some r → zMi l yX12_restsOn cX12_restsOn 7 (some .int) (zR (6 + d) (167 + 26 * d)) (mG D cs ad) [.ref (ad 0), .int x1, .ref (ad 15)] S r)  : ∀ (n : Nat) (S : Zs) (x1 : Int32) (x3 : Int32) (H : Heap) (locs : List Loc) (ls : Array Slot), zfix (fun (rc : (Zs × Int32 × Int32) → Option (Int32 × Zs)) (u : (Zs × Int32 × Int32)) => n_X12_restsOn_0_15_b15_l F slf  (fun S x1 x3 => rc (S, x1, x3)) u.1 u.2.1 u.2.2) n (S, x1, x3) = some q → zW (mG D cs ad) s S H locs → lv_has ls 7 [(0, .ref (ad 0)), (1, .int x1), (3, .int x3)] → W p l e (zR (6 + (d + 1)) (167 + 26 * (d + 1))) s m args below meth c H locs 0 0 (zQi (mG D cs ad) q below args s) (F0 m 15 ls []) := by
  intro n
  induction n with
  | zero => intro S x1 x3 H locs ls h; exact absurd h (fun h => by cases h)
  | succ n ih => intro S x1 x3 H locs ls h hW hl; exact w_X12_restsOn_0_15_b15_l (F := F) C hslf (fun S x1 x3 H locs ls h hW hl => ih S x1 x3 H locs ls h hW hl) h hW hl
def n_X12_restsOn_0_15_e (F : Nat) (slf : Zs → Int32 → Option (Int32 × Zs))  (S : Zs) (x1 : Int32) : Option (Int32 × Zs) :=
  zst S 15 1 (0 : Int32) (0 : Int32) (fun S1 => zld S1 14 2304 x1 (fun v2 => if v2 = 0 then (n_X12_restsOn_0_15_b15 F slf  S1 x1 (0 : Int32)) else (zcl (n_X12_looks_0 F S1 x1) (fun v4 S3 => zgf S3 31 (fun v5 => zgf S3 32 (fun v6 => zgf S3 33 (fun v7 => zgf S3 30 (fun v8 => zpf S3 33 (v7 ||| ((1 : Int32) <<< (v8 &&& 31))) (fun S9 => zcl (slf S9 v5) (fun v11 S10 => zld S10 15 1 (0 : Int32) (fun v12 => if v6 < 0 then (n_X12_restsOn_0_15_b117 F slf  S10 v11 v12) else (zcl (slf S10 v6) (fun v14 S13 => zlet (v11 ||| v14) (fun v15 => zld S13 15 1 (0 : Int32) (fun v16 => zlet (if v12 < v16 then v16 else v12) (fun v17 => n_X12_restsOn_0_15_b117 F slf  S13 v15 v17))))))))))))))))
set_option maxRecDepth 20000 in
set_option maxHeartbeats 4000000 in
theorem w_X12_restsOn_0_15_e {F : Nat} {q : (Int32 × Zs)} {S : Zs}  {x1 : Int32} {ls : Array Slot} {H : Heap} {locs : List Loc} {d : Nat} {slf : Zs → Int32 → Option (Int32 × Zs)} (C : zC p s m args meth c cX12_restsOn 7 RX12 (some .int)) (hslf : ∀ (S : Zs) (x1 : Int32) (r : (Int32 × Zs)), slf S x1 = some r → zMi l yX12_restsOn cX12_restsOn 7 (some .int) (zR (6 + d) (167 + 26 * d)) (mG D cs ad) [.ref (ad 0), .int x1, .ref (ad 15)] S r)  (h : n_X12_restsOn_0_15_e F slf  S x1 = some q) (hW : zW (mG D cs ad) s S H locs) (hl : lv_has ls 7 [(0, .ref (ad 0)), (1, .int x1), (2, .ref (ad 15))]) : W p l e (zR (6 + (d + 1)) (167 + 26 * (d + 1))) s m args below meth c H locs 0 0 (zQi (mG D cs ad) q below args s) (F0 m 0 ls []) := by
  unfold n_X12_restsOn_0_15_e at h
  obtain ⟨hx, hb, hml, hown, hts, hret, hlk⟩ := id C
  refine lv_aload_n hx hb dX12_restsOn_0 rfl (lv_at hl 2 rfl) ?_
  refine lv_iconst (v := 0) hx hb dX12_restsOn_1 (by decide) ?_
  refine lv_iconst (v := 0) hx hb dX12_restsOn_2 (by decide) ?_
  refine ms_15 C hW h dX12_restsOn_3 (fun S1 H locs h hW => ?_)
  refine lv_aload_n hx hb dX12_restsOn_4 rfl (lv_at hl 0 rfl) ?_
  refine mg_0_28 C hW fl_X12_387 dX12_restsOn_5 ?_
  refine lv_iload_n hx hb dX12_restsOn_8 rfl (lv_at hl 1 rfl) ?_
  refine ml_14 C hW h dX12_restsOn_9 (fun v2 h => ?_)
  refine zz_ine (tgt := 46) C h dX12_restsOn_10 (by decide) (fun h => ?_) (fun h => ?_)
  · refine lv_aload_n hx hb dX12_restsOn_46 rfl (lv_at hl 0 rfl) ?_
    refine lv_iload_n hx hb dX12_restsOn_47 rfl (lv_at hl 1 rfl) ?_
    refine zz_callVv (As := [.int x1]) C hW h (fun r hr => c_X12_looks_0 hr) lk_X12_394 (hW.recv mr_0) rfl hl.1 ⟨rfl, rfl⟩ ⟨by dsimp only [zR]; omega, by dsimp only [zR]; omega⟩ (Nat.le_of_ble_eq_true rfl) ⟨Nat.zero_le _, Nat.zero_le _⟩ rfl dX12_restsOn_48 (fun v4 S3 H locs h hW => ?_)
    refine lv_aload_n hx hb dX12_restsOn_51 rfl (lv_at hl 0 rfl) ?_
    refine mg_0_31 C hW h fl_X12_375 dX12_restsOn_52 (fun v5 h => ?_)
    refine lv_istore_n (lv' := [(3, .int v5), (0, .ref (ad 0)), (1, .int x1), (2, .ref (ad 15))]) hx hb dX12_restsOn_55 rfl hl (by decide) rfl (fun ls hl => ?_)
    refine lv_aload_n hx hb dX12_restsOn_56 rfl (lv_at hl 1 rfl) ?_
    refine mg_0_32 C hW h fl_X12_378 dX12_restsOn_57 (fun v6 h => ?_)
    refine lv_istore (lv' := [(4, .int v6), (3, .int v5), (0, .ref (ad 0)), (1, .int x1), (2, .ref (ad 15))]) hx hb dX12_restsOn_60 hl (by decide) rfl (fun ls hl => ?_)
    refine lv_aload_n hx hb dX12_restsOn_62 rfl (lv_at hl 2 rfl) ?_
    refine lv_dup hx hb dX12_restsOn_63 rfl ?_
    refine mg_0_33 C hW h fl_X12_400 dX12_restsOn_64 (fun v7 h => ?_)
    refine lv_iconst (v := 1) hx hb dX12_restsOn_67 (by decide) ?_
    refine lv_aload_n hx hb dX12_restsOn_68 rfl (lv_at hl 2 rfl) ?_
    refine mg_0_30 C hW h fl_X12_372 dX12_restsOn_69 (fun v8 h => ?_)
    refine lv_ishl hx hb dX12_restsOn_72 ?_
    refine lv_ior hx hb dX12_restsOn_73 ?_
    refine mp_0_33 C hW h fl_X12_400 dX12_restsOn_74 (fun S9 H locs h hW => ?_)
    refine lv_aload_n hx hb dX12_restsOn_77 rfl (lv_at hl 2 rfl) ?_
    refine lv_iload_n hx hb dX12_restsOn_78 rfl (lv_at hl 1 rfl) ?_
    refine lv_aload_n hx hb dX12_restsOn_79 rfl (lv_at hl 4 rfl) ?_
    refine zz_callVi (As := [.int v5, .ref (ad 15)]) C hW h (fun r hr => hslf _ _ r hr) lk_X12_403 (hW.recv mr_0) rfl hl.1 ⟨rfl, rfl⟩ ⟨by dsimp only [zR]; omega, by dsimp only [zR]; omega⟩ (Nat.le_of_ble_eq_true rfl) ⟨Nat.zero_le _, Nat.zero_le _⟩ rfl dX12_restsOn_80 (fun v11 S10 H locs h hW => ?_)
    refine lv_istore (lv' := [(5, .int v11), (4, .int v6), (3, .int v5), (0, .ref (ad 0)), (1, .int x1), (2, .ref (ad 15))]) hx hb dX12_restsOn_83 hl (by decide) rfl (fun ls hl => ?_)
    refine lv_aload_n hx hb dX12_restsOn_85 rfl (lv_at hl 5 rfl) ?_
    refine lv_iconst (v := 0) hx hb dX12_restsOn_86 (by decide) ?_
    refine ml_15 C hW h dX12_restsOn_87 (fun v12 h => ?_)
    refine lv_istore (lv' := [(6, .int v12), (5, .int v11), (4, .int v6), (3, .int v5), (0, .ref (ad 0)), (1, .int x1), (2, .ref (ad 15))]) hx hb dX12_restsOn_88 hl (by decide) rfl (fun ls hl => ?_)
    refine lv_iload hx hb dX12_restsOn_90 (lv_at hl 2 rfl) ?_
    refine zz_ilt (tgt := 117) C h dX12_restsOn_92 (by decide) (fun h => ?_) (fun h => ?_)
    · exact w_X12_restsOn_0_15_b117 (F := F) C hslf h hW (lv_sub hl [6, 1, 0] rfl)
    · refine lv_iload hx hb dX12_restsOn_95 (lv_at hl 1 rfl) ?_
      refine lv_aload_n hx hb dX12_restsOn_97 rfl (lv_at hl 4 rfl) ?_
      refine lv_iload hx hb dX12_restsOn_98 (lv_at hl 2 rfl) ?_
      refine lv_aload_n hx hb dX12_restsOn_100 rfl (lv_at hl 6 rfl) ?_
      refine zz_callVi (As := [.int v6, .ref (ad 15)]) C hW h (fun r hr => hslf _ _ r hr) lk_X12_403 (hW.recv mr_0) rfl hl.1 ⟨rfl, rfl⟩ ⟨by dsimp only [zR]; omega, by dsimp only [zR]; omega⟩ (Nat.le_of_ble_eq_true rfl) ⟨Nat.zero_le _, Nat.zero_le _⟩ rfl dX12_restsOn_101 (fun v14 S13 H locs h hW => ?_)
      refine lv_ior hx hb dX12_restsOn_104 ?_
      refine zz_leti h (fun v15 h => ?_)
      refine lv_istore (lv' := [(5, .int v15), (6, .int v12), (4, .int v6), (3, .int v5), (0, .ref (ad 0)), (1, .int x1), (2, .ref (ad 15))]) hx hb dX12_restsOn_105 hl (by decide) rfl (fun ls hl => ?_)
      refine lv_iload hx hb dX12_restsOn_107 (lv_at hl 1 rfl) ?_
      refine lv_aload_n hx hb dX12_restsOn_109 rfl (lv_at hl 6 rfl) ?_
      refine lv_iconst (v := 0) hx hb dX12_restsOn_110 (by decide) ?_
      refine ml_15 C hW h dX12_restsOn_111 (fun v16 h => ?_)
      refine va_mmax hx hb (hml.trans hl.1.symm) hown (hts _ lkm_X12_407) (hts _ sm_max) (hts _ it_Math) (hts _ cd_max) (by dsimp only [zR]; omega) (show _ ≤ _ + _ by dsimp only [List.map, List.sum_cons, List.sum_nil, Value.category]; omega) (Nat.zero_le _) (Nat.zero_le _) dX12_restsOn_112 ?_
      refine zz_leti h (fun v17 h => ?_)
      refine lv_istore (lv' := [(6, .int v17), (5, .int v15), (4, .int v6), (3, .int v5), (0, .ref (ad 0)), (1, .int x1), (2, .ref (ad 15))]) hx hb dX12_restsOn_115 hl (by decide) rfl (fun ls hl => ?_)
      exact w_X12_restsOn_0_15_b117 (F := F) C hslf h hW (lv_sub hl [6, 1, 0] rfl)
  · refine lv_iconst (v := 0) hx hb dX12_restsOn_13 (by decide) ?_
    refine lv_istore_n (lv' := [(3, .int (0 : Int32)), (0, .ref (ad 0)), (1, .int x1), (2, .ref (ad 15))]) hx hb dX12_restsOn_14 rfl hl (by decide) rfl (fun ls hl => ?_)
    exact w_X12_restsOn_0_15_b15 (F := F) C hslf F _ _ _ _ _ _ h hW (lv_sub hl [1, 2, 0] rfl)
def n_X12_restsOn_0_15_r (F d : Nat) (S : Zs) (x1 : Int32) : Option (Int32 × Zs) := zfix (fun (rc : (Zs × Int32) → Option (Int32 × Zs)) (u : (Zs × Int32)) => n_X12_restsOn_0_15_e F (fun S x1 => rc (S, x1))  u.1 u.2) d (S, x1)
theorem c_X12_restsOn_0_15_r {l : Launch} {D : va_G} {cs ad : Nat → Nat} {F : Nat} {q : (Int32 × Zs)} : ∀ (d : Nat) (S : Zs) (x1 : Int32), n_X12_restsOn_0_15_r F d S x1 = some q → zMi l yX12_restsOn cX12_restsOn 7 (some .int) (zR (6 + d) (167 + 26 * d)) (mG D cs ad) [.ref (ad 0), .int x1, .ref (ad 15)] S q := by
  intro d
  induction d generalizing q with
  | zero => intro S x1 h; cases h
  | succ d ih => intro S x1 h; exact zz_enter (by decide) (Nat.le_of_ble_eq_true rfl) (fun p e s m below meth c ls C hW hl => w_X12_restsOn_0_15_e (F := F) C (fun S x1 r h => ih S x1 h) h hW (lv_sub hl [0, 1, 2] rfl))
def n_X12_restsOn_0_15 (F : Nat) (S : Zs) (x1 : Int32) : Option (Int32 × Zs) := n_X12_restsOn_0_15_r F 2000 S x1
theorem c_X12_restsOn_0_15 {l : Launch} {D : va_G} {cs ad : Nat → Nat} {F : Nat} {S : Zs} {x1 : Int32} {q : (Int32 × Zs)} (h : n_X12_restsOn_0_15 F S x1 = some q) : zMi l yX12_restsOn cX12_restsOn 7 (some .int) (zR (6 + 2000) (167 + 26 * 2000)) (mG D cs ad) [.ref (ad 0), .int x1, .ref (ad 15)] S q := c_X12_restsOn_0_15_r 2000 S x1 h
end ZM
