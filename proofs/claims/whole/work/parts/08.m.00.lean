section ZM
variable {p : Program} {l : Launch} {e : Env} {s : State} {m : MethodId} {args : Array Value} {below : List Frame} {meth : Method} {c : Code} {D : va_G} {cs ad : Nat → Nat}
def n_X12_thrown_0_e (F : Nat)  (S : Zs)  : Option (Int32 × Zs) :=
  zgf S 0 (fun v1 => some (v1, S))
set_option maxRecDepth 20000 in
set_option maxHeartbeats 4000000 in
theorem w_X12_thrown_0_e {F : Nat} {q : (Int32 × Zs)} {S : Zs}   {ls : Array Slot} {H : Heap} {locs : List Loc} (C : zC p s m args meth c cX12_thrown 1 RX12 (some .int))  (h : n_X12_thrown_0_e F  S  = some q) (hW : zW (mG D cs ad) s S H locs) (hl : lv_has ls 1 [(0, .ref (ad 0))]) : W p l e (zR 0 0) s m args below meth c H locs 0 0 (zQi (mG D cs ad) q below args s) (F0 m 0 ls []) := by
  unfold n_X12_thrown_0_e at h
  obtain ⟨hx, hb, hml, hown, hts, hret, hlk⟩ := id C
  refine lv_aload_n hx hb dX12_thrown_0 rfl (lv_at hl 0 rfl) ?_
  refine mg_0_0 C hW h fl_X12_3 dX12_thrown_1 (fun v1 h => ?_)
  exact zz_iret C rfl h hW dX12_thrown_4
def n_X12_thrown_0 (F : Nat) (S : Zs)  : Option (Int32 × Zs) := n_X12_thrown_0_e F  S 
theorem c_X12_thrown_0 {l : Launch} {D : va_G} {cs ad : Nat → Nat} {F : Nat} {S : Zs}  {q : (Int32 × Zs)} (h : n_X12_thrown_0 F S  = some q) : zMi l yX12_thrown cX12_thrown 1 (some .int) (zR 0 0) (mG D cs ad) [.ref (ad 0)] S q :=
  zz_enter (by decide) (Nat.le_of_ble_eq_true rfl) (fun p e s m below meth c ls C hW hl => w_X12_thrown_0_e (F := F) C h hW (lv_sub hl [0] rfl))
def n_X12_refuse_0_e (F : Nat)  (S : Zs)  : Option (Int32 × Zs) :=
  zpf S 0 (1 : Int32) (fun S1 => some ((0 : Int32), S1))
set_option maxRecDepth 20000 in
set_option maxHeartbeats 4000000 in
theorem w_X12_refuse_0_e {F : Nat} {q : (Int32 × Zs)} {S : Zs}   {ls : Array Slot} {H : Heap} {locs : List Loc} (C : zC p s m args meth c cX12_refuse 1 RX12 (some .int))  (h : n_X12_refuse_0_e F  S  = some q) (hW : zW (mG D cs ad) s S H locs) (hl : lv_has ls 1 [(0, .ref (ad 0))]) : W p l e (zR 0 0) s m args below meth c H locs 0 0 (zQi (mG D cs ad) q below args s) (F0 m 0 ls []) := by
  unfold n_X12_refuse_0_e at h
  obtain ⟨hx, hb, hml, hown, hts, hret, hlk⟩ := id C
  refine lv_aload_n hx hb dX12_refuse_0 rfl (lv_at hl 0 rfl) ?_
  refine lv_iconst (v := 1) hx hb dX12_refuse_1 (by decide) ?_
  refine mp_0_0 C hW h fl_X12_3 dX12_refuse_2 (fun S1 H locs h hW => ?_)
  refine lv_iconst (v := 0) hx hb dX12_refuse_5 (by decide) ?_
  exact zz_iret C rfl h hW dX12_refuse_6
def n_X12_refuse_0 (F : Nat) (S : Zs)  : Option (Int32 × Zs) := n_X12_refuse_0_e F  S 
theorem c_X12_refuse_0 {l : Launch} {D : va_G} {cs ad : Nat → Nat} {F : Nat} {S : Zs}  {q : (Int32 × Zs)} (h : n_X12_refuse_0 F S  = some q) : zMi l yX12_refuse cX12_refuse 1 (some .int) (zR 0 0) (mG D cs ad) [.ref (ad 0)] S q :=
  zz_enter (by decide) (Nat.le_of_ble_eq_true rfl) (fun p e s m below meth c ls C hW hl => w_X12_refuse_0_e (F := F) C h hW (lv_sub hl [0] rfl))
def n_X12_in_b18 (F : Nat)  (S : Zs) (t0 : Int32) : Option (Int32 × Zs) :=
  zrb t0 S
set_option maxRecDepth 20000 in
set_option maxHeartbeats 4000000 in
theorem w_X12_in_b18 {F : Nat} {q : (Int32 × Zs)} {S : Zs}  {t0 : Int32} {ls : Array Slot} {H : Heap} {locs : List Loc} (C : zC p s m args meth c cX12_in 6 RX12 (some .boolean))  (h : n_X12_in_b18 F  S t0 = some q) (hW : zW (mG D cs ad) s S H locs) (hl : lv_has ls 6 []) : W p l e (zR 0 0) s m args below meth c H locs 0 0 (zQi (mG D cs ad) q below args s) (F0 m 18 ls [.int t0]) := by
  unfold n_X12_in_b18 at h
  obtain ⟨hx, hb, hml, hown, hts, hret, hlk⟩ := id C
  exact zz_zret C rfl h hW dX12_in_18
def n_X12_in_b17 (F : Nat)  (S : Zs)  : Option (Int32 × Zs) :=
  n_X12_in_b18 F  S (0 : Int32)
set_option maxRecDepth 20000 in
set_option maxHeartbeats 4000000 in
theorem w_X12_in_b17 {F : Nat} {q : (Int32 × Zs)} {S : Zs}   {ls : Array Slot} {H : Heap} {locs : List Loc} (C : zC p s m args meth c cX12_in 6 RX12 (some .boolean))  (h : n_X12_in_b17 F  S  = some q) (hW : zW (mG D cs ad) s S H locs) (hl : lv_has ls 6 []) : W p l e (zR 0 0) s m args below meth c H locs 0 0 (zQi (mG D cs ad) q below args s) (F0 m 17 ls []) := by
  unfold n_X12_in_b17 at h
  obtain ⟨hx, hb, hml, hown, hts, hret, hlk⟩ := id C
  refine lv_iconst (v := 0) hx hb dX12_in_17 (by decide) ?_
  exact w_X12_in_b18 (F := F) C h hW (lv_sub hl [] rfl)
def n_X12_in_e (F : Nat)  (S : Zs) (x0 : Int64) (x2 : Int64) (x4 : Int64) : Option (Int32 × Zs) :=
  if (lg_cmp x0 x2) < 0 then (n_X12_in_b17 F  S ) else (if 0 < (lg_cmp x0 x4) then (n_X12_in_b17 F  S ) else (n_X12_in_b18 F  S (1 : Int32)))
set_option maxRecDepth 20000 in
set_option maxHeartbeats 4000000 in
theorem w_X12_in_e {F : Nat} {q : (Int32 × Zs)} {S : Zs}  {x0 : Int64} {x2 : Int64} {x4 : Int64} {ls : Array Slot} {H : Heap} {locs : List Loc} (C : zC p s m args meth c cX12_in 6 RX12 (some .boolean))  (h : n_X12_in_e F  S x0 x2 x4 = some q) (hW : zW (mG D cs ad) s S H locs) (hl : lv_has ls 6 [(0, .long x0), (2, .long x2), (4, .long x4)]) : W p l e (zR 0 0) s m args below meth c H locs 0 0 (zQi (mG D cs ad) q below args s) (F0 m 0 ls []) := by
  unfold n_X12_in_e at h
  obtain ⟨hx, hb, hml, hown, hts, hret, hlk⟩ := id C
  refine lv_lload_n hx hb dX12_in_0 rfl (lv_at hl 0 rfl) ?_
  refine lv_lload_n hx hb dX12_in_1 rfl (lv_at hl 1 rfl) ?_
  refine W.lcmp hx hb dX12_in_2 ?_
  refine zz_ilt (tgt := 17) C h dX12_in_3 (by decide) (fun h => ?_) (fun h => ?_)
  · exact w_X12_in_b17 (F := F) C h hW (lv_sub hl [] rfl)
  · refine lv_lload_n hx hb dX12_in_6 rfl (lv_at hl 0 rfl) ?_
    refine lv_lload hx hb dX12_in_7 (lv_at hl 2 rfl) ?_
    refine W.lcmp hx hb dX12_in_9 ?_
    refine zz_igt (tgt := 17) C h dX12_in_10 (by decide) (fun h => ?_) (fun h => ?_)
    · exact w_X12_in_b17 (F := F) C h hW (lv_sub hl [] rfl)
    · refine lv_iconst (v := 1) hx hb dX12_in_13 (by decide) ?_
      refine lv_goto (tgt := 18) hx hb dX12_in_14 (by decide) ?_
      exact w_X12_in_b18 (F := F) C h hW (lv_sub hl [] rfl)
def n_X12_in (F : Nat) (S : Zs) (x0 : Int64) (x2 : Int64) (x4 : Int64) : Option (Int32 × Zs) := n_X12_in_e F  S x0 x2 x4
theorem c_X12_in {l : Launch} {D : va_G} {cs ad : Nat → Nat} {F : Nat} {S : Zs} {x0 : Int64} {x2 : Int64} {x4 : Int64} {q : (Int32 × Zs)} (h : n_X12_in F S x0 x2 x4 = some q) : zMi l yX12_in cX12_in 6 (some .boolean) (zR 0 0) (mG D cs ad) [.long x0, .long x2, .long x4] S q :=
  zz_enter (by decide) (Nat.le_of_ble_eq_true rfl) (fun p e s m below meth c ls C hW hl => w_X12_in_e (F := F) C h hW (lv_sub hl [0, 1, 2] rfl))
def n_X12_has_b14 (F : Nat)  (S : Zs) (t0 : Int32) : Option (Int32 × Zs) :=
  zrb t0 S
set_option maxRecDepth 20000 in
set_option maxHeartbeats 4000000 in
theorem w_X12_has_b14 {F : Nat} {q : (Int32 × Zs)} {S : Zs}  {t0 : Int32} {ls : Array Slot} {H : Heap} {locs : List Loc} (C : zC p s m args meth c cX12_has 2 RX12 (some .boolean))  (h : n_X12_has_b14 F  S t0 = some q) (hW : zW (mG D cs ad) s S H locs) (hl : lv_has ls 2 []) : W p l e (zR 0 0) s m args below meth c H locs 0 0 (zQi (mG D cs ad) q below args s) (F0 m 14 ls [.int t0]) := by
  unfold n_X12_has_b14 at h
  obtain ⟨hx, hb, hml, hown, hts, hret, hlk⟩ := id C
  exact zz_zret C rfl h hW dX12_has_14
def n_X12_has_e (F : Nat)  (S : Zs) (x0 : Int32) (x1 : Int32) : Option (Int32 × Zs) :=
  if ((x0 >>> (x1 &&& 31)) &&& (1 : Int32)) = (1 : Int32) then (n_X12_has_b14 F  S (1 : Int32)) else (n_X12_has_b14 F  S (0 : Int32))
set_option maxRecDepth 20000 in
set_option maxHeartbeats 4000000 in
theorem w_X12_has_e {F : Nat} {q : (Int32 × Zs)} {S : Zs}  {x0 : Int32} {x1 : Int32} {ls : Array Slot} {H : Heap} {locs : List Loc} (C : zC p s m args meth c cX12_has 2 RX12 (some .boolean))  (h : n_X12_has_e F  S x0 x1 = some q) (hW : zW (mG D cs ad) s S H locs) (hl : lv_has ls 2 [(0, .int x0), (1, .int x1)]) : W p l e (zR 0 0) s m args below meth c H locs 0 0 (zQi (mG D cs ad) q below args s) (F0 m 0 ls []) := by
  unfold n_X12_has_e at h
  obtain ⟨hx, hb, hml, hown, hts, hret, hlk⟩ := id C
  refine lv_iload_n hx hb dX12_has_0 rfl (lv_at hl 0 rfl) ?_
  refine lv_iload_n hx hb dX12_has_1 rfl (lv_at hl 1 rfl) ?_
  refine lv_ishr hx hb dX12_has_2 ?_
  refine lv_iconst (v := 1) hx hb dX12_has_3 (by decide) ?_
  refine lv_iand hx hb dX12_has_4 ?_
  refine lv_iconst (v := 1) hx hb dX12_has_5 (by decide) ?_
  refine zz_cne (tgt := 13) C h dX12_has_6 (by decide) (fun h => ?_) (fun h => ?_)
  · refine lv_iconst (v := 0) hx hb dX12_has_13 (by decide) ?_
    exact w_X12_has_b14 (F := F) C h hW (lv_sub hl [] rfl)
  · refine lv_iconst (v := 1) hx hb dX12_has_9 (by decide) ?_
    refine lv_goto (tgt := 14) hx hb dX12_has_10 (by decide) ?_
    exact w_X12_has_b14 (F := F) C h hW (lv_sub hl [] rfl)
def n_X12_has (F : Nat) (S : Zs) (x0 : Int32) (x1 : Int32) : Option (Int32 × Zs) := n_X12_has_e F  S x0 x1
theorem c_X12_has {l : Launch} {D : va_G} {cs ad : Nat → Nat} {F : Nat} {S : Zs} {x0 : Int32} {x1 : Int32} {q : (Int32 × Zs)} (h : n_X12_has F S x0 x1 = some q) : zMi l yX12_has cX12_has 2 (some .boolean) (zR 0 0) (mG D cs ad) [.int x0, .int x1] S q :=
  zz_enter (by decide) (Nat.le_of_ble_eq_true rfl) (fun p e s m below meth c ls C hW hl => w_X12_has_e (F := F) C h hW (lv_sub hl [0, 1] rfl))
def n_X12_flag_b9 (F : Nat)  (S : Zs) (t0 : Int32) : Option (Int32 × Zs) :=
  some (t0, S)
set_option maxRecDepth 20000 in
set_option maxHeartbeats 4000000 in
theorem w_X12_flag_b9 {F : Nat} {q : (Int32 × Zs)} {S : Zs}  {t0 : Int32} {ls : Array Slot} {H : Heap} {locs : List Loc} (C : zC p s m args meth c cX12_flag 1 RX12 (some .int))  (h : n_X12_flag_b9 F  S t0 = some q) (hW : zW (mG D cs ad) s S H locs) (hl : lv_has ls 1 []) : W p l e (zR 0 0) s m args below meth c H locs 0 0 (zQi (mG D cs ad) q below args s) (F0 m 9 ls [.int t0]) := by
  unfold n_X12_flag_b9 at h
  obtain ⟨hx, hb, hml, hown, hts, hret, hlk⟩ := id C
  exact zz_iret C rfl h hW dX12_flag_9
def n_X12_flag_e (F : Nat)  (S : Zs) (x0 : Int32) : Option (Int32 × Zs) :=
  if x0 = 0 then (n_X12_flag_b9 F  S (0 : Int32)) else (n_X12_flag_b9 F  S (1 : Int32))
set_option maxRecDepth 20000 in
set_option maxHeartbeats 4000000 in
theorem w_X12_flag_e {F : Nat} {q : (Int32 × Zs)} {S : Zs}  {x0 : Int32} {ls : Array Slot} {H : Heap} {locs : List Loc} (C : zC p s m args meth c cX12_flag 1 RX12 (some .int))  (h : n_X12_flag_e F  S x0 = some q) (hW : zW (mG D cs ad) s S H locs) (hl : lv_has ls 1 [(0, .int x0)]) : W p l e (zR 0 0) s m args below meth c H locs 0 0 (zQi (mG D cs ad) q below args s) (F0 m 0 ls []) := by
  unfold n_X12_flag_e at h
  obtain ⟨hx, hb, hml, hown, hts, hret, hlk⟩ := id C
  refine lv_iload_n hx hb dX12_flag_0 rfl (lv_at hl 0 rfl) ?_
  refine zz_ieq (tgt := 8) C h dX12_flag_1 (by decide) (fun h => ?_) (fun h => ?_)
  · refine lv_iconst (v := 0) hx hb dX12_flag_8 (by decide) ?_
    exact w_X12_flag_b9 (F := F) C h hW (lv_sub hl [] rfl)
  · refine lv_iconst (v := 1) hx hb dX12_flag_4 (by decide) ?_
    refine lv_goto (tgt := 9) hx hb dX12_flag_5 (by decide) ?_
    exact w_X12_flag_b9 (F := F) C h hW (lv_sub hl [] rfl)
def n_X12_flag (F : Nat) (S : Zs) (x0 : Int32) : Option (Int32 × Zs) := n_X12_flag_e F  S x0
theorem c_X12_flag {l : Launch} {D : va_G} {cs ad : Nat → Nat} {F : Nat} {S : Zs} {x0 : Int32} {q : (Int32 × Zs)} (h : n_X12_flag F S x0 = some q) : zMi l yX12_flag cX12_flag 1 (some .int) (zR 0 0) (mG D cs ad) [.int x0] S q :=
  zz_enter (by decide) (Nat.le_of_ble_eq_true rfl) (fun p e s m below meth c ls C hW hl => w_X12_flag_e (F := F) C h hW (lv_sub hl [0] rfl))
def n_X12_enters_0_e (F : Nat)  (S : Zs) (x1 : Int32) : Option (Int32 × Zs) :=
  zgf S 1 (fun v1 => zst S 1 32 v1 x1 (fun S2 => zgf S2 1 (fun v3 => zpf S2 1 (v3 + (1 : Int32)) (fun S4 => some (0, S4)))))
set_option maxRecDepth 20000 in
set_option maxHeartbeats 4000000 in
theorem w_X12_enters_0_e {F : Nat} {q : (Int32 × Zs)} {S : Zs}  {x1 : Int32} {ls : Array Slot} {H : Heap} {locs : List Loc} (C : zC p s m args meth c cX12_enters 2 RX12 none)  (h : n_X12_enters_0_e F  S x1 = some q) (hW : zW (mG D cs ad) s S H locs) (hl : lv_has ls 2 [(0, .ref (ad 0)), (1, .int x1)]) : W p l e (zR 0 0) s m args below meth c H locs 0 0 (zQv (mG D cs ad) q below args s) (F0 m 0 ls []) := by
  unfold n_X12_enters_0_e at h
  obtain ⟨hx, hb, hml, hown, hts, hret, hlk⟩ := id C
  refine lv_aload_n hx hb dX12_enters_0 rfl (lv_at hl 0 rfl) ?_
  refine mg_0_2 C hW fl_X12_7 dX12_enters_1 ?_
  refine lv_aload_n hx hb dX12_enters_4 rfl (lv_at hl 0 rfl) ?_
  refine mg_0_1 C hW h fl_X12_11 dX12_enters_5 (fun v1 h => ?_)
  refine lv_iload_n hx hb dX12_enters_8 rfl (lv_at hl 1 rfl) ?_
  refine ms_1 C hW h dX12_enters_9 (fun S2 H locs h hW => ?_)
  refine lv_aload_n hx hb dX12_enters_10 rfl (lv_at hl 0 rfl) ?_
  refine lv_dup hx hb dX12_enters_11 rfl ?_
  refine mg_0_1 C hW h fl_X12_11 dX12_enters_12 (fun v3 h => ?_)
  refine lv_iconst (v := 1) hx hb dX12_enters_15 (by decide) ?_
  refine lv_iadd hx hb dX12_enters_16 ?_
  refine mp_0_1 C hW h fl_X12_11 dX12_enters_17 (fun S4 H locs h hW => ?_)
  exact zz_vret C rfl h hW dX12_enters_20
def n_X12_enters_0 (F : Nat) (S : Zs) (x1 : Int32) : Option (Int32 × Zs) := n_X12_enters_0_e F  S x1
theorem c_X12_enters_0 {l : Launch} {D : va_G} {cs ad : Nat → Nat} {F : Nat} {S : Zs} {x1 : Int32} {q : (Int32 × Zs)} (h : n_X12_enters_0 F S x1 = some q) : zMv l yX12_enters cX12_enters 2 none (zR 0 0) (mG D cs ad) [.ref (ad 0), .int x1] S q :=
  zz_enter (by decide) (Nat.le_of_ble_eq_true rfl) (fun p e s m below meth c ls C hW hl => w_X12_enters_0_e (F := F) C h hW (lv_sub hl [0, 1] rfl))
def n_X12_formOf_e (F : Nat)  (S : Zs) (x0 : Int32) : Option (Int32 × Zs) :=
  some ((x0 / (576 : Int32)), S)
set_option maxRecDepth 20000 in
set_option maxHeartbeats 4000000 in
theorem w_X12_formOf_e {F : Nat} {q : (Int32 × Zs)} {S : Zs}  {x0 : Int32} {ls : Array Slot} {H : Heap} {locs : List Loc} (C : zC p s m args meth c cX12_formOf 1 RX12 (some .int))  (h : n_X12_formOf_e F  S x0 = some q) (hW : zW (mG D cs ad) s S H locs) (hl : lv_has ls 1 [(0, .int x0)]) : W p l e (zR 0 0) s m args below meth c H locs 0 0 (zQi (mG D cs ad) q below args s) (F0 m 0 ls []) := by
  unfold n_X12_formOf_e at h
  obtain ⟨hx, hb, hml, hown, hts, hret, hlk⟩ := id C
  refine lv_iload_n hx hb dX12_formOf_0 rfl (lv_at hl 0 rfl) ?_
  refine lv_sipush (v := 576) hx hb dX12_formOf_1 (by decide) ?_
  refine lv_idiv hx hb dX12_formOf_4 (by decide) ?_
  exact zz_iret C rfl h hW dX12_formOf_5
def n_X12_formOf (F : Nat) (S : Zs) (x0 : Int32) : Option (Int32 × Zs) := n_X12_formOf_e F  S x0
theorem c_X12_formOf {l : Launch} {D : va_G} {cs ad : Nat → Nat} {F : Nat} {S : Zs} {x0 : Int32} {q : (Int32 × Zs)} (h : n_X12_formOf F S x0 = some q) : zMi l yX12_formOf cX12_formOf 1 (some .int) (zR 0 0) (mG D cs ad) [.int x0] S q :=
  zz_enter (by decide) (Nat.le_of_ble_eq_true rfl) (fun p e s m below meth c ls C hW hl => w_X12_formOf_e (F := F) C h hW (lv_sub hl [0] rfl))
def n_X12_firstOf_e (F : Nat)  (S : Zs) (x0 : Int32) : Option (Int32 × Zs) :=
  some (((x0 / (24 : Int32)) - (x0 / (24 : Int32)) / (24 : Int32) * (24 : Int32)), S)
set_option maxRecDepth 20000 in
set_option maxHeartbeats 4000000 in
theorem w_X12_firstOf_e {F : Nat} {q : (Int32 × Zs)} {S : Zs}  {x0 : Int32} {ls : Array Slot} {H : Heap} {locs : List Loc} (C : zC p s m args meth c cX12_firstOf 1 RX12 (some .int))  (h : n_X12_firstOf_e F  S x0 = some q) (hW : zW (mG D cs ad) s S H locs) (hl : lv_has ls 1 [(0, .int x0)]) : W p l e (zR 0 0) s m args below meth c H locs 0 0 (zQi (mG D cs ad) q below args s) (F0 m 0 ls []) := by
  unfold n_X12_firstOf_e at h
  obtain ⟨hx, hb, hml, hown, hts, hret, hlk⟩ := id C
  refine lv_iload_n hx hb dX12_firstOf_0 rfl (lv_at hl 0 rfl) ?_
  refine lv_bipush (v := 24) hx hb dX12_firstOf_1 (by decide) ?_
  refine lv_idiv hx hb dX12_firstOf_3 (by decide) ?_
  refine lv_bipush (v := 24) hx hb dX12_firstOf_4 (by decide) ?_
  refine lv_irem hx hb dX12_firstOf_6 (by decide) ?_
  exact zz_iret C rfl h hW dX12_firstOf_7
def n_X12_firstOf (F : Nat) (S : Zs) (x0 : Int32) : Option (Int32 × Zs) := n_X12_firstOf_e F  S x0
theorem c_X12_firstOf {l : Launch} {D : va_G} {cs ad : Nat → Nat} {F : Nat} {S : Zs} {x0 : Int32} {q : (Int32 × Zs)} (h : n_X12_firstOf F S x0 = some q) : zMi l yX12_firstOf cX12_firstOf 1 (some .int) (zR 0 0) (mG D cs ad) [.int x0] S q :=
  zz_enter (by decide) (Nat.le_of_ble_eq_true rfl) (fun p e s m below meth c ls C hW hl => w_X12_firstOf_e (F := F) C h hW (lv_sub hl [0] rfl))
def n_X12_secondOf_e (F : Nat)  (S : Zs) (x0 : Int32) : Option (Int32 × Zs) :=
  some ((x0 - x0 / (24 : Int32) * (24 : Int32)), S)
set_option maxRecDepth 20000 in
set_option maxHeartbeats 4000000 in
theorem w_X12_secondOf_e {F : Nat} {q : (Int32 × Zs)} {S : Zs}  {x0 : Int32} {ls : Array Slot} {H : Heap} {locs : List Loc} (C : zC p s m args meth c cX12_secondOf 1 RX12 (some .int))  (h : n_X12_secondOf_e F  S x0 = some q) (hW : zW (mG D cs ad) s S H locs) (hl : lv_has ls 1 [(0, .int x0)]) : W p l e (zR 0 0) s m args below meth c H locs 0 0 (zQi (mG D cs ad) q below args s) (F0 m 0 ls []) := by
  unfold n_X12_secondOf_e at h
  obtain ⟨hx, hb, hml, hown, hts, hret, hlk⟩ := id C
  refine lv_iload_n hx hb dX12_secondOf_0 rfl (lv_at hl 0 rfl) ?_
  refine lv_bipush (v := 24) hx hb dX12_secondOf_1 (by decide) ?_
  refine lv_irem hx hb dX12_secondOf_3 (by decide) ?_
  exact zz_iret C rfl h hW dX12_secondOf_4
def n_X12_secondOf (F : Nat) (S : Zs) (x0 : Int32) : Option (Int32 × Zs) := n_X12_secondOf_e F  S x0
theorem c_X12_secondOf {l : Launch} {D : va_G} {cs ad : Nat → Nat} {F : Nat} {S : Zs} {x0 : Int32} {q : (Int32 × Zs)} (h : n_X12_secondOf F S x0 = some q) : zMi l yX12_secondOf cX12_secondOf 1 (some .int) (zR 0 0) (mG D cs ad) [.int x0] S q :=
  zz_enter (by decide) (Nat.le_of_ble_eq_true rfl) (fun p e s m below meth c ls C hW hl => w_X12_secondOf_e (F := F) C h hW (lv_sub hl [0] rfl))
def n_X12_codeOf_e (F : Nat)  (S : Zs) (x0 : Int32) (x1 : Int32) (x2 : Int32) : Option (Int32 × Zs) :=
  some (((((576 : Int32) * x0) + ((24 : Int32) * x1)) + x2), S)
set_option maxRecDepth 20000 in
set_option maxHeartbeats 4000000 in
theorem w_X12_codeOf_e {F : Nat} {q : (Int32 × Zs)} {S : Zs}  {x0 : Int32} {x1 : Int32} {x2 : Int32} {ls : Array Slot} {H : Heap} {locs : List Loc} (C : zC p s m args meth c cX12_codeOf 3 RX12 (some .int))  (h : n_X12_codeOf_e F  S x0 x1 x2 = some q) (hW : zW (mG D cs ad) s S H locs) (hl : lv_has ls 3 [(0, .int x0), (1, .int x1), (2, .int x2)]) : W p l e (zR 0 0) s m args below meth c H locs 0 0 (zQi (mG D cs ad) q below args s) (F0 m 0 ls []) := by
  unfold n_X12_codeOf_e at h
  obtain ⟨hx, hb, hml, hown, hts, hret, hlk⟩ := id C
  refine lv_sipush (v := 576) hx hb dX12_codeOf_0 (by decide) ?_
  refine lv_iload_n hx hb dX12_codeOf_3 rfl (lv_at hl 0 rfl) ?_
  refine lv_imul hx hb dX12_codeOf_4 ?_
  refine lv_bipush (v := 24) hx hb dX12_codeOf_5 (by decide) ?_
  refine lv_iload_n hx hb dX12_codeOf_7 rfl (lv_at hl 1 rfl) ?_
  refine lv_imul hx hb dX12_codeOf_8 ?_
  refine lv_iadd hx hb dX12_codeOf_9 ?_
  refine lv_iload_n hx hb dX12_codeOf_10 rfl (lv_at hl 2 rfl) ?_
  refine lv_iadd hx hb dX12_codeOf_11 ?_
  exact zz_iret C rfl h hW dX12_codeOf_12
def n_X12_codeOf (F : Nat) (S : Zs) (x0 : Int32) (x1 : Int32) (x2 : Int32) : Option (Int32 × Zs) := n_X12_codeOf_e F  S x0 x1 x2
theorem c_X12_codeOf {l : Launch} {D : va_G} {cs ad : Nat → Nat} {F : Nat} {S : Zs} {x0 : Int32} {x1 : Int32} {x2 : Int32} {q : (Int32 × Zs)} (h : n_X12_codeOf F S x0 x1 x2 = some q) : zMi l yX12_codeOf cX12_codeOf 3 (some .int) (zR 0 0) (mG D cs ad) [.int x0, .int x1, .int x2] S q :=
  zz_enter (by decide) (Nat.le_of_ble_eq_true rfl) (fun p e s m below meth c ls C hW hl => w_X12_codeOf_e (F := F) C h hW (lv_sub hl [0, 1, 2] rfl))
def n_X12_isCode_e (F : Nat)  (S : Zs) (x0 : Int32) : Option (Int32 × Zs) :=
  zcl (n_X12_in F S (x0.toInt64) (0 : Int64) (2303 : Int64)) (fun v2 S1 => zrb v2 S1)
set_option maxRecDepth 20000 in
set_option maxHeartbeats 4000000 in
theorem w_X12_isCode_e {F : Nat} {q : (Int32 × Zs)} {S : Zs}  {x0 : Int32} {ls : Array Slot} {H : Heap} {locs : List Loc} (C : zC p s m args meth c cX12_isCode 1 RX12 (some .boolean))  (h : n_X12_isCode_e F  S x0 = some q) (hW : zW (mG D cs ad) s S H locs) (hl : lv_has ls 1 [(0, .int x0)]) : W p l e (zR 1 25) s m args below meth c H locs 0 0 (zQi (mG D cs ad) q below args s) (F0 m 0 ls []) := by
  unfold n_X12_isCode_e at h
  obtain ⟨hx, hb, hml, hown, hts, hret, hlk⟩ := id C
  refine lv_iload_n hx hb dX12_isCode_0 rfl (lv_at hl 0 rfl) ?_
  refine lv_i2l hx hb dX12_isCode_1 rfl ?_
  refine lv_lconst (v := 0) hx hb dX12_isCode_2 (by decide) ?_
  refine lv_ldc2 (v := 2303) hx hb hown (hts _ ct_X12_14) dX12_isCode_3 ?_
  refine zz_callSi (As := [.long (x0.toInt64), .long (0 : Int64), .long (2303 : Int64)]) C hW h (fun r hr => c_X12_in hr) lk_X12_16 rfl hl.1 ⟨rfl, rfl⟩ ⟨Nat.le_of_ble_eq_true rfl, Nat.le_of_ble_eq_true rfl⟩ (Nat.le_of_ble_eq_true rfl) ⟨Nat.zero_le _, Nat.zero_le _⟩ rfl dX12_isCode_6 (fun v2 S1 H locs h hW => ?_)
  exact zz_zret C rfl h hW dX12_isCode_9
def n_X12_isCode (F : Nat) (S : Zs) (x0 : Int32) : Option (Int32 × Zs) := n_X12_isCode_e F  S x0
theorem c_X12_isCode {l : Launch} {D : va_G} {cs ad : Nat → Nat} {F : Nat} {S : Zs} {x0 : Int32} {q : (Int32 × Zs)} (h : n_X12_isCode F S x0 = some q) : zMi l yX12_isCode cX12_isCode 1 (some .boolean) (zR 1 25) (mG D cs ad) [.int x0] S q :=
  zz_enter (by decide) (Nat.le_of_ble_eq_true rfl) (fun p e s m below meth c ls C hW hl => w_X12_isCode_e (F := F) C h hW (lv_sub hl [0] rfl))
def n_X12_contraryOf_e (F : Nat)  (S : Zs) (x0 : Int32) : Option (Int32 × Zs) :=
  zcl (n_X12_formOf F S x0) (fun v2 S1 => zcl (n_X12_firstOf F S1 x0) (fun v4 S3 => zcl (n_X12_secondOf F S3 x0) (fun v6 S5 => zcl (n_X12_codeOf F S5 ((3 : Int32) - v2) v4 v6) (fun v8 S7 => some (v8, S7)))))
set_option maxRecDepth 20000 in
set_option maxHeartbeats 4000000 in
theorem w_X12_contraryOf_e {F : Nat} {q : (Int32 × Zs)} {S : Zs}  {x0 : Int32} {ls : Array Slot} {H : Heap} {locs : List Loc} (C : zC p s m args meth c cX12_contraryOf 1 RX12 (some .int))  (h : n_X12_contraryOf_e F  S x0 = some q) (hW : zW (mG D cs ad) s S H locs) (hl : lv_has ls 1 [(0, .int x0)]) : W p l e (zR 1 22) s m args below meth c H locs 0 0 (zQi (mG D cs ad) q below args s) (F0 m 0 ls []) := by
  unfold n_X12_contraryOf_e at h
  obtain ⟨hx, hb, hml, hown, hts, hret, hlk⟩ := id C
  refine lv_iconst (v := 3) hx hb dX12_contraryOf_0 (by decide) ?_
  refine lv_iload_n hx hb dX12_contraryOf_1 rfl (lv_at hl 0 rfl) ?_
  refine zz_callSi (As := [.int x0]) C hW h (fun r hr => c_X12_formOf hr) lk_X12_20 rfl hl.1 ⟨rfl, rfl⟩ ⟨Nat.le_of_ble_eq_true rfl, Nat.le_of_ble_eq_true rfl⟩ (Nat.le_of_ble_eq_true rfl) ⟨Nat.zero_le _, Nat.zero_le _⟩ rfl dX12_contraryOf_2 (fun v2 S1 H locs h hW => ?_)
  refine lv_isub hx hb dX12_contraryOf_5 ?_
  refine lv_iload_n hx hb dX12_contraryOf_6 rfl (lv_at hl 0 rfl) ?_
  refine zz_callSi (As := [.int x0]) C hW h (fun r hr => c_X12_firstOf hr) lk_X12_24 rfl hl.1 ⟨rfl, rfl⟩ ⟨Nat.le_of_ble_eq_true rfl, Nat.le_of_ble_eq_true rfl⟩ (Nat.le_of_ble_eq_true rfl) ⟨Nat.zero_le _, Nat.zero_le _⟩ rfl dX12_contraryOf_7 (fun v4 S3 H locs h hW => ?_)
  refine lv_iload_n hx hb dX12_contraryOf_10 rfl (lv_at hl 0 rfl) ?_
  refine zz_callSi (As := [.int x0]) C hW h (fun r hr => c_X12_secondOf hr) lk_X12_27 rfl hl.1 ⟨rfl, rfl⟩ ⟨Nat.le_of_ble_eq_true rfl, Nat.le_of_ble_eq_true rfl⟩ (Nat.le_of_ble_eq_true rfl) ⟨Nat.zero_le _, Nat.zero_le _⟩ rfl dX12_contraryOf_11 (fun v6 S5 H locs h hW => ?_)
  refine zz_callSi (As := [.int ((3 : Int32) - v2), .int v4, .int v6]) C hW h (fun r hr => c_X12_codeOf hr) lk_X12_30 rfl hl.1 ⟨rfl, rfl⟩ ⟨Nat.le_of_ble_eq_true rfl, Nat.le_of_ble_eq_true rfl⟩ (Nat.le_of_ble_eq_true rfl) ⟨Nat.zero_le _, Nat.zero_le _⟩ rfl dX12_contraryOf_14 (fun v8 S7 H locs h hW => ?_)
  exact zz_iret C rfl h hW dX12_contraryOf_17
def n_X12_contraryOf (F : Nat) (S : Zs) (x0 : Int32) : Option (Int32 × Zs) := n_X12_contraryOf_e F  S x0
theorem c_X12_contraryOf {l : Launch} {D : va_G} {cs ad : Nat → Nat} {F : Nat} {S : Zs} {x0 : Int32} {q : (Int32 × Zs)} (h : n_X12_contraryOf F S x0 = some q) : zMi l yX12_contraryOf cX12_contraryOf 1 (some .int) (zR 1 22) (mG D cs ad) [.int x0] S q :=
  zz_enter (by decide) (Nat.le_of_ble_eq_true rfl) (fun p e s m below meth c ls C hW hl => w_X12_contraryOf_e (F := F) C h hW (lv_sub hl [0] rfl))
def n_X12_sign_0_b18_l (F : Nat) (rc18 : Zs → Int32 → Int32 → Option (Int32 × Zs)) (S : Zs) (x1 : Int32) (x2 : Int32) : Option (Int32 × Zs) :=
  if (4 : Int32) ≤ x2 then (zgf S 13 (fun v1 => zpf S 13 (v1 + (4 : Int32)) (fun S2 => zgf S2 13 (fun v3 => some (v3, S2))))) else (zgf S 13 (fun v4 => zst S 5 80 (v4 + x2) ((x1 >>> (((24 : Int32) - ((8 : Int32) * x2)) &&& 31)) &&& (255 : Int32)) (fun S5 => zlet (x2 + (1 : Int32)) (fun v6 => rc18 S5 x1 v6))))
set_option maxRecDepth 20000 in
set_option maxHeartbeats 4000000 in
theorem w_X12_sign_0_b18_l {F : Nat} {q : (Int32 × Zs)} {S : Zs} {rc18 : Zs → Int32 → Int32 → Option (Int32 × Zs)} {x1 : Int32} {x2 : Int32} {ls : Array Slot} {H : Heap} {locs : List Loc} (C : zC p s m args meth c cX12_sign 3 RX12 (some .int)) (hrc18 : ∀ (S : Zs) (x1 : Int32) (x2 : Int32) (H : Heap) (locs : List Loc) (ls : Array Slot), rc18 S x1 x2 = some q → zW (mG D cs ad) s S H locs → lv_has ls 3 [(0, .ref (ad 0)), (1, .int x1), (2, .int x2)] → W p l e (zR 0 0) s m args below meth c H locs 0 0 (zQi (mG D cs ad) q below args s) (F0 m 18 ls [])) (h : n_X12_sign_0_b18_l F rc18 S x1 x2 = some q) (hW : zW (mG D cs ad) s S H locs) (hl : lv_has ls 3 [(0, .ref (ad 0)), (1, .int x1), (2, .int x2)]) : W p l e (zR 0 0) s m args below meth c H locs 0 0 (zQi (mG D cs ad) q below args s) (F0 m 18 ls []) := by
  unfold n_X12_sign_0_b18_l at h
  obtain ⟨hx, hb, hml, hown, hts, hret, hlk⟩ := id C
  refine lv_iload_n hx hb dX12_sign_18 rfl (lv_at hl 2 rfl) ?_
  refine lv_iconst (v := 4) hx hb dX12_sign_19 (by decide) ?_
  refine zz_cge (tgt := 53) C h dX12_sign_20 (by decide) (fun h => ?_) (fun h => ?_)
  · refine lv_aload_n hx hb dX12_sign_53 rfl (lv_at hl 0 rfl) ?_
    refine lv_dup hx hb dX12_sign_54 rfl ?_
    refine mg_0_13 C hW h fl_X12_34 dX12_sign_55 (fun v1 h => ?_)
    refine lv_iconst (v := 4) hx hb dX12_sign_58 (by decide) ?_
    refine lv_iadd hx hb dX12_sign_59 ?_
    refine mp_0_13 C hW h fl_X12_34 dX12_sign_60 (fun S2 H locs h hW => ?_)
    refine lv_aload_n hx hb dX12_sign_63 rfl (lv_at hl 0 rfl) ?_
    refine mg_0_13 C hW h fl_X12_34 dX12_sign_64 (fun v3 h => ?_)
    exact zz_iret C rfl h hW dX12_sign_67
  · refine lv_aload_n hx hb dX12_sign_23 rfl (lv_at hl 0 rfl) ?_
    refine mg_0_12 C hW fl_X12_37 dX12_sign_24 ?_
    refine lv_aload_n hx hb dX12_sign_27 rfl (lv_at hl 0 rfl) ?_
    refine mg_0_13 C hW h fl_X12_34 dX12_sign_28 (fun v4 h => ?_)
    refine lv_iload_n hx hb dX12_sign_31 rfl (lv_at hl 2 rfl) ?_
    refine lv_iadd hx hb dX12_sign_32 ?_
    refine lv_iload_n hx hb dX12_sign_33 rfl (lv_at hl 1 rfl) ?_
    refine lv_bipush (v := 24) hx hb dX12_sign_34 (by decide) ?_
    refine lv_bipush (v := 8) hx hb dX12_sign_36 (by decide) ?_
    refine lv_iload_n hx hb dX12_sign_38 rfl (lv_at hl 2 rfl) ?_
    refine lv_imul hx hb dX12_sign_39 ?_
    refine lv_isub hx hb dX12_sign_40 ?_
    refine lv_ishr hx hb dX12_sign_41 ?_
    refine lv_sipush (v := 255) hx hb dX12_sign_42 (by decide) ?_
    refine lv_iand hx hb dX12_sign_45 ?_
    refine ms_5 C hW h dX12_sign_46 (fun S5 H locs h hW => ?_)
    obtain ⟨v6, ev6, h⟩ := zz_name h
    refine lv_iinc (v := v6) (lv' := [(2, .int v6), (0, .ref (ad 0)), (1, .int x1)]) hx hb dX12_sign_47 hl (k := 2) rfl ev6.symm (by decide) rfl (fun ls hl => ?_)
    refine lv_goto (tgt := 18) hx hb dX12_sign_50 (by decide) ?_
    exact hrc18 _ _ _ _ _ _ h hW (lv_sub hl [1, 2, 0] rfl)
def n_X12_sign_0_b18 (F : Nat)  (S : Zs) (x1 : Int32) (x2 : Int32) : Option (Int32 × Zs) :=
  zfix (fun (rc : (Zs × Int32 × Int32) → Option (Int32 × Zs)) (u : (Zs × Int32 × Int32)) => n_X12_sign_0_b18_l F  (fun S x1 x2 => rc (S, x1, x2)) u.1 u.2.1 u.2.2) F (S, x1, x2)
theorem w_X12_sign_0_b18 {F : Nat} {q : (Int32 × Zs)}  (C : zC p s m args meth c cX12_sign 3 RX12 (some .int))  : ∀ (n : Nat) (S : Zs) (x1 : Int32) (x2 : Int32) (H : Heap) (locs : List Loc) (ls : Array Slot), zfix (fun (rc : (Zs × Int32 × Int32) → Option (Int32 × Zs)) (u : (Zs × Int32 × Int32)) => n_X12_sign_0_b18_l F  (fun S x1 x2 => rc (S, x1, x2)) u.1 u.2.1 u.2.2) n (S, x1, x2) = some q → zW (mG D cs ad) s S H locs → lv_has ls 3 [(0, .ref (ad 0)), (1, .int x1), (2, .int x2)] → W p l e (zR 0 0) s m args below meth c H locs 0 0 (zQi (mG D cs ad) q below args s) (F0 m 18 ls []) := by
  intro n
  induction n with
  | zero => intro S x1 x2 H locs ls h; exact absurd h (fun h => by cases h)
  | succ n ih => intro S x1 x2 H locs ls h hW hl; exact w_X12_sign_0_b18_l (F := F) C (fun S x1 x2 H locs ls h hW hl => ih S x1 x2 H locs ls h hW hl) h hW hl
def n_X12_sign_0_e (F : Nat)  (S : Zs) (x1 : Int32) : Option (Int32 × Zs) :=
  zpf S 0 (0 : Int32) (fun S1 => zgf S1 13 (fun v2 => if v2 ≤ (76 : Int32) then (n_X12_sign_0_b18 F  S1 x1 (0 : Int32)) else (some ((-1 : Int32), S1))))
set_option maxRecDepth 20000 in
set_option maxHeartbeats 4000000 in
theorem w_X12_sign_0_e {F : Nat} {q : (Int32 × Zs)} {S : Zs}  {x1 : Int32} {ls : Array Slot} {H : Heap} {locs : List Loc} (C : zC p s m args meth c cX12_sign 3 RX12 (some .int))  (h : n_X12_sign_0_e F  S x1 = some q) (hW : zW (mG D cs ad) s S H locs) (hl : lv_has ls 3 [(0, .ref (ad 0)), (1, .int x1)]) : W p l e (zR 0 0) s m args below meth c H locs 0 0 (zQi (mG D cs ad) q below args s) (F0 m 0 ls []) := by
  unfold n_X12_sign_0_e at h
  obtain ⟨hx, hb, hml, hown, hts, hret, hlk⟩ := id C
  refine lv_aload_n hx hb dX12_sign_0 rfl (lv_at hl 0 rfl) ?_
  refine lv_iconst (v := 0) hx hb dX12_sign_1 (by decide) ?_
  refine mp_0_0 C hW h fl_X12_3 dX12_sign_2 (fun S1 H locs h hW => ?_)
  refine lv_aload_n hx hb dX12_sign_5 rfl (lv_at hl 0 rfl) ?_
  refine mg_0_13 C hW h fl_X12_34 dX12_sign_6 (fun v2 h => ?_)
  refine lv_bipush (v := 76) hx hb dX12_sign_9 (by decide) ?_
  refine zz_cle (tgt := 16) C h dX12_sign_11 (by decide) (fun h => ?_) (fun h => ?_)
  · refine lv_iconst (v := 0) hx hb dX12_sign_16 (by decide) ?_
    refine lv_istore_n (lv' := [(2, .int (0 : Int32)), (0, .ref (ad 0)), (1, .int x1)]) hx hb dX12_sign_17 rfl hl (by decide) rfl (fun ls hl => ?_)
    exact w_X12_sign_0_b18 (F := F) C F _ _ _ _ _ _ h hW (lv_sub hl [1, 2, 0] rfl)
  · refine lv_iconst (v := -1) hx hb dX12_sign_14 (by decide) ?_
    exact zz_iret C rfl h hW dX12_sign_15
def n_X12_sign_0 (F : Nat) (S : Zs) (x1 : Int32) : Option (Int32 × Zs) := n_X12_sign_0_e F  S x1
theorem c_X12_sign_0 {l : Launch} {D : va_G} {cs ad : Nat → Nat} {F : Nat} {S : Zs} {x1 : Int32} {q : (Int32 × Zs)} (h : n_X12_sign_0 F S x1 = some q) : zMi l yX12_sign cX12_sign 3 (some .int) (zR 0 0) (mG D cs ad) [.ref (ad 0), .int x1] S q :=
  zz_enter (by decide) (Nat.le_of_ble_eq_true rfl) (fun p e s m below meth c ls C hW hl => w_X12_sign_0_e (F := F) C h hW (lv_sub hl [0, 1] rfl))
def n_X12_end_0_e (F : Nat)  (S : Zs) (x1 : Int32) : Option (Int32 × Zs) :=
  zpf S 0 (0 : Int32) (fun S1 => zgf S1 13 (fun v2 => zcl (n_X12_in F S1 (x1.toInt64) (0 : Int64) (v2.toInt64)) (fun v4 S3 => if v4 = 0 then (zrb (0 : Int32) S3) else (zpf S3 13 x1 (fun S5 => zrb (1 : Int32) S5)))))
set_option maxRecDepth 20000 in
set_option maxHeartbeats 4000000 in
theorem w_X12_end_0_e {F : Nat} {q : (Int32 × Zs)} {S : Zs}  {x1 : Int32} {ls : Array Slot} {H : Heap} {locs : List Loc} (C : zC p s m args meth c cX12_end 2 RX12 (some .boolean))  (h : n_X12_end_0_e F  S x1 = some q) (hW : zW (mG D cs ad) s S H locs) (hl : lv_has ls 2 [(0, .ref (ad 0)), (1, .int x1)]) : W p l e (zR 1 25) s m args below meth c H locs 0 0 (zQi (mG D cs ad) q below args s) (F0 m 0 ls []) := by
  unfold n_X12_end_0_e at h
  obtain ⟨hx, hb, hml, hown, hts, hret, hlk⟩ := id C
  refine lv_aload_n hx hb dX12_end_0 rfl (lv_at hl 0 rfl) ?_
  refine lv_iconst (v := 0) hx hb dX12_end_1 (by decide) ?_
  refine mp_0_0 C hW h fl_X12_3 dX12_end_2 (fun S1 H locs h hW => ?_)
  refine lv_iload_n hx hb dX12_end_5 rfl (lv_at hl 1 rfl) ?_
  refine lv_i2l hx hb dX12_end_6 rfl ?_
  refine lv_lconst (v := 0) hx hb dX12_end_7 (by decide) ?_
  refine lv_aload_n hx hb dX12_end_8 rfl (lv_at hl 0 rfl) ?_
  refine mg_0_13 C hW h fl_X12_34 dX12_end_9 (fun v2 h => ?_)
  refine lv_i2l hx hb dX12_end_12 rfl ?_
  refine zz_callSi (As := [.long (x1.toInt64), .long (0 : Int64), .long (v2.toInt64)]) C hW h (fun r hr => c_X12_in hr) lk_X12_16 rfl hl.1 ⟨rfl, rfl⟩ ⟨Nat.le_of_ble_eq_true rfl, Nat.le_of_ble_eq_true rfl⟩ (Nat.le_of_ble_eq_true rfl) ⟨Nat.zero_le _, Nat.zero_le _⟩ rfl dX12_end_13 (fun v4 S3 H locs h hW => ?_)
  refine zz_ine (tgt := 21) C h dX12_end_16 (by decide) (fun h => ?_) (fun h => ?_)
  · refine lv_aload_n hx hb dX12_end_21 rfl (lv_at hl 0 rfl) ?_
    refine lv_iload_n hx hb dX12_end_22 rfl (lv_at hl 1 rfl) ?_
    refine mp_0_13 C hW h fl_X12_34 dX12_end_23 (fun S5 H locs h hW => ?_)
    refine lv_iconst (v := 1) hx hb dX12_end_26 (by decide) ?_
    exact zz_zret C rfl h hW dX12_end_27
  · refine lv_iconst (v := 0) hx hb dX12_end_19 (by decide) ?_
    exact zz_zret C rfl h hW dX12_end_20
def n_X12_end_0 (F : Nat) (S : Zs) (x1 : Int32) : Option (Int32 × Zs) := n_X12_end_0_e F  S x1
theorem c_X12_end_0 {l : Launch} {D : va_G} {cs ad : Nat → Nat} {F : Nat} {S : Zs} {x1 : Int32} {q : (Int32 × Zs)} (h : n_X12_end_0 F S x1 = some q) : zMi l yX12_end cX12_end 2 (some .boolean) (zR 1 25) (mG D cs ad) [.ref (ad 0), .int x1] S q :=
  zz_enter (by decide) (Nat.le_of_ble_eq_true rfl) (fun p e s m below meth c ls C hW hl => w_X12_end_0_e (F := F) C h hW (lv_sub hl [0, 1] rfl))
def n_X12_begins_0_e (F : Nat)  (S : Zs)  : Option (Int32 × Zs) :=
  zgf S 13 (fun v1 => zpf S 13 (0 : Int32) (fun S2 => zpf S2 14 (0 : Int32) (fun S3 => zlet (if (76 : Int32) < v1 then (76 : Int32) else v1) (fun v4 => zpf S3 15 v4 (fun S5 => some (v1, S5))))))
set_option maxRecDepth 20000 in
set_option maxHeartbeats 4000000 in
theorem w_X12_begins_0_e {F : Nat} {q : (Int32 × Zs)} {S : Zs}   {ls : Array Slot} {H : Heap} {locs : List Loc} (C : zC p s m args meth c cX12_begins 2 RX12 (some .int))  (h : n_X12_begins_0_e F  S  = some q) (hW : zW (mG D cs ad) s S H locs) (hl : lv_has ls 2 [(0, .ref (ad 0))]) : W p l e (zR 1 21) s m args below meth c H locs 0 0 (zQi (mG D cs ad) q below args s) (F0 m 0 ls []) := by
  unfold n_X12_begins_0_e at h
  obtain ⟨hx, hb, hml, hown, hts, hret, hlk⟩ := id C
  refine lv_aload_n hx hb dX12_begins_0 rfl (lv_at hl 0 rfl) ?_
  refine mg_0_13 C hW h fl_X12_34 dX12_begins_1 (fun v1 h => ?_)
  refine lv_istore_n (lv' := [(1, .int v1), (0, .ref (ad 0))]) hx hb dX12_begins_4 rfl hl (by decide) rfl (fun ls hl => ?_)
  refine lv_aload_n hx hb dX12_begins_5 rfl (lv_at hl 1 rfl) ?_
  refine lv_iconst (v := 0) hx hb dX12_begins_6 (by decide) ?_
  refine mp_0_13 C hW h fl_X12_34 dX12_begins_7 (fun S2 H locs h hW => ?_)
  refine lv_aload_n hx hb dX12_begins_10 rfl (lv_at hl 1 rfl) ?_
  refine lv_iconst (v := 0) hx hb dX12_begins_11 (by decide) ?_
  refine mp_0_14 C hW h fl_X12_40 dX12_begins_12 (fun S3 H locs h hW => ?_)
  refine lv_aload_n hx hb dX12_begins_15 rfl (lv_at hl 1 rfl) ?_
  refine lv_iload_n hx hb dX12_begins_16 rfl (lv_at hl 0 rfl) ?_
  refine lv_bipush (v := 76) hx hb dX12_begins_17 (by decide) ?_
  refine va_mmin hx hb (hml.trans hl.1.symm) hown (hts _ lkm_X12_43) (hts _ sm_min) (hts _ it_Math) (hts _ cd_min) (Nat.le_of_ble_eq_true rfl) (Nat.le_of_ble_eq_true rfl) (Nat.zero_le _) (Nat.zero_le _) dX12_begins_19 ?_
  refine zz_leti h (fun v4 h => ?_)
  refine mp_0_15 C hW h fl_X12_49 dX12_begins_22 (fun S5 H locs h hW => ?_)
  refine lv_iload_n hx hb dX12_begins_25 rfl (lv_at hl 0 rfl) ?_
  exact zz_iret C rfl h hW dX12_begins_26
def n_X12_begins_0 (F : Nat) (S : Zs)  : Option (Int32 × Zs) := n_X12_begins_0_e F  S 
theorem c_X12_begins_0 {l : Launch} {D : va_G} {cs ad : Nat → Nat} {F : Nat} {S : Zs}  {q : (Int32 × Zs)} (h : n_X12_begins_0 F S  = some q) : zMi l yX12_begins cX12_begins 2 (some .int) (zR 1 21) (mG D cs ad) [.ref (ad 0)] S q :=
  zz_enter (by decide) (Nat.le_of_ble_eq_true rfl) (fun p e s m below meth c ls C hW hl => w_X12_begins_0_e (F := F) C h hW (lv_sub hl [0] rfl))
def n_X12_takes_0_b29 (F : Nat)  (S : Zs) (t0 : Int32) : Option (Int32 × Zs) :=
  zgf S 14 (fun v1 => zcl (n_X12_flag F S t0) (fun v3 S2 => zpf S2 14 (v1 + v3) (fun S4 => zrb t0 S4)))
set_option maxRecDepth 20000 in
set_option maxHeartbeats 4000000 in
theorem w_X12_takes_0_b29 {F : Nat} {q : (Int32 × Zs)} {S : Zs}  {t0 : Int32} {ls : Array Slot} {H : Heap} {locs : List Loc} (C : zC p s m args meth c cX12_takes 3 RX12 (some .boolean))  (h : n_X12_takes_0_b29 F  S t0 = some q) (hW : zW (mG D cs ad) s S H locs) (hl : lv_has ls 3 [(0, .ref (ad 0))]) : W p l e (zR 1 20) s m args below meth c H locs 0 0 (zQi (mG D cs ad) q below args s) (F0 m 29 ls [.int t0]) := by
  unfold n_X12_takes_0_b29 at h
  obtain ⟨hx, hb, hml, hown, hts, hret, hlk⟩ := id C
  refine lv_istore_n (lv' := [(2, .int t0), (0, .ref (ad 0))]) hx hb dX12_takes_29 rfl hl (by decide) rfl (fun ls hl => ?_)
  refine lv_aload_n hx hb dX12_takes_30 rfl (lv_at hl 1 rfl) ?_
  refine lv_dup hx hb dX12_takes_31 rfl ?_
  refine mg_0_14 C hW h fl_X12_40 dX12_takes_32 (fun v1 h => ?_)
  refine lv_iload_n hx hb dX12_takes_35 rfl (lv_at hl 0 rfl) ?_
  refine zz_callSi (As := [.int t0]) C hW h (fun r hr => c_X12_flag hr) lk_X12_52 rfl hl.1 ⟨rfl, rfl⟩ ⟨Nat.le_of_ble_eq_true rfl, Nat.le_of_ble_eq_true rfl⟩ (Nat.le_of_ble_eq_true rfl) ⟨Nat.zero_le _, Nat.zero_le _⟩ rfl dX12_takes_36 (fun v3 S2 H locs h hW => ?_)
  refine lv_iadd hx hb dX12_takes_39 ?_
  refine mp_0_14 C hW h fl_X12_40 dX12_takes_40 (fun S4 H locs h hW => ?_)
  refine lv_iload_n hx hb dX12_takes_43 rfl (lv_at hl 0 rfl) ?_
  exact zz_zret C rfl h hW dX12_takes_44
def n_X12_takes_0_b28 (F : Nat)  (S : Zs)  : Option (Int32 × Zs) :=
  n_X12_takes_0_b29 F  S (0 : Int32)
set_option maxRecDepth 20000 in
set_option maxHeartbeats 4000000 in
theorem w_X12_takes_0_b28 {F : Nat} {q : (Int32 × Zs)} {S : Zs}   {ls : Array Slot} {H : Heap} {locs : List Loc} (C : zC p s m args meth c cX12_takes 3 RX12 (some .boolean))  (h : n_X12_takes_0_b28 F  S  = some q) (hW : zW (mG D cs ad) s S H locs) (hl : lv_has ls 3 [(0, .ref (ad 0))]) : W p l e (zR 1 20) s m args below meth c H locs 0 0 (zQi (mG D cs ad) q below args s) (F0 m 28 ls []) := by
  unfold n_X12_takes_0_b28 at h
  obtain ⟨hx, hb, hml, hown, hts, hret, hlk⟩ := id C
  refine lv_iconst (v := 0) hx hb dX12_takes_28 (by decide) ?_
  exact w_X12_takes_0_b29 (F := F) C h hW (lv_sub hl [0] rfl)
def n_X12_takes_0_e (F : Nat)  (S : Zs) (x1 : Int32) : Option (Int32 × Zs) :=
  zgf S 14 (fun v1 => zgf S 15 (fun v2 => if v2 ≤ v1 then (n_X12_takes_0_b28 F  S ) else (zgf S 14 (fun v3 => zld S 5 80 v3 (fun v4 => if v4 = x1 then (n_X12_takes_0_b29 F  S (1 : Int32)) else (n_X12_takes_0_b28 F  S ))))))
set_option maxRecDepth 20000 in
set_option maxHeartbeats 4000000 in
theorem w_X12_takes_0_e {F : Nat} {q : (Int32 × Zs)} {S : Zs}  {x1 : Int32} {ls : Array Slot} {H : Heap} {locs : List Loc} (C : zC p s m args meth c cX12_takes 3 RX12 (some .boolean))  (h : n_X12_takes_0_e F  S x1 = some q) (hW : zW (mG D cs ad) s S H locs) (hl : lv_has ls 3 [(0, .ref (ad 0)), (1, .int x1)]) : W p l e (zR 1 20) s m args below meth c H locs 0 0 (zQi (mG D cs ad) q below args s) (F0 m 0 ls []) := by
  unfold n_X12_takes_0_e at h
  obtain ⟨hx, hb, hml, hown, hts, hret, hlk⟩ := id C
  refine lv_aload_n hx hb dX12_takes_0 rfl (lv_at hl 0 rfl) ?_
  refine mg_0_14 C hW h fl_X12_40 dX12_takes_1 (fun v1 h => ?_)
  refine lv_aload_n hx hb dX12_takes_4 rfl (lv_at hl 0 rfl) ?_
  refine mg_0_15 C hW h fl_X12_49 dX12_takes_5 (fun v2 h => ?_)
  refine zz_cge (tgt := 28) C h dX12_takes_8 (by decide) (fun h => ?_) (fun h => ?_)
  · exact w_X12_takes_0_b28 (F := F) C h hW (lv_sub hl [0] rfl)
  · refine lv_aload_n hx hb dX12_takes_11 rfl (lv_at hl 0 rfl) ?_
    refine mg_0_12 C hW fl_X12_37 dX12_takes_12 ?_
    refine lv_aload_n hx hb dX12_takes_15 rfl (lv_at hl 0 rfl) ?_
    refine mg_0_14 C hW h fl_X12_40 dX12_takes_16 (fun v3 h => ?_)
    refine ml_5 C hW h dX12_takes_19 (fun v4 h => ?_)
    refine lv_iload_n hx hb dX12_takes_20 rfl (lv_at hl 1 rfl) ?_
    refine zz_cne (tgt := 28) C h dX12_takes_21 (by decide) (fun h => ?_) (fun h => ?_)
    · exact w_X12_takes_0_b28 (F := F) C h hW (lv_sub hl [0] rfl)
    · refine lv_iconst (v := 1) hx hb dX12_takes_24 (by decide) ?_
      refine lv_goto (tgt := 29) hx hb dX12_takes_25 (by decide) ?_
      exact w_X12_takes_0_b29 (F := F) C h hW (lv_sub hl [0] rfl)
def n_X12_takes_0 (F : Nat) (S : Zs) (x1 : Int32) : Option (Int32 × Zs) := n_X12_takes_0_e F  S x1
theorem c_X12_takes_0 {l : Launch} {D : va_G} {cs ad : Nat → Nat} {F : Nat} {S : Zs} {x1 : Int32} {q : (Int32 × Zs)} (h : n_X12_takes_0 F S x1 = some q) : zMi l yX12_takes cX12_takes 3 (some .boolean) (zR 1 20) (mG D cs ad) [.ref (ad 0), .int x1] S q :=
  zz_enter (by decide) (Nat.le_of_ble_eq_true rfl) (fun p e s m below meth c ls C hW hl => w_X12_takes_0_e (F := F) C h hW (lv_sub hl [0, 1] rfl))
def n_X12_isDigit_0_b38 (F : Nat)  (S : Zs) (t0 : Int32) : Option (Int32 × Zs) :=
  zrb t0 S
set_option maxRecDepth 20000 in
set_option maxHeartbeats 4000000 in
theorem w_X12_isDigit_0_b38 {F : Nat} {q : (Int32 × Zs)} {S : Zs}  {t0 : Int32} {ls : Array Slot} {H : Heap} {locs : List Loc} (C : zC p s m args meth c cX12_isDigit 1 RX12 (some .boolean))  (h : n_X12_isDigit_0_b38 F  S t0 = some q) (hW : zW (mG D cs ad) s S H locs) (hl : lv_has ls 1 []) : W p l e (zR 1 25) s m args below meth c H locs 0 0 (zQi (mG D cs ad) q below args s) (F0 m 38 ls [.int t0]) := by
  unfold n_X12_isDigit_0_b38 at h
  obtain ⟨hx, hb, hml, hown, hts, hret, hlk⟩ := id C
  exact zz_zret C rfl h hW dX12_isDigit_38
def n_X12_isDigit_0_b37 (F : Nat)  (S : Zs)  : Option (Int32 × Zs) :=
  n_X12_isDigit_0_b38 F  S (0 : Int32)
set_option maxRecDepth 20000 in
set_option maxHeartbeats 4000000 in
theorem w_X12_isDigit_0_b37 {F : Nat} {q : (Int32 × Zs)} {S : Zs}   {ls : Array Slot} {H : Heap} {locs : List Loc} (C : zC p s m args meth c cX12_isDigit 1 RX12 (some .boolean))  (h : n_X12_isDigit_0_b37 F  S  = some q) (hW : zW (mG D cs ad) s S H locs) (hl : lv_has ls 1 []) : W p l e (zR 1 25) s m args below meth c H locs 0 0 (zQi (mG D cs ad) q below args s) (F0 m 37 ls []) := by
  unfold n_X12_isDigit_0_b37 at h
  obtain ⟨hx, hb, hml, hown, hts, hret, hlk⟩ := id C
  refine lv_iconst (v := 0) hx hb dX12_isDigit_37 (by decide) ?_
  exact w_X12_isDigit_0_b38 (F := F) C h hW (lv_sub hl [] rfl)
def n_X12_isDigit_0_e (F : Nat)  (S : Zs)  : Option (Int32 × Zs) :=
  zgf S 14 (fun v1 => zgf S 15 (fun v2 => if v2 ≤ v1 then (n_X12_isDigit_0_b37 F  S ) else (zgf S 14 (fun v3 => zld S 5 80 v3 (fun v4 => zcl (n_X12_in F S (v4.toInt64) (48 : Int64) (57 : Int64)) (fun v6 S5 => if v6 = 0 then (n_X12_isDigit_0_b37 F  S5 ) else (n_X12_isDigit_0_b38 F  S5 (1 : Int32))))))))
set_option maxRecDepth 20000 in
set_option maxHeartbeats 4000000 in
theorem w_X12_isDigit_0_e {F : Nat} {q : (Int32 × Zs)} {S : Zs}   {ls : Array Slot} {H : Heap} {locs : List Loc} (C : zC p s m args meth c cX12_isDigit 1 RX12 (some .boolean))  (h : n_X12_isDigit_0_e F  S  = some q) (hW : zW (mG D cs ad) s S H locs) (hl : lv_has ls 1 [(0, .ref (ad 0))]) : W p l e (zR 1 25) s m args below meth c H locs 0 0 (zQi (mG D cs ad) q below args s) (F0 m 0 ls []) := by
  unfold n_X12_isDigit_0_e at h
  obtain ⟨hx, hb, hml, hown, hts, hret, hlk⟩ := id C
  refine lv_aload_n hx hb dX12_isDigit_0 rfl (lv_at hl 0 rfl) ?_
  refine mg_0_14 C hW h fl_X12_40 dX12_isDigit_1 (fun v1 h => ?_)
  refine lv_aload_n hx hb dX12_isDigit_4 rfl (lv_at hl 0 rfl) ?_
  refine mg_0_15 C hW h fl_X12_49 dX12_isDigit_5 (fun v2 h => ?_)
  refine zz_cge (tgt := 37) C h dX12_isDigit_8 (by decide) (fun h => ?_) (fun h => ?_)
  · exact w_X12_isDigit_0_b37 (F := F) C h hW (lv_sub hl [] rfl)
  · refine lv_aload_n hx hb dX12_isDigit_11 rfl (lv_at hl 0 rfl) ?_
    refine mg_0_12 C hW fl_X12_37 dX12_isDigit_12 ?_
    refine lv_aload_n hx hb dX12_isDigit_15 rfl (lv_at hl 0 rfl) ?_
    refine mg_0_14 C hW h fl_X12_40 dX12_isDigit_16 (fun v3 h => ?_)
    refine ml_5 C hW h dX12_isDigit_19 (fun v4 h => ?_)
    refine lv_i2l hx hb dX12_isDigit_20 rfl ?_
    refine lv_ldc2 (v := 48) hx hb hown (hts _ ct_X12_56) dX12_isDigit_21 ?_
    refine lv_ldc2 (v := 57) hx hb hown (hts _ ct_X12_58) dX12_isDigit_24 ?_
    refine zz_callSi (As := [.long (v4.toInt64), .long (48 : Int64), .long (57 : Int64)]) C hW h (fun r hr => c_X12_in hr) lk_X12_16 rfl hl.1 ⟨rfl, rfl⟩ ⟨Nat.le_of_ble_eq_true rfl, Nat.le_of_ble_eq_true rfl⟩ (Nat.le_of_ble_eq_true rfl) ⟨Nat.zero_le _, Nat.zero_le _⟩ rfl dX12_isDigit_27 (fun v6 S5 H locs h hW => ?_)
    refine zz_ieq (tgt := 37) C h dX12_isDigit_30 (by decide) (fun h => ?_) (fun h => ?_)
    · exact w_X12_isDigit_0_b37 (F := F) C h hW (lv_sub hl [] rfl)
    · refine lv_iconst (v := 1) hx hb dX12_isDigit_33 (by decide) ?_
      refine lv_goto (tgt := 38) hx hb dX12_isDigit_34 (by decide) ?_
      exact w_X12_isDigit_0_b38 (F := F) C h hW (lv_sub hl [] rfl)
def n_X12_isDigit_0 (F : Nat) (S : Zs)  : Option (Int32 × Zs) := n_X12_isDigit_0_e F  S 
theorem c_X12_isDigit_0 {l : Launch} {D : va_G} {cs ad : Nat → Nat} {F : Nat} {S : Zs}  {q : (Int32 × Zs)} (h : n_X12_isDigit_0 F S  = some q) : zMi l yX12_isDigit cX12_isDigit 1 (some .boolean) (zR 1 25) (mG D cs ad) [.ref (ad 0)] S q :=
  zz_enter (by decide) (Nat.le_of_ble_eq_true rfl) (fun p e s m below meth c ls C hW hl => w_X12_isDigit_0_e (F := F) C h hW (lv_sub hl [0] rfl))
def n_X12_digit_0_b23 (F : Nat)  (S : Zs)  : Option (Int32 × Zs) :=
  some ((-1 : Int32), S)
set_option maxRecDepth 20000 in
set_option maxHeartbeats 4000000 in
theorem w_X12_digit_0_b23 {F : Nat} {q : (Int32 × Zs)} {S : Zs}   {ls : Array Slot} {H : Heap} {locs : List Loc} (C : zC p s m args meth c cX12_digit 2 RX12 (some .int))  (h : n_X12_digit_0_b23 F  S  = some q) (hW : zW (mG D cs ad) s S H locs) (hl : lv_has ls 2 []) : W p l e (zR 2 45) s m args below meth c H locs 0 0 (zQi (mG D cs ad) q below args s) (F0 m 23 ls []) := by
  unfold n_X12_digit_0_b23 at h
  obtain ⟨hx, hb, hml, hown, hts, hret, hlk⟩ := id C
  refine lv_iconst (v := -1) hx hb dX12_digit_23 (by decide) ?_
  exact zz_iret C rfl h hW dX12_digit_24
def n_X12_digit_0_e (F : Nat)  (S : Zs) (x1 : Int32) : Option (Int32 × Zs) :=
  zcl (n_X12_isDigit_0 F S ) (fun v2 S1 => if v2 = 0 then (n_X12_digit_0_b23 F  S1 ) else (zgf S1 14 (fun v3 => zld S1 5 80 v3 (fun v4 => if (v4 - (48 : Int32)) ≤ x1 then (zgf S1 14 (fun v5 => zpf S1 14 (v5 + (1 : Int32)) (fun S6 => zgf S6 14 (fun v7 => zld S6 5 80 (v7 - (1 : Int32)) (fun v8 => some ((v8 - (48 : Int32)), S6)))))) else (n_X12_digit_0_b23 F  S1 )))))
set_option maxRecDepth 20000 in
set_option maxHeartbeats 4000000 in
theorem w_X12_digit_0_e {F : Nat} {q : (Int32 × Zs)} {S : Zs}  {x1 : Int32} {ls : Array Slot} {H : Heap} {locs : List Loc} (C : zC p s m args meth c cX12_digit 2 RX12 (some .int))  (h : n_X12_digit_0_e F  S x1 = some q) (hW : zW (mG D cs ad) s S H locs) (hl : lv_has ls 2 [(0, .ref (ad 0)), (1, .int x1)]) : W p l e (zR 2 45) s m args below meth c H locs 0 0 (zQi (mG D cs ad) q below args s) (F0 m 0 ls []) := by
  unfold n_X12_digit_0_e at h
  obtain ⟨hx, hb, hml, hown, hts, hret, hlk⟩ := id C
  refine lv_aload_n hx hb dX12_digit_0 rfl (lv_at hl 0 rfl) ?_
  refine zz_callVi (As := []) C hW h (fun r hr => c_X12_isDigit_0 hr) lk_X12_60 (hW.recv mr_0) rfl hl.1 ⟨rfl, rfl⟩ ⟨Nat.le_of_ble_eq_true rfl, Nat.le_of_ble_eq_true rfl⟩ (Nat.le_of_ble_eq_true rfl) ⟨Nat.zero_le _, Nat.zero_le _⟩ rfl dX12_digit_1 (fun v2 S1 H locs h hW => ?_)
  refine zz_ieq (tgt := 23) C h dX12_digit_4 (by decide) (fun h => ?_) (fun h => ?_)
  · exact w_X12_digit_0_b23 (F := F) C h hW (lv_sub hl [] rfl)
  · refine lv_aload_n hx hb dX12_digit_7 rfl (lv_at hl 0 rfl) ?_
    refine mg_0_12 C hW fl_X12_37 dX12_digit_8 ?_
    refine lv_aload_n hx hb dX12_digit_11 rfl (lv_at hl 0 rfl) ?_
    refine mg_0_14 C hW h fl_X12_40 dX12_digit_12 (fun v3 h => ?_)
    refine ml_5 C hW h dX12_digit_15 (fun v4 h => ?_)
    refine lv_bipush (v := 48) hx hb dX12_digit_16 (by decide) ?_
    refine lv_isub hx hb dX12_digit_18 ?_
    refine lv_iload_n hx hb dX12_digit_19 rfl (lv_at hl 1 rfl) ?_
    refine zz_cle (tgt := 25) C h dX12_digit_20 (by decide) (fun h => ?_) (fun h => ?_)
    · refine lv_aload_n hx hb dX12_digit_25 rfl (lv_at hl 0 rfl) ?_
      refine lv_dup hx hb dX12_digit_26 rfl ?_
      refine mg_0_14 C hW h fl_X12_40 dX12_digit_27 (fun v5 h => ?_)
      refine lv_iconst (v := 1) hx hb dX12_digit_30 (by decide) ?_
      refine lv_iadd hx hb dX12_digit_31 ?_
      refine mp_0_14 C hW h fl_X12_40 dX12_digit_32 (fun S6 H locs h hW => ?_)
      refine lv_aload_n hx hb dX12_digit_35 rfl (lv_at hl 0 rfl) ?_
      refine mg_0_12 C hW fl_X12_37 dX12_digit_36 ?_
      refine lv_aload_n hx hb dX12_digit_39 rfl (lv_at hl 0 rfl) ?_
      refine mg_0_14 C hW h fl_X12_40 dX12_digit_40 (fun v7 h => ?_)
      refine lv_iconst (v := 1) hx hb dX12_digit_43 (by decide) ?_
      refine lv_isub hx hb dX12_digit_44 ?_
      refine ml_5 C hW h dX12_digit_45 (fun v8 h => ?_)
      refine lv_bipush (v := 48) hx hb dX12_digit_46 (by decide) ?_
      refine lv_isub hx hb dX12_digit_48 ?_
      exact zz_iret C rfl h hW dX12_digit_49
    · exact w_X12_digit_0_b23 (F := F) C h hW (lv_sub hl [] rfl)
def n_X12_digit_0 (F : Nat) (S : Zs) (x1 : Int32) : Option (Int32 × Zs) := n_X12_digit_0_e F  S x1
theorem c_X12_digit_0 {l : Launch} {D : va_G} {cs ad : Nat → Nat} {F : Nat} {S : Zs} {x1 : Int32} {q : (Int32 × Zs)} (h : n_X12_digit_0 F S x1 = some q) : zMi l yX12_digit cX12_digit 2 (some .int) (zR 2 45) (mG D cs ad) [.ref (ad 0), .int x1] S q :=
  zz_enter (by decide) (Nat.le_of_ble_eq_true rfl) (fun p e s m below meth c ls C hW hl => w_X12_digit_0_e (F := F) C h hW (lv_sub hl [0, 1] rfl))
def n_J0_isLatin1_aae02_30_m_b18 (F : Nat)  (S : Zs) (t0 : Int32) : Option (Int32 × Zs) :=
  zrb t0 S
set_option maxRecDepth 20000 in
set_option maxHeartbeats 4000000 in
theorem w_J0_isLatin1_aae02_30_m_b18 {F : Nat} {q : (Int32 × Zs)} {S : Zs}  {t0 : Int32} {ls : Array Slot} {H : Heap} {locs : List Loc} (C : zC p s m args meth c cJ0_isLatin1_aae02 1 RJ0 (some .boolean))  (h : n_J0_isLatin1_aae02_30_m_b18 F  S t0 = some q) (hW : zW (mG D cs ad) s S H locs) (hl : lv_has ls 1 []) : W p l e (zR 0 0) s m args below meth c H locs 0 0 (zQi (mG D cs ad) q below args s) (F0 m 18 ls [.int t0]) := by
  unfold n_J0_isLatin1_aae02_30_m_b18 at h
  obtain ⟨hx, hb, hml, hown, hts, hret, hlk⟩ := id C
  exact zz_zret C rfl h hW dJ0_isLatin1_aae02_18
def n_J0_isLatin1_aae02_30_m_b17 (F : Nat)  (S : Zs)  : Option (Int32 × Zs) :=
  n_J0_isLatin1_aae02_30_m_b18 F  S (0 : Int32)
set_option maxRecDepth 20000 in
set_option maxHeartbeats 4000000 in
theorem w_J0_isLatin1_aae02_30_m_b17 {F : Nat} {q : (Int32 × Zs)} {S : Zs}   {ls : Array Slot} {H : Heap} {locs : List Loc} (C : zC p s m args meth c cJ0_isLatin1_aae02 1 RJ0 (some .boolean))  (h : n_J0_isLatin1_aae02_30_m_b17 F  S  = some q) (hW : zW (mG D cs ad) s S H locs) (hl : lv_has ls 1 []) : W p l e (zR 0 0) s m args below meth c H locs 0 0 (zQi (mG D cs ad) q below args s) (F0 m 17 ls []) := by
  unfold n_J0_isLatin1_aae02_30_m_b17 at h
  obtain ⟨hx, hb, hml, hown, hts, hret, hlk⟩ := id C
  refine lv_iconst (v := 0) hx hb dJ0_isLatin1_aae02_17 (by decide) ?_
  exact w_J0_isLatin1_aae02_30_m_b18 (F := F) C h hW (lv_sub hl [] rfl)
def n_J0_isLatin1_aae02_30_m_e (F : Nat)  (S : Zs)  : Option (Int32 × Zs) :=
  if (1 : Int32) = 0 then (n_J0_isLatin1_aae02_30_m_b17 F  S ) else (if (0 : Int32) = 0 then (n_J0_isLatin1_aae02_30_m_b18 F  S (1 : Int32)) else (n_J0_isLatin1_aae02_30_m_b17 F  S ))
set_option maxRecDepth 20000 in
set_option maxHeartbeats 4000000 in
theorem w_J0_isLatin1_aae02_30_m_e {F : Nat} {q : (Int32 × Zs)} {S : Zs}   {ls : Array Slot} {H : Heap} {locs : List Loc} (C : zC p s m args meth c cJ0_isLatin1_aae02 1 RJ0 (some .boolean))  (h : n_J0_isLatin1_aae02_30_m_e F  S  = some q) (hW : zW (mG D cs ad) s S H locs) (hl : lv_has ls 1 [(0, .ref (ad 30))]) : W p l e (zR 0 0) s m args below meth c H locs 0 0 (zQi (mG D cs ad) q below args s) (F0 m 0 ls []) := by
  unfold n_J0_isLatin1_aae02_30_m_e at h
  obtain ⟨hx, hb, hml, hown, hts, hret, hlk⟩ := id C
  refine mcomp C hW fk_J0_38 dJ0_isLatin1_aae02_0 ?_
  refine zz_ieq (tgt := 17) C h dJ0_isLatin1_aae02_3 (by decide) (fun h => ?_) (fun h => ?_)
  · exact w_J0_isLatin1_aae02_30_m_b17 (F := F) C h hW (lv_sub hl [] rfl)
  · refine lv_aload_n hx hb dJ0_isLatin1_aae02_6 rfl (lv_at hl 0 rfl) ?_
    refine mstc_30 C hW fk_J0_15 dJ0_isLatin1_aae02_7 ?_
    refine zz_ine (tgt := 17) C h dJ0_isLatin1_aae02_10 (by decide) (fun h => ?_) (fun h => ?_)
    · exact w_J0_isLatin1_aae02_30_m_b17 (F := F) C h hW (lv_sub hl [] rfl)
    · refine lv_iconst (v := 1) hx hb dJ0_isLatin1_aae02_13 (by decide) ?_
      refine lv_goto (tgt := 18) hx hb dJ0_isLatin1_aae02_14 (by decide) ?_
      exact w_J0_isLatin1_aae02_30_m_b18 (F := F) C h hW (lv_sub hl [] rfl)
def n_J0_isLatin1_aae02_30_m (F : Nat) (S : Zs)  : Option (Int32 × Zs) := n_J0_isLatin1_aae02_30_m_e F  S 
theorem c_J0_isLatin1_aae02_30_m {l : Launch} {D : va_G} {cs ad : Nat → Nat} {F : Nat} {S : Zs}  {q : (Int32 × Zs)} (h : n_J0_isLatin1_aae02_30_m F S  = some q) : zMi l yJ0_isLatin1_aae02 cJ0_isLatin1_aae02 1 (some .boolean) (zR 0 0) (mG D cs ad) [.ref (ad 30)] S q :=
  zz_enter (by decide) (Nat.le_of_ble_eq_true rfl) (fun p e s m below meth c ls C hW hl => w_J0_isLatin1_aae02_30_m_e (F := F) C h hW (lv_sub hl [0] rfl))
def n_J3_checkIndex_8e157_m_e (F : Nat)  (S : Zs) (x0 : Int32) (x1 : Int32) : Option (Int32 × Zs) :=
  if x0 < 0 then (none) else (if x0 < x1 then (some (x0, S)) else (none))
set_option maxRecDepth 20000 in
set_option maxHeartbeats 4000000 in
theorem w_J3_checkIndex_8e157_m_e {F : Nat} {q : (Int32 × Zs)} {S : Zs}  {x0 : Int32} {x1 : Int32} {ls : Array Slot} {H : Heap} {locs : List Loc} (C : zC p s m args meth c cJ3_checkIndex_8e157 3 RJ3 (some .int))  (h : n_J3_checkIndex_8e157_m_e F  S x0 x1 = some q) (hW : zW (mG D cs ad) s S H locs) (hl : lv_has ls 3 [(0, .int x0), (1, .int x1)]) : W p l e (zR 0 0) s m args below meth c H locs 0 0 (zQi (mG D cs ad) q below args s) (F0 m 0 ls []) := by
  unfold n_J3_checkIndex_8e157_m_e at h
  obtain ⟨hx, hb, hml, hown, hts, hret, hlk⟩ := id C
  refine lv_iload_n hx hb dJ3_checkIndex_8e157_0 rfl (lv_at hl 0 rfl) ?_
  refine zz_ilt (tgt := 9) C h dJ3_checkIndex_8e157_1 (by decide) (fun h => ?_) (fun h => ?_)
  · cases h
  · refine lv_iload_n hx hb dJ3_checkIndex_8e157_4 rfl (lv_at hl 0 rfl) ?_
    refine lv_iload_n hx hb dJ3_checkIndex_8e157_5 rfl (lv_at hl 1 rfl) ?_
    refine zz_clt (tgt := 16) C h dJ3_checkIndex_8e157_6 (by decide) (fun h => ?_) (fun h => ?_)
    · refine lv_iload_n hx hb dJ3_checkIndex_8e157_16 rfl (lv_at hl 0 rfl) ?_
      exact zz_iret C rfl h hW dJ3_checkIndex_8e157_17
    · cases h
def n_J3_checkIndex_8e157_m (F : Nat) (S : Zs) (x0 : Int32) (x1 : Int32) : Option (Int32 × Zs) := n_J3_checkIndex_8e157_m_e F  S x0 x1
theorem c_J3_checkIndex_8e157_m {l : Launch} {D : va_G} {cs ad : Nat → Nat} {F : Nat} {S : Zs} {x0 : Int32} {x1 : Int32} {q : (Int32 × Zs)} {w2 : Value} (hw2 : w2 = .null ∨ ∃ t, w2 = .ref t) (h : n_J3_checkIndex_8e157_m F S x0 x1 = some q) : zMi l yJ3_checkIndex_8e157 cJ3_checkIndex_8e157 3 (some .int) (zR 0 0) (mG D cs ad) [.int x0, .int x1, w2] S q :=
  by
  rcases hw2 with rfl | ⟨t, rfl⟩
  · exact zz_enter (by decide) (Nat.le_of_ble_eq_true rfl) (fun p e s m below meth c ls C hW hl => w_J3_checkIndex_8e157_m_e (F := F) C h hW (lv_sub hl [0, 1] rfl))
  · exact zz_enter (by decide) (Nat.le_of_ble_eq_true rfl) (fun p e s m below meth c ls C hW hl => w_J3_checkIndex_8e157_m_e (F := F) C h hW (lv_sub hl [0, 1] rfl))
def n_J0_checkIndex_df160_m_e (F : Nat)  (S : Zs) (x0 : Int32) (x1 : Int32) : Option (Int32 × Zs) :=
  zcl (n_J3_checkIndex_8e157_m F S x0 x1) (fun v3 S2 => some (0, S2))
set_option maxRecDepth 20000 in
set_option maxHeartbeats 4000000 in
theorem w_J0_checkIndex_df160_m_e {F : Nat} {q : (Int32 × Zs)} {S : Zs}  {x0 : Int32} {x1 : Int32} {ls : Array Slot} {H : Heap} {locs : List Loc} (C : zC p s m args meth c cJ0_checkIndex_df160 2 RJ0 none)  (h : n_J0_checkIndex_df160_m_e F  S x0 x1 = some q) (hW : zW (mG D cs ad) s S H locs) (hl : lv_has ls 2 [(0, .int x0), (1, .int x1)]) : W p l e (zR 1 22) s m args below meth c H locs 0 0 (zQv (mG D cs ad) q below args s) (F0 m 0 ls []) := by
  unfold n_J0_checkIndex_df160_m_e at h
  obtain ⟨hx, hb, hml, hown, hts, hret, hlk⟩ := id C
  refine lv_iload_n hx hb dJ0_checkIndex_df160_0 rfl (lv_at hl 0 rfl) ?_
  refine lv_iload_n hx hb dJ0_checkIndex_df160_1 rfl (lv_at hl 1 rfl) ?_
  refine mfmt C hW fk_J0_1053 dJ0_checkIndex_df160_2 (fun w1 hw1 => ?_)
  refine zz_callSi (As := [.int x0, .int x1, w1]) C hW h (fun r hr => c_J3_checkIndex_8e157_m hw1 hr) lk_J0_1059 rfl hl.1 ⟨rfl, rfl⟩ ⟨Nat.le_of_ble_eq_true rfl, Nat.le_of_ble_eq_true rfl⟩ (Nat.le_of_ble_eq_true rfl) ⟨Nat.zero_le _, Nat.zero_le _⟩ rfl dJ0_checkIndex_df160_5 (fun v3 S2 H locs h hW => ?_)
  refine lv_pop hx hb dJ0_checkIndex_df160_8 rfl ?_
  exact zz_vret C rfl h hW dJ0_checkIndex_df160_9
def n_J0_checkIndex_df160_m (F : Nat) (S : Zs) (x0 : Int32) (x1 : Int32) : Option (Int32 × Zs) := n_J0_checkIndex_df160_m_e F  S x0 x1
theorem c_J0_checkIndex_df160_m {l : Launch} {D : va_G} {cs ad : Nat → Nat} {F : Nat} {S : Zs} {x0 : Int32} {x1 : Int32} {q : (Int32 × Zs)} (h : n_J0_checkIndex_df160_m F S x0 x1 = some q) : zMv l yJ0_checkIndex_df160 cJ0_checkIndex_df160 2 none (zR 1 22) (mG D cs ad) [.int x0, .int x1] S q :=
  zz_enter (by decide) (Nat.le_of_ble_eq_true rfl) (fun p e s m below meth c ls C hW hl => w_J0_checkIndex_df160_m_e (F := F) C h hW (lv_sub hl [0, 1] rfl))
def n_J1_charAt_3b067_33_m_e (F : Nat)  (S : Zs) (x1 : Int32) : Option (Int32 × Zs) :=
  zcl (n_J0_checkIndex_df160_m F S x1 (nI 4)) (fun v2 S1 => zlt (mstr 0) 4 x1 (fun v3 => zrn .char (((v3 &&& (255 : Int32)).toUInt32 % 65536).toInt32) S1))
set_option maxRecDepth 20000 in
set_option maxHeartbeats 4000000 in
theorem w_J1_charAt_3b067_33_m_e {F : Nat} {q : (Int32 × Zs)} {S : Zs}  {x1 : Int32} {ls : Array Slot} {H : Heap} {locs : List Loc} (C : zC p s m args meth c cJ1_charAt_3b067 2 RJ1 (some .char))  (h : n_J1_charAt_3b067_33_m_e F  S x1 = some q) (hW : zW (mG D cs ad) s S H locs) (hl : lv_has ls 2 [(0, .ref (ad 33)), (1, .int x1)]) : W p l e (zR 2 43) s m args below meth c H locs 0 0 (zQi (mG D cs ad) q below args s) (F0 m 0 ls []) := by
  unfold n_J1_charAt_3b067_33_m_e at h
  obtain ⟨hx, hb, hml, hown, hts, hret, hlk⟩ := id C
  refine lv_iload_n hx hb dJ1_charAt_3b067_0 rfl (lv_at hl 1 rfl) ?_
  refine lv_aload_n hx hb dJ1_charAt_3b067_1 rfl (lv_at hl 0 rfl) ?_
  refine mstn_33 C hW dJ1_charAt_3b067_2 ?_
  refine zz_callSv (As := [.int x1, .int (nI 4)]) C hW h (fun r hr => c_J0_checkIndex_df160_m hr) lk_J1_9 rfl hl.1 ⟨rfl, rfl⟩ ⟨Nat.le_of_ble_eq_true rfl, Nat.le_of_ble_eq_true rfl⟩ (Nat.le_of_ble_eq_true rfl) ⟨Nat.zero_le _, Nat.zero_le _⟩ rfl dJ1_charAt_3b067_3 (fun v2 S1 H locs h hW => ?_)
  refine lv_aload_n hx hb dJ1_charAt_3b067_6 rfl (lv_at hl 0 rfl) ?_
  refine lv_iload_n hx hb dJ1_charAt_3b067_7 rfl (lv_at hl 1 rfl) ?_
  refine mstl_33 C hW h dJ1_charAt_3b067_8 (fun v3 h => ?_)
  refine lv_sipush (v := 255) hx hb dJ1_charAt_3b067_9 (by decide) ?_
  refine lv_iand hx hb dJ1_charAt_3b067_12 ?_
  refine lv_i2c hx hb dJ1_charAt_3b067_13 rfl ?_
  exact zz_nret C rfl (by decide) h hW dJ1_charAt_3b067_14
def n_J1_charAt_3b067_33_m (F : Nat) (S : Zs) (x1 : Int32) : Option (Int32 × Zs) := n_J1_charAt_3b067_33_m_e F  S x1
theorem c_J1_charAt_3b067_33_m {l : Launch} {D : va_G} {cs ad : Nat → Nat} {F : Nat} {S : Zs} {x1 : Int32} {q : (Int32 × Zs)} (h : n_J1_charAt_3b067_33_m F S x1 = some q) : zMi l yJ1_charAt_3b067 cJ1_charAt_3b067 2 (some .char) (zR 2 43) (mG D cs ad) [.ref (ad 33), .int x1] S q :=
  zz_enter (by decide) (Nat.le_of_ble_eq_true rfl) (fun p e s m below meth c ls C hW hl => w_J1_charAt_3b067_33_m_e (F := F) C h hW (lv_sub hl [0, 1] rfl))
def n_J0_charAt_5068e_30_m_e (F : Nat)  (S : Zs) (x1 : Int32) : Option (Int32 × Zs) :=
  zcl (n_J0_isLatin1_aae02_30_m F S ) (fun v2 S1 => if v2 = 0 then (none) else (zcl (n_J1_charAt_3b067_33_m F S1 x1) (fun v4 S3 => zrn .char v4 S3)))
set_option maxRecDepth 20000 in
set_option maxHeartbeats 4000000 in
theorem w_J0_charAt_5068e_30_m_e {F : Nat} {q : (Int32 × Zs)} {S : Zs}  {x1 : Int32} {ls : Array Slot} {H : Heap} {locs : List Loc} (C : zC p s m args meth c cJ0_charAt_5068e 2 RJ0 (some .char))  (h : n_J0_charAt_5068e_30_m_e F  S x1 = some q) (hW : zW (mG D cs ad) s S H locs) (hl : lv_has ls 2 [(0, .ref (ad 30)), (1, .int x1)]) : W p l e (zR 3 64) s m args below meth c H locs 0 0 (zQi (mG D cs ad) q below args s) (F0 m 0 ls []) := by
  unfold n_J0_charAt_5068e_30_m_e at h
  obtain ⟨hx, hb, hml, hown, hts, hret, hlk⟩ := id C
  refine lv_aload_n hx hb dJ0_charAt_5068e_0 rfl (lv_at hl 0 rfl) ?_
  refine zz_callVi (As := []) C hW h (fun r hr => c_J0_isLatin1_aae02_30_m hr) lk_J0_492 (mstr_r30 hW) rfl hl.1 ⟨rfl, rfl⟩ ⟨Nat.le_of_ble_eq_true rfl, Nat.le_of_ble_eq_true rfl⟩ (Nat.le_of_ble_eq_true rfl) ⟨Nat.zero_le _, Nat.zero_le _⟩ rfl dJ0_charAt_5068e_1 (fun v2 S1 H locs h hW => ?_)
  refine zz_ieq (tgt := 16) C h dJ0_charAt_5068e_4 (by decide) (fun h => ?_) (fun h => ?_)
  · refine lv_aload_n hx hb dJ0_charAt_5068e_16 rfl (lv_at hl 0 rfl) ?_
    refine mstv_30 C hW fk_J0_9 dJ0_charAt_5068e_17 ?_
    refine lv_iload_n hx hb dJ0_charAt_5068e_20 rfl (lv_at hl 1 rfl) ?_
    cases h
  · refine lv_aload_n hx hb dJ0_charAt_5068e_7 rfl (lv_at hl 0 rfl) ?_
    refine mstv_30 C hW fk_J0_9 dJ0_charAt_5068e_8 ?_
    refine lv_iload_n hx hb dJ0_charAt_5068e_11 rfl (lv_at hl 1 rfl) ?_
    refine zz_callSi (As := [.ref (ad 33), .int x1]) C hW h (fun r hr => c_J1_charAt_3b067_33_m hr) lk_J0_495 rfl hl.1 ⟨rfl, rfl⟩ ⟨Nat.le_of_ble_eq_true rfl, Nat.le_of_ble_eq_true rfl⟩ (Nat.le_of_ble_eq_true rfl) ⟨Nat.zero_le _, Nat.zero_le _⟩ rfl dJ0_charAt_5068e_12 (fun v4 S3 H locs h hW => ?_)
    exact zz_nret C rfl (by decide) h hW dJ0_charAt_5068e_15
def n_J0_charAt_5068e_30_m (F : Nat) (S : Zs) (x1 : Int32) : Option (Int32 × Zs) := n_J0_charAt_5068e_30_m_e F  S x1
theorem c_J0_charAt_5068e_30_m {l : Launch} {D : va_G} {cs ad : Nat → Nat} {F : Nat} {S : Zs} {x1 : Int32} {q : (Int32 × Zs)} (h : n_J0_charAt_5068e_30_m F S x1 = some q) : zMi l yJ0_charAt_5068e cJ0_charAt_5068e 2 (some .char) (zR 3 64) (mG D cs ad) [.ref (ad 30), .int x1] S q :=
  zz_enter (by decide) (Nat.le_of_ble_eq_true rfl) (fun p e s m below meth c ls C hW hl => w_J0_charAt_5068e_30_m_e (F := F) C h hW (lv_sub hl [0, 1] rfl))
def n_X12_formAt_0_b46 (F : Nat)  (S : Zs)  : Option (Int32 × Zs) :=
  some ((-1 : Int32), S)
set_option maxRecDepth 20000 in
set_option maxHeartbeats 4000000 in
theorem w_X12_formAt_0_b46 {F : Nat} {q : (Int32 × Zs)} {S : Zs}   {ls : Array Slot} {H : Heap} {locs : List Loc} (C : zC p s m args meth c cX12_formAt 3 RX12 (some .int))  (h : n_X12_formAt_0_b46 F  S  = some q) (hW : zW (mG D cs ad) s S H locs) (hl : lv_has ls 3 []) : W p l e (zR 4 85) s m args below meth c H locs 0 0 (zQi (mG D cs ad) q below args s) (F0 m 46 ls []) := by
  unfold n_X12_formAt_0_b46 at h
  obtain ⟨hx, hb, hml, hown, hts, hret, hlk⟩ := id C
  refine lv_iconst (v := -1) hx hb dX12_formAt_46 (by decide) ?_
  exact zz_iret C rfl h hW dX12_formAt_47
def n_X12_formAt_0_b5_l (F : Nat) (rc5 : Zs → Int32 → Option (Int32 × Zs)) (S : Zs) (x2 : Int32) : Option (Int32 × Zs) :=
  if (4 : Int32) ≤ x2 then (n_X12_formAt_0_b46 F  S ) else (zgf S 14 (fun v1 => zgf S 15 (fun v2 => if v2 ≤ v1 then (n_X12_formAt_0_b46 F  S ) else (zcl (n_J0_charAt_5068e_30_m F S x2) (fun v4 S3 => zgf S3 14 (fun v5 => zld S3 5 80 v5 (fun v6 => if v4 = v6 then (some (x2, S3)) else (zlet (x2 + (1 : Int32)) (fun v7 => rc5 S3 v7)))))))))
set_option maxRecDepth 20000 in
set_option maxHeartbeats 4000000 in
theorem w_X12_formAt_0_b5_l {F : Nat} {q : (Int32 × Zs)} {S : Zs} {rc5 : Zs → Int32 → Option (Int32 × Zs)} {x2 : Int32} {ls : Array Slot} {H : Heap} {locs : List Loc} (C : zC p s m args meth c cX12_formAt 3 RX12 (some .int)) (hrc5 : ∀ (S : Zs) (x2 : Int32) (H : Heap) (locs : List Loc) (ls : Array Slot), rc5 S x2 = some q → zW (mG D cs ad) s S H locs → lv_has ls 3 [(0, .ref (ad 0)), (1, .ref (ad 30)), (2, .int x2)] → W p l e (zR 4 85) s m args below meth c H locs 0 0 (zQi (mG D cs ad) q below args s) (F0 m 5 ls [])) (h : n_X12_formAt_0_b5_l F rc5 S x2 = some q) (hW : zW (mG D cs ad) s S H locs) (hl : lv_has ls 3 [(0, .ref (ad 0)), (1, .ref (ad 30)), (2, .int x2)]) : W p l e (zR 4 85) s m args below meth c H locs 0 0 (zQi (mG D cs ad) q below args s) (F0 m 5 ls []) := by
  unfold n_X12_formAt_0_b5_l at h
  obtain ⟨hx, hb, hml, hown, hts, hret, hlk⟩ := id C
  refine lv_iload_n hx hb dX12_formAt_5 rfl (lv_at hl 2 rfl) ?_
  refine lv_iconst (v := 4) hx hb dX12_formAt_6 (by decide) ?_
  refine zz_cge (tgt := 46) C h dX12_formAt_7 (by decide) (fun h => ?_) (fun h => ?_)
  · exact w_X12_formAt_0_b46 (F := F) C h hW (lv_sub hl [] rfl)
  · refine lv_aload_n hx hb dX12_formAt_10 rfl (lv_at hl 0 rfl) ?_
    refine mg_0_14 C hW h fl_X12_40 dX12_formAt_11 (fun v1 h => ?_)
    refine lv_aload_n hx hb dX12_formAt_14 rfl (lv_at hl 0 rfl) ?_
    refine mg_0_15 C hW h fl_X12_49 dX12_formAt_15 (fun v2 h => ?_)
    refine zz_cge (tgt := 46) C h dX12_formAt_18 (by decide) (fun h => ?_) (fun h => ?_)
    · exact w_X12_formAt_0_b46 (F := F) C h hW (lv_sub hl [] rfl)
    · refine lv_aload_n hx hb dX12_formAt_21 rfl (lv_at hl 1 rfl) ?_
      refine lv_iload_n hx hb dX12_formAt_22 rfl (lv_at hl 2 rfl) ?_
      refine zz_callVi (As := [.int x2]) C hW h (fun r hr => c_J0_charAt_5068e_30_m hr) lk_X12_66 (mstr_r30 hW) rfl hl.1 ⟨rfl, rfl⟩ ⟨Nat.le_of_ble_eq_true rfl, Nat.le_of_ble_eq_true rfl⟩ (Nat.le_of_ble_eq_true rfl) ⟨Nat.zero_le _, Nat.zero_le _⟩ rfl dX12_formAt_23 (fun v4 S3 H locs h hW => ?_)
      refine lv_aload_n hx hb dX12_formAt_26 rfl (lv_at hl 0 rfl) ?_
      refine mg_0_12 C hW fl_X12_37 dX12_formAt_27 ?_
      refine lv_aload_n hx hb dX12_formAt_30 rfl (lv_at hl 0 rfl) ?_
      refine mg_0_14 C hW h fl_X12_40 dX12_formAt_31 (fun v5 h => ?_)
      refine ml_5 C hW h dX12_formAt_34 (fun v6 h => ?_)
      refine zz_cne (tgt := 40) C h dX12_formAt_35 (by decide) (fun h => ?_) (fun h => ?_)
      · obtain ⟨v7, ev7, h⟩ := zz_name h
        refine lv_iinc (v := v7) (lv' := [(2, .int v7), (0, .ref (ad 0)), (1, .ref (ad 30))]) hx hb dX12_formAt_40 hl (k := 2) rfl ev7.symm (by decide) rfl (fun ls hl => ?_)
        refine lv_goto (tgt := 5) hx hb dX12_formAt_43 (by decide) ?_
        exact hrc5 _ _ _ _ _ h hW (lv_sub hl [1, 2, 0] rfl)
      · refine lv_iload_n hx hb dX12_formAt_38 rfl (lv_at hl 2 rfl) ?_
        exact zz_iret C rfl h hW dX12_formAt_39
def n_X12_formAt_0_b5 (F : Nat)  (S : Zs) (x2 : Int32) : Option (Int32 × Zs) :=
  zfix (fun (rc : (Zs × Int32) → Option (Int32 × Zs)) (u : (Zs × Int32)) => n_X12_formAt_0_b5_l F  (fun S x2 => rc (S, x2)) u.1 u.2) F (S, x2)
theorem w_X12_formAt_0_b5 {F : Nat} {q : (Int32 × Zs)}  (C : zC p s m args meth c cX12_formAt 3 RX12 (some .int))  : ∀ (n : Nat) (S : Zs) (x2 : Int32) (H : Heap) (locs : List Loc) (ls : Array Slot), zfix (fun (rc : (Zs × Int32) → Option (Int32 × Zs)) (u : (Zs × Int32)) => n_X12_formAt_0_b5_l F  (fun S x2 => rc (S, x2)) u.1 u.2) n (S, x2) = some q → zW (mG D cs ad) s S H locs → lv_has ls 3 [(0, .ref (ad 0)), (1, .ref (ad 30)), (2, .int x2)] → W p l e (zR 4 85) s m args below meth c H locs 0 0 (zQi (mG D cs ad) q below args s) (F0 m 5 ls []) := by
  intro n
  induction n with
  | zero => intro S x2 H locs ls h; exact absurd h (fun h => by cases h)
  | succ n ih => intro S x2 H locs ls h hW hl; exact w_X12_formAt_0_b5_l (F := F) C (fun S x2 H locs ls h hW hl => ih S x2 H locs ls h hW hl) h hW hl
def n_X12_formAt_0_e (F : Nat)  (S : Zs)  : Option (Int32 × Zs) :=
  n_X12_formAt_0_b5 F  S (0 : Int32)
set_option maxRecDepth 20000 in
set_option maxHeartbeats 4000000 in
theorem w_X12_formAt_0_e {F : Nat} {q : (Int32 × Zs)} {S : Zs}   {ls : Array Slot} {H : Heap} {locs : List Loc} (C : zC p s m args meth c cX12_formAt 3 RX12 (some .int))  (h : n_X12_formAt_0_e F  S  = some q) (hW : zW (mG D cs ad) s S H locs) (hl : lv_has ls 3 [(0, .ref (ad 0))]) : W p l e (zR 4 85) s m args below meth c H locs 0 0 (zQi (mG D cs ad) q below args s) (F0 m 0 ls []) := by
  unfold n_X12_formAt_0_e at h
  obtain ⟨hx, hb, hml, hown, hts, hret, hlk⟩ := id C
  refine mstr_64 C hW dX12_formAt_0 ?_
  refine lv_astore_n (lv' := [(1, .ref (ad 30)), (0, .ref (ad 0))]) hx hb dX12_formAt_2 rfl hl (by decide) rfl (fun ls hl => ?_)
  refine lv_iconst (v := 0) hx hb dX12_formAt_3 (by decide) ?_
  refine lv_istore_n (lv' := [(2, .int (0 : Int32)), (1, .ref (ad 30)), (0, .ref (ad 0))]) hx hb dX12_formAt_4 rfl hl (by decide) rfl (fun ls hl => ?_)
  exact w_X12_formAt_0_b5 (F := F) C F _ _ _ _ _ h hW (lv_sub hl [2, 1, 0] rfl)
def n_X12_formAt_0 (F : Nat) (S : Zs)  : Option (Int32 × Zs) := n_X12_formAt_0_e F  S 
theorem c_X12_formAt_0 {l : Launch} {D : va_G} {cs ad : Nat → Nat} {F : Nat} {S : Zs}  {q : (Int32 × Zs)} (h : n_X12_formAt_0 F S  = some q) : zMi l yX12_formAt cX12_formAt 3 (some .int) (zR 4 85) (mG D cs ad) [.ref (ad 0)] S q :=
  zz_enter (by decide) (Nat.le_of_ble_eq_true rfl) (fun p e s m below meth c ls C hW hl => w_X12_formAt_0_e (F := F) C h hW (lv_sub hl [0] rfl))
def n_X12_term_0_b43 (F : Nat)  (S : Zs)  : Option (Int32 × Zs) :=
  some ((-1 : Int32), S)
set_option maxRecDepth 20000 in
set_option maxHeartbeats 4000000 in
theorem w_X12_term_0_b43 {F : Nat} {q : (Int32 × Zs)} {S : Zs}   {ls : Array Slot} {H : Heap} {locs : List Loc} (C : zC p s m args meth c cX12_term 2 RX12 (some .int))  (h : n_X12_term_0_b43 F  S  = some q) (hW : zW (mG D cs ad) s S H locs) (hl : lv_has ls 2 []) : W p l e (zR 2 42) s m args below meth c H locs 0 0 (zQi (mG D cs ad) q below args s) (F0 m 43 ls []) := by
  unfold n_X12_term_0_b43 at h
  obtain ⟨hx, hb, hml, hown, hts, hret, hlk⟩ := id C
  refine lv_iconst (v := -1) hx hb dX12_term_43 (by decide) ?_
  exact zz_iret C rfl h hW dX12_term_44
def n_X12_term_0_e (F : Nat)  (S : Zs)  : Option (Int32 × Zs) :=
  zcl (n_X12_takes_0 F S (45 : Int32)) (fun v2 S1 => zcl (n_X12_flag F S1 v2) (fun v4 S3 => zgf S3 14 (fun v5 => zgf S3 15 (fun v6 => if v6 ≤ v5 then (n_X12_term_0_b43 F  S3 ) else (zgf S3 14 (fun v7 => zld S3 5 80 v7 (fun v8 => zcl (n_X12_in F S3 (v8.toInt64) (97 : Int64) (108 : Int64)) (fun v10 S9 => if v10 = 0 then (n_X12_term_0_b43 F  S9 ) else (zgf S9 14 (fun v11 => zpf S9 14 (v11 + (1 : Int32)) (fun S12 => zgf S12 14 (fun v13 => zld S12 5 80 (v13 - (1 : Int32)) (fun v14 => some ((((2 : Int32) * (v14 - (97 : Int32))) + v4), S12))))))))))))))
set_option maxRecDepth 20000 in
set_option maxHeartbeats 4000000 in
theorem w_X12_term_0_e {F : Nat} {q : (Int32 × Zs)} {S : Zs}   {ls : Array Slot} {H : Heap} {locs : List Loc} (C : zC p s m args meth c cX12_term 2 RX12 (some .int))  (h : n_X12_term_0_e F  S  = some q) (hW : zW (mG D cs ad) s S H locs) (hl : lv_has ls 2 [(0, .ref (ad 0))]) : W p l e (zR 2 42) s m args below meth c H locs 0 0 (zQi (mG D cs ad) q below args s) (F0 m 0 ls []) := by
  unfold n_X12_term_0_e at h
  obtain ⟨hx, hb, hml, hown, hts, hret, hlk⟩ := id C
  refine lv_aload_n hx hb dX12_term_0 rfl (lv_at hl 0 rfl) ?_
  refine lv_bipush (v := 45) hx hb dX12_term_1 (by decide) ?_
  refine zz_callVi (As := [.int (45 : Int32)]) C hW h (fun r hr => c_X12_takes_0 hr) lk_X12_72 (hW.recv mr_0) rfl hl.1 ⟨rfl, rfl⟩ ⟨Nat.le_of_ble_eq_true rfl, Nat.le_of_ble_eq_true rfl⟩ (Nat.le_of_ble_eq_true rfl) ⟨Nat.zero_le _, Nat.zero_le _⟩ rfl dX12_term_3 (fun v2 S1 H locs h hW => ?_)
  refine zz_callSi (As := [.int v2]) C hW h (fun r hr => c_X12_flag hr) lk_X12_52 rfl hl.1 ⟨rfl, rfl⟩ ⟨Nat.le_of_ble_eq_true rfl, Nat.le_of_ble_eq_true rfl⟩ (Nat.le_of_ble_eq_true rfl) ⟨Nat.zero_le _, Nat.zero_le _⟩ rfl dX12_term_6 (fun v4 S3 H locs h hW => ?_)
  refine lv_istore_n (lv' := [(1, .int v4), (0, .ref (ad 0))]) hx hb dX12_term_9 rfl hl (by decide) rfl (fun ls hl => ?_)
  refine lv_aload_n hx hb dX12_term_10 rfl (lv_at hl 1 rfl) ?_
  refine mg_0_14 C hW h fl_X12_40 dX12_term_11 (fun v5 h => ?_)
  refine lv_aload_n hx hb dX12_term_14 rfl (lv_at hl 1 rfl) ?_
  refine mg_0_15 C hW h fl_X12_49 dX12_term_15 (fun v6 h => ?_)
  refine zz_cge (tgt := 43) C h dX12_term_18 (by decide) (fun h => ?_) (fun h => ?_)
  · exact w_X12_term_0_b43 (F := F) C h hW (lv_sub hl [] rfl)
  · refine lv_aload_n hx hb dX12_term_21 rfl (lv_at hl 1 rfl) ?_
    refine mg_0_12 C hW fl_X12_37 dX12_term_22 ?_
    refine lv_aload_n hx hb dX12_term_25 rfl (lv_at hl 1 rfl) ?_
    refine mg_0_14 C hW h fl_X12_40 dX12_term_26 (fun v7 h => ?_)
    refine ml_5 C hW h dX12_term_29 (fun v8 h => ?_)
    refine lv_i2l hx hb dX12_term_30 rfl ?_
    refine lv_ldc2 (v := 97) hx hb hown (hts _ ct_X12_76) dX12_term_31 ?_
    refine lv_ldc2 (v := 108) hx hb hown (hts _ ct_X12_78) dX12_term_34 ?_
    refine zz_callSi (As := [.long (v8.toInt64), .long (97 : Int64), .long (108 : Int64)]) C hW h (fun r hr => c_X12_in hr) lk_X12_16 rfl hl.1 ⟨rfl, rfl⟩ ⟨Nat.le_of_ble_eq_true rfl, Nat.le_of_ble_eq_true rfl⟩ (Nat.le_of_ble_eq_true rfl) ⟨Nat.zero_le _, Nat.zero_le _⟩ rfl dX12_term_37 (fun v10 S9 H locs h hW => ?_)
    refine zz_ine (tgt := 45) C h dX12_term_40 (by decide) (fun h => ?_) (fun h => ?_)
    · refine lv_aload_n hx hb dX12_term_45 rfl (lv_at hl 1 rfl) ?_
      refine lv_dup hx hb dX12_term_46 rfl ?_
      refine mg_0_14 C hW h fl_X12_40 dX12_term_47 (fun v11 h => ?_)
      refine lv_iconst (v := 1) hx hb dX12_term_50 (by decide) ?_
      refine lv_iadd hx hb dX12_term_51 ?_
      refine mp_0_14 C hW h fl_X12_40 dX12_term_52 (fun S12 H locs h hW => ?_)
      refine lv_iconst (v := 2) hx hb dX12_term_55 (by decide) ?_
      refine lv_aload_n hx hb dX12_term_56 rfl (lv_at hl 1 rfl) ?_
      refine mg_0_12 C hW fl_X12_37 dX12_term_57 ?_
      refine lv_aload_n hx hb dX12_term_60 rfl (lv_at hl 1 rfl) ?_
      refine mg_0_14 C hW h fl_X12_40 dX12_term_61 (fun v13 h => ?_)
      refine lv_iconst (v := 1) hx hb dX12_term_64 (by decide) ?_
      refine lv_isub hx hb dX12_term_65 ?_
      refine ml_5 C hW h dX12_term_66 (fun v14 h => ?_)
      refine lv_bipush (v := 97) hx hb dX12_term_67 (by decide) ?_
      refine lv_isub hx hb dX12_term_69 ?_
      refine lv_imul hx hb dX12_term_70 ?_
      refine lv_iload_n hx hb dX12_term_71 rfl (lv_at hl 0 rfl) ?_
      refine lv_iadd hx hb dX12_term_72 ?_
      exact zz_iret C rfl h hW dX12_term_73
    · exact w_X12_term_0_b43 (F := F) C h hW (lv_sub hl [] rfl)
def n_X12_term_0 (F : Nat) (S : Zs)  : Option (Int32 × Zs) := n_X12_term_0_e F  S 
theorem c_X12_term_0 {l : Launch} {D : va_G} {cs ad : Nat → Nat} {F : Nat} {S : Zs}  {q : (Int32 × Zs)} (h : n_X12_term_0 F S  = some q) : zMi l yX12_term cX12_term 2 (some .int) (zR 2 42) (mG D cs ad) [.ref (ad 0)] S q :=
  zz_enter (by decide) (Nat.le_of_ble_eq_true rfl) (fun p e s m below meth c ls C hW hl => w_X12_term_0_e (F := F) C h hW (lv_sub hl [0] rfl))
def n_X12_readsCode_0_b53 (F : Nat)  (S : Zs) (t0 : Int32) : Option (Int32 × Zs) :=
  some (t0, S)
set_option maxRecDepth 20000 in
set_option maxHeartbeats 4000000 in
theorem w_X12_readsCode_0_b53 {F : Nat} {q : (Int32 × Zs)} {S : Zs}  {t0 : Int32} {ls : Array Slot} {H : Heap} {locs : List Loc} (C : zC p s m args meth c cX12_readsCode 4 RX12 (some .int))  (h : n_X12_readsCode_0_b53 F  S t0 = some q) (hW : zW (mG D cs ad) s S H locs) (hl : lv_has ls 4 []) : W p l e (zR 5 107) s m args below meth c H locs 0 0 (zQi (mG D cs ad) q below args s) (F0 m 53 ls [.int t0]) := by
  unfold n_X12_readsCode_0_b53 at h
  obtain ⟨hx, hb, hml, hown, hts, hret, hlk⟩ := id C
  exact zz_iret C rfl h hW dX12_readsCode_53
def n_X12_readsCode_0_b38 (F : Nat)  (S : Zs) (x1 : Int32) (x2 : Int32) (t0 : Int32) : Option (Int32 × Zs) :=
  if 0 ≤ t0 then (zcl (n_X12_codeOf F S x1 x2 t0) (fun v2 S1 => n_X12_readsCode_0_b53 F  S1 v2)) else (n_X12_readsCode_0_b53 F  S (-1 : Int32))
set_option maxRecDepth 20000 in
set_option maxHeartbeats 4000000 in
theorem w_X12_readsCode_0_b38 {F : Nat} {q : (Int32 × Zs)} {S : Zs}  {x1 : Int32} {x2 : Int32} {t0 : Int32} {ls : Array Slot} {H : Heap} {locs : List Loc} (C : zC p s m args meth c cX12_readsCode 4 RX12 (some .int))  (h : n_X12_readsCode_0_b38 F  S x1 x2 t0 = some q) (hW : zW (mG D cs ad) s S H locs) (hl : lv_has ls 4 [(1, .int x1), (2, .int x2)]) : W p l e (zR 5 107) s m args below meth c H locs 0 0 (zQi (mG D cs ad) q below args s) (F0 m 38 ls [.int t0]) := by
  unfold n_X12_readsCode_0_b38 at h
  obtain ⟨hx, hb, hml, hown, hts, hret, hlk⟩ := id C
  refine lv_istore_n (lv' := [(3, .int t0), (1, .int x1), (2, .int x2)]) hx hb dX12_readsCode_38 rfl hl (by decide) rfl (fun ls hl => ?_)
  refine lv_iload_n hx hb dX12_readsCode_39 rfl (lv_at hl 0 rfl) ?_
  refine zz_ige (tgt := 47) C h dX12_readsCode_40 (by decide) (fun h => ?_) (fun h => ?_)
  · refine lv_iload_n hx hb dX12_readsCode_47 rfl (lv_at hl 1 rfl) ?_
    refine lv_iload_n hx hb dX12_readsCode_48 rfl (lv_at hl 2 rfl) ?_
    refine lv_iload_n hx hb dX12_readsCode_49 rfl (lv_at hl 0 rfl) ?_
    refine zz_callSi (As := [.int x1, .int x2, .int t0]) C hW h (fun r hr => c_X12_codeOf hr) lk_X12_30 rfl hl.1 ⟨rfl, rfl⟩ ⟨Nat.le_of_ble_eq_true rfl, Nat.le_of_ble_eq_true rfl⟩ (Nat.le_of_ble_eq_true rfl) ⟨Nat.zero_le _, Nat.zero_le _⟩ rfl dX12_readsCode_50 (fun v2 S1 H locs h hW => ?_)
    exact w_X12_readsCode_0_b53 (F := F) C h hW (lv_sub hl [] rfl)
  · refine lv_iconst (v := -1) hx hb dX12_readsCode_43 (by decide) ?_
    refine lv_goto (tgt := 53) hx hb dX12_readsCode_44 (by decide) ?_
    exact w_X12_readsCode_0_b53 (F := F) C h hW (lv_sub hl [] rfl)
def n_X12_readsCode_0_e (F : Nat)  (S : Zs)  : Option (Int32 × Zs) :=
  zcl (n_X12_formAt_0 F S ) (fun v2 S1 => if 0 ≤ v2 then (zgf S1 14 (fun v3 => zpf S1 14 (v3 + (1 : Int32)) (fun S4 => zcl (n_X12_term_0 F S4 ) (fun v6 S5 => if 0 ≤ v6 then (zcl (n_X12_term_0 F S5 ) (fun v8 S7 => n_X12_readsCode_0_b38 F  S7 v2 v6 v8)) else (n_X12_readsCode_0_b38 F  S5 v2 v6 (-1 : Int32)))))) else (some ((-1 : Int32), S1)))
set_option maxRecDepth 20000 in
set_option maxHeartbeats 4000000 in
theorem w_X12_readsCode_0_e {F : Nat} {q : (Int32 × Zs)} {S : Zs}   {ls : Array Slot} {H : Heap} {locs : List Loc} (C : zC p s m args meth c cX12_readsCode 4 RX12 (some .int))  (h : n_X12_readsCode_0_e F  S  = some q) (hW : zW (mG D cs ad) s S H locs) (hl : lv_has ls 4 [(0, .ref (ad 0))]) : W p l e (zR 5 107) s m args below meth c H locs 0 0 (zQi (mG D cs ad) q below args s) (F0 m 0 ls []) := by
  unfold n_X12_readsCode_0_e at h
  obtain ⟨hx, hb, hml, hown, hts, hret, hlk⟩ := id C
  refine lv_aload_n hx hb dX12_readsCode_0 rfl (lv_at hl 0 rfl) ?_
  refine zz_callVi (As := []) C hW h (fun r hr => c_X12_formAt_0 hr) lk_X12_80 (hW.recv mr_0) rfl hl.1 ⟨rfl, rfl⟩ ⟨Nat.le_of_ble_eq_true rfl, Nat.le_of_ble_eq_true rfl⟩ (Nat.le_of_ble_eq_true rfl) ⟨Nat.zero_le _, Nat.zero_le _⟩ rfl dX12_readsCode_1 (fun v2 S1 H locs h hW => ?_)
  refine lv_istore_n (lv' := [(1, .int v2), (0, .ref (ad 0))]) hx hb dX12_readsCode_4 rfl hl (by decide) rfl (fun ls hl => ?_)
  refine lv_iload_n hx hb dX12_readsCode_5 rfl (lv_at hl 0 rfl) ?_
  refine zz_ige (tgt := 11) C h dX12_readsCode_6 (by decide) (fun h => ?_) (fun h => ?_)
  · refine lv_aload_n hx hb dX12_readsCode_11 rfl (lv_at hl 1 rfl) ?_
    refine lv_dup hx hb dX12_readsCode_12 rfl ?_
    refine mg_0_14 C hW h fl_X12_40 dX12_readsCode_13 (fun v3 h => ?_)
    refine lv_iconst (v := 1) hx hb dX12_readsCode_16 (by decide) ?_
    refine lv_iadd hx hb dX12_readsCode_17 ?_
    refine mp_0_14 C hW h fl_X12_40 dX12_readsCode_18 (fun S4 H locs h hW => ?_)
    refine lv_aload_n hx hb dX12_readsCode_21 rfl (lv_at hl 1 rfl) ?_
    refine zz_callVi (As := []) C hW h (fun r hr => c_X12_term_0 hr) lk_X12_84 (hW.recv mr_0) rfl hl.1 ⟨rfl, rfl⟩ ⟨Nat.le_of_ble_eq_true rfl, Nat.le_of_ble_eq_true rfl⟩ (Nat.le_of_ble_eq_true rfl) ⟨Nat.zero_le _, Nat.zero_le _⟩ rfl dX12_readsCode_22 (fun v6 S5 H locs h hW => ?_)
    refine lv_istore_n (lv' := [(2, .int v6), (1, .int v2), (0, .ref (ad 0))]) hx hb dX12_readsCode_25 rfl hl (by decide) rfl (fun ls hl => ?_)
    refine lv_iload_n hx hb dX12_readsCode_26 rfl (lv_at hl 0 rfl) ?_
    refine zz_ige (tgt := 34) C h dX12_readsCode_27 (by decide) (fun h => ?_) (fun h => ?_)
    · refine lv_aload_n hx hb dX12_readsCode_34 rfl (lv_at hl 2 rfl) ?_
      refine zz_callVi (As := []) C hW h (fun r hr => c_X12_term_0 hr) lk_X12_84 (hW.recv mr_0) rfl hl.1 ⟨rfl, rfl⟩ ⟨Nat.le_of_ble_eq_true rfl, Nat.le_of_ble_eq_true rfl⟩ (Nat.le_of_ble_eq_true rfl) ⟨Nat.zero_le _, Nat.zero_le _⟩ rfl dX12_readsCode_35 (fun v8 S7 H locs h hW => ?_)
      exact w_X12_readsCode_0_b38 (F := F) C h hW (lv_sub hl [1, 0] rfl)
    · refine lv_iconst (v := -1) hx hb dX12_readsCode_30 (by decide) ?_
      refine lv_goto (tgt := 38) hx hb dX12_readsCode_31 (by decide) ?_
      exact w_X12_readsCode_0_b38 (F := F) C h hW (lv_sub hl [1, 0] rfl)
  · refine lv_iconst (v := -1) hx hb dX12_readsCode_9 (by decide) ?_
    exact zz_iret C rfl h hW dX12_readsCode_10
def n_X12_readsCode_0 (F : Nat) (S : Zs)  : Option (Int32 × Zs) := n_X12_readsCode_0_e F  S 
theorem c_X12_readsCode_0 {l : Launch} {D : va_G} {cs ad : Nat → Nat} {F : Nat} {S : Zs}  {q : (Int32 × Zs)} (h : n_X12_readsCode_0 F S  = some q) : zMi l yX12_readsCode cX12_readsCode 4 (some .int) (zR 5 107) (mG D cs ad) [.ref (ad 0)] S q :=
  zz_enter (by decide) (Nat.le_of_ble_eq_true rfl) (fun p e s m below meth c ls C hW hl => w_X12_readsCode_0_e (F := F) C h hW (lv_sub hl [0] rfl))
def n_X12_faultOf_0_b57 (F : Nat)  (S : Zs) (t0 : Int32) : Option (Int32 × Zs) :=
  some (t0, S)
set_option maxRecDepth 20000 in
set_option maxHeartbeats 4000000 in
theorem w_X12_faultOf_0_b57 {F : Nat} {q : (Int32 × Zs)} {S : Zs}  {t0 : Int32} {ls : Array Slot} {H : Heap} {locs : List Loc} (C : zC p s m args meth c cX12_faultOf 4 RX12 (some .int))  (h : n_X12_faultOf_0_b57 F  S t0 = some q) (hW : zW (mG D cs ad) s S H locs) (hl : lv_has ls 4 []) : W p l e (zR 0 0) s m args below meth c H locs 0 0 (zQi (mG D cs ad) q below args s) (F0 m 57 ls [.int t0]) := by
  unfold n_X12_faultOf_0_b57 at h
  obtain ⟨hx, hb, hml, hown, hts, hret, hlk⟩ := id C
  exact zz_iret C rfl h hW dX12_faultOf_57
def n_X12_faultOf_0_b43 (F : Nat)  (S : Zs) (x3 : Int32) : Option (Int32 × Zs) :=
  if x3 = 0 then (zgf S 14 (fun v1 => n_X12_faultOf_0_b57 F  S ((-1 : Int32) - v1))) else (n_X12_faultOf_0_b57 F  S (0 : Int32))
set_option maxRecDepth 20000 in
set_option maxHeartbeats 4000000 in
theorem w_X12_faultOf_0_b43 {F : Nat} {q : (Int32 × Zs)} {S : Zs}  {x3 : Int32} {ls : Array Slot} {H : Heap} {locs : List Loc} (C : zC p s m args meth c cX12_faultOf 4 RX12 (some .int))  (h : n_X12_faultOf_0_b43 F  S x3 = some q) (hW : zW (mG D cs ad) s S H locs) (hl : lv_has ls 4 [(0, .ref (ad 0)), (3, .int x3)]) : W p l e (zR 0 0) s m args below meth c H locs 0 0 (zQi (mG D cs ad) q below args s) (F0 m 43 ls []) := by
  unfold n_X12_faultOf_0_b43 at h
  obtain ⟨hx, hb, hml, hown, hts, hret, hlk⟩ := id C
  refine lv_iload_n hx hb dX12_faultOf_43 rfl (lv_at hl 1 rfl) ?_
  refine zz_ieq (tgt := 51) C h dX12_faultOf_44 (by decide) (fun h => ?_) (fun h => ?_)
  · refine lv_iconst (v := -1) hx hb dX12_faultOf_51 (by decide) ?_
    refine lv_aload_n hx hb dX12_faultOf_52 rfl (lv_at hl 0 rfl) ?_
    refine mg_0_14 C hW h fl_X12_40 dX12_faultOf_53 (fun v1 h => ?_)
    refine lv_isub hx hb dX12_faultOf_56 ?_
    exact w_X12_faultOf_0_b57 (F := F) C h hW (lv_sub hl [] rfl)
  · refine lv_iconst (v := 0) hx hb dX12_faultOf_47 (by decide) ?_
    refine lv_goto (tgt := 57) hx hb dX12_faultOf_48 (by decide) ?_
    exact w_X12_faultOf_0_b57 (F := F) C h hW (lv_sub hl [] rfl)
def n_X12_faultOf_0_b40 (F : Nat)  (S : Zs)  : Option (Int32 × Zs) :=
  some ((-77 : Int32), S)
set_option maxRecDepth 20000 in
set_option maxHeartbeats 4000000 in
theorem w_X12_faultOf_0_b40 {F : Nat} {q : (Int32 × Zs)} {S : Zs}   {ls : Array Slot} {H : Heap} {locs : List Loc} (C : zC p s m args meth c cX12_faultOf 4 RX12 (some .int))  (h : n_X12_faultOf_0_b40 F  S  = some q) (hW : zW (mG D cs ad) s S H locs) (hl : lv_has ls 4 []) : W p l e (zR 0 0) s m args below meth c H locs 0 0 (zQi (mG D cs ad) q below args s) (F0 m 40 ls []) := by
  unfold n_X12_faultOf_0_b40 at h
  obtain ⟨hx, hb, hml, hown, hts, hret, hlk⟩ := id C
  refine lv_bipush (v := -77) hx hb dX12_faultOf_40 (by decide) ?_
  exact zz_iret C rfl h hW dX12_faultOf_42
def n_X12_faultOf_0_b20 (F : Nat)  (S : Zs) (x1 : Int32) (t0 : Int32) : Option (Int32 × Zs) :=
  if x1 ≤ (76 : Int32) then (n_X12_faultOf_0_b43 F  S t0) else (if t0 = 0 then (zgf S 14 (fun v1 => if v1 < (76 : Int32) then (n_X12_faultOf_0_b43 F  S t0) else (n_X12_faultOf_0_b40 F  S ))) else (n_X12_faultOf_0_b40 F  S ))
set_option maxRecDepth 20000 in
set_option maxHeartbeats 4000000 in
theorem w_X12_faultOf_0_b20 {F : Nat} {q : (Int32 × Zs)} {S : Zs}  {x1 : Int32} {t0 : Int32} {ls : Array Slot} {H : Heap} {locs : List Loc} (C : zC p s m args meth c cX12_faultOf 4 RX12 (some .int))  (h : n_X12_faultOf_0_b20 F  S x1 t0 = some q) (hW : zW (mG D cs ad) s S H locs) (hl : lv_has ls 4 [(0, .ref (ad 0)), (1, .int x1)]) : W p l e (zR 0 0) s m args below meth c H locs 0 0 (zQi (mG D cs ad) q below args s) (F0 m 20 ls [.int t0]) := by
  unfold n_X12_faultOf_0_b20 at h
  obtain ⟨hx, hb, hml, hown, hts, hret, hlk⟩ := id C
  refine lv_istore_n (lv' := [(3, .int t0), (0, .ref (ad 0)), (1, .int x1)]) hx hb dX12_faultOf_20 rfl hl (by decide) rfl (fun ls hl => ?_)
  refine lv_iload_n hx hb dX12_faultOf_21 rfl (lv_at hl 2 rfl) ?_
  refine lv_bipush (v := 76) hx hb dX12_faultOf_22 (by decide) ?_
  refine zz_cle (tgt := 43) C h dX12_faultOf_24 (by decide) (fun h => ?_) (fun h => ?_)
  · exact w_X12_faultOf_0_b43 (F := F) C h hW (lv_sub hl [1, 0] rfl)
  · refine lv_iload_n hx hb dX12_faultOf_27 rfl (lv_at hl 0 rfl) ?_
    refine zz_ine (tgt := 40) C h dX12_faultOf_28 (by decide) (fun h => ?_) (fun h => ?_)
    · exact w_X12_faultOf_0_b40 (F := F) C h hW (lv_sub hl [] rfl)
    · refine lv_aload_n hx hb dX12_faultOf_31 rfl (lv_at hl 1 rfl) ?_
      refine mg_0_14 C hW h fl_X12_40 dX12_faultOf_32 (fun v1 h => ?_)
      refine lv_bipush (v := 76) hx hb dX12_faultOf_35 (by decide) ?_
      refine zz_clt (tgt := 43) C h dX12_faultOf_37 (by decide) (fun h => ?_) (fun h => ?_)
      · exact w_X12_faultOf_0_b43 (F := F) C h hW (lv_sub hl [1, 0] rfl)
      · exact w_X12_faultOf_0_b40 (F := F) C h hW (lv_sub hl [] rfl)
def n_X12_faultOf_0_b19 (F : Nat)  (S : Zs) (x1 : Int32) : Option (Int32 × Zs) :=
  n_X12_faultOf_0_b20 F  S x1 (0 : Int32)
set_option maxRecDepth 20000 in
set_option maxHeartbeats 4000000 in
theorem w_X12_faultOf_0_b19 {F : Nat} {q : (Int32 × Zs)} {S : Zs}  {x1 : Int32} {ls : Array Slot} {H : Heap} {locs : List Loc} (C : zC p s m args meth c cX12_faultOf 4 RX12 (some .int))  (h : n_X12_faultOf_0_b19 F  S x1 = some q) (hW : zW (mG D cs ad) s S H locs) (hl : lv_has ls 4 [(0, .ref (ad 0)), (1, .int x1)]) : W p l e (zR 0 0) s m args below meth c H locs 0 0 (zQi (mG D cs ad) q below args s) (F0 m 19 ls []) := by
  unfold n_X12_faultOf_0_b19 at h
  obtain ⟨hx, hb, hml, hown, hts, hret, hlk⟩ := id C
  refine lv_iconst (v := 0) hx hb dX12_faultOf_19 (by decide) ?_
  exact w_X12_faultOf_0_b20 (F := F) C h hW (lv_sub hl [0, 1] rfl)
def n_X12_faultOf_0_e (F : Nat)  (S : Zs) (x1 : Int32) (x2 : Int32) : Option (Int32 × Zs) :=
  if x2 = 0 then (n_X12_faultOf_0_b19 F  S x1) else (zgf S 14 (fun v1 => zgf S 15 (fun v2 => if v1 = v2 then (n_X12_faultOf_0_b20 F  S x1 (1 : Int32)) else (n_X12_faultOf_0_b19 F  S x1))))
set_option maxRecDepth 20000 in
set_option maxHeartbeats 4000000 in
theorem w_X12_faultOf_0_e {F : Nat} {q : (Int32 × Zs)} {S : Zs}  {x1 : Int32} {x2 : Int32} {ls : Array Slot} {H : Heap} {locs : List Loc} (C : zC p s m args meth c cX12_faultOf 4 RX12 (some .int))  (h : n_X12_faultOf_0_e F  S x1 x2 = some q) (hW : zW (mG D cs ad) s S H locs) (hl : lv_has ls 4 [(0, .ref (ad 0)), (1, .int x1), (2, .int x2)]) : W p l e (zR 0 0) s m args below meth c H locs 0 0 (zQi (mG D cs ad) q below args s) (F0 m 0 ls []) := by
  unfold n_X12_faultOf_0_e at h
  obtain ⟨hx, hb, hml, hown, hts, hret, hlk⟩ := id C
  refine lv_iload_n hx hb dX12_faultOf_0 rfl (lv_at hl 2 rfl) ?_
  refine zz_ieq (tgt := 19) C h dX12_faultOf_1 (by decide) (fun h => ?_) (fun h => ?_)
  · exact w_X12_faultOf_0_b19 (F := F) C h hW (lv_sub hl [0, 1] rfl)
  · refine lv_aload_n hx hb dX12_faultOf_4 rfl (lv_at hl 0 rfl) ?_
    refine mg_0_14 C hW h fl_X12_40 dX12_faultOf_5 (fun v1 h => ?_)
    refine lv_aload_n hx hb dX12_faultOf_8 rfl (lv_at hl 0 rfl) ?_
    refine mg_0_15 C hW h fl_X12_49 dX12_faultOf_9 (fun v2 h => ?_)
    refine zz_cne (tgt := 19) C h dX12_faultOf_12 (by decide) (fun h => ?_) (fun h => ?_)
    · exact w_X12_faultOf_0_b19 (F := F) C h hW (lv_sub hl [0, 1] rfl)
    · refine lv_iconst (v := 1) hx hb dX12_faultOf_15 (by decide) ?_
      refine lv_goto (tgt := 20) hx hb dX12_faultOf_16 (by decide) ?_
      exact w_X12_faultOf_0_b20 (F := F) C h hW (lv_sub hl [0, 1] rfl)
def n_X12_faultOf_0 (F : Nat) (S : Zs) (x1 : Int32) (x2 : Int32) : Option (Int32 × Zs) := n_X12_faultOf_0_e F  S x1 x2
theorem c_X12_faultOf_0 {l : Launch} {D : va_G} {cs ad : Nat → Nat} {F : Nat} {S : Zs} {x1 : Int32} {x2 : Int32} {q : (Int32 × Zs)} (h : n_X12_faultOf_0 F S x1 x2 = some q) : zMi l yX12_faultOf cX12_faultOf 4 (some .int) (zR 0 0) (mG D cs ad) [.ref (ad 0), .int x1, .int x2] S q :=
  zz_enter (by decide) (Nat.le_of_ble_eq_true rfl) (fun p e s m below meth c ls C hW hl => w_X12_faultOf_0_e (F := F) C h hW (lv_sub hl [0, 1, 2] rfl))
def n_X12_readsSaying_0_b36 (F : Nat)  (S : Zs)  : Option (Int32 × Zs) :=
  zrb (0 : Int32) S
set_option maxRecDepth 20000 in
set_option maxHeartbeats 4000000 in
theorem w_X12_readsSaying_0_b36 {F : Nat} {q : (Int32 × Zs)} {S : Zs}   {ls : Array Slot} {H : Heap} {locs : List Loc} (C : zC p s m args meth c cX12_readsSaying 2 RX12 (some .boolean))  (h : n_X12_readsSaying_0_b36 F  S  = some q) (hW : zW (mG D cs ad) s S H locs) (hl : lv_has ls 2 []) : W p l e (zR 6 130) s m args below meth c H locs 0 0 (zQi (mG D cs ad) q below args s) (F0 m 36 ls []) := by
  unfold n_X12_readsSaying_0_b36 at h
  obtain ⟨hx, hb, hml, hown, hts, hret, hlk⟩ := id C
  refine lv_iconst (v := 0) hx hb dX12_readsSaying_36 (by decide) ?_
  exact zz_zret C rfl h hW dX12_readsSaying_37
def n_X12_readsSaying_0_b82 (F : Nat)  (S : Zs) (t0 : Int32) (t1 : Int32) : Option (Int32 × Zs) :=
  zpf S 16 (t1 ||| t0) (fun S1 => zrb (1 : Int32) S1)
set_option maxRecDepth 20000 in
set_option maxHeartbeats 4000000 in
theorem w_X12_readsSaying_0_b82 {F : Nat} {q : (Int32 × Zs)} {S : Zs}  {t0 : Int32} {t1 : Int32} {ls : Array Slot} {H : Heap} {locs : List Loc} (C : zC p s m args meth c cX12_readsSaying 2 RX12 (some .boolean))  (h : n_X12_readsSaying_0_b82 F  S t0 t1 = some q) (hW : zW (mG D cs ad) s S H locs) (hl : lv_has ls 2 []) : W p l e (zR 6 130) s m args below meth c H locs 0 0 (zQi (mG D cs ad) q below args s) (F0 m 82 ls [.int t0, .int t1, .ref (ad 0)]) := by
  unfold n_X12_readsSaying_0_b82 at h
  obtain ⟨hx, hb, hml, hown, hts, hret, hlk⟩ := id C
  refine lv_ior hx hb dX12_readsSaying_82 ?_
  refine mp_0_16 C hW h fl_X12_99 dX12_readsSaying_83 (fun S1 H locs h hW => ?_)
  refine lv_iconst (v := 1) hx hb dX12_readsSaying_86 (by decide) ?_
  exact zz_zret C rfl h hW dX12_readsSaying_87
def n_X12_readsSaying_0_e (F : Nat)  (S : Zs) (x1 : Int32) : Option (Int32 × Zs) :=
  if x1 < (16 : Int32) then (zcl (n_X12_readsCode_0 F S ) (fun v2 S1 => zst S1 2 16 x1 v2 (fun S3 => zld S3 2 16 x1 (fun v4 => if v4 < 0 then (n_X12_readsSaying_0_b36 F  S3 ) else (zcl (n_X12_takes_0 F S3 (64 : Int32)) (fun v6 S5 => if v6 = 0 then (n_X12_readsSaying_0_b36 F  S5 ) else (zcl (n_X12_digit_0 F S5 (7 : Int32)) (fun v8 S7 => zst S7 3 16 x1 v8 (fun S9 => zld S9 3 16 x1 (fun v10 => if 0 ≤ v10 then (zgf S9 16 (fun v11 => zcl (n_X12_takes_0 F S9 (63 : Int32)) (fun v13 S12 => if v13 = 0 then (n_X12_readsSaying_0_b82 F  S12 (0 : Int32) v11) else (n_X12_readsSaying_0_b82 F  S12 ((1 : Int32) <<< (x1 &&& 31)) v11)))) else (zrb (0 : Int32) S9))))))))))) else (zrb (0 : Int32) S)
set_option maxRecDepth 20000 in
set_option maxHeartbeats 4000000 in
theorem w_X12_readsSaying_0_e {F : Nat} {q : (Int32 × Zs)} {S : Zs}  {x1 : Int32} {ls : Array Slot} {H : Heap} {locs : List Loc} (C : zC p s m args meth c cX12_readsSaying 2 RX12 (some .boolean))  (h : n_X12_readsSaying_0_e F  S x1 = some q) (hW : zW (mG D cs ad) s S H locs) (hl : lv_has ls 2 [(0, .ref (ad 0)), (1, .int x1)]) : W p l e (zR 6 130) s m args below meth c H locs 0 0 (zQi (mG D cs ad) q below args s) (F0 m 0 ls []) := by
  unfold n_X12_readsSaying_0_e at h
  obtain ⟨hx, hb, hml, hown, hts, hret, hlk⟩ := id C
  refine lv_iload_n hx hb dX12_readsSaying_0 rfl (lv_at hl 1 rfl) ?_
  refine lv_bipush (v := 16) hx hb dX12_readsSaying_1 (by decide) ?_
  refine zz_clt (tgt := 8) C h dX12_readsSaying_3 (by decide) (fun h => ?_) (fun h => ?_)
  · refine lv_aload_n hx hb dX12_readsSaying_8 rfl (lv_at hl 0 rfl) ?_
    refine mg_0_4 C hW fl_X12_87 dX12_readsSaying_9 ?_
    refine lv_iload_n hx hb dX12_readsSaying_12 rfl (lv_at hl 1 rfl) ?_
    refine lv_aload_n hx hb dX12_readsSaying_13 rfl (lv_at hl 0 rfl) ?_
    refine zz_callVi (As := []) C hW h (fun r hr => c_X12_readsCode_0 hr) lk_X12_90 (hW.recv mr_0) rfl hl.1 ⟨rfl, rfl⟩ ⟨Nat.le_of_ble_eq_true rfl, Nat.le_of_ble_eq_true rfl⟩ (Nat.le_of_ble_eq_true rfl) ⟨Nat.zero_le _, Nat.zero_le _⟩ rfl dX12_readsSaying_14 (fun v2 S1 H locs h hW => ?_)
    refine ms_2 C hW h dX12_readsSaying_17 (fun S3 H locs h hW => ?_)
    refine lv_aload_n hx hb dX12_readsSaying_18 rfl (lv_at hl 0 rfl) ?_
    refine mg_0_4 C hW fl_X12_87 dX12_readsSaying_19 ?_
    refine lv_iload_n hx hb dX12_readsSaying_22 rfl (lv_at hl 1 rfl) ?_
    refine ml_2 C hW h dX12_readsSaying_23 (fun v4 h => ?_)
    refine zz_ilt (tgt := 36) C h dX12_readsSaying_24 (by decide) (fun h => ?_) (fun h => ?_)
    · exact w_X12_readsSaying_0_b36 (F := F) C h hW (lv_sub hl [] rfl)
    · refine lv_aload_n hx hb dX12_readsSaying_27 rfl (lv_at hl 0 rfl) ?_
      refine lv_bipush (v := 64) hx hb dX12_readsSaying_28 (by decide) ?_
      refine zz_callVi (As := [.int (64 : Int32)]) C hW h (fun r hr => c_X12_takes_0 hr) lk_X12_72 (hW.recv mr_0) rfl hl.1 ⟨rfl, rfl⟩ ⟨Nat.le_of_ble_eq_true rfl, Nat.le_of_ble_eq_true rfl⟩ (Nat.le_of_ble_eq_true rfl) ⟨Nat.zero_le _, Nat.zero_le _⟩ rfl dX12_readsSaying_30 (fun v6 S5 H locs h hW => ?_)
      refine zz_ine (tgt := 38) C h dX12_readsSaying_33 (by decide) (fun h => ?_) (fun h => ?_)
      · refine lv_aload_n hx hb dX12_readsSaying_38 rfl (lv_at hl 0 rfl) ?_
        refine mg_0_5 C hW fl_X12_93 dX12_readsSaying_39 ?_
        refine lv_iload_n hx hb dX12_readsSaying_42 rfl (lv_at hl 1 rfl) ?_
        refine lv_aload_n hx hb dX12_readsSaying_43 rfl (lv_at hl 0 rfl) ?_
        refine lv_bipush (v := 7) hx hb dX12_readsSaying_44 (by decide) ?_
        refine zz_callVi (As := [.int (7 : Int32)]) C hW h (fun r hr => c_X12_digit_0 hr) lk_X12_96 (hW.recv mr_0) rfl hl.1 ⟨rfl, rfl⟩ ⟨Nat.le_of_ble_eq_true rfl, Nat.le_of_ble_eq_true rfl⟩ (Nat.le_of_ble_eq_true rfl) ⟨Nat.zero_le _, Nat.zero_le _⟩ rfl dX12_readsSaying_46 (fun v8 S7 H locs h hW => ?_)
        refine ms_3 C hW h dX12_readsSaying_49 (fun S9 H locs h hW => ?_)
        refine lv_aload_n hx hb dX12_readsSaying_50 rfl (lv_at hl 0 rfl) ?_
        refine mg_0_5 C hW fl_X12_93 dX12_readsSaying_51 ?_
        refine lv_iload_n hx hb dX12_readsSaying_54 rfl (lv_at hl 1 rfl) ?_
        refine ml_3 C hW h dX12_readsSaying_55 (fun v10 h => ?_)
        refine zz_ige (tgt := 61) C h dX12_readsSaying_56 (by decide) (fun h => ?_) (fun h => ?_)
        · refine lv_aload_n hx hb dX12_readsSaying_61 rfl (lv_at hl 0 rfl) ?_
          refine lv_dup hx hb dX12_readsSaying_62 rfl ?_
          refine mg_0_16 C hW h fl_X12_99 dX12_readsSaying_63 (fun v11 h => ?_)
          refine lv_aload_n hx hb dX12_readsSaying_66 rfl (lv_at hl 0 rfl) ?_
          refine lv_bipush (v := 63) hx hb dX12_readsSaying_67 (by decide) ?_
          refine zz_callVi (As := [.int (63 : Int32)]) C hW h (fun r hr => c_X12_takes_0 hr) lk_X12_72 (hW.recv mr_0) rfl hl.1 ⟨rfl, rfl⟩ ⟨Nat.le_of_ble_eq_true rfl, Nat.le_of_ble_eq_true rfl⟩ (Nat.le_of_ble_eq_true rfl) ⟨Nat.zero_le _, Nat.zero_le _⟩ rfl dX12_readsSaying_69 (fun v13 S12 H locs h hW => ?_)
          refine zz_ieq (tgt := 81) C h dX12_readsSaying_72 (by decide) (fun h => ?_) (fun h => ?_)
          · refine lv_iconst (v := 0) hx hb dX12_readsSaying_81 (by decide) ?_
            exact w_X12_readsSaying_0_b82 (F := F) C h hW (lv_sub hl [] rfl)
          · refine lv_iconst (v := 1) hx hb dX12_readsSaying_75 (by decide) ?_
            refine lv_iload_n hx hb dX12_readsSaying_76 rfl (lv_at hl 1 rfl) ?_
            refine lv_ishl hx hb dX12_readsSaying_77 ?_
            refine lv_goto (tgt := 82) hx hb dX12_readsSaying_78 (by decide) ?_
            exact w_X12_readsSaying_0_b82 (F := F) C h hW (lv_sub hl [] rfl)
        · refine lv_iconst (v := 0) hx hb dX12_readsSaying_59 (by decide) ?_
          exact zz_zret C rfl h hW dX12_readsSaying_60
      · exact w_X12_readsSaying_0_b36 (F := F) C h hW (lv_sub hl [] rfl)
  · refine lv_iconst (v := 0) hx hb dX12_readsSaying_6 (by decide) ?_
    exact zz_zret C rfl h hW dX12_readsSaying_7
def n_X12_readsSaying_0 (F : Nat) (S : Zs) (x1 : Int32) : Option (Int32 × Zs) := n_X12_readsSaying_0_e F  S x1
theorem c_X12_readsSaying_0 {l : Launch} {D : va_G} {cs ad : Nat → Nat} {F : Nat} {S : Zs} {x1 : Int32} {q : (Int32 × Zs)} (h : n_X12_readsSaying_0 F S x1 = some q) : zMi l yX12_readsSaying cX12_readsSaying 2 (some .boolean) (zR 6 130) (mG D cs ad) [.ref (ad 0), .int x1] S q :=
  zz_enter (by decide) (Nat.le_of_ble_eq_true rfl) (fun p e s m below meth c ls C hW hl => w_X12_readsSaying_0_e (F := F) C h hW (lv_sub hl [0, 1] rfl))
def n_X12_told_0_b67 (F : Nat) (rc30 : Zs → Int32 → Int32 → Int32 → Int32 → Option (Int32 × Zs)) (S : Zs) (x1 : Int32) (x2 : Int32) (x3 : Int32) (t0 : Int32) : Option (Int32 × Zs) :=
  rc30 S x1 x2 x3 t0
set_option maxRecDepth 20000 in
set_option maxHeartbeats 4000000 in
theorem w_X12_told_0_b67 {F : Nat} {q : (Int32 × Zs)} {S : Zs} {rc30 : Zs → Int32 → Int32 → Int32 → Int32 → Option (Int32 × Zs)} {x1 : Int32} {x2 : Int32} {x3 : Int32} {t0 : Int32} {ls : Array Slot} {H : Heap} {locs : List Loc} (C : zC p s m args meth c cX12_told 6 RX12 (some .int)) (hrc30 : ∀ (S : Zs) (x1 : Int32) (x2 : Int32) (x3 : Int32) (x4 : Int32) (H : Heap) (locs : List Loc) (ls : Array Slot), rc30 S x1 x2 x3 x4 = some q → zW (mG D cs ad) s S H locs → lv_has ls 6 [(0, .ref (ad 0)), (1, .int x1), (2, .int x2), (3, .int x3), (4, .int x4)] → W p l e (zR 7 151) s m args below meth c H locs 0 0 (zQi (mG D cs ad) q below args s) (F0 m 30 ls [])) (h : n_X12_told_0_b67 F rc30 S x1 x2 x3 t0 = some q) (hW : zW (mG D cs ad) s S H locs) (hl : lv_has ls 6 [(0, .ref (ad 0)), (1, .int x1), (2, .int x2), (3, .int x3)]) : W p l e (zR 7 151) s m args below meth c H locs 0 0 (zQi (mG D cs ad) q below args s) (F0 m 67 ls [.int t0]) := by
  unfold n_X12_told_0_b67 at h
  obtain ⟨hx, hb, hml, hown, hts, hret, hlk⟩ := id C
  refine lv_istore (lv' := [(4, .int t0), (0, .ref (ad 0)), (1, .int x1), (2, .int x2), (3, .int x3)]) hx hb dX12_told_67 hl (by decide) rfl (fun ls hl => ?_)
  refine lv_goto (tgt := 30) hx hb dX12_told_69 (by decide) ?_
  exact hrc30 _ _ _ _ _ _ _ _ h hW (lv_sub hl [1, 2, 3, 4, 0] rfl)
def n_X12_told_0_b66 (F : Nat) (rc30 : Zs → Int32 → Int32 → Int32 → Int32 → Option (Int32 × Zs)) (S : Zs) (x1 : Int32) (x2 : Int32) (x3 : Int32) : Option (Int32 × Zs) :=
  n_X12_told_0_b67 F rc30 S x1 x2 x3 (0 : Int32)
set_option maxRecDepth 20000 in
set_option maxHeartbeats 4000000 in
theorem w_X12_told_0_b66 {F : Nat} {q : (Int32 × Zs)} {S : Zs} {rc30 : Zs → Int32 → Int32 → Int32 → Int32 → Option (Int32 × Zs)} {x1 : Int32} {x2 : Int32} {x3 : Int32} {ls : Array Slot} {H : Heap} {locs : List Loc} (C : zC p s m args meth c cX12_told 6 RX12 (some .int)) (hrc30 : ∀ (S : Zs) (x1 : Int32) (x2 : Int32) (x3 : Int32) (x4 : Int32) (H : Heap) (locs : List Loc) (ls : Array Slot), rc30 S x1 x2 x3 x4 = some q → zW (mG D cs ad) s S H locs → lv_has ls 6 [(0, .ref (ad 0)), (1, .int x1), (2, .int x2), (3, .int x3), (4, .int x4)] → W p l e (zR 7 151) s m args below meth c H locs 0 0 (zQi (mG D cs ad) q below args s) (F0 m 30 ls [])) (h : n_X12_told_0_b66 F rc30 S x1 x2 x3 = some q) (hW : zW (mG D cs ad) s S H locs) (hl : lv_has ls 6 [(0, .ref (ad 0)), (1, .int x1), (2, .int x2), (3, .int x3)]) : W p l e (zR 7 151) s m args below meth c H locs 0 0 (zQi (mG D cs ad) q below args s) (F0 m 66 ls []) := by
  unfold n_X12_told_0_b66 at h
  obtain ⟨hx, hb, hml, hown, hts, hret, hlk⟩ := id C
  refine lv_iconst (v := 0) hx hb dX12_told_66 (by decide) ?_
  exact w_X12_told_0_b67 (F := F) C hrc30 h hW (lv_sub hl [0, 1, 2, 3] rfl)
def n_X12_told_0_b30_l (F : Nat) (rc30 : Zs → Int32 → Int32 → Int32 → Int32 → Option (Int32 × Zs)) (S : Zs) (x1 : Int32) (x2 : Int32) (x3 : Int32) (x4 : Int32) : Option (Int32 × Zs) :=
  if x4 = 0 then (zcl (n_X12_faultOf_0 F S x1 x3) (fun v2 S1 => if 0 ≤ v2 then (zgf S1 3 (fun v3 => zpf S1 3 (v3 + x2) (fun S4 => zgf S4 6 (fun v5 => zgf S4 16 (fun v6 => zpf S4 6 (v5 ||| v6) (fun S7 => some (x2, S7))))))) else (some (v2, S1)))) else (zgf S 3 (fun v8 => zcl (n_X12_readsSaying_0 F S (v8 + x2)) (fun v10 S9 => zlet (x2 + (1 : Int32)) (fun v11 => if v10 = 0 then (n_X12_told_0_b66 F rc30 S9 x1 v11 v10) else (zcl (n_X12_takes_0 F S9 (59 : Int32)) (fun v13 S12 => if v13 = 0 then (n_X12_told_0_b66 F rc30 S12 x1 v11 v10) else (n_X12_told_0_b67 F rc30 S12 x1 v11 v10 (1 : Int32))))))))
set_option maxRecDepth 20000 in
set_option maxHeartbeats 4000000 in
theorem w_X12_told_0_b30_l {F : Nat} {q : (Int32 × Zs)} {S : Zs} {rc30 : Zs → Int32 → Int32 → Int32 → Int32 → Option (Int32 × Zs)} {x1 : Int32} {x2 : Int32} {x3 : Int32} {x4 : Int32} {ls : Array Slot} {H : Heap} {locs : List Loc} (C : zC p s m args meth c cX12_told 6 RX12 (some .int)) (hrc30 : ∀ (S : Zs) (x1 : Int32) (x2 : Int32) (x3 : Int32) (x4 : Int32) (H : Heap) (locs : List Loc) (ls : Array Slot), rc30 S x1 x2 x3 x4 = some q → zW (mG D cs ad) s S H locs → lv_has ls 6 [(0, .ref (ad 0)), (1, .int x1), (2, .int x2), (3, .int x3), (4, .int x4)] → W p l e (zR 7 151) s m args below meth c H locs 0 0 (zQi (mG D cs ad) q below args s) (F0 m 30 ls [])) (h : n_X12_told_0_b30_l F rc30 S x1 x2 x3 x4 = some q) (hW : zW (mG D cs ad) s S H locs) (hl : lv_has ls 6 [(0, .ref (ad 0)), (1, .int x1), (2, .int x2), (3, .int x3), (4, .int x4)]) : W p l e (zR 7 151) s m args below meth c H locs 0 0 (zQi (mG D cs ad) q below args s) (F0 m 30 ls []) := by
  unfold n_X12_told_0_b30_l at h
  obtain ⟨hx, hb, hml, hown, hts, hret, hlk⟩ := id C
  refine lv_iload hx hb dX12_told_30 (lv_at hl 4 rfl) ?_
  refine zz_ieq (tgt := 72) C h dX12_told_32 (by decide) (fun h => ?_) (fun h => ?_)
  · refine lv_aload_n hx hb dX12_told_72 rfl (lv_at hl 0 rfl) ?_
    refine lv_iload_n hx hb dX12_told_73 rfl (lv_at hl 1 rfl) ?_
    refine lv_iload_n hx hb dX12_told_74 rfl (lv_at hl 3 rfl) ?_
    refine zz_callVi (As := [.int x1, .int x3]) C hW h (fun r hr => c_X12_faultOf_0 hr) lk_X12_111 (hW.recv mr_0) rfl hl.1 ⟨rfl, rfl⟩ ⟨Nat.le_of_ble_eq_true rfl, Nat.le_of_ble_eq_true rfl⟩ (Nat.le_of_ble_eq_true rfl) ⟨Nat.zero_le _, Nat.zero_le _⟩ rfl dX12_told_75 (fun v2 S1 H locs h hW => ?_)
    refine lv_istore (lv' := [(5, .int v2), (0, .ref (ad 0)), (1, .int x1), (2, .int x2), (3, .int x3), (4, .int x4)]) hx hb dX12_told_78 hl (by decide) rfl (fun ls hl => ?_)
    refine lv_iload hx hb dX12_told_80 (lv_at hl 0 rfl) ?_
    refine zz_ige (tgt := 88) C h dX12_told_82 (by decide) (fun h => ?_) (fun h => ?_)
    · refine lv_aload_n hx hb dX12_told_88 rfl (lv_at hl 1 rfl) ?_
      refine lv_dup hx hb dX12_told_89 rfl ?_
      refine mg_0_3 C hW h fl_X12_105 dX12_told_90 (fun v3 h => ?_)
      refine lv_iload_n hx hb dX12_told_93 rfl (lv_at hl 3 rfl) ?_
      refine lv_iadd hx hb dX12_told_94 ?_
      refine mp_0_3 C hW h fl_X12_105 dX12_told_95 (fun S4 H locs h hW => ?_)
      refine lv_aload_n hx hb dX12_told_98 rfl (lv_at hl 1 rfl) ?_
      refine lv_dup hx hb dX12_told_99 rfl ?_
      refine mg_0_6 C hW h fl_X12_115 dX12_told_100 (fun v5 h => ?_)
      refine lv_aload_n hx hb dX12_told_103 rfl (lv_at hl 1 rfl) ?_
      refine mg_0_16 C hW h fl_X12_99 dX12_told_104 (fun v6 h => ?_)
      refine lv_ior hx hb dX12_told_107 ?_
      refine mp_0_6 C hW h fl_X12_115 dX12_told_108 (fun S7 H locs h hW => ?_)
      refine lv_iload_n hx hb dX12_told_111 rfl (lv_at hl 3 rfl) ?_
      exact zz_iret C rfl h hW dX12_told_112
    · refine lv_iload hx hb dX12_told_85 (lv_at hl 0 rfl) ?_
      exact zz_iret C rfl h hW dX12_told_87
  · refine lv_aload_n hx hb dX12_told_35 rfl (lv_at hl 0 rfl) ?_
    refine lv_aload_n hx hb dX12_told_36 rfl (lv_at hl 0 rfl) ?_
    refine mg_0_3 C hW h fl_X12_105 dX12_told_37 (fun v8 h => ?_)
    refine lv_iload_n hx hb dX12_told_40 rfl (lv_at hl 2 rfl) ?_
    refine lv_iadd hx hb dX12_told_41 ?_
    refine zz_callVi (As := [.int (v8 + x2)]) C hW h (fun r hr => c_X12_readsSaying_0 hr) lk_X12_108 (hW.recv mr_0) rfl hl.1 ⟨rfl, rfl⟩ ⟨Nat.le_of_ble_eq_true rfl, Nat.le_of_ble_eq_true rfl⟩ (Nat.le_of_ble_eq_true rfl) ⟨Nat.zero_le _, Nat.zero_le _⟩ rfl dX12_told_42 (fun v10 S9 H locs h hW => ?_)
    refine lv_istore_n (lv' := [(3, .int v10), (0, .ref (ad 0)), (1, .int x1), (2, .int x2), (4, .int x4)]) hx hb dX12_told_45 rfl hl (by decide) rfl (fun ls hl => ?_)
    obtain ⟨v11, ev11, h⟩ := zz_name h
    refine lv_iinc (v := v11) (lv' := [(2, .int v11), (3, .int v10), (0, .ref (ad 0)), (1, .int x1), (4, .int x4)]) hx hb dX12_told_46 hl (k := 3) rfl ev11.symm (by decide) rfl (fun ls hl => ?_)
    refine lv_iload_n hx hb dX12_told_49 rfl (lv_at hl 1 rfl) ?_
    refine zz_ieq (tgt := 66) C h dX12_told_50 (by decide) (fun h => ?_) (fun h => ?_)
    · exact w_X12_told_0_b66 (F := F) C hrc30 h hW (lv_sub hl [2, 3, 0, 1] rfl)
    · refine lv_aload_n hx hb dX12_told_53 rfl (lv_at hl 2 rfl) ?_
      refine lv_bipush (v := 59) hx hb dX12_told_54 (by decide) ?_
      refine zz_callVi (As := [.int (59 : Int32)]) C hW h (fun r hr => c_X12_takes_0 hr) lk_X12_72 (hW.recv mr_0) rfl hl.1 ⟨rfl, rfl⟩ ⟨Nat.le_of_ble_eq_true rfl, Nat.le_of_ble_eq_true rfl⟩ (Nat.le_of_ble_eq_true rfl) ⟨Nat.zero_le _, Nat.zero_le _⟩ rfl dX12_told_56 (fun v13 S12 H locs h hW => ?_)
      refine zz_ieq (tgt := 66) C h dX12_told_59 (by decide) (fun h => ?_) (fun h => ?_)
      · exact w_X12_told_0_b66 (F := F) C hrc30 h hW (lv_sub hl [2, 3, 0, 1] rfl)
      · refine lv_iconst (v := 1) hx hb dX12_told_62 (by decide) ?_
        refine lv_goto (tgt := 67) hx hb dX12_told_63 (by decide) ?_
        exact w_X12_told_0_b67 (F := F) C hrc30 h hW (lv_sub hl [2, 3, 0, 1] rfl)
def n_X12_told_0_b30 (F : Nat)  (S : Zs) (x1 : Int32) (x2 : Int32) (x3 : Int32) (x4 : Int32) : Option (Int32 × Zs) :=
  zfix (fun (rc : (Zs × Int32 × Int32 × Int32 × Int32) → Option (Int32 × Zs)) (u : (Zs × Int32 × Int32 × Int32 × Int32)) => n_X12_told_0_b30_l F  (fun S x1 x2 x3 x4 => rc (S, x1, x2, x3, x4)) u.1 u.2.1 u.2.2.1 u.2.2.2.1 u.2.2.2.2) F (S, x1, x2, x3, x4)
theorem w_X12_told_0_b30 {F : Nat} {q : (Int32 × Zs)}  (C : zC p s m args meth c cX12_told 6 RX12 (some .int))  : ∀ (n : Nat) (S : Zs) (x1 : Int32) (x2 : Int32) (x3 : Int32) (x4 : Int32) (H : Heap) (locs : List Loc) (ls : Array Slot), zfix (fun (rc : (Zs × Int32 × Int32 × Int32 × Int32) → Option (Int32 × Zs)) (u : (Zs × Int32 × Int32 × Int32 × Int32)) => n_X12_told_0_b30_l F  (fun S x1 x2 x3 x4 => rc (S, x1, x2, x3, x4)) u.1 u.2.1 u.2.2.1 u.2.2.2.1 u.2.2.2.2) n (S, x1, x2, x3, x4) = some q → zW (mG D cs ad) s S H locs → lv_has ls 6 [(0, .ref (ad 0)), (1, .int x1), (2, .int x2), (3, .int x3), (4, .int x4)] → W p l e (zR 7 151) s m args below meth c H locs 0 0 (zQi (mG D cs ad) q below args s) (F0 m 30 ls []) := by
  intro n
  induction n with
  | zero => intro S x1 x2 x3 x4 H locs ls h; exact absurd h (fun h => by cases h)
  | succ n ih => intro S x1 x2 x3 x4 H locs ls h hW hl; exact w_X12_told_0_b30_l (F := F) C (fun S x1 x2 x3 x4 H locs ls h hW hl => ih S x1 x2 x3 x4 H locs ls h hW hl) h hW hl
def n_X12_told_0_b28 (F : Nat)  (S : Zs) (x1 : Int32) (x2 : Int32) (x3 : Int32) (t0 : Int32) : Option (Int32 × Zs) :=
  n_X12_told_0_b30 F  S x1 x2 x3 t0
set_option maxRecDepth 20000 in
set_option maxHeartbeats 4000000 in
theorem w_X12_told_0_b28 {F : Nat} {q : (Int32 × Zs)} {S : Zs}  {x1 : Int32} {x2 : Int32} {x3 : Int32} {t0 : Int32} {ls : Array Slot} {H : Heap} {locs : List Loc} (C : zC p s m args meth c cX12_told 6 RX12 (some .int))  (h : n_X12_told_0_b28 F  S x1 x2 x3 t0 = some q) (hW : zW (mG D cs ad) s S H locs) (hl : lv_has ls 6 [(0, .ref (ad 0)), (1, .int x1), (2, .int x2), (3, .int x3)]) : W p l e (zR 7 151) s m args below meth c H locs 0 0 (zQi (mG D cs ad) q below args s) (F0 m 28 ls [.int t0]) := by
  unfold n_X12_told_0_b28 at h
  obtain ⟨hx, hb, hml, hown, hts, hret, hlk⟩ := id C
  refine lv_istore (lv' := [(4, .int t0), (0, .ref (ad 0)), (1, .int x1), (2, .int x2), (3, .int x3)]) hx hb dX12_told_28 hl (by decide) rfl (fun ls hl => ?_)
  exact w_X12_told_0_b30 (F := F) C F _ _ _ _ _ _ _ _ h hW (lv_sub hl [1, 2, 3, 4, 0] rfl)
def n_X12_told_0_e (F : Nat)  (S : Zs)  : Option (Int32 × Zs) :=
  zpf S 0 (0 : Int32) (fun S1 => zcl (n_X12_begins_0 F S1 ) (fun v3 S2 => zpf S2 16 (0 : Int32) (fun S4 => if v3 ≤ 0 then (n_X12_told_0_b28 F  S4 v3 (0 : Int32) (1 : Int32) (0 : Int32)) else (n_X12_told_0_b28 F  S4 v3 (0 : Int32) (1 : Int32) (1 : Int32)))))
set_option maxRecDepth 20000 in
set_option maxHeartbeats 4000000 in
theorem w_X12_told_0_e {F : Nat} {q : (Int32 × Zs)} {S : Zs}   {ls : Array Slot} {H : Heap} {locs : List Loc} (C : zC p s m args meth c cX12_told 6 RX12 (some .int))  (h : n_X12_told_0_e F  S  = some q) (hW : zW (mG D cs ad) s S H locs) (hl : lv_has ls 6 [(0, .ref (ad 0))]) : W p l e (zR 7 151) s m args below meth c H locs 0 0 (zQi (mG D cs ad) q below args s) (F0 m 0 ls []) := by
  unfold n_X12_told_0_e at h
  obtain ⟨hx, hb, hml, hown, hts, hret, hlk⟩ := id C
  refine lv_aload_n hx hb dX12_told_0 rfl (lv_at hl 0 rfl) ?_
  refine lv_iconst (v := 0) hx hb dX12_told_1 (by decide) ?_
  refine mp_0_0 C hW h fl_X12_3 dX12_told_2 (fun S1 H locs h hW => ?_)
  refine lv_aload_n hx hb dX12_told_5 rfl (lv_at hl 0 rfl) ?_
  refine zz_callVi (As := []) C hW h (fun r hr => c_X12_begins_0 hr) lk_X12_102 (hW.recv mr_0) rfl hl.1 ⟨rfl, rfl⟩ ⟨Nat.le_of_ble_eq_true rfl, Nat.le_of_ble_eq_true rfl⟩ (Nat.le_of_ble_eq_true rfl) ⟨Nat.zero_le _, Nat.zero_le _⟩ rfl dX12_told_6 (fun v3 S2 H locs h hW => ?_)
  refine lv_istore_n (lv' := [(1, .int v3), (0, .ref (ad 0))]) hx hb dX12_told_9 rfl hl (by decide) rfl (fun ls hl => ?_)
  refine lv_aload_n hx hb dX12_told_10 rfl (lv_at hl 1 rfl) ?_
  refine lv_iconst (v := 0) hx hb dX12_told_11 (by decide) ?_
  refine mp_0_16 C hW h fl_X12_99 dX12_told_12 (fun S4 H locs h hW => ?_)
  refine lv_iconst (v := 0) hx hb dX12_told_15 (by decide) ?_
  refine lv_istore_n (lv' := [(2, .int (0 : Int32)), (1, .int v3), (0, .ref (ad 0))]) hx hb dX12_told_16 rfl hl (by decide) rfl (fun ls hl => ?_)
  refine lv_iconst (v := 1) hx hb dX12_told_17 (by decide) ?_
  refine lv_istore_n (lv' := [(3, .int (1 : Int32)), (2, .int (0 : Int32)), (1, .int v3), (0, .ref (ad 0))]) hx hb dX12_told_18 rfl hl (by decide) rfl (fun ls hl => ?_)
  refine lv_iload_n hx hb dX12_told_19 rfl (lv_at hl 2 rfl) ?_
  refine zz_ile (tgt := 27) C h dX12_told_20 (by decide) (fun h => ?_) (fun h => ?_)
  · refine lv_iconst (v := 0) hx hb dX12_told_27 (by decide) ?_
    exact w_X12_told_0_b28 (F := F) C h hW (lv_sub hl [3, 2, 1, 0] rfl)
  · refine lv_iconst (v := 1) hx hb dX12_told_23 (by decide) ?_
    refine lv_goto (tgt := 28) hx hb dX12_told_24 (by decide) ?_
    exact w_X12_told_0_b28 (F := F) C h hW (lv_sub hl [3, 2, 1, 0] rfl)
def n_X12_told_0 (F : Nat) (S : Zs)  : Option (Int32 × Zs) := n_X12_told_0_e F  S 
theorem c_X12_told_0 {l : Launch} {D : va_G} {cs ad : Nat → Nat} {F : Nat} {S : Zs}  {q : (Int32 × Zs)} (h : n_X12_told_0 F S  = some q) : zMi l yX12_told cX12_told 6 (some .int) (zR 7 151) (mG D cs ad) [.ref (ad 0)] S q :=
  zz_enter (by decide) (Nat.le_of_ble_eq_true rfl) (fun p e s m below meth c ls C hW hl => w_X12_told_0_e (F := F) C h hW (lv_sub hl [0] rfl))
def n_X12_isSaying_0_e (F : Nat)  (S : Zs) (x1 : Int32) : Option (Int32 × Zs) :=
  zgf S 3 (fun v1 => zcl (n_X12_in F S (x1.toInt64) (0 : Int64) ((v1 - (1 : Int32)).toInt64)) (fun v3 S2 => zrb v3 S2))
set_option maxRecDepth 20000 in
set_option maxHeartbeats 4000000 in
theorem w_X12_isSaying_0_e {F : Nat} {q : (Int32 × Zs)} {S : Zs}  {x1 : Int32} {ls : Array Slot} {H : Heap} {locs : List Loc} (C : zC p s m args meth c cX12_isSaying 2 RX12 (some .boolean))  (h : n_X12_isSaying_0_e F  S x1 = some q) (hW : zW (mG D cs ad) s S H locs) (hl : lv_has ls 2 [(0, .ref (ad 0)), (1, .int x1)]) : W p l e (zR 1 25) s m args below meth c H locs 0 0 (zQi (mG D cs ad) q below args s) (F0 m 0 ls []) := by
  unfold n_X12_isSaying_0_e at h
  obtain ⟨hx, hb, hml, hown, hts, hret, hlk⟩ := id C
  refine lv_iload_n hx hb dX12_isSaying_0 rfl (lv_at hl 1 rfl) ?_
  refine lv_i2l hx hb dX12_isSaying_1 rfl ?_
  refine lv_lconst (v := 0) hx hb dX12_isSaying_2 (by decide) ?_
  refine lv_aload_n hx hb dX12_isSaying_3 rfl (lv_at hl 0 rfl) ?_
  refine mg_0_3 C hW h fl_X12_105 dX12_isSaying_4 (fun v1 h => ?_)
  refine lv_iconst (v := 1) hx hb dX12_isSaying_7 (by decide) ?_
  refine lv_isub hx hb dX12_isSaying_8 ?_
  refine lv_i2l hx hb dX12_isSaying_9 rfl ?_
  refine zz_callSi (As := [.long (x1.toInt64), .long (0 : Int64), .long ((v1 - (1 : Int32)).toInt64)]) C hW h (fun r hr => c_X12_in hr) lk_X12_16 rfl hl.1 ⟨rfl, rfl⟩ ⟨Nat.le_of_ble_eq_true rfl, Nat.le_of_ble_eq_true rfl⟩ (Nat.le_of_ble_eq_true rfl) ⟨Nat.zero_le _, Nat.zero_le _⟩ rfl dX12_isSaying_10 (fun v3 S2 H locs h hW => ?_)
  exact zz_zret C rfl h hW dX12_isSaying_13
def n_X12_isSaying_0 (F : Nat) (S : Zs) (x1 : Int32) : Option (Int32 × Zs) := n_X12_isSaying_0_e F  S x1
theorem c_X12_isSaying_0 {l : Launch} {D : va_G} {cs ad : Nat → Nat} {F : Nat} {S : Zs} {x1 : Int32} {q : (Int32 × Zs)} (h : n_X12_isSaying_0 F S x1 = some q) : zMi l yX12_isSaying cX12_isSaying 2 (some .boolean) (zR 1 25) (mG D cs ad) [.ref (ad 0), .int x1] S q :=
  zz_enter (by decide) (Nat.le_of_ble_eq_true rfl) (fun p e s m below meth c ls C hW hl => w_X12_isSaying_0_e (F := F) C h hW (lv_sub hl [0, 1] rfl))
def n_X12_saying_0_b25 (F : Nat)  (S : Zs)  : Option (Int32 × Zs) :=
  zcl (n_X12_refuse_0 F S ) (fun v2 S1 => some (v2, S1))
set_option maxRecDepth 20000 in
set_option maxHeartbeats 4000000 in
theorem w_X12_saying_0_b25 {F : Nat} {q : (Int32 × Zs)} {S : Zs}   {ls : Array Slot} {H : Heap} {locs : List Loc} (C : zC p s m args meth c cX12_saying 3 RX12 (some .int))  (h : n_X12_saying_0_b25 F  S  = some q) (hW : zW (mG D cs ad) s S H locs) (hl : lv_has ls 3 [(0, .ref (ad 0))]) : W p l e (zR 2 46) s m args below meth c H locs 0 0 (zQi (mG D cs ad) q below args s) (F0 m 25 ls []) := by
  unfold n_X12_saying_0_b25 at h
  obtain ⟨hx, hb, hml, hown, hts, hret, hlk⟩ := id C
  refine lv_aload_n hx hb dX12_saying_25 rfl (lv_at hl 0 rfl) ?_
  refine zz_callVi (As := []) C hW h (fun r hr => c_X12_refuse_0 hr) lk_X12_123 (hW.recv mr_0) rfl hl.1 ⟨rfl, rfl⟩ ⟨Nat.le_of_ble_eq_true rfl, Nat.le_of_ble_eq_true rfl⟩ (Nat.le_of_ble_eq_true rfl) ⟨Nat.zero_le _, Nat.zero_le _⟩ rfl dX12_saying_26 (fun v2 S1 H locs h hW => ?_)
  exact zz_iret C rfl h hW dX12_saying_29
def n_X12_saying_0_b80 (F : Nat)  (S : Zs) (t0 : Int32) : Option (Int32 × Zs) :=
  some (t0, S)
set_option maxRecDepth 20000 in
set_option maxHeartbeats 4000000 in
theorem w_X12_saying_0_b80 {F : Nat} {q : (Int32 × Zs)} {S : Zs}  {t0 : Int32} {ls : Array Slot} {H : Heap} {locs : List Loc} (C : zC p s m args meth c cX12_saying 3 RX12 (some .int))  (h : n_X12_saying_0_b80 F  S t0 = some q) (hW : zW (mG D cs ad) s S H locs) (hl : lv_has ls 3 []) : W p l e (zR 2 46) s m args below meth c H locs 0 0 (zQi (mG D cs ad) q below args s) (F0 m 80 ls [.int t0]) := by
  unfold n_X12_saying_0_b80 at h
  obtain ⟨hx, hb, hml, hown, hts, hret, hlk⟩ := id C
  exact zz_iret C rfl h hW dX12_saying_80
def n_X12_saying_0_b73 (F : Nat)  (S : Zs) (x1 : Int32) (t0 : Int32) : Option (Int32 × Zs) :=
  zcl (n_X12_has F S t0 x1) (fun v2 S1 => zcl (n_X12_flag F S1 v2) (fun v4 S3 => n_X12_saying_0_b80 F  S3 v4))
set_option maxRecDepth 20000 in
set_option maxHeartbeats 4000000 in
theorem w_X12_saying_0_b73 {F : Nat} {q : (Int32 × Zs)} {S : Zs}  {x1 : Int32} {t0 : Int32} {ls : Array Slot} {H : Heap} {locs : List Loc} (C : zC p s m args meth c cX12_saying 3 RX12 (some .int))  (h : n_X12_saying_0_b73 F  S x1 t0 = some q) (hW : zW (mG D cs ad) s S H locs) (hl : lv_has ls 3 [(1, .int x1)]) : W p l e (zR 2 46) s m args below meth c H locs 0 0 (zQi (mG D cs ad) q below args s) (F0 m 73 ls [.int t0]) := by
  unfold n_X12_saying_0_b73 at h
  obtain ⟨hx, hb, hml, hown, hts, hret, hlk⟩ := id C
  refine lv_iload_n hx hb dX12_saying_73 rfl (lv_at hl 0 rfl) ?_
  refine zz_callSi (As := [.int t0, .int x1]) C hW h (fun r hr => c_X12_has hr) lk_X12_129 rfl hl.1 ⟨rfl, rfl⟩ ⟨Nat.le_of_ble_eq_true rfl, Nat.le_of_ble_eq_true rfl⟩ (Nat.le_of_ble_eq_true rfl) ⟨Nat.zero_le _, Nat.zero_le _⟩ rfl dX12_saying_74 (fun v2 S1 H locs h hW => ?_)
  refine zz_callSi (As := [.int v2]) C hW h (fun r hr => c_X12_flag hr) lk_X12_52 rfl hl.1 ⟨rfl, rfl⟩ ⟨Nat.le_of_ble_eq_true rfl, Nat.le_of_ble_eq_true rfl⟩ (Nat.le_of_ble_eq_true rfl) ⟨Nat.zero_le _, Nat.zero_le _⟩ rfl dX12_saying_77 (fun v4 S3 H locs h hW => ?_)
  exact w_X12_saying_0_b80 (F := F) C h hW (lv_sub hl [] rfl)
def n_X12_saying_0_e (F : Nat)  (S : Zs) (x1 : Int32) (x2 : Int32) : Option (Int32 × Zs) :=
  zpf S 0 (0 : Int32) (fun S1 => zcl (n_X12_isSaying_0 F S1 x1) (fun v3 S2 => if v3 = 0 then (n_X12_saying_0_b25 F  S2 ) else (zcl (n_X12_in F S2 (x2.toInt64) (0 : Int64) (3 : Int64)) (fun v5 S4 => if v5 = 0 then (n_X12_saying_0_b25 F  S4 ) else (if x2 = 0 then (zld S4 2 16 x1 (fun v9 => n_X12_saying_0_b80 F  S4 v9)) else (if x2 = (1 : Int32) then (zld S4 3 16 x1 (fun v8 => n_X12_saying_0_b80 F  S4 v8)) else (if x2 = (2 : Int32) then (zgf S4 6 (fun v7 => n_X12_saying_0_b73 F  S4 x1 v7)) else (zgf S4 7 (fun v6 => n_X12_saying_0_b73 F  S4 x1 v6)))))))))
set_option maxRecDepth 20000 in
set_option maxHeartbeats 4000000 in
theorem w_X12_saying_0_e {F : Nat} {q : (Int32 × Zs)} {S : Zs}  {x1 : Int32} {x2 : Int32} {ls : Array Slot} {H : Heap} {locs : List Loc} (C : zC p s m args meth c cX12_saying 3 RX12 (some .int))  (h : n_X12_saying_0_e F  S x1 x2 = some q) (hW : zW (mG D cs ad) s S H locs) (hl : lv_has ls 3 [(0, .ref (ad 0)), (1, .int x1), (2, .int x2)]) : W p l e (zR 2 46) s m args below meth c H locs 0 0 (zQi (mG D cs ad) q below args s) (F0 m 0 ls []) := by
  unfold n_X12_saying_0_e at h
  obtain ⟨hx, hb, hml, hown, hts, hret, hlk⟩ := id C
  refine lv_aload_n hx hb dX12_saying_0 rfl (lv_at hl 0 rfl) ?_
  refine lv_iconst (v := 0) hx hb dX12_saying_1 (by decide) ?_
  refine mp_0_0 C hW h fl_X12_3 dX12_saying_2 (fun S1 H locs h hW => ?_)
  refine lv_aload_n hx hb dX12_saying_5 rfl (lv_at hl 0 rfl) ?_
  refine lv_iload_n hx hb dX12_saying_6 rfl (lv_at hl 1 rfl) ?_
  refine zz_callVi (As := [.int x1]) C hW h (fun r hr => c_X12_isSaying_0 hr) lk_X12_118 (hW.recv mr_0) rfl hl.1 ⟨rfl, rfl⟩ ⟨Nat.le_of_ble_eq_true rfl, Nat.le_of_ble_eq_true rfl⟩ (Nat.le_of_ble_eq_true rfl) ⟨Nat.zero_le _, Nat.zero_le _⟩ rfl dX12_saying_7 (fun v3 S2 H locs h hW => ?_)
  refine zz_ieq (tgt := 25) C h dX12_saying_10 (by decide) (fun h => ?_) (fun h => ?_)
  · exact w_X12_saying_0_b25 (F := F) C h hW (lv_sub hl [0] rfl)
  · refine lv_iload_n hx hb dX12_saying_13 rfl (lv_at hl 2 rfl) ?_
    refine lv_i2l hx hb dX12_saying_14 rfl ?_
    refine lv_lconst (v := 0) hx hb dX12_saying_15 (by decide) ?_
    refine lv_ldc2 (v := 3) hx hb hown (hts _ ct_X12_121) dX12_saying_16 ?_
    refine zz_callSi (As := [.long (x2.toInt64), .long (0 : Int64), .long (3 : Int64)]) C hW h (fun r hr => c_X12_in hr) lk_X12_16 rfl hl.1 ⟨rfl, rfl⟩ ⟨Nat.le_of_ble_eq_true rfl, Nat.le_of_ble_eq_true rfl⟩ (Nat.le_of_ble_eq_true rfl) ⟨Nat.zero_le _, Nat.zero_le _⟩ rfl dX12_saying_19 (fun v5 S4 H locs h hW => ?_)
    refine zz_ine (tgt := 30) C h dX12_saying_22 (by decide) (fun h => ?_) (fun h => ?_)
    · refine lv_iload_n hx hb dX12_saying_30 rfl (lv_at hl 2 rfl) ?_
      refine zz_ine (tgt := 43) C h dX12_saying_31 (by decide) (fun h => ?_) (fun h => ?_)
      · refine lv_iload_n hx hb dX12_saying_43 rfl (lv_at hl 2 rfl) ?_
        refine lv_iconst (v := 1) hx hb dX12_saying_44 (by decide) ?_
        refine zz_cne (tgt := 57) C h dX12_saying_45 (by decide) (fun h => ?_) (fun h => ?_)
        · refine lv_iload_n hx hb dX12_saying_57 rfl (lv_at hl 2 rfl) ?_
          refine lv_iconst (v := 2) hx hb dX12_saying_58 (by decide) ?_
          refine zz_cne (tgt := 69) C h dX12_saying_59 (by decide) (fun h => ?_) (fun h => ?_)
          · refine lv_aload_n hx hb dX12_saying_69 rfl (lv_at hl 0 rfl) ?_
            refine mg_0_7 C hW h fl_X12_126 dX12_saying_70 (fun v6 h => ?_)
            exact w_X12_saying_0_b73 (F := F) C h hW (lv_sub hl [1] rfl)
          · refine lv_aload_n hx hb dX12_saying_62 rfl (lv_at hl 0 rfl) ?_
            refine mg_0_6 C hW h fl_X12_115 dX12_saying_63 (fun v7 h => ?_)
            refine lv_goto (tgt := 73) hx hb dX12_saying_66 (by decide) ?_
            exact w_X12_saying_0_b73 (F := F) C h hW (lv_sub hl [1] rfl)
        · refine lv_aload_n hx hb dX12_saying_48 rfl (lv_at hl 0 rfl) ?_
          refine mg_0_5 C hW fl_X12_93 dX12_saying_49 ?_
          refine lv_iload_n hx hb dX12_saying_52 rfl (lv_at hl 1 rfl) ?_
          refine ml_3 C hW h dX12_saying_53 (fun v8 h => ?_)
          refine lv_goto (tgt := 80) hx hb dX12_saying_54 (by decide) ?_
          exact w_X12_saying_0_b80 (F := F) C h hW (lv_sub hl [] rfl)
      · refine lv_aload_n hx hb dX12_saying_34 rfl (lv_at hl 0 rfl) ?_
        refine mg_0_4 C hW fl_X12_87 dX12_saying_35 ?_
        refine lv_iload_n hx hb dX12_saying_38 rfl (lv_at hl 1 rfl) ?_
        refine ml_2 C hW h dX12_saying_39 (fun v9 h => ?_)
        refine lv_goto (tgt := 80) hx hb dX12_saying_40 (by decide) ?_
        exact w_X12_saying_0_b80 (F := F) C h hW (lv_sub hl [] rfl)
    · exact w_X12_saying_0_b25 (F := F) C h hW (lv_sub hl [0] rfl)
def n_X12_saying_0 (F : Nat) (S : Zs) (x1 : Int32) (x2 : Int32) : Option (Int32 × Zs) := n_X12_saying_0_e F  S x1 x2
theorem c_X12_saying_0 {l : Launch} {D : va_G} {cs ad : Nat → Nat} {F : Nat} {S : Zs} {x1 : Int32} {x2 : Int32} {q : (Int32 × Zs)} (h : n_X12_saying_0 F S x1 x2 = some q) : zMi l yX12_saying cX12_saying 3 (some .int) (zR 2 46) (mG D cs ad) [.ref (ad 0), .int x1, .int x2] S q :=
  zz_enter (by decide) (Nat.le_of_ble_eq_true rfl) (fun p e s m below meth c ls C hW hl => w_X12_saying_0_e (F := F) C h hW (lv_sub hl [0, 1, 2] rfl))
def n_X12_with_b19 (F : Nat)  (S : Zs) (t0 : Int32) : Option (Int32 × Zs) :=
  some (t0, S)
set_option maxRecDepth 20000 in
set_option maxHeartbeats 4000000 in
theorem w_X12_with_b19 {F : Nat} {q : (Int32 × Zs)} {S : Zs}  {t0 : Int32} {ls : Array Slot} {H : Heap} {locs : List Loc} (C : zC p s m args meth c cX12_with 3 RX12 (some .int))  (h : n_X12_with_b19 F  S t0 = some q) (hW : zW (mG D cs ad) s S H locs) (hl : lv_has ls 3 []) : W p l e (zR 0 0) s m args below meth c H locs 0 0 (zQi (mG D cs ad) q below args s) (F0 m 19 ls [.int t0]) := by
  unfold n_X12_with_b19 at h
  obtain ⟨hx, hb, hml, hown, hts, hret, hlk⟩ := id C
  exact zz_iret C rfl h hW dX12_with_19
def n_X12_with_e (F : Nat)  (S : Zs) (x0 : Int32) (x1 : Int32) (x2 : Int32) : Option (Int32 × Zs) :=
  if x2 = 0 then (n_X12_with_b19 F  S (x0 &&& (((1 : Int32) <<< (x1 &&& 31)) ^^^ (-1 : Int32)))) else (n_X12_with_b19 F  S (x0 ||| ((1 : Int32) <<< (x1 &&& 31))))
set_option maxRecDepth 20000 in
set_option maxHeartbeats 4000000 in
theorem w_X12_with_e {F : Nat} {q : (Int32 × Zs)} {S : Zs}  {x0 : Int32} {x1 : Int32} {x2 : Int32} {ls : Array Slot} {H : Heap} {locs : List Loc} (C : zC p s m args meth c cX12_with 3 RX12 (some .int))  (h : n_X12_with_e F  S x0 x1 x2 = some q) (hW : zW (mG D cs ad) s S H locs) (hl : lv_has ls 3 [(0, .int x0), (1, .int x1), (2, .int x2)]) : W p l e (zR 0 0) s m args below meth c H locs 0 0 (zQi (mG D cs ad) q below args s) (F0 m 0 ls []) := by
  unfold n_X12_with_e at h
  obtain ⟨hx, hb, hml, hown, hts, hret, hlk⟩ := id C
  refine lv_iload_n hx hb dX12_with_0 rfl (lv_at hl 2 rfl) ?_
  refine zz_ieq (tgt := 12) C h dX12_with_1 (by decide) (fun h => ?_) (fun h => ?_)
  · refine lv_iload_n hx hb dX12_with_12 rfl (lv_at hl 0 rfl) ?_
    refine lv_iconst (v := 1) hx hb dX12_with_13 (by decide) ?_
    refine lv_iload_n hx hb dX12_with_14 rfl (lv_at hl 1 rfl) ?_
    refine lv_ishl hx hb dX12_with_15 ?_
    refine lv_iconst (v := -1) hx hb dX12_with_16 (by decide) ?_
    refine lv_ixor hx hb dX12_with_17 ?_
    refine lv_iand hx hb dX12_with_18 ?_
    exact w_X12_with_b19 (F := F) C h hW (lv_sub hl [] rfl)
  · refine lv_iload_n hx hb dX12_with_4 rfl (lv_at hl 0 rfl) ?_
    refine lv_iconst (v := 1) hx hb dX12_with_5 (by decide) ?_
    refine lv_iload_n hx hb dX12_with_6 rfl (lv_at hl 1 rfl) ?_
    refine lv_ishl hx hb dX12_with_7 ?_
    refine lv_ior hx hb dX12_with_8 ?_
    refine lv_goto (tgt := 19) hx hb dX12_with_9 (by decide) ?_
    exact w_X12_with_b19 (F := F) C h hW (lv_sub hl [] rfl)
def n_X12_with (F : Nat) (S : Zs) (x0 : Int32) (x1 : Int32) (x2 : Int32) : Option (Int32 × Zs) := n_X12_with_e F  S x0 x1 x2
theorem c_X12_with {l : Launch} {D : va_G} {cs ad : Nat → Nat} {F : Nat} {S : Zs} {x0 : Int32} {x1 : Int32} {x2 : Int32} {q : (Int32 × Zs)} (h : n_X12_with F S x0 x1 x2 = some q) : zMi l yX12_with cX12_with 3 (some .int) (zR 0 0) (mG D cs ad) [.int x0, .int x1, .int x2] S q :=
  zz_enter (by decide) (Nat.le_of_ble_eq_true rfl) (fun p e s m below meth c ls C hW hl => w_X12_with_e (F := F) C h hW (lv_sub hl [0, 1, 2] rfl))
def n_X12_mark_0_b23 (F : Nat)  (S : Zs)  : Option (Int32 × Zs) :=
  zrb (0 : Int32) S
set_option maxRecDepth 20000 in
set_option maxHeartbeats 4000000 in
theorem w_X12_mark_0_b23 {F : Nat} {q : (Int32 × Zs)} {S : Zs}   {ls : Array Slot} {H : Heap} {locs : List Loc} (C : zC p s m args meth c cX12_mark 4 RX12 (some .boolean))  (h : n_X12_mark_0_b23 F  S  = some q) (hW : zW (mG D cs ad) s S H locs) (hl : lv_has ls 4 []) : W p l e (zR 2 46) s m args below meth c H locs 0 0 (zQi (mG D cs ad) q below args s) (F0 m 23 ls []) := by
  unfold n_X12_mark_0_b23 at h
  obtain ⟨hx, hb, hml, hown, hts, hret, hlk⟩ := id C
  refine lv_iconst (v := 0) hx hb dX12_mark_23 (by decide) ?_
  exact zz_zret C rfl h hW dX12_mark_24
def n_X12_mark_0_b71 (F : Nat)  (S : Zs) (t0 : Int32) : Option (Int32 × Zs) :=
  zpf S 7 t0 (fun S1 => zrb (1 : Int32) S1)
set_option maxRecDepth 20000 in
set_option maxHeartbeats 4000000 in
theorem w_X12_mark_0_b71 {F : Nat} {q : (Int32 × Zs)} {S : Zs}  {t0 : Int32} {ls : Array Slot} {H : Heap} {locs : List Loc} (C : zC p s m args meth c cX12_mark 4 RX12 (some .boolean))  (h : n_X12_mark_0_b71 F  S t0 = some q) (hW : zW (mG D cs ad) s S H locs) (hl : lv_has ls 4 []) : W p l e (zR 2 46) s m args below meth c H locs 0 0 (zQi (mG D cs ad) q below args s) (F0 m 71 ls [.int t0, .ref (ad 0)]) := by
  unfold n_X12_mark_0_b71 at h
  obtain ⟨hx, hb, hml, hown, hts, hret, hlk⟩ := id C
  refine mp_0_7 C hW h fl_X12_126 dX12_mark_71 (fun S1 H locs h hW => ?_)
  refine lv_iconst (v := 1) hx hb dX12_mark_74 (by decide) ?_
  exact zz_zret C rfl h hW dX12_mark_75
def n_X12_mark_0_b46 (F : Nat)  (S : Zs) (x1 : Int32) (x2 : Int32) (x3 : Int32) (t0 : Int32) : Option (Int32 × Zs) :=
  zpf S 6 t0 (fun S1 => if x2 = (1 : Int32) then (zgf S1 7 (fun v3 => zcl (n_X12_with F S1 v3 x1 x3) (fun v5 S4 => n_X12_mark_0_b71 F  S4 v5))) else (zgf S1 7 (fun v2 => n_X12_mark_0_b71 F  S1 v2)))
set_option maxRecDepth 20000 in
set_option maxHeartbeats 4000000 in
theorem w_X12_mark_0_b46 {F : Nat} {q : (Int32 × Zs)} {S : Zs}  {x1 : Int32} {x2 : Int32} {x3 : Int32} {t0 : Int32} {ls : Array Slot} {H : Heap} {locs : List Loc} (C : zC p s m args meth c cX12_mark 4 RX12 (some .boolean))  (h : n_X12_mark_0_b46 F  S x1 x2 x3 t0 = some q) (hW : zW (mG D cs ad) s S H locs) (hl : lv_has ls 4 [(0, .ref (ad 0)), (1, .int x1), (2, .int x2), (3, .int x3)]) : W p l e (zR 2 46) s m args below meth c H locs 0 0 (zQi (mG D cs ad) q below args s) (F0 m 46 ls [.int t0, .ref (ad 0)]) := by
  unfold n_X12_mark_0_b46 at h
  obtain ⟨hx, hb, hml, hown, hts, hret, hlk⟩ := id C
  refine mp_0_6 C hW h fl_X12_115 dX12_mark_46 (fun S1 H locs h hW => ?_)
  refine lv_aload_n hx hb dX12_mark_49 rfl (lv_at hl 0 rfl) ?_
  refine lv_iload_n hx hb dX12_mark_50 rfl (lv_at hl 2 rfl) ?_
  refine lv_iconst (v := 1) hx hb dX12_mark_51 (by decide) ?_
  refine zz_cne (tgt := 67) C h dX12_mark_52 (by decide) (fun h => ?_) (fun h => ?_)
  · refine lv_aload_n hx hb dX12_mark_67 rfl (lv_at hl 0 rfl) ?_
    refine mg_0_7 C hW h fl_X12_126 dX12_mark_68 (fun v2 h => ?_)
    exact w_X12_mark_0_b71 (F := F) C h hW (lv_sub hl [] rfl)
  · refine lv_aload_n hx hb dX12_mark_55 rfl (lv_at hl 0 rfl) ?_
    refine mg_0_7 C hW h fl_X12_126 dX12_mark_56 (fun v3 h => ?_)
    refine lv_iload_n hx hb dX12_mark_59 rfl (lv_at hl 1 rfl) ?_
    refine lv_iload_n hx hb dX12_mark_60 rfl (lv_at hl 3 rfl) ?_
    refine zz_callSi (As := [.int v3, .int x1, .int x3]) C hW h (fun r hr => c_X12_with hr) lk_X12_133 rfl hl.1 ⟨rfl, rfl⟩ ⟨Nat.le_of_ble_eq_true rfl, Nat.le_of_ble_eq_true rfl⟩ (Nat.le_of_ble_eq_true rfl) ⟨Nat.zero_le _, Nat.zero_le _⟩ rfl dX12_mark_61 (fun v5 S4 H locs h hW => ?_)
    refine lv_goto (tgt := 71) hx hb dX12_mark_64 (by decide) ?_
    exact w_X12_mark_0_b71 (F := F) C h hW (lv_sub hl [] rfl)
def n_X12_mark_0_e (F : Nat)  (S : Zs) (x1 : Int32) (x2 : Int32) (x3 : Int32) : Option (Int32 × Zs) :=
  zpf S 0 (0 : Int32) (fun S1 => zcl (n_X12_isSaying_0 F S1 x1) (fun v3 S2 => if v3 = 0 then (n_X12_mark_0_b23 F  S2 ) else (zcl (n_X12_in F S2 (x2.toInt64) (0 : Int64) (1 : Int64)) (fun v5 S4 => if v5 = 0 then (n_X12_mark_0_b23 F  S4 ) else (if x2 = 0 then (zgf S4 6 (fun v7 => zcl (n_X12_with F S4 v7 x1 x3) (fun v9 S8 => n_X12_mark_0_b46 F  S8 x1 x2 x3 v9))) else (zgf S4 6 (fun v6 => n_X12_mark_0_b46 F  S4 x1 x2 x3 v6)))))))
set_option maxRecDepth 20000 in
set_option maxHeartbeats 4000000 in
theorem w_X12_mark_0_e {F : Nat} {q : (Int32 × Zs)} {S : Zs}  {x1 : Int32} {x2 : Int32} {x3 : Int32} {ls : Array Slot} {H : Heap} {locs : List Loc} (C : zC p s m args meth c cX12_mark 4 RX12 (some .boolean))  (h : n_X12_mark_0_e F  S x1 x2 x3 = some q) (hW : zW (mG D cs ad) s S H locs) (hl : lv_has ls 4 [(0, .ref (ad 0)), (1, .int x1), (2, .int x2), (3, .int x3)]) : W p l e (zR 2 46) s m args below meth c H locs 0 0 (zQi (mG D cs ad) q below args s) (F0 m 0 ls []) := by
  unfold n_X12_mark_0_e at h
  obtain ⟨hx, hb, hml, hown, hts, hret, hlk⟩ := id C
  refine lv_aload_n hx hb dX12_mark_0 rfl (lv_at hl 0 rfl) ?_
  refine lv_iconst (v := 0) hx hb dX12_mark_1 (by decide) ?_
  refine mp_0_0 C hW h fl_X12_3 dX12_mark_2 (fun S1 H locs h hW => ?_)
  refine lv_aload_n hx hb dX12_mark_5 rfl (lv_at hl 0 rfl) ?_
  refine lv_iload_n hx hb dX12_mark_6 rfl (lv_at hl 1 rfl) ?_
  refine zz_callVi (As := [.int x1]) C hW h (fun r hr => c_X12_isSaying_0 hr) lk_X12_118 (hW.recv mr_0) rfl hl.1 ⟨rfl, rfl⟩ ⟨Nat.le_of_ble_eq_true rfl, Nat.le_of_ble_eq_true rfl⟩ (Nat.le_of_ble_eq_true rfl) ⟨Nat.zero_le _, Nat.zero_le _⟩ rfl dX12_mark_7 (fun v3 S2 H locs h hW => ?_)
  refine zz_ieq (tgt := 23) C h dX12_mark_10 (by decide) (fun h => ?_) (fun h => ?_)
  · exact w_X12_mark_0_b23 (F := F) C h hW (lv_sub hl [] rfl)
  · refine lv_iload_n hx hb dX12_mark_13 rfl (lv_at hl 2 rfl) ?_
    refine lv_i2l hx hb dX12_mark_14 rfl ?_
    refine lv_lconst (v := 0) hx hb dX12_mark_15 (by decide) ?_
    refine lv_lconst (v := 1) hx hb dX12_mark_16 (by decide) ?_
    refine zz_callSi (As := [.long (x2.toInt64), .long (0 : Int64), .long (1 : Int64)]) C hW h (fun r hr => c_X12_in hr) lk_X12_16 rfl hl.1 ⟨rfl, rfl⟩ ⟨Nat.le_of_ble_eq_true rfl, Nat.le_of_ble_eq_true rfl⟩ (Nat.le_of_ble_eq_true rfl) ⟨Nat.zero_le _, Nat.zero_le _⟩ rfl dX12_mark_17 (fun v5 S4 H locs h hW => ?_)
    refine zz_ine (tgt := 25) C h dX12_mark_20 (by decide) (fun h => ?_) (fun h => ?_)
    · refine lv_aload_n hx hb dX12_mark_25 rfl (lv_at hl 0 rfl) ?_
      refine lv_iload_n hx hb dX12_mark_26 rfl (lv_at hl 2 rfl) ?_
      refine zz_ine (tgt := 42) C h dX12_mark_27 (by decide) (fun h => ?_) (fun h => ?_)
      · refine lv_aload_n hx hb dX12_mark_42 rfl (lv_at hl 0 rfl) ?_
        refine mg_0_6 C hW h fl_X12_115 dX12_mark_43 (fun v6 h => ?_)
        exact w_X12_mark_0_b46 (F := F) C h hW (lv_sub hl [0, 1, 2, 3] rfl)
      · refine lv_aload_n hx hb dX12_mark_30 rfl (lv_at hl 0 rfl) ?_
        refine mg_0_6 C hW h fl_X12_115 dX12_mark_31 (fun v7 h => ?_)
        refine lv_iload_n hx hb dX12_mark_34 rfl (lv_at hl 1 rfl) ?_
        refine lv_iload_n hx hb dX12_mark_35 rfl (lv_at hl 3 rfl) ?_
        refine zz_callSi (As := [.int v7, .int x1, .int x3]) C hW h (fun r hr => c_X12_with hr) lk_X12_133 rfl hl.1 ⟨rfl, rfl⟩ ⟨Nat.le_of_ble_eq_true rfl, Nat.le_of_ble_eq_true rfl⟩ (Nat.le_of_ble_eq_true rfl) ⟨Nat.zero_le _, Nat.zero_le _⟩ rfl dX12_mark_36 (fun v9 S8 H locs h hW => ?_)
        refine lv_goto (tgt := 46) hx hb dX12_mark_39 (by decide) ?_
        exact w_X12_mark_0_b46 (F := F) C h hW (lv_sub hl [0, 1, 2, 3] rfl)
    · exact w_X12_mark_0_b23 (F := F) C h hW (lv_sub hl [] rfl)
def n_X12_mark_0 (F : Nat) (S : Zs) (x1 : Int32) (x2 : Int32) (x3 : Int32) : Option (Int32 × Zs) := n_X12_mark_0_e F  S x1 x2 x3
theorem c_X12_mark_0 {l : Launch} {D : va_G} {cs ad : Nat → Nat} {F : Nat} {S : Zs} {x1 : Int32} {x2 : Int32} {x3 : Int32} {q : (Int32 × Zs)} (h : n_X12_mark_0 F S x1 x2 x3 = some q) : zMi l yX12_mark cX12_mark 4 (some .boolean) (zR 2 46) (mG D cs ad) [.ref (ad 0), .int x1, .int x2, .int x3] S q :=
  zz_enter (by decide) (Nat.le_of_ble_eq_true rfl) (fun p e s m below meth c ls C hW hl => w_X12_mark_0_e (F := F) C h hW (lv_sub hl [0, 1, 2, 3] rfl))
def n_X12_lives_0_e (F : Nat)  (S : Zs) (x1 : Int32) (x2 : Int32) : Option (Int32 × Zs) :=
  zpf S 0 (0 : Int32) (fun S1 => zcl (n_X12_in F S1 (x1.toInt64) (0 : Int64) (11 : Int64)) (fun v3 S2 => if v3 = 0 then (zrb (0 : Int32) S2) else (zgf S2 8 (fun v4 => zcl (n_X12_with F S2 v4 x1 x2) (fun v6 S5 => zpf S5 8 v6 (fun S7 => zrb (1 : Int32) S7))))))
set_option maxRecDepth 20000 in
set_option maxHeartbeats 4000000 in
theorem w_X12_lives_0_e {F : Nat} {q : (Int32 × Zs)} {S : Zs}  {x1 : Int32} {x2 : Int32} {ls : Array Slot} {H : Heap} {locs : List Loc} (C : zC p s m args meth c cX12_lives 3 RX12 (some .boolean))  (h : n_X12_lives_0_e F  S x1 x2 = some q) (hW : zW (mG D cs ad) s S H locs) (hl : lv_has ls 3 [(0, .ref (ad 0)), (1, .int x1), (2, .int x2)]) : W p l e (zR 1 25) s m args below meth c H locs 0 0 (zQi (mG D cs ad) q below args s) (F0 m 0 ls []) := by
  unfold n_X12_lives_0_e at h
  obtain ⟨hx, hb, hml, hown, hts, hret, hlk⟩ := id C
  refine lv_aload_n hx hb dX12_lives_0 rfl (lv_at hl 0 rfl) ?_
  refine lv_iconst (v := 0) hx hb dX12_lives_1 (by decide) ?_
  refine mp_0_0 C hW h fl_X12_3 dX12_lives_2 (fun S1 H locs h hW => ?_)
  refine lv_iload_n hx hb dX12_lives_5 rfl (lv_at hl 1 rfl) ?_
  refine lv_i2l hx hb dX12_lives_6 rfl ?_
  refine lv_lconst (v := 0) hx hb dX12_lives_7 (by decide) ?_
  refine lv_ldc2 (v := 11) hx hb hown (hts _ ct_X12_137) dX12_lives_8 ?_
  refine zz_callSi (As := [.long (x1.toInt64), .long (0 : Int64), .long (11 : Int64)]) C hW h (fun r hr => c_X12_in hr) lk_X12_16 rfl hl.1 ⟨rfl, rfl⟩ ⟨Nat.le_of_ble_eq_true rfl, Nat.le_of_ble_eq_true rfl⟩ (Nat.le_of_ble_eq_true rfl) ⟨Nat.zero_le _, Nat.zero_le _⟩ rfl dX12_lives_11 (fun v3 S2 H locs h hW => ?_)
  refine zz_ine (tgt := 19) C h dX12_lives_14 (by decide) (fun h => ?_) (fun h => ?_)
  · refine lv_aload_n hx hb dX12_lives_19 rfl (lv_at hl 0 rfl) ?_
    refine lv_aload_n hx hb dX12_lives_20 rfl (lv_at hl 0 rfl) ?_
    refine mg_0_8 C hW h fl_X12_139 dX12_lives_21 (fun v4 h => ?_)
    refine lv_iload_n hx hb dX12_lives_24 rfl (lv_at hl 1 rfl) ?_
    refine lv_iload_n hx hb dX12_lives_25 rfl (lv_at hl 2 rfl) ?_
    refine zz_callSi (As := [.int v4, .int x1, .int x2]) C hW h (fun r hr => c_X12_with hr) lk_X12_133 rfl hl.1 ⟨rfl, rfl⟩ ⟨Nat.le_of_ble_eq_true rfl, Nat.le_of_ble_eq_true rfl⟩ (Nat.le_of_ble_eq_true rfl) ⟨Nat.zero_le _, Nat.zero_le _⟩ rfl dX12_lives_26 (fun v6 S5 H locs h hW => ?_)
    refine mp_0_8 C hW h fl_X12_139 dX12_lives_29 (fun S7 H locs h hW => ?_)
    refine lv_iconst (v := 1) hx hb dX12_lives_32 (by decide) ?_
    exact zz_zret C rfl h hW dX12_lives_33
  · refine lv_iconst (v := 0) hx hb dX12_lives_17 (by decide) ?_
    exact zz_zret C rfl h hW dX12_lives_18
def n_X12_lives_0 (F : Nat) (S : Zs) (x1 : Int32) (x2 : Int32) : Option (Int32 × Zs) := n_X12_lives_0_e F  S x1 x2
theorem c_X12_lives_0 {l : Launch} {D : va_G} {cs ad : Nat → Nat} {F : Nat} {S : Zs} {x1 : Int32} {x2 : Int32} {q : (Int32 × Zs)} (h : n_X12_lives_0 F S x1 x2 = some q) : zMi l yX12_lives cX12_lives 3 (some .boolean) (zR 1 25) (mG D cs ad) [.ref (ad 0), .int x1, .int x2] S q :=
  zz_enter (by decide) (Nat.le_of_ble_eq_true rfl) (fun p e s m below meth c ls C hW hl => w_X12_lives_0_e (F := F) C h hW (lv_sub hl [0, 1, 2] rfl))
def n_X12_want_0_b21 (F : Nat)  (S : Zs)  : Option (Int32 × Zs) :=
  some ((-1 : Int32), S)
set_option maxRecDepth 20000 in
set_option maxHeartbeats 4000000 in
theorem w_X12_want_0_b21 {F : Nat} {q : (Int32 × Zs)} {S : Zs}   {ls : Array Slot} {H : Heap} {locs : List Loc} (C : zC p s m args meth c cX12_want 2 RX12 (some .int))  (h : n_X12_want_0_b21 F  S  = some q) (hW : zW (mG D cs ad) s S H locs) (hl : lv_has ls 2 []) : W p l e (zR 2 45) s m args below meth c H locs 0 0 (zQi (mG D cs ad) q below args s) (F0 m 21 ls []) := by
  unfold n_X12_want_0_b21 at h
  obtain ⟨hx, hb, hml, hown, hts, hret, hlk⟩ := id C
  refine lv_iconst (v := -1) hx hb dX12_want_21 (by decide) ?_
  exact zz_iret C rfl h hW dX12_want_22
def n_X12_want_0_e (F : Nat)  (S : Zs) (x1 : Int32) : Option (Int32 × Zs) :=
  zpf S 0 (0 : Int32) (fun S1 => zcl (n_X12_isCode F S1 x1) (fun v3 S2 => if v3 = 0 then (n_X12_want_0_b21 F  S2 ) else (zgf S2 9 (fun v4 => if v4 = (6 : Int32) then (n_X12_want_0_b21 F  S2 ) else (zgf S2 9 (fun v5 => zst S2 4 6 v5 x1 (fun S6 => zgf S6 9 (fun v7 => zpf S6 9 (v7 + (1 : Int32)) (fun S8 => zgf S8 9 (fun v9 => some (v9, S8)))))))))))
set_option maxRecDepth 20000 in
set_option maxHeartbeats 4000000 in
theorem w_X12_want_0_e {F : Nat} {q : (Int32 × Zs)} {S : Zs}  {x1 : Int32} {ls : Array Slot} {H : Heap} {locs : List Loc} (C : zC p s m args meth c cX12_want 2 RX12 (some .int))  (h : n_X12_want_0_e F  S x1 = some q) (hW : zW (mG D cs ad) s S H locs) (hl : lv_has ls 2 [(0, .ref (ad 0)), (1, .int x1)]) : W p l e (zR 2 45) s m args below meth c H locs 0 0 (zQi (mG D cs ad) q below args s) (F0 m 0 ls []) := by
  unfold n_X12_want_0_e at h
  obtain ⟨hx, hb, hml, hown, hts, hret, hlk⟩ := id C
  refine lv_aload_n hx hb dX12_want_0 rfl (lv_at hl 0 rfl) ?_
  refine lv_iconst (v := 0) hx hb dX12_want_1 (by decide) ?_
  refine mp_0_0 C hW h fl_X12_3 dX12_want_2 (fun S1 H locs h hW => ?_)
  refine lv_iload_n hx hb dX12_want_5 rfl (lv_at hl 1 rfl) ?_
  refine zz_callSi (As := [.int x1]) C hW h (fun r hr => c_X12_isCode hr) lk_X12_142 rfl hl.1 ⟨rfl, rfl⟩ ⟨Nat.le_of_ble_eq_true rfl, Nat.le_of_ble_eq_true rfl⟩ (Nat.le_of_ble_eq_true rfl) ⟨Nat.zero_le _, Nat.zero_le _⟩ rfl dX12_want_6 (fun v3 S2 H locs h hW => ?_)
  refine zz_ieq (tgt := 21) C h dX12_want_9 (by decide) (fun h => ?_) (fun h => ?_)
  · exact w_X12_want_0_b21 (F := F) C h hW (lv_sub hl [] rfl)
  · refine lv_aload_n hx hb dX12_want_12 rfl (lv_at hl 0 rfl) ?_
    refine mg_0_9 C hW h fl_X12_145 dX12_want_13 (fun v4 h => ?_)
    refine lv_bipush (v := 6) hx hb dX12_want_16 (by decide) ?_
    refine zz_cne (tgt := 23) C h dX12_want_18 (by decide) (fun h => ?_) (fun h => ?_)
    · refine lv_aload_n hx hb dX12_want_23 rfl (lv_at hl 0 rfl) ?_
      refine mg_0_10 C hW fl_X12_148 dX12_want_24 ?_
      refine lv_aload_n hx hb dX12_want_27 rfl (lv_at hl 0 rfl) ?_
      refine mg_0_9 C hW h fl_X12_145 dX12_want_28 (fun v5 h => ?_)
      refine lv_iload_n hx hb dX12_want_31 rfl (lv_at hl 1 rfl) ?_
      refine ms_4 C hW h dX12_want_32 (fun S6 H locs h hW => ?_)
      refine lv_aload_n hx hb dX12_want_33 rfl (lv_at hl 0 rfl) ?_
      refine lv_dup hx hb dX12_want_34 rfl ?_
      refine mg_0_9 C hW h fl_X12_145 dX12_want_35 (fun v7 h => ?_)
      refine lv_iconst (v := 1) hx hb dX12_want_38 (by decide) ?_
      refine lv_iadd hx hb dX12_want_39 ?_
      refine mp_0_9 C hW h fl_X12_145 dX12_want_40 (fun S8 H locs h hW => ?_)
      refine lv_aload_n hx hb dX12_want_43 rfl (lv_at hl 0 rfl) ?_
      refine mg_0_9 C hW h fl_X12_145 dX12_want_44 (fun v9 h => ?_)
      exact zz_iret C rfl h hW dX12_want_47
    · exact w_X12_want_0_b21 (F := F) C h hW (lv_sub hl [] rfl)
def n_X12_want_0 (F : Nat) (S : Zs) (x1 : Int32) : Option (Int32 × Zs) := n_X12_want_0_e F  S x1
theorem c_X12_want_0 {l : Launch} {D : va_G} {cs ad : Nat → Nat} {F : Nat} {S : Zs} {x1 : Int32} {q : (Int32 × Zs)} (h : n_X12_want_0 F S x1 = some q) : zMi l yX12_want cX12_want 2 (some .int) (zR 2 45) (mG D cs ad) [.ref (ad 0), .int x1] S q :=
  zz_enter (by decide) (Nat.le_of_ble_eq_true rfl) (fun p e s m below meth c ls C hW hl => w_X12_want_0_e (F := F) C h hW (lv_sub hl [0, 1] rfl))
def n_X12_forget_0_e (F : Nat)  (S : Zs)  : Option (Int32 × Zs) :=
  zpf S 0 (0 : Int32) (fun S1 => zgf S1 9 (fun v2 => zpf S1 9 (0 : Int32) (fun S3 => some (v2, S3))))
set_option maxRecDepth 20000 in
set_option maxHeartbeats 4000000 in
theorem w_X12_forget_0_e {F : Nat} {q : (Int32 × Zs)} {S : Zs}   {ls : Array Slot} {H : Heap} {locs : List Loc} (C : zC p s m args meth c cX12_forget 2 RX12 (some .int))  (h : n_X12_forget_0_e F  S  = some q) (hW : zW (mG D cs ad) s S H locs) (hl : lv_has ls 2 [(0, .ref (ad 0))]) : W p l e (zR 0 0) s m args below meth c H locs 0 0 (zQi (mG D cs ad) q below args s) (F0 m 0 ls []) := by
  unfold n_X12_forget_0_e at h
  obtain ⟨hx, hb, hml, hown, hts, hret, hlk⟩ := id C
  refine lv_aload_n hx hb dX12_forget_0 rfl (lv_at hl 0 rfl) ?_
  refine lv_iconst (v := 0) hx hb dX12_forget_1 (by decide) ?_
  refine mp_0_0 C hW h fl_X12_3 dX12_forget_2 (fun S1 H locs h hW => ?_)
  refine lv_aload_n hx hb dX12_forget_5 rfl (lv_at hl 0 rfl) ?_
  refine mg_0_9 C hW h fl_X12_145 dX12_forget_6 (fun v2 h => ?_)
  refine lv_istore_n (lv' := [(1, .int v2), (0, .ref (ad 0))]) hx hb dX12_forget_9 rfl hl (by decide) rfl (fun ls hl => ?_)
  refine lv_aload_n hx hb dX12_forget_10 rfl (lv_at hl 1 rfl) ?_
  refine lv_iconst (v := 0) hx hb dX12_forget_11 (by decide) ?_
  refine mp_0_9 C hW h fl_X12_145 dX12_forget_12 (fun S3 H locs h hW => ?_)
  refine lv_iload_n hx hb dX12_forget_15 rfl (lv_at hl 0 rfl) ?_
  exact zz_iret C rfl h hW dX12_forget_16
def n_X12_forget_0 (F : Nat) (S : Zs)  : Option (Int32 × Zs) := n_X12_forget_0_e F  S 
theorem c_X12_forget_0 {l : Launch} {D : va_G} {cs ad : Nat → Nat} {F : Nat} {S : Zs}  {q : (Int32 × Zs)} (h : n_X12_forget_0 F S  = some q) : zMi l yX12_forget cX12_forget 2 (some .int) (zR 0 0) (mG D cs ad) [.ref (ad 0)] S q :=
  zz_enter (by decide) (Nat.le_of_ble_eq_true rfl) (fun p e s m below meth c ls C hW hl => w_X12_forget_0_e (F := F) C h hW (lv_sub hl [0] rfl))
def n_J6_bitCount_0f7a4_m_e (F : Nat)  (S : Zs) (x0 : Int32) : Option (Int32 × Zs) :=
  zlet (x0 - (((x0.toUInt32 >>> ((1 : Int32).toUInt32 &&& Int32.toUInt32 31)).toInt32) &&& (1431655765 : Int32))) (fun v1 => zlet ((v1 &&& (858993459 : Int32)) + (((v1.toUInt32 >>> ((2 : Int32).toUInt32 &&& Int32.toUInt32 31)).toInt32) &&& (858993459 : Int32))) (fun v2 => zlet ((v2 + ((v2.toUInt32 >>> ((4 : Int32).toUInt32 &&& Int32.toUInt32 31)).toInt32)) &&& (252645135 : Int32)) (fun v3 => zlet (v3 + ((v3.toUInt32 >>> ((8 : Int32).toUInt32 &&& Int32.toUInt32 31)).toInt32)) (fun v4 => zlet (v4 + ((v4.toUInt32 >>> ((16 : Int32).toUInt32 &&& Int32.toUInt32 31)).toInt32)) (fun v5 => some ((v5 &&& (63 : Int32)), S))))))
set_option maxRecDepth 20000 in
set_option maxHeartbeats 4000000 in
theorem w_J6_bitCount_0f7a4_m_e {F : Nat} {q : (Int32 × Zs)} {S : Zs}  {x0 : Int32} {ls : Array Slot} {H : Heap} {locs : List Loc} (C : zC p s m args meth c cJ6_bitCount_0f7a4 1 RJ6 (some .int))  (h : n_J6_bitCount_0f7a4_m_e F  S x0 = some q) (hW : zW (mG D cs ad) s S H locs) (hl : lv_has ls 1 [(0, .int x0)]) : W p l e (zR 0 0) s m args below meth c H locs 0 0 (zQi (mG D cs ad) q below args s) (F0 m 0 ls []) := by
  unfold n_J6_bitCount_0f7a4_m_e at h
  obtain ⟨hx, hb, hml, hown, hts, hret, hlk⟩ := id C
  refine lv_iload_n hx hb dJ6_bitCount_0f7a4_0 rfl (lv_at hl 0 rfl) ?_
  refine lv_iload_n hx hb dJ6_bitCount_0f7a4_1 rfl (lv_at hl 0 rfl) ?_
  refine lv_iconst (v := 1) hx hb dJ6_bitCount_0f7a4_2 (by decide) ?_
  refine lv_iushr hx hb dJ6_bitCount_0f7a4_3 rfl ?_
  refine lv_ldcw (v := 1431655765) hx hb hown (hts _ ct_J6_265) dJ6_bitCount_0f7a4_4 ?_
  refine lv_iand hx hb dJ6_bitCount_0f7a4_7 ?_
  refine lv_isub hx hb dJ6_bitCount_0f7a4_8 ?_
  refine zz_leti h (fun v1 h => ?_)
  refine lv_istore_n (lv' := [(0, .int v1)]) hx hb dJ6_bitCount_0f7a4_9 rfl hl (by decide) rfl (fun ls hl => ?_)
  refine lv_iload_n hx hb dJ6_bitCount_0f7a4_10 rfl (lv_at hl 0 rfl) ?_
  refine lv_ldcw (v := 858993459) hx hb hown (hts _ ct_J6_266) dJ6_bitCount_0f7a4_11 ?_
  refine lv_iand hx hb dJ6_bitCount_0f7a4_14 ?_
  refine lv_iload_n hx hb dJ6_bitCount_0f7a4_15 rfl (lv_at hl 0 rfl) ?_
  refine lv_iconst (v := 2) hx hb dJ6_bitCount_0f7a4_16 (by decide) ?_
  refine lv_iushr hx hb dJ6_bitCount_0f7a4_17 rfl ?_
  refine lv_ldcw (v := 858993459) hx hb hown (hts _ ct_J6_266) dJ6_bitCount_0f7a4_18 ?_
  refine lv_iand hx hb dJ6_bitCount_0f7a4_21 ?_
  refine lv_iadd hx hb dJ6_bitCount_0f7a4_22 ?_
  refine zz_leti h (fun v2 h => ?_)
  refine lv_istore_n (lv' := [(0, .int v2)]) hx hb dJ6_bitCount_0f7a4_23 rfl hl (by decide) rfl (fun ls hl => ?_)
  refine lv_iload_n hx hb dJ6_bitCount_0f7a4_24 rfl (lv_at hl 0 rfl) ?_
  refine lv_iload_n hx hb dJ6_bitCount_0f7a4_25 rfl (lv_at hl 0 rfl) ?_
  refine lv_iconst (v := 4) hx hb dJ6_bitCount_0f7a4_26 (by decide) ?_
  refine lv_iushr hx hb dJ6_bitCount_0f7a4_27 rfl ?_
  refine lv_iadd hx hb dJ6_bitCount_0f7a4_28 ?_
  refine lv_ldcw (v := 252645135) hx hb hown (hts _ ct_J6_267) dJ6_bitCount_0f7a4_29 ?_
  refine lv_iand hx hb dJ6_bitCount_0f7a4_32 ?_
  refine zz_leti h (fun v3 h => ?_)
  refine lv_istore_n (lv' := [(0, .int v3)]) hx hb dJ6_bitCount_0f7a4_33 rfl hl (by decide) rfl (fun ls hl => ?_)
  refine lv_iload_n hx hb dJ6_bitCount_0f7a4_34 rfl (lv_at hl 0 rfl) ?_
  refine lv_iload_n hx hb dJ6_bitCount_0f7a4_35 rfl (lv_at hl 0 rfl) ?_
  refine lv_bipush (v := 8) hx hb dJ6_bitCount_0f7a4_36 (by decide) ?_
  refine lv_iushr hx hb dJ6_bitCount_0f7a4_38 rfl ?_
  refine lv_iadd hx hb dJ6_bitCount_0f7a4_39 ?_
  refine zz_leti h (fun v4 h => ?_)
  refine lv_istore_n (lv' := [(0, .int v4)]) hx hb dJ6_bitCount_0f7a4_40 rfl hl (by decide) rfl (fun ls hl => ?_)
  refine lv_iload_n hx hb dJ6_bitCount_0f7a4_41 rfl (lv_at hl 0 rfl) ?_
  refine lv_iload_n hx hb dJ6_bitCount_0f7a4_42 rfl (lv_at hl 0 rfl) ?_
  refine lv_bipush (v := 16) hx hb dJ6_bitCount_0f7a4_43 (by decide) ?_
  refine lv_iushr hx hb dJ6_bitCount_0f7a4_45 rfl ?_
  refine lv_iadd hx hb dJ6_bitCount_0f7a4_46 ?_
  refine zz_leti h (fun v5 h => ?_)
  refine lv_istore_n (lv' := [(0, .int v5)]) hx hb dJ6_bitCount_0f7a4_47 rfl hl (by decide) rfl (fun ls hl => ?_)
  refine lv_iload_n hx hb dJ6_bitCount_0f7a4_48 rfl (lv_at hl 0 rfl) ?_
  refine lv_bipush (v := 63) hx hb dJ6_bitCount_0f7a4_49 (by decide) ?_
  refine lv_iand hx hb dJ6_bitCount_0f7a4_51 ?_
  exact zz_iret C rfl h hW dJ6_bitCount_0f7a4_52
def n_J6_bitCount_0f7a4_m (F : Nat) (S : Zs) (x0 : Int32) : Option (Int32 × Zs) := n_J6_bitCount_0f7a4_m_e F  S x0
theorem c_J6_bitCount_0f7a4_m {l : Launch} {D : va_G} {cs ad : Nat → Nat} {F : Nat} {S : Zs} {x0 : Int32} {q : (Int32 × Zs)} (h : n_J6_bitCount_0f7a4_m F S x0 = some q) : zMi l yJ6_bitCount_0f7a4 cJ6_bitCount_0f7a4 1 (some .int) (zR 0 0) (mG D cs ad) [.int x0] S q :=
  zz_enter (by decide) (Nat.le_of_ble_eq_true rfl) (fun p e s m below meth c ls C hW hl => w_J6_bitCount_0f7a4_m_e (F := F) C h hW (lv_sub hl [0] rfl))
def n_X12_sheet_0_b23 (F : Nat)  (S : Zs)  : Option (Int32 × Zs) :=
  some ((-1 : Int32), S)
set_option maxRecDepth 20000 in
set_option maxHeartbeats 4000000 in
theorem w_X12_sheet_0_b23 {F : Nat} {q : (Int32 × Zs)} {S : Zs}   {ls : Array Slot} {H : Heap} {locs : List Loc} (C : zC p s m args meth c cX12_sheet 8 RX12 (some .int))  (h : n_X12_sheet_0_b23 F  S  = some q) (hW : zW (mG D cs ad) s S H locs) (hl : lv_has ls 8 []) : W p l e (zR 1 25) s m args below meth c H locs 0 0 (zQi (mG D cs ad) q below args s) (F0 m 23 ls []) := by
  unfold n_X12_sheet_0_b23 at h
  obtain ⟨hx, hb, hml, hown, hts, hret, hlk⟩ := id C
  refine lv_iconst (v := -1) hx hb dX12_sheet_23 (by decide) ?_
  exact zz_iret C rfl h hW dX12_sheet_24
def n_X12_sheet_0_b137 (F : Nat)  (S : Zs) (t0 : Int32) : Option (Int32 × Zs) :=
  some (t0, S)
set_option maxRecDepth 20000 in
set_option maxHeartbeats 4000000 in
theorem w_X12_sheet_0_b137 {F : Nat} {q : (Int32 × Zs)} {S : Zs}  {t0 : Int32} {ls : Array Slot} {H : Heap} {locs : List Loc} (C : zC p s m args meth c cX12_sheet 8 RX12 (some .int))  (h : n_X12_sheet_0_b137 F  S t0 = some q) (hW : zW (mG D cs ad) s S H locs) (hl : lv_has ls 8 []) : W p l e (zR 1 25) s m args below meth c H locs 0 0 (zQi (mG D cs ad) q below args s) (F0 m 137 ls [.int t0]) := by
  unfold n_X12_sheet_0_b137 at h
  obtain ⟨hx, hb, hml, hown, hts, hret, hlk⟩ := id C
  exact zz_iret C rfl h hW dX12_sheet_137
def n_X12_sheet_0_b120 (F : Nat)  (S : Zs) (x1 : Int32) : Option (Int32 × Zs) :=
  if x1 = (3 : Int32) then (n_X12_sheet_0_b137 F  S (-3 : Int32)) else (zgf S 8 (fun v1 => zcl (n_J6_bitCount_0f7a4_m F S v1) (fun v3 S2 => n_X12_sheet_0_b137 F  S2 v3)))
set_option maxRecDepth 20000 in
set_option maxHeartbeats 4000000 in
theorem w_X12_sheet_0_b120 {F : Nat} {q : (Int32 × Zs)} {S : Zs}  {x1 : Int32} {ls : Array Slot} {H : Heap} {locs : List Loc} (C : zC p s m args meth c cX12_sheet 8 RX12 (some .int))  (h : n_X12_sheet_0_b120 F  S x1 = some q) (hW : zW (mG D cs ad) s S H locs) (hl : lv_has ls 8 [(0, .ref (ad 0)), (1, .int x1)]) : W p l e (zR 1 25) s m args below meth c H locs 0 0 (zQi (mG D cs ad) q below args s) (F0 m 120 ls []) := by
  unfold n_X12_sheet_0_b120 at h
  obtain ⟨hx, hb, hml, hown, hts, hret, hlk⟩ := id C
  refine lv_iload_n hx hb dX12_sheet_120 rfl (lv_at hl 1 rfl) ?_
  refine lv_iconst (v := 3) hx hb dX12_sheet_121 (by decide) ?_
  refine zz_cne (tgt := 130) C h dX12_sheet_122 (by decide) (fun h => ?_) (fun h => ?_)
  · refine lv_aload_n hx hb dX12_sheet_130 rfl (lv_at hl 0 rfl) ?_
    refine mg_0_8 C hW h fl_X12_139 dX12_sheet_131 (fun v1 h => ?_)
    refine zz_callSi (As := [.int v1]) C hW h (fun r hr => c_J6_bitCount_0f7a4_m hr) lk_X12_151 rfl hl.1 ⟨rfl, rfl⟩ ⟨Nat.le_of_ble_eq_true rfl, Nat.le_of_ble_eq_true rfl⟩ (Nat.le_of_ble_eq_true rfl) ⟨Nat.zero_le _, Nat.zero_le _⟩ rfl dX12_sheet_134 (fun v3 S2 H locs h hW => ?_)
    exact w_X12_sheet_0_b137 (F := F) C h hW (lv_sub hl [] rfl)
  · refine lv_bipush (v := -3) hx hb dX12_sheet_125 (by decide) ?_
    refine lv_goto (tgt := 137) hx hb dX12_sheet_127 (by decide) ?_
    exact w_X12_sheet_0_b137 (F := F) C h hW (lv_sub hl [] rfl)
def n_X12_sheet_0_b101 (F : Nat) (rc48 : Zs → Int32 → Int32 → Int32 → Int32 → Int32 → Option (Int32 × Zs)) (S : Zs) (x1 : Int32) (x2 : Int32) (x4 : Int32) (x5 : Int32) (x6 : Int32) (t0 : Int32) (t1 : Int32) (t2 : Int32) : Option (Int32 × Zs) :=
  zcl (n_X12_with F S t2 t1 t0) (fun v2 S1 => zpf S1 8 v2 (fun S3 => zlet (x5 + x4) (fun v4 => zlet (x6 + (1 : Int32)) (fun v5 => rc48 S3 x1 x2 x4 v4 v5))))
set_option maxRecDepth 20000 in
set_option maxHeartbeats 4000000 in
theorem w_X12_sheet_0_b101 {F : Nat} {q : (Int32 × Zs)} {S : Zs} {rc48 : Zs → Int32 → Int32 → Int32 → Int32 → Int32 → Option (Int32 × Zs)} {x1 : Int32} {x2 : Int32} {x4 : Int32} {x5 : Int32} {x6 : Int32} {t0 : Int32} {t1 : Int32} {t2 : Int32} {ls : Array Slot} {H : Heap} {locs : List Loc} (C : zC p s m args meth c cX12_sheet 8 RX12 (some .int)) (hrc48 : ∀ (S : Zs) (x1 : Int32) (x2 : Int32) (x4 : Int32) (x5 : Int32) (x6 : Int32) (H : Heap) (locs : List Loc) (ls : Array Slot), rc48 S x1 x2 x4 x5 x6 = some q → zW (mG D cs ad) s S H locs → lv_has ls 8 [(0, .ref (ad 0)), (1, .int x1), (2, .int x2), (4, .int x4), (5, .int x5), (6, .int x6)] → W p l e (zR 1 25) s m args below meth c H locs 0 0 (zQi (mG D cs ad) q below args s) (F0 m 48 ls [])) (h : n_X12_sheet_0_b101 F rc48 S x1 x2 x4 x5 x6 t0 t1 t2 = some q) (hW : zW (mG D cs ad) s S H locs) (hl : lv_has ls 8 [(0, .ref (ad 0)), (1, .int x1), (2, .int x2), (4, .int x4), (5, .int x5), (6, .int x6)]) : W p l e (zR 1 25) s m args below meth c H locs 0 0 (zQi (mG D cs ad) q below args s) (F0 m 101 ls [.int t0, .int t1, .int t2, .ref (ad 0)]) := by
  unfold n_X12_sheet_0_b101 at h
  obtain ⟨hx, hb, hml, hown, hts, hret, hlk⟩ := id C
  refine zz_callSi (As := [.int t2, .int t1, .int t0]) C hW h (fun r hr => c_X12_with hr) lk_X12_133 rfl hl.1 ⟨rfl, rfl⟩ ⟨Nat.le_of_ble_eq_true rfl, Nat.le_of_ble_eq_true rfl⟩ (Nat.le_of_ble_eq_true rfl) ⟨Nat.zero_le _, Nat.zero_le _⟩ rfl dX12_sheet_101 (fun v2 S1 H locs h hW => ?_)
  refine mp_0_8 C hW h fl_X12_139 dX12_sheet_104 (fun S3 H locs h hW => ?_)
  refine lv_iload hx hb dX12_sheet_107 (lv_at hl 4 rfl) ?_
  refine lv_iload hx hb dX12_sheet_109 (lv_at hl 3 rfl) ?_
  refine lv_iadd hx hb dX12_sheet_111 ?_
  refine zz_leti h (fun v4 h => ?_)
  refine lv_istore (lv' := [(5, .int v4), (0, .ref (ad 0)), (1, .int x1), (2, .int x2), (4, .int x4), (6, .int x6)]) hx hb dX12_sheet_112 hl (by decide) rfl (fun ls hl => ?_)
  obtain ⟨v5, ev5, h⟩ := zz_name h
  refine lv_iinc (v := v5) (lv' := [(6, .int v5), (5, .int v4), (0, .ref (ad 0)), (1, .int x1), (2, .int x2), (4, .int x4)]) hx hb dX12_sheet_114 hl (k := 5) rfl ev5.symm (by decide) rfl (fun ls hl => ?_)
  refine lv_goto (tgt := 48) hx hb dX12_sheet_117 (by decide) ?_
  exact hrc48 _ _ _ _ _ _ _ _ _ h hW (lv_sub hl [2, 3, 4, 5, 1, 0] rfl)
def n_X12_sheet_0_b82 (F : Nat) (rc48 : Zs → Int32 → Int32 → Int32 → Int32 → Int32 → Option (Int32 × Zs)) (S : Zs) (x1 : Int32) (x2 : Int32) (x4 : Int32) (x5 : Int32) (x6 : Int32) (t0 : Int32) : Option (Int32 × Zs) :=
  zgf S 8 (fun v1 => if t0 ≤ 0 then (n_X12_sheet_0_b101 F rc48 S x1 x2 x4 x5 x6 (0 : Int32) x6 v1) else (n_X12_sheet_0_b101 F rc48 S x1 x2 x4 x5 x6 (1 : Int32) x6 v1))
set_option maxRecDepth 20000 in
set_option maxHeartbeats 4000000 in
theorem w_X12_sheet_0_b82 {F : Nat} {q : (Int32 × Zs)} {S : Zs} {rc48 : Zs → Int32 → Int32 → Int32 → Int32 → Int32 → Option (Int32 × Zs)} {x1 : Int32} {x2 : Int32} {x4 : Int32} {x5 : Int32} {x6 : Int32} {t0 : Int32} {ls : Array Slot} {H : Heap} {locs : List Loc} (C : zC p s m args meth c cX12_sheet 8 RX12 (some .int)) (hrc48 : ∀ (S : Zs) (x1 : Int32) (x2 : Int32) (x4 : Int32) (x5 : Int32) (x6 : Int32) (H : Heap) (locs : List Loc) (ls : Array Slot), rc48 S x1 x2 x4 x5 x6 = some q → zW (mG D cs ad) s S H locs → lv_has ls 8 [(0, .ref (ad 0)), (1, .int x1), (2, .int x2), (4, .int x4), (5, .int x5), (6, .int x6)] → W p l e (zR 1 25) s m args below meth c H locs 0 0 (zQi (mG D cs ad) q below args s) (F0 m 48 ls [])) (h : n_X12_sheet_0_b82 F rc48 S x1 x2 x4 x5 x6 t0 = some q) (hW : zW (mG D cs ad) s S H locs) (hl : lv_has ls 8 [(0, .ref (ad 0)), (1, .int x1), (2, .int x2), (4, .int x4), (5, .int x5), (6, .int x6)]) : W p l e (zR 1 25) s m args below meth c H locs 0 0 (zQi (mG D cs ad) q below args s) (F0 m 82 ls [.int t0]) := by
  unfold n_X12_sheet_0_b82 at h
  obtain ⟨hx, hb, hml, hown, hts, hret, hlk⟩ := id C
  refine lv_istore (lv' := [(7, .int t0), (0, .ref (ad 0)), (1, .int x1), (2, .int x2), (4, .int x4), (5, .int x5), (6, .int x6)]) hx hb dX12_sheet_82 hl (by decide) rfl (fun ls hl => ?_)
  refine lv_aload_n hx hb dX12_sheet_84 rfl (lv_at hl 1 rfl) ?_
  refine lv_aload_n hx hb dX12_sheet_85 rfl (lv_at hl 1 rfl) ?_
  refine mg_0_8 C hW h fl_X12_139 dX12_sheet_86 (fun v1 h => ?_)
  refine lv_iload hx hb dX12_sheet_89 (lv_at hl 6 rfl) ?_
  refine lv_iload hx hb dX12_sheet_91 (lv_at hl 0 rfl) ?_
  refine zz_ile (tgt := 100) C h dX12_sheet_93 (by decide) (fun h => ?_) (fun h => ?_)
  · refine lv_iconst (v := 0) hx hb dX12_sheet_100 (by decide) ?_
    exact w_X12_sheet_0_b101 (F := F) C hrc48 h hW (lv_sub hl [1, 2, 3, 4, 5, 6] rfl)
  · refine lv_iconst (v := 1) hx hb dX12_sheet_96 (by decide) ?_
    refine lv_goto (tgt := 101) hx hb dX12_sheet_97 (by decide) ?_
    exact w_X12_sheet_0_b101 (F := F) C hrc48 h hW (lv_sub hl [1, 2, 3, 4, 5, 6] rfl)
def n_X12_sheet_0_b48_l (F : Nat) (rc48 : Zs → Int32 → Int32 → Int32 → Int32 → Int32 → Option (Int32 × Zs)) (S : Zs) (x1 : Int32) (x2 : Int32) (x4 : Int32) (x5 : Int32) (x6 : Int32) : Option (Int32 × Zs) :=
  if x2 ≤ x6 then (n_X12_sheet_0_b120 F  S x1) else (if x1 = (3 : Int32) then (n_X12_sheet_0_b120 F  S x1) else (if x1 = 0 then (n_X12_sheet_0_b82 F rc48 S x1 x2 x4 x5 x6 (x5.toInt8.toInt32)) else (if x1 = (1 : Int32) then (n_X12_sheet_0_b82 F rc48 S x1 x2 x4 x5 x6 (x5.toInt16.toInt32)) else (n_X12_sheet_0_b82 F rc48 S x1 x2 x4 x5 x6 x5))))
set_option maxRecDepth 20000 in
set_option maxHeartbeats 4000000 in
theorem w_X12_sheet_0_b48_l {F : Nat} {q : (Int32 × Zs)} {S : Zs} {rc48 : Zs → Int32 → Int32 → Int32 → Int32 → Int32 → Option (Int32 × Zs)} {x1 : Int32} {x2 : Int32} {x4 : Int32} {x5 : Int32} {x6 : Int32} {ls : Array Slot} {H : Heap} {locs : List Loc} (C : zC p s m args meth c cX12_sheet 8 RX12 (some .int)) (hrc48 : ∀ (S : Zs) (x1 : Int32) (x2 : Int32) (x4 : Int32) (x5 : Int32) (x6 : Int32) (H : Heap) (locs : List Loc) (ls : Array Slot), rc48 S x1 x2 x4 x5 x6 = some q → zW (mG D cs ad) s S H locs → lv_has ls 8 [(0, .ref (ad 0)), (1, .int x1), (2, .int x2), (4, .int x4), (5, .int x5), (6, .int x6)] → W p l e (zR 1 25) s m args below meth c H locs 0 0 (zQi (mG D cs ad) q below args s) (F0 m 48 ls [])) (h : n_X12_sheet_0_b48_l F rc48 S x1 x2 x4 x5 x6 = some q) (hW : zW (mG D cs ad) s S H locs) (hl : lv_has ls 8 [(0, .ref (ad 0)), (1, .int x1), (2, .int x2), (4, .int x4), (5, .int x5), (6, .int x6)]) : W p l e (zR 1 25) s m args below meth c H locs 0 0 (zQi (mG D cs ad) q below args s) (F0 m 48 ls []) := by
  unfold n_X12_sheet_0_b48_l at h
  obtain ⟨hx, hb, hml, hown, hts, hret, hlk⟩ := id C
  refine lv_iload hx hb dX12_sheet_48 (lv_at hl 5 rfl) ?_
  refine lv_iload_n hx hb dX12_sheet_50 rfl (lv_at hl 2 rfl) ?_
  refine zz_cge (tgt := 120) C h dX12_sheet_51 (by decide) (fun h => ?_) (fun h => ?_)
  · exact w_X12_sheet_0_b120 (F := F) C h hW (lv_sub hl [0, 1] rfl)
  · refine lv_iload_n hx hb dX12_sheet_54 rfl (lv_at hl 1 rfl) ?_
    refine lv_iconst (v := 3) hx hb dX12_sheet_55 (by decide) ?_
    refine zz_ceq (tgt := 120) C h dX12_sheet_56 (by decide) (fun h => ?_) (fun h => ?_)
    · exact w_X12_sheet_0_b120 (F := F) C h hW (lv_sub hl [0, 1] rfl)
    · refine lv_iload_n hx hb dX12_sheet_59 rfl (lv_at hl 1 rfl) ?_
      refine zz_ine (tgt := 69) C h dX12_sheet_60 (by decide) (fun h => ?_) (fun h => ?_)
      · refine lv_iload_n hx hb dX12_sheet_69 rfl (lv_at hl 1 rfl) ?_
        refine lv_iconst (v := 1) hx hb dX12_sheet_70 (by decide) ?_
        refine zz_cne (tgt := 80) C h dX12_sheet_71 (by decide) (fun h => ?_) (fun h => ?_)
        · refine lv_iload hx hb dX12_sheet_80 (lv_at hl 4 rfl) ?_
          exact w_X12_sheet_0_b82 (F := F) C hrc48 h hW (lv_sub hl [0, 1, 2, 3, 4, 5] rfl)
        · refine lv_iload hx hb dX12_sheet_74 (lv_at hl 4 rfl) ?_
          refine lv_i2s hx hb dX12_sheet_76 rfl ?_
          refine lv_goto (tgt := 82) hx hb dX12_sheet_77 (by decide) ?_
          exact w_X12_sheet_0_b82 (F := F) C hrc48 h hW (lv_sub hl [0, 1, 2, 3, 4, 5] rfl)
      · refine lv_iload hx hb dX12_sheet_63 (lv_at hl 4 rfl) ?_
        refine lv_i2b hx hb dX12_sheet_65 rfl ?_
        refine lv_goto (tgt := 82) hx hb dX12_sheet_66 (by decide) ?_
        exact w_X12_sheet_0_b82 (F := F) C hrc48 h hW (lv_sub hl [0, 1, 2, 3, 4, 5] rfl)
def n_X12_sheet_0_b48 (F : Nat)  (S : Zs) (x1 : Int32) (x2 : Int32) (x4 : Int32) (x5 : Int32) (x6 : Int32) : Option (Int32 × Zs) :=
  zfix (fun (rc : (Zs × Int32 × Int32 × Int32 × Int32 × Int32) → Option (Int32 × Zs)) (u : (Zs × Int32 × Int32 × Int32 × Int32 × Int32)) => n_X12_sheet_0_b48_l F  (fun S x1 x2 x4 x5 x6 => rc (S, x1, x2, x4, x5, x6)) u.1 u.2.1 u.2.2.1 u.2.2.2.1 u.2.2.2.2.1 u.2.2.2.2.2) F (S, x1, x2, x4, x5, x6)
theorem w_X12_sheet_0_b48 {F : Nat} {q : (Int32 × Zs)}  (C : zC p s m args meth c cX12_sheet 8 RX12 (some .int))  : ∀ (n : Nat) (S : Zs) (x1 : Int32) (x2 : Int32) (x4 : Int32) (x5 : Int32) (x6 : Int32) (H : Heap) (locs : List Loc) (ls : Array Slot), zfix (fun (rc : (Zs × Int32 × Int32 × Int32 × Int32 × Int32) → Option (Int32 × Zs)) (u : (Zs × Int32 × Int32 × Int32 × Int32 × Int32)) => n_X12_sheet_0_b48_l F  (fun S x1 x2 x4 x5 x6 => rc (S, x1, x2, x4, x5, x6)) u.1 u.2.1 u.2.2.1 u.2.2.2.1 u.2.2.2.2.1 u.2.2.2.2.2) n (S, x1, x2, x4, x5, x6) = some q → zW (mG D cs ad) s S H locs → lv_has ls 8 [(0, .ref (ad 0)), (1, .int x1), (2, .int x2), (4, .int x4), (5, .int x5), (6, .int x6)] → W p l e (zR 1 25) s m args below meth c H locs 0 0 (zQi (mG D cs ad) q below args s) (F0 m 48 ls []) := by
  intro n
  induction n with
  | zero => intro S x1 x2 x4 x5 x6 H locs ls h; exact absurd h (fun h => by cases h)
  | succ n ih => intro S x1 x2 x4 x5 x6 H locs ls h hW hl; exact w_X12_sheet_0_b48_l (F := F) C (fun S x1 x2 x4 x5 x6 H locs ls h hW hl => ih S x1 x2 x4 x5 x6 H locs ls h hW hl) h hW hl
def n_X12_sheet_0_b37 (F : Nat)  (S : Zs) (x1 : Int32) (x2 : Int32) (x3 : Int32) (x4 : Int32) : Option (Int32 × Zs) :=
  zpf S 8 (0 : Int32) (fun S1 => n_X12_sheet_0_b48 F  S1 x1 x2 x4 x3 (0 : Int32))
set_option maxRecDepth 20000 in
set_option maxHeartbeats 4000000 in
theorem w_X12_sheet_0_b37 {F : Nat} {q : (Int32 × Zs)} {S : Zs}  {x1 : Int32} {x2 : Int32} {x3 : Int32} {x4 : Int32} {ls : Array Slot} {H : Heap} {locs : List Loc} (C : zC p s m args meth c cX12_sheet 8 RX12 (some .int))  (h : n_X12_sheet_0_b37 F  S x1 x2 x3 x4 = some q) (hW : zW (mG D cs ad) s S H locs) (hl : lv_has ls 8 [(0, .ref (ad 0)), (1, .int x1), (2, .int x2), (3, .int x3), (4, .int x4)]) : W p l e (zR 1 25) s m args below meth c H locs 0 0 (zQi (mG D cs ad) q below args s) (F0 m 37 ls []) := by
  unfold n_X12_sheet_0_b37 at h
  obtain ⟨hx, hb, hml, hown, hts, hret, hlk⟩ := id C
  refine lv_aload_n hx hb dX12_sheet_37 rfl (lv_at hl 0 rfl) ?_
  refine lv_iconst (v := 0) hx hb dX12_sheet_38 (by decide) ?_
  refine mp_0_8 C hW h fl_X12_139 dX12_sheet_39 (fun S1 H locs h hW => ?_)
  refine lv_iload_n hx hb dX12_sheet_42 rfl (lv_at hl 3 rfl) ?_
  refine lv_istore (lv' := [(5, .int x3), (0, .ref (ad 0)), (1, .int x1), (2, .int x2), (3, .int x3), (4, .int x4)]) hx hb dX12_sheet_43 hl (by decide) rfl (fun ls hl => ?_)
  refine lv_iconst (v := 0) hx hb dX12_sheet_45 (by decide) ?_
  refine lv_istore (lv' := [(6, .int (0 : Int32)), (5, .int x3), (0, .ref (ad 0)), (1, .int x1), (2, .int x2), (3, .int x3), (4, .int x4)]) hx hb dX12_sheet_46 hl (by decide) rfl (fun ls hl => ?_)
  exact w_X12_sheet_0_b48 (F := F) C F _ _ _ _ _ _ _ _ _ h hW (lv_sub hl [2, 3, 4, 6, 1, 0] rfl)
def n_X12_sheet_0_e (F : Nat)  (S : Zs) (x1 : Int32) (x2 : Int32) (x3 : Int32) (x4 : Int32) : Option (Int32 × Zs) :=
  zpf S 0 (0 : Int32) (fun S1 => zcl (n_X12_in F S1 (x1.toInt64) (0 : Int64) (3 : Int64)) (fun v3 S2 => if v3 = 0 then (n_X12_sheet_0_b23 F  S2 ) else (if x2 ≤ (12 : Int32) then (if x1 = (3 : Int32) then (n_X12_sheet_0_b37 F  S2 x1 x2 x3 x4) else (if 0 ≤ x2 then (n_X12_sheet_0_b37 F  S2 x1 x2 x3 x4) else (some ((-2 : Int32), S2)))) else (n_X12_sheet_0_b23 F  S2 ))))
set_option maxRecDepth 20000 in
set_option maxHeartbeats 4000000 in
theorem w_X12_sheet_0_e {F : Nat} {q : (Int32 × Zs)} {S : Zs}  {x1 : Int32} {x2 : Int32} {x3 : Int32} {x4 : Int32} {ls : Array Slot} {H : Heap} {locs : List Loc} (C : zC p s m args meth c cX12_sheet 8 RX12 (some .int))  (h : n_X12_sheet_0_e F  S x1 x2 x3 x4 = some q) (hW : zW (mG D cs ad) s S H locs) (hl : lv_has ls 8 [(0, .ref (ad 0)), (1, .int x1), (2, .int x2), (3, .int x3), (4, .int x4)]) : W p l e (zR 1 25) s m args below meth c H locs 0 0 (zQi (mG D cs ad) q below args s) (F0 m 0 ls []) := by
  unfold n_X12_sheet_0_e at h
  obtain ⟨hx, hb, hml, hown, hts, hret, hlk⟩ := id C
  refine lv_aload_n hx hb dX12_sheet_0 rfl (lv_at hl 0 rfl) ?_
  refine lv_iconst (v := 0) hx hb dX12_sheet_1 (by decide) ?_
  refine mp_0_0 C hW h fl_X12_3 dX12_sheet_2 (fun S1 H locs h hW => ?_)
  refine lv_iload_n hx hb dX12_sheet_5 rfl (lv_at hl 1 rfl) ?_
  refine lv_i2l hx hb dX12_sheet_6 rfl ?_
  refine lv_lconst (v := 0) hx hb dX12_sheet_7 (by decide) ?_
  refine lv_ldc2 (v := 3) hx hb hown (hts _ ct_X12_121) dX12_sheet_8 ?_
  refine zz_callSi (As := [.long (x1.toInt64), .long (0 : Int64), .long (3 : Int64)]) C hW h (fun r hr => c_X12_in hr) lk_X12_16 rfl hl.1 ⟨rfl, rfl⟩ ⟨Nat.le_of_ble_eq_true rfl, Nat.le_of_ble_eq_true rfl⟩ (Nat.le_of_ble_eq_true rfl) ⟨Nat.zero_le _, Nat.zero_le _⟩ rfl dX12_sheet_11 (fun v3 S2 H locs h hW => ?_)
  refine zz_ieq (tgt := 23) C h dX12_sheet_14 (by decide) (fun h => ?_) (fun h => ?_)
  · exact w_X12_sheet_0_b23 (F := F) C h hW (lv_sub hl [] rfl)
  · refine lv_iload_n hx hb dX12_sheet_17 rfl (lv_at hl 2 rfl) ?_
    refine lv_bipush (v := 12) hx hb dX12_sheet_18 (by decide) ?_
    refine zz_cle (tgt := 25) C h dX12_sheet_20 (by decide) (fun h => ?_) (fun h => ?_)
    · refine lv_iload_n hx hb dX12_sheet_25 rfl (lv_at hl 1 rfl) ?_
      refine lv_iconst (v := 3) hx hb dX12_sheet_26 (by decide) ?_
      refine zz_ceq (tgt := 37) C h dX12_sheet_27 (by decide) (fun h => ?_) (fun h => ?_)
      · exact w_X12_sheet_0_b37 (F := F) C h hW (lv_sub hl [0, 1, 2, 3, 4] rfl)
      · refine lv_iload_n hx hb dX12_sheet_30 rfl (lv_at hl 2 rfl) ?_
        refine zz_ige (tgt := 37) C h dX12_sheet_31 (by decide) (fun h => ?_) (fun h => ?_)
        · exact w_X12_sheet_0_b37 (F := F) C h hW (lv_sub hl [0, 1, 2, 3, 4] rfl)
        · refine lv_bipush (v := -2) hx hb dX12_sheet_34 (by decide) ?_
          exact zz_iret C rfl h hW dX12_sheet_36
    · exact w_X12_sheet_0_b23 (F := F) C h hW (lv_sub hl [] rfl)
def n_X12_sheet_0 (F : Nat) (S : Zs) (x1 : Int32) (x2 : Int32) (x3 : Int32) (x4 : Int32) : Option (Int32 × Zs) := n_X12_sheet_0_e F  S x1 x2 x3 x4
theorem c_X12_sheet_0 {l : Launch} {D : va_G} {cs ad : Nat → Nat} {F : Nat} {S : Zs} {x1 : Int32} {x2 : Int32} {x3 : Int32} {x4 : Int32} {q : (Int32 × Zs)} (h : n_X12_sheet_0 F S x1 x2 x3 x4 = some q) : zMi l yX12_sheet cX12_sheet 8 (some .int) (zR 1 25) (mG D cs ad) [.ref (ad 0), .int x1, .int x2, .int x3, .int x4] S q :=
  zz_enter (by decide) (Nat.le_of_ble_eq_true rfl) (fun p e s m below meth c ls C hW hl => w_X12_sheet_0_e (F := F) C h hW (lv_sub hl [0, 1, 2, 3, 4] rfl))
def n_X12_standing_0_e (F : Nat)  (S : Zs)  : Option (Int32 × Zs) :=
  zgf S 3 (fun v1 => zgf S 7 (fun v2 => some (((((1 : Int32) <<< (v1 &&& 31)) - (1 : Int32)) &&& (v2 ^^^ (-1 : Int32))), S)))
set_option maxRecDepth 20000 in
set_option maxHeartbeats 4000000 in
theorem w_X12_standing_0_e {F : Nat} {q : (Int32 × Zs)} {S : Zs}   {ls : Array Slot} {H : Heap} {locs : List Loc} (C : zC p s m args meth c cX12_standing 1 RX12 (some .int))  (h : n_X12_standing_0_e F  S  = some q) (hW : zW (mG D cs ad) s S H locs) (hl : lv_has ls 1 [(0, .ref (ad 0))]) : W p l e (zR 0 0) s m args below meth c H locs 0 0 (zQi (mG D cs ad) q below args s) (F0 m 0 ls []) := by
  unfold n_X12_standing_0_e at h
  obtain ⟨hx, hb, hml, hown, hts, hret, hlk⟩ := id C
  refine lv_iconst (v := 1) hx hb dX12_standing_0 (by decide) ?_
  refine lv_aload_n hx hb dX12_standing_1 rfl (lv_at hl 0 rfl) ?_
  refine mg_0_3 C hW h fl_X12_105 dX12_standing_2 (fun v1 h => ?_)
  refine lv_ishl hx hb dX12_standing_5 ?_
  refine lv_iconst (v := 1) hx hb dX12_standing_6 (by decide) ?_
  refine lv_isub hx hb dX12_standing_7 ?_
  refine lv_aload_n hx hb dX12_standing_8 rfl (lv_at hl 0 rfl) ?_
  refine mg_0_7 C hW h fl_X12_126 dX12_standing_9 (fun v2 h => ?_)
  refine lv_iconst (v := -1) hx hb dX12_standing_12 (by decide) ?_
  refine lv_ixor hx hb dX12_standing_13 ?_
  refine lv_iand hx hb dX12_standing_14 ?_
  exact zz_iret C rfl h hW dX12_standing_15
def n_X12_standing_0 (F : Nat) (S : Zs)  : Option (Int32 × Zs) := n_X12_standing_0_e F  S 
theorem c_X12_standing_0 {l : Launch} {D : va_G} {cs ad : Nat → Nat} {F : Nat} {S : Zs}  {q : (Int32 × Zs)} (h : n_X12_standing_0 F S  = some q) : zMi l yX12_standing cX12_standing 1 (some .int) (zR 0 0) (mG D cs ad) [.ref (ad 0)] S q :=
  zz_enter (by decide) (Nat.le_of_ble_eq_true rfl) (fun p e s m below meth c ls C hW hl => w_X12_standing_0_e (F := F) C h hW (lv_sub hl [0] rfl))
def n_X12_lays_0_b48 (F : Nat) (rc7 : Zs → Int32 → Int32 → Option (Int32 × Zs)) (S : Zs) (x1 : Int32) (x2 : Int32) : Option (Int32 × Zs) :=
  zlet (x2 + (1 : Int32)) (fun v1 => rc7 S x1 v1)
set_option maxRecDepth 20000 in
set_option maxHeartbeats 4000000 in
theorem w_X12_lays_0_b48 {F : Nat} {q : (Int32 × Zs)} {S : Zs} {rc7 : Zs → Int32 → Int32 → Option (Int32 × Zs)} {x1 : Int32} {x2 : Int32} {ls : Array Slot} {H : Heap} {locs : List Loc} (C : zC p s m args meth c cX12_lays 3 RX12 none) (hrc7 : ∀ (S : Zs) (x1 : Int32) (x2 : Int32) (H : Heap) (locs : List Loc) (ls : Array Slot), rc7 S x1 x2 = some q → zW (mG D cs ad) s S H locs → lv_has ls 3 [(0, .ref (ad 0)), (1, .int x1), (2, .int x2)] → W p l e (zR 1 21) s m args below meth c H locs 0 0 (zQv (mG D cs ad) q below args s) (F0 m 7 ls [])) (h : n_X12_lays_0_b48 F rc7 S x1 x2 = some q) (hW : zW (mG D cs ad) s S H locs) (hl : lv_has ls 3 [(0, .ref (ad 0)), (1, .int x1), (2, .int x2)]) : W p l e (zR 1 21) s m args below meth c H locs 0 0 (zQv (mG D cs ad) q below args s) (F0 m 48 ls []) := by
  unfold n_X12_lays_0_b48 at h
  obtain ⟨hx, hb, hml, hown, hts, hret, hlk⟩ := id C
  obtain ⟨v1, ev1, h⟩ := zz_name h
  refine lv_iinc (v := v1) (lv' := [(2, .int v1), (0, .ref (ad 0)), (1, .int x1)]) hx hb dX12_lays_48 hl (k := 2) rfl ev1.symm (by decide) rfl (fun ls hl => ?_)
  refine lv_goto (tgt := 7) hx hb dX12_lays_51 (by decide) ?_
  exact hrc7 _ _ _ _ _ _ h hW (lv_sub hl [1, 2, 0] rfl)
def n_X12_lays_0_b7_l (F : Nat) (rc7 : Zs → Int32 → Int32 → Option (Int32 × Zs)) (S : Zs) (x1 : Int32) (x2 : Int32) : Option (Int32 × Zs) :=
  zgf S 3 (fun v1 => if v1 ≤ x2 then (some (0, S)) else (zcl (n_X12_has F S x1 x2) (fun v3 S2 => if v3 = 0 then (n_X12_lays_0_b48 F rc7 S2 x1 x2) else (zgf S2 18 (fun v4 => zld S2 2 16 x2 (fun v5 => zst S2 6 18 v4 v5 (fun S6 => zgf S6 18 (fun v7 => zpf S6 18 (v7 + (1 : Int32)) (fun S8 => n_X12_lays_0_b48 F rc7 S8 x1 x2)))))))))
set_option maxRecDepth 20000 in
set_option maxHeartbeats 4000000 in
theorem w_X12_lays_0_b7_l {F : Nat} {q : (Int32 × Zs)} {S : Zs} {rc7 : Zs → Int32 → Int32 → Option (Int32 × Zs)} {x1 : Int32} {x2 : Int32} {ls : Array Slot} {H : Heap} {locs : List Loc} (C : zC p s m args meth c cX12_lays 3 RX12 none) (hrc7 : ∀ (S : Zs) (x1 : Int32) (x2 : Int32) (H : Heap) (locs : List Loc) (ls : Array Slot), rc7 S x1 x2 = some q → zW (mG D cs ad) s S H locs → lv_has ls 3 [(0, .ref (ad 0)), (1, .int x1), (2, .int x2)] → W p l e (zR 1 21) s m args below meth c H locs 0 0 (zQv (mG D cs ad) q below args s) (F0 m 7 ls [])) (h : n_X12_lays_0_b7_l F rc7 S x1 x2 = some q) (hW : zW (mG D cs ad) s S H locs) (hl : lv_has ls 3 [(0, .ref (ad 0)), (1, .int x1), (2, .int x2)]) : W p l e (zR 1 21) s m args below meth c H locs 0 0 (zQv (mG D cs ad) q below args s) (F0 m 7 ls []) := by
  unfold n_X12_lays_0_b7_l at h
  obtain ⟨hx, hb, hml, hown, hts, hret, hlk⟩ := id C
  refine lv_iload_n hx hb dX12_lays_7 rfl (lv_at hl 2 rfl) ?_
  refine lv_aload_n hx hb dX12_lays_8 rfl (lv_at hl 0 rfl) ?_
  refine mg_0_3 C hW h fl_X12_105 dX12_lays_9 (fun v1 h => ?_)
  refine zz_cge (tgt := 54) C h dX12_lays_12 (by decide) (fun h => ?_) (fun h => ?_)
  · exact zz_vret C rfl h hW dX12_lays_54
  · refine lv_iload_n hx hb dX12_lays_15 rfl (lv_at hl 1 rfl) ?_
    refine lv_iload_n hx hb dX12_lays_16 rfl (lv_at hl 2 rfl) ?_
    refine zz_callSi (As := [.int x1, .int x2]) C hW h (fun r hr => c_X12_has hr) lk_X12_129 rfl hl.1 ⟨rfl, rfl⟩ ⟨Nat.le_of_ble_eq_true rfl, Nat.le_of_ble_eq_true rfl⟩ (Nat.le_of_ble_eq_true rfl) ⟨Nat.zero_le _, Nat.zero_le _⟩ rfl dX12_lays_17 (fun v3 S2 H locs h hW => ?_)
    refine zz_ieq (tgt := 48) C h dX12_lays_20 (by decide) (fun h => ?_) (fun h => ?_)
    · exact w_X12_lays_0_b48 (F := F) C hrc7 h hW (lv_sub hl [0, 1, 2] rfl)
    · refine lv_aload_n hx hb dX12_lays_23 rfl (lv_at hl 0 rfl) ?_
      refine mg_0_17 C hW fl_X12_159 dX12_lays_24 ?_
      refine lv_aload_n hx hb dX12_lays_27 rfl (lv_at hl 0 rfl) ?_
      refine mg_0_18 C hW h fl_X12_156 dX12_lays_28 (fun v4 h => ?_)
      refine lv_aload_n hx hb dX12_lays_31 rfl (lv_at hl 0 rfl) ?_
      refine mg_0_4 C hW fl_X12_87 dX12_lays_32 ?_
      refine lv_iload_n hx hb dX12_lays_35 rfl (lv_at hl 2 rfl) ?_
      refine ml_2 C hW h dX12_lays_36 (fun v5 h => ?_)
      refine ms_6 C hW h dX12_lays_37 (fun S6 H locs h hW => ?_)
      refine lv_aload_n hx hb dX12_lays_38 rfl (lv_at hl 0 rfl) ?_
      refine lv_dup hx hb dX12_lays_39 rfl ?_
      refine mg_0_18 C hW h fl_X12_156 dX12_lays_40 (fun v7 h => ?_)
      refine lv_iconst (v := 1) hx hb dX12_lays_43 (by decide) ?_
      refine lv_iadd hx hb dX12_lays_44 ?_
      refine mp_0_18 C hW h fl_X12_156 dX12_lays_45 (fun S8 H locs h hW => ?_)
      exact w_X12_lays_0_b48 (F := F) C hrc7 h hW (lv_sub hl [0, 1, 2] rfl)
def n_X12_lays_0_b7 (F : Nat)  (S : Zs) (x1 : Int32) (x2 : Int32) : Option (Int32 × Zs) :=
  zfix (fun (rc : (Zs × Int32 × Int32) → Option (Int32 × Zs)) (u : (Zs × Int32 × Int32)) => n_X12_lays_0_b7_l F  (fun S x1 x2 => rc (S, x1, x2)) u.1 u.2.1 u.2.2) F (S, x1, x2)
theorem w_X12_lays_0_b7 {F : Nat} {q : (Int32 × Zs)}  (C : zC p s m args meth c cX12_lays 3 RX12 none)  : ∀ (n : Nat) (S : Zs) (x1 : Int32) (x2 : Int32) (H : Heap) (locs : List Loc) (ls : Array Slot), zfix (fun (rc : (Zs × Int32 × Int32) → Option (Int32 × Zs)) (u : (Zs × Int32 × Int32)) => n_X12_lays_0_b7_l F  (fun S x1 x2 => rc (S, x1, x2)) u.1 u.2.1 u.2.2) n (S, x1, x2) = some q → zW (mG D cs ad) s S H locs → lv_has ls 3 [(0, .ref (ad 0)), (1, .int x1), (2, .int x2)] → W p l e (zR 1 21) s m args below meth c H locs 0 0 (zQv (mG D cs ad) q below args s) (F0 m 7 ls []) := by
  intro n
  induction n with
  | zero => intro S x1 x2 H locs ls h; exact absurd h (fun h => by cases h)
  | succ n ih => intro S x1 x2 H locs ls h hW hl; exact w_X12_lays_0_b7_l (F := F) C (fun S x1 x2 H locs ls h hW hl => ih S x1 x2 H locs ls h hW hl) h hW hl
def n_X12_lays_0_e (F : Nat)  (S : Zs) (x1 : Int32) : Option (Int32 × Zs) :=
  zpf S 18 (0 : Int32) (fun S1 => n_X12_lays_0_b7 F  S1 x1 (0 : Int32))
set_option maxRecDepth 20000 in
set_option maxHeartbeats 4000000 in
theorem w_X12_lays_0_e {F : Nat} {q : (Int32 × Zs)} {S : Zs}  {x1 : Int32} {ls : Array Slot} {H : Heap} {locs : List Loc} (C : zC p s m args meth c cX12_lays 3 RX12 none)  (h : n_X12_lays_0_e F  S x1 = some q) (hW : zW (mG D cs ad) s S H locs) (hl : lv_has ls 3 [(0, .ref (ad 0)), (1, .int x1)]) : W p l e (zR 1 21) s m args below meth c H locs 0 0 (zQv (mG D cs ad) q below args s) (F0 m 0 ls []) := by
  unfold n_X12_lays_0_e at h
  obtain ⟨hx, hb, hml, hown, hts, hret, hlk⟩ := id C
  refine lv_aload_n hx hb dX12_lays_0 rfl (lv_at hl 0 rfl) ?_
  refine lv_iconst (v := 0) hx hb dX12_lays_1 (by decide) ?_
  refine mp_0_18 C hW h fl_X12_156 dX12_lays_2 (fun S1 H locs h hW => ?_)
  refine lv_iconst (v := 0) hx hb dX12_lays_5 (by decide) ?_
  refine lv_istore_n (lv' := [(2, .int (0 : Int32)), (0, .ref (ad 0)), (1, .int x1)]) hx hb dX12_lays_6 rfl hl (by decide) rfl (fun ls hl => ?_)
  exact w_X12_lays_0_b7 (F := F) C F _ _ _ _ _ _ h hW (lv_sub hl [1, 2, 0] rfl)
def n_X12_lays_0 (F : Nat) (S : Zs) (x1 : Int32) : Option (Int32 × Zs) := n_X12_lays_0_e F  S x1
theorem c_X12_lays_0 {l : Launch} {D : va_G} {cs ad : Nat → Nat} {F : Nat} {S : Zs} {x1 : Int32} {q : (Int32 × Zs)} (h : n_X12_lays_0 F S x1 = some q) : zMv l yX12_lays cX12_lays 3 none (zR 1 21) (mG D cs ad) [.ref (ad 0), .int x1] S q :=
  zz_enter (by decide) (Nat.le_of_ble_eq_true rfl) (fun p e s m below meth c ls C hW hl => w_X12_lays_0_e (F := F) C h hW (lv_sub hl [0, 1] rfl))
def n_X12_laysMore_0_e (F : Nat)  (S : Zs) (x1 : Int32) : Option (Int32 × Zs) :=
  zgf S 18 (fun v1 => zst S 6 18 v1 x1 (fun S2 => zgf S2 18 (fun v3 => zpf S2 18 (v3 + (1 : Int32)) (fun S4 => some (0, S4)))))
set_option maxRecDepth 20000 in
set_option maxHeartbeats 4000000 in
theorem w_X12_laysMore_0_e {F : Nat} {q : (Int32 × Zs)} {S : Zs}  {x1 : Int32} {ls : Array Slot} {H : Heap} {locs : List Loc} (C : zC p s m args meth c cX12_laysMore 2 RX12 none)  (h : n_X12_laysMore_0_e F  S x1 = some q) (hW : zW (mG D cs ad) s S H locs) (hl : lv_has ls 2 [(0, .ref (ad 0)), (1, .int x1)]) : W p l e (zR 0 0) s m args below meth c H locs 0 0 (zQv (mG D cs ad) q below args s) (F0 m 0 ls []) := by
  unfold n_X12_laysMore_0_e at h
  obtain ⟨hx, hb, hml, hown, hts, hret, hlk⟩ := id C
  refine lv_aload_n hx hb dX12_laysMore_0 rfl (lv_at hl 0 rfl) ?_
  refine mg_0_17 C hW fl_X12_159 dX12_laysMore_1 ?_
  refine lv_aload_n hx hb dX12_laysMore_4 rfl (lv_at hl 0 rfl) ?_
  refine mg_0_18 C hW h fl_X12_156 dX12_laysMore_5 (fun v1 h => ?_)
  refine lv_iload_n hx hb dX12_laysMore_8 rfl (lv_at hl 1 rfl) ?_
  refine ms_6 C hW h dX12_laysMore_9 (fun S2 H locs h hW => ?_)
  refine lv_aload_n hx hb dX12_laysMore_10 rfl (lv_at hl 0 rfl) ?_
  refine lv_dup hx hb dX12_laysMore_11 rfl ?_
  refine mg_0_18 C hW h fl_X12_156 dX12_laysMore_12 (fun v3 h => ?_)
  refine lv_iconst (v := 1) hx hb dX12_laysMore_15 (by decide) ?_
  refine lv_iadd hx hb dX12_laysMore_16 ?_
  refine mp_0_18 C hW h fl_X12_156 dX12_laysMore_17 (fun S4 H locs h hW => ?_)
  exact zz_vret C rfl h hW dX12_laysMore_20
def n_X12_laysMore_0 (F : Nat) (S : Zs) (x1 : Int32) : Option (Int32 × Zs) := n_X12_laysMore_0_e F  S x1
theorem c_X12_laysMore_0 {l : Launch} {D : va_G} {cs ad : Nat → Nat} {F : Nat} {S : Zs} {x1 : Int32} {q : (Int32 × Zs)} (h : n_X12_laysMore_0 F S x1 = some q) : zMv l yX12_laysMore cX12_laysMore 2 none (zR 0 0) (mG D cs ad) [.ref (ad 0), .int x1] S q :=
  zz_enter (by decide) (Nat.le_of_ble_eq_true rfl) (fun p e s m below meth c ls C hW hl => w_X12_laysMore_0_e (F := F) C h hW (lv_sub hl [0, 1] rfl))
def n_X12_isOfAll_b13 (F : Nat)  (S : Zs) (t0 : Int32) : Option (Int32 × Zs) :=
  zrb t0 S
set_option maxRecDepth 20000 in
set_option maxHeartbeats 4000000 in
theorem w_X12_isOfAll_b13 {F : Nat} {q : (Int32 × Zs)} {S : Zs}  {t0 : Int32} {ls : Array Slot} {H : Heap} {locs : List Loc} (C : zC p s m args meth c cX12_isOfAll 1 RX12 (some .boolean))  (h : n_X12_isOfAll_b13 F  S t0 = some q) (hW : zW (mG D cs ad) s S H locs) (hl : lv_has ls 1 []) : W p l e (zR 1 20) s m args below meth c H locs 0 0 (zQi (mG D cs ad) q below args s) (F0 m 13 ls [.int t0]) := by
  unfold n_X12_isOfAll_b13 at h
  obtain ⟨hx, hb, hml, hown, hts, hret, hlk⟩ := id C
  exact zz_zret C rfl h hW dX12_isOfAll_13
def n_X12_isOfAll_e (F : Nat)  (S : Zs) (x0 : Int32) : Option (Int32 × Zs) :=
  zcl (n_X12_formOf F S x0) (fun v2 S1 => if (2 : Int32) ≤ v2 then (n_X12_isOfAll_b13 F  S1 (0 : Int32)) else (n_X12_isOfAll_b13 F  S1 (1 : Int32)))
set_option maxRecDepth 20000 in
set_option maxHeartbeats 4000000 in
theorem w_X12_isOfAll_e {F : Nat} {q : (Int32 × Zs)} {S : Zs}  {x0 : Int32} {ls : Array Slot} {H : Heap} {locs : List Loc} (C : zC p s m args meth c cX12_isOfAll 1 RX12 (some .boolean))  (h : n_X12_isOfAll_e F  S x0 = some q) (hW : zW (mG D cs ad) s S H locs) (hl : lv_has ls 1 [(0, .int x0)]) : W p l e (zR 1 20) s m args below meth c H locs 0 0 (zQi (mG D cs ad) q below args s) (F0 m 0 ls []) := by
  unfold n_X12_isOfAll_e at h
  obtain ⟨hx, hb, hml, hown, hts, hret, hlk⟩ := id C
  refine lv_iload_n hx hb dX12_isOfAll_0 rfl (lv_at hl 0 rfl) ?_
  refine zz_callSi (As := [.int x0]) C hW h (fun r hr => c_X12_formOf hr) lk_X12_20 rfl hl.1 ⟨rfl, rfl⟩ ⟨Nat.le_of_ble_eq_true rfl, Nat.le_of_ble_eq_true rfl⟩ (Nat.le_of_ble_eq_true rfl) ⟨Nat.zero_le _, Nat.zero_le _⟩ rfl dX12_isOfAll_1 (fun v2 S1 H locs h hW => ?_)
  refine lv_iconst (v := 2) hx hb dX12_isOfAll_4 (by decide) ?_
  refine zz_cge (tgt := 12) C h dX12_isOfAll_5 (by decide) (fun h => ?_) (fun h => ?_)
  · refine lv_iconst (v := 0) hx hb dX12_isOfAll_12 (by decide) ?_
    exact w_X12_isOfAll_b13 (F := F) C h hW (lv_sub hl [] rfl)
  · refine lv_iconst (v := 1) hx hb dX12_isOfAll_8 (by decide) ?_
    refine lv_goto (tgt := 13) hx hb dX12_isOfAll_9 (by decide) ?_
    exact w_X12_isOfAll_b13 (F := F) C h hW (lv_sub hl [] rfl)
def n_X12_isOfAll (F : Nat) (S : Zs) (x0 : Int32) : Option (Int32 × Zs) := n_X12_isOfAll_e F  S x0
theorem c_X12_isOfAll {l : Launch} {D : va_G} {cs ad : Nat → Nat} {F : Nat} {S : Zs} {x0 : Int32} {q : (Int32 × Zs)} (h : n_X12_isOfAll F S x0 = some q) : zMi l yX12_isOfAll cX12_isOfAll 1 (some .boolean) (zR 1 20) (mG D cs ad) [.int x0] S q :=
  zz_enter (by decide) (Nat.le_of_ble_eq_true rfl) (fun p e s m below meth c ls C hW hl => w_X12_isOfAll_e (F := F) C h hW (lv_sub hl [0] rfl))
def n_X12_bars_0_e (F : Nat)  (S : Zs) (x1 : Int32) (x2 : Int32) : Option (Int32 × Zs) :=
  zld S 7 24 x1 (fun v1 => zst S 7 24 x1 (v1 ||| ((1 : Int32) <<< ((x2 ^^^ (1 : Int32)) &&& 31))) (fun S2 => zld S2 7 24 x2 (fun v3 => zst S2 7 24 x2 (v3 ||| ((1 : Int32) <<< ((x1 ^^^ (1 : Int32)) &&& 31))) (fun S4 => some (0, S4)))))
set_option maxRecDepth 20000 in
set_option maxHeartbeats 4000000 in
theorem w_X12_bars_0_e {F : Nat} {q : (Int32 × Zs)} {S : Zs}  {x1 : Int32} {x2 : Int32} {ls : Array Slot} {H : Heap} {locs : List Loc} (C : zC p s m args meth c cX12_bars 3 RX12 none)  (h : n_X12_bars_0_e F  S x1 x2 = some q) (hW : zW (mG D cs ad) s S H locs) (hl : lv_has ls 3 [(0, .ref (ad 0)), (1, .int x1), (2, .int x2)]) : W p l e (zR 0 0) s m args below meth c H locs 0 0 (zQv (mG D cs ad) q below args s) (F0 m 0 ls []) := by
  unfold n_X12_bars_0_e at h
  obtain ⟨hx, hb, hml, hown, hts, hret, hlk⟩ := id C
  refine lv_aload_n hx hb dX12_bars_0 rfl (lv_at hl 0 rfl) ?_
  refine mg_0_19 C hW fl_X12_162 dX12_bars_1 ?_
  refine lv_iload_n hx hb dX12_bars_4 rfl (lv_at hl 1 rfl) ?_
  refine lv_dup2_11 hx hb dX12_bars_5 rfl rfl ?_
  refine ml_7 C hW h dX12_bars_6 (fun v1 h => ?_)
  refine lv_iconst (v := 1) hx hb dX12_bars_7 (by decide) ?_
  refine lv_iload_n hx hb dX12_bars_8 rfl (lv_at hl 2 rfl) ?_
  refine lv_iconst (v := 1) hx hb dX12_bars_9 (by decide) ?_
  refine lv_ixor hx hb dX12_bars_10 ?_
  refine lv_ishl hx hb dX12_bars_11 ?_
  refine lv_ior hx hb dX12_bars_12 ?_
  refine ms_7 C hW h dX12_bars_13 (fun S2 H locs h hW => ?_)
  refine lv_aload_n hx hb dX12_bars_14 rfl (lv_at hl 0 rfl) ?_
  refine mg_0_19 C hW fl_X12_162 dX12_bars_15 ?_
  refine lv_iload_n hx hb dX12_bars_18 rfl (lv_at hl 2 rfl) ?_
  refine lv_dup2_11 hx hb dX12_bars_19 rfl rfl ?_
  refine ml_7 C hW h dX12_bars_20 (fun v3 h => ?_)
  refine lv_iconst (v := 1) hx hb dX12_bars_21 (by decide) ?_
  refine lv_iload_n hx hb dX12_bars_22 rfl (lv_at hl 1 rfl) ?_
  refine lv_iconst (v := 1) hx hb dX12_bars_23 (by decide) ?_
  refine lv_ixor hx hb dX12_bars_24 ?_
  refine lv_ishl hx hb dX12_bars_25 ?_
  refine lv_ior hx hb dX12_bars_26 ?_
  refine ms_7 C hW h dX12_bars_27 (fun S4 H locs h hW => ?_)
  exact zz_vret C rfl h hW dX12_bars_28
def n_X12_bars_0 (F : Nat) (S : Zs) (x1 : Int32) (x2 : Int32) : Option (Int32 × Zs) := n_X12_bars_0_e F  S x1 x2
theorem c_X12_bars_0 {l : Launch} {D : va_G} {cs ad : Nat → Nat} {F : Nat} {S : Zs} {x1 : Int32} {x2 : Int32} {q : (Int32 × Zs)} (h : n_X12_bars_0 F S x1 x2 = some q) : zMv l yX12_bars cX12_bars 3 none (zR 0 0) (mG D cs ad) [.ref (ad 0), .int x1, .int x2] S q :=
  zz_enter (by decide) (Nat.le_of_ble_eq_true rfl) (fun p e s m below meth c ls C hW hl => w_X12_bars_0_e (F := F) C h hW (lv_sub hl [0, 1, 2] rfl))
def n_X12_closes_0_b215 (F : Nat) (rc166 : Zs → Int32 → Option (Int32 × Zs)) (S : Zs) (x1 : Int32) (t0 : Int32) : Option (Int32 × Zs) :=
  zpb S 20 t0 (fun S1 => zlet (x1 + (2 : Int32)) (fun v2 => rc166 S1 v2))
set_option maxRecDepth 20000 in
set_option maxHeartbeats 4000000 in
theorem w_X12_closes_0_b215 {F : Nat} {q : (Int32 × Zs)} {S : Zs} {rc166 : Zs → Int32 → Option (Int32 × Zs)} {x1 : Int32} {t0 : Int32} {ls : Array Slot} {H : Heap} {locs : List Loc} (C : zC p s m args meth c cX12_closes 3 RX12 none) (hrc166 : ∀ (S : Zs) (x1 : Int32) (H : Heap) (locs : List Loc) (ls : Array Slot), rc166 S x1 = some q → zW (mG D cs ad) s S H locs → lv_has ls 3 [(0, .ref (ad 0)), (1, .int x1)] → W p l e (zR 2 40) s m args below meth c H locs 0 0 (zQv (mG D cs ad) q below args s) (F0 m 166 ls [])) (h : n_X12_closes_0_b215 F rc166 S x1 t0 = some q) (hW : zW (mG D cs ad) s S H locs) (hl : lv_has ls 3 [(0, .ref (ad 0)), (1, .int x1)]) : W p l e (zR 2 40) s m args below meth c H locs 0 0 (zQv (mG D cs ad) q below args s) (F0 m 215 ls [.int t0, .ref (ad 0)]) := by
  unfold n_X12_closes_0_b215 at h
  obtain ⟨hx, hb, hml, hown, hts, hret, hlk⟩ := id C
  refine mp_0_20 C hW h fl_X12_172 dX12_closes_215 (fun S1 H locs h hW => ?_)
  obtain ⟨v2, ev2, h⟩ := zz_name h
  refine lv_iinc (v := v2) (lv' := [(1, .int v2), (0, .ref (ad 0))]) hx hb dX12_closes_218 hl (k := 1) rfl ev2.symm (by decide) rfl (fun ls hl => ?_)
  refine lv_goto (tgt := 166) hx hb dX12_closes_221 (by decide) ?_
  exact hrc166 _ _ _ _ _ h hW (lv_sub hl [1, 0] rfl)
def n_X12_closes_0_b214 (F : Nat) (rc166 : Zs → Int32 → Option (Int32 × Zs)) (S : Zs) (x1 : Int32) : Option (Int32 × Zs) :=
  n_X12_closes_0_b215 F rc166 S x1 (0 : Int32)
set_option maxRecDepth 20000 in
set_option maxHeartbeats 4000000 in
theorem w_X12_closes_0_b214 {F : Nat} {q : (Int32 × Zs)} {S : Zs} {rc166 : Zs → Int32 → Option (Int32 × Zs)} {x1 : Int32} {ls : Array Slot} {H : Heap} {locs : List Loc} (C : zC p s m args meth c cX12_closes 3 RX12 none) (hrc166 : ∀ (S : Zs) (x1 : Int32) (H : Heap) (locs : List Loc) (ls : Array Slot), rc166 S x1 = some q → zW (mG D cs ad) s S H locs → lv_has ls 3 [(0, .ref (ad 0)), (1, .int x1)] → W p l e (zR 2 40) s m args below meth c H locs 0 0 (zQv (mG D cs ad) q below args s) (F0 m 166 ls [])) (h : n_X12_closes_0_b214 F rc166 S x1 = some q) (hW : zW (mG D cs ad) s S H locs) (hl : lv_has ls 3 [(0, .ref (ad 0)), (1, .int x1)]) : W p l e (zR 2 40) s m args below meth c H locs 0 0 (zQv (mG D cs ad) q below args s) (F0 m 214 ls [.ref (ad 0)]) := by
  unfold n_X12_closes_0_b214 at h
  obtain ⟨hx, hb, hml, hown, hts, hret, hlk⟩ := id C
  refine lv_iconst (v := 0) hx hb dX12_closes_214 (by decide) ?_
  exact w_X12_closes_0_b215 (F := F) C hrc166 h hW (lv_sub hl [0, 1] rfl)
def n_X12_closes_0_b210 (F : Nat) (rc166 : Zs → Int32 → Option (Int32 × Zs)) (S : Zs) (x1 : Int32) : Option (Int32 × Zs) :=
  n_X12_closes_0_b215 F rc166 S x1 (1 : Int32)
set_option maxRecDepth 20000 in
set_option maxHeartbeats 4000000 in
theorem w_X12_closes_0_b210 {F : Nat} {q : (Int32 × Zs)} {S : Zs} {rc166 : Zs → Int32 → Option (Int32 × Zs)} {x1 : Int32} {ls : Array Slot} {H : Heap} {locs : List Loc} (C : zC p s m args meth c cX12_closes 3 RX12 none) (hrc166 : ∀ (S : Zs) (x1 : Int32) (H : Heap) (locs : List Loc) (ls : Array Slot), rc166 S x1 = some q → zW (mG D cs ad) s S H locs → lv_has ls 3 [(0, .ref (ad 0)), (1, .int x1)] → W p l e (zR 2 40) s m args below meth c H locs 0 0 (zQv (mG D cs ad) q below args s) (F0 m 166 ls [])) (h : n_X12_closes_0_b210 F rc166 S x1 = some q) (hW : zW (mG D cs ad) s S H locs) (hl : lv_has ls 3 [(0, .ref (ad 0)), (1, .int x1)]) : W p l e (zR 2 40) s m args below meth c H locs 0 0 (zQv (mG D cs ad) q below args s) (F0 m 210 ls [.ref (ad 0)]) := by
  unfold n_X12_closes_0_b210 at h
  obtain ⟨hx, hb, hml, hown, hts, hret, hlk⟩ := id C
  refine lv_iconst (v := 1) hx hb dX12_closes_210 (by decide) ?_
  refine lv_goto (tgt := 215) hx hb dX12_closes_211 (by decide) ?_
  exact w_X12_closes_0_b215 (F := F) C hrc166 h hW (lv_sub hl [0, 1] rfl)
def n_X12_closes_0_b166_l (F : Nat) (rc166 : Zs → Int32 → Option (Int32 × Zs)) (S : Zs) (x1 : Int32) : Option (Int32 × Zs) :=
  if (24 : Int32) ≤ x1 then (some (0, S)) else (zgf S 20 (fun v1 => if v1 = 0 then (n_X12_closes_0_b214 F rc166 S x1) else (zld S 7 24 x1 (fun v2 => zcl (n_X12_has F S v2 (x1 + (1 : Int32))) (fun v4 S3 => if v4 = 0 then (n_X12_closes_0_b210 F rc166 S3 x1) else (zld S3 7 24 (x1 + (1 : Int32)) (fun v5 => zcl (n_X12_has F S3 v5 x1) (fun v7 S6 => if v7 = 0 then (n_X12_closes_0_b210 F rc166 S6 x1) else (n_X12_closes_0_b214 F rc166 S6 x1)))))))))
set_option maxRecDepth 20000 in
set_option maxHeartbeats 4000000 in
theorem w_X12_closes_0_b166_l {F : Nat} {q : (Int32 × Zs)} {S : Zs} {rc166 : Zs → Int32 → Option (Int32 × Zs)} {x1 : Int32} {ls : Array Slot} {H : Heap} {locs : List Loc} (C : zC p s m args meth c cX12_closes 3 RX12 none) (hrc166 : ∀ (S : Zs) (x1 : Int32) (H : Heap) (locs : List Loc) (ls : Array Slot), rc166 S x1 = some q → zW (mG D cs ad) s S H locs → lv_has ls 3 [(0, .ref (ad 0)), (1, .int x1)] → W p l e (zR 2 40) s m args below meth c H locs 0 0 (zQv (mG D cs ad) q below args s) (F0 m 166 ls [])) (h : n_X12_closes_0_b166_l F rc166 S x1 = some q) (hW : zW (mG D cs ad) s S H locs) (hl : lv_has ls 3 [(0, .ref (ad 0)), (1, .int x1)]) : W p l e (zR 2 40) s m args below meth c H locs 0 0 (zQv (mG D cs ad) q below args s) (F0 m 166 ls []) := by
  unfold n_X12_closes_0_b166_l at h
  obtain ⟨hx, hb, hml, hown, hts, hret, hlk⟩ := id C
  refine lv_iload_n hx hb dX12_closes_166 rfl (lv_at hl 1 rfl) ?_
  refine lv_bipush (v := 24) hx hb dX12_closes_167 (by decide) ?_
  refine zz_cge (tgt := 224) C h dX12_closes_169 (by decide) (fun h => ?_) (fun h => ?_)
  · exact zz_vret C rfl h hW dX12_closes_224
  · refine lv_aload_n hx hb dX12_closes_172 rfl (lv_at hl 0 rfl) ?_
    refine lv_aload_n hx hb dX12_closes_173 rfl (lv_at hl 0 rfl) ?_
    refine mg_0_20 C hW h fl_X12_172 dX12_closes_174 (fun v1 h => ?_)
    refine zz_ieq (tgt := 214) C h dX12_closes_177 (by decide) (fun h => ?_) (fun h => ?_)
    · exact w_X12_closes_0_b214 (F := F) C hrc166 h hW (lv_sub hl [0, 1] rfl)
    · refine lv_aload_n hx hb dX12_closes_180 rfl (lv_at hl 0 rfl) ?_
      refine mg_0_19 C hW fl_X12_162 dX12_closes_181 ?_
      refine lv_iload_n hx hb dX12_closes_184 rfl (lv_at hl 1 rfl) ?_
      refine ml_7 C hW h dX12_closes_185 (fun v2 h => ?_)
      refine lv_iload_n hx hb dX12_closes_186 rfl (lv_at hl 1 rfl) ?_
      refine lv_iconst (v := 1) hx hb dX12_closes_187 (by decide) ?_
      refine lv_iadd hx hb dX12_closes_188 ?_
      refine zz_callSi (As := [.int v2, .int (x1 + (1 : Int32))]) C hW h (fun r hr => c_X12_has hr) lk_X12_129 rfl hl.1 ⟨rfl, rfl⟩ ⟨Nat.le_of_ble_eq_true rfl, Nat.le_of_ble_eq_true rfl⟩ (Nat.le_of_ble_eq_true rfl) ⟨Nat.zero_le _, Nat.zero_le _⟩ rfl dX12_closes_189 (fun v4 S3 H locs h hW => ?_)
      refine zz_ieq (tgt := 210) C h dX12_closes_192 (by decide) (fun h => ?_) (fun h => ?_)
      · exact w_X12_closes_0_b210 (F := F) C hrc166 h hW (lv_sub hl [0, 1] rfl)
      · refine lv_aload_n hx hb dX12_closes_195 rfl (lv_at hl 0 rfl) ?_
        refine mg_0_19 C hW fl_X12_162 dX12_closes_196 ?_
        refine lv_iload_n hx hb dX12_closes_199 rfl (lv_at hl 1 rfl) ?_
        refine lv_iconst (v := 1) hx hb dX12_closes_200 (by decide) ?_
        refine lv_iadd hx hb dX12_closes_201 ?_
        refine ml_7 C hW h dX12_closes_202 (fun v5 h => ?_)
        refine lv_iload_n hx hb dX12_closes_203 rfl (lv_at hl 1 rfl) ?_
        refine zz_callSi (As := [.int v5, .int x1]) C hW h (fun r hr => c_X12_has hr) lk_X12_129 rfl hl.1 ⟨rfl, rfl⟩ ⟨Nat.le_of_ble_eq_true rfl, Nat.le_of_ble_eq_true rfl⟩ (Nat.le_of_ble_eq_true rfl) ⟨Nat.zero_le _, Nat.zero_le _⟩ rfl dX12_closes_204 (fun v7 S6 H locs h hW => ?_)
        refine zz_ine (tgt := 214) C h dX12_closes_207 (by decide) (fun h => ?_) (fun h => ?_)
        · exact w_X12_closes_0_b214 (F := F) C hrc166 h hW (lv_sub hl [0, 1] rfl)
        · exact w_X12_closes_0_b210 (F := F) C hrc166 h hW (lv_sub hl [0, 1] rfl)
def n_X12_closes_0_b166 (F : Nat)  (S : Zs) (x1 : Int32) : Option (Int32 × Zs) :=
  zfix (fun (rc : (Zs × Int32) → Option (Int32 × Zs)) (u : (Zs × Int32)) => n_X12_closes_0_b166_l F  (fun S x1 => rc (S, x1)) u.1 u.2) F (S, x1)
theorem w_X12_closes_0_b166 {F : Nat} {q : (Int32 × Zs)}  (C : zC p s m args meth c cX12_closes 3 RX12 none)  : ∀ (n : Nat) (S : Zs) (x1 : Int32) (H : Heap) (locs : List Loc) (ls : Array Slot), zfix (fun (rc : (Zs × Int32) → Option (Int32 × Zs)) (u : (Zs × Int32)) => n_X12_closes_0_b166_l F  (fun S x1 => rc (S, x1)) u.1 u.2) n (S, x1) = some q → zW (mG D cs ad) s S H locs → lv_has ls 3 [(0, .ref (ad 0)), (1, .int x1)] → W p l e (zR 2 40) s m args below meth c H locs 0 0 (zQv (mG D cs ad) q below args s) (F0 m 166 ls []) := by
  intro n
  induction n with
  | zero => intro S x1 H locs ls h; exact absurd h (fun h => by cases h)
  | succ n ih => intro S x1 H locs ls h hW hl; exact w_X12_closes_0_b166_l (F := F) C (fun S x1 H locs ls h hW hl => ih S x1 H locs ls h hW hl) h hW hl
def n_X12_closes_0_b145 (F : Nat) (rc101 : Zs → Int32 → Option (Int32 × Zs)) (rc109 : Zs → Int32 → Int32 → Option (Int32 × Zs)) (S : Zs) (x1 : Int32) (x2 : Int32) (t0 : Int32) (t1 : Int32) (t2 : Int32) : Option (Int32 × Zs) :=
  zst S 7 24 t2 (t1 ||| t0) (fun S1 => zlet (x2 + (1 : Int32)) (fun v2 => rc109 S1 x1 v2))
set_option maxRecDepth 20000 in
set_option maxHeartbeats 4000000 in
theorem w_X12_closes_0_b145 {F : Nat} {q : (Int32 × Zs)} {S : Zs} {rc101 : Zs → Int32 → Option (Int32 × Zs)} {rc109 : Zs → Int32 → Int32 → Option (Int32 × Zs)} {x1 : Int32} {x2 : Int32} {t0 : Int32} {t1 : Int32} {t2 : Int32} {ls : Array Slot} {H : Heap} {locs : List Loc} (C : zC p s m args meth c cX12_closes 3 RX12 none) (hrc101 : ∀ (S : Zs) (x1 : Int32) (H : Heap) (locs : List Loc) (ls : Array Slot), rc101 S x1 = some q → zW (mG D cs ad) s S H locs → lv_has ls 3 [(0, .ref (ad 0)), (1, .int x1)] → W p l e (zR 2 40) s m args below meth c H locs 0 0 (zQv (mG D cs ad) q below args s) (F0 m 101 ls [])) (hrc109 : ∀ (S : Zs) (x1 : Int32) (x2 : Int32) (H : Heap) (locs : List Loc) (ls : Array Slot), rc109 S x1 x2 = some q → zW (mG D cs ad) s S H locs → lv_has ls 3 [(0, .ref (ad 0)), (1, .int x1), (2, .int x2)] → W p l e (zR 2 40) s m args below meth c H locs 0 0 (zQv (mG D cs ad) q below args s) (F0 m 109 ls [])) (h : n_X12_closes_0_b145 F rc101 rc109 S x1 x2 t0 t1 t2 = some q) (hW : zW (mG D cs ad) s S H locs) (hl : lv_has ls 3 [(0, .ref (ad 0)), (1, .int x1), (2, .int x2)]) : W p l e (zR 2 40) s m args below meth c H locs 0 0 (zQv (mG D cs ad) q below args s) (F0 m 145 ls [.int t0, .int t1, .int t2, .ref (ad 7)]) := by
  unfold n_X12_closes_0_b145 at h
  obtain ⟨hx, hb, hml, hown, hts, hret, hlk⟩ := id C
  refine lv_ior hx hb dX12_closes_145 ?_
  refine ms_7 C hW h dX12_closes_146 (fun S1 H locs h hW => ?_)
  obtain ⟨v2, ev2, h⟩ := zz_name h
  refine lv_iinc (v := v2) (lv' := [(2, .int v2), (0, .ref (ad 0)), (1, .int x1)]) hx hb dX12_closes_147 hl (k := 2) rfl ev2.symm (by decide) rfl (fun ls hl => ?_)
  refine lv_goto (tgt := 109) hx hb dX12_closes_150 (by decide) ?_
  exact hrc109 _ _ _ _ _ _ h hW (lv_sub hl [1, 2, 0] rfl)
def n_X12_closes_0_b109_l (F : Nat) (rc101 : Zs → Int32 → Option (Int32 × Zs)) (rc109 : Zs → Int32 → Int32 → Option (Int32 × Zs)) (S : Zs) (x1 : Int32) (x2 : Int32) : Option (Int32 × Zs) :=
  if (24 : Int32) ≤ x2 then (zlet (x1 + (1 : Int32)) (fun v1 => rc101 S v1)) else (zld S 7 24 x2 (fun v2 => zld S 7 24 x2 (fun v3 => zcl (n_X12_has F S v3 x1) (fun v5 S4 => if v5 = 0 then (n_X12_closes_0_b145 F rc101 rc109 S4 x1 x2 (0 : Int32) v2 x2) else (zld S4 7 24 x1 (fun v6 => n_X12_closes_0_b145 F rc101 rc109 S4 x1 x2 v6 v2 x2))))))
set_option maxRecDepth 20000 in
set_option maxHeartbeats 4000000 in
theorem w_X12_closes_0_b109_l {F : Nat} {q : (Int32 × Zs)} {S : Zs} {rc101 : Zs → Int32 → Option (Int32 × Zs)} {rc109 : Zs → Int32 → Int32 → Option (Int32 × Zs)} {x1 : Int32} {x2 : Int32} {ls : Array Slot} {H : Heap} {locs : List Loc} (C : zC p s m args meth c cX12_closes 3 RX12 none) (hrc101 : ∀ (S : Zs) (x1 : Int32) (H : Heap) (locs : List Loc) (ls : Array Slot), rc101 S x1 = some q → zW (mG D cs ad) s S H locs → lv_has ls 3 [(0, .ref (ad 0)), (1, .int x1)] → W p l e (zR 2 40) s m args below meth c H locs 0 0 (zQv (mG D cs ad) q below args s) (F0 m 101 ls [])) (hrc109 : ∀ (S : Zs) (x1 : Int32) (x2 : Int32) (H : Heap) (locs : List Loc) (ls : Array Slot), rc109 S x1 x2 = some q → zW (mG D cs ad) s S H locs → lv_has ls 3 [(0, .ref (ad 0)), (1, .int x1), (2, .int x2)] → W p l e (zR 2 40) s m args below meth c H locs 0 0 (zQv (mG D cs ad) q below args s) (F0 m 109 ls [])) (h : n_X12_closes_0_b109_l F rc101 rc109 S x1 x2 = some q) (hW : zW (mG D cs ad) s S H locs) (hl : lv_has ls 3 [(0, .ref (ad 0)), (1, .int x1), (2, .int x2)]) : W p l e (zR 2 40) s m args below meth c H locs 0 0 (zQv (mG D cs ad) q below args s) (F0 m 109 ls []) := by
  unfold n_X12_closes_0_b109_l at h
  obtain ⟨hx, hb, hml, hown, hts, hret, hlk⟩ := id C
  refine lv_iload_n hx hb dX12_closes_109 rfl (lv_at hl 2 rfl) ?_
  refine lv_bipush (v := 24) hx hb dX12_closes_110 (by decide) ?_
  refine zz_cge (tgt := 153) C h dX12_closes_112 (by decide) (fun h => ?_) (fun h => ?_)
  · obtain ⟨v1, ev1, h⟩ := zz_name h
    refine lv_iinc (v := v1) (lv' := [(1, .int v1), (0, .ref (ad 0)), (2, .int x2)]) hx hb dX12_closes_153 hl (k := 1) rfl ev1.symm (by decide) rfl (fun ls hl => ?_)
    refine lv_goto (tgt := 101) hx hb dX12_closes_156 (by decide) ?_
    exact hrc101 _ _ _ _ _ h hW (lv_sub hl [1, 0] rfl)
  · refine lv_aload_n hx hb dX12_closes_115 rfl (lv_at hl 0 rfl) ?_
    refine mg_0_19 C hW fl_X12_162 dX12_closes_116 ?_
    refine lv_iload_n hx hb dX12_closes_119 rfl (lv_at hl 2 rfl) ?_
    refine lv_dup2_11 hx hb dX12_closes_120 rfl rfl ?_
    refine ml_7 C hW h dX12_closes_121 (fun v2 h => ?_)
    refine lv_aload_n hx hb dX12_closes_122 rfl (lv_at hl 0 rfl) ?_
    refine mg_0_19 C hW fl_X12_162 dX12_closes_123 ?_
    refine lv_iload_n hx hb dX12_closes_126 rfl (lv_at hl 2 rfl) ?_
    refine ml_7 C hW h dX12_closes_127 (fun v3 h => ?_)
    refine lv_iload_n hx hb dX12_closes_128 rfl (lv_at hl 1 rfl) ?_
    refine zz_callSi (As := [.int v3, .int x1]) C hW h (fun r hr => c_X12_has hr) lk_X12_129 rfl hl.1 ⟨rfl, rfl⟩ ⟨Nat.le_of_ble_eq_true rfl, Nat.le_of_ble_eq_true rfl⟩ (Nat.le_of_ble_eq_true rfl) ⟨Nat.zero_le _, Nat.zero_le _⟩ rfl dX12_closes_129 (fun v5 S4 H locs h hW => ?_)
    refine zz_ieq (tgt := 144) C h dX12_closes_132 (by decide) (fun h => ?_) (fun h => ?_)
    · refine lv_iconst (v := 0) hx hb dX12_closes_144 (by decide) ?_
      exact w_X12_closes_0_b145 (F := F) C hrc101 hrc109 h hW (lv_sub hl [0, 1, 2] rfl)
    · refine lv_aload_n hx hb dX12_closes_135 rfl (lv_at hl 0 rfl) ?_
      refine mg_0_19 C hW fl_X12_162 dX12_closes_136 ?_
      refine lv_iload_n hx hb dX12_closes_139 rfl (lv_at hl 1 rfl) ?_
      refine ml_7 C hW h dX12_closes_140 (fun v6 h => ?_)
      refine lv_goto (tgt := 145) hx hb dX12_closes_141 (by decide) ?_
      exact w_X12_closes_0_b145 (F := F) C hrc101 hrc109 h hW (lv_sub hl [0, 1, 2] rfl)
def n_X12_closes_0_b109 (F : Nat) (rc101 : Zs → Int32 → Option (Int32 × Zs)) (S : Zs) (x1 : Int32) (x2 : Int32) : Option (Int32 × Zs) :=
  zfix (fun (rc : (Zs × Int32 × Int32) → Option (Int32 × Zs)) (u : (Zs × Int32 × Int32)) => n_X12_closes_0_b109_l F rc101 (fun S x1 x2 => rc (S, x1, x2)) u.1 u.2.1 u.2.2) F (S, x1, x2)
theorem w_X12_closes_0_b109 {F : Nat} {q : (Int32 × Zs)} {rc101 : Zs → Int32 → Option (Int32 × Zs)} (C : zC p s m args meth c cX12_closes 3 RX12 none) (hrc101 : ∀ (S : Zs) (x1 : Int32) (H : Heap) (locs : List Loc) (ls : Array Slot), rc101 S x1 = some q → zW (mG D cs ad) s S H locs → lv_has ls 3 [(0, .ref (ad 0)), (1, .int x1)] → W p l e (zR 2 40) s m args below meth c H locs 0 0 (zQv (mG D cs ad) q below args s) (F0 m 101 ls [])) : ∀ (n : Nat) (S : Zs) (x1 : Int32) (x2 : Int32) (H : Heap) (locs : List Loc) (ls : Array Slot), zfix (fun (rc : (Zs × Int32 × Int32) → Option (Int32 × Zs)) (u : (Zs × Int32 × Int32)) => n_X12_closes_0_b109_l F rc101 (fun S x1 x2 => rc (S, x1, x2)) u.1 u.2.1 u.2.2) n (S, x1, x2) = some q → zW (mG D cs ad) s S H locs → lv_has ls 3 [(0, .ref (ad 0)), (1, .int x1), (2, .int x2)] → W p l e (zR 2 40) s m args below meth c H locs 0 0 (zQv (mG D cs ad) q below args s) (F0 m 109 ls []) := by
  intro n
  induction n with
  | zero => intro S x1 x2 H locs ls h; exact absurd h (fun h => by cases h)
  | succ n ih => intro S x1 x2 H locs ls h hW hl; exact w_X12_closes_0_b109_l (F := F) C hrc101 (fun S x1 x2 H locs ls h hW hl => ih S x1 x2 H locs ls h hW hl) h hW hl
def n_X12_closes_0_b101_l (F : Nat) (rc101 : Zs → Int32 → Option (Int32 × Zs)) (S : Zs) (x1 : Int32) : Option (Int32 × Zs) :=
  if (24 : Int32) ≤ x1 then (zpb S 20 (1 : Int32) (fun S1 => n_X12_closes_0_b166 F  S1 (0 : Int32))) else (n_X12_closes_0_b109 F rc101 S x1 (0 : Int32))
set_option maxRecDepth 20000 in
set_option maxHeartbeats 4000000 in
theorem w_X12_closes_0_b101_l {F : Nat} {q : (Int32 × Zs)} {S : Zs} {rc101 : Zs → Int32 → Option (Int32 × Zs)} {x1 : Int32} {ls : Array Slot} {H : Heap} {locs : List Loc} (C : zC p s m args meth c cX12_closes 3 RX12 none) (hrc101 : ∀ (S : Zs) (x1 : Int32) (H : Heap) (locs : List Loc) (ls : Array Slot), rc101 S x1 = some q → zW (mG D cs ad) s S H locs → lv_has ls 3 [(0, .ref (ad 0)), (1, .int x1)] → W p l e (zR 2 40) s m args below meth c H locs 0 0 (zQv (mG D cs ad) q below args s) (F0 m 101 ls [])) (h : n_X12_closes_0_b101_l F rc101 S x1 = some q) (hW : zW (mG D cs ad) s S H locs) (hl : lv_has ls 3 [(0, .ref (ad 0)), (1, .int x1)]) : W p l e (zR 2 40) s m args below meth c H locs 0 0 (zQv (mG D cs ad) q below args s) (F0 m 101 ls []) := by
  unfold n_X12_closes_0_b101_l at h
  obtain ⟨hx, hb, hml, hown, hts, hret, hlk⟩ := id C
  refine lv_iload_n hx hb dX12_closes_101 rfl (lv_at hl 1 rfl) ?_
  refine lv_bipush (v := 24) hx hb dX12_closes_102 (by decide) ?_
  refine zz_cge (tgt := 159) C h dX12_closes_104 (by decide) (fun h => ?_) (fun h => ?_)
  · refine lv_aload_n hx hb dX12_closes_159 rfl (lv_at hl 0 rfl) ?_
    refine lv_iconst (v := 1) hx hb dX12_closes_160 (by decide) ?_
    refine mp_0_20 C hW h fl_X12_172 dX12_closes_161 (fun S1 H locs h hW => ?_)
    refine lv_iconst (v := 0) hx hb dX12_closes_164 (by decide) ?_
    refine lv_istore_n (lv' := [(1, .int (0 : Int32)), (0, .ref (ad 0))]) hx hb dX12_closes_165 rfl hl (by decide) rfl (fun ls hl => ?_)
    exact w_X12_closes_0_b166 (F := F) C F _ _ _ _ _ h hW (lv_sub hl [1, 0] rfl)
  · refine lv_iconst (v := 0) hx hb dX12_closes_107 (by decide) ?_
    refine lv_istore_n (lv' := [(2, .int (0 : Int32)), (0, .ref (ad 0)), (1, .int x1)]) hx hb dX12_closes_108 rfl hl (by decide) rfl (fun ls hl => ?_)
    exact w_X12_closes_0_b109 (F := F) C hrc101 F _ _ _ _ _ _ h hW (lv_sub hl [1, 2, 0] rfl)
def n_X12_closes_0_b101 (F : Nat)  (S : Zs) (x1 : Int32) : Option (Int32 × Zs) :=
  zfix (fun (rc : (Zs × Int32) → Option (Int32 × Zs)) (u : (Zs × Int32)) => n_X12_closes_0_b101_l F  (fun S x1 => rc (S, x1)) u.1 u.2) F (S, x1)
theorem w_X12_closes_0_b101 {F : Nat} {q : (Int32 × Zs)}  (C : zC p s m args meth c cX12_closes 3 RX12 none)  : ∀ (n : Nat) (S : Zs) (x1 : Int32) (H : Heap) (locs : List Loc) (ls : Array Slot), zfix (fun (rc : (Zs × Int32) → Option (Int32 × Zs)) (u : (Zs × Int32)) => n_X12_closes_0_b101_l F  (fun S x1 => rc (S, x1)) u.1 u.2) n (S, x1) = some q → zW (mG D cs ad) s S H locs → lv_has ls 3 [(0, .ref (ad 0)), (1, .int x1)] → W p l e (zR 2 40) s m args below meth c H locs 0 0 (zQv (mG D cs ad) q below args s) (F0 m 101 ls []) := by
  intro n
  induction n with
  | zero => intro S x1 H locs ls h; exact absurd h (fun h => by cases h)
  | succ n ih => intro S x1 H locs ls h hW hl; exact w_X12_closes_0_b101_l (F := F) C (fun S x1 H locs ls h hW hl => ih S x1 H locs ls h hW hl) h hW hl
def n_X12_closes_0_b93 (F : Nat) (rc25 : Zs → Int32 → Option (Int32 × Zs)) (S : Zs) (x1 : Int32) : Option (Int32 × Zs) :=
  zlet (x1 + (1 : Int32)) (fun v1 => rc25 S v1)
set_option maxRecDepth 20000 in
set_option maxHeartbeats 4000000 in
theorem w_X12_closes_0_b93 {F : Nat} {q : (Int32 × Zs)} {S : Zs} {rc25 : Zs → Int32 → Option (Int32 × Zs)} {x1 : Int32} {ls : Array Slot} {H : Heap} {locs : List Loc} (C : zC p s m args meth c cX12_closes 3 RX12 none) (hrc25 : ∀ (S : Zs) (x1 : Int32) (H : Heap) (locs : List Loc) (ls : Array Slot), rc25 S x1 = some q → zW (mG D cs ad) s S H locs → lv_has ls 3 [(0, .ref (ad 0)), (1, .int x1)] → W p l e (zR 2 40) s m args below meth c H locs 0 0 (zQv (mG D cs ad) q below args s) (F0 m 25 ls [])) (h : n_X12_closes_0_b93 F rc25 S x1 = some q) (hW : zW (mG D cs ad) s S H locs) (hl : lv_has ls 3 [(0, .ref (ad 0)), (1, .int x1)]) : W p l e (zR 2 40) s m args below meth c H locs 0 0 (zQv (mG D cs ad) q below args s) (F0 m 93 ls []) := by
  unfold n_X12_closes_0_b93 at h
  obtain ⟨hx, hb, hml, hown, hts, hret, hlk⟩ := id C
  obtain ⟨v1, ev1, h⟩ := zz_name h
  refine lv_iinc (v := v1) (lv' := [(1, .int v1), (0, .ref (ad 0))]) hx hb dX12_closes_93 hl (k := 1) rfl ev1.symm (by decide) rfl (fun ls hl => ?_)
  refine lv_goto (tgt := 25) hx hb dX12_closes_96 (by decide) ?_
  exact hrc25 _ _ _ _ _ h hW (lv_sub hl [1, 0] rfl)
def n_X12_closes_0_b90 (F : Nat) (rc25 : Zs → Int32 → Option (Int32 × Zs)) (S : Zs) (x1 : Int32) (t0 : Int32) (t1 : Int32) : Option (Int32 × Zs) :=
  zcl (n_X12_bars_0 F S t1 t0) (fun v2 S1 => n_X12_closes_0_b93 F rc25 S1 x1)
set_option maxRecDepth 20000 in
set_option maxHeartbeats 4000000 in
theorem w_X12_closes_0_b90 {F : Nat} {q : (Int32 × Zs)} {S : Zs} {rc25 : Zs → Int32 → Option (Int32 × Zs)} {x1 : Int32} {t0 : Int32} {t1 : Int32} {ls : Array Slot} {H : Heap} {locs : List Loc} (C : zC p s m args meth c cX12_closes 3 RX12 none) (hrc25 : ∀ (S : Zs) (x1 : Int32) (H : Heap) (locs : List Loc) (ls : Array Slot), rc25 S x1 = some q → zW (mG D cs ad) s S H locs → lv_has ls 3 [(0, .ref (ad 0)), (1, .int x1)] → W p l e (zR 2 40) s m args below meth c H locs 0 0 (zQv (mG D cs ad) q below args s) (F0 m 25 ls [])) (h : n_X12_closes_0_b90 F rc25 S x1 t0 t1 = some q) (hW : zW (mG D cs ad) s S H locs) (hl : lv_has ls 3 [(0, .ref (ad 0)), (1, .int x1)]) : W p l e (zR 2 40) s m args below meth c H locs 0 0 (zQv (mG D cs ad) q below args s) (F0 m 90 ls [.int t0, .int t1, .ref (ad 0)]) := by
  unfold n_X12_closes_0_b90 at h
  obtain ⟨hx, hb, hml, hown, hts, hret, hlk⟩ := id C
  refine zz_callVv (As := [.int t1, .int t0]) C hW h (fun r hr => c_X12_bars_0 hr) lk_X12_168 (hW.recv mr_0) rfl hl.1 ⟨rfl, rfl⟩ ⟨Nat.le_of_ble_eq_true rfl, Nat.le_of_ble_eq_true rfl⟩ (Nat.le_of_ble_eq_true rfl) ⟨Nat.zero_le _, Nat.zero_le _⟩ rfl dX12_closes_90 (fun v2 S1 H locs h hW => ?_)
  exact w_X12_closes_0_b93 (F := F) C hrc25 h hW (lv_sub hl [0, 1] rfl)
def n_X12_closes_0_b25_l (F : Nat) (rc25 : Zs → Int32 → Option (Int32 × Zs)) (S : Zs) (x1 : Int32) : Option (Int32 × Zs) :=
  zgf S 18 (fun v1 => if v1 ≤ x1 then (n_X12_closes_0_b101 F  S (0 : Int32)) else (zld S 6 18 x1 (fun v2 => zcl (n_X12_isOfAll F S v2) (fun v4 S3 => if v4 = 0 then (n_X12_closes_0_b93 F rc25 S3 x1) else (zld S3 6 18 x1 (fun v5 => zcl (n_X12_firstOf F S3 v5) (fun v7 S6 => zld S6 6 18 x1 (fun v8 => zcl (n_X12_formOf F S6 v8) (fun v10 S9 => if v10 = 0 then (zld S9 6 18 x1 (fun v14 => zcl (n_X12_secondOf F S9 v14) (fun v16 S15 => n_X12_closes_0_b90 F rc25 S15 x1 (v16 ^^^ (1 : Int32)) v7))) else (zld S9 6 18 x1 (fun v11 => zcl (n_X12_secondOf F S9 v11) (fun v13 S12 => n_X12_closes_0_b90 F rc25 S12 x1 v13 v7))))))))))))
set_option maxRecDepth 20000 in
set_option maxHeartbeats 4000000 in
theorem w_X12_closes_0_b25_l {F : Nat} {q : (Int32 × Zs)} {S : Zs} {rc25 : Zs → Int32 → Option (Int32 × Zs)} {x1 : Int32} {ls : Array Slot} {H : Heap} {locs : List Loc} (C : zC p s m args meth c cX12_closes 3 RX12 none) (hrc25 : ∀ (S : Zs) (x1 : Int32) (H : Heap) (locs : List Loc) (ls : Array Slot), rc25 S x1 = some q → zW (mG D cs ad) s S H locs → lv_has ls 3 [(0, .ref (ad 0)), (1, .int x1)] → W p l e (zR 2 40) s m args below meth c H locs 0 0 (zQv (mG D cs ad) q below args s) (F0 m 25 ls [])) (h : n_X12_closes_0_b25_l F rc25 S x1 = some q) (hW : zW (mG D cs ad) s S H locs) (hl : lv_has ls 3 [(0, .ref (ad 0)), (1, .int x1)]) : W p l e (zR 2 40) s m args below meth c H locs 0 0 (zQv (mG D cs ad) q below args s) (F0 m 25 ls []) := by
  unfold n_X12_closes_0_b25_l at h
  obtain ⟨hx, hb, hml, hown, hts, hret, hlk⟩ := id C
  refine lv_iload_n hx hb dX12_closes_25 rfl (lv_at hl 1 rfl) ?_
  refine lv_aload_n hx hb dX12_closes_26 rfl (lv_at hl 0 rfl) ?_
  refine mg_0_18 C hW h fl_X12_156 dX12_closes_27 (fun v1 h => ?_)
  refine zz_cge (tgt := 99) C h dX12_closes_30 (by decide) (fun h => ?_) (fun h => ?_)
  · refine lv_iconst (v := 0) hx hb dX12_closes_99 (by decide) ?_
    refine lv_istore_n (lv' := [(1, .int (0 : Int32)), (0, .ref (ad 0))]) hx hb dX12_closes_100 rfl hl (by decide) rfl (fun ls hl => ?_)
    exact w_X12_closes_0_b101 (F := F) C F _ _ _ _ _ h hW (lv_sub hl [1, 0] rfl)
  · refine lv_aload_n hx hb dX12_closes_33 rfl (lv_at hl 0 rfl) ?_
    refine mg_0_17 C hW fl_X12_159 dX12_closes_34 ?_
    refine lv_iload_n hx hb dX12_closes_37 rfl (lv_at hl 1 rfl) ?_
    refine ml_6 C hW h dX12_closes_38 (fun v2 h => ?_)
    refine zz_callSi (As := [.int v2]) C hW h (fun r hr => c_X12_isOfAll hr) lk_X12_165 rfl hl.1 ⟨rfl, rfl⟩ ⟨Nat.le_of_ble_eq_true rfl, Nat.le_of_ble_eq_true rfl⟩ (Nat.le_of_ble_eq_true rfl) ⟨Nat.zero_le _, Nat.zero_le _⟩ rfl dX12_closes_39 (fun v4 S3 H locs h hW => ?_)
    refine zz_ieq (tgt := 93) C h dX12_closes_42 (by decide) (fun h => ?_) (fun h => ?_)
    · exact w_X12_closes_0_b93 (F := F) C hrc25 h hW (lv_sub hl [0, 1] rfl)
    · refine lv_aload_n hx hb dX12_closes_45 rfl (lv_at hl 0 rfl) ?_
      refine lv_aload_n hx hb dX12_closes_46 rfl (lv_at hl 0 rfl) ?_
      refine mg_0_17 C hW fl_X12_159 dX12_closes_47 ?_
      refine lv_iload_n hx hb dX12_closes_50 rfl (lv_at hl 1 rfl) ?_
      refine ml_6 C hW h dX12_closes_51 (fun v5 h => ?_)
      refine zz_callSi (As := [.int v5]) C hW h (fun r hr => c_X12_firstOf hr) lk_X12_24 rfl hl.1 ⟨rfl, rfl⟩ ⟨Nat.le_of_ble_eq_true rfl, Nat.le_of_ble_eq_true rfl⟩ (Nat.le_of_ble_eq_true rfl) ⟨Nat.zero_le _, Nat.zero_le _⟩ rfl dX12_closes_52 (fun v7 S6 H locs h hW => ?_)
      refine lv_aload_n hx hb dX12_closes_55 rfl (lv_at hl 0 rfl) ?_
      refine mg_0_17 C hW fl_X12_159 dX12_closes_56 ?_
      refine lv_iload_n hx hb dX12_closes_59 rfl (lv_at hl 1 rfl) ?_
      refine ml_6 C hW h dX12_closes_60 (fun v8 h => ?_)
      refine zz_callSi (As := [.int v8]) C hW h (fun r hr => c_X12_formOf hr) lk_X12_20 rfl hl.1 ⟨rfl, rfl⟩ ⟨Nat.le_of_ble_eq_true rfl, Nat.le_of_ble_eq_true rfl⟩ (Nat.le_of_ble_eq_true rfl) ⟨Nat.zero_le _, Nat.zero_le _⟩ rfl dX12_closes_61 (fun v10 S9 H locs h hW => ?_)
      refine zz_ine (tgt := 81) C h dX12_closes_64 (by decide) (fun h => ?_) (fun h => ?_)
      · refine lv_aload_n hx hb dX12_closes_81 rfl (lv_at hl 0 rfl) ?_
        refine mg_0_17 C hW fl_X12_159 dX12_closes_82 ?_
        refine lv_iload_n hx hb dX12_closes_85 rfl (lv_at hl 1 rfl) ?_
        refine ml_6 C hW h dX12_closes_86 (fun v11 h => ?_)
        refine zz_callSi (As := [.int v11]) C hW h (fun r hr => c_X12_secondOf hr) lk_X12_27 rfl hl.1 ⟨rfl, rfl⟩ ⟨Nat.le_of_ble_eq_true rfl, Nat.le_of_ble_eq_true rfl⟩ (Nat.le_of_ble_eq_true rfl) ⟨Nat.zero_le _, Nat.zero_le _⟩ rfl dX12_closes_87 (fun v13 S12 H locs h hW => ?_)
        exact w_X12_closes_0_b90 (F := F) C hrc25 h hW (lv_sub hl [0, 1] rfl)
      · refine lv_aload_n hx hb dX12_closes_67 rfl (lv_at hl 0 rfl) ?_
        refine mg_0_17 C hW fl_X12_159 dX12_closes_68 ?_
        refine lv_iload_n hx hb dX12_closes_71 rfl (lv_at hl 1 rfl) ?_
        refine ml_6 C hW h dX12_closes_72 (fun v14 h => ?_)
        refine zz_callSi (As := [.int v14]) C hW h (fun r hr => c_X12_secondOf hr) lk_X12_27 rfl hl.1 ⟨rfl, rfl⟩ ⟨Nat.le_of_ble_eq_true rfl, Nat.le_of_ble_eq_true rfl⟩ (Nat.le_of_ble_eq_true rfl) ⟨Nat.zero_le _, Nat.zero_le _⟩ rfl dX12_closes_73 (fun v16 S15 H locs h hW => ?_)
        refine lv_iconst (v := 1) hx hb dX12_closes_76 (by decide) ?_
        refine lv_ixor hx hb dX12_closes_77 ?_
        refine lv_goto (tgt := 90) hx hb dX12_closes_78 (by decide) ?_
        exact w_X12_closes_0_b90 (F := F) C hrc25 h hW (lv_sub hl [0, 1] rfl)
def n_X12_closes_0_b25 (F : Nat)  (S : Zs) (x1 : Int32) : Option (Int32 × Zs) :=
  zfix (fun (rc : (Zs × Int32) → Option (Int32 × Zs)) (u : (Zs × Int32)) => n_X12_closes_0_b25_l F  (fun S x1 => rc (S, x1)) u.1 u.2) F (S, x1)
theorem w_X12_closes_0_b25 {F : Nat} {q : (Int32 × Zs)}  (C : zC p s m args meth c cX12_closes 3 RX12 none)  : ∀ (n : Nat) (S : Zs) (x1 : Int32) (H : Heap) (locs : List Loc) (ls : Array Slot), zfix (fun (rc : (Zs × Int32) → Option (Int32 × Zs)) (u : (Zs × Int32)) => n_X12_closes_0_b25_l F  (fun S x1 => rc (S, x1)) u.1 u.2) n (S, x1) = some q → zW (mG D cs ad) s S H locs → lv_has ls 3 [(0, .ref (ad 0)), (1, .int x1)] → W p l e (zR 2 40) s m args below meth c H locs 0 0 (zQv (mG D cs ad) q below args s) (F0 m 25 ls []) := by
  intro n
  induction n with
  | zero => intro S x1 H locs ls h; exact absurd h (fun h => by cases h)
  | succ n ih => intro S x1 H locs ls h hW hl; exact w_X12_closes_0_b25_l (F := F) C (fun S x1 H locs ls h hW hl => ih S x1 H locs ls h hW hl) h hW hl
def n_X12_closes_0_b2_l (F : Nat) (rc2 : Zs → Int32 → Option (Int32 × Zs)) (S : Zs) (x1 : Int32) : Option (Int32 × Zs) :=
  if (24 : Int32) ≤ x1 then (n_X12_closes_0_b25 F  S (0 : Int32)) else (zst S 7 24 x1 ((1 : Int32) <<< (x1 &&& 31)) (fun S1 => zlet (x1 + (1 : Int32)) (fun v2 => rc2 S1 v2)))
set_option maxRecDepth 20000 in
set_option maxHeartbeats 4000000 in
theorem w_X12_closes_0_b2_l {F : Nat} {q : (Int32 × Zs)} {S : Zs} {rc2 : Zs → Int32 → Option (Int32 × Zs)} {x1 : Int32} {ls : Array Slot} {H : Heap} {locs : List Loc} (C : zC p s m args meth c cX12_closes 3 RX12 none) (hrc2 : ∀ (S : Zs) (x1 : Int32) (H : Heap) (locs : List Loc) (ls : Array Slot), rc2 S x1 = some q → zW (mG D cs ad) s S H locs → lv_has ls 3 [(0, .ref (ad 0)), (1, .int x1)] → W p l e (zR 2 40) s m args below meth c H locs 0 0 (zQv (mG D cs ad) q below args s) (F0 m 2 ls [])) (h : n_X12_closes_0_b2_l F rc2 S x1 = some q) (hW : zW (mG D cs ad) s S H locs) (hl : lv_has ls 3 [(0, .ref (ad 0)), (1, .int x1)]) : W p l e (zR 2 40) s m args below meth c H locs 0 0 (zQv (mG D cs ad) q below args s) (F0 m 2 ls []) := by
  unfold n_X12_closes_0_b2_l at h
  obtain ⟨hx, hb, hml, hown, hts, hret, hlk⟩ := id C
  refine lv_iload_n hx hb dX12_closes_2 rfl (lv_at hl 1 rfl) ?_
  refine lv_bipush (v := 24) hx hb dX12_closes_3 (by decide) ?_
  refine zz_cge (tgt := 23) C h dX12_closes_5 (by decide) (fun h => ?_) (fun h => ?_)
  · refine lv_iconst (v := 0) hx hb dX12_closes_23 (by decide) ?_
    refine lv_istore_n (lv' := [(1, .int (0 : Int32)), (0, .ref (ad 0))]) hx hb dX12_closes_24 rfl hl (by decide) rfl (fun ls hl => ?_)
    exact w_X12_closes_0_b25 (F := F) C F _ _ _ _ _ h hW (lv_sub hl [1, 0] rfl)
  · refine lv_aload_n hx hb dX12_closes_8 rfl (lv_at hl 0 rfl) ?_
    refine mg_0_19 C hW fl_X12_162 dX12_closes_9 ?_
    refine lv_iload_n hx hb dX12_closes_12 rfl (lv_at hl 1 rfl) ?_
    refine lv_iconst (v := 1) hx hb dX12_closes_13 (by decide) ?_
    refine lv_iload_n hx hb dX12_closes_14 rfl (lv_at hl 1 rfl) ?_
    refine lv_ishl hx hb dX12_closes_15 ?_
    refine ms_7 C hW h dX12_closes_16 (fun S1 H locs h hW => ?_)
    obtain ⟨v2, ev2, h⟩ := zz_name h
    refine lv_iinc (v := v2) (lv' := [(1, .int v2), (0, .ref (ad 0))]) hx hb dX12_closes_17 hl (k := 1) rfl ev2.symm (by decide) rfl (fun ls hl => ?_)
    refine lv_goto (tgt := 2) hx hb dX12_closes_20 (by decide) ?_
    exact hrc2 _ _ _ _ _ h hW (lv_sub hl [1, 0] rfl)
def n_X12_closes_0_b2 (F : Nat)  (S : Zs) (x1 : Int32) : Option (Int32 × Zs) :=
  zfix (fun (rc : (Zs × Int32) → Option (Int32 × Zs)) (u : (Zs × Int32)) => n_X12_closes_0_b2_l F  (fun S x1 => rc (S, x1)) u.1 u.2) F (S, x1)
theorem w_X12_closes_0_b2 {F : Nat} {q : (Int32 × Zs)}  (C : zC p s m args meth c cX12_closes 3 RX12 none)  : ∀ (n : Nat) (S : Zs) (x1 : Int32) (H : Heap) (locs : List Loc) (ls : Array Slot), zfix (fun (rc : (Zs × Int32) → Option (Int32 × Zs)) (u : (Zs × Int32)) => n_X12_closes_0_b2_l F  (fun S x1 => rc (S, x1)) u.1 u.2) n (S, x1) = some q → zW (mG D cs ad) s S H locs → lv_has ls 3 [(0, .ref (ad 0)), (1, .int x1)] → W p l e (zR 2 40) s m args below meth c H locs 0 0 (zQv (mG D cs ad) q below args s) (F0 m 2 ls []) := by
  intro n
  induction n with
  | zero => intro S x1 H locs ls h; exact absurd h (fun h => by cases h)
  | succ n ih => intro S x1 H locs ls h hW hl; exact w_X12_closes_0_b2_l (F := F) C (fun S x1 H locs ls h hW hl => ih S x1 H locs ls h hW hl) h hW hl
def n_X12_closes_0_e (F : Nat)  (S : Zs)  : Option (Int32 × Zs) :=
  n_X12_closes_0_b2 F  S (0 : Int32)
set_option maxRecDepth 20000 in
set_option maxHeartbeats 4000000 in
theorem w_X12_closes_0_e {F : Nat} {q : (Int32 × Zs)} {S : Zs}   {ls : Array Slot} {H : Heap} {locs : List Loc} (C : zC p s m args meth c cX12_closes 3 RX12 none)  (h : n_X12_closes_0_e F  S  = some q) (hW : zW (mG D cs ad) s S H locs) (hl : lv_has ls 3 [(0, .ref (ad 0))]) : W p l e (zR 2 40) s m args below meth c H locs 0 0 (zQv (mG D cs ad) q below args s) (F0 m 0 ls []) := by
  unfold n_X12_closes_0_e at h
  obtain ⟨hx, hb, hml, hown, hts, hret, hlk⟩ := id C
  refine lv_iconst (v := 0) hx hb dX12_closes_0 (by decide) ?_
  refine lv_istore_n (lv' := [(1, .int (0 : Int32)), (0, .ref (ad 0))]) hx hb dX12_closes_1 rfl hl (by decide) rfl (fun ls hl => ?_)
  exact w_X12_closes_0_b2 (F := F) C F _ _ _ _ _ h hW (lv_sub hl [1, 0] rfl)
def n_X12_closes_0 (F : Nat) (S : Zs)  : Option (Int32 × Zs) := n_X12_closes_0_e F  S 
theorem c_X12_closes_0 {l : Launch} {D : va_G} {cs ad : Nat → Nat} {F : Nat} {S : Zs}  {q : (Int32 × Zs)} (h : n_X12_closes_0 F S  = some q) : zMv l yX12_closes cX12_closes 3 none (zR 2 40) (mG D cs ad) [.ref (ad 0)] S q :=
  zz_enter (by decide) (Nat.le_of_ble_eq_true rfl) (fun p e s m below meth c ls C hW hl => w_X12_closes_0_e (F := F) C h hW (lv_sub hl [0] rfl))
end ZM
