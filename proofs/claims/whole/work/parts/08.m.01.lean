section ZM
variable {p : Program} {l : Launch} {e : Env} {s : State} {m : MethodId} {args : Array Value} {below : List Frame} {meth : Method} {c : Code} {D : va_G} {cs ad : Nat → Nat}
def n_X12_isTorn_b16 (F : Nat)  (S : Zs) (t0 : Int32) : Option (Int32 × Zs) :=
  zrb t0 S
set_option maxRecDepth 20000 in
set_option maxHeartbeats 4000000 in
theorem w_X12_isTorn_b16 {F : Nat} {q : (Int32 × Zs)} {S : Zs}  {t0 : Int32} {ls : Array Slot} {H : Heap} {locs : List Loc} (C : zC p s m args meth c cX12_isTorn 1 RX12 (some .boolean))  (h : n_X12_isTorn_b16 F  S t0 = some q) (hW : zW (mG D cs ad) s S H locs) (hl : lv_has ls 1 []) : W p l e (zR 0 0) s m args below meth c H locs 0 0 (zQi (mG D cs ad) q below args s) (F0 m 16 ls [.int t0]) := by
  unfold n_X12_isTorn_b16 at h
  obtain ⟨hx, hb, hml, hown, hts, hret, hlk⟩ := id C
  exact zz_zret C rfl h hW dX12_isTorn_16
def n_X12_isTorn_e (F : Nat)  (S : Zs) (x0 : Int32) : Option (Int32 × Zs) :=
  if ((x0 &&& (x0 >>> ((1 : Int32) &&& 31))) &&& (5592405 : Int32)) = 0 then (n_X12_isTorn_b16 F  S (0 : Int32)) else (n_X12_isTorn_b16 F  S (1 : Int32))
set_option maxRecDepth 20000 in
set_option maxHeartbeats 4000000 in
theorem w_X12_isTorn_e {F : Nat} {q : (Int32 × Zs)} {S : Zs}  {x0 : Int32} {ls : Array Slot} {H : Heap} {locs : List Loc} (C : zC p s m args meth c cX12_isTorn 1 RX12 (some .boolean))  (h : n_X12_isTorn_e F  S x0 = some q) (hW : zW (mG D cs ad) s S H locs) (hl : lv_has ls 1 [(0, .int x0)]) : W p l e (zR 0 0) s m args below meth c H locs 0 0 (zQi (mG D cs ad) q below args s) (F0 m 0 ls []) := by
  unfold n_X12_isTorn_e at h
  obtain ⟨hx, hb, hml, hown, hts, hret, hlk⟩ := id C
  refine lv_iload_n hx hb dX12_isTorn_0 rfl (lv_at hl 0 rfl) ?_
  refine lv_iload_n hx hb dX12_isTorn_1 rfl (lv_at hl 0 rfl) ?_
  refine lv_iconst (v := 1) hx hb dX12_isTorn_2 (by decide) ?_
  refine lv_ishr hx hb dX12_isTorn_3 ?_
  refine lv_iand hx hb dX12_isTorn_4 ?_
  refine lv_ldc (v := 5592405) hx hb hown (hts _ ct_X12_176) dX12_isTorn_5 ?_
  refine lv_iand hx hb dX12_isTorn_7 ?_
  refine zz_ieq (tgt := 15) C h dX12_isTorn_8 (by decide) (fun h => ?_) (fun h => ?_)
  · refine lv_iconst (v := 0) hx hb dX12_isTorn_15 (by decide) ?_
    exact w_X12_isTorn_b16 (F := F) C h hW (lv_sub hl [] rfl)
  · refine lv_iconst (v := 1) hx hb dX12_isTorn_11 (by decide) ?_
    refine lv_goto (tgt := 16) hx hb dX12_isTorn_12 (by decide) ?_
    exact w_X12_isTorn_b16 (F := F) C h hW (lv_sub hl [] rfl)
def n_X12_isTorn (F : Nat) (S : Zs) (x0 : Int32) : Option (Int32 × Zs) := n_X12_isTorn_e F  S x0
theorem c_X12_isTorn {l : Launch} {D : va_G} {cs ad : Nat → Nat} {F : Nat} {S : Zs} {x0 : Int32} {q : (Int32 × Zs)} (h : n_X12_isTorn F S x0 = some q) : zMi l yX12_isTorn cX12_isTorn 1 (some .boolean) (zR 0 0) (mG D cs ad) [.int x0] S q :=
  zz_enter (by decide) (Nat.le_of_ble_eq_true rfl) (fun p e s m below meth c ls C hW hl => w_X12_isTorn_e (F := F) C h hW (lv_sub hl [0] rfl))
def n_X12_can_0_b31 (F : Nat)  (S : Zs) (t0 : Int32) : Option (Int32 × Zs) :=
  zrb t0 S
set_option maxRecDepth 20000 in
set_option maxHeartbeats 4000000 in
theorem w_X12_can_0_b31 {F : Nat} {q : (Int32 × Zs)} {S : Zs}  {t0 : Int32} {ls : Array Slot} {H : Heap} {locs : List Loc} (C : zC p s m args meth c cX12_can 3 RX12 (some .boolean))  (h : n_X12_can_0_b31 F  S t0 = some q) (hW : zW (mG D cs ad) s S H locs) (hl : lv_has ls 3 []) : W p l e (zR 1 20) s m args below meth c H locs 0 0 (zQi (mG D cs ad) q below args s) (F0 m 31 ls [.int t0]) := by
  unfold n_X12_can_0_b31 at h
  obtain ⟨hx, hb, hml, hown, hts, hret, hlk⟩ := id C
  exact zz_zret C rfl h hW dX12_can_31
def n_X12_can_0_b30 (F : Nat)  (S : Zs)  : Option (Int32 × Zs) :=
  n_X12_can_0_b31 F  S (0 : Int32)
set_option maxRecDepth 20000 in
set_option maxHeartbeats 4000000 in
theorem w_X12_can_0_b30 {F : Nat} {q : (Int32 × Zs)} {S : Zs}   {ls : Array Slot} {H : Heap} {locs : List Loc} (C : zC p s m args meth c cX12_can 3 RX12 (some .boolean))  (h : n_X12_can_0_b30 F  S  = some q) (hW : zW (mG D cs ad) s S H locs) (hl : lv_has ls 3 []) : W p l e (zR 1 20) s m args below meth c H locs 0 0 (zQi (mG D cs ad) q below args s) (F0 m 30 ls []) := by
  unfold n_X12_can_0_b30 at h
  obtain ⟨hx, hb, hml, hown, hts, hret, hlk⟩ := id C
  refine lv_iconst (v := 0) hx hb dX12_can_30 (by decide) ?_
  exact w_X12_can_0_b31 (F := F) C h hW (lv_sub hl [] rfl)
def n_X12_can_0_e (F : Nat)  (S : Zs) (x1 : Int32) (x2 : Int32) : Option (Int32 × Zs) :=
  zgf S 20 (fun v1 => if v1 = 0 then (n_X12_can_0_b30 F  S ) else (zld S 7 24 x1 (fun v2 => zld S 7 24 x2 (fun v3 => zcl (n_X12_isTorn F S (v2 ||| v3)) (fun v5 S4 => if v5 = 0 then (n_X12_can_0_b31 F  S4 (1 : Int32)) else (n_X12_can_0_b30 F  S4 ))))))
set_option maxRecDepth 20000 in
set_option maxHeartbeats 4000000 in
theorem w_X12_can_0_e {F : Nat} {q : (Int32 × Zs)} {S : Zs}  {x1 : Int32} {x2 : Int32} {ls : Array Slot} {H : Heap} {locs : List Loc} (C : zC p s m args meth c cX12_can 3 RX12 (some .boolean))  (h : n_X12_can_0_e F  S x1 x2 = some q) (hW : zW (mG D cs ad) s S H locs) (hl : lv_has ls 3 [(0, .ref (ad 0)), (1, .int x1), (2, .int x2)]) : W p l e (zR 1 20) s m args below meth c H locs 0 0 (zQi (mG D cs ad) q below args s) (F0 m 0 ls []) := by
  unfold n_X12_can_0_e at h
  obtain ⟨hx, hb, hml, hown, hts, hret, hlk⟩ := id C
  refine lv_aload_n hx hb dX12_can_0 rfl (lv_at hl 0 rfl) ?_
  refine mg_0_20 C hW h fl_X12_172 dX12_can_1 (fun v1 h => ?_)
  refine zz_ieq (tgt := 30) C h dX12_can_4 (by decide) (fun h => ?_) (fun h => ?_)
  · exact w_X12_can_0_b30 (F := F) C h hW (lv_sub hl [] rfl)
  · refine lv_aload_n hx hb dX12_can_7 rfl (lv_at hl 0 rfl) ?_
    refine mg_0_19 C hW fl_X12_162 dX12_can_8 ?_
    refine lv_iload_n hx hb dX12_can_11 rfl (lv_at hl 1 rfl) ?_
    refine ml_7 C hW h dX12_can_12 (fun v2 h => ?_)
    refine lv_aload_n hx hb dX12_can_13 rfl (lv_at hl 0 rfl) ?_
    refine mg_0_19 C hW fl_X12_162 dX12_can_14 ?_
    refine lv_iload_n hx hb dX12_can_17 rfl (lv_at hl 2 rfl) ?_
    refine ml_7 C hW h dX12_can_18 (fun v3 h => ?_)
    refine lv_ior hx hb dX12_can_19 ?_
    refine zz_callSi (As := [.int (v2 ||| v3)]) C hW h (fun r hr => c_X12_isTorn hr) lk_X12_177 rfl hl.1 ⟨rfl, rfl⟩ ⟨Nat.le_of_ble_eq_true rfl, Nat.le_of_ble_eq_true rfl⟩ (Nat.le_of_ble_eq_true rfl) ⟨Nat.zero_le _, Nat.zero_le _⟩ rfl dX12_can_20 (fun v5 S4 H locs h hW => ?_)
    refine zz_ine (tgt := 30) C h dX12_can_23 (by decide) (fun h => ?_) (fun h => ?_)
    · exact w_X12_can_0_b30 (F := F) C h hW (lv_sub hl [] rfl)
    · refine lv_iconst (v := 1) hx hb dX12_can_26 (by decide) ?_
      refine lv_goto (tgt := 31) hx hb dX12_can_27 (by decide) ?_
      exact w_X12_can_0_b31 (F := F) C h hW (lv_sub hl [] rfl)
def n_X12_can_0 (F : Nat) (S : Zs) (x1 : Int32) (x2 : Int32) : Option (Int32 × Zs) := n_X12_can_0_e F  S x1 x2
theorem c_X12_can_0 {l : Launch} {D : va_G} {cs ad : Nat → Nat} {F : Nat} {S : Zs} {x1 : Int32} {x2 : Int32} {q : (Int32 × Zs)} (h : n_X12_can_0 F S x1 x2 = some q) : zMi l yX12_can cX12_can 3 (some .boolean) (zR 1 20) (mG D cs ad) [.ref (ad 0), .int x1, .int x2] S q :=
  zz_enter (by decide) (Nat.le_of_ble_eq_true rfl) (fun p e s m below meth c ls C hW hl => w_X12_can_0_e (F := F) C h hW (lv_sub hl [0, 1, 2] rfl))
def n_X12_areThere_0_b127 (F : Nat) (rc88 : Zs → Int32 → Int32 → Option (Int32 × Zs)) (S : Zs) (x2 : Int32) (t0 : Int32) : Option (Int32 × Zs) :=
  zlet (x2 + (1 : Int32)) (fun v1 => rc88 S t0 v1)
set_option maxRecDepth 20000 in
set_option maxHeartbeats 4000000 in
theorem w_X12_areThere_0_b127 {F : Nat} {q : (Int32 × Zs)} {S : Zs} {rc88 : Zs → Int32 → Int32 → Option (Int32 × Zs)} {x2 : Int32} {t0 : Int32} {ls : Array Slot} {H : Heap} {locs : List Loc} (C : zC p s m args meth c cX12_areThere 4 RX12 (some .boolean)) (hrc88 : ∀ (S : Zs) (x1 : Int32) (x2 : Int32) (H : Heap) (locs : List Loc) (ls : Array Slot), rc88 S x1 x2 = some q → zW (mG D cs ad) s S H locs → lv_has ls 4 [(0, .ref (ad 0)), (1, .int x1), (2, .int x2)] → W p l e (zR 2 42) s m args below meth c H locs 0 0 (zQi (mG D cs ad) q below args s) (F0 m 88 ls [])) (h : n_X12_areThere_0_b127 F rc88 S x2 t0 = some q) (hW : zW (mG D cs ad) s S H locs) (hl : lv_has ls 4 [(0, .ref (ad 0)), (2, .int x2)]) : W p l e (zR 2 42) s m args below meth c H locs 0 0 (zQi (mG D cs ad) q below args s) (F0 m 127 ls [.int t0]) := by
  unfold n_X12_areThere_0_b127 at h
  obtain ⟨hx, hb, hml, hown, hts, hret, hlk⟩ := id C
  refine lv_istore_n (lv' := [(1, .int t0), (0, .ref (ad 0)), (2, .int x2)]) hx hb dX12_areThere_127 rfl hl (by decide) rfl (fun ls hl => ?_)
  obtain ⟨v1, ev1, h⟩ := zz_name h
  refine lv_iinc (v := v1) (lv' := [(2, .int v1), (1, .int t0), (0, .ref (ad 0))]) hx hb dX12_areThere_128 hl (k := 2) rfl ev1.symm (by decide) rfl (fun ls hl => ?_)
  refine lv_goto (tgt := 88) hx hb dX12_areThere_131 (by decide) ?_
  exact hrc88 _ _ _ _ _ _ h hW (lv_sub hl [2, 1, 0] rfl)
def n_X12_areThere_0_b126 (F : Nat) (rc88 : Zs → Int32 → Int32 → Option (Int32 × Zs)) (S : Zs) (x2 : Int32) : Option (Int32 × Zs) :=
  n_X12_areThere_0_b127 F rc88 S x2 (0 : Int32)
set_option maxRecDepth 20000 in
set_option maxHeartbeats 4000000 in
theorem w_X12_areThere_0_b126 {F : Nat} {q : (Int32 × Zs)} {S : Zs} {rc88 : Zs → Int32 → Int32 → Option (Int32 × Zs)} {x2 : Int32} {ls : Array Slot} {H : Heap} {locs : List Loc} (C : zC p s m args meth c cX12_areThere 4 RX12 (some .boolean)) (hrc88 : ∀ (S : Zs) (x1 : Int32) (x2 : Int32) (H : Heap) (locs : List Loc) (ls : Array Slot), rc88 S x1 x2 = some q → zW (mG D cs ad) s S H locs → lv_has ls 4 [(0, .ref (ad 0)), (1, .int x1), (2, .int x2)] → W p l e (zR 2 42) s m args below meth c H locs 0 0 (zQi (mG D cs ad) q below args s) (F0 m 88 ls [])) (h : n_X12_areThere_0_b126 F rc88 S x2 = some q) (hW : zW (mG D cs ad) s S H locs) (hl : lv_has ls 4 [(0, .ref (ad 0)), (2, .int x2)]) : W p l e (zR 2 42) s m args below meth c H locs 0 0 (zQi (mG D cs ad) q below args s) (F0 m 126 ls []) := by
  unfold n_X12_areThere_0_b126 at h
  obtain ⟨hx, hb, hml, hown, hts, hret, hlk⟩ := id C
  refine lv_iconst (v := 0) hx hb dX12_areThere_126 (by decide) ?_
  exact w_X12_areThere_0_b127 (F := F) C hrc88 h hW (lv_sub hl [0, 1] rfl)
def n_X12_areThere_0_b122 (F : Nat) (rc88 : Zs → Int32 → Int32 → Option (Int32 × Zs)) (S : Zs) (x2 : Int32) : Option (Int32 × Zs) :=
  n_X12_areThere_0_b127 F rc88 S x2 (1 : Int32)
set_option maxRecDepth 20000 in
set_option maxHeartbeats 4000000 in
theorem w_X12_areThere_0_b122 {F : Nat} {q : (Int32 × Zs)} {S : Zs} {rc88 : Zs → Int32 → Int32 → Option (Int32 × Zs)} {x2 : Int32} {ls : Array Slot} {H : Heap} {locs : List Loc} (C : zC p s m args meth c cX12_areThere 4 RX12 (some .boolean)) (hrc88 : ∀ (S : Zs) (x1 : Int32) (x2 : Int32) (H : Heap) (locs : List Loc) (ls : Array Slot), rc88 S x1 x2 = some q → zW (mG D cs ad) s S H locs → lv_has ls 4 [(0, .ref (ad 0)), (1, .int x1), (2, .int x2)] → W p l e (zR 2 42) s m args below meth c H locs 0 0 (zQi (mG D cs ad) q below args s) (F0 m 88 ls [])) (h : n_X12_areThere_0_b122 F rc88 S x2 = some q) (hW : zW (mG D cs ad) s S H locs) (hl : lv_has ls 4 [(0, .ref (ad 0)), (2, .int x2)]) : W p l e (zR 2 42) s m args below meth c H locs 0 0 (zQi (mG D cs ad) q below args s) (F0 m 122 ls []) := by
  unfold n_X12_areThere_0_b122 at h
  obtain ⟨hx, hb, hml, hown, hts, hret, hlk⟩ := id C
  refine lv_iconst (v := 1) hx hb dX12_areThere_122 (by decide) ?_
  refine lv_goto (tgt := 127) hx hb dX12_areThere_123 (by decide) ?_
  exact w_X12_areThere_0_b127 (F := F) C hrc88 h hW (lv_sub hl [0, 1] rfl)
def n_X12_areThere_0_b88_l (F : Nat) (rc88 : Zs → Int32 → Int32 → Option (Int32 × Zs)) (S : Zs) (x1 : Int32) (x2 : Int32) : Option (Int32 × Zs) :=
  if (12 : Int32) ≤ x2 then (zrb x1 S) else (if x1 = 0 then (n_X12_areThere_0_b126 F rc88 S x2) else (zgf S 8 (fun v1 => zcl (n_X12_has F S v1 x2) (fun v3 S2 => if v3 = 0 then (n_X12_areThere_0_b122 F rc88 S2 x2) else (zcl (n_X12_can_0 F S2 ((2 : Int32) * x2) ((2 : Int32) * x2)) (fun v5 S4 => if v5 = 0 then (n_X12_areThere_0_b126 F rc88 S4 x2) else (n_X12_areThere_0_b122 F rc88 S4 x2)))))))
set_option maxRecDepth 20000 in
set_option maxHeartbeats 4000000 in
theorem w_X12_areThere_0_b88_l {F : Nat} {q : (Int32 × Zs)} {S : Zs} {rc88 : Zs → Int32 → Int32 → Option (Int32 × Zs)} {x1 : Int32} {x2 : Int32} {ls : Array Slot} {H : Heap} {locs : List Loc} (C : zC p s m args meth c cX12_areThere 4 RX12 (some .boolean)) (hrc88 : ∀ (S : Zs) (x1 : Int32) (x2 : Int32) (H : Heap) (locs : List Loc) (ls : Array Slot), rc88 S x1 x2 = some q → zW (mG D cs ad) s S H locs → lv_has ls 4 [(0, .ref (ad 0)), (1, .int x1), (2, .int x2)] → W p l e (zR 2 42) s m args below meth c H locs 0 0 (zQi (mG D cs ad) q below args s) (F0 m 88 ls [])) (h : n_X12_areThere_0_b88_l F rc88 S x1 x2 = some q) (hW : zW (mG D cs ad) s S H locs) (hl : lv_has ls 4 [(0, .ref (ad 0)), (1, .int x1), (2, .int x2)]) : W p l e (zR 2 42) s m args below meth c H locs 0 0 (zQi (mG D cs ad) q below args s) (F0 m 88 ls []) := by
  unfold n_X12_areThere_0_b88_l at h
  obtain ⟨hx, hb, hml, hown, hts, hret, hlk⟩ := id C
  refine lv_iload_n hx hb dX12_areThere_88 rfl (lv_at hl 2 rfl) ?_
  refine lv_bipush (v := 12) hx hb dX12_areThere_89 (by decide) ?_
  refine zz_cge (tgt := 134) C h dX12_areThere_91 (by decide) (fun h => ?_) (fun h => ?_)
  · refine lv_iload_n hx hb dX12_areThere_134 rfl (lv_at hl 1 rfl) ?_
    exact zz_zret C rfl h hW dX12_areThere_135
  · refine lv_iload_n hx hb dX12_areThere_94 rfl (lv_at hl 1 rfl) ?_
    refine zz_ieq (tgt := 126) C h dX12_areThere_95 (by decide) (fun h => ?_) (fun h => ?_)
    · exact w_X12_areThere_0_b126 (F := F) C hrc88 h hW (lv_sub hl [0, 2] rfl)
    · refine lv_aload_n hx hb dX12_areThere_98 rfl (lv_at hl 0 rfl) ?_
      refine mg_0_8 C hW h fl_X12_139 dX12_areThere_99 (fun v1 h => ?_)
      refine lv_iload_n hx hb dX12_areThere_102 rfl (lv_at hl 2 rfl) ?_
      refine zz_callSi (As := [.int v1, .int x2]) C hW h (fun r hr => c_X12_has hr) lk_X12_129 rfl hl.1 ⟨rfl, rfl⟩ ⟨Nat.le_of_ble_eq_true rfl, Nat.le_of_ble_eq_true rfl⟩ (Nat.le_of_ble_eq_true rfl) ⟨Nat.zero_le _, Nat.zero_le _⟩ rfl dX12_areThere_103 (fun v3 S2 H locs h hW => ?_)
      refine zz_ieq (tgt := 122) C h dX12_areThere_106 (by decide) (fun h => ?_) (fun h => ?_)
      · exact w_X12_areThere_0_b122 (F := F) C hrc88 h hW (lv_sub hl [0, 2] rfl)
      · refine lv_aload_n hx hb dX12_areThere_109 rfl (lv_at hl 0 rfl) ?_
        refine lv_iconst (v := 2) hx hb dX12_areThere_110 (by decide) ?_
        refine lv_iload_n hx hb dX12_areThere_111 rfl (lv_at hl 2 rfl) ?_
        refine lv_imul hx hb dX12_areThere_112 ?_
        refine lv_iconst (v := 2) hx hb dX12_areThere_113 (by decide) ?_
        refine lv_iload_n hx hb dX12_areThere_114 rfl (lv_at hl 2 rfl) ?_
        refine lv_imul hx hb dX12_areThere_115 ?_
        refine zz_callVi (As := [.int ((2 : Int32) * x2), .int ((2 : Int32) * x2)]) C hW h (fun r hr => c_X12_can_0 hr) lk_X12_180 (hW.recv mr_0) rfl hl.1 ⟨rfl, rfl⟩ ⟨Nat.le_of_ble_eq_true rfl, Nat.le_of_ble_eq_true rfl⟩ (Nat.le_of_ble_eq_true rfl) ⟨Nat.zero_le _, Nat.zero_le _⟩ rfl dX12_areThere_116 (fun v5 S4 H locs h hW => ?_)
        refine zz_ieq (tgt := 126) C h dX12_areThere_119 (by decide) (fun h => ?_) (fun h => ?_)
        · exact w_X12_areThere_0_b126 (F := F) C hrc88 h hW (lv_sub hl [0, 2] rfl)
        · exact w_X12_areThere_0_b122 (F := F) C hrc88 h hW (lv_sub hl [0, 2] rfl)
def n_X12_areThere_0_b88 (F : Nat)  (S : Zs) (x1 : Int32) (x2 : Int32) : Option (Int32 × Zs) :=
  zfix (fun (rc : (Zs × Int32 × Int32) → Option (Int32 × Zs)) (u : (Zs × Int32 × Int32)) => n_X12_areThere_0_b88_l F  (fun S x1 x2 => rc (S, x1, x2)) u.1 u.2.1 u.2.2) F (S, x1, x2)
theorem w_X12_areThere_0_b88 {F : Nat} {q : (Int32 × Zs)}  (C : zC p s m args meth c cX12_areThere 4 RX12 (some .boolean))  : ∀ (n : Nat) (S : Zs) (x1 : Int32) (x2 : Int32) (H : Heap) (locs : List Loc) (ls : Array Slot), zfix (fun (rc : (Zs × Int32 × Int32) → Option (Int32 × Zs)) (u : (Zs × Int32 × Int32)) => n_X12_areThere_0_b88_l F  (fun S x1 x2 => rc (S, x1, x2)) u.1 u.2.1 u.2.2) n (S, x1, x2) = some q → zW (mG D cs ad) s S H locs → lv_has ls 4 [(0, .ref (ad 0)), (1, .int x1), (2, .int x2)] → W p l e (zR 2 42) s m args below meth c H locs 0 0 (zQi (mG D cs ad) q below args s) (F0 m 88 ls []) := by
  intro n
  induction n with
  | zero => intro S x1 x2 H locs ls h; exact absurd h (fun h => by cases h)
  | succ n ih => intro S x1 x2 H locs ls h hW hl; exact w_X12_areThere_0_b88_l (F := F) C (fun S x1 x2 H locs ls h hW hl => ih S x1 x2 H locs ls h hW hl) h hW hl
def n_X12_areThere_0_b79 (F : Nat) (rc4 : Zs → Int32 → Int32 → Option (Int32 × Zs)) (S : Zs) (x2 : Int32) (t0 : Int32) : Option (Int32 × Zs) :=
  zlet (x2 + (1 : Int32)) (fun v1 => rc4 S t0 v1)
set_option maxRecDepth 20000 in
set_option maxHeartbeats 4000000 in
theorem w_X12_areThere_0_b79 {F : Nat} {q : (Int32 × Zs)} {S : Zs} {rc4 : Zs → Int32 → Int32 → Option (Int32 × Zs)} {x2 : Int32} {t0 : Int32} {ls : Array Slot} {H : Heap} {locs : List Loc} (C : zC p s m args meth c cX12_areThere 4 RX12 (some .boolean)) (hrc4 : ∀ (S : Zs) (x1 : Int32) (x2 : Int32) (H : Heap) (locs : List Loc) (ls : Array Slot), rc4 S x1 x2 = some q → zW (mG D cs ad) s S H locs → lv_has ls 4 [(0, .ref (ad 0)), (1, .int x1), (2, .int x2)] → W p l e (zR 2 42) s m args below meth c H locs 0 0 (zQi (mG D cs ad) q below args s) (F0 m 4 ls [])) (h : n_X12_areThere_0_b79 F rc4 S x2 t0 = some q) (hW : zW (mG D cs ad) s S H locs) (hl : lv_has ls 4 [(0, .ref (ad 0)), (2, .int x2)]) : W p l e (zR 2 42) s m args below meth c H locs 0 0 (zQi (mG D cs ad) q below args s) (F0 m 79 ls [.int t0]) := by
  unfold n_X12_areThere_0_b79 at h
  obtain ⟨hx, hb, hml, hown, hts, hret, hlk⟩ := id C
  refine lv_istore_n (lv' := [(1, .int t0), (0, .ref (ad 0)), (2, .int x2)]) hx hb dX12_areThere_79 rfl hl (by decide) rfl (fun ls hl => ?_)
  obtain ⟨v1, ev1, h⟩ := zz_name h
  refine lv_iinc (v := v1) (lv' := [(2, .int v1), (1, .int t0), (0, .ref (ad 0))]) hx hb dX12_areThere_80 hl (k := 2) rfl ev1.symm (by decide) rfl (fun ls hl => ?_)
  refine lv_goto (tgt := 4) hx hb dX12_areThere_83 (by decide) ?_
  exact hrc4 _ _ _ _ _ _ h hW (lv_sub hl [2, 1, 0] rfl)
def n_X12_areThere_0_b78 (F : Nat) (rc4 : Zs → Int32 → Int32 → Option (Int32 × Zs)) (S : Zs) (x2 : Int32) : Option (Int32 × Zs) :=
  n_X12_areThere_0_b79 F rc4 S x2 (0 : Int32)
set_option maxRecDepth 20000 in
set_option maxHeartbeats 4000000 in
theorem w_X12_areThere_0_b78 {F : Nat} {q : (Int32 × Zs)} {S : Zs} {rc4 : Zs → Int32 → Int32 → Option (Int32 × Zs)} {x2 : Int32} {ls : Array Slot} {H : Heap} {locs : List Loc} (C : zC p s m args meth c cX12_areThere 4 RX12 (some .boolean)) (hrc4 : ∀ (S : Zs) (x1 : Int32) (x2 : Int32) (H : Heap) (locs : List Loc) (ls : Array Slot), rc4 S x1 x2 = some q → zW (mG D cs ad) s S H locs → lv_has ls 4 [(0, .ref (ad 0)), (1, .int x1), (2, .int x2)] → W p l e (zR 2 42) s m args below meth c H locs 0 0 (zQi (mG D cs ad) q below args s) (F0 m 4 ls [])) (h : n_X12_areThere_0_b78 F rc4 S x2 = some q) (hW : zW (mG D cs ad) s S H locs) (hl : lv_has ls 4 [(0, .ref (ad 0)), (2, .int x2)]) : W p l e (zR 2 42) s m args below meth c H locs 0 0 (zQi (mG D cs ad) q below args s) (F0 m 78 ls []) := by
  unfold n_X12_areThere_0_b78 at h
  obtain ⟨hx, hb, hml, hown, hts, hret, hlk⟩ := id C
  refine lv_iconst (v := 0) hx hb dX12_areThere_78 (by decide) ?_
  exact w_X12_areThere_0_b79 (F := F) C hrc4 h hW (lv_sub hl [0, 1] rfl)
def n_X12_areThere_0_b74 (F : Nat) (rc4 : Zs → Int32 → Int32 → Option (Int32 × Zs)) (S : Zs) (x2 : Int32) : Option (Int32 × Zs) :=
  n_X12_areThere_0_b79 F rc4 S x2 (1 : Int32)
set_option maxRecDepth 20000 in
set_option maxHeartbeats 4000000 in
theorem w_X12_areThere_0_b74 {F : Nat} {q : (Int32 × Zs)} {S : Zs} {rc4 : Zs → Int32 → Int32 → Option (Int32 × Zs)} {x2 : Int32} {ls : Array Slot} {H : Heap} {locs : List Loc} (C : zC p s m args meth c cX12_areThere 4 RX12 (some .boolean)) (hrc4 : ∀ (S : Zs) (x1 : Int32) (x2 : Int32) (H : Heap) (locs : List Loc) (ls : Array Slot), rc4 S x1 x2 = some q → zW (mG D cs ad) s S H locs → lv_has ls 4 [(0, .ref (ad 0)), (1, .int x1), (2, .int x2)] → W p l e (zR 2 42) s m args below meth c H locs 0 0 (zQi (mG D cs ad) q below args s) (F0 m 4 ls [])) (h : n_X12_areThere_0_b74 F rc4 S x2 = some q) (hW : zW (mG D cs ad) s S H locs) (hl : lv_has ls 4 [(0, .ref (ad 0)), (2, .int x2)]) : W p l e (zR 2 42) s m args below meth c H locs 0 0 (zQi (mG D cs ad) q below args s) (F0 m 74 ls []) := by
  unfold n_X12_areThere_0_b74 at h
  obtain ⟨hx, hb, hml, hown, hts, hret, hlk⟩ := id C
  refine lv_iconst (v := 1) hx hb dX12_areThere_74 (by decide) ?_
  refine lv_goto (tgt := 79) hx hb dX12_areThere_75 (by decide) ?_
  exact w_X12_areThere_0_b79 (F := F) C hrc4 h hW (lv_sub hl [0, 1] rfl)
def n_X12_areThere_0_b68 (F : Nat) (rc4 : Zs → Int32 → Int32 → Option (Int32 × Zs)) (S : Zs) (x2 : Int32) (t0 : Int32) (t1 : Int32) : Option (Int32 × Zs) :=
  zcl (n_X12_can_0 F S t1 t0) (fun v2 S1 => if v2 = 0 then (n_X12_areThere_0_b78 F rc4 S1 x2) else (n_X12_areThere_0_b74 F rc4 S1 x2))
set_option maxRecDepth 20000 in
set_option maxHeartbeats 4000000 in
theorem w_X12_areThere_0_b68 {F : Nat} {q : (Int32 × Zs)} {S : Zs} {rc4 : Zs → Int32 → Int32 → Option (Int32 × Zs)} {x2 : Int32} {t0 : Int32} {t1 : Int32} {ls : Array Slot} {H : Heap} {locs : List Loc} (C : zC p s m args meth c cX12_areThere 4 RX12 (some .boolean)) (hrc4 : ∀ (S : Zs) (x1 : Int32) (x2 : Int32) (H : Heap) (locs : List Loc) (ls : Array Slot), rc4 S x1 x2 = some q → zW (mG D cs ad) s S H locs → lv_has ls 4 [(0, .ref (ad 0)), (1, .int x1), (2, .int x2)] → W p l e (zR 2 42) s m args below meth c H locs 0 0 (zQi (mG D cs ad) q below args s) (F0 m 4 ls [])) (h : n_X12_areThere_0_b68 F rc4 S x2 t0 t1 = some q) (hW : zW (mG D cs ad) s S H locs) (hl : lv_has ls 4 [(0, .ref (ad 0)), (2, .int x2)]) : W p l e (zR 2 42) s m args below meth c H locs 0 0 (zQi (mG D cs ad) q below args s) (F0 m 68 ls [.int t0, .int t1, .ref (ad 0)]) := by
  unfold n_X12_areThere_0_b68 at h
  obtain ⟨hx, hb, hml, hown, hts, hret, hlk⟩ := id C
  refine zz_callVi (As := [.int t1, .int t0]) C hW h (fun r hr => c_X12_can_0 hr) lk_X12_180 (hW.recv mr_0) rfl hl.1 ⟨rfl, rfl⟩ ⟨Nat.le_of_ble_eq_true rfl, Nat.le_of_ble_eq_true rfl⟩ (Nat.le_of_ble_eq_true rfl) ⟨Nat.zero_le _, Nat.zero_le _⟩ rfl dX12_areThere_68 (fun v2 S1 H locs h hW => ?_)
  refine zz_ieq (tgt := 78) C h dX12_areThere_71 (by decide) (fun h => ?_) (fun h => ?_)
  · exact w_X12_areThere_0_b78 (F := F) C hrc4 h hW (lv_sub hl [0, 1] rfl)
  · exact w_X12_areThere_0_b74 (F := F) C hrc4 h hW (lv_sub hl [0, 1] rfl)
def n_X12_areThere_0_b4_l (F : Nat) (rc4 : Zs → Int32 → Int32 → Option (Int32 × Zs)) (S : Zs) (x1 : Int32) (x2 : Int32) : Option (Int32 × Zs) :=
  zgf S 18 (fun v1 => if v1 ≤ x2 then (n_X12_areThere_0_b88 F  S x1 (0 : Int32)) else (zld S 6 18 x2 (fun v2 => zcl (n_X12_secondOf F S v2) (fun v4 S3 => if x1 = 0 then (n_X12_areThere_0_b78 F rc4 S3 x2) else (zld S3 6 18 x2 (fun v5 => zcl (n_X12_isOfAll F S3 v5) (fun v7 S6 => if v7 = 0 then (zld S6 6 18 x2 (fun v8 => zcl (n_X12_firstOf F S6 v8) (fun v10 S9 => zld S9 6 18 x2 (fun v11 => zcl (n_X12_formOf F S9 v11) (fun v13 S12 => if v13 = (2 : Int32) then (n_X12_areThere_0_b68 F rc4 S12 x2 v4 v10) else (n_X12_areThere_0_b68 F rc4 S12 x2 (v4 ^^^ (1 : Int32)) v10)))))) else (n_X12_areThere_0_b74 F rc4 S6 x2))))))))
set_option maxRecDepth 20000 in
set_option maxHeartbeats 4000000 in
theorem w_X12_areThere_0_b4_l {F : Nat} {q : (Int32 × Zs)} {S : Zs} {rc4 : Zs → Int32 → Int32 → Option (Int32 × Zs)} {x1 : Int32} {x2 : Int32} {ls : Array Slot} {H : Heap} {locs : List Loc} (C : zC p s m args meth c cX12_areThere 4 RX12 (some .boolean)) (hrc4 : ∀ (S : Zs) (x1 : Int32) (x2 : Int32) (H : Heap) (locs : List Loc) (ls : Array Slot), rc4 S x1 x2 = some q → zW (mG D cs ad) s S H locs → lv_has ls 4 [(0, .ref (ad 0)), (1, .int x1), (2, .int x2)] → W p l e (zR 2 42) s m args below meth c H locs 0 0 (zQi (mG D cs ad) q below args s) (F0 m 4 ls [])) (h : n_X12_areThere_0_b4_l F rc4 S x1 x2 = some q) (hW : zW (mG D cs ad) s S H locs) (hl : lv_has ls 4 [(0, .ref (ad 0)), (1, .int x1), (2, .int x2)]) : W p l e (zR 2 42) s m args below meth c H locs 0 0 (zQi (mG D cs ad) q below args s) (F0 m 4 ls []) := by
  unfold n_X12_areThere_0_b4_l at h
  obtain ⟨hx, hb, hml, hown, hts, hret, hlk⟩ := id C
  refine lv_iload_n hx hb dX12_areThere_4 rfl (lv_at hl 2 rfl) ?_
  refine lv_aload_n hx hb dX12_areThere_5 rfl (lv_at hl 0 rfl) ?_
  refine mg_0_18 C hW h fl_X12_156 dX12_areThere_6 (fun v1 h => ?_)
  refine zz_cge (tgt := 86) C h dX12_areThere_9 (by decide) (fun h => ?_) (fun h => ?_)
  · refine lv_iconst (v := 0) hx hb dX12_areThere_86 (by decide) ?_
    refine lv_istore_n (lv' := [(2, .int (0 : Int32)), (0, .ref (ad 0)), (1, .int x1)]) hx hb dX12_areThere_87 rfl hl (by decide) rfl (fun ls hl => ?_)
    exact w_X12_areThere_0_b88 (F := F) C F _ _ _ _ _ _ h hW (lv_sub hl [1, 2, 0] rfl)
  · refine lv_aload_n hx hb dX12_areThere_12 rfl (lv_at hl 0 rfl) ?_
    refine mg_0_17 C hW fl_X12_159 dX12_areThere_13 ?_
    refine lv_iload_n hx hb dX12_areThere_16 rfl (lv_at hl 2 rfl) ?_
    refine ml_6 C hW h dX12_areThere_17 (fun v2 h => ?_)
    refine zz_callSi (As := [.int v2]) C hW h (fun r hr => c_X12_secondOf hr) lk_X12_27 rfl hl.1 ⟨rfl, rfl⟩ ⟨Nat.le_of_ble_eq_true rfl, Nat.le_of_ble_eq_true rfl⟩ (Nat.le_of_ble_eq_true rfl) ⟨Nat.zero_le _, Nat.zero_le _⟩ rfl dX12_areThere_18 (fun v4 S3 H locs h hW => ?_)
    refine lv_istore_n (lv' := [(3, .int v4), (0, .ref (ad 0)), (1, .int x1), (2, .int x2)]) hx hb dX12_areThere_21 rfl hl (by decide) rfl (fun ls hl => ?_)
    refine lv_iload_n hx hb dX12_areThere_22 rfl (lv_at hl 2 rfl) ?_
    refine zz_ieq (tgt := 78) C h dX12_areThere_23 (by decide) (fun h => ?_) (fun h => ?_)
    · exact w_X12_areThere_0_b78 (F := F) C hrc4 h hW (lv_sub hl [1, 3] rfl)
    · refine lv_aload_n hx hb dX12_areThere_26 rfl (lv_at hl 1 rfl) ?_
      refine mg_0_17 C hW fl_X12_159 dX12_areThere_27 ?_
      refine lv_iload_n hx hb dX12_areThere_30 rfl (lv_at hl 3 rfl) ?_
      refine ml_6 C hW h dX12_areThere_31 (fun v5 h => ?_)
      refine zz_callSi (As := [.int v5]) C hW h (fun r hr => c_X12_isOfAll hr) lk_X12_165 rfl hl.1 ⟨rfl, rfl⟩ ⟨Nat.le_of_ble_eq_true rfl, Nat.le_of_ble_eq_true rfl⟩ (Nat.le_of_ble_eq_true rfl) ⟨Nat.zero_le _, Nat.zero_le _⟩ rfl dX12_areThere_32 (fun v7 S6 H locs h hW => ?_)
      refine zz_ine (tgt := 74) C h dX12_areThere_35 (by decide) (fun h => ?_) (fun h => ?_)
      · exact w_X12_areThere_0_b74 (F := F) C hrc4 h hW (lv_sub hl [1, 3] rfl)
      · refine lv_aload_n hx hb dX12_areThere_38 rfl (lv_at hl 1 rfl) ?_
        refine lv_aload_n hx hb dX12_areThere_39 rfl (lv_at hl 1 rfl) ?_
        refine mg_0_17 C hW fl_X12_159 dX12_areThere_40 ?_
        refine lv_iload_n hx hb dX12_areThere_43 rfl (lv_at hl 3 rfl) ?_
        refine ml_6 C hW h dX12_areThere_44 (fun v8 h => ?_)
        refine zz_callSi (As := [.int v8]) C hW h (fun r hr => c_X12_firstOf hr) lk_X12_24 rfl hl.1 ⟨rfl, rfl⟩ ⟨Nat.le_of_ble_eq_true rfl, Nat.le_of_ble_eq_true rfl⟩ (Nat.le_of_ble_eq_true rfl) ⟨Nat.zero_le _, Nat.zero_le _⟩ rfl dX12_areThere_45 (fun v10 S9 H locs h hW => ?_)
        refine lv_aload_n hx hb dX12_areThere_48 rfl (lv_at hl 1 rfl) ?_
        refine mg_0_17 C hW fl_X12_159 dX12_areThere_49 ?_
        refine lv_iload_n hx hb dX12_areThere_52 rfl (lv_at hl 3 rfl) ?_
        refine ml_6 C hW h dX12_areThere_53 (fun v11 h => ?_)
        refine zz_callSi (As := [.int v11]) C hW h (fun r hr => c_X12_formOf hr) lk_X12_20 rfl hl.1 ⟨rfl, rfl⟩ ⟨Nat.le_of_ble_eq_true rfl, Nat.le_of_ble_eq_true rfl⟩ (Nat.le_of_ble_eq_true rfl) ⟨Nat.zero_le _, Nat.zero_le _⟩ rfl dX12_areThere_54 (fun v13 S12 H locs h hW => ?_)
        refine lv_iconst (v := 2) hx hb dX12_areThere_57 (by decide) ?_
        refine zz_cne (tgt := 65) C h dX12_areThere_58 (by decide) (fun h => ?_) (fun h => ?_)
        · refine lv_iload_n hx hb dX12_areThere_65 rfl (lv_at hl 0 rfl) ?_
          refine lv_iconst (v := 1) hx hb dX12_areThere_66 (by decide) ?_
          refine lv_ixor hx hb dX12_areThere_67 ?_
          exact w_X12_areThere_0_b68 (F := F) C hrc4 h hW (lv_sub hl [1, 3] rfl)
        · refine lv_iload_n hx hb dX12_areThere_61 rfl (lv_at hl 0 rfl) ?_
          refine lv_goto (tgt := 68) hx hb dX12_areThere_62 (by decide) ?_
          exact w_X12_areThere_0_b68 (F := F) C hrc4 h hW (lv_sub hl [1, 3] rfl)
def n_X12_areThere_0_b4 (F : Nat)  (S : Zs) (x1 : Int32) (x2 : Int32) : Option (Int32 × Zs) :=
  zfix (fun (rc : (Zs × Int32 × Int32) → Option (Int32 × Zs)) (u : (Zs × Int32 × Int32)) => n_X12_areThere_0_b4_l F  (fun S x1 x2 => rc (S, x1, x2)) u.1 u.2.1 u.2.2) F (S, x1, x2)
theorem w_X12_areThere_0_b4 {F : Nat} {q : (Int32 × Zs)}  (C : zC p s m args meth c cX12_areThere 4 RX12 (some .boolean))  : ∀ (n : Nat) (S : Zs) (x1 : Int32) (x2 : Int32) (H : Heap) (locs : List Loc) (ls : Array Slot), zfix (fun (rc : (Zs × Int32 × Int32) → Option (Int32 × Zs)) (u : (Zs × Int32 × Int32)) => n_X12_areThere_0_b4_l F  (fun S x1 x2 => rc (S, x1, x2)) u.1 u.2.1 u.2.2) n (S, x1, x2) = some q → zW (mG D cs ad) s S H locs → lv_has ls 4 [(0, .ref (ad 0)), (1, .int x1), (2, .int x2)] → W p l e (zR 2 42) s m args below meth c H locs 0 0 (zQi (mG D cs ad) q below args s) (F0 m 4 ls []) := by
  intro n
  induction n with
  | zero => intro S x1 x2 H locs ls h; exact absurd h (fun h => by cases h)
  | succ n ih => intro S x1 x2 H locs ls h hW hl; exact w_X12_areThere_0_b4_l (F := F) C (fun S x1 x2 H locs ls h hW hl => ih S x1 x2 H locs ls h hW hl) h hW hl
def n_X12_areThere_0_e (F : Nat)  (S : Zs)  : Option (Int32 × Zs) :=
  n_X12_areThere_0_b4 F  S (1 : Int32) (0 : Int32)
set_option maxRecDepth 20000 in
set_option maxHeartbeats 4000000 in
theorem w_X12_areThere_0_e {F : Nat} {q : (Int32 × Zs)} {S : Zs}   {ls : Array Slot} {H : Heap} {locs : List Loc} (C : zC p s m args meth c cX12_areThere 4 RX12 (some .boolean))  (h : n_X12_areThere_0_e F  S  = some q) (hW : zW (mG D cs ad) s S H locs) (hl : lv_has ls 4 [(0, .ref (ad 0))]) : W p l e (zR 2 42) s m args below meth c H locs 0 0 (zQi (mG D cs ad) q below args s) (F0 m 0 ls []) := by
  unfold n_X12_areThere_0_e at h
  obtain ⟨hx, hb, hml, hown, hts, hret, hlk⟩ := id C
  refine lv_iconst (v := 1) hx hb dX12_areThere_0 (by decide) ?_
  refine lv_istore_n (lv' := [(1, .int (1 : Int32)), (0, .ref (ad 0))]) hx hb dX12_areThere_1 rfl hl (by decide) rfl (fun ls hl => ?_)
  refine lv_iconst (v := 0) hx hb dX12_areThere_2 (by decide) ?_
  refine lv_istore_n (lv' := [(2, .int (0 : Int32)), (1, .int (1 : Int32)), (0, .ref (ad 0))]) hx hb dX12_areThere_3 rfl hl (by decide) rfl (fun ls hl => ?_)
  exact w_X12_areThere_0_b4 (F := F) C F _ _ _ _ _ _ h hW (lv_sub hl [2, 1, 0] rfl)
def n_X12_areThere_0 (F : Nat) (S : Zs)  : Option (Int32 × Zs) := n_X12_areThere_0_e F  S 
theorem c_X12_areThere_0 {l : Launch} {D : va_G} {cs ad : Nat → Nat} {F : Nat} {S : Zs}  {q : (Int32 × Zs)} (h : n_X12_areThere_0 F S  = some q) : zMi l yX12_areThere cX12_areThere 4 (some .boolean) (zR 2 42) (mG D cs ad) [.ref (ad 0)] S q :=
  zz_enter (by decide) (Nat.le_of_ble_eq_true rfl) (fun p e s m below meth c ls C hW hl => w_X12_areThere_0_e (F := F) C h hW (lv_sub hl [0] rfl))
def n_X12_holdsLaid_0_e (F : Nat)  (S : Zs)  : Option (Int32 × Zs) :=
  zcl (n_X12_closes_0 F S ) (fun v2 S1 => zcl (n_X12_areThere_0 F S1 ) (fun v4 S3 => zrb v4 S3))
set_option maxRecDepth 20000 in
set_option maxHeartbeats 4000000 in
theorem w_X12_holdsLaid_0_e {F : Nat} {q : (Int32 × Zs)} {S : Zs}   {ls : Array Slot} {H : Heap} {locs : List Loc} (C : zC p s m args meth c cX12_holdsLaid 1 RX12 (some .boolean))  (h : n_X12_holdsLaid_0_e F  S  = some q) (hW : zW (mG D cs ad) s S H locs) (hl : lv_has ls 1 [(0, .ref (ad 0))]) : W p l e (zR 3 65) s m args below meth c H locs 0 0 (zQi (mG D cs ad) q below args s) (F0 m 0 ls []) := by
  unfold n_X12_holdsLaid_0_e at h
  obtain ⟨hx, hb, hml, hown, hts, hret, hlk⟩ := id C
  refine lv_aload_n hx hb dX12_holdsLaid_0 rfl (lv_at hl 0 rfl) ?_
  refine zz_callVv (As := []) C hW h (fun r hr => c_X12_closes_0 hr) lk_X12_183 (hW.recv mr_0) rfl hl.1 ⟨rfl, rfl⟩ ⟨Nat.le_of_ble_eq_true rfl, Nat.le_of_ble_eq_true rfl⟩ (Nat.le_of_ble_eq_true rfl) ⟨Nat.zero_le _, Nat.zero_le _⟩ rfl dX12_holdsLaid_1 (fun v2 S1 H locs h hW => ?_)
  refine lv_aload_n hx hb dX12_holdsLaid_4 rfl (lv_at hl 0 rfl) ?_
  refine zz_callVi (As := []) C hW h (fun r hr => c_X12_areThere_0 hr) lk_X12_187 (hW.recv mr_0) rfl hl.1 ⟨rfl, rfl⟩ ⟨Nat.le_of_ble_eq_true rfl, Nat.le_of_ble_eq_true rfl⟩ (Nat.le_of_ble_eq_true rfl) ⟨Nat.zero_le _, Nat.zero_le _⟩ rfl dX12_holdsLaid_5 (fun v4 S3 H locs h hW => ?_)
  exact zz_zret C rfl h hW dX12_holdsLaid_8
def n_X12_holdsLaid_0 (F : Nat) (S : Zs)  : Option (Int32 × Zs) := n_X12_holdsLaid_0_e F  S 
theorem c_X12_holdsLaid_0 {l : Launch} {D : va_G} {cs ad : Nat → Nat} {F : Nat} {S : Zs}  {q : (Int32 × Zs)} (h : n_X12_holdsLaid_0 F S  = some q) : zMi l yX12_holdsLaid cX12_holdsLaid 1 (some .boolean) (zR 3 65) (mG D cs ad) [.ref (ad 0)] S q :=
  zz_enter (by decide) (Nat.le_of_ble_eq_true rfl) (fun p e s m below meth c ls C hW hl => w_X12_holdsLaid_0_e (F := F) C h hW (lv_sub hl [0] rfl))
def n_X12_followsLaid_0_b20 (F : Nat)  (S : Zs) (t0 : Int32) : Option (Int32 × Zs) :=
  zgf S 18 (fun v1 => zpf S 18 (v1 - (1 : Int32)) (fun S2 => zrb t0 S2))
set_option maxRecDepth 20000 in
set_option maxHeartbeats 4000000 in
theorem w_X12_followsLaid_0_b20 {F : Nat} {q : (Int32 × Zs)} {S : Zs}  {t0 : Int32} {ls : Array Slot} {H : Heap} {locs : List Loc} (C : zC p s m args meth c cX12_followsLaid 3 RX12 (some .boolean))  (h : n_X12_followsLaid_0_b20 F  S t0 = some q) (hW : zW (mG D cs ad) s S H locs) (hl : lv_has ls 3 [(0, .ref (ad 0))]) : W p l e (zR 4 85) s m args below meth c H locs 0 0 (zQi (mG D cs ad) q below args s) (F0 m 20 ls [.int t0]) := by
  unfold n_X12_followsLaid_0_b20 at h
  obtain ⟨hx, hb, hml, hown, hts, hret, hlk⟩ := id C
  refine lv_istore_n (lv' := [(2, .int t0), (0, .ref (ad 0))]) hx hb dX12_followsLaid_20 rfl hl (by decide) rfl (fun ls hl => ?_)
  refine lv_aload_n hx hb dX12_followsLaid_21 rfl (lv_at hl 1 rfl) ?_
  refine lv_dup hx hb dX12_followsLaid_22 rfl ?_
  refine mg_0_18 C hW h fl_X12_156 dX12_followsLaid_23 (fun v1 h => ?_)
  refine lv_iconst (v := 1) hx hb dX12_followsLaid_26 (by decide) ?_
  refine lv_isub hx hb dX12_followsLaid_27 ?_
  refine mp_0_18 C hW h fl_X12_156 dX12_followsLaid_28 (fun S2 H locs h hW => ?_)
  refine lv_iload_n hx hb dX12_followsLaid_31 rfl (lv_at hl 0 rfl) ?_
  exact zz_zret C rfl h hW dX12_followsLaid_32
def n_X12_followsLaid_0_e (F : Nat)  (S : Zs) (x1 : Int32) : Option (Int32 × Zs) :=
  zcl (n_X12_contraryOf F S x1) (fun v2 S1 => zcl (n_X12_laysMore_0 F S1 v2) (fun v4 S3 => zcl (n_X12_holdsLaid_0 F S3 ) (fun v6 S5 => if v6 = 0 then (n_X12_followsLaid_0_b20 F  S5 (1 : Int32)) else (n_X12_followsLaid_0_b20 F  S5 (0 : Int32)))))
set_option maxRecDepth 20000 in
set_option maxHeartbeats 4000000 in
theorem w_X12_followsLaid_0_e {F : Nat} {q : (Int32 × Zs)} {S : Zs}  {x1 : Int32} {ls : Array Slot} {H : Heap} {locs : List Loc} (C : zC p s m args meth c cX12_followsLaid 3 RX12 (some .boolean))  (h : n_X12_followsLaid_0_e F  S x1 = some q) (hW : zW (mG D cs ad) s S H locs) (hl : lv_has ls 3 [(0, .ref (ad 0)), (1, .int x1)]) : W p l e (zR 4 85) s m args below meth c H locs 0 0 (zQi (mG D cs ad) q below args s) (F0 m 0 ls []) := by
  unfold n_X12_followsLaid_0_e at h
  obtain ⟨hx, hb, hml, hown, hts, hret, hlk⟩ := id C
  refine lv_aload_n hx hb dX12_followsLaid_0 rfl (lv_at hl 0 rfl) ?_
  refine lv_iload_n hx hb dX12_followsLaid_1 rfl (lv_at hl 1 rfl) ?_
  refine zz_callSi (As := [.int x1]) C hW h (fun r hr => c_X12_contraryOf hr) lk_X12_190 rfl hl.1 ⟨rfl, rfl⟩ ⟨Nat.le_of_ble_eq_true rfl, Nat.le_of_ble_eq_true rfl⟩ (Nat.le_of_ble_eq_true rfl) ⟨Nat.zero_le _, Nat.zero_le _⟩ rfl dX12_followsLaid_2 (fun v2 S1 H locs h hW => ?_)
  refine zz_callVv (As := [.int v2]) C hW h (fun r hr => c_X12_laysMore_0 hr) lk_X12_193 (hW.recv mr_0) rfl hl.1 ⟨rfl, rfl⟩ ⟨Nat.le_of_ble_eq_true rfl, Nat.le_of_ble_eq_true rfl⟩ (Nat.le_of_ble_eq_true rfl) ⟨Nat.zero_le _, Nat.zero_le _⟩ rfl dX12_followsLaid_5 (fun v4 S3 H locs h hW => ?_)
  refine lv_aload_n hx hb dX12_followsLaid_8 rfl (lv_at hl 0 rfl) ?_
  refine zz_callVi (As := []) C hW h (fun r hr => c_X12_holdsLaid_0 hr) lk_X12_197 (hW.recv mr_0) rfl hl.1 ⟨rfl, rfl⟩ ⟨Nat.le_of_ble_eq_true rfl, Nat.le_of_ble_eq_true rfl⟩ (Nat.le_of_ble_eq_true rfl) ⟨Nat.zero_le _, Nat.zero_le _⟩ rfl dX12_followsLaid_9 (fun v6 S5 H locs h hW => ?_)
  refine zz_ine (tgt := 19) C h dX12_followsLaid_12 (by decide) (fun h => ?_) (fun h => ?_)
  · refine lv_iconst (v := 0) hx hb dX12_followsLaid_19 (by decide) ?_
    exact w_X12_followsLaid_0_b20 (F := F) C h hW (lv_sub hl [0] rfl)
  · refine lv_iconst (v := 1) hx hb dX12_followsLaid_15 (by decide) ?_
    refine lv_goto (tgt := 20) hx hb dX12_followsLaid_16 (by decide) ?_
    exact w_X12_followsLaid_0_b20 (F := F) C h hW (lv_sub hl [0] rfl)
def n_X12_followsLaid_0 (F : Nat) (S : Zs) (x1 : Int32) : Option (Int32 × Zs) := n_X12_followsLaid_0_e F  S x1
theorem c_X12_followsLaid_0 {l : Launch} {D : va_G} {cs ad : Nat → Nat} {F : Nat} {S : Zs} {x1 : Int32} {q : (Int32 × Zs)} (h : n_X12_followsLaid_0 F S x1 = some q) : zMi l yX12_followsLaid cX12_followsLaid 3 (some .boolean) (zR 4 85) (mG D cs ad) [.ref (ad 0), .int x1] S q :=
  zz_enter (by decide) (Nat.le_of_ble_eq_true rfl) (fun p e s m below meth c ls C hW hl => w_X12_followsLaid_0_e (F := F) C h hW (lv_sub hl [0, 1] rfl))
def n_X12_followsFrom_0_e (F : Nat)  (S : Zs) (x1 : Int32) (x2 : Int32) : Option (Int32 × Zs) :=
  zcl (n_X12_lays_0 F S x1) (fun v2 S1 => zcl (n_X12_followsLaid_0 F S1 x2) (fun v4 S3 => zrb v4 S3))
set_option maxRecDepth 20000 in
set_option maxHeartbeats 4000000 in
theorem w_X12_followsFrom_0_e {F : Nat} {q : (Int32 × Zs)} {S : Zs}  {x1 : Int32} {x2 : Int32} {ls : Array Slot} {H : Heap} {locs : List Loc} (C : zC p s m args meth c cX12_followsFrom 3 RX12 (some .boolean))  (h : n_X12_followsFrom_0_e F  S x1 x2 = some q) (hW : zW (mG D cs ad) s S H locs) (hl : lv_has ls 3 [(0, .ref (ad 0)), (1, .int x1), (2, .int x2)]) : W p l e (zR 5 107) s m args below meth c H locs 0 0 (zQi (mG D cs ad) q below args s) (F0 m 0 ls []) := by
  unfold n_X12_followsFrom_0_e at h
  obtain ⟨hx, hb, hml, hown, hts, hret, hlk⟩ := id C
  refine lv_aload_n hx hb dX12_followsFrom_0 rfl (lv_at hl 0 rfl) ?_
  refine lv_iload_n hx hb dX12_followsFrom_1 rfl (lv_at hl 1 rfl) ?_
  refine zz_callVv (As := [.int x1]) C hW h (fun r hr => c_X12_lays_0 hr) lk_X12_200 (hW.recv mr_0) rfl hl.1 ⟨rfl, rfl⟩ ⟨Nat.le_of_ble_eq_true rfl, Nat.le_of_ble_eq_true rfl⟩ (Nat.le_of_ble_eq_true rfl) ⟨Nat.zero_le _, Nat.zero_le _⟩ rfl dX12_followsFrom_2 (fun v2 S1 H locs h hW => ?_)
  refine lv_aload_n hx hb dX12_followsFrom_5 rfl (lv_at hl 0 rfl) ?_
  refine lv_iload_n hx hb dX12_followsFrom_6 rfl (lv_at hl 2 rfl) ?_
  refine zz_callVi (As := [.int x2]) C hW h (fun r hr => c_X12_followsLaid_0 hr) lk_X12_203 (hW.recv mr_0) rfl hl.1 ⟨rfl, rfl⟩ ⟨Nat.le_of_ble_eq_true rfl, Nat.le_of_ble_eq_true rfl⟩ (Nat.le_of_ble_eq_true rfl) ⟨Nat.zero_le _, Nat.zero_le _⟩ rfl dX12_followsFrom_7 (fun v4 S3 H locs h hW => ?_)
  exact zz_zret C rfl h hW dX12_followsFrom_10
def n_X12_followsFrom_0 (F : Nat) (S : Zs) (x1 : Int32) (x2 : Int32) : Option (Int32 × Zs) := n_X12_followsFrom_0_e F  S x1 x2
theorem c_X12_followsFrom_0 {l : Launch} {D : va_G} {cs ad : Nat → Nat} {F : Nat} {S : Zs} {x1 : Int32} {x2 : Int32} {q : (Int32 × Zs)} (h : n_X12_followsFrom_0 F S x1 x2 = some q) : zMi l yX12_followsFrom cX12_followsFrom 3 (some .boolean) (zR 5 107) (mG D cs ad) [.ref (ad 0), .int x1, .int x2] S q :=
  zz_enter (by decide) (Nat.le_of_ble_eq_true rfl) (fun p e s m below meth c ls C hW hl => w_X12_followsFrom_0_e (F := F) C h hW (lv_sub hl [0, 1, 2] rfl))
def n_X12_holdsBy_0_e (F : Nat)  (S : Zs) (x1 : Int32) : Option (Int32 × Zs) :=
  zcl (n_X12_lays_0 F S x1) (fun v2 S1 => zcl (n_X12_holdsLaid_0 F S1 ) (fun v4 S3 => zrb v4 S3))
set_option maxRecDepth 20000 in
set_option maxHeartbeats 4000000 in
theorem w_X12_holdsBy_0_e {F : Nat} {q : (Int32 × Zs)} {S : Zs}  {x1 : Int32} {ls : Array Slot} {H : Heap} {locs : List Loc} (C : zC p s m args meth c cX12_holdsBy 2 RX12 (some .boolean))  (h : n_X12_holdsBy_0_e F  S x1 = some q) (hW : zW (mG D cs ad) s S H locs) (hl : lv_has ls 2 [(0, .ref (ad 0)), (1, .int x1)]) : W p l e (zR 4 85) s m args below meth c H locs 0 0 (zQi (mG D cs ad) q below args s) (F0 m 0 ls []) := by
  unfold n_X12_holdsBy_0_e at h
  obtain ⟨hx, hb, hml, hown, hts, hret, hlk⟩ := id C
  refine lv_aload_n hx hb dX12_holdsBy_0 rfl (lv_at hl 0 rfl) ?_
  refine lv_iload_n hx hb dX12_holdsBy_1 rfl (lv_at hl 1 rfl) ?_
  refine zz_callVv (As := [.int x1]) C hW h (fun r hr => c_X12_lays_0 hr) lk_X12_200 (hW.recv mr_0) rfl hl.1 ⟨rfl, rfl⟩ ⟨Nat.le_of_ble_eq_true rfl, Nat.le_of_ble_eq_true rfl⟩ (Nat.le_of_ble_eq_true rfl) ⟨Nat.zero_le _, Nat.zero_le _⟩ rfl dX12_holdsBy_2 (fun v2 S1 H locs h hW => ?_)
  refine lv_aload_n hx hb dX12_holdsBy_5 rfl (lv_at hl 0 rfl) ?_
  refine zz_callVi (As := []) C hW h (fun r hr => c_X12_holdsLaid_0 hr) lk_X12_197 (hW.recv mr_0) rfl hl.1 ⟨rfl, rfl⟩ ⟨Nat.le_of_ble_eq_true rfl, Nat.le_of_ble_eq_true rfl⟩ (Nat.le_of_ble_eq_true rfl) ⟨Nat.zero_le _, Nat.zero_le _⟩ rfl dX12_holdsBy_6 (fun v4 S3 H locs h hW => ?_)
  exact zz_zret C rfl h hW dX12_holdsBy_9
def n_X12_holdsBy_0 (F : Nat) (S : Zs) (x1 : Int32) : Option (Int32 × Zs) := n_X12_holdsBy_0_e F  S x1
theorem c_X12_holdsBy_0 {l : Launch} {D : va_G} {cs ad : Nat → Nat} {F : Nat} {S : Zs} {x1 : Int32} {q : (Int32 × Zs)} (h : n_X12_holdsBy_0 F S x1 = some q) : zMi l yX12_holdsBy cX12_holdsBy 2 (some .boolean) (zR 4 85) (mG D cs ad) [.ref (ad 0), .int x1] S q :=
  zz_enter (by decide) (Nat.le_of_ble_eq_true rfl) (fun p e s m below meth c ls C hW hl => w_X12_holdsBy_0_e (F := F) C h hW (lv_sub hl [0, 1] rfl))
def n_X12_holds_0_e (F : Nat)  (S : Zs)  : Option (Int32 × Zs) :=
  zpf S 0 (0 : Int32) (fun S1 => zcl (n_X12_standing_0 F S1 ) (fun v3 S2 => zcl (n_X12_holdsBy_0 F S2 v3) (fun v5 S4 => zcl (n_X12_flag F S4 v5) (fun v7 S6 => some (v7, S6)))))
set_option maxRecDepth 20000 in
set_option maxHeartbeats 4000000 in
theorem w_X12_holds_0_e {F : Nat} {q : (Int32 × Zs)} {S : Zs}   {ls : Array Slot} {H : Heap} {locs : List Loc} (C : zC p s m args meth c cX12_holds 1 RX12 (some .int))  (h : n_X12_holds_0_e F  S  = some q) (hW : zW (mG D cs ad) s S H locs) (hl : lv_has ls 1 [(0, .ref (ad 0))]) : W p l e (zR 5 106) s m args below meth c H locs 0 0 (zQi (mG D cs ad) q below args s) (F0 m 0 ls []) := by
  unfold n_X12_holds_0_e at h
  obtain ⟨hx, hb, hml, hown, hts, hret, hlk⟩ := id C
  refine lv_aload_n hx hb dX12_holds_0 rfl (lv_at hl 0 rfl) ?_
  refine lv_iconst (v := 0) hx hb dX12_holds_1 (by decide) ?_
  refine mp_0_0 C hW h fl_X12_3 dX12_holds_2 (fun S1 H locs h hW => ?_)
  refine lv_aload_n hx hb dX12_holds_5 rfl (lv_at hl 0 rfl) ?_
  refine lv_aload_n hx hb dX12_holds_6 rfl (lv_at hl 0 rfl) ?_
  refine zz_callVi (As := []) C hW h (fun r hr => c_X12_standing_0 hr) lk_X12_206 (hW.recv mr_0) rfl hl.1 ⟨rfl, rfl⟩ ⟨Nat.le_of_ble_eq_true rfl, Nat.le_of_ble_eq_true rfl⟩ (Nat.le_of_ble_eq_true rfl) ⟨Nat.zero_le _, Nat.zero_le _⟩ rfl dX12_holds_7 (fun v3 S2 H locs h hW => ?_)
  refine zz_callVi (As := [.int v3]) C hW h (fun r hr => c_X12_holdsBy_0 hr) lk_X12_209 (hW.recv mr_0) rfl hl.1 ⟨rfl, rfl⟩ ⟨Nat.le_of_ble_eq_true rfl, Nat.le_of_ble_eq_true rfl⟩ (Nat.le_of_ble_eq_true rfl) ⟨Nat.zero_le _, Nat.zero_le _⟩ rfl dX12_holds_10 (fun v5 S4 H locs h hW => ?_)
  refine zz_callSi (As := [.int v5]) C hW h (fun r hr => c_X12_flag hr) lk_X12_52 rfl hl.1 ⟨rfl, rfl⟩ ⟨Nat.le_of_ble_eq_true rfl, Nat.le_of_ble_eq_true rfl⟩ (Nat.le_of_ble_eq_true rfl) ⟨Nat.zero_le _, Nat.zero_le _⟩ rfl dX12_holds_13 (fun v7 S6 H locs h hW => ?_)
  exact zz_iret C rfl h hW dX12_holds_16
def n_X12_holds_0 (F : Nat) (S : Zs)  : Option (Int32 × Zs) := n_X12_holds_0_e F  S 
theorem c_X12_holds_0 {l : Launch} {D : va_G} {cs ad : Nat → Nat} {F : Nat} {S : Zs}  {q : (Int32 × Zs)} (h : n_X12_holds_0 F S  = some q) : zMi l yX12_holds cX12_holds 1 (some .int) (zR 5 106) (mG D cs ad) [.ref (ad 0)] S q :=
  zz_enter (by decide) (Nat.le_of_ble_eq_true rfl) (fun p e s m below meth c ls C hW hl => w_X12_holds_0_e (F := F) C h hW (lv_sub hl [0] rfl))
def n_X12_follows_0_b52 (F : Nat)  (S : Zs) (t0 : Int32) : Option (Int32 × Zs) :=
  some (t0, S)
set_option maxRecDepth 20000 in
set_option maxHeartbeats 4000000 in
theorem w_X12_follows_0_b52 {F : Nat} {q : (Int32 × Zs)} {S : Zs}  {t0 : Int32} {ls : Array Slot} {H : Heap} {locs : List Loc} (C : zC p s m args meth c cX12_follows 2 RX12 (some .int))  (h : n_X12_follows_0_b52 F  S t0 = some q) (hW : zW (mG D cs ad) s S H locs) (hl : lv_has ls 2 []) : W p l e (zR 6 129) s m args below meth c H locs 0 0 (zQi (mG D cs ad) q below args s) (F0 m 52 ls [.int t0]) := by
  unfold n_X12_follows_0_b52 at h
  obtain ⟨hx, hb, hml, hown, hts, hret, hlk⟩ := id C
  exact zz_iret C rfl h hW dX12_follows_52
def n_X12_follows_0_e (F : Nat)  (S : Zs) (x1 : Int32) : Option (Int32 × Zs) :=
  zpf S 0 (0 : Int32) (fun S1 => zcl (n_X12_isCode F S1 x1) (fun v3 S2 => if v3 = 0 then (some ((-1 : Int32), S2)) else (zcl (n_X12_standing_0 F S2 ) (fun v5 S4 => zcl (n_X12_followsFrom_0 F S4 v5 x1) (fun v7 S6 => if v7 = 0 then (some ((0 : Int32), S6)) else (zcl (n_X12_standing_0 F S6 ) (fun v9 S8 => zgf S8 6 (fun v10 => zcl (n_X12_followsFrom_0 F S8 (v9 &&& (v10 ^^^ (-1 : Int32))) x1) (fun v12 S11 => if v12 = 0 then (n_X12_follows_0_b52 F  S11 (1 : Int32)) else (n_X12_follows_0_b52 F  S11 (2 : Int32)))))))))))
set_option maxRecDepth 20000 in
set_option maxHeartbeats 4000000 in
theorem w_X12_follows_0_e {F : Nat} {q : (Int32 × Zs)} {S : Zs}  {x1 : Int32} {ls : Array Slot} {H : Heap} {locs : List Loc} (C : zC p s m args meth c cX12_follows 2 RX12 (some .int))  (h : n_X12_follows_0_e F  S x1 = some q) (hW : zW (mG D cs ad) s S H locs) (hl : lv_has ls 2 [(0, .ref (ad 0)), (1, .int x1)]) : W p l e (zR 6 129) s m args below meth c H locs 0 0 (zQi (mG D cs ad) q below args s) (F0 m 0 ls []) := by
  unfold n_X12_follows_0_e at h
  obtain ⟨hx, hb, hml, hown, hts, hret, hlk⟩ := id C
  refine lv_aload_n hx hb dX12_follows_0 rfl (lv_at hl 0 rfl) ?_
  refine lv_iconst (v := 0) hx hb dX12_follows_1 (by decide) ?_
  refine mp_0_0 C hW h fl_X12_3 dX12_follows_2 (fun S1 H locs h hW => ?_)
  refine lv_iload_n hx hb dX12_follows_5 rfl (lv_at hl 1 rfl) ?_
  refine zz_callSi (As := [.int x1]) C hW h (fun r hr => c_X12_isCode hr) lk_X12_142 rfl hl.1 ⟨rfl, rfl⟩ ⟨Nat.le_of_ble_eq_true rfl, Nat.le_of_ble_eq_true rfl⟩ (Nat.le_of_ble_eq_true rfl) ⟨Nat.zero_le _, Nat.zero_le _⟩ rfl dX12_follows_6 (fun v3 S2 H locs h hW => ?_)
  refine zz_ine (tgt := 14) C h dX12_follows_9 (by decide) (fun h => ?_) (fun h => ?_)
  · refine lv_aload_n hx hb dX12_follows_14 rfl (lv_at hl 0 rfl) ?_
    refine lv_aload_n hx hb dX12_follows_15 rfl (lv_at hl 0 rfl) ?_
    refine zz_callVi (As := []) C hW h (fun r hr => c_X12_standing_0 hr) lk_X12_206 (hW.recv mr_0) rfl hl.1 ⟨rfl, rfl⟩ ⟨Nat.le_of_ble_eq_true rfl, Nat.le_of_ble_eq_true rfl⟩ (Nat.le_of_ble_eq_true rfl) ⟨Nat.zero_le _, Nat.zero_le _⟩ rfl dX12_follows_16 (fun v5 S4 H locs h hW => ?_)
    refine lv_iload_n hx hb dX12_follows_19 rfl (lv_at hl 1 rfl) ?_
    refine zz_callVi (As := [.int v5, .int x1]) C hW h (fun r hr => c_X12_followsFrom_0 hr) lk_X12_212 (hW.recv mr_0) rfl hl.1 ⟨rfl, rfl⟩ ⟨Nat.le_of_ble_eq_true rfl, Nat.le_of_ble_eq_true rfl⟩ (Nat.le_of_ble_eq_true rfl) ⟨Nat.zero_le _, Nat.zero_le _⟩ rfl dX12_follows_20 (fun v7 S6 H locs h hW => ?_)
    refine zz_ine (tgt := 28) C h dX12_follows_23 (by decide) (fun h => ?_) (fun h => ?_)
    · refine lv_aload_n hx hb dX12_follows_28 rfl (lv_at hl 0 rfl) ?_
      refine lv_aload_n hx hb dX12_follows_29 rfl (lv_at hl 0 rfl) ?_
      refine zz_callVi (As := []) C hW h (fun r hr => c_X12_standing_0 hr) lk_X12_206 (hW.recv mr_0) rfl hl.1 ⟨rfl, rfl⟩ ⟨Nat.le_of_ble_eq_true rfl, Nat.le_of_ble_eq_true rfl⟩ (Nat.le_of_ble_eq_true rfl) ⟨Nat.zero_le _, Nat.zero_le _⟩ rfl dX12_follows_30 (fun v9 S8 H locs h hW => ?_)
      refine lv_aload_n hx hb dX12_follows_33 rfl (lv_at hl 0 rfl) ?_
      refine mg_0_6 C hW h fl_X12_115 dX12_follows_34 (fun v10 h => ?_)
      refine lv_iconst (v := -1) hx hb dX12_follows_37 (by decide) ?_
      refine lv_ixor hx hb dX12_follows_38 ?_
      refine lv_iand hx hb dX12_follows_39 ?_
      refine lv_iload_n hx hb dX12_follows_40 rfl (lv_at hl 1 rfl) ?_
      refine zz_callVi (As := [.int (v9 &&& (v10 ^^^ (-1 : Int32))), .int x1]) C hW h (fun r hr => c_X12_followsFrom_0 hr) lk_X12_212 (hW.recv mr_0) rfl hl.1 ⟨rfl, rfl⟩ ⟨Nat.le_of_ble_eq_true rfl, Nat.le_of_ble_eq_true rfl⟩ (Nat.le_of_ble_eq_true rfl) ⟨Nat.zero_le _, Nat.zero_le _⟩ rfl dX12_follows_41 (fun v12 S11 H locs h hW => ?_)
      refine zz_ieq (tgt := 51) C h dX12_follows_44 (by decide) (fun h => ?_) (fun h => ?_)
      · refine lv_iconst (v := 1) hx hb dX12_follows_51 (by decide) ?_
        exact w_X12_follows_0_b52 (F := F) C h hW (lv_sub hl [] rfl)
      · refine lv_iconst (v := 2) hx hb dX12_follows_47 (by decide) ?_
        refine lv_goto (tgt := 52) hx hb dX12_follows_48 (by decide) ?_
        exact w_X12_follows_0_b52 (F := F) C h hW (lv_sub hl [] rfl)
    · refine lv_iconst (v := 0) hx hb dX12_follows_26 (by decide) ?_
      exact zz_iret C rfl h hW dX12_follows_27
  · refine lv_iconst (v := -1) hx hb dX12_follows_12 (by decide) ?_
    exact zz_iret C rfl h hW dX12_follows_13
def n_X12_follows_0 (F : Nat) (S : Zs) (x1 : Int32) : Option (Int32 × Zs) := n_X12_follows_0_e F  S x1
theorem c_X12_follows_0 {l : Launch} {D : va_G} {cs ad : Nat → Nat} {F : Nat} {S : Zs} {x1 : Int32} {q : (Int32 × Zs)} (h : n_X12_follows_0 F S x1 = some q) : zMi l yX12_follows cX12_follows 2 (some .int) (zR 6 129) (mG D cs ad) [.ref (ad 0), .int x1] S q :=
  zz_enter (by decide) (Nat.le_of_ble_eq_true rfl) (fun p e s m below meth c ls C hW hl => w_X12_follows_0_e (F := F) C h hW (lv_sub hl [0, 1] rfl))
def n_X12_decided_0_e (F : Nat)  (S : Zs) (x1 : Int32) : Option (Int32 × Zs) :=
  zpf S 0 (0 : Int32) (fun S1 => zcl (n_X12_isCode F S1 x1) (fun v3 S2 => if v3 = 0 then (some ((-1 : Int32), S2)) else (zcl (n_X12_standing_0 F S2 ) (fun v5 S4 => zcl (n_X12_followsFrom_0 F S4 v5 x1) (fun v7 S6 => zcl (n_X12_flag F S6 v7) (fun v9 S8 => zcl (n_X12_standing_0 F S8 ) (fun v11 S10 => zcl (n_X12_contraryOf F S10 x1) (fun v13 S12 => zcl (n_X12_followsFrom_0 F S12 v11 v13) (fun v15 S14 => zcl (n_X12_flag F S14 v15) (fun v17 S16 => some ((v9 + ((2 : Int32) * v17)), S16)))))))))))
set_option maxRecDepth 20000 in
set_option maxHeartbeats 4000000 in
theorem w_X12_decided_0_e {F : Nat} {q : (Int32 × Zs)} {S : Zs}  {x1 : Int32} {ls : Array Slot} {H : Heap} {locs : List Loc} (C : zC p s m args meth c cX12_decided 2 RX12 (some .int))  (h : n_X12_decided_0_e F  S x1 = some q) (hW : zW (mG D cs ad) s S H locs) (hl : lv_has ls 2 [(0, .ref (ad 0)), (1, .int x1)]) : W p l e (zR 6 129) s m args below meth c H locs 0 0 (zQi (mG D cs ad) q below args s) (F0 m 0 ls []) := by
  unfold n_X12_decided_0_e at h
  obtain ⟨hx, hb, hml, hown, hts, hret, hlk⟩ := id C
  refine lv_aload_n hx hb dX12_decided_0 rfl (lv_at hl 0 rfl) ?_
  refine lv_iconst (v := 0) hx hb dX12_decided_1 (by decide) ?_
  refine mp_0_0 C hW h fl_X12_3 dX12_decided_2 (fun S1 H locs h hW => ?_)
  refine lv_iload_n hx hb dX12_decided_5 rfl (lv_at hl 1 rfl) ?_
  refine zz_callSi (As := [.int x1]) C hW h (fun r hr => c_X12_isCode hr) lk_X12_142 rfl hl.1 ⟨rfl, rfl⟩ ⟨Nat.le_of_ble_eq_true rfl, Nat.le_of_ble_eq_true rfl⟩ (Nat.le_of_ble_eq_true rfl) ⟨Nat.zero_le _, Nat.zero_le _⟩ rfl dX12_decided_6 (fun v3 S2 H locs h hW => ?_)
  refine zz_ine (tgt := 14) C h dX12_decided_9 (by decide) (fun h => ?_) (fun h => ?_)
  · refine lv_aload_n hx hb dX12_decided_14 rfl (lv_at hl 0 rfl) ?_
    refine lv_aload_n hx hb dX12_decided_15 rfl (lv_at hl 0 rfl) ?_
    refine zz_callVi (As := []) C hW h (fun r hr => c_X12_standing_0 hr) lk_X12_206 (hW.recv mr_0) rfl hl.1 ⟨rfl, rfl⟩ ⟨Nat.le_of_ble_eq_true rfl, Nat.le_of_ble_eq_true rfl⟩ (Nat.le_of_ble_eq_true rfl) ⟨Nat.zero_le _, Nat.zero_le _⟩ rfl dX12_decided_16 (fun v5 S4 H locs h hW => ?_)
    refine lv_iload_n hx hb dX12_decided_19 rfl (lv_at hl 1 rfl) ?_
    refine zz_callVi (As := [.int v5, .int x1]) C hW h (fun r hr => c_X12_followsFrom_0 hr) lk_X12_212 (hW.recv mr_0) rfl hl.1 ⟨rfl, rfl⟩ ⟨Nat.le_of_ble_eq_true rfl, Nat.le_of_ble_eq_true rfl⟩ (Nat.le_of_ble_eq_true rfl) ⟨Nat.zero_le _, Nat.zero_le _⟩ rfl dX12_decided_20 (fun v7 S6 H locs h hW => ?_)
    refine zz_callSi (As := [.int v7]) C hW h (fun r hr => c_X12_flag hr) lk_X12_52 rfl hl.1 ⟨rfl, rfl⟩ ⟨Nat.le_of_ble_eq_true rfl, Nat.le_of_ble_eq_true rfl⟩ (Nat.le_of_ble_eq_true rfl) ⟨Nat.zero_le _, Nat.zero_le _⟩ rfl dX12_decided_23 (fun v9 S8 H locs h hW => ?_)
    refine lv_iconst (v := 2) hx hb dX12_decided_26 (by decide) ?_
    refine lv_aload_n hx hb dX12_decided_27 rfl (lv_at hl 0 rfl) ?_
    refine lv_aload_n hx hb dX12_decided_28 rfl (lv_at hl 0 rfl) ?_
    refine zz_callVi (As := []) C hW h (fun r hr => c_X12_standing_0 hr) lk_X12_206 (hW.recv mr_0) rfl hl.1 ⟨rfl, rfl⟩ ⟨Nat.le_of_ble_eq_true rfl, Nat.le_of_ble_eq_true rfl⟩ (Nat.le_of_ble_eq_true rfl) ⟨Nat.zero_le _, Nat.zero_le _⟩ rfl dX12_decided_29 (fun v11 S10 H locs h hW => ?_)
    refine lv_iload_n hx hb dX12_decided_32 rfl (lv_at hl 1 rfl) ?_
    refine zz_callSi (As := [.int x1]) C hW h (fun r hr => c_X12_contraryOf hr) lk_X12_190 rfl hl.1 ⟨rfl, rfl⟩ ⟨Nat.le_of_ble_eq_true rfl, Nat.le_of_ble_eq_true rfl⟩ (Nat.le_of_ble_eq_true rfl) ⟨Nat.zero_le _, Nat.zero_le _⟩ rfl dX12_decided_33 (fun v13 S12 H locs h hW => ?_)
    refine zz_callVi (As := [.int v11, .int v13]) C hW h (fun r hr => c_X12_followsFrom_0 hr) lk_X12_212 (hW.recv mr_0) rfl hl.1 ⟨rfl, rfl⟩ ⟨Nat.le_of_ble_eq_true rfl, Nat.le_of_ble_eq_true rfl⟩ (Nat.le_of_ble_eq_true rfl) ⟨Nat.zero_le _, Nat.zero_le _⟩ rfl dX12_decided_36 (fun v15 S14 H locs h hW => ?_)
    refine zz_callSi (As := [.int v15]) C hW h (fun r hr => c_X12_flag hr) lk_X12_52 rfl hl.1 ⟨rfl, rfl⟩ ⟨Nat.le_of_ble_eq_true rfl, Nat.le_of_ble_eq_true rfl⟩ (Nat.le_of_ble_eq_true rfl) ⟨Nat.zero_le _, Nat.zero_le _⟩ rfl dX12_decided_39 (fun v17 S16 H locs h hW => ?_)
    refine lv_imul hx hb dX12_decided_42 ?_
    refine lv_iadd hx hb dX12_decided_43 ?_
    exact zz_iret C rfl h hW dX12_decided_44
  · refine lv_iconst (v := -1) hx hb dX12_decided_12 (by decide) ?_
    exact zz_iret C rfl h hW dX12_decided_13
def n_X12_decided_0 (F : Nat) (S : Zs) (x1 : Int32) : Option (Int32 × Zs) := n_X12_decided_0_e F  S x1
theorem c_X12_decided_0 {l : Launch} {D : va_G} {cs ad : Nat → Nat} {F : Nat} {S : Zs} {x1 : Int32} {q : (Int32 × Zs)} (h : n_X12_decided_0 F S x1 = some q) : zMi l yX12_decided cX12_decided 2 (some .int) (zR 6 129) (mG D cs ad) [.ref (ad 0), .int x1] S q :=
  zz_enter (by decide) (Nat.le_of_ble_eq_true rfl) (fun p e s m below meth c ls C hW hl => w_X12_decided_0_e (F := F) C h hW (lv_sub hl [0, 1] rfl))
def n_X12_areSayings_0_e (F : Nat)  (S : Zs) (x1 : Int32) : Option (Int32 × Zs) :=
  zgf S 3 (fun v1 => zcl (n_X12_in F S (x1.toInt64) (0 : Int64) ((((1 : Int32) <<< (v1 &&& 31)) - (1 : Int32)).toInt64)) (fun v3 S2 => zrb v3 S2))
set_option maxRecDepth 20000 in
set_option maxHeartbeats 4000000 in
theorem w_X12_areSayings_0_e {F : Nat} {q : (Int32 × Zs)} {S : Zs}  {x1 : Int32} {ls : Array Slot} {H : Heap} {locs : List Loc} (C : zC p s m args meth c cX12_areSayings 2 RX12 (some .boolean))  (h : n_X12_areSayings_0_e F  S x1 = some q) (hW : zW (mG D cs ad) s S H locs) (hl : lv_has ls 2 [(0, .ref (ad 0)), (1, .int x1)]) : W p l e (zR 1 25) s m args below meth c H locs 0 0 (zQi (mG D cs ad) q below args s) (F0 m 0 ls []) := by
  unfold n_X12_areSayings_0_e at h
  obtain ⟨hx, hb, hml, hown, hts, hret, hlk⟩ := id C
  refine lv_iload_n hx hb dX12_areSayings_0 rfl (lv_at hl 1 rfl) ?_
  refine lv_i2l hx hb dX12_areSayings_1 rfl ?_
  refine lv_lconst (v := 0) hx hb dX12_areSayings_2 (by decide) ?_
  refine lv_iconst (v := 1) hx hb dX12_areSayings_3 (by decide) ?_
  refine lv_aload_n hx hb dX12_areSayings_4 rfl (lv_at hl 0 rfl) ?_
  refine mg_0_3 C hW h fl_X12_105 dX12_areSayings_5 (fun v1 h => ?_)
  refine lv_ishl hx hb dX12_areSayings_8 ?_
  refine lv_iconst (v := 1) hx hb dX12_areSayings_9 (by decide) ?_
  refine lv_isub hx hb dX12_areSayings_10 ?_
  refine lv_i2l hx hb dX12_areSayings_11 rfl ?_
  refine zz_callSi (As := [.long (x1.toInt64), .long (0 : Int64), .long ((((1 : Int32) <<< (v1 &&& 31)) - (1 : Int32)).toInt64)]) C hW h (fun r hr => c_X12_in hr) lk_X12_16 rfl hl.1 ⟨rfl, rfl⟩ ⟨Nat.le_of_ble_eq_true rfl, Nat.le_of_ble_eq_true rfl⟩ (Nat.le_of_ble_eq_true rfl) ⟨Nat.zero_le _, Nat.zero_le _⟩ rfl dX12_areSayings_12 (fun v3 S2 H locs h hW => ?_)
  exact zz_zret C rfl h hW dX12_areSayings_15
def n_X12_areSayings_0 (F : Nat) (S : Zs) (x1 : Int32) : Option (Int32 × Zs) := n_X12_areSayings_0_e F  S x1
theorem c_X12_areSayings_0 {l : Launch} {D : va_G} {cs ad : Nat → Nat} {F : Nat} {S : Zs} {x1 : Int32} {q : (Int32 × Zs)} (h : n_X12_areSayings_0 F S x1 = some q) : zMi l yX12_areSayings cX12_areSayings 2 (some .boolean) (zR 1 25) (mG D cs ad) [.ref (ad 0), .int x1] S q :=
  zz_enter (by decide) (Nat.le_of_ble_eq_true rfl) (fun p e s m below meth c ls C hW hl => w_X12_areSayings_0_e (F := F) C h hW (lv_sub hl [0, 1] rfl))
def n_X12_from_0_b33 (F : Nat)  (S : Zs) (t0 : Int32) : Option (Int32 × Zs) :=
  some (t0, S)
set_option maxRecDepth 20000 in
set_option maxHeartbeats 4000000 in
theorem w_X12_from_0_b33 {F : Nat} {q : (Int32 × Zs)} {S : Zs}  {t0 : Int32} {ls : Array Slot} {H : Heap} {locs : List Loc} (C : zC p s m args meth c cX12_from 3 RX12 (some .int))  (h : n_X12_from_0_b33 F  S t0 = some q) (hW : zW (mG D cs ad) s S H locs) (hl : lv_has ls 3 []) : W p l e (zR 6 129) s m args below meth c H locs 0 0 (zQi (mG D cs ad) q below args s) (F0 m 33 ls [.int t0]) := by
  unfold n_X12_from_0_b33 at h
  obtain ⟨hx, hb, hml, hown, hts, hret, hlk⟩ := id C
  exact zz_iret C rfl h hW dX12_from_33
def n_X12_from_0_b32 (F : Nat)  (S : Zs)  : Option (Int32 × Zs) :=
  n_X12_from_0_b33 F  S (-1 : Int32)
set_option maxRecDepth 20000 in
set_option maxHeartbeats 4000000 in
theorem w_X12_from_0_b32 {F : Nat} {q : (Int32 × Zs)} {S : Zs}   {ls : Array Slot} {H : Heap} {locs : List Loc} (C : zC p s m args meth c cX12_from 3 RX12 (some .int))  (h : n_X12_from_0_b32 F  S  = some q) (hW : zW (mG D cs ad) s S H locs) (hl : lv_has ls 3 []) : W p l e (zR 6 129) s m args below meth c H locs 0 0 (zQi (mG D cs ad) q below args s) (F0 m 32 ls []) := by
  unfold n_X12_from_0_b32 at h
  obtain ⟨hx, hb, hml, hown, hts, hret, hlk⟩ := id C
  refine lv_iconst (v := -1) hx hb dX12_from_32 (by decide) ?_
  exact w_X12_from_0_b33 (F := F) C h hW (lv_sub hl [] rfl)
def n_X12_from_0_e (F : Nat)  (S : Zs) (x1 : Int32) (x2 : Int32) : Option (Int32 × Zs) :=
  zpf S 0 (0 : Int32) (fun S1 => zcl (n_X12_areSayings_0 F S1 x1) (fun v3 S2 => if v3 = 0 then (n_X12_from_0_b32 F  S2 ) else (zcl (n_X12_isCode F S2 x2) (fun v5 S4 => if v5 = 0 then (n_X12_from_0_b32 F  S4 ) else (zcl (n_X12_followsFrom_0 F S4 x1 x2) (fun v7 S6 => zcl (n_X12_flag F S6 v7) (fun v9 S8 => n_X12_from_0_b33 F  S8 v9)))))))
set_option maxRecDepth 20000 in
set_option maxHeartbeats 4000000 in
theorem w_X12_from_0_e {F : Nat} {q : (Int32 × Zs)} {S : Zs}  {x1 : Int32} {x2 : Int32} {ls : Array Slot} {H : Heap} {locs : List Loc} (C : zC p s m args meth c cX12_from 3 RX12 (some .int))  (h : n_X12_from_0_e F  S x1 x2 = some q) (hW : zW (mG D cs ad) s S H locs) (hl : lv_has ls 3 [(0, .ref (ad 0)), (1, .int x1), (2, .int x2)]) : W p l e (zR 6 129) s m args below meth c H locs 0 0 (zQi (mG D cs ad) q below args s) (F0 m 0 ls []) := by
  unfold n_X12_from_0_e at h
  obtain ⟨hx, hb, hml, hown, hts, hret, hlk⟩ := id C
  refine lv_aload_n hx hb dX12_from_0 rfl (lv_at hl 0 rfl) ?_
  refine lv_iconst (v := 0) hx hb dX12_from_1 (by decide) ?_
  refine mp_0_0 C hW h fl_X12_3 dX12_from_2 (fun S1 H locs h hW => ?_)
  refine lv_aload_n hx hb dX12_from_5 rfl (lv_at hl 0 rfl) ?_
  refine lv_iload_n hx hb dX12_from_6 rfl (lv_at hl 1 rfl) ?_
  refine zz_callVi (As := [.int x1]) C hW h (fun r hr => c_X12_areSayings_0 hr) lk_X12_215 (hW.recv mr_0) rfl hl.1 ⟨rfl, rfl⟩ ⟨Nat.le_of_ble_eq_true rfl, Nat.le_of_ble_eq_true rfl⟩ (Nat.le_of_ble_eq_true rfl) ⟨Nat.zero_le _, Nat.zero_le _⟩ rfl dX12_from_7 (fun v3 S2 H locs h hW => ?_)
  refine zz_ieq (tgt := 32) C h dX12_from_10 (by decide) (fun h => ?_) (fun h => ?_)
  · exact w_X12_from_0_b32 (F := F) C h hW (lv_sub hl [] rfl)
  · refine lv_iload_n hx hb dX12_from_13 rfl (lv_at hl 2 rfl) ?_
    refine zz_callSi (As := [.int x2]) C hW h (fun r hr => c_X12_isCode hr) lk_X12_142 rfl hl.1 ⟨rfl, rfl⟩ ⟨Nat.le_of_ble_eq_true rfl, Nat.le_of_ble_eq_true rfl⟩ (Nat.le_of_ble_eq_true rfl) ⟨Nat.zero_le _, Nat.zero_le _⟩ rfl dX12_from_14 (fun v5 S4 H locs h hW => ?_)
    refine zz_ieq (tgt := 32) C h dX12_from_17 (by decide) (fun h => ?_) (fun h => ?_)
    · exact w_X12_from_0_b32 (F := F) C h hW (lv_sub hl [] rfl)
    · refine lv_aload_n hx hb dX12_from_20 rfl (lv_at hl 0 rfl) ?_
      refine lv_iload_n hx hb dX12_from_21 rfl (lv_at hl 1 rfl) ?_
      refine lv_iload_n hx hb dX12_from_22 rfl (lv_at hl 2 rfl) ?_
      refine zz_callVi (As := [.int x1, .int x2]) C hW h (fun r hr => c_X12_followsFrom_0 hr) lk_X12_212 (hW.recv mr_0) rfl hl.1 ⟨rfl, rfl⟩ ⟨Nat.le_of_ble_eq_true rfl, Nat.le_of_ble_eq_true rfl⟩ (Nat.le_of_ble_eq_true rfl) ⟨Nat.zero_le _, Nat.zero_le _⟩ rfl dX12_from_23 (fun v7 S6 H locs h hW => ?_)
      refine zz_callSi (As := [.int v7]) C hW h (fun r hr => c_X12_flag hr) lk_X12_52 rfl hl.1 ⟨rfl, rfl⟩ ⟨Nat.le_of_ble_eq_true rfl, Nat.le_of_ble_eq_true rfl⟩ (Nat.le_of_ble_eq_true rfl) ⟨Nat.zero_le _, Nat.zero_le _⟩ rfl dX12_from_26 (fun v9 S8 H locs h hW => ?_)
      refine lv_goto (tgt := 33) hx hb dX12_from_29 (by decide) ?_
      exact w_X12_from_0_b33 (F := F) C h hW (lv_sub hl [] rfl)
def n_X12_from_0 (F : Nat) (S : Zs) (x1 : Int32) (x2 : Int32) : Option (Int32 × Zs) := n_X12_from_0_e F  S x1 x2
theorem c_X12_from_0 {l : Launch} {D : va_G} {cs ad : Nat → Nat} {F : Nat} {S : Zs} {x1 : Int32} {x2 : Int32} {q : (Int32 × Zs)} (h : n_X12_from_0 F S x1 x2 = some q) : zMi l yX12_from cX12_from 3 (some .int) (zR 6 129) (mG D cs ad) [.ref (ad 0), .int x1, .int x2] S q :=
  zz_enter (by decide) (Nat.le_of_ble_eq_true rfl) (fun p e s m below meth c ls C hW hl => w_X12_from_0_e (F := F) C h hW (lv_sub hl [0, 1, 2] rfl))
def n_X12_needs_0_b79 (F : Nat) (rc36 : Zs → Int32 → Int32 → Int32 → Int32 → Option (Int32 × Zs)) (S : Zs) (x1 : Int32) (x2 : Int32) (x4 : Int32) (t0 : Int32) (t1 : Int32) : Option (Int32 × Zs) :=
  zlet (t1 ||| t0) (fun v1 => zlet (x4 + (1 : Int32)) (fun v2 => rc36 S x1 x2 v1 v2))
set_option maxRecDepth 20000 in
set_option maxHeartbeats 4000000 in
theorem w_X12_needs_0_b79 {F : Nat} {q : (Int32 × Zs)} {S : Zs} {rc36 : Zs → Int32 → Int32 → Int32 → Int32 → Option (Int32 × Zs)} {x1 : Int32} {x2 : Int32} {x4 : Int32} {t0 : Int32} {t1 : Int32} {ls : Array Slot} {H : Heap} {locs : List Loc} (C : zC p s m args meth c cX12_needs 5 RX12 (some .int)) (hrc36 : ∀ (S : Zs) (x1 : Int32) (x2 : Int32) (x3 : Int32) (x4 : Int32) (H : Heap) (locs : List Loc) (ls : Array Slot), rc36 S x1 x2 x3 x4 = some q → zW (mG D cs ad) s S H locs → lv_has ls 5 [(0, .ref (ad 0)), (1, .int x1), (2, .int x2), (3, .int x3), (4, .int x4)] → W p l e (zR 6 129) s m args below meth c H locs 0 0 (zQi (mG D cs ad) q below args s) (F0 m 36 ls [])) (h : n_X12_needs_0_b79 F rc36 S x1 x2 x4 t0 t1 = some q) (hW : zW (mG D cs ad) s S H locs) (hl : lv_has ls 5 [(0, .ref (ad 0)), (1, .int x1), (2, .int x2), (4, .int x4)]) : W p l e (zR 6 129) s m args below meth c H locs 0 0 (zQi (mG D cs ad) q below args s) (F0 m 79 ls [.int t0, .int t1]) := by
  unfold n_X12_needs_0_b79 at h
  obtain ⟨hx, hb, hml, hown, hts, hret, hlk⟩ := id C
  refine lv_ior hx hb dX12_needs_79 ?_
  refine zz_leti h (fun v1 h => ?_)
  refine lv_istore_n (lv' := [(3, .int v1), (0, .ref (ad 0)), (1, .int x1), (2, .int x2), (4, .int x4)]) hx hb dX12_needs_80 rfl hl (by decide) rfl (fun ls hl => ?_)
  obtain ⟨v2, ev2, h⟩ := zz_name h
  refine lv_iinc (v := v2) (lv' := [(4, .int v2), (3, .int v1), (0, .ref (ad 0)), (1, .int x1), (2, .int x2)]) hx hb dX12_needs_81 hl (k := 4) rfl ev2.symm (by decide) rfl (fun ls hl => ?_)
  refine lv_goto (tgt := 36) hx hb dX12_needs_84 (by decide) ?_
  exact hrc36 _ _ _ _ _ _ _ _ h hW (lv_sub hl [2, 3, 4, 1, 0] rfl)
def n_X12_needs_0_b78 (F : Nat) (rc36 : Zs → Int32 → Int32 → Int32 → Int32 → Option (Int32 × Zs)) (S : Zs) (x1 : Int32) (x2 : Int32) (x4 : Int32) (t0 : Int32) : Option (Int32 × Zs) :=
  n_X12_needs_0_b79 F rc36 S x1 x2 x4 (0 : Int32) t0
set_option maxRecDepth 20000 in
set_option maxHeartbeats 4000000 in
theorem w_X12_needs_0_b78 {F : Nat} {q : (Int32 × Zs)} {S : Zs} {rc36 : Zs → Int32 → Int32 → Int32 → Int32 → Option (Int32 × Zs)} {x1 : Int32} {x2 : Int32} {x4 : Int32} {t0 : Int32} {ls : Array Slot} {H : Heap} {locs : List Loc} (C : zC p s m args meth c cX12_needs 5 RX12 (some .int)) (hrc36 : ∀ (S : Zs) (x1 : Int32) (x2 : Int32) (x3 : Int32) (x4 : Int32) (H : Heap) (locs : List Loc) (ls : Array Slot), rc36 S x1 x2 x3 x4 = some q → zW (mG D cs ad) s S H locs → lv_has ls 5 [(0, .ref (ad 0)), (1, .int x1), (2, .int x2), (3, .int x3), (4, .int x4)] → W p l e (zR 6 129) s m args below meth c H locs 0 0 (zQi (mG D cs ad) q below args s) (F0 m 36 ls [])) (h : n_X12_needs_0_b78 F rc36 S x1 x2 x4 t0 = some q) (hW : zW (mG D cs ad) s S H locs) (hl : lv_has ls 5 [(0, .ref (ad 0)), (1, .int x1), (2, .int x2), (4, .int x4)]) : W p l e (zR 6 129) s m args below meth c H locs 0 0 (zQi (mG D cs ad) q below args s) (F0 m 78 ls [.int t0]) := by
  unfold n_X12_needs_0_b78 at h
  obtain ⟨hx, hb, hml, hown, hts, hret, hlk⟩ := id C
  refine lv_iconst (v := 0) hx hb dX12_needs_78 (by decide) ?_
  exact w_X12_needs_0_b79 (F := F) C hrc36 h hW (lv_sub hl [0, 1, 2, 3] rfl)
def n_X12_needs_0_b36_l (F : Nat) (rc36 : Zs → Int32 → Int32 → Int32 → Int32 → Option (Int32 × Zs)) (S : Zs) (x1 : Int32) (x2 : Int32) (x3 : Int32) (x4 : Int32) : Option (Int32 × Zs) :=
  zgf S 3 (fun v1 => if v1 ≤ x4 then (some (x3, S)) else (zcl (n_X12_has F S x2 x4) (fun v3 S2 => if v3 = 0 then (n_X12_needs_0_b78 F rc36 S2 x1 x2 x4 x3) else (zcl (n_X12_followsFrom_0 F S2 (x2 &&& (((1 : Int32) <<< (x4 &&& 31)) ^^^ (-1 : Int32))) x1) (fun v5 S4 => if v5 = 0 then (n_X12_needs_0_b79 F rc36 S4 x1 x2 x4 ((1 : Int32) <<< (x4 &&& 31)) x3) else (n_X12_needs_0_b78 F rc36 S4 x1 x2 x4 x3))))))
set_option maxRecDepth 20000 in
set_option maxHeartbeats 4000000 in
theorem w_X12_needs_0_b36_l {F : Nat} {q : (Int32 × Zs)} {S : Zs} {rc36 : Zs → Int32 → Int32 → Int32 → Int32 → Option (Int32 × Zs)} {x1 : Int32} {x2 : Int32} {x3 : Int32} {x4 : Int32} {ls : Array Slot} {H : Heap} {locs : List Loc} (C : zC p s m args meth c cX12_needs 5 RX12 (some .int)) (hrc36 : ∀ (S : Zs) (x1 : Int32) (x2 : Int32) (x3 : Int32) (x4 : Int32) (H : Heap) (locs : List Loc) (ls : Array Slot), rc36 S x1 x2 x3 x4 = some q → zW (mG D cs ad) s S H locs → lv_has ls 5 [(0, .ref (ad 0)), (1, .int x1), (2, .int x2), (3, .int x3), (4, .int x4)] → W p l e (zR 6 129) s m args below meth c H locs 0 0 (zQi (mG D cs ad) q below args s) (F0 m 36 ls [])) (h : n_X12_needs_0_b36_l F rc36 S x1 x2 x3 x4 = some q) (hW : zW (mG D cs ad) s S H locs) (hl : lv_has ls 5 [(0, .ref (ad 0)), (1, .int x1), (2, .int x2), (3, .int x3), (4, .int x4)]) : W p l e (zR 6 129) s m args below meth c H locs 0 0 (zQi (mG D cs ad) q below args s) (F0 m 36 ls []) := by
  unfold n_X12_needs_0_b36_l at h
  obtain ⟨hx, hb, hml, hown, hts, hret, hlk⟩ := id C
  refine lv_iload hx hb dX12_needs_36 (lv_at hl 4 rfl) ?_
  refine lv_aload_n hx hb dX12_needs_38 rfl (lv_at hl 0 rfl) ?_
  refine mg_0_3 C hW h fl_X12_105 dX12_needs_39 (fun v1 h => ?_)
  refine zz_cge (tgt := 87) C h dX12_needs_42 (by decide) (fun h => ?_) (fun h => ?_)
  · refine lv_iload_n hx hb dX12_needs_87 rfl (lv_at hl 3 rfl) ?_
    exact zz_iret C rfl h hW dX12_needs_88
  · refine lv_iload_n hx hb dX12_needs_45 rfl (lv_at hl 3 rfl) ?_
    refine lv_iload_n hx hb dX12_needs_46 rfl (lv_at hl 2 rfl) ?_
    refine lv_iload hx hb dX12_needs_47 (lv_at hl 4 rfl) ?_
    refine zz_callSi (As := [.int x2, .int x4]) C hW h (fun r hr => c_X12_has hr) lk_X12_129 rfl hl.1 ⟨rfl, rfl⟩ ⟨Nat.le_of_ble_eq_true rfl, Nat.le_of_ble_eq_true rfl⟩ (Nat.le_of_ble_eq_true rfl) ⟨Nat.zero_le _, Nat.zero_le _⟩ rfl dX12_needs_49 (fun v3 S2 H locs h hW => ?_)
    refine zz_ieq (tgt := 78) C h dX12_needs_52 (by decide) (fun h => ?_) (fun h => ?_)
    · exact w_X12_needs_0_b78 (F := F) C hrc36 h hW (lv_sub hl [0, 1, 2, 4] rfl)
    · refine lv_aload_n hx hb dX12_needs_55 rfl (lv_at hl 0 rfl) ?_
      refine lv_iload_n hx hb dX12_needs_56 rfl (lv_at hl 2 rfl) ?_
      refine lv_iconst (v := 1) hx hb dX12_needs_57 (by decide) ?_
      refine lv_iload hx hb dX12_needs_58 (lv_at hl 4 rfl) ?_
      refine lv_ishl hx hb dX12_needs_60 ?_
      refine lv_iconst (v := -1) hx hb dX12_needs_61 (by decide) ?_
      refine lv_ixor hx hb dX12_needs_62 ?_
      refine lv_iand hx hb dX12_needs_63 ?_
      refine lv_iload_n hx hb dX12_needs_64 rfl (lv_at hl 1 rfl) ?_
      refine zz_callVi (As := [.int (x2 &&& (((1 : Int32) <<< (x4 &&& 31)) ^^^ (-1 : Int32))), .int x1]) C hW h (fun r hr => c_X12_followsFrom_0 hr) lk_X12_212 (hW.recv mr_0) rfl hl.1 ⟨rfl, rfl⟩ ⟨Nat.le_of_ble_eq_true rfl, Nat.le_of_ble_eq_true rfl⟩ (Nat.le_of_ble_eq_true rfl) ⟨Nat.zero_le _, Nat.zero_le _⟩ rfl dX12_needs_65 (fun v5 S4 H locs h hW => ?_)
      refine zz_ine (tgt := 78) C h dX12_needs_68 (by decide) (fun h => ?_) (fun h => ?_)
      · exact w_X12_needs_0_b78 (F := F) C hrc36 h hW (lv_sub hl [0, 1, 2, 4] rfl)
      · refine lv_iconst (v := 1) hx hb dX12_needs_71 (by decide) ?_
        refine lv_iload hx hb dX12_needs_72 (lv_at hl 4 rfl) ?_
        refine lv_ishl hx hb dX12_needs_74 ?_
        refine lv_goto (tgt := 79) hx hb dX12_needs_75 (by decide) ?_
        exact w_X12_needs_0_b79 (F := F) C hrc36 h hW (lv_sub hl [0, 1, 2, 4] rfl)
def n_X12_needs_0_b36 (F : Nat)  (S : Zs) (x1 : Int32) (x2 : Int32) (x3 : Int32) (x4 : Int32) : Option (Int32 × Zs) :=
  zfix (fun (rc : (Zs × Int32 × Int32 × Int32 × Int32) → Option (Int32 × Zs)) (u : (Zs × Int32 × Int32 × Int32 × Int32)) => n_X12_needs_0_b36_l F  (fun S x1 x2 x3 x4 => rc (S, x1, x2, x3, x4)) u.1 u.2.1 u.2.2.1 u.2.2.2.1 u.2.2.2.2) F (S, x1, x2, x3, x4)
theorem w_X12_needs_0_b36 {F : Nat} {q : (Int32 × Zs)}  (C : zC p s m args meth c cX12_needs 5 RX12 (some .int))  : ∀ (n : Nat) (S : Zs) (x1 : Int32) (x2 : Int32) (x3 : Int32) (x4 : Int32) (H : Heap) (locs : List Loc) (ls : Array Slot), zfix (fun (rc : (Zs × Int32 × Int32 × Int32 × Int32) → Option (Int32 × Zs)) (u : (Zs × Int32 × Int32 × Int32 × Int32)) => n_X12_needs_0_b36_l F  (fun S x1 x2 x3 x4 => rc (S, x1, x2, x3, x4)) u.1 u.2.1 u.2.2.1 u.2.2.2.1 u.2.2.2.2) n (S, x1, x2, x3, x4) = some q → zW (mG D cs ad) s S H locs → lv_has ls 5 [(0, .ref (ad 0)), (1, .int x1), (2, .int x2), (3, .int x3), (4, .int x4)] → W p l e (zR 6 129) s m args below meth c H locs 0 0 (zQi (mG D cs ad) q below args s) (F0 m 36 ls []) := by
  intro n
  induction n with
  | zero => intro S x1 x2 x3 x4 H locs ls h; exact absurd h (fun h => by cases h)
  | succ n ih => intro S x1 x2 x3 x4 H locs ls h hW hl; exact w_X12_needs_0_b36_l (F := F) C (fun S x1 x2 x3 x4 H locs ls h hW hl => ih S x1 x2 x3 x4 H locs ls h hW hl) h hW hl
def n_X12_needs_0_e (F : Nat)  (S : Zs) (x1 : Int32) : Option (Int32 × Zs) :=
  zpf S 0 (0 : Int32) (fun S1 => zcl (n_X12_isCode F S1 x1) (fun v3 S2 => if v3 = 0 then (some ((-1 : Int32), S2)) else (zcl (n_X12_standing_0 F S2 ) (fun v5 S4 => zcl (n_X12_followsFrom_0 F S4 v5 x1) (fun v7 S6 => if v7 = 0 then (some ((-2 : Int32), S6)) else (n_X12_needs_0_b36 F  S6 x1 v5 (0 : Int32) (0 : Int32)))))))
set_option maxRecDepth 20000 in
set_option maxHeartbeats 4000000 in
theorem w_X12_needs_0_e {F : Nat} {q : (Int32 × Zs)} {S : Zs}  {x1 : Int32} {ls : Array Slot} {H : Heap} {locs : List Loc} (C : zC p s m args meth c cX12_needs 5 RX12 (some .int))  (h : n_X12_needs_0_e F  S x1 = some q) (hW : zW (mG D cs ad) s S H locs) (hl : lv_has ls 5 [(0, .ref (ad 0)), (1, .int x1)]) : W p l e (zR 6 129) s m args below meth c H locs 0 0 (zQi (mG D cs ad) q below args s) (F0 m 0 ls []) := by
  unfold n_X12_needs_0_e at h
  obtain ⟨hx, hb, hml, hown, hts, hret, hlk⟩ := id C
  refine lv_aload_n hx hb dX12_needs_0 rfl (lv_at hl 0 rfl) ?_
  refine lv_iconst (v := 0) hx hb dX12_needs_1 (by decide) ?_
  refine mp_0_0 C hW h fl_X12_3 dX12_needs_2 (fun S1 H locs h hW => ?_)
  refine lv_iload_n hx hb dX12_needs_5 rfl (lv_at hl 1 rfl) ?_
  refine zz_callSi (As := [.int x1]) C hW h (fun r hr => c_X12_isCode hr) lk_X12_142 rfl hl.1 ⟨rfl, rfl⟩ ⟨Nat.le_of_ble_eq_true rfl, Nat.le_of_ble_eq_true rfl⟩ (Nat.le_of_ble_eq_true rfl) ⟨Nat.zero_le _, Nat.zero_le _⟩ rfl dX12_needs_6 (fun v3 S2 H locs h hW => ?_)
  refine zz_ine (tgt := 14) C h dX12_needs_9 (by decide) (fun h => ?_) (fun h => ?_)
  · refine lv_aload_n hx hb dX12_needs_14 rfl (lv_at hl 0 rfl) ?_
    refine zz_callVi (As := []) C hW h (fun r hr => c_X12_standing_0 hr) lk_X12_206 (hW.recv mr_0) rfl hl.1 ⟨rfl, rfl⟩ ⟨Nat.le_of_ble_eq_true rfl, Nat.le_of_ble_eq_true rfl⟩ (Nat.le_of_ble_eq_true rfl) ⟨Nat.zero_le _, Nat.zero_le _⟩ rfl dX12_needs_15 (fun v5 S4 H locs h hW => ?_)
    refine lv_istore_n (lv' := [(2, .int v5), (0, .ref (ad 0)), (1, .int x1)]) hx hb dX12_needs_18 rfl hl (by decide) rfl (fun ls hl => ?_)
    refine lv_aload_n hx hb dX12_needs_19 rfl (lv_at hl 1 rfl) ?_
    refine lv_iload_n hx hb dX12_needs_20 rfl (lv_at hl 0 rfl) ?_
    refine lv_iload_n hx hb dX12_needs_21 rfl (lv_at hl 2 rfl) ?_
    refine zz_callVi (As := [.int v5, .int x1]) C hW h (fun r hr => c_X12_followsFrom_0 hr) lk_X12_212 (hW.recv mr_0) rfl hl.1 ⟨rfl, rfl⟩ ⟨Nat.le_of_ble_eq_true rfl, Nat.le_of_ble_eq_true rfl⟩ (Nat.le_of_ble_eq_true rfl) ⟨Nat.zero_le _, Nat.zero_le _⟩ rfl dX12_needs_22 (fun v7 S6 H locs h hW => ?_)
    refine zz_ine (tgt := 31) C h dX12_needs_25 (by decide) (fun h => ?_) (fun h => ?_)
    · refine lv_iconst (v := 0) hx hb dX12_needs_31 (by decide) ?_
      refine lv_istore_n (lv' := [(3, .int (0 : Int32)), (2, .int v5), (0, .ref (ad 0)), (1, .int x1)]) hx hb dX12_needs_32 rfl hl (by decide) rfl (fun ls hl => ?_)
      refine lv_iconst (v := 0) hx hb dX12_needs_33 (by decide) ?_
      refine lv_istore (lv' := [(4, .int (0 : Int32)), (3, .int (0 : Int32)), (2, .int v5), (0, .ref (ad 0)), (1, .int x1)]) hx hb dX12_needs_34 hl (by decide) rfl (fun ls hl => ?_)
      exact w_X12_needs_0_b36 (F := F) C F _ _ _ _ _ _ _ _ h hW (lv_sub hl [3, 4, 2, 1, 0] rfl)
    · refine lv_bipush (v := -2) hx hb dX12_needs_28 (by decide) ?_
      exact zz_iret C rfl h hW dX12_needs_30
  · refine lv_iconst (v := -1) hx hb dX12_needs_12 (by decide) ?_
    exact zz_iret C rfl h hW dX12_needs_13
def n_X12_needs_0 (F : Nat) (S : Zs) (x1 : Int32) : Option (Int32 × Zs) := n_X12_needs_0_e F  S x1
theorem c_X12_needs_0 {l : Launch} {D : va_G} {cs ad : Nat → Nat} {F : Nat} {S : Zs} {x1 : Int32} {q : (Int32 × Zs)} (h : n_X12_needs_0 F S x1 = some q) : zMi l yX12_needs cX12_needs 5 (some .int) (zR 6 129) (mG D cs ad) [.ref (ad 0), .int x1] S q :=
  zz_enter (by decide) (Nat.le_of_ble_eq_true rfl) (fun p e s m below meth c ls C hW hl => w_X12_needs_0_e (F := F) C h hW (lv_sub hl [0, 1] rfl))
def n_X12_followAll_0_b2_l (F : Nat) (rc2 : Zs → Int32 → Int32 → Option (Int32 × Zs)) (S : Zs) (x1 : Int32) (x2 : Int32) : Option (Int32 × Zs) :=
  zgf S 9 (fun v1 => if v1 ≤ x2 then (zrb (1 : Int32) S) else (zld S 4 6 x2 (fun v2 => zcl (n_X12_followsFrom_0 F S x1 v2) (fun v4 S3 => if v4 = 0 then (zrb (0 : Int32) S3) else (zlet (x2 + (1 : Int32)) (fun v5 => rc2 S3 x1 v5))))))
set_option maxRecDepth 20000 in
set_option maxHeartbeats 4000000 in
theorem w_X12_followAll_0_b2_l {F : Nat} {q : (Int32 × Zs)} {S : Zs} {rc2 : Zs → Int32 → Int32 → Option (Int32 × Zs)} {x1 : Int32} {x2 : Int32} {ls : Array Slot} {H : Heap} {locs : List Loc} (C : zC p s m args meth c cX12_followAll 3 RX12 (some .boolean)) (hrc2 : ∀ (S : Zs) (x1 : Int32) (x2 : Int32) (H : Heap) (locs : List Loc) (ls : Array Slot), rc2 S x1 x2 = some q → zW (mG D cs ad) s S H locs → lv_has ls 3 [(0, .ref (ad 0)), (1, .int x1), (2, .int x2)] → W p l e (zR 6 129) s m args below meth c H locs 0 0 (zQi (mG D cs ad) q below args s) (F0 m 2 ls [])) (h : n_X12_followAll_0_b2_l F rc2 S x1 x2 = some q) (hW : zW (mG D cs ad) s S H locs) (hl : lv_has ls 3 [(0, .ref (ad 0)), (1, .int x1), (2, .int x2)]) : W p l e (zR 6 129) s m args below meth c H locs 0 0 (zQi (mG D cs ad) q below args s) (F0 m 2 ls []) := by
  unfold n_X12_followAll_0_b2_l at h
  obtain ⟨hx, hb, hml, hown, hts, hret, hlk⟩ := id C
  refine lv_iload_n hx hb dX12_followAll_2 rfl (lv_at hl 2 rfl) ?_
  refine lv_aload_n hx hb dX12_followAll_3 rfl (lv_at hl 0 rfl) ?_
  refine mg_0_9 C hW h fl_X12_145 dX12_followAll_4 (fun v1 h => ?_)
  refine zz_cge (tgt := 32) C h dX12_followAll_7 (by decide) (fun h => ?_) (fun h => ?_)
  · refine lv_iconst (v := 1) hx hb dX12_followAll_32 (by decide) ?_
    exact zz_zret C rfl h hW dX12_followAll_33
  · refine lv_aload_n hx hb dX12_followAll_10 rfl (lv_at hl 0 rfl) ?_
    refine lv_iload_n hx hb dX12_followAll_11 rfl (lv_at hl 1 rfl) ?_
    refine lv_aload_n hx hb dX12_followAll_12 rfl (lv_at hl 0 rfl) ?_
    refine mg_0_10 C hW fl_X12_148 dX12_followAll_13 ?_
    refine lv_iload_n hx hb dX12_followAll_16 rfl (lv_at hl 2 rfl) ?_
    refine ml_4 C hW h dX12_followAll_17 (fun v2 h => ?_)
    refine zz_callVi (As := [.int x1, .int v2]) C hW h (fun r hr => c_X12_followsFrom_0 hr) lk_X12_212 (hW.recv mr_0) rfl hl.1 ⟨rfl, rfl⟩ ⟨Nat.le_of_ble_eq_true rfl, Nat.le_of_ble_eq_true rfl⟩ (Nat.le_of_ble_eq_true rfl) ⟨Nat.zero_le _, Nat.zero_le _⟩ rfl dX12_followAll_18 (fun v4 S3 H locs h hW => ?_)
    refine zz_ine (tgt := 26) C h dX12_followAll_21 (by decide) (fun h => ?_) (fun h => ?_)
    · obtain ⟨v5, ev5, h⟩ := zz_name h
      refine lv_iinc (v := v5) (lv' := [(2, .int v5), (0, .ref (ad 0)), (1, .int x1)]) hx hb dX12_followAll_26 hl (k := 2) rfl ev5.symm (by decide) rfl (fun ls hl => ?_)
      refine lv_goto (tgt := 2) hx hb dX12_followAll_29 (by decide) ?_
      exact hrc2 _ _ _ _ _ _ h hW (lv_sub hl [1, 2, 0] rfl)
    · refine lv_iconst (v := 0) hx hb dX12_followAll_24 (by decide) ?_
      exact zz_zret C rfl h hW dX12_followAll_25
def n_X12_followAll_0_b2 (F : Nat)  (S : Zs) (x1 : Int32) (x2 : Int32) : Option (Int32 × Zs) :=
  zfix (fun (rc : (Zs × Int32 × Int32) → Option (Int32 × Zs)) (u : (Zs × Int32 × Int32)) => n_X12_followAll_0_b2_l F  (fun S x1 x2 => rc (S, x1, x2)) u.1 u.2.1 u.2.2) F (S, x1, x2)
theorem w_X12_followAll_0_b2 {F : Nat} {q : (Int32 × Zs)}  (C : zC p s m args meth c cX12_followAll 3 RX12 (some .boolean))  : ∀ (n : Nat) (S : Zs) (x1 : Int32) (x2 : Int32) (H : Heap) (locs : List Loc) (ls : Array Slot), zfix (fun (rc : (Zs × Int32 × Int32) → Option (Int32 × Zs)) (u : (Zs × Int32 × Int32)) => n_X12_followAll_0_b2_l F  (fun S x1 x2 => rc (S, x1, x2)) u.1 u.2.1 u.2.2) n (S, x1, x2) = some q → zW (mG D cs ad) s S H locs → lv_has ls 3 [(0, .ref (ad 0)), (1, .int x1), (2, .int x2)] → W p l e (zR 6 129) s m args below meth c H locs 0 0 (zQi (mG D cs ad) q below args s) (F0 m 2 ls []) := by
  intro n
  induction n with
  | zero => intro S x1 x2 H locs ls h; exact absurd h (fun h => by cases h)
  | succ n ih => intro S x1 x2 H locs ls h hW hl; exact w_X12_followAll_0_b2_l (F := F) C (fun S x1 x2 H locs ls h hW hl => ih S x1 x2 H locs ls h hW hl) h hW hl
def n_X12_followAll_0_e (F : Nat)  (S : Zs) (x1 : Int32) : Option (Int32 × Zs) :=
  n_X12_followAll_0_b2 F  S x1 (0 : Int32)
set_option maxRecDepth 20000 in
set_option maxHeartbeats 4000000 in
theorem w_X12_followAll_0_e {F : Nat} {q : (Int32 × Zs)} {S : Zs}  {x1 : Int32} {ls : Array Slot} {H : Heap} {locs : List Loc} (C : zC p s m args meth c cX12_followAll 3 RX12 (some .boolean))  (h : n_X12_followAll_0_e F  S x1 = some q) (hW : zW (mG D cs ad) s S H locs) (hl : lv_has ls 3 [(0, .ref (ad 0)), (1, .int x1)]) : W p l e (zR 6 129) s m args below meth c H locs 0 0 (zQi (mG D cs ad) q below args s) (F0 m 0 ls []) := by
  unfold n_X12_followAll_0_e at h
  obtain ⟨hx, hb, hml, hown, hts, hret, hlk⟩ := id C
  refine lv_iconst (v := 0) hx hb dX12_followAll_0 (by decide) ?_
  refine lv_istore_n (lv' := [(2, .int (0 : Int32)), (0, .ref (ad 0)), (1, .int x1)]) hx hb dX12_followAll_1 rfl hl (by decide) rfl (fun ls hl => ?_)
  exact w_X12_followAll_0_b2 (F := F) C F _ _ _ _ _ _ h hW (lv_sub hl [1, 2, 0] rfl)
def n_X12_followAll_0 (F : Nat) (S : Zs) (x1 : Int32) : Option (Int32 × Zs) := n_X12_followAll_0_e F  S x1
theorem c_X12_followAll_0 {l : Launch} {D : va_G} {cs ad : Nat → Nat} {F : Nat} {S : Zs} {x1 : Int32} {q : (Int32 × Zs)} (h : n_X12_followAll_0 F S x1 = some q) : zMi l yX12_followAll cX12_followAll 3 (some .boolean) (zR 6 129) (mG D cs ad) [.ref (ad 0), .int x1] S q :=
  zz_enter (by decide) (Nat.le_of_ble_eq_true rfl) (fun p e s m below meth c ls C hW hl => w_X12_followAll_0_e (F := F) C h hW (lv_sub hl [0, 1] rfl))
def n_X12_fewest_0_b72 (F : Nat) (rc23 : Zs → Int32 → Int32 → Option (Int32 × Zs)) (rc31 : Zs → Int32 → Int32 → Int32 → Option (Int32 × Zs)) (S : Zs) (x1 : Int32) (x2 : Int32) (x3 : Int32) : Option (Int32 × Zs) :=
  zlet (x3 + (1 : Int32)) (fun v1 => rc31 S x1 x2 v1)
set_option maxRecDepth 20000 in
set_option maxHeartbeats 4000000 in
theorem w_X12_fewest_0_b72 {F : Nat} {q : (Int32 × Zs)} {S : Zs} {rc23 : Zs → Int32 → Int32 → Option (Int32 × Zs)} {rc31 : Zs → Int32 → Int32 → Int32 → Option (Int32 × Zs)} {x1 : Int32} {x2 : Int32} {x3 : Int32} {ls : Array Slot} {H : Heap} {locs : List Loc} (C : zC p s m args meth c cX12_fewest 4 RX12 (some .int)) (hrc23 : ∀ (S : Zs) (x1 : Int32) (x2 : Int32) (H : Heap) (locs : List Loc) (ls : Array Slot), rc23 S x1 x2 = some q → zW (mG D cs ad) s S H locs → lv_has ls 4 [(0, .ref (ad 0)), (1, .int x1), (2, .int x2)] → W p l e (zR 7 151) s m args below meth c H locs 0 0 (zQi (mG D cs ad) q below args s) (F0 m 23 ls [])) (hrc31 : ∀ (S : Zs) (x1 : Int32) (x2 : Int32) (x3 : Int32) (H : Heap) (locs : List Loc) (ls : Array Slot), rc31 S x1 x2 x3 = some q → zW (mG D cs ad) s S H locs → lv_has ls 4 [(0, .ref (ad 0)), (1, .int x1), (2, .int x2), (3, .int x3)] → W p l e (zR 7 151) s m args below meth c H locs 0 0 (zQi (mG D cs ad) q below args s) (F0 m 31 ls [])) (h : n_X12_fewest_0_b72 F rc23 rc31 S x1 x2 x3 = some q) (hW : zW (mG D cs ad) s S H locs) (hl : lv_has ls 4 [(0, .ref (ad 0)), (1, .int x1), (2, .int x2), (3, .int x3)]) : W p l e (zR 7 151) s m args below meth c H locs 0 0 (zQi (mG D cs ad) q below args s) (F0 m 72 ls []) := by
  unfold n_X12_fewest_0_b72 at h
  obtain ⟨hx, hb, hml, hown, hts, hret, hlk⟩ := id C
  obtain ⟨v1, ev1, h⟩ := zz_name h
  refine lv_iinc (v := v1) (lv' := [(3, .int v1), (0, .ref (ad 0)), (1, .int x1), (2, .int x2)]) hx hb dX12_fewest_72 hl (k := 3) rfl ev1.symm (by decide) rfl (fun ls hl => ?_)
  refine lv_goto (tgt := 31) hx hb dX12_fewest_75 (by decide) ?_
  exact hrc31 _ _ _ _ _ _ _ h hW (lv_sub hl [1, 2, 3, 0] rfl)
def n_X12_fewest_0_b31_l (F : Nat) (rc23 : Zs → Int32 → Int32 → Option (Int32 × Zs)) (rc31 : Zs → Int32 → Int32 → Int32 → Option (Int32 × Zs)) (S : Zs) (x1 : Int32) (x2 : Int32) (x3 : Int32) : Option (Int32 × Zs) :=
  if x1 < x3 then (zlet (x2 + (1 : Int32)) (fun v1 => rc23 S x1 v1)) else (if (x3 &&& (x1 ^^^ (-1 : Int32))) = 0 then (zcl (n_J6_bitCount_0f7a4_m F S x3) (fun v3 S2 => if v3 = x2 then (zcl (n_X12_followAll_0 F S2 x3) (fun v5 S4 => if v5 = 0 then (n_X12_fewest_0_b72 F rc23 rc31 S4 x1 x2 x3) else (zpf S4 1 (0 : Int32) (fun S6 => zcl (n_X12_enters_0 F S6 x3) (fun v8 S7 => some (x2, S7)))))) else (n_X12_fewest_0_b72 F rc23 rc31 S2 x1 x2 x3))) else (n_X12_fewest_0_b72 F rc23 rc31 S x1 x2 x3))
set_option maxRecDepth 20000 in
set_option maxHeartbeats 4000000 in
theorem w_X12_fewest_0_b31_l {F : Nat} {q : (Int32 × Zs)} {S : Zs} {rc23 : Zs → Int32 → Int32 → Option (Int32 × Zs)} {rc31 : Zs → Int32 → Int32 → Int32 → Option (Int32 × Zs)} {x1 : Int32} {x2 : Int32} {x3 : Int32} {ls : Array Slot} {H : Heap} {locs : List Loc} (C : zC p s m args meth c cX12_fewest 4 RX12 (some .int)) (hrc23 : ∀ (S : Zs) (x1 : Int32) (x2 : Int32) (H : Heap) (locs : List Loc) (ls : Array Slot), rc23 S x1 x2 = some q → zW (mG D cs ad) s S H locs → lv_has ls 4 [(0, .ref (ad 0)), (1, .int x1), (2, .int x2)] → W p l e (zR 7 151) s m args below meth c H locs 0 0 (zQi (mG D cs ad) q below args s) (F0 m 23 ls [])) (hrc31 : ∀ (S : Zs) (x1 : Int32) (x2 : Int32) (x3 : Int32) (H : Heap) (locs : List Loc) (ls : Array Slot), rc31 S x1 x2 x3 = some q → zW (mG D cs ad) s S H locs → lv_has ls 4 [(0, .ref (ad 0)), (1, .int x1), (2, .int x2), (3, .int x3)] → W p l e (zR 7 151) s m args below meth c H locs 0 0 (zQi (mG D cs ad) q below args s) (F0 m 31 ls [])) (h : n_X12_fewest_0_b31_l F rc23 rc31 S x1 x2 x3 = some q) (hW : zW (mG D cs ad) s S H locs) (hl : lv_has ls 4 [(0, .ref (ad 0)), (1, .int x1), (2, .int x2), (3, .int x3)]) : W p l e (zR 7 151) s m args below meth c H locs 0 0 (zQi (mG D cs ad) q below args s) (F0 m 31 ls []) := by
  unfold n_X12_fewest_0_b31_l at h
  obtain ⟨hx, hb, hml, hown, hts, hret, hlk⟩ := id C
  refine lv_iload_n hx hb dX12_fewest_31 rfl (lv_at hl 3 rfl) ?_
  refine lv_iload_n hx hb dX12_fewest_32 rfl (lv_at hl 1 rfl) ?_
  refine zz_cgt (tgt := 78) C h dX12_fewest_33 (by decide) (fun h => ?_) (fun h => ?_)
  · obtain ⟨v1, ev1, h⟩ := zz_name h
    refine lv_iinc (v := v1) (lv' := [(2, .int v1), (0, .ref (ad 0)), (1, .int x1), (3, .int x3)]) hx hb dX12_fewest_78 hl (k := 2) rfl ev1.symm (by decide) rfl (fun ls hl => ?_)
    refine lv_goto (tgt := 23) hx hb dX12_fewest_81 (by decide) ?_
    exact hrc23 _ _ _ _ _ _ h hW (lv_sub hl [1, 2, 0] rfl)
  · refine lv_iload_n hx hb dX12_fewest_36 rfl (lv_at hl 3 rfl) ?_
    refine lv_iload_n hx hb dX12_fewest_37 rfl (lv_at hl 1 rfl) ?_
    refine lv_iconst (v := -1) hx hb dX12_fewest_38 (by decide) ?_
    refine lv_ixor hx hb dX12_fewest_39 ?_
    refine lv_iand hx hb dX12_fewest_40 ?_
    refine zz_ine (tgt := 72) C h dX12_fewest_41 (by decide) (fun h => ?_) (fun h => ?_)
    · exact w_X12_fewest_0_b72 (F := F) C hrc23 hrc31 h hW (lv_sub hl [0, 1, 2, 3] rfl)
    · refine lv_iload_n hx hb dX12_fewest_44 rfl (lv_at hl 3 rfl) ?_
      refine zz_callSi (As := [.int x3]) C hW h (fun r hr => c_J6_bitCount_0f7a4_m hr) lk_X12_151 rfl hl.1 ⟨rfl, rfl⟩ ⟨Nat.le_of_ble_eq_true rfl, Nat.le_of_ble_eq_true rfl⟩ (Nat.le_of_ble_eq_true rfl) ⟨Nat.zero_le _, Nat.zero_le _⟩ rfl dX12_fewest_45 (fun v3 S2 H locs h hW => ?_)
      refine lv_iload_n hx hb dX12_fewest_48 rfl (lv_at hl 2 rfl) ?_
      refine zz_cne (tgt := 72) C h dX12_fewest_49 (by decide) (fun h => ?_) (fun h => ?_)
      · exact w_X12_fewest_0_b72 (F := F) C hrc23 hrc31 h hW (lv_sub hl [0, 1, 2, 3] rfl)
      · refine lv_aload_n hx hb dX12_fewest_52 rfl (lv_at hl 0 rfl) ?_
        refine lv_iload_n hx hb dX12_fewest_53 rfl (lv_at hl 3 rfl) ?_
        refine zz_callVi (As := [.int x3]) C hW h (fun r hr => c_X12_followAll_0 hr) lk_X12_218 (hW.recv mr_0) rfl hl.1 ⟨rfl, rfl⟩ ⟨Nat.le_of_ble_eq_true rfl, Nat.le_of_ble_eq_true rfl⟩ (Nat.le_of_ble_eq_true rfl) ⟨Nat.zero_le _, Nat.zero_le _⟩ rfl dX12_fewest_54 (fun v5 S4 H locs h hW => ?_)
        refine zz_ieq (tgt := 72) C h dX12_fewest_57 (by decide) (fun h => ?_) (fun h => ?_)
        · exact w_X12_fewest_0_b72 (F := F) C hrc23 hrc31 h hW (lv_sub hl [0, 1, 2, 3] rfl)
        · refine lv_aload_n hx hb dX12_fewest_60 rfl (lv_at hl 0 rfl) ?_
          refine lv_iconst (v := 0) hx hb dX12_fewest_61 (by decide) ?_
          refine mp_0_1 C hW h fl_X12_11 dX12_fewest_62 (fun S6 H locs h hW => ?_)
          refine lv_aload_n hx hb dX12_fewest_65 rfl (lv_at hl 0 rfl) ?_
          refine lv_iload_n hx hb dX12_fewest_66 rfl (lv_at hl 3 rfl) ?_
          refine zz_callVv (As := [.int x3]) C hW h (fun r hr => c_X12_enters_0 hr) lk_X12_221 (hW.recv mr_0) rfl hl.1 ⟨rfl, rfl⟩ ⟨Nat.le_of_ble_eq_true rfl, Nat.le_of_ble_eq_true rfl⟩ (Nat.le_of_ble_eq_true rfl) ⟨Nat.zero_le _, Nat.zero_le _⟩ rfl dX12_fewest_67 (fun v8 S7 H locs h hW => ?_)
          refine lv_iload_n hx hb dX12_fewest_70 rfl (lv_at hl 2 rfl) ?_
          exact zz_iret C rfl h hW dX12_fewest_71
def n_X12_fewest_0_b31 (F : Nat) (rc23 : Zs → Int32 → Int32 → Option (Int32 × Zs)) (S : Zs) (x1 : Int32) (x2 : Int32) (x3 : Int32) : Option (Int32 × Zs) :=
  zfix (fun (rc : (Zs × Int32 × Int32 × Int32) → Option (Int32 × Zs)) (u : (Zs × Int32 × Int32 × Int32)) => n_X12_fewest_0_b31_l F rc23 (fun S x1 x2 x3 => rc (S, x1, x2, x3)) u.1 u.2.1 u.2.2.1 u.2.2.2) F (S, x1, x2, x3)
theorem w_X12_fewest_0_b31 {F : Nat} {q : (Int32 × Zs)} {rc23 : Zs → Int32 → Int32 → Option (Int32 × Zs)} (C : zC p s m args meth c cX12_fewest 4 RX12 (some .int)) (hrc23 : ∀ (S : Zs) (x1 : Int32) (x2 : Int32) (H : Heap) (locs : List Loc) (ls : Array Slot), rc23 S x1 x2 = some q → zW (mG D cs ad) s S H locs → lv_has ls 4 [(0, .ref (ad 0)), (1, .int x1), (2, .int x2)] → W p l e (zR 7 151) s m args below meth c H locs 0 0 (zQi (mG D cs ad) q below args s) (F0 m 23 ls [])) : ∀ (n : Nat) (S : Zs) (x1 : Int32) (x2 : Int32) (x3 : Int32) (H : Heap) (locs : List Loc) (ls : Array Slot), zfix (fun (rc : (Zs × Int32 × Int32 × Int32) → Option (Int32 × Zs)) (u : (Zs × Int32 × Int32 × Int32)) => n_X12_fewest_0_b31_l F rc23 (fun S x1 x2 x3 => rc (S, x1, x2, x3)) u.1 u.2.1 u.2.2.1 u.2.2.2) n (S, x1, x2, x3) = some q → zW (mG D cs ad) s S H locs → lv_has ls 4 [(0, .ref (ad 0)), (1, .int x1), (2, .int x2), (3, .int x3)] → W p l e (zR 7 151) s m args below meth c H locs 0 0 (zQi (mG D cs ad) q below args s) (F0 m 31 ls []) := by
  intro n
  induction n with
  | zero => intro S x1 x2 x3 H locs ls h; exact absurd h (fun h => by cases h)
  | succ n ih => intro S x1 x2 x3 H locs ls h hW hl; exact w_X12_fewest_0_b31_l (F := F) C hrc23 (fun S x1 x2 x3 H locs ls h hW hl => ih S x1 x2 x3 H locs ls h hW hl) h hW hl
def n_X12_fewest_0_b23_l (F : Nat) (rc23 : Zs → Int32 → Int32 → Option (Int32 × Zs)) (S : Zs) (x1 : Int32) (x2 : Int32) : Option (Int32 × Zs) :=
  if (16 : Int32) < x2 then (some ((-2 : Int32), S)) else (n_X12_fewest_0_b31 F rc23 S x1 x2 (0 : Int32))
set_option maxRecDepth 20000 in
set_option maxHeartbeats 4000000 in
theorem w_X12_fewest_0_b23_l {F : Nat} {q : (Int32 × Zs)} {S : Zs} {rc23 : Zs → Int32 → Int32 → Option (Int32 × Zs)} {x1 : Int32} {x2 : Int32} {ls : Array Slot} {H : Heap} {locs : List Loc} (C : zC p s m args meth c cX12_fewest 4 RX12 (some .int)) (hrc23 : ∀ (S : Zs) (x1 : Int32) (x2 : Int32) (H : Heap) (locs : List Loc) (ls : Array Slot), rc23 S x1 x2 = some q → zW (mG D cs ad) s S H locs → lv_has ls 4 [(0, .ref (ad 0)), (1, .int x1), (2, .int x2)] → W p l e (zR 7 151) s m args below meth c H locs 0 0 (zQi (mG D cs ad) q below args s) (F0 m 23 ls [])) (h : n_X12_fewest_0_b23_l F rc23 S x1 x2 = some q) (hW : zW (mG D cs ad) s S H locs) (hl : lv_has ls 4 [(0, .ref (ad 0)), (1, .int x1), (2, .int x2)]) : W p l e (zR 7 151) s m args below meth c H locs 0 0 (zQi (mG D cs ad) q below args s) (F0 m 23 ls []) := by
  unfold n_X12_fewest_0_b23_l at h
  obtain ⟨hx, hb, hml, hown, hts, hret, hlk⟩ := id C
  refine lv_iload_n hx hb dX12_fewest_23 rfl (lv_at hl 2 rfl) ?_
  refine lv_bipush (v := 16) hx hb dX12_fewest_24 (by decide) ?_
  refine zz_cgt (tgt := 84) C h dX12_fewest_26 (by decide) (fun h => ?_) (fun h => ?_)
  · refine lv_bipush (v := -2) hx hb dX12_fewest_84 (by decide) ?_
    exact zz_iret C rfl h hW dX12_fewest_86
  · refine lv_iconst (v := 0) hx hb dX12_fewest_29 (by decide) ?_
    refine lv_istore_n (lv' := [(3, .int (0 : Int32)), (0, .ref (ad 0)), (1, .int x1), (2, .int x2)]) hx hb dX12_fewest_30 rfl hl (by decide) rfl (fun ls hl => ?_)
    exact w_X12_fewest_0_b31 (F := F) C hrc23 F _ _ _ _ _ _ _ h hW (lv_sub hl [1, 2, 3, 0] rfl)
def n_X12_fewest_0_b23 (F : Nat)  (S : Zs) (x1 : Int32) (x2 : Int32) : Option (Int32 × Zs) :=
  zfix (fun (rc : (Zs × Int32 × Int32) → Option (Int32 × Zs)) (u : (Zs × Int32 × Int32)) => n_X12_fewest_0_b23_l F  (fun S x1 x2 => rc (S, x1, x2)) u.1 u.2.1 u.2.2) F (S, x1, x2)
theorem w_X12_fewest_0_b23 {F : Nat} {q : (Int32 × Zs)}  (C : zC p s m args meth c cX12_fewest 4 RX12 (some .int))  : ∀ (n : Nat) (S : Zs) (x1 : Int32) (x2 : Int32) (H : Heap) (locs : List Loc) (ls : Array Slot), zfix (fun (rc : (Zs × Int32 × Int32) → Option (Int32 × Zs)) (u : (Zs × Int32 × Int32)) => n_X12_fewest_0_b23_l F  (fun S x1 x2 => rc (S, x1, x2)) u.1 u.2.1 u.2.2) n (S, x1, x2) = some q → zW (mG D cs ad) s S H locs → lv_has ls 4 [(0, .ref (ad 0)), (1, .int x1), (2, .int x2)] → W p l e (zR 7 151) s m args below meth c H locs 0 0 (zQi (mG D cs ad) q below args s) (F0 m 23 ls []) := by
  intro n
  induction n with
  | zero => intro S x1 x2 H locs ls h; exact absurd h (fun h => by cases h)
  | succ n ih => intro S x1 x2 H locs ls h hW hl; exact w_X12_fewest_0_b23_l (F := F) C (fun S x1 x2 H locs ls h hW hl => ih S x1 x2 H locs ls h hW hl) h hW hl
def n_X12_fewest_0_e (F : Nat)  (S : Zs)  : Option (Int32 × Zs) :=
  zpf S 0 (0 : Int32) (fun S1 => zcl (n_X12_standing_0 F S1 ) (fun v3 S2 => zcl (n_X12_followAll_0 F S2 v3) (fun v5 S4 => if v5 = 0 then (some ((-2 : Int32), S4)) else (n_X12_fewest_0_b23 F  S4 v3 (0 : Int32)))))
set_option maxRecDepth 20000 in
set_option maxHeartbeats 4000000 in
theorem w_X12_fewest_0_e {F : Nat} {q : (Int32 × Zs)} {S : Zs}   {ls : Array Slot} {H : Heap} {locs : List Loc} (C : zC p s m args meth c cX12_fewest 4 RX12 (some .int))  (h : n_X12_fewest_0_e F  S  = some q) (hW : zW (mG D cs ad) s S H locs) (hl : lv_has ls 4 [(0, .ref (ad 0))]) : W p l e (zR 7 151) s m args below meth c H locs 0 0 (zQi (mG D cs ad) q below args s) (F0 m 0 ls []) := by
  unfold n_X12_fewest_0_e at h
  obtain ⟨hx, hb, hml, hown, hts, hret, hlk⟩ := id C
  refine lv_aload_n hx hb dX12_fewest_0 rfl (lv_at hl 0 rfl) ?_
  refine lv_iconst (v := 0) hx hb dX12_fewest_1 (by decide) ?_
  refine mp_0_0 C hW h fl_X12_3 dX12_fewest_2 (fun S1 H locs h hW => ?_)
  refine lv_aload_n hx hb dX12_fewest_5 rfl (lv_at hl 0 rfl) ?_
  refine zz_callVi (As := []) C hW h (fun r hr => c_X12_standing_0 hr) lk_X12_206 (hW.recv mr_0) rfl hl.1 ⟨rfl, rfl⟩ ⟨Nat.le_of_ble_eq_true rfl, Nat.le_of_ble_eq_true rfl⟩ (Nat.le_of_ble_eq_true rfl) ⟨Nat.zero_le _, Nat.zero_le _⟩ rfl dX12_fewest_6 (fun v3 S2 H locs h hW => ?_)
  refine lv_istore_n (lv' := [(1, .int v3), (0, .ref (ad 0))]) hx hb dX12_fewest_9 rfl hl (by decide) rfl (fun ls hl => ?_)
  refine lv_aload_n hx hb dX12_fewest_10 rfl (lv_at hl 1 rfl) ?_
  refine lv_iload_n hx hb dX12_fewest_11 rfl (lv_at hl 0 rfl) ?_
  refine zz_callVi (As := [.int v3]) C hW h (fun r hr => c_X12_followAll_0 hr) lk_X12_218 (hW.recv mr_0) rfl hl.1 ⟨rfl, rfl⟩ ⟨Nat.le_of_ble_eq_true rfl, Nat.le_of_ble_eq_true rfl⟩ (Nat.le_of_ble_eq_true rfl) ⟨Nat.zero_le _, Nat.zero_le _⟩ rfl dX12_fewest_12 (fun v5 S4 H locs h hW => ?_)
  refine zz_ine (tgt := 21) C h dX12_fewest_15 (by decide) (fun h => ?_) (fun h => ?_)
  · refine lv_iconst (v := 0) hx hb dX12_fewest_21 (by decide) ?_
    refine lv_istore_n (lv' := [(2, .int (0 : Int32)), (1, .int v3), (0, .ref (ad 0))]) hx hb dX12_fewest_22 rfl hl (by decide) rfl (fun ls hl => ?_)
    exact w_X12_fewest_0_b23 (F := F) C F _ _ _ _ _ _ h hW (lv_sub hl [2, 1, 0] rfl)
  · refine lv_bipush (v := -2) hx hb dX12_fewest_18 (by decide) ?_
    exact zz_iret C rfl h hW dX12_fewest_20
def n_X12_fewest_0 (F : Nat) (S : Zs)  : Option (Int32 × Zs) := n_X12_fewest_0_e F  S 
theorem c_X12_fewest_0 {l : Launch} {D : va_G} {cs ad : Nat → Nat} {F : Nat} {S : Zs}  {q : (Int32 × Zs)} (h : n_X12_fewest_0 F S  = some q) : zMi l yX12_fewest cX12_fewest 4 (some .int) (zR 7 151) (mG D cs ad) [.ref (ad 0)] S q :=
  zz_enter (by decide) (Nat.le_of_ble_eq_true rfl) (fun p e s m below meth c ls C hW hl => w_X12_fewest_0_e (F := F) C h hW (lv_sub hl [0] rfl))
def n_X12_idle_0_b58 (F : Nat) (rc14 : Zs → Int32 → Int32 → Int32 → Option (Int32 × Zs)) (S : Zs) (x1 : Int32) (x3 : Int32) (t0 : Int32) (t1 : Int32) : Option (Int32 × Zs) :=
  zlet (t1 ||| t0) (fun v1 => zlet (x3 + (1 : Int32)) (fun v2 => rc14 S x1 v1 v2))
set_option maxRecDepth 20000 in
set_option maxHeartbeats 4000000 in
theorem w_X12_idle_0_b58 {F : Nat} {q : (Int32 × Zs)} {S : Zs} {rc14 : Zs → Int32 → Int32 → Int32 → Option (Int32 × Zs)} {x1 : Int32} {x3 : Int32} {t0 : Int32} {t1 : Int32} {ls : Array Slot} {H : Heap} {locs : List Loc} (C : zC p s m args meth c cX12_idle 4 RX12 (some .int)) (hrc14 : ∀ (S : Zs) (x1 : Int32) (x2 : Int32) (x3 : Int32) (H : Heap) (locs : List Loc) (ls : Array Slot), rc14 S x1 x2 x3 = some q → zW (mG D cs ad) s S H locs → lv_has ls 4 [(0, .ref (ad 0)), (1, .int x1), (2, .int x2), (3, .int x3)] → W p l e (zR 6 129) s m args below meth c H locs 0 0 (zQi (mG D cs ad) q below args s) (F0 m 14 ls [])) (h : n_X12_idle_0_b58 F rc14 S x1 x3 t0 t1 = some q) (hW : zW (mG D cs ad) s S H locs) (hl : lv_has ls 4 [(0, .ref (ad 0)), (1, .int x1), (3, .int x3)]) : W p l e (zR 6 129) s m args below meth c H locs 0 0 (zQi (mG D cs ad) q below args s) (F0 m 58 ls [.int t0, .int t1]) := by
  unfold n_X12_idle_0_b58 at h
  obtain ⟨hx, hb, hml, hown, hts, hret, hlk⟩ := id C
  refine lv_ior hx hb dX12_idle_58 ?_
  refine zz_leti h (fun v1 h => ?_)
  refine lv_istore_n (lv' := [(2, .int v1), (0, .ref (ad 0)), (1, .int x1), (3, .int x3)]) hx hb dX12_idle_59 rfl hl (by decide) rfl (fun ls hl => ?_)
  obtain ⟨v2, ev2, h⟩ := zz_name h
  refine lv_iinc (v := v2) (lv' := [(3, .int v2), (2, .int v1), (0, .ref (ad 0)), (1, .int x1)]) hx hb dX12_idle_60 hl (k := 3) rfl ev2.symm (by decide) rfl (fun ls hl => ?_)
  refine lv_goto (tgt := 14) hx hb dX12_idle_63 (by decide) ?_
  exact hrc14 _ _ _ _ _ _ _ h hW (lv_sub hl [2, 3, 1, 0] rfl)
def n_X12_idle_0_b57 (F : Nat) (rc14 : Zs → Int32 → Int32 → Int32 → Option (Int32 × Zs)) (S : Zs) (x1 : Int32) (x3 : Int32) (t0 : Int32) : Option (Int32 × Zs) :=
  n_X12_idle_0_b58 F rc14 S x1 x3 (0 : Int32) t0
set_option maxRecDepth 20000 in
set_option maxHeartbeats 4000000 in
theorem w_X12_idle_0_b57 {F : Nat} {q : (Int32 × Zs)} {S : Zs} {rc14 : Zs → Int32 → Int32 → Int32 → Option (Int32 × Zs)} {x1 : Int32} {x3 : Int32} {t0 : Int32} {ls : Array Slot} {H : Heap} {locs : List Loc} (C : zC p s m args meth c cX12_idle 4 RX12 (some .int)) (hrc14 : ∀ (S : Zs) (x1 : Int32) (x2 : Int32) (x3 : Int32) (H : Heap) (locs : List Loc) (ls : Array Slot), rc14 S x1 x2 x3 = some q → zW (mG D cs ad) s S H locs → lv_has ls 4 [(0, .ref (ad 0)), (1, .int x1), (2, .int x2), (3, .int x3)] → W p l e (zR 6 129) s m args below meth c H locs 0 0 (zQi (mG D cs ad) q below args s) (F0 m 14 ls [])) (h : n_X12_idle_0_b57 F rc14 S x1 x3 t0 = some q) (hW : zW (mG D cs ad) s S H locs) (hl : lv_has ls 4 [(0, .ref (ad 0)), (1, .int x1), (3, .int x3)]) : W p l e (zR 6 129) s m args below meth c H locs 0 0 (zQi (mG D cs ad) q below args s) (F0 m 57 ls [.int t0]) := by
  unfold n_X12_idle_0_b57 at h
  obtain ⟨hx, hb, hml, hown, hts, hret, hlk⟩ := id C
  refine lv_iconst (v := 0) hx hb dX12_idle_57 (by decide) ?_
  exact w_X12_idle_0_b58 (F := F) C hrc14 h hW (lv_sub hl [0, 1, 2] rfl)
def n_X12_idle_0_b14_l (F : Nat) (rc14 : Zs → Int32 → Int32 → Int32 → Option (Int32 × Zs)) (S : Zs) (x1 : Int32) (x2 : Int32) (x3 : Int32) : Option (Int32 × Zs) :=
  zgf S 3 (fun v1 => if v1 ≤ x3 then (some (x2, S)) else (zcl (n_X12_has F S x1 x3) (fun v3 S2 => if v3 = 0 then (n_X12_idle_0_b57 F rc14 S2 x1 x3 x2) else (zld S2 2 16 x3 (fun v4 => zcl (n_X12_followsFrom_0 F S2 (x1 &&& (((1 : Int32) <<< (x3 &&& 31)) ^^^ (-1 : Int32))) v4) (fun v6 S5 => if v6 = 0 then (n_X12_idle_0_b57 F rc14 S5 x1 x3 x2) else (n_X12_idle_0_b58 F rc14 S5 x1 x3 ((1 : Int32) <<< (x3 &&& 31)) x2)))))))
set_option maxRecDepth 20000 in
set_option maxHeartbeats 4000000 in
theorem w_X12_idle_0_b14_l {F : Nat} {q : (Int32 × Zs)} {S : Zs} {rc14 : Zs → Int32 → Int32 → Int32 → Option (Int32 × Zs)} {x1 : Int32} {x2 : Int32} {x3 : Int32} {ls : Array Slot} {H : Heap} {locs : List Loc} (C : zC p s m args meth c cX12_idle 4 RX12 (some .int)) (hrc14 : ∀ (S : Zs) (x1 : Int32) (x2 : Int32) (x3 : Int32) (H : Heap) (locs : List Loc) (ls : Array Slot), rc14 S x1 x2 x3 = some q → zW (mG D cs ad) s S H locs → lv_has ls 4 [(0, .ref (ad 0)), (1, .int x1), (2, .int x2), (3, .int x3)] → W p l e (zR 6 129) s m args below meth c H locs 0 0 (zQi (mG D cs ad) q below args s) (F0 m 14 ls [])) (h : n_X12_idle_0_b14_l F rc14 S x1 x2 x3 = some q) (hW : zW (mG D cs ad) s S H locs) (hl : lv_has ls 4 [(0, .ref (ad 0)), (1, .int x1), (2, .int x2), (3, .int x3)]) : W p l e (zR 6 129) s m args below meth c H locs 0 0 (zQi (mG D cs ad) q below args s) (F0 m 14 ls []) := by
  unfold n_X12_idle_0_b14_l at h
  obtain ⟨hx, hb, hml, hown, hts, hret, hlk⟩ := id C
  refine lv_iload_n hx hb dX12_idle_14 rfl (lv_at hl 3 rfl) ?_
  refine lv_aload_n hx hb dX12_idle_15 rfl (lv_at hl 0 rfl) ?_
  refine mg_0_3 C hW h fl_X12_105 dX12_idle_16 (fun v1 h => ?_)
  refine zz_cge (tgt := 66) C h dX12_idle_19 (by decide) (fun h => ?_) (fun h => ?_)
  · refine lv_iload_n hx hb dX12_idle_66 rfl (lv_at hl 2 rfl) ?_
    exact zz_iret C rfl h hW dX12_idle_67
  · refine lv_iload_n hx hb dX12_idle_22 rfl (lv_at hl 2 rfl) ?_
    refine lv_iload_n hx hb dX12_idle_23 rfl (lv_at hl 1 rfl) ?_
    refine lv_iload_n hx hb dX12_idle_24 rfl (lv_at hl 3 rfl) ?_
    refine zz_callSi (As := [.int x1, .int x3]) C hW h (fun r hr => c_X12_has hr) lk_X12_129 rfl hl.1 ⟨rfl, rfl⟩ ⟨Nat.le_of_ble_eq_true rfl, Nat.le_of_ble_eq_true rfl⟩ (Nat.le_of_ble_eq_true rfl) ⟨Nat.zero_le _, Nat.zero_le _⟩ rfl dX12_idle_25 (fun v3 S2 H locs h hW => ?_)
    refine zz_ieq (tgt := 57) C h dX12_idle_28 (by decide) (fun h => ?_) (fun h => ?_)
    · exact w_X12_idle_0_b57 (F := F) C hrc14 h hW (lv_sub hl [0, 1, 3] rfl)
    · refine lv_aload_n hx hb dX12_idle_31 rfl (lv_at hl 0 rfl) ?_
      refine lv_iload_n hx hb dX12_idle_32 rfl (lv_at hl 1 rfl) ?_
      refine lv_iconst (v := 1) hx hb dX12_idle_33 (by decide) ?_
      refine lv_iload_n hx hb dX12_idle_34 rfl (lv_at hl 3 rfl) ?_
      refine lv_ishl hx hb dX12_idle_35 ?_
      refine lv_iconst (v := -1) hx hb dX12_idle_36 (by decide) ?_
      refine lv_ixor hx hb dX12_idle_37 ?_
      refine lv_iand hx hb dX12_idle_38 ?_
      refine lv_aload_n hx hb dX12_idle_39 rfl (lv_at hl 0 rfl) ?_
      refine mg_0_4 C hW fl_X12_87 dX12_idle_40 ?_
      refine lv_iload_n hx hb dX12_idle_43 rfl (lv_at hl 3 rfl) ?_
      refine ml_2 C hW h dX12_idle_44 (fun v4 h => ?_)
      refine zz_callVi (As := [.int (x1 &&& (((1 : Int32) <<< (x3 &&& 31)) ^^^ (-1 : Int32))), .int v4]) C hW h (fun r hr => c_X12_followsFrom_0 hr) lk_X12_212 (hW.recv mr_0) rfl hl.1 ⟨rfl, rfl⟩ ⟨Nat.le_of_ble_eq_true rfl, Nat.le_of_ble_eq_true rfl⟩ (Nat.le_of_ble_eq_true rfl) ⟨Nat.zero_le _, Nat.zero_le _⟩ rfl dX12_idle_45 (fun v6 S5 H locs h hW => ?_)
      refine zz_ieq (tgt := 57) C h dX12_idle_48 (by decide) (fun h => ?_) (fun h => ?_)
      · exact w_X12_idle_0_b57 (F := F) C hrc14 h hW (lv_sub hl [0, 1, 3] rfl)
      · refine lv_iconst (v := 1) hx hb dX12_idle_51 (by decide) ?_
        refine lv_iload_n hx hb dX12_idle_52 rfl (lv_at hl 3 rfl) ?_
        refine lv_ishl hx hb dX12_idle_53 ?_
        refine lv_goto (tgt := 58) hx hb dX12_idle_54 (by decide) ?_
        exact w_X12_idle_0_b58 (F := F) C hrc14 h hW (lv_sub hl [0, 1, 3] rfl)
def n_X12_idle_0_b14 (F : Nat)  (S : Zs) (x1 : Int32) (x2 : Int32) (x3 : Int32) : Option (Int32 × Zs) :=
  zfix (fun (rc : (Zs × Int32 × Int32 × Int32) → Option (Int32 × Zs)) (u : (Zs × Int32 × Int32 × Int32)) => n_X12_idle_0_b14_l F  (fun S x1 x2 x3 => rc (S, x1, x2, x3)) u.1 u.2.1 u.2.2.1 u.2.2.2) F (S, x1, x2, x3)
theorem w_X12_idle_0_b14 {F : Nat} {q : (Int32 × Zs)}  (C : zC p s m args meth c cX12_idle 4 RX12 (some .int))  : ∀ (n : Nat) (S : Zs) (x1 : Int32) (x2 : Int32) (x3 : Int32) (H : Heap) (locs : List Loc) (ls : Array Slot), zfix (fun (rc : (Zs × Int32 × Int32 × Int32) → Option (Int32 × Zs)) (u : (Zs × Int32 × Int32 × Int32)) => n_X12_idle_0_b14_l F  (fun S x1 x2 x3 => rc (S, x1, x2, x3)) u.1 u.2.1 u.2.2.1 u.2.2.2) n (S, x1, x2, x3) = some q → zW (mG D cs ad) s S H locs → lv_has ls 4 [(0, .ref (ad 0)), (1, .int x1), (2, .int x2), (3, .int x3)] → W p l e (zR 6 129) s m args below meth c H locs 0 0 (zQi (mG D cs ad) q below args s) (F0 m 14 ls []) := by
  intro n
  induction n with
  | zero => intro S x1 x2 x3 H locs ls h; exact absurd h (fun h => by cases h)
  | succ n ih => intro S x1 x2 x3 H locs ls h hW hl; exact w_X12_idle_0_b14_l (F := F) C (fun S x1 x2 x3 H locs ls h hW hl => ih S x1 x2 x3 H locs ls h hW hl) h hW hl
def n_X12_idle_0_e (F : Nat)  (S : Zs)  : Option (Int32 × Zs) :=
  zpf S 0 (0 : Int32) (fun S1 => zcl (n_X12_standing_0 F S1 ) (fun v3 S2 => n_X12_idle_0_b14 F  S2 v3 (0 : Int32) (0 : Int32)))
set_option maxRecDepth 20000 in
set_option maxHeartbeats 4000000 in
theorem w_X12_idle_0_e {F : Nat} {q : (Int32 × Zs)} {S : Zs}   {ls : Array Slot} {H : Heap} {locs : List Loc} (C : zC p s m args meth c cX12_idle 4 RX12 (some .int))  (h : n_X12_idle_0_e F  S  = some q) (hW : zW (mG D cs ad) s S H locs) (hl : lv_has ls 4 [(0, .ref (ad 0))]) : W p l e (zR 6 129) s m args below meth c H locs 0 0 (zQi (mG D cs ad) q below args s) (F0 m 0 ls []) := by
  unfold n_X12_idle_0_e at h
  obtain ⟨hx, hb, hml, hown, hts, hret, hlk⟩ := id C
  refine lv_aload_n hx hb dX12_idle_0 rfl (lv_at hl 0 rfl) ?_
  refine lv_iconst (v := 0) hx hb dX12_idle_1 (by decide) ?_
  refine mp_0_0 C hW h fl_X12_3 dX12_idle_2 (fun S1 H locs h hW => ?_)
  refine lv_aload_n hx hb dX12_idle_5 rfl (lv_at hl 0 rfl) ?_
  refine zz_callVi (As := []) C hW h (fun r hr => c_X12_standing_0 hr) lk_X12_206 (hW.recv mr_0) rfl hl.1 ⟨rfl, rfl⟩ ⟨Nat.le_of_ble_eq_true rfl, Nat.le_of_ble_eq_true rfl⟩ (Nat.le_of_ble_eq_true rfl) ⟨Nat.zero_le _, Nat.zero_le _⟩ rfl dX12_idle_6 (fun v3 S2 H locs h hW => ?_)
  refine lv_istore_n (lv' := [(1, .int v3), (0, .ref (ad 0))]) hx hb dX12_idle_9 rfl hl (by decide) rfl (fun ls hl => ?_)
  refine lv_iconst (v := 0) hx hb dX12_idle_10 (by decide) ?_
  refine lv_istore_n (lv' := [(2, .int (0 : Int32)), (1, .int v3), (0, .ref (ad 0))]) hx hb dX12_idle_11 rfl hl (by decide) rfl (fun ls hl => ?_)
  refine lv_iconst (v := 0) hx hb dX12_idle_12 (by decide) ?_
  refine lv_istore_n (lv' := [(3, .int (0 : Int32)), (2, .int (0 : Int32)), (1, .int v3), (0, .ref (ad 0))]) hx hb dX12_idle_13 rfl hl (by decide) rfl (fun ls hl => ?_)
  exact w_X12_idle_0_b14 (F := F) C F _ _ _ _ _ _ _ h hW (lv_sub hl [3, 2, 1, 0] rfl)
def n_X12_idle_0 (F : Nat) (S : Zs)  : Option (Int32 × Zs) := n_X12_idle_0_e F  S 
theorem c_X12_idle_0 {l : Launch} {D : va_G} {cs ad : Nat → Nat} {F : Nat} {S : Zs}  {q : (Int32 × Zs)} (h : n_X12_idle_0 F S  = some q) : zMi l yX12_idle cX12_idle 4 (some .int) (zR 6 129) (mG D cs ad) [.ref (ad 0)] S q :=
  zz_enter (by decide) (Nat.le_of_ble_eq_true rfl) (fun p e s m below meth c ls C hW hl => w_X12_idle_0_e (F := F) C h hW (lv_sub hl [0] rfl))
def n_X12_followsOne_0_e (F : Nat)  (S : Zs) (x1 : Int32) (x2 : Int32) : Option (Int32 × Zs) :=
  zpf S 18 (0 : Int32) (fun S1 => zcl (n_X12_laysMore_0 F S1 x2) (fun v3 S2 => zcl (n_X12_followsLaid_0 F S2 x1) (fun v5 S4 => zrb v5 S4)))
set_option maxRecDepth 20000 in
set_option maxHeartbeats 4000000 in
theorem w_X12_followsOne_0_e {F : Nat} {q : (Int32 × Zs)} {S : Zs}  {x1 : Int32} {x2 : Int32} {ls : Array Slot} {H : Heap} {locs : List Loc} (C : zC p s m args meth c cX12_followsOne 3 RX12 (some .boolean))  (h : n_X12_followsOne_0_e F  S x1 x2 = some q) (hW : zW (mG D cs ad) s S H locs) (hl : lv_has ls 3 [(0, .ref (ad 0)), (1, .int x1), (2, .int x2)]) : W p l e (zR 5 107) s m args below meth c H locs 0 0 (zQi (mG D cs ad) q below args s) (F0 m 0 ls []) := by
  unfold n_X12_followsOne_0_e at h
  obtain ⟨hx, hb, hml, hown, hts, hret, hlk⟩ := id C
  refine lv_aload_n hx hb dX12_followsOne_0 rfl (lv_at hl 0 rfl) ?_
  refine lv_iconst (v := 0) hx hb dX12_followsOne_1 (by decide) ?_
  refine mp_0_18 C hW h fl_X12_156 dX12_followsOne_2 (fun S1 H locs h hW => ?_)
  refine lv_aload_n hx hb dX12_followsOne_5 rfl (lv_at hl 0 rfl) ?_
  refine lv_iload_n hx hb dX12_followsOne_6 rfl (lv_at hl 2 rfl) ?_
  refine zz_callVv (As := [.int x2]) C hW h (fun r hr => c_X12_laysMore_0 hr) lk_X12_193 (hW.recv mr_0) rfl hl.1 ⟨rfl, rfl⟩ ⟨Nat.le_of_ble_eq_true rfl, Nat.le_of_ble_eq_true rfl⟩ (Nat.le_of_ble_eq_true rfl) ⟨Nat.zero_le _, Nat.zero_le _⟩ rfl dX12_followsOne_7 (fun v3 S2 H locs h hW => ?_)
  refine lv_aload_n hx hb dX12_followsOne_10 rfl (lv_at hl 0 rfl) ?_
  refine lv_iload_n hx hb dX12_followsOne_11 rfl (lv_at hl 1 rfl) ?_
  refine zz_callVi (As := [.int x1]) C hW h (fun r hr => c_X12_followsLaid_0 hr) lk_X12_203 (hW.recv mr_0) rfl hl.1 ⟨rfl, rfl⟩ ⟨Nat.le_of_ble_eq_true rfl, Nat.le_of_ble_eq_true rfl⟩ (Nat.le_of_ble_eq_true rfl) ⟨Nat.zero_le _, Nat.zero_le _⟩ rfl dX12_followsOne_12 (fun v5 S4 H locs h hW => ?_)
  exact zz_zret C rfl h hW dX12_followsOne_15
def n_X12_followsOne_0 (F : Nat) (S : Zs) (x1 : Int32) (x2 : Int32) : Option (Int32 × Zs) := n_X12_followsOne_0_e F  S x1 x2
theorem c_X12_followsOne_0 {l : Launch} {D : va_G} {cs ad : Nat → Nat} {F : Nat} {S : Zs} {x1 : Int32} {x2 : Int32} {q : (Int32 × Zs)} (h : n_X12_followsOne_0 F S x1 x2 = some q) : zMi l yX12_followsOne cX12_followsOne 3 (some .boolean) (zR 5 107) (mG D cs ad) [.ref (ad 0), .int x1, .int x2] S q :=
  zz_enter (by decide) (Nat.le_of_ble_eq_true rfl) (fun p e s m below meth c ls C hW hl => w_X12_followsOne_0_e (F := F) C h hW (lv_sub hl [0, 1, 2] rfl))
def n_X12_alike_0_b19 (F : Nat)  (S : Zs)  : Option (Int32 × Zs) :=
  some ((-1 : Int32), S)
set_option maxRecDepth 20000 in
set_option maxHeartbeats 4000000 in
theorem w_X12_alike_0_b19 {F : Nat} {q : (Int32 × Zs)} {S : Zs}   {ls : Array Slot} {H : Heap} {locs : List Loc} (C : zC p s m args meth c cX12_alike 5 RX12 (some .int))  (h : n_X12_alike_0_b19 F  S  = some q) (hW : zW (mG D cs ad) s S H locs) (hl : lv_has ls 5 []) : W p l e (zR 6 129) s m args below meth c H locs 0 0 (zQi (mG D cs ad) q below args s) (F0 m 19 ls []) := by
  unfold n_X12_alike_0_b19 at h
  obtain ⟨hx, hb, hml, hown, hts, hret, hlk⟩ := id C
  refine lv_iconst (v := -1) hx hb dX12_alike_19 (by decide) ?_
  exact zz_iret C rfl h hW dX12_alike_20
def n_X12_alike_0_b67 (F : Nat)  (S : Zs) (t0 : Int32) : Option (Int32 × Zs) :=
  some (t0, S)
set_option maxRecDepth 20000 in
set_option maxHeartbeats 4000000 in
theorem w_X12_alike_0_b67 {F : Nat} {q : (Int32 × Zs)} {S : Zs}  {t0 : Int32} {ls : Array Slot} {H : Heap} {locs : List Loc} (C : zC p s m args meth c cX12_alike 5 RX12 (some .int))  (h : n_X12_alike_0_b67 F  S t0 = some q) (hW : zW (mG D cs ad) s S H locs) (hl : lv_has ls 5 []) : W p l e (zR 6 129) s m args below meth c H locs 0 0 (zQi (mG D cs ad) q below args s) (F0 m 67 ls [.int t0]) := by
  unfold n_X12_alike_0_b67 at h
  obtain ⟨hx, hb, hml, hown, hts, hret, hlk⟩ := id C
  exact zz_iret C rfl h hW dX12_alike_67
def n_X12_alike_0_b49 (F : Nat)  (S : Zs) (x3 : Int32) (x4 : Int32) : Option (Int32 × Zs) :=
  if x3 = 0 then (if x4 = 0 then (n_X12_alike_0_b67 F  S (0 : Int32)) else (n_X12_alike_0_b67 F  S (3 : Int32))) else (n_X12_alike_0_b67 F  S (2 : Int32))
set_option maxRecDepth 20000 in
set_option maxHeartbeats 4000000 in
theorem w_X12_alike_0_b49 {F : Nat} {q : (Int32 × Zs)} {S : Zs}  {x3 : Int32} {x4 : Int32} {ls : Array Slot} {H : Heap} {locs : List Loc} (C : zC p s m args meth c cX12_alike 5 RX12 (some .int))  (h : n_X12_alike_0_b49 F  S x3 x4 = some q) (hW : zW (mG D cs ad) s S H locs) (hl : lv_has ls 5 [(3, .int x3), (4, .int x4)]) : W p l e (zR 6 129) s m args below meth c H locs 0 0 (zQi (mG D cs ad) q below args s) (F0 m 49 ls []) := by
  unfold n_X12_alike_0_b49 at h
  obtain ⟨hx, hb, hml, hown, hts, hret, hlk⟩ := id C
  refine lv_iload_n hx hb dX12_alike_49 rfl (lv_at hl 0 rfl) ?_
  refine zz_ieq (tgt := 57) C h dX12_alike_50 (by decide) (fun h => ?_) (fun h => ?_)
  · refine lv_iload hx hb dX12_alike_57 (lv_at hl 1 rfl) ?_
    refine zz_ieq (tgt := 66) C h dX12_alike_59 (by decide) (fun h => ?_) (fun h => ?_)
    · refine lv_iconst (v := 0) hx hb dX12_alike_66 (by decide) ?_
      exact w_X12_alike_0_b67 (F := F) C h hW (lv_sub hl [] rfl)
    · refine lv_iconst (v := 3) hx hb dX12_alike_62 (by decide) ?_
      refine lv_goto (tgt := 67) hx hb dX12_alike_63 (by decide) ?_
      exact w_X12_alike_0_b67 (F := F) C h hW (lv_sub hl [] rfl)
  · refine lv_iconst (v := 2) hx hb dX12_alike_53 (by decide) ?_
    refine lv_goto (tgt := 67) hx hb dX12_alike_54 (by decide) ?_
    exact w_X12_alike_0_b67 (F := F) C h hW (lv_sub hl [] rfl)
def n_X12_alike_0_e (F : Nat)  (S : Zs) (x1 : Int32) (x2 : Int32) : Option (Int32 × Zs) :=
  zpf S 0 (0 : Int32) (fun S1 => zcl (n_X12_isCode F S1 x1) (fun v3 S2 => if v3 = 0 then (n_X12_alike_0_b19 F  S2 ) else (zcl (n_X12_isCode F S2 x2) (fun v5 S4 => if v5 = 0 then (n_X12_alike_0_b19 F  S4 ) else (zcl (n_X12_followsOne_0 F S4 x2 x1) (fun v7 S6 => zcl (n_X12_followsOne_0 F S6 x1 x2) (fun v9 S8 => if v7 = 0 then (n_X12_alike_0_b49 F  S8 v7 v9) else (if v9 = 0 then (n_X12_alike_0_b49 F  S8 v7 v9) else (n_X12_alike_0_b67 F  S8 (1 : Int32))))))))))
set_option maxRecDepth 20000 in
set_option maxHeartbeats 4000000 in
theorem w_X12_alike_0_e {F : Nat} {q : (Int32 × Zs)} {S : Zs}  {x1 : Int32} {x2 : Int32} {ls : Array Slot} {H : Heap} {locs : List Loc} (C : zC p s m args meth c cX12_alike 5 RX12 (some .int))  (h : n_X12_alike_0_e F  S x1 x2 = some q) (hW : zW (mG D cs ad) s S H locs) (hl : lv_has ls 5 [(0, .ref (ad 0)), (1, .int x1), (2, .int x2)]) : W p l e (zR 6 129) s m args below meth c H locs 0 0 (zQi (mG D cs ad) q below args s) (F0 m 0 ls []) := by
  unfold n_X12_alike_0_e at h
  obtain ⟨hx, hb, hml, hown, hts, hret, hlk⟩ := id C
  refine lv_aload_n hx hb dX12_alike_0 rfl (lv_at hl 0 rfl) ?_
  refine lv_iconst (v := 0) hx hb dX12_alike_1 (by decide) ?_
  refine mp_0_0 C hW h fl_X12_3 dX12_alike_2 (fun S1 H locs h hW => ?_)
  refine lv_iload_n hx hb dX12_alike_5 rfl (lv_at hl 1 rfl) ?_
  refine zz_callSi (As := [.int x1]) C hW h (fun r hr => c_X12_isCode hr) lk_X12_142 rfl hl.1 ⟨rfl, rfl⟩ ⟨Nat.le_of_ble_eq_true rfl, Nat.le_of_ble_eq_true rfl⟩ (Nat.le_of_ble_eq_true rfl) ⟨Nat.zero_le _, Nat.zero_le _⟩ rfl dX12_alike_6 (fun v3 S2 H locs h hW => ?_)
  refine zz_ieq (tgt := 19) C h dX12_alike_9 (by decide) (fun h => ?_) (fun h => ?_)
  · exact w_X12_alike_0_b19 (F := F) C h hW (lv_sub hl [] rfl)
  · refine lv_iload_n hx hb dX12_alike_12 rfl (lv_at hl 2 rfl) ?_
    refine zz_callSi (As := [.int x2]) C hW h (fun r hr => c_X12_isCode hr) lk_X12_142 rfl hl.1 ⟨rfl, rfl⟩ ⟨Nat.le_of_ble_eq_true rfl, Nat.le_of_ble_eq_true rfl⟩ (Nat.le_of_ble_eq_true rfl) ⟨Nat.zero_le _, Nat.zero_le _⟩ rfl dX12_alike_13 (fun v5 S4 H locs h hW => ?_)
    refine zz_ine (tgt := 21) C h dX12_alike_16 (by decide) (fun h => ?_) (fun h => ?_)
    · refine lv_aload_n hx hb dX12_alike_21 rfl (lv_at hl 0 rfl) ?_
      refine lv_iload_n hx hb dX12_alike_22 rfl (lv_at hl 2 rfl) ?_
      refine lv_iload_n hx hb dX12_alike_23 rfl (lv_at hl 1 rfl) ?_
      refine zz_callVi (As := [.int x2, .int x1]) C hW h (fun r hr => c_X12_followsOne_0 hr) lk_X12_224 (hW.recv mr_0) rfl hl.1 ⟨rfl, rfl⟩ ⟨Nat.le_of_ble_eq_true rfl, Nat.le_of_ble_eq_true rfl⟩ (Nat.le_of_ble_eq_true rfl) ⟨Nat.zero_le _, Nat.zero_le _⟩ rfl dX12_alike_24 (fun v7 S6 H locs h hW => ?_)
      refine lv_istore_n (lv' := [(3, .int v7), (0, .ref (ad 0)), (1, .int x1), (2, .int x2)]) hx hb dX12_alike_27 rfl hl (by decide) rfl (fun ls hl => ?_)
      refine lv_aload_n hx hb dX12_alike_28 rfl (lv_at hl 1 rfl) ?_
      refine lv_iload_n hx hb dX12_alike_29 rfl (lv_at hl 2 rfl) ?_
      refine lv_iload_n hx hb dX12_alike_30 rfl (lv_at hl 3 rfl) ?_
      refine zz_callVi (As := [.int x1, .int x2]) C hW h (fun r hr => c_X12_followsOne_0 hr) lk_X12_224 (hW.recv mr_0) rfl hl.1 ⟨rfl, rfl⟩ ⟨Nat.le_of_ble_eq_true rfl, Nat.le_of_ble_eq_true rfl⟩ (Nat.le_of_ble_eq_true rfl) ⟨Nat.zero_le _, Nat.zero_le _⟩ rfl dX12_alike_31 (fun v9 S8 H locs h hW => ?_)
      refine lv_istore (lv' := [(4, .int v9), (3, .int v7), (0, .ref (ad 0)), (1, .int x1), (2, .int x2)]) hx hb dX12_alike_34 hl (by decide) rfl (fun ls hl => ?_)
      refine lv_iload_n hx hb dX12_alike_36 rfl (lv_at hl 1 rfl) ?_
      refine zz_ieq (tgt := 49) C h dX12_alike_37 (by decide) (fun h => ?_) (fun h => ?_)
      · exact w_X12_alike_0_b49 (F := F) C h hW (lv_sub hl [1, 0] rfl)
      · refine lv_iload hx hb dX12_alike_40 (lv_at hl 0 rfl) ?_
        refine zz_ieq (tgt := 49) C h dX12_alike_42 (by decide) (fun h => ?_) (fun h => ?_)
        · exact w_X12_alike_0_b49 (F := F) C h hW (lv_sub hl [1, 0] rfl)
        · refine lv_iconst (v := 1) hx hb dX12_alike_45 (by decide) ?_
          refine lv_goto (tgt := 67) hx hb dX12_alike_46 (by decide) ?_
          exact w_X12_alike_0_b67 (F := F) C h hW (lv_sub hl [] rfl)
    · exact w_X12_alike_0_b19 (F := F) C h hW (lv_sub hl [] rfl)
def n_X12_alike_0 (F : Nat) (S : Zs) (x1 : Int32) (x2 : Int32) : Option (Int32 × Zs) := n_X12_alike_0_e F  S x1 x2
theorem c_X12_alike_0 {l : Launch} {D : va_G} {cs ad : Nat → Nat} {F : Nat} {S : Zs} {x1 : Int32} {x2 : Int32} {q : (Int32 × Zs)} (h : n_X12_alike_0 F S x1 x2 = some q) : zMi l yX12_alike cX12_alike 5 (some .int) (zR 6 129) (mG D cs ad) [.ref (ad 0), .int x1, .int x2] S q :=
  zz_enter (by decide) (Nat.le_of_ble_eq_true rfl) (fun p e s m below meth c ls C hW hl => w_X12_alike_0_e (F := F) C h hW (lv_sub hl [0, 1, 2] rfl))
def n_X12_clash_0_b111 (F : Nat) (rc14 : Zs → Int32 → Int32 → Int32 → Option (Int32 × Zs)) (S : Zs) (x1 : Int32) (x2 : Int32) (x3 : Int32) : Option (Int32 × Zs) :=
  zlet (x3 + (1 : Int32)) (fun v1 => rc14 S x1 x2 v1)
set_option maxRecDepth 20000 in
set_option maxHeartbeats 4000000 in
theorem w_X12_clash_0_b111 {F : Nat} {q : (Int32 × Zs)} {S : Zs} {rc14 : Zs → Int32 → Int32 → Int32 → Option (Int32 × Zs)} {x1 : Int32} {x2 : Int32} {x3 : Int32} {ls : Array Slot} {H : Heap} {locs : List Loc} (C : zC p s m args meth c cX12_clash 6 RX12 (some .int)) (hrc14 : ∀ (S : Zs) (x1 : Int32) (x2 : Int32) (x3 : Int32) (H : Heap) (locs : List Loc) (ls : Array Slot), rc14 S x1 x2 x3 = some q → zW (mG D cs ad) s S H locs → lv_has ls 6 [(0, .ref (ad 0)), (1, .int x1), (2, .int x2), (3, .int x3)] → W p l e (zR 5 106) s m args below meth c H locs 0 0 (zQi (mG D cs ad) q below args s) (F0 m 14 ls [])) (h : n_X12_clash_0_b111 F rc14 S x1 x2 x3 = some q) (hW : zW (mG D cs ad) s S H locs) (hl : lv_has ls 6 [(0, .ref (ad 0)), (1, .int x1), (2, .int x2), (3, .int x3)]) : W p l e (zR 5 106) s m args below meth c H locs 0 0 (zQi (mG D cs ad) q below args s) (F0 m 111 ls []) := by
  unfold n_X12_clash_0_b111 at h
  obtain ⟨hx, hb, hml, hown, hts, hret, hlk⟩ := id C
  obtain ⟨v1, ev1, h⟩ := zz_name h
  refine lv_iinc (v := v1) (lv' := [(3, .int v1), (0, .ref (ad 0)), (1, .int x1), (2, .int x2)]) hx hb dX12_clash_111 hl (k := 3) rfl ev1.symm (by decide) rfl (fun ls hl => ?_)
  refine lv_goto (tgt := 14) hx hb dX12_clash_114 (by decide) ?_
  exact hrc14 _ _ _ _ _ _ _ h hW (lv_sub hl [1, 2, 3, 0] rfl)
def n_X12_clash_0_b97 (F : Nat) (rc14 : Zs → Int32 → Int32 → Int32 → Option (Int32 × Zs)) (S : Zs) (x1 : Int32) (x2 : Int32) (x3 : Int32) : Option (Int32 × Zs) :=
  zcl (n_X12_holdsBy_0 F S (x1 &&& (x3 ^^^ (-1 : Int32)))) (fun v2 S1 => if v2 = 0 then (n_X12_clash_0_b111 F rc14 S1 x1 x2 x3) else (n_X12_clash_0_b111 F rc14 S1 x1 x3 x3))
set_option maxRecDepth 20000 in
set_option maxHeartbeats 4000000 in
theorem w_X12_clash_0_b97 {F : Nat} {q : (Int32 × Zs)} {S : Zs} {rc14 : Zs → Int32 → Int32 → Int32 → Option (Int32 × Zs)} {x1 : Int32} {x2 : Int32} {x3 : Int32} {ls : Array Slot} {H : Heap} {locs : List Loc} (C : zC p s m args meth c cX12_clash 6 RX12 (some .int)) (hrc14 : ∀ (S : Zs) (x1 : Int32) (x2 : Int32) (x3 : Int32) (H : Heap) (locs : List Loc) (ls : Array Slot), rc14 S x1 x2 x3 = some q → zW (mG D cs ad) s S H locs → lv_has ls 6 [(0, .ref (ad 0)), (1, .int x1), (2, .int x2), (3, .int x3)] → W p l e (zR 5 106) s m args below meth c H locs 0 0 (zQi (mG D cs ad) q below args s) (F0 m 14 ls [])) (h : n_X12_clash_0_b97 F rc14 S x1 x2 x3 = some q) (hW : zW (mG D cs ad) s S H locs) (hl : lv_has ls 6 [(0, .ref (ad 0)), (1, .int x1), (2, .int x2), (3, .int x3)]) : W p l e (zR 5 106) s m args below meth c H locs 0 0 (zQi (mG D cs ad) q below args s) (F0 m 97 ls []) := by
  unfold n_X12_clash_0_b97 at h
  obtain ⟨hx, hb, hml, hown, hts, hret, hlk⟩ := id C
  refine lv_aload_n hx hb dX12_clash_97 rfl (lv_at hl 0 rfl) ?_
  refine lv_iload_n hx hb dX12_clash_98 rfl (lv_at hl 1 rfl) ?_
  refine lv_iload_n hx hb dX12_clash_99 rfl (lv_at hl 3 rfl) ?_
  refine lv_iconst (v := -1) hx hb dX12_clash_100 (by decide) ?_
  refine lv_ixor hx hb dX12_clash_101 ?_
  refine lv_iand hx hb dX12_clash_102 ?_
  refine zz_callVi (As := [.int (x1 &&& (x3 ^^^ (-1 : Int32)))]) C hW h (fun r hr => c_X12_holdsBy_0 hr) lk_X12_209 (hW.recv mr_0) rfl hl.1 ⟨rfl, rfl⟩ ⟨Nat.le_of_ble_eq_true rfl, Nat.le_of_ble_eq_true rfl⟩ (Nat.le_of_ble_eq_true rfl) ⟨Nat.zero_le _, Nat.zero_le _⟩ rfl dX12_clash_103 (fun v2 S1 H locs h hW => ?_)
  refine zz_ieq (tgt := 111) C h dX12_clash_106 (by decide) (fun h => ?_) (fun h => ?_)
  · exact w_X12_clash_0_b111 (F := F) C hrc14 h hW (lv_sub hl [0, 1, 2, 3] rfl)
  · refine lv_iload_n hx hb dX12_clash_109 rfl (lv_at hl 3 rfl) ?_
    refine lv_istore_n (lv' := [(2, .int x3), (0, .ref (ad 0)), (1, .int x1), (3, .int x3)]) hx hb dX12_clash_110 rfl hl (by decide) rfl (fun ls hl => ?_)
    exact w_X12_clash_0_b111 (F := F) C hrc14 h hW (lv_sub hl [1, 2, 0, 3] rfl)
def n_X12_clash_0_b80 (F : Nat) (rc14 : Zs → Int32 → Int32 → Int32 → Option (Int32 × Zs)) (S : Zs) (x1 : Int32) (x2 : Int32) (x3 : Int32) (x4 : Int32) (t0 : Int32) : Option (Int32 × Zs) :=
  if x4 < 0 then (n_X12_clash_0_b97 F rc14 S x1 x2 x3) else (if x4 = 0 then (if 0 ≤ t0 then (n_X12_clash_0_b111 F rc14 S x1 x2 x3) else (n_X12_clash_0_b97 F rc14 S x1 x2 x3)) else (n_X12_clash_0_b111 F rc14 S x1 x2 x3))
set_option maxRecDepth 20000 in
set_option maxHeartbeats 4000000 in
theorem w_X12_clash_0_b80 {F : Nat} {q : (Int32 × Zs)} {S : Zs} {rc14 : Zs → Int32 → Int32 → Int32 → Option (Int32 × Zs)} {x1 : Int32} {x2 : Int32} {x3 : Int32} {x4 : Int32} {t0 : Int32} {ls : Array Slot} {H : Heap} {locs : List Loc} (C : zC p s m args meth c cX12_clash 6 RX12 (some .int)) (hrc14 : ∀ (S : Zs) (x1 : Int32) (x2 : Int32) (x3 : Int32) (H : Heap) (locs : List Loc) (ls : Array Slot), rc14 S x1 x2 x3 = some q → zW (mG D cs ad) s S H locs → lv_has ls 6 [(0, .ref (ad 0)), (1, .int x1), (2, .int x2), (3, .int x3)] → W p l e (zR 5 106) s m args below meth c H locs 0 0 (zQi (mG D cs ad) q below args s) (F0 m 14 ls [])) (h : n_X12_clash_0_b80 F rc14 S x1 x2 x3 x4 t0 = some q) (hW : zW (mG D cs ad) s S H locs) (hl : lv_has ls 6 [(0, .ref (ad 0)), (1, .int x1), (2, .int x2), (3, .int x3), (4, .int x4)]) : W p l e (zR 5 106) s m args below meth c H locs 0 0 (zQi (mG D cs ad) q below args s) (F0 m 80 ls [.int t0]) := by
  unfold n_X12_clash_0_b80 at h
  obtain ⟨hx, hb, hml, hown, hts, hret, hlk⟩ := id C
  refine lv_istore (lv' := [(5, .int t0), (0, .ref (ad 0)), (1, .int x1), (2, .int x2), (3, .int x3), (4, .int x4)]) hx hb dX12_clash_80 hl (by decide) rfl (fun ls hl => ?_)
  refine lv_iload hx hb dX12_clash_82 (lv_at hl 5 rfl) ?_
  refine zz_ilt (tgt := 97) C h dX12_clash_84 (by decide) (fun h => ?_) (fun h => ?_)
  · exact w_X12_clash_0_b97 (F := F) C hrc14 h hW (lv_sub hl [1, 2, 3, 4] rfl)
  · refine lv_iload hx hb dX12_clash_87 (lv_at hl 5 rfl) ?_
    refine zz_ine (tgt := 111) C h dX12_clash_89 (by decide) (fun h => ?_) (fun h => ?_)
    · exact w_X12_clash_0_b111 (F := F) C hrc14 h hW (lv_sub hl [1, 2, 3, 4] rfl)
    · refine lv_iload hx hb dX12_clash_92 (lv_at hl 0 rfl) ?_
      refine zz_ige (tgt := 111) C h dX12_clash_94 (by decide) (fun h => ?_) (fun h => ?_)
      · exact w_X12_clash_0_b111 (F := F) C hrc14 h hW (lv_sub hl [1, 2, 3, 4] rfl)
      · exact w_X12_clash_0_b97 (F := F) C hrc14 h hW (lv_sub hl [1, 2, 3, 4] rfl)
def n_X12_clash_0_b47 (F : Nat) (rc14 : Zs → Int32 → Int32 → Int32 → Option (Int32 × Zs)) (S : Zs) (x1 : Int32) (x2 : Int32) (x3 : Int32) (t0 : Int32) : Option (Int32 × Zs) :=
  if 0 ≤ x2 then (zgf S 6 (fun v1 => zcl (n_J6_bitCount_0f7a4_m F S (x3 &&& (v1 ^^^ (-1 : Int32)))) (fun v3 S2 => zgf S2 6 (fun v4 => zcl (n_J6_bitCount_0f7a4_m F S2 (x2 &&& (v4 ^^^ (-1 : Int32)))) (fun v6 S5 => n_X12_clash_0_b80 F rc14 S5 x1 x2 x3 t0 (v3 - v6)))))) else (n_X12_clash_0_b80 F rc14 S x1 x2 x3 t0 (-1 : Int32))
set_option maxRecDepth 20000 in
set_option maxHeartbeats 4000000 in
theorem w_X12_clash_0_b47 {F : Nat} {q : (Int32 × Zs)} {S : Zs} {rc14 : Zs → Int32 → Int32 → Int32 → Option (Int32 × Zs)} {x1 : Int32} {x2 : Int32} {x3 : Int32} {t0 : Int32} {ls : Array Slot} {H : Heap} {locs : List Loc} (C : zC p s m args meth c cX12_clash 6 RX12 (some .int)) (hrc14 : ∀ (S : Zs) (x1 : Int32) (x2 : Int32) (x3 : Int32) (H : Heap) (locs : List Loc) (ls : Array Slot), rc14 S x1 x2 x3 = some q → zW (mG D cs ad) s S H locs → lv_has ls 6 [(0, .ref (ad 0)), (1, .int x1), (2, .int x2), (3, .int x3)] → W p l e (zR 5 106) s m args below meth c H locs 0 0 (zQi (mG D cs ad) q below args s) (F0 m 14 ls [])) (h : n_X12_clash_0_b47 F rc14 S x1 x2 x3 t0 = some q) (hW : zW (mG D cs ad) s S H locs) (hl : lv_has ls 6 [(0, .ref (ad 0)), (1, .int x1), (2, .int x2), (3, .int x3)]) : W p l e (zR 5 106) s m args below meth c H locs 0 0 (zQi (mG D cs ad) q below args s) (F0 m 47 ls [.int t0]) := by
  unfold n_X12_clash_0_b47 at h
  obtain ⟨hx, hb, hml, hown, hts, hret, hlk⟩ := id C
  refine lv_istore (lv' := [(4, .int t0), (0, .ref (ad 0)), (1, .int x1), (2, .int x2), (3, .int x3)]) hx hb dX12_clash_47 hl (by decide) rfl (fun ls hl => ?_)
  refine lv_iload_n hx hb dX12_clash_49 rfl (lv_at hl 3 rfl) ?_
  refine zz_ige (tgt := 57) C h dX12_clash_50 (by decide) (fun h => ?_) (fun h => ?_)
  · refine lv_iload_n hx hb dX12_clash_57 rfl (lv_at hl 4 rfl) ?_
    refine lv_aload_n hx hb dX12_clash_58 rfl (lv_at hl 1 rfl) ?_
    refine mg_0_6 C hW h fl_X12_115 dX12_clash_59 (fun v1 h => ?_)
    refine lv_iconst (v := -1) hx hb dX12_clash_62 (by decide) ?_
    refine lv_ixor hx hb dX12_clash_63 ?_
    refine lv_iand hx hb dX12_clash_64 ?_
    refine zz_callSi (As := [.int (x3 &&& (v1 ^^^ (-1 : Int32)))]) C hW h (fun r hr => c_J6_bitCount_0f7a4_m hr) lk_X12_151 rfl hl.1 ⟨rfl, rfl⟩ ⟨Nat.le_of_ble_eq_true rfl, Nat.le_of_ble_eq_true rfl⟩ (Nat.le_of_ble_eq_true rfl) ⟨Nat.zero_le _, Nat.zero_le _⟩ rfl dX12_clash_65 (fun v3 S2 H locs h hW => ?_)
    refine lv_iload_n hx hb dX12_clash_68 rfl (lv_at hl 3 rfl) ?_
    refine lv_aload_n hx hb dX12_clash_69 rfl (lv_at hl 1 rfl) ?_
    refine mg_0_6 C hW h fl_X12_115 dX12_clash_70 (fun v4 h => ?_)
    refine lv_iconst (v := -1) hx hb dX12_clash_73 (by decide) ?_
    refine lv_ixor hx hb dX12_clash_74 ?_
    refine lv_iand hx hb dX12_clash_75 ?_
    refine zz_callSi (As := [.int (x2 &&& (v4 ^^^ (-1 : Int32)))]) C hW h (fun r hr => c_J6_bitCount_0f7a4_m hr) lk_X12_151 rfl hl.1 ⟨rfl, rfl⟩ ⟨Nat.le_of_ble_eq_true rfl, Nat.le_of_ble_eq_true rfl⟩ (Nat.le_of_ble_eq_true rfl) ⟨Nat.zero_le _, Nat.zero_le _⟩ rfl dX12_clash_76 (fun v6 S5 H locs h hW => ?_)
    refine lv_isub hx hb dX12_clash_79 ?_
    exact w_X12_clash_0_b80 (F := F) C hrc14 h hW (lv_sub hl [1, 2, 3, 4, 0] rfl)
  · refine lv_iconst (v := -1) hx hb dX12_clash_53 (by decide) ?_
    refine lv_goto (tgt := 80) hx hb dX12_clash_54 (by decide) ?_
    exact w_X12_clash_0_b80 (F := F) C hrc14 h hW (lv_sub hl [1, 2, 3, 4, 0] rfl)
def n_X12_clash_0_b14_l (F : Nat) (rc14 : Zs → Int32 → Int32 → Int32 → Option (Int32 × Zs)) (S : Zs) (x1 : Int32) (x2 : Int32) (x3 : Int32) : Option (Int32 × Zs) :=
  if x1 < x3 then (zpf S 1 (0 : Int32) (fun S1 => zcl (n_X12_enters_0 F S1 x2) (fun v3 S2 => zcl (n_J6_bitCount_0f7a4_m F S2 x2) (fun v5 S4 => some (v5, S4))))) else (if (x3 &&& (x1 ^^^ (-1 : Int32))) = 0 then (if 0 ≤ x2 then (zcl (n_J6_bitCount_0f7a4_m F S x3) (fun v7 S6 => zcl (n_J6_bitCount_0f7a4_m F S6 x2) (fun v9 S8 => n_X12_clash_0_b47 F rc14 S8 x1 x2 x3 (v7 - v9)))) else (n_X12_clash_0_b47 F rc14 S x1 x2 x3 (-1 : Int32))) else (n_X12_clash_0_b111 F rc14 S x1 x2 x3))
set_option maxRecDepth 20000 in
set_option maxHeartbeats 4000000 in
theorem w_X12_clash_0_b14_l {F : Nat} {q : (Int32 × Zs)} {S : Zs} {rc14 : Zs → Int32 → Int32 → Int32 → Option (Int32 × Zs)} {x1 : Int32} {x2 : Int32} {x3 : Int32} {ls : Array Slot} {H : Heap} {locs : List Loc} (C : zC p s m args meth c cX12_clash 6 RX12 (some .int)) (hrc14 : ∀ (S : Zs) (x1 : Int32) (x2 : Int32) (x3 : Int32) (H : Heap) (locs : List Loc) (ls : Array Slot), rc14 S x1 x2 x3 = some q → zW (mG D cs ad) s S H locs → lv_has ls 6 [(0, .ref (ad 0)), (1, .int x1), (2, .int x2), (3, .int x3)] → W p l e (zR 5 106) s m args below meth c H locs 0 0 (zQi (mG D cs ad) q below args s) (F0 m 14 ls [])) (h : n_X12_clash_0_b14_l F rc14 S x1 x2 x3 = some q) (hW : zW (mG D cs ad) s S H locs) (hl : lv_has ls 6 [(0, .ref (ad 0)), (1, .int x1), (2, .int x2), (3, .int x3)]) : W p l e (zR 5 106) s m args below meth c H locs 0 0 (zQi (mG D cs ad) q below args s) (F0 m 14 ls []) := by
  unfold n_X12_clash_0_b14_l at h
  obtain ⟨hx, hb, hml, hown, hts, hret, hlk⟩ := id C
  refine lv_iload_n hx hb dX12_clash_14 rfl (lv_at hl 3 rfl) ?_
  refine lv_iload_n hx hb dX12_clash_15 rfl (lv_at hl 1 rfl) ?_
  refine zz_cgt (tgt := 117) C h dX12_clash_16 (by decide) (fun h => ?_) (fun h => ?_)
  · refine lv_aload_n hx hb dX12_clash_117 rfl (lv_at hl 0 rfl) ?_
    refine lv_iconst (v := 0) hx hb dX12_clash_118 (by decide) ?_
    refine mp_0_1 C hW h fl_X12_11 dX12_clash_119 (fun S1 H locs h hW => ?_)
    refine lv_aload_n hx hb dX12_clash_122 rfl (lv_at hl 0 rfl) ?_
    refine lv_iload_n hx hb dX12_clash_123 rfl (lv_at hl 2 rfl) ?_
    refine zz_callVv (As := [.int x2]) C hW h (fun r hr => c_X12_enters_0 hr) lk_X12_221 (hW.recv mr_0) rfl hl.1 ⟨rfl, rfl⟩ ⟨Nat.le_of_ble_eq_true rfl, Nat.le_of_ble_eq_true rfl⟩ (Nat.le_of_ble_eq_true rfl) ⟨Nat.zero_le _, Nat.zero_le _⟩ rfl dX12_clash_124 (fun v3 S2 H locs h hW => ?_)
    refine lv_iload_n hx hb dX12_clash_127 rfl (lv_at hl 2 rfl) ?_
    refine zz_callSi (As := [.int x2]) C hW h (fun r hr => c_J6_bitCount_0f7a4_m hr) lk_X12_151 rfl hl.1 ⟨rfl, rfl⟩ ⟨Nat.le_of_ble_eq_true rfl, Nat.le_of_ble_eq_true rfl⟩ (Nat.le_of_ble_eq_true rfl) ⟨Nat.zero_le _, Nat.zero_le _⟩ rfl dX12_clash_128 (fun v5 S4 H locs h hW => ?_)
    exact zz_iret C rfl h hW dX12_clash_131
  · refine lv_iload_n hx hb dX12_clash_19 rfl (lv_at hl 3 rfl) ?_
    refine lv_iload_n hx hb dX12_clash_20 rfl (lv_at hl 1 rfl) ?_
    refine lv_iconst (v := -1) hx hb dX12_clash_21 (by decide) ?_
    refine lv_ixor hx hb dX12_clash_22 ?_
    refine lv_iand hx hb dX12_clash_23 ?_
    refine zz_ieq (tgt := 30) C h dX12_clash_24 (by decide) (fun h => ?_) (fun h => ?_)
    · refine lv_iload_n hx hb dX12_clash_30 rfl (lv_at hl 2 rfl) ?_
      refine zz_ige (tgt := 38) C h dX12_clash_31 (by decide) (fun h => ?_) (fun h => ?_)
      · refine lv_iload_n hx hb dX12_clash_38 rfl (lv_at hl 3 rfl) ?_
        refine zz_callSi (As := [.int x3]) C hW h (fun r hr => c_J6_bitCount_0f7a4_m hr) lk_X12_151 rfl hl.1 ⟨rfl, rfl⟩ ⟨Nat.le_of_ble_eq_true rfl, Nat.le_of_ble_eq_true rfl⟩ (Nat.le_of_ble_eq_true rfl) ⟨Nat.zero_le _, Nat.zero_le _⟩ rfl dX12_clash_39 (fun v7 S6 H locs h hW => ?_)
        refine lv_iload_n hx hb dX12_clash_42 rfl (lv_at hl 2 rfl) ?_
        refine zz_callSi (As := [.int x2]) C hW h (fun r hr => c_J6_bitCount_0f7a4_m hr) lk_X12_151 rfl hl.1 ⟨rfl, rfl⟩ ⟨Nat.le_of_ble_eq_true rfl, Nat.le_of_ble_eq_true rfl⟩ (Nat.le_of_ble_eq_true rfl) ⟨Nat.zero_le _, Nat.zero_le _⟩ rfl dX12_clash_43 (fun v9 S8 H locs h hW => ?_)
        refine lv_isub hx hb dX12_clash_46 ?_
        exact w_X12_clash_0_b47 (F := F) C hrc14 h hW (lv_sub hl [0, 1, 2, 3] rfl)
      · refine lv_iconst (v := -1) hx hb dX12_clash_34 (by decide) ?_
        refine lv_goto (tgt := 47) hx hb dX12_clash_35 (by decide) ?_
        exact w_X12_clash_0_b47 (F := F) C hrc14 h hW (lv_sub hl [0, 1, 2, 3] rfl)
    · refine lv_goto (tgt := 111) hx hb dX12_clash_27 (by decide) ?_
      exact w_X12_clash_0_b111 (F := F) C hrc14 h hW (lv_sub hl [0, 1, 2, 3] rfl)
def n_X12_clash_0_b14 (F : Nat)  (S : Zs) (x1 : Int32) (x2 : Int32) (x3 : Int32) : Option (Int32 × Zs) :=
  zfix (fun (rc : (Zs × Int32 × Int32 × Int32) → Option (Int32 × Zs)) (u : (Zs × Int32 × Int32 × Int32)) => n_X12_clash_0_b14_l F  (fun S x1 x2 x3 => rc (S, x1, x2, x3)) u.1 u.2.1 u.2.2.1 u.2.2.2) F (S, x1, x2, x3)
theorem w_X12_clash_0_b14 {F : Nat} {q : (Int32 × Zs)}  (C : zC p s m args meth c cX12_clash 6 RX12 (some .int))  : ∀ (n : Nat) (S : Zs) (x1 : Int32) (x2 : Int32) (x3 : Int32) (H : Heap) (locs : List Loc) (ls : Array Slot), zfix (fun (rc : (Zs × Int32 × Int32 × Int32) → Option (Int32 × Zs)) (u : (Zs × Int32 × Int32 × Int32)) => n_X12_clash_0_b14_l F  (fun S x1 x2 x3 => rc (S, x1, x2, x3)) u.1 u.2.1 u.2.2.1 u.2.2.2) n (S, x1, x2, x3) = some q → zW (mG D cs ad) s S H locs → lv_has ls 6 [(0, .ref (ad 0)), (1, .int x1), (2, .int x2), (3, .int x3)] → W p l e (zR 5 106) s m args below meth c H locs 0 0 (zQi (mG D cs ad) q below args s) (F0 m 14 ls []) := by
  intro n
  induction n with
  | zero => intro S x1 x2 x3 H locs ls h; exact absurd h (fun h => by cases h)
  | succ n ih => intro S x1 x2 x3 H locs ls h hW hl; exact w_X12_clash_0_b14_l (F := F) C (fun S x1 x2 x3 H locs ls h hW hl => ih S x1 x2 x3 H locs ls h hW hl) h hW hl
def n_X12_clash_0_e (F : Nat)  (S : Zs)  : Option (Int32 × Zs) :=
  zpf S 0 (0 : Int32) (fun S1 => zcl (n_X12_standing_0 F S1 ) (fun v3 S2 => n_X12_clash_0_b14 F  S2 v3 (-1 : Int32) (0 : Int32)))
set_option maxRecDepth 20000 in
set_option maxHeartbeats 4000000 in
theorem w_X12_clash_0_e {F : Nat} {q : (Int32 × Zs)} {S : Zs}   {ls : Array Slot} {H : Heap} {locs : List Loc} (C : zC p s m args meth c cX12_clash 6 RX12 (some .int))  (h : n_X12_clash_0_e F  S  = some q) (hW : zW (mG D cs ad) s S H locs) (hl : lv_has ls 6 [(0, .ref (ad 0))]) : W p l e (zR 5 106) s m args below meth c H locs 0 0 (zQi (mG D cs ad) q below args s) (F0 m 0 ls []) := by
  unfold n_X12_clash_0_e at h
  obtain ⟨hx, hb, hml, hown, hts, hret, hlk⟩ := id C
  refine lv_aload_n hx hb dX12_clash_0 rfl (lv_at hl 0 rfl) ?_
  refine lv_iconst (v := 0) hx hb dX12_clash_1 (by decide) ?_
  refine mp_0_0 C hW h fl_X12_3 dX12_clash_2 (fun S1 H locs h hW => ?_)
  refine lv_aload_n hx hb dX12_clash_5 rfl (lv_at hl 0 rfl) ?_
  refine zz_callVi (As := []) C hW h (fun r hr => c_X12_standing_0 hr) lk_X12_206 (hW.recv mr_0) rfl hl.1 ⟨rfl, rfl⟩ ⟨Nat.le_of_ble_eq_true rfl, Nat.le_of_ble_eq_true rfl⟩ (Nat.le_of_ble_eq_true rfl) ⟨Nat.zero_le _, Nat.zero_le _⟩ rfl dX12_clash_6 (fun v3 S2 H locs h hW => ?_)
  refine lv_istore_n (lv' := [(1, .int v3), (0, .ref (ad 0))]) hx hb dX12_clash_9 rfl hl (by decide) rfl (fun ls hl => ?_)
  refine lv_iconst (v := -1) hx hb dX12_clash_10 (by decide) ?_
  refine lv_istore_n (lv' := [(2, .int (-1 : Int32)), (1, .int v3), (0, .ref (ad 0))]) hx hb dX12_clash_11 rfl hl (by decide) rfl (fun ls hl => ?_)
  refine lv_iconst (v := 0) hx hb dX12_clash_12 (by decide) ?_
  refine lv_istore_n (lv' := [(3, .int (0 : Int32)), (2, .int (-1 : Int32)), (1, .int v3), (0, .ref (ad 0))]) hx hb dX12_clash_13 rfl hl (by decide) rfl (fun ls hl => ?_)
  exact w_X12_clash_0_b14 (F := F) C F _ _ _ _ _ _ _ h hW (lv_sub hl [3, 2, 1, 0] rfl)
def n_X12_clash_0 (F : Nat) (S : Zs)  : Option (Int32 × Zs) := n_X12_clash_0_e F  S 
theorem c_X12_clash_0 {l : Launch} {D : va_G} {cs ad : Nat → Nat} {F : Nat} {S : Zs}  {q : (Int32 × Zs)} (h : n_X12_clash_0 F S  = some q) : zMi l yX12_clash cX12_clash 6 (some .int) (zR 5 106) (mG D cs ad) [.ref (ad 0)] S q :=
  zz_enter (by decide) (Nat.le_of_ble_eq_true rfl) (fun p e s m below meth c ls C hW hl => w_X12_clash_0_e (F := F) C h hW (lv_sub hl [0] rfl))
def n_X12_saidBy_0_b33 (F : Nat) (rc4 : Zs → Int32 → Int32 → Int32 → Option (Int32 × Zs)) (S : Zs) (x1 : Int32) (x3 : Int32) (t0 : Int32) (t1 : Int32) : Option (Int32 × Zs) :=
  zlet (t1 ||| t0) (fun v1 => zlet (x3 + (1 : Int32)) (fun v2 => rc4 S x1 v1 v2))
set_option maxRecDepth 20000 in
set_option maxHeartbeats 4000000 in
theorem w_X12_saidBy_0_b33 {F : Nat} {q : (Int32 × Zs)} {S : Zs} {rc4 : Zs → Int32 → Int32 → Int32 → Option (Int32 × Zs)} {x1 : Int32} {x3 : Int32} {t0 : Int32} {t1 : Int32} {ls : Array Slot} {H : Heap} {locs : List Loc} (C : zC p s m args meth c cX12_saidBy 4 RX12 (some .int)) (hrc4 : ∀ (S : Zs) (x1 : Int32) (x2 : Int32) (x3 : Int32) (H : Heap) (locs : List Loc) (ls : Array Slot), rc4 S x1 x2 x3 = some q → zW (mG D cs ad) s S H locs → lv_has ls 4 [(0, .ref (ad 0)), (1, .int x1), (2, .int x2), (3, .int x3)] → W p l e (zR 1 21) s m args below meth c H locs 0 0 (zQi (mG D cs ad) q below args s) (F0 m 4 ls [])) (h : n_X12_saidBy_0_b33 F rc4 S x1 x3 t0 t1 = some q) (hW : zW (mG D cs ad) s S H locs) (hl : lv_has ls 4 [(0, .ref (ad 0)), (1, .int x1), (3, .int x3)]) : W p l e (zR 1 21) s m args below meth c H locs 0 0 (zQi (mG D cs ad) q below args s) (F0 m 33 ls [.int t0, .int t1]) := by
  unfold n_X12_saidBy_0_b33 at h
  obtain ⟨hx, hb, hml, hown, hts, hret, hlk⟩ := id C
  refine lv_ior hx hb dX12_saidBy_33 ?_
  refine zz_leti h (fun v1 h => ?_)
  refine lv_istore_n (lv' := [(2, .int v1), (0, .ref (ad 0)), (1, .int x1), (3, .int x3)]) hx hb dX12_saidBy_34 rfl hl (by decide) rfl (fun ls hl => ?_)
  obtain ⟨v2, ev2, h⟩ := zz_name h
  refine lv_iinc (v := v2) (lv' := [(3, .int v2), (2, .int v1), (0, .ref (ad 0)), (1, .int x1)]) hx hb dX12_saidBy_35 hl (k := 3) rfl ev2.symm (by decide) rfl (fun ls hl => ?_)
  refine lv_goto (tgt := 4) hx hb dX12_saidBy_38 (by decide) ?_
  exact hrc4 _ _ _ _ _ _ _ h hW (lv_sub hl [2, 3, 1, 0] rfl)
def n_X12_saidBy_0_b4_l (F : Nat) (rc4 : Zs → Int32 → Int32 → Int32 → Option (Int32 × Zs)) (S : Zs) (x1 : Int32) (x2 : Int32) (x3 : Int32) : Option (Int32 × Zs) :=
  zgf S 3 (fun v1 => if v1 ≤ x3 then (some (x2, S)) else (zld S 3 16 x3 (fun v2 => zcl (n_X12_has F S x1 v2) (fun v4 S3 => if v4 = 0 then (n_X12_saidBy_0_b33 F rc4 S3 x1 x3 (0 : Int32) x2) else (n_X12_saidBy_0_b33 F rc4 S3 x1 x3 ((1 : Int32) <<< (x3 &&& 31)) x2)))))
set_option maxRecDepth 20000 in
set_option maxHeartbeats 4000000 in
theorem w_X12_saidBy_0_b4_l {F : Nat} {q : (Int32 × Zs)} {S : Zs} {rc4 : Zs → Int32 → Int32 → Int32 → Option (Int32 × Zs)} {x1 : Int32} {x2 : Int32} {x3 : Int32} {ls : Array Slot} {H : Heap} {locs : List Loc} (C : zC p s m args meth c cX12_saidBy 4 RX12 (some .int)) (hrc4 : ∀ (S : Zs) (x1 : Int32) (x2 : Int32) (x3 : Int32) (H : Heap) (locs : List Loc) (ls : Array Slot), rc4 S x1 x2 x3 = some q → zW (mG D cs ad) s S H locs → lv_has ls 4 [(0, .ref (ad 0)), (1, .int x1), (2, .int x2), (3, .int x3)] → W p l e (zR 1 21) s m args below meth c H locs 0 0 (zQi (mG D cs ad) q below args s) (F0 m 4 ls [])) (h : n_X12_saidBy_0_b4_l F rc4 S x1 x2 x3 = some q) (hW : zW (mG D cs ad) s S H locs) (hl : lv_has ls 4 [(0, .ref (ad 0)), (1, .int x1), (2, .int x2), (3, .int x3)]) : W p l e (zR 1 21) s m args below meth c H locs 0 0 (zQi (mG D cs ad) q below args s) (F0 m 4 ls []) := by
  unfold n_X12_saidBy_0_b4_l at h
  obtain ⟨hx, hb, hml, hown, hts, hret, hlk⟩ := id C
  refine lv_iload_n hx hb dX12_saidBy_4 rfl (lv_at hl 3 rfl) ?_
  refine lv_aload_n hx hb dX12_saidBy_5 rfl (lv_at hl 0 rfl) ?_
  refine mg_0_3 C hW h fl_X12_105 dX12_saidBy_6 (fun v1 h => ?_)
  refine zz_cge (tgt := 41) C h dX12_saidBy_9 (by decide) (fun h => ?_) (fun h => ?_)
  · refine lv_iload_n hx hb dX12_saidBy_41 rfl (lv_at hl 2 rfl) ?_
    exact zz_iret C rfl h hW dX12_saidBy_42
  · refine lv_iload_n hx hb dX12_saidBy_12 rfl (lv_at hl 2 rfl) ?_
    refine lv_iload_n hx hb dX12_saidBy_13 rfl (lv_at hl 1 rfl) ?_
    refine lv_aload_n hx hb dX12_saidBy_14 rfl (lv_at hl 0 rfl) ?_
    refine mg_0_5 C hW fl_X12_93 dX12_saidBy_15 ?_
    refine lv_iload_n hx hb dX12_saidBy_18 rfl (lv_at hl 3 rfl) ?_
    refine ml_3 C hW h dX12_saidBy_19 (fun v2 h => ?_)
    refine zz_callSi (As := [.int x1, .int v2]) C hW h (fun r hr => c_X12_has hr) lk_X12_129 rfl hl.1 ⟨rfl, rfl⟩ ⟨Nat.le_of_ble_eq_true rfl, Nat.le_of_ble_eq_true rfl⟩ (Nat.le_of_ble_eq_true rfl) ⟨Nat.zero_le _, Nat.zero_le _⟩ rfl dX12_saidBy_20 (fun v4 S3 H locs h hW => ?_)
    refine zz_ieq (tgt := 32) C h dX12_saidBy_23 (by decide) (fun h => ?_) (fun h => ?_)
    · refine lv_iconst (v := 0) hx hb dX12_saidBy_32 (by decide) ?_
      exact w_X12_saidBy_0_b33 (F := F) C hrc4 h hW (lv_sub hl [0, 1, 3] rfl)
    · refine lv_iconst (v := 1) hx hb dX12_saidBy_26 (by decide) ?_
      refine lv_iload_n hx hb dX12_saidBy_27 rfl (lv_at hl 3 rfl) ?_
      refine lv_ishl hx hb dX12_saidBy_28 ?_
      refine lv_goto (tgt := 33) hx hb dX12_saidBy_29 (by decide) ?_
      exact w_X12_saidBy_0_b33 (F := F) C hrc4 h hW (lv_sub hl [0, 1, 3] rfl)
def n_X12_saidBy_0_b4 (F : Nat)  (S : Zs) (x1 : Int32) (x2 : Int32) (x3 : Int32) : Option (Int32 × Zs) :=
  zfix (fun (rc : (Zs × Int32 × Int32 × Int32) → Option (Int32 × Zs)) (u : (Zs × Int32 × Int32 × Int32)) => n_X12_saidBy_0_b4_l F  (fun S x1 x2 x3 => rc (S, x1, x2, x3)) u.1 u.2.1 u.2.2.1 u.2.2.2) F (S, x1, x2, x3)
theorem w_X12_saidBy_0_b4 {F : Nat} {q : (Int32 × Zs)}  (C : zC p s m args meth c cX12_saidBy 4 RX12 (some .int))  : ∀ (n : Nat) (S : Zs) (x1 : Int32) (x2 : Int32) (x3 : Int32) (H : Heap) (locs : List Loc) (ls : Array Slot), zfix (fun (rc : (Zs × Int32 × Int32 × Int32) → Option (Int32 × Zs)) (u : (Zs × Int32 × Int32 × Int32)) => n_X12_saidBy_0_b4_l F  (fun S x1 x2 x3 => rc (S, x1, x2, x3)) u.1 u.2.1 u.2.2.1 u.2.2.2) n (S, x1, x2, x3) = some q → zW (mG D cs ad) s S H locs → lv_has ls 4 [(0, .ref (ad 0)), (1, .int x1), (2, .int x2), (3, .int x3)] → W p l e (zR 1 21) s m args below meth c H locs 0 0 (zQi (mG D cs ad) q below args s) (F0 m 4 ls []) := by
  intro n
  induction n with
  | zero => intro S x1 x2 x3 H locs ls h; exact absurd h (fun h => by cases h)
  | succ n ih => intro S x1 x2 x3 H locs ls h hW hl; exact w_X12_saidBy_0_b4_l (F := F) C (fun S x1 x2 x3 H locs ls h hW hl => ih S x1 x2 x3 H locs ls h hW hl) h hW hl
def n_X12_saidBy_0_e (F : Nat)  (S : Zs) (x1 : Int32) : Option (Int32 × Zs) :=
  n_X12_saidBy_0_b4 F  S x1 (0 : Int32) (0 : Int32)
set_option maxRecDepth 20000 in
set_option maxHeartbeats 4000000 in
theorem w_X12_saidBy_0_e {F : Nat} {q : (Int32 × Zs)} {S : Zs}  {x1 : Int32} {ls : Array Slot} {H : Heap} {locs : List Loc} (C : zC p s m args meth c cX12_saidBy 4 RX12 (some .int))  (h : n_X12_saidBy_0_e F  S x1 = some q) (hW : zW (mG D cs ad) s S H locs) (hl : lv_has ls 4 [(0, .ref (ad 0)), (1, .int x1)]) : W p l e (zR 1 21) s m args below meth c H locs 0 0 (zQi (mG D cs ad) q below args s) (F0 m 0 ls []) := by
  unfold n_X12_saidBy_0_e at h
  obtain ⟨hx, hb, hml, hown, hts, hret, hlk⟩ := id C
  refine lv_iconst (v := 0) hx hb dX12_saidBy_0 (by decide) ?_
  refine lv_istore_n (lv' := [(2, .int (0 : Int32)), (0, .ref (ad 0)), (1, .int x1)]) hx hb dX12_saidBy_1 rfl hl (by decide) rfl (fun ls hl => ?_)
  refine lv_iconst (v := 0) hx hb dX12_saidBy_2 (by decide) ?_
  refine lv_istore_n (lv' := [(3, .int (0 : Int32)), (2, .int (0 : Int32)), (0, .ref (ad 0)), (1, .int x1)]) hx hb dX12_saidBy_3 rfl hl (by decide) rfl (fun ls hl => ?_)
  exact w_X12_saidBy_0_b4 (F := F) C F _ _ _ _ _ _ _ h hW (lv_sub hl [2, 3, 1, 0] rfl)
def n_X12_saidBy_0 (F : Nat) (S : Zs) (x1 : Int32) : Option (Int32 × Zs) := n_X12_saidBy_0_e F  S x1
theorem c_X12_saidBy_0 {l : Launch} {D : va_G} {cs ad : Nat → Nat} {F : Nat} {S : Zs} {x1 : Int32} {q : (Int32 × Zs)} (h : n_X12_saidBy_0 F S x1 = some q) : zMi l yX12_saidBy cX12_saidBy 4 (some .int) (zR 1 21) (mG D cs ad) [.ref (ad 0), .int x1] S q :=
  zz_enter (by decide) (Nat.le_of_ble_eq_true rfl) (fun p e s m below meth c ls C hW hl => w_X12_saidBy_0_e (F := F) C h hW (lv_sub hl [0, 1] rfl))
def n_X12_liars_0_b62 (F : Nat) (rc9 : Zs → Int32 → Int32 → Option (Int32 × Zs)) (S : Zs) (x1 : Int32) (x2 : Int32) : Option (Int32 × Zs) :=
  zlet (x2 + (1 : Int32)) (fun v1 => rc9 S x1 v1)
set_option maxRecDepth 20000 in
set_option maxHeartbeats 4000000 in
theorem w_X12_liars_0_b62 {F : Nat} {q : (Int32 × Zs)} {S : Zs} {rc9 : Zs → Int32 → Int32 → Option (Int32 × Zs)} {x1 : Int32} {x2 : Int32} {ls : Array Slot} {H : Heap} {locs : List Loc} (C : zC p s m args meth c cX12_liars 4 RX12 (some .int)) (hrc9 : ∀ (S : Zs) (x1 : Int32) (x2 : Int32) (H : Heap) (locs : List Loc) (ls : Array Slot), rc9 S x1 x2 = some q → zW (mG D cs ad) s S H locs → lv_has ls 4 [(0, .ref (ad 0)), (1, .int x1), (2, .int x2)] → W p l e (zR 5 106) s m args below meth c H locs 0 0 (zQi (mG D cs ad) q below args s) (F0 m 9 ls [])) (h : n_X12_liars_0_b62 F rc9 S x1 x2 = some q) (hW : zW (mG D cs ad) s S H locs) (hl : lv_has ls 4 [(0, .ref (ad 0)), (1, .int x1), (2, .int x2)]) : W p l e (zR 5 106) s m args below meth c H locs 0 0 (zQi (mG D cs ad) q below args s) (F0 m 62 ls []) := by
  unfold n_X12_liars_0_b62 at h
  obtain ⟨hx, hb, hml, hown, hts, hret, hlk⟩ := id C
  obtain ⟨v1, ev1, h⟩ := zz_name h
  refine lv_iinc (v := v1) (lv' := [(2, .int v1), (0, .ref (ad 0)), (1, .int x1)]) hx hb dX12_liars_62 hl (k := 2) rfl ev1.symm (by decide) rfl (fun ls hl => ?_)
  refine lv_goto (tgt := 9) hx hb dX12_liars_65 (by decide) ?_
  exact hrc9 _ _ _ _ _ _ h hW (lv_sub hl [1, 2, 0] rfl)
def n_X12_liars_0_b36 (F : Nat) (rc9 : Zs → Int32 → Int32 → Option (Int32 × Zs)) (S : Zs) (x1 : Int32) (x2 : Int32) (t0 : Int32) : Option (Int32 × Zs) :=
  if t0 = 0 then (n_X12_liars_0_b62 F rc9 S x1 x2) else (zcl (n_X12_standing_0 F S ) (fun v2 S1 => zcl (n_X12_saidBy_0 F S1 x2) (fun v4 S3 => zcl (n_X12_holdsBy_0 F S3 (v2 &&& (v4 ^^^ (-1 : Int32)))) (fun v6 S5 => if v6 = 0 then (n_X12_liars_0_b62 F rc9 S5 x1 x2) else (n_X12_liars_0_b62 F rc9 S5 x2 x2)))))
set_option maxRecDepth 20000 in
set_option maxHeartbeats 4000000 in
theorem w_X12_liars_0_b36 {F : Nat} {q : (Int32 × Zs)} {S : Zs} {rc9 : Zs → Int32 → Int32 → Option (Int32 × Zs)} {x1 : Int32} {x2 : Int32} {t0 : Int32} {ls : Array Slot} {H : Heap} {locs : List Loc} (C : zC p s m args meth c cX12_liars 4 RX12 (some .int)) (hrc9 : ∀ (S : Zs) (x1 : Int32) (x2 : Int32) (H : Heap) (locs : List Loc) (ls : Array Slot), rc9 S x1 x2 = some q → zW (mG D cs ad) s S H locs → lv_has ls 4 [(0, .ref (ad 0)), (1, .int x1), (2, .int x2)] → W p l e (zR 5 106) s m args below meth c H locs 0 0 (zQi (mG D cs ad) q below args s) (F0 m 9 ls [])) (h : n_X12_liars_0_b36 F rc9 S x1 x2 t0 = some q) (hW : zW (mG D cs ad) s S H locs) (hl : lv_has ls 4 [(0, .ref (ad 0)), (1, .int x1), (2, .int x2)]) : W p l e (zR 5 106) s m args below meth c H locs 0 0 (zQi (mG D cs ad) q below args s) (F0 m 36 ls [.int t0]) := by
  unfold n_X12_liars_0_b36 at h
  obtain ⟨hx, hb, hml, hown, hts, hret, hlk⟩ := id C
  refine lv_istore_n (lv' := [(3, .int t0), (0, .ref (ad 0)), (1, .int x1), (2, .int x2)]) hx hb dX12_liars_36 rfl hl (by decide) rfl (fun ls hl => ?_)
  refine lv_iload_n hx hb dX12_liars_37 rfl (lv_at hl 0 rfl) ?_
  refine zz_ieq (tgt := 62) C h dX12_liars_38 (by decide) (fun h => ?_) (fun h => ?_)
  · exact w_X12_liars_0_b62 (F := F) C hrc9 h hW (lv_sub hl [1, 2, 3] rfl)
  · refine lv_aload_n hx hb dX12_liars_41 rfl (lv_at hl 1 rfl) ?_
    refine lv_aload_n hx hb dX12_liars_42 rfl (lv_at hl 1 rfl) ?_
    refine zz_callVi (As := []) C hW h (fun r hr => c_X12_standing_0 hr) lk_X12_206 (hW.recv mr_0) rfl hl.1 ⟨rfl, rfl⟩ ⟨Nat.le_of_ble_eq_true rfl, Nat.le_of_ble_eq_true rfl⟩ (Nat.le_of_ble_eq_true rfl) ⟨Nat.zero_le _, Nat.zero_le _⟩ rfl dX12_liars_43 (fun v2 S1 H locs h hW => ?_)
    refine lv_aload_n hx hb dX12_liars_46 rfl (lv_at hl 1 rfl) ?_
    refine lv_iload_n hx hb dX12_liars_47 rfl (lv_at hl 3 rfl) ?_
    refine zz_callVi (As := [.int x2]) C hW h (fun r hr => c_X12_saidBy_0 hr) lk_X12_227 (hW.recv mr_0) rfl hl.1 ⟨rfl, rfl⟩ ⟨Nat.le_of_ble_eq_true rfl, Nat.le_of_ble_eq_true rfl⟩ (Nat.le_of_ble_eq_true rfl) ⟨Nat.zero_le _, Nat.zero_le _⟩ rfl dX12_liars_48 (fun v4 S3 H locs h hW => ?_)
    refine lv_iconst (v := -1) hx hb dX12_liars_51 (by decide) ?_
    refine lv_ixor hx hb dX12_liars_52 ?_
    refine lv_iand hx hb dX12_liars_53 ?_
    refine zz_callVi (As := [.int (v2 &&& (v4 ^^^ (-1 : Int32)))]) C hW h (fun r hr => c_X12_holdsBy_0 hr) lk_X12_209 (hW.recv mr_0) rfl hl.1 ⟨rfl, rfl⟩ ⟨Nat.le_of_ble_eq_true rfl, Nat.le_of_ble_eq_true rfl⟩ (Nat.le_of_ble_eq_true rfl) ⟨Nat.zero_le _, Nat.zero_le _⟩ rfl dX12_liars_54 (fun v6 S5 H locs h hW => ?_)
    refine zz_ieq (tgt := 62) C h dX12_liars_57 (by decide) (fun h => ?_) (fun h => ?_)
    · exact w_X12_liars_0_b62 (F := F) C hrc9 h hW (lv_sub hl [1, 2, 3] rfl)
    · refine lv_iload_n hx hb dX12_liars_60 rfl (lv_at hl 3 rfl) ?_
      refine lv_istore_n (lv' := [(1, .int x2), (3, .int t0), (0, .ref (ad 0)), (2, .int x2)]) hx hb dX12_liars_61 rfl hl (by decide) rfl (fun ls hl => ?_)
      exact w_X12_liars_0_b62 (F := F) C hrc9 h hW (lv_sub hl [2, 0, 3] rfl)
def n_X12_liars_0_b31 (F : Nat) (rc9 : Zs → Int32 → Int32 → Option (Int32 × Zs)) (S : Zs) (x1 : Int32) (x2 : Int32) : Option (Int32 × Zs) :=
  n_X12_liars_0_b36 F rc9 S x1 x2 (1 : Int32)
set_option maxRecDepth 20000 in
set_option maxHeartbeats 4000000 in
theorem w_X12_liars_0_b31 {F : Nat} {q : (Int32 × Zs)} {S : Zs} {rc9 : Zs → Int32 → Int32 → Option (Int32 × Zs)} {x1 : Int32} {x2 : Int32} {ls : Array Slot} {H : Heap} {locs : List Loc} (C : zC p s m args meth c cX12_liars 4 RX12 (some .int)) (hrc9 : ∀ (S : Zs) (x1 : Int32) (x2 : Int32) (H : Heap) (locs : List Loc) (ls : Array Slot), rc9 S x1 x2 = some q → zW (mG D cs ad) s S H locs → lv_has ls 4 [(0, .ref (ad 0)), (1, .int x1), (2, .int x2)] → W p l e (zR 5 106) s m args below meth c H locs 0 0 (zQi (mG D cs ad) q below args s) (F0 m 9 ls [])) (h : n_X12_liars_0_b31 F rc9 S x1 x2 = some q) (hW : zW (mG D cs ad) s S H locs) (hl : lv_has ls 4 [(0, .ref (ad 0)), (1, .int x1), (2, .int x2)]) : W p l e (zR 5 106) s m args below meth c H locs 0 0 (zQi (mG D cs ad) q below args s) (F0 m 31 ls []) := by
  unfold n_X12_liars_0_b31 at h
  obtain ⟨hx, hb, hml, hown, hts, hret, hlk⟩ := id C
  refine lv_iconst (v := 1) hx hb dX12_liars_31 (by decide) ?_
  refine lv_goto (tgt := 36) hx hb dX12_liars_32 (by decide) ?_
  exact w_X12_liars_0_b36 (F := F) C hrc9 h hW (lv_sub hl [0, 1, 2] rfl)
def n_X12_liars_0_b9_l (F : Nat) (rc9 : Zs → Int32 → Int32 → Option (Int32 × Zs)) (S : Zs) (x1 : Int32) (x2 : Int32) : Option (Int32 × Zs) :=
  if (256 : Int32) ≤ x2 then (zpf S 1 (0 : Int32) (fun S1 => zcl (n_X12_enters_0 F S1 x1) (fun v3 S2 => zcl (n_J6_bitCount_0f7a4_m F S2 x1) (fun v5 S4 => some (v5, S4))))) else (if x1 < 0 then (n_X12_liars_0_b31 F rc9 S x1 x2) else (zcl (n_J6_bitCount_0f7a4_m F S x2) (fun v7 S6 => zcl (n_J6_bitCount_0f7a4_m F S6 x1) (fun v9 S8 => if v9 ≤ v7 then (n_X12_liars_0_b36 F rc9 S8 x1 x2 (0 : Int32)) else (n_X12_liars_0_b31 F rc9 S8 x1 x2)))))
set_option maxRecDepth 20000 in
set_option maxHeartbeats 4000000 in
theorem w_X12_liars_0_b9_l {F : Nat} {q : (Int32 × Zs)} {S : Zs} {rc9 : Zs → Int32 → Int32 → Option (Int32 × Zs)} {x1 : Int32} {x2 : Int32} {ls : Array Slot} {H : Heap} {locs : List Loc} (C : zC p s m args meth c cX12_liars 4 RX12 (some .int)) (hrc9 : ∀ (S : Zs) (x1 : Int32) (x2 : Int32) (H : Heap) (locs : List Loc) (ls : Array Slot), rc9 S x1 x2 = some q → zW (mG D cs ad) s S H locs → lv_has ls 4 [(0, .ref (ad 0)), (1, .int x1), (2, .int x2)] → W p l e (zR 5 106) s m args below meth c H locs 0 0 (zQi (mG D cs ad) q below args s) (F0 m 9 ls [])) (h : n_X12_liars_0_b9_l F rc9 S x1 x2 = some q) (hW : zW (mG D cs ad) s S H locs) (hl : lv_has ls 4 [(0, .ref (ad 0)), (1, .int x1), (2, .int x2)]) : W p l e (zR 5 106) s m args below meth c H locs 0 0 (zQi (mG D cs ad) q below args s) (F0 m 9 ls []) := by
  unfold n_X12_liars_0_b9_l at h
  obtain ⟨hx, hb, hml, hown, hts, hret, hlk⟩ := id C
  refine lv_iload_n hx hb dX12_liars_9 rfl (lv_at hl 2 rfl) ?_
  refine lv_sipush (v := 256) hx hb dX12_liars_10 (by decide) ?_
  refine zz_cge (tgt := 68) C h dX12_liars_13 (by decide) (fun h => ?_) (fun h => ?_)
  · refine lv_aload_n hx hb dX12_liars_68 rfl (lv_at hl 0 rfl) ?_
    refine lv_iconst (v := 0) hx hb dX12_liars_69 (by decide) ?_
    refine mp_0_1 C hW h fl_X12_11 dX12_liars_70 (fun S1 H locs h hW => ?_)
    refine lv_aload_n hx hb dX12_liars_73 rfl (lv_at hl 0 rfl) ?_
    refine lv_iload_n hx hb dX12_liars_74 rfl (lv_at hl 1 rfl) ?_
    refine zz_callVv (As := [.int x1]) C hW h (fun r hr => c_X12_enters_0 hr) lk_X12_221 (hW.recv mr_0) rfl hl.1 ⟨rfl, rfl⟩ ⟨Nat.le_of_ble_eq_true rfl, Nat.le_of_ble_eq_true rfl⟩ (Nat.le_of_ble_eq_true rfl) ⟨Nat.zero_le _, Nat.zero_le _⟩ rfl dX12_liars_75 (fun v3 S2 H locs h hW => ?_)
    refine lv_iload_n hx hb dX12_liars_78 rfl (lv_at hl 1 rfl) ?_
    refine zz_callSi (As := [.int x1]) C hW h (fun r hr => c_J6_bitCount_0f7a4_m hr) lk_X12_151 rfl hl.1 ⟨rfl, rfl⟩ ⟨Nat.le_of_ble_eq_true rfl, Nat.le_of_ble_eq_true rfl⟩ (Nat.le_of_ble_eq_true rfl) ⟨Nat.zero_le _, Nat.zero_le _⟩ rfl dX12_liars_79 (fun v5 S4 H locs h hW => ?_)
    exact zz_iret C rfl h hW dX12_liars_82
  · refine lv_iload_n hx hb dX12_liars_16 rfl (lv_at hl 1 rfl) ?_
    refine zz_ilt (tgt := 31) C h dX12_liars_17 (by decide) (fun h => ?_) (fun h => ?_)
    · exact w_X12_liars_0_b31 (F := F) C hrc9 h hW (lv_sub hl [0, 1, 2] rfl)
    · refine lv_iload_n hx hb dX12_liars_20 rfl (lv_at hl 2 rfl) ?_
      refine zz_callSi (As := [.int x2]) C hW h (fun r hr => c_J6_bitCount_0f7a4_m hr) lk_X12_151 rfl hl.1 ⟨rfl, rfl⟩ ⟨Nat.le_of_ble_eq_true rfl, Nat.le_of_ble_eq_true rfl⟩ (Nat.le_of_ble_eq_true rfl) ⟨Nat.zero_le _, Nat.zero_le _⟩ rfl dX12_liars_21 (fun v7 S6 H locs h hW => ?_)
      refine lv_iload_n hx hb dX12_liars_24 rfl (lv_at hl 1 rfl) ?_
      refine zz_callSi (As := [.int x1]) C hW h (fun r hr => c_J6_bitCount_0f7a4_m hr) lk_X12_151 rfl hl.1 ⟨rfl, rfl⟩ ⟨Nat.le_of_ble_eq_true rfl, Nat.le_of_ble_eq_true rfl⟩ (Nat.le_of_ble_eq_true rfl) ⟨Nat.zero_le _, Nat.zero_le _⟩ rfl dX12_liars_25 (fun v9 S8 H locs h hW => ?_)
      refine zz_cge (tgt := 35) C h dX12_liars_28 (by decide) (fun h => ?_) (fun h => ?_)
      · refine lv_iconst (v := 0) hx hb dX12_liars_35 (by decide) ?_
        exact w_X12_liars_0_b36 (F := F) C hrc9 h hW (lv_sub hl [0, 1, 2] rfl)
      · exact w_X12_liars_0_b31 (F := F) C hrc9 h hW (lv_sub hl [0, 1, 2] rfl)
def n_X12_liars_0_b9 (F : Nat)  (S : Zs) (x1 : Int32) (x2 : Int32) : Option (Int32 × Zs) :=
  zfix (fun (rc : (Zs × Int32 × Int32) → Option (Int32 × Zs)) (u : (Zs × Int32 × Int32)) => n_X12_liars_0_b9_l F  (fun S x1 x2 => rc (S, x1, x2)) u.1 u.2.1 u.2.2) F (S, x1, x2)
theorem w_X12_liars_0_b9 {F : Nat} {q : (Int32 × Zs)}  (C : zC p s m args meth c cX12_liars 4 RX12 (some .int))  : ∀ (n : Nat) (S : Zs) (x1 : Int32) (x2 : Int32) (H : Heap) (locs : List Loc) (ls : Array Slot), zfix (fun (rc : (Zs × Int32 × Int32) → Option (Int32 × Zs)) (u : (Zs × Int32 × Int32)) => n_X12_liars_0_b9_l F  (fun S x1 x2 => rc (S, x1, x2)) u.1 u.2.1 u.2.2) n (S, x1, x2) = some q → zW (mG D cs ad) s S H locs → lv_has ls 4 [(0, .ref (ad 0)), (1, .int x1), (2, .int x2)] → W p l e (zR 5 106) s m args below meth c H locs 0 0 (zQi (mG D cs ad) q below args s) (F0 m 9 ls []) := by
  intro n
  induction n with
  | zero => intro S x1 x2 H locs ls h; exact absurd h (fun h => by cases h)
  | succ n ih => intro S x1 x2 H locs ls h hW hl; exact w_X12_liars_0_b9_l (F := F) C (fun S x1 x2 H locs ls h hW hl => ih S x1 x2 H locs ls h hW hl) h hW hl
def n_X12_liars_0_e (F : Nat)  (S : Zs)  : Option (Int32 × Zs) :=
  zpf S 0 (0 : Int32) (fun S1 => n_X12_liars_0_b9 F  S1 (-1 : Int32) (0 : Int32))
set_option maxRecDepth 20000 in
set_option maxHeartbeats 4000000 in
theorem w_X12_liars_0_e {F : Nat} {q : (Int32 × Zs)} {S : Zs}   {ls : Array Slot} {H : Heap} {locs : List Loc} (C : zC p s m args meth c cX12_liars 4 RX12 (some .int))  (h : n_X12_liars_0_e F  S  = some q) (hW : zW (mG D cs ad) s S H locs) (hl : lv_has ls 4 [(0, .ref (ad 0))]) : W p l e (zR 5 106) s m args below meth c H locs 0 0 (zQi (mG D cs ad) q below args s) (F0 m 0 ls []) := by
  unfold n_X12_liars_0_e at h
  obtain ⟨hx, hb, hml, hown, hts, hret, hlk⟩ := id C
  refine lv_aload_n hx hb dX12_liars_0 rfl (lv_at hl 0 rfl) ?_
  refine lv_iconst (v := 0) hx hb dX12_liars_1 (by decide) ?_
  refine mp_0_0 C hW h fl_X12_3 dX12_liars_2 (fun S1 H locs h hW => ?_)
  refine lv_iconst (v := -1) hx hb dX12_liars_5 (by decide) ?_
  refine lv_istore_n (lv' := [(1, .int (-1 : Int32)), (0, .ref (ad 0))]) hx hb dX12_liars_6 rfl hl (by decide) rfl (fun ls hl => ?_)
  refine lv_iconst (v := 0) hx hb dX12_liars_7 (by decide) ?_
  refine lv_istore_n (lv' := [(2, .int (0 : Int32)), (1, .int (-1 : Int32)), (0, .ref (ad 0))]) hx hb dX12_liars_8 rfl hl (by decide) rfl (fun ls hl => ?_)
  exact w_X12_liars_0_b9 (F := F) C F _ _ _ _ _ _ h hW (lv_sub hl [2, 1, 0] rfl)
def n_X12_liars_0 (F : Nat) (S : Zs)  : Option (Int32 × Zs) := n_X12_liars_0_e F  S 
theorem c_X12_liars_0 {l : Launch} {D : va_G} {cs ad : Nat → Nat} {F : Nat} {S : Zs}  {q : (Int32 × Zs)} (h : n_X12_liars_0 F S  = some q) : zMi l yX12_liars cX12_liars 4 (some .int) (zR 5 106) (mG D cs ad) [.ref (ad 0)] S q :=
  zz_enter (by decide) (Nat.le_of_ble_eq_true rfl) (fun p e s m below meth c ls C hW hl => w_X12_liars_0_e (F := F) C h hW (lv_sub hl [0] rfl))
def n_X12_truth_0_b111 (F : Nat) (rc50 : Zs → Int32 → Int32 → Int32 → Int32 → Int32 → Option (Int32 × Zs)) (S : Zs) (x2 : Int32) (x3 : Int32) (x4 : Int32) (x5 : Int32) (x6 : Int32) : Option (Int32 × Zs) :=
  zlet (x6 + (1 : Int32)) (fun v1 => rc50 S x2 x3 x4 x5 v1)
set_option maxRecDepth 20000 in
set_option maxHeartbeats 4000000 in
theorem w_X12_truth_0_b111 {F : Nat} {q : (Int32 × Zs)} {S : Zs} {rc50 : Zs → Int32 → Int32 → Int32 → Int32 → Int32 → Option (Int32 × Zs)} {x2 : Int32} {x3 : Int32} {x4 : Int32} {x5 : Int32} {x6 : Int32} {ls : Array Slot} {H : Heap} {locs : List Loc} (C : zC p s m args meth c cX12_truth 7 RX12 (some .int)) (hrc50 : ∀ (S : Zs) (x2 : Int32) (x3 : Int32) (x4 : Int32) (x5 : Int32) (x6 : Int32) (H : Heap) (locs : List Loc) (ls : Array Slot), rc50 S x2 x3 x4 x5 x6 = some q → zW (mG D cs ad) s S H locs → lv_has ls 7 [(0, .ref (ad 0)), (2, .int x2), (3, .int x3), (4, .int x4), (5, .int x5), (6, .int x6)] → W p l e (zR 6 129) s m args below meth c H locs 0 0 (zQi (mG D cs ad) q below args s) (F0 m 50 ls [])) (h : n_X12_truth_0_b111 F rc50 S x2 x3 x4 x5 x6 = some q) (hW : zW (mG D cs ad) s S H locs) (hl : lv_has ls 7 [(0, .ref (ad 0)), (2, .int x2), (3, .int x3), (4, .int x4), (5, .int x5), (6, .int x6)]) : W p l e (zR 6 129) s m args below meth c H locs 0 0 (zQi (mG D cs ad) q below args s) (F0 m 111 ls []) := by
  unfold n_X12_truth_0_b111 at h
  obtain ⟨hx, hb, hml, hown, hts, hret, hlk⟩ := id C
  obtain ⟨v1, ev1, h⟩ := zz_name h
  refine lv_iinc (v := v1) (lv' := [(6, .int v1), (0, .ref (ad 0)), (2, .int x2), (3, .int x3), (4, .int x4), (5, .int x5)]) hx hb dX12_truth_111 hl (k := 5) rfl ev1.symm (by decide) rfl (fun ls hl => ?_)
  refine lv_goto (tgt := 50) hx hb dX12_truth_114 (by decide) ?_
  exact hrc50 _ _ _ _ _ _ _ _ _ h hW (lv_sub hl [1, 2, 3, 4, 5, 0] rfl)
def n_X12_truth_0_b50_l (F : Nat) (rc50 : Zs → Int32 → Int32 → Int32 → Int32 → Int32 → Option (Int32 × Zs)) (S : Zs) (x2 : Int32) (x3 : Int32) (x4 : Int32) (x5 : Int32) (x6 : Int32) : Option (Int32 × Zs) :=
  zgf S 3 (fun v1 => if v1 ≤ x6 then (zpf S 1 (0 : Int32) (fun S2 => zcl (n_X12_enters_0 F S2 x5) (fun v4 S3 => some (x4, S3)))) else (zcl (n_X12_has F S x2 x6) (fun v6 S5 => if v6 = 0 then (n_X12_truth_0_b111 F rc50 S5 x2 x3 x4 x5 x6) else (zld S5 2 16 x6 (fun v7 => zcl (n_X12_followsFrom_0 F S5 x3 v7) (fun v9 S8 => zcl (n_X12_flag F S8 v9) (fun v11 S10 => zlet (x4 + v11) (fun v12 => zld S10 2 16 x6 (fun v13 => zcl (n_X12_contraryOf F S10 v13) (fun v15 S14 => zcl (n_X12_followsFrom_0 F S14 x3 v15) (fun v17 S16 => zcl (n_X12_flag F S16 v17) (fun v19 S18 => zlet (x5 + v19) (fun v20 => n_X12_truth_0_b111 F rc50 S18 x2 x3 v12 v20 x6)))))))))))))
set_option maxRecDepth 20000 in
set_option maxHeartbeats 4000000 in
theorem w_X12_truth_0_b50_l {F : Nat} {q : (Int32 × Zs)} {S : Zs} {rc50 : Zs → Int32 → Int32 → Int32 → Int32 → Int32 → Option (Int32 × Zs)} {x2 : Int32} {x3 : Int32} {x4 : Int32} {x5 : Int32} {x6 : Int32} {ls : Array Slot} {H : Heap} {locs : List Loc} (C : zC p s m args meth c cX12_truth 7 RX12 (some .int)) (hrc50 : ∀ (S : Zs) (x2 : Int32) (x3 : Int32) (x4 : Int32) (x5 : Int32) (x6 : Int32) (H : Heap) (locs : List Loc) (ls : Array Slot), rc50 S x2 x3 x4 x5 x6 = some q → zW (mG D cs ad) s S H locs → lv_has ls 7 [(0, .ref (ad 0)), (2, .int x2), (3, .int x3), (4, .int x4), (5, .int x5), (6, .int x6)] → W p l e (zR 6 129) s m args below meth c H locs 0 0 (zQi (mG D cs ad) q below args s) (F0 m 50 ls [])) (h : n_X12_truth_0_b50_l F rc50 S x2 x3 x4 x5 x6 = some q) (hW : zW (mG D cs ad) s S H locs) (hl : lv_has ls 7 [(0, .ref (ad 0)), (2, .int x2), (3, .int x3), (4, .int x4), (5, .int x5), (6, .int x6)]) : W p l e (zR 6 129) s m args below meth c H locs 0 0 (zQi (mG D cs ad) q below args s) (F0 m 50 ls []) := by
  unfold n_X12_truth_0_b50_l at h
  obtain ⟨hx, hb, hml, hown, hts, hret, hlk⟩ := id C
  refine lv_iload hx hb dX12_truth_50 (lv_at hl 5 rfl) ?_
  refine lv_aload_n hx hb dX12_truth_52 rfl (lv_at hl 0 rfl) ?_
  refine mg_0_3 C hW h fl_X12_105 dX12_truth_53 (fun v1 h => ?_)
  refine zz_cge (tgt := 117) C h dX12_truth_56 (by decide) (fun h => ?_) (fun h => ?_)
  · refine lv_aload_n hx hb dX12_truth_117 rfl (lv_at hl 0 rfl) ?_
    refine lv_iconst (v := 0) hx hb dX12_truth_118 (by decide) ?_
    refine mp_0_1 C hW h fl_X12_11 dX12_truth_119 (fun S2 H locs h hW => ?_)
    refine lv_aload_n hx hb dX12_truth_122 rfl (lv_at hl 0 rfl) ?_
    refine lv_iload hx hb dX12_truth_123 (lv_at hl 4 rfl) ?_
    refine zz_callVv (As := [.int x5]) C hW h (fun r hr => c_X12_enters_0 hr) lk_X12_221 (hW.recv mr_0) rfl hl.1 ⟨rfl, rfl⟩ ⟨Nat.le_of_ble_eq_true rfl, Nat.le_of_ble_eq_true rfl⟩ (Nat.le_of_ble_eq_true rfl) ⟨Nat.zero_le _, Nat.zero_le _⟩ rfl dX12_truth_125 (fun v4 S3 H locs h hW => ?_)
    refine lv_iload hx hb dX12_truth_128 (lv_at hl 3 rfl) ?_
    exact zz_iret C rfl h hW dX12_truth_130
  · refine lv_iload_n hx hb dX12_truth_59 rfl (lv_at hl 1 rfl) ?_
    refine lv_iload hx hb dX12_truth_60 (lv_at hl 5 rfl) ?_
    refine zz_callSi (As := [.int x2, .int x6]) C hW h (fun r hr => c_X12_has hr) lk_X12_129 rfl hl.1 ⟨rfl, rfl⟩ ⟨Nat.le_of_ble_eq_true rfl, Nat.le_of_ble_eq_true rfl⟩ (Nat.le_of_ble_eq_true rfl) ⟨Nat.zero_le _, Nat.zero_le _⟩ rfl dX12_truth_62 (fun v6 S5 H locs h hW => ?_)
    refine zz_ieq (tgt := 111) C h dX12_truth_65 (by decide) (fun h => ?_) (fun h => ?_)
    · exact w_X12_truth_0_b111 (F := F) C hrc50 h hW (lv_sub hl [0, 1, 2, 3, 4, 5] rfl)
    · refine lv_iload hx hb dX12_truth_68 (lv_at hl 3 rfl) ?_
      refine lv_aload_n hx hb dX12_truth_70 rfl (lv_at hl 0 rfl) ?_
      refine lv_iload_n hx hb dX12_truth_71 rfl (lv_at hl 2 rfl) ?_
      refine lv_aload_n hx hb dX12_truth_72 rfl (lv_at hl 0 rfl) ?_
      refine mg_0_4 C hW fl_X12_87 dX12_truth_73 ?_
      refine lv_iload hx hb dX12_truth_76 (lv_at hl 5 rfl) ?_
      refine ml_2 C hW h dX12_truth_78 (fun v7 h => ?_)
      refine zz_callVi (As := [.int x3, .int v7]) C hW h (fun r hr => c_X12_followsFrom_0 hr) lk_X12_212 (hW.recv mr_0) rfl hl.1 ⟨rfl, rfl⟩ ⟨Nat.le_of_ble_eq_true rfl, Nat.le_of_ble_eq_true rfl⟩ (Nat.le_of_ble_eq_true rfl) ⟨Nat.zero_le _, Nat.zero_le _⟩ rfl dX12_truth_79 (fun v9 S8 H locs h hW => ?_)
      refine zz_callSi (As := [.int v9]) C hW h (fun r hr => c_X12_flag hr) lk_X12_52 rfl hl.1 ⟨rfl, rfl⟩ ⟨Nat.le_of_ble_eq_true rfl, Nat.le_of_ble_eq_true rfl⟩ (Nat.le_of_ble_eq_true rfl) ⟨Nat.zero_le _, Nat.zero_le _⟩ rfl dX12_truth_82 (fun v11 S10 H locs h hW => ?_)
      refine lv_iadd hx hb dX12_truth_85 ?_
      refine zz_leti h (fun v12 h => ?_)
      refine lv_istore (lv' := [(4, .int v12), (0, .ref (ad 0)), (2, .int x2), (3, .int x3), (5, .int x5), (6, .int x6)]) hx hb dX12_truth_86 hl (by decide) rfl (fun ls hl => ?_)
      refine lv_iload hx hb dX12_truth_88 (lv_at hl 4 rfl) ?_
      refine lv_aload_n hx hb dX12_truth_90 rfl (lv_at hl 1 rfl) ?_
      refine lv_iload_n hx hb dX12_truth_91 rfl (lv_at hl 3 rfl) ?_
      refine lv_aload_n hx hb dX12_truth_92 rfl (lv_at hl 1 rfl) ?_
      refine mg_0_4 C hW fl_X12_87 dX12_truth_93 ?_
      refine lv_iload hx hb dX12_truth_96 (lv_at hl 5 rfl) ?_
      refine ml_2 C hW h dX12_truth_98 (fun v13 h => ?_)
      refine zz_callSi (As := [.int v13]) C hW h (fun r hr => c_X12_contraryOf hr) lk_X12_190 rfl hl.1 ⟨rfl, rfl⟩ ⟨Nat.le_of_ble_eq_true rfl, Nat.le_of_ble_eq_true rfl⟩ (Nat.le_of_ble_eq_true rfl) ⟨Nat.zero_le _, Nat.zero_le _⟩ rfl dX12_truth_99 (fun v15 S14 H locs h hW => ?_)
      refine zz_callVi (As := [.int x3, .int v15]) C hW h (fun r hr => c_X12_followsFrom_0 hr) lk_X12_212 (hW.recv mr_0) rfl hl.1 ⟨rfl, rfl⟩ ⟨Nat.le_of_ble_eq_true rfl, Nat.le_of_ble_eq_true rfl⟩ (Nat.le_of_ble_eq_true rfl) ⟨Nat.zero_le _, Nat.zero_le _⟩ rfl dX12_truth_102 (fun v17 S16 H locs h hW => ?_)
      refine zz_callSi (As := [.int v17]) C hW h (fun r hr => c_X12_flag hr) lk_X12_52 rfl hl.1 ⟨rfl, rfl⟩ ⟨Nat.le_of_ble_eq_true rfl, Nat.le_of_ble_eq_true rfl⟩ (Nat.le_of_ble_eq_true rfl) ⟨Nat.zero_le _, Nat.zero_le _⟩ rfl dX12_truth_105 (fun v19 S18 H locs h hW => ?_)
      refine lv_iadd hx hb dX12_truth_108 ?_
      refine zz_leti h (fun v20 h => ?_)
      refine lv_istore (lv' := [(5, .int v20), (4, .int v12), (0, .ref (ad 0)), (2, .int x2), (3, .int x3), (6, .int x6)]) hx hb dX12_truth_109 hl (by decide) rfl (fun ls hl => ?_)
      exact w_X12_truth_0_b111 (F := F) C hrc50 h hW (lv_sub hl [2, 3, 4, 1, 0, 5] rfl)
def n_X12_truth_0_b50 (F : Nat)  (S : Zs) (x2 : Int32) (x3 : Int32) (x4 : Int32) (x5 : Int32) (x6 : Int32) : Option (Int32 × Zs) :=
  zfix (fun (rc : (Zs × Int32 × Int32 × Int32 × Int32 × Int32) → Option (Int32 × Zs)) (u : (Zs × Int32 × Int32 × Int32 × Int32 × Int32)) => n_X12_truth_0_b50_l F  (fun S x2 x3 x4 x5 x6 => rc (S, x2, x3, x4, x5, x6)) u.1 u.2.1 u.2.2.1 u.2.2.2.1 u.2.2.2.2.1 u.2.2.2.2.2) F (S, x2, x3, x4, x5, x6)
theorem w_X12_truth_0_b50 {F : Nat} {q : (Int32 × Zs)}  (C : zC p s m args meth c cX12_truth 7 RX12 (some .int))  : ∀ (n : Nat) (S : Zs) (x2 : Int32) (x3 : Int32) (x4 : Int32) (x5 : Int32) (x6 : Int32) (H : Heap) (locs : List Loc) (ls : Array Slot), zfix (fun (rc : (Zs × Int32 × Int32 × Int32 × Int32 × Int32) → Option (Int32 × Zs)) (u : (Zs × Int32 × Int32 × Int32 × Int32 × Int32)) => n_X12_truth_0_b50_l F  (fun S x2 x3 x4 x5 x6 => rc (S, x2, x3, x4, x5, x6)) u.1 u.2.1 u.2.2.1 u.2.2.2.1 u.2.2.2.2.1 u.2.2.2.2.2) n (S, x2, x3, x4, x5, x6) = some q → zW (mG D cs ad) s S H locs → lv_has ls 7 [(0, .ref (ad 0)), (2, .int x2), (3, .int x3), (4, .int x4), (5, .int x5), (6, .int x6)] → W p l e (zR 6 129) s m args below meth c H locs 0 0 (zQi (mG D cs ad) q below args s) (F0 m 50 ls []) := by
  intro n
  induction n with
  | zero => intro S x2 x3 x4 x5 x6 H locs ls h; exact absurd h (fun h => by cases h)
  | succ n ih => intro S x2 x3 x4 x5 x6 H locs ls h hW hl; exact w_X12_truth_0_b50_l (F := F) C (fun S x2 x3 x4 x5 x6 H locs ls h hW hl => ih S x2 x3 x4 x5 x6 H locs ls h hW hl) h hW hl
def n_X12_truth_0_e (F : Nat)  (S : Zs) (x1 : Int32) : Option (Int32 × Zs) :=
  zpf S 0 (0 : Int32) (fun S1 => zcl (n_X12_in F S1 (x1.toInt64) (0 : Int64) (7 : Int64)) (fun v3 S2 => if v3 = 0 then (some ((-1 : Int32), S2)) else (zcl (n_X12_standing_0 F S2 ) (fun v5 S4 => zcl (n_X12_saidBy_0 F S4 ((1 : Int32) <<< (x1 &&& 31))) (fun v7 S6 => zlet (v5 &&& v7) (fun v8 => zcl (n_X12_standing_0 F S6 ) (fun v10 S9 => zlet (v10 &&& (v8 ^^^ (-1 : Int32))) (fun v11 => n_X12_truth_0_b50 F  S9 v8 v11 (0 : Int32) (0 : Int32) (0 : Int32)))))))))
set_option maxRecDepth 20000 in
set_option maxHeartbeats 4000000 in
theorem w_X12_truth_0_e {F : Nat} {q : (Int32 × Zs)} {S : Zs}  {x1 : Int32} {ls : Array Slot} {H : Heap} {locs : List Loc} (C : zC p s m args meth c cX12_truth 7 RX12 (some .int))  (h : n_X12_truth_0_e F  S x1 = some q) (hW : zW (mG D cs ad) s S H locs) (hl : lv_has ls 7 [(0, .ref (ad 0)), (1, .int x1)]) : W p l e (zR 6 129) s m args below meth c H locs 0 0 (zQi (mG D cs ad) q below args s) (F0 m 0 ls []) := by
  unfold n_X12_truth_0_e at h
  obtain ⟨hx, hb, hml, hown, hts, hret, hlk⟩ := id C
  refine lv_aload_n hx hb dX12_truth_0 rfl (lv_at hl 0 rfl) ?_
  refine lv_iconst (v := 0) hx hb dX12_truth_1 (by decide) ?_
  refine mp_0_0 C hW h fl_X12_3 dX12_truth_2 (fun S1 H locs h hW => ?_)
  refine lv_iload_n hx hb dX12_truth_5 rfl (lv_at hl 1 rfl) ?_
  refine lv_i2l hx hb dX12_truth_6 rfl ?_
  refine lv_lconst (v := 0) hx hb dX12_truth_7 (by decide) ?_
  refine lv_ldc2 (v := 7) hx hb hown (hts _ ct_X12_230) dX12_truth_8 ?_
  refine zz_callSi (As := [.long (x1.toInt64), .long (0 : Int64), .long (7 : Int64)]) C hW h (fun r hr => c_X12_in hr) lk_X12_16 rfl hl.1 ⟨rfl, rfl⟩ ⟨Nat.le_of_ble_eq_true rfl, Nat.le_of_ble_eq_true rfl⟩ (Nat.le_of_ble_eq_true rfl) ⟨Nat.zero_le _, Nat.zero_le _⟩ rfl dX12_truth_11 (fun v3 S2 H locs h hW => ?_)
  refine zz_ine (tgt := 19) C h dX12_truth_14 (by decide) (fun h => ?_) (fun h => ?_)
  · refine lv_aload_n hx hb dX12_truth_19 rfl (lv_at hl 0 rfl) ?_
    refine zz_callVi (As := []) C hW h (fun r hr => c_X12_standing_0 hr) lk_X12_206 (hW.recv mr_0) rfl hl.1 ⟨rfl, rfl⟩ ⟨Nat.le_of_ble_eq_true rfl, Nat.le_of_ble_eq_true rfl⟩ (Nat.le_of_ble_eq_true rfl) ⟨Nat.zero_le _, Nat.zero_le _⟩ rfl dX12_truth_20 (fun v5 S4 H locs h hW => ?_)
    refine lv_aload_n hx hb dX12_truth_23 rfl (lv_at hl 0 rfl) ?_
    refine lv_iconst (v := 1) hx hb dX12_truth_24 (by decide) ?_
    refine lv_iload_n hx hb dX12_truth_25 rfl (lv_at hl 1 rfl) ?_
    refine lv_ishl hx hb dX12_truth_26 ?_
    refine zz_callVi (As := [.int ((1 : Int32) <<< (x1 &&& 31))]) C hW h (fun r hr => c_X12_saidBy_0 hr) lk_X12_227 (hW.recv mr_0) rfl hl.1 ⟨rfl, rfl⟩ ⟨Nat.le_of_ble_eq_true rfl, Nat.le_of_ble_eq_true rfl⟩ (Nat.le_of_ble_eq_true rfl) ⟨Nat.zero_le _, Nat.zero_le _⟩ rfl dX12_truth_27 (fun v7 S6 H locs h hW => ?_)
    refine lv_iand hx hb dX12_truth_30 ?_
    refine zz_leti h (fun v8 h => ?_)
    refine lv_istore_n (lv' := [(2, .int v8), (0, .ref (ad 0)), (1, .int x1)]) hx hb dX12_truth_31 rfl hl (by decide) rfl (fun ls hl => ?_)
    refine lv_aload_n hx hb dX12_truth_32 rfl (lv_at hl 1 rfl) ?_
    refine zz_callVi (As := []) C hW h (fun r hr => c_X12_standing_0 hr) lk_X12_206 (hW.recv mr_0) rfl hl.1 ⟨rfl, rfl⟩ ⟨Nat.le_of_ble_eq_true rfl, Nat.le_of_ble_eq_true rfl⟩ (Nat.le_of_ble_eq_true rfl) ⟨Nat.zero_le _, Nat.zero_le _⟩ rfl dX12_truth_33 (fun v10 S9 H locs h hW => ?_)
    refine lv_iload_n hx hb dX12_truth_36 rfl (lv_at hl 0 rfl) ?_
    refine lv_iconst (v := -1) hx hb dX12_truth_37 (by decide) ?_
    refine lv_ixor hx hb dX12_truth_38 ?_
    refine lv_iand hx hb dX12_truth_39 ?_
    refine zz_leti h (fun v11 h => ?_)
    refine lv_istore_n (lv' := [(3, .int v11), (2, .int v8), (0, .ref (ad 0)), (1, .int x1)]) hx hb dX12_truth_40 rfl hl (by decide) rfl (fun ls hl => ?_)
    refine lv_iconst (v := 0) hx hb dX12_truth_41 (by decide) ?_
    refine lv_istore (lv' := [(4, .int (0 : Int32)), (3, .int v11), (2, .int v8), (0, .ref (ad 0)), (1, .int x1)]) hx hb dX12_truth_42 hl (by decide) rfl (fun ls hl => ?_)
    refine lv_iconst (v := 0) hx hb dX12_truth_44 (by decide) ?_
    refine lv_istore (lv' := [(5, .int (0 : Int32)), (4, .int (0 : Int32)), (3, .int v11), (2, .int v8), (0, .ref (ad 0)), (1, .int x1)]) hx hb dX12_truth_45 hl (by decide) rfl (fun ls hl => ?_)
    refine lv_iconst (v := 0) hx hb dX12_truth_47 (by decide) ?_
    refine lv_istore (lv' := [(6, .int (0 : Int32)), (5, .int (0 : Int32)), (4, .int (0 : Int32)), (3, .int v11), (2, .int v8), (0, .ref (ad 0)), (1, .int x1)]) hx hb dX12_truth_48 hl (by decide) rfl (fun ls hl => ?_)
    exact w_X12_truth_0_b50 (F := F) C F _ _ _ _ _ _ _ _ _ h hW (lv_sub hl [5, 4, 3, 2, 1, 0] rfl)
  · refine lv_iconst (v := -1) hx hb dX12_truth_17 (by decide) ?_
    exact zz_iret C rfl h hW dX12_truth_18
def n_X12_truth_0 (F : Nat) (S : Zs) (x1 : Int32) : Option (Int32 × Zs) := n_X12_truth_0_e F  S x1
theorem c_X12_truth_0 {l : Launch} {D : va_G} {cs ad : Nat → Nat} {F : Nat} {S : Zs} {x1 : Int32} {q : (Int32 × Zs)} (h : n_X12_truth_0 F S x1 = some q) : zMi l yX12_truth cX12_truth 7 (some .int) (zR 6 129) (mG D cs ad) [.ref (ad 0), .int x1] S q :=
  zz_enter (by decide) (Nat.le_of_ble_eq_true rfl) (fun p e s m below meth c ls C hW hl => w_X12_truth_0_e (F := F) C h hW (lv_sub hl [0, 1] rfl))
def n_X12_trusts_0_b24 (F : Nat)  (S : Zs)  : Option (Int32 × Zs) :=
  some ((-1 : Int32), S)
set_option maxRecDepth 20000 in
set_option maxHeartbeats 4000000 in
theorem w_X12_trusts_0_b24 {F : Nat} {q : (Int32 × Zs)} {S : Zs}   {ls : Array Slot} {H : Heap} {locs : List Loc} (C : zC p s m args meth c cX12_trusts 3 RX12 (some .int))  (h : n_X12_trusts_0_b24 F  S  = some q) (hW : zW (mG D cs ad) s S H locs) (hl : lv_has ls 3 []) : W p l e (zR 6 129) s m args below meth c H locs 0 0 (zQi (mG D cs ad) q below args s) (F0 m 24 ls []) := by
  unfold n_X12_trusts_0_b24 at h
  obtain ⟨hx, hb, hml, hown, hts, hret, hlk⟩ := id C
  refine lv_iconst (v := -1) hx hb dX12_trusts_24 (by decide) ?_
  exact zz_iret C rfl h hW dX12_trusts_25
def n_X12_trusts_0_e (F : Nat)  (S : Zs) (x1 : Int32) (x2 : Int32) : Option (Int32 × Zs) :=
  zpf S 0 (0 : Int32) (fun S1 => zcl (n_X12_in F S1 (x1.toInt64) (0 : Int64) (255 : Int64)) (fun v3 S2 => if v3 = 0 then (n_X12_trusts_0_b24 F  S2 ) else (zcl (n_X12_isCode F S2 x2) (fun v5 S4 => if v5 = 0 then (n_X12_trusts_0_b24 F  S4 ) else (zcl (n_X12_standing_0 F S4 ) (fun v7 S6 => zcl (n_X12_saidBy_0 F S6 x1) (fun v9 S8 => zcl (n_X12_followsFrom_0 F S8 (v7 &&& v9) x2) (fun v11 S10 => zcl (n_X12_flag F S10 v11) (fun v13 S12 => some (v13, S12))))))))))
set_option maxRecDepth 20000 in
set_option maxHeartbeats 4000000 in
theorem w_X12_trusts_0_e {F : Nat} {q : (Int32 × Zs)} {S : Zs}  {x1 : Int32} {x2 : Int32} {ls : Array Slot} {H : Heap} {locs : List Loc} (C : zC p s m args meth c cX12_trusts 3 RX12 (some .int))  (h : n_X12_trusts_0_e F  S x1 x2 = some q) (hW : zW (mG D cs ad) s S H locs) (hl : lv_has ls 3 [(0, .ref (ad 0)), (1, .int x1), (2, .int x2)]) : W p l e (zR 6 129) s m args below meth c H locs 0 0 (zQi (mG D cs ad) q below args s) (F0 m 0 ls []) := by
  unfold n_X12_trusts_0_e at h
  obtain ⟨hx, hb, hml, hown, hts, hret, hlk⟩ := id C
  refine lv_aload_n hx hb dX12_trusts_0 rfl (lv_at hl 0 rfl) ?_
  refine lv_iconst (v := 0) hx hb dX12_trusts_1 (by decide) ?_
  refine mp_0_0 C hW h fl_X12_3 dX12_trusts_2 (fun S1 H locs h hW => ?_)
  refine lv_iload_n hx hb dX12_trusts_5 rfl (lv_at hl 1 rfl) ?_
  refine lv_i2l hx hb dX12_trusts_6 rfl ?_
  refine lv_lconst (v := 0) hx hb dX12_trusts_7 (by decide) ?_
  refine lv_ldc2 (v := 255) hx hb hown (hts _ ct_X12_232) dX12_trusts_8 ?_
  refine zz_callSi (As := [.long (x1.toInt64), .long (0 : Int64), .long (255 : Int64)]) C hW h (fun r hr => c_X12_in hr) lk_X12_16 rfl hl.1 ⟨rfl, rfl⟩ ⟨Nat.le_of_ble_eq_true rfl, Nat.le_of_ble_eq_true rfl⟩ (Nat.le_of_ble_eq_true rfl) ⟨Nat.zero_le _, Nat.zero_le _⟩ rfl dX12_trusts_11 (fun v3 S2 H locs h hW => ?_)
  refine zz_ieq (tgt := 24) C h dX12_trusts_14 (by decide) (fun h => ?_) (fun h => ?_)
  · exact w_X12_trusts_0_b24 (F := F) C h hW (lv_sub hl [] rfl)
  · refine lv_iload_n hx hb dX12_trusts_17 rfl (lv_at hl 2 rfl) ?_
    refine zz_callSi (As := [.int x2]) C hW h (fun r hr => c_X12_isCode hr) lk_X12_142 rfl hl.1 ⟨rfl, rfl⟩ ⟨Nat.le_of_ble_eq_true rfl, Nat.le_of_ble_eq_true rfl⟩ (Nat.le_of_ble_eq_true rfl) ⟨Nat.zero_le _, Nat.zero_le _⟩ rfl dX12_trusts_18 (fun v5 S4 H locs h hW => ?_)
    refine zz_ine (tgt := 26) C h dX12_trusts_21 (by decide) (fun h => ?_) (fun h => ?_)
    · refine lv_aload_n hx hb dX12_trusts_26 rfl (lv_at hl 0 rfl) ?_
      refine lv_aload_n hx hb dX12_trusts_27 rfl (lv_at hl 0 rfl) ?_
      refine zz_callVi (As := []) C hW h (fun r hr => c_X12_standing_0 hr) lk_X12_206 (hW.recv mr_0) rfl hl.1 ⟨rfl, rfl⟩ ⟨Nat.le_of_ble_eq_true rfl, Nat.le_of_ble_eq_true rfl⟩ (Nat.le_of_ble_eq_true rfl) ⟨Nat.zero_le _, Nat.zero_le _⟩ rfl dX12_trusts_28 (fun v7 S6 H locs h hW => ?_)
      refine lv_aload_n hx hb dX12_trusts_31 rfl (lv_at hl 0 rfl) ?_
      refine lv_iload_n hx hb dX12_trusts_32 rfl (lv_at hl 1 rfl) ?_
      refine zz_callVi (As := [.int x1]) C hW h (fun r hr => c_X12_saidBy_0 hr) lk_X12_227 (hW.recv mr_0) rfl hl.1 ⟨rfl, rfl⟩ ⟨Nat.le_of_ble_eq_true rfl, Nat.le_of_ble_eq_true rfl⟩ (Nat.le_of_ble_eq_true rfl) ⟨Nat.zero_le _, Nat.zero_le _⟩ rfl dX12_trusts_33 (fun v9 S8 H locs h hW => ?_)
      refine lv_iand hx hb dX12_trusts_36 ?_
      refine lv_iload_n hx hb dX12_trusts_37 rfl (lv_at hl 2 rfl) ?_
      refine zz_callVi (As := [.int (v7 &&& v9), .int x2]) C hW h (fun r hr => c_X12_followsFrom_0 hr) lk_X12_212 (hW.recv mr_0) rfl hl.1 ⟨rfl, rfl⟩ ⟨Nat.le_of_ble_eq_true rfl, Nat.le_of_ble_eq_true rfl⟩ (Nat.le_of_ble_eq_true rfl) ⟨Nat.zero_le _, Nat.zero_le _⟩ rfl dX12_trusts_38 (fun v11 S10 H locs h hW => ?_)
      refine zz_callSi (As := [.int v11]) C hW h (fun r hr => c_X12_flag hr) lk_X12_52 rfl hl.1 ⟨rfl, rfl⟩ ⟨Nat.le_of_ble_eq_true rfl, Nat.le_of_ble_eq_true rfl⟩ (Nat.le_of_ble_eq_true rfl) ⟨Nat.zero_le _, Nat.zero_le _⟩ rfl dX12_trusts_41 (fun v13 S12 H locs h hW => ?_)
      exact zz_iret C rfl h hW dX12_trusts_44
    · exact w_X12_trusts_0_b24 (F := F) C h hW (lv_sub hl [] rfl)
def n_X12_trusts_0 (F : Nat) (S : Zs) (x1 : Int32) (x2 : Int32) : Option (Int32 × Zs) := n_X12_trusts_0_e F  S x1 x2
theorem c_X12_trusts_0 {l : Launch} {D : va_G} {cs ad : Nat → Nat} {F : Nat} {S : Zs} {x1 : Int32} {x2 : Int32} {q : (Int32 × Zs)} (h : n_X12_trusts_0 F S x1 x2 = some q) : zMi l yX12_trusts cX12_trusts 3 (some .int) (zR 6 129) (mG D cs ad) [.ref (ad 0), .int x1, .int x2] S q :=
  zz_enter (by decide) (Nat.le_of_ble_eq_true rfl) (fun p e s m below meth c ls C hW hl => w_X12_trusts_0_e (F := F) C h hW (lv_sub hl [0, 1, 2] rfl))
def n_X12_convicts_0_b75 (F : Nat) (rc18 : Zs → Int32 → Int32 → Int32 → Option (Int32 × Zs)) (S : Zs) (x1 : Int32) (x3 : Int32) (t0 : Int32) : Option (Int32 × Zs) :=
  zlet (x3 + (1 : Int32)) (fun v1 => rc18 S x1 t0 v1)
set_option maxRecDepth 20000 in
set_option maxHeartbeats 4000000 in
theorem w_X12_convicts_0_b75 {F : Nat} {q : (Int32 × Zs)} {S : Zs} {rc18 : Zs → Int32 → Int32 → Int32 → Option (Int32 × Zs)} {x1 : Int32} {x3 : Int32} {t0 : Int32} {ls : Array Slot} {H : Heap} {locs : List Loc} (C : zC p s m args meth c cX12_convicts 5 RX12 (some .int)) (hrc18 : ∀ (S : Zs) (x1 : Int32) (x2 : Int32) (x3 : Int32) (H : Heap) (locs : List Loc) (ls : Array Slot), rc18 S x1 x2 x3 = some q → zW (mG D cs ad) s S H locs → lv_has ls 5 [(0, .ref (ad 0)), (1, .int x1), (2, .int x2), (3, .int x3)] → W p l e (zR 6 129) s m args below meth c H locs 0 0 (zQi (mG D cs ad) q below args s) (F0 m 18 ls [])) (h : n_X12_convicts_0_b75 F rc18 S x1 x3 t0 = some q) (hW : zW (mG D cs ad) s S H locs) (hl : lv_has ls 5 [(0, .ref (ad 0)), (1, .int x1), (3, .int x3)]) : W p l e (zR 6 129) s m args below meth c H locs 0 0 (zQi (mG D cs ad) q below args s) (F0 m 75 ls [.int t0]) := by
  unfold n_X12_convicts_0_b75 at h
  obtain ⟨hx, hb, hml, hown, hts, hret, hlk⟩ := id C
  refine lv_istore_n (lv' := [(2, .int t0), (0, .ref (ad 0)), (1, .int x1), (3, .int x3)]) hx hb dX12_convicts_75 rfl hl (by decide) rfl (fun ls hl => ?_)
  obtain ⟨v1, ev1, h⟩ := zz_name h
  refine lv_iinc (v := v1) (lv' := [(3, .int v1), (2, .int t0), (0, .ref (ad 0)), (1, .int x1)]) hx hb dX12_convicts_76 hl (k := 3) rfl ev1.symm (by decide) rfl (fun ls hl => ?_)
  refine lv_goto (tgt := 18) hx hb dX12_convicts_79 (by decide) ?_
  exact hrc18 _ _ _ _ _ _ _ h hW (lv_sub hl [2, 3, 1, 0] rfl)
def n_X12_convicts_0_b74 (F : Nat) (rc18 : Zs → Int32 → Int32 → Int32 → Option (Int32 × Zs)) (S : Zs) (x1 : Int32) (x2 : Int32) (x3 : Int32) : Option (Int32 × Zs) :=
  n_X12_convicts_0_b75 F rc18 S x1 x3 x2
set_option maxRecDepth 20000 in
set_option maxHeartbeats 4000000 in
theorem w_X12_convicts_0_b74 {F : Nat} {q : (Int32 × Zs)} {S : Zs} {rc18 : Zs → Int32 → Int32 → Int32 → Option (Int32 × Zs)} {x1 : Int32} {x2 : Int32} {x3 : Int32} {ls : Array Slot} {H : Heap} {locs : List Loc} (C : zC p s m args meth c cX12_convicts 5 RX12 (some .int)) (hrc18 : ∀ (S : Zs) (x1 : Int32) (x2 : Int32) (x3 : Int32) (H : Heap) (locs : List Loc) (ls : Array Slot), rc18 S x1 x2 x3 = some q → zW (mG D cs ad) s S H locs → lv_has ls 5 [(0, .ref (ad 0)), (1, .int x1), (2, .int x2), (3, .int x3)] → W p l e (zR 6 129) s m args below meth c H locs 0 0 (zQi (mG D cs ad) q below args s) (F0 m 18 ls [])) (h : n_X12_convicts_0_b74 F rc18 S x1 x2 x3 = some q) (hW : zW (mG D cs ad) s S H locs) (hl : lv_has ls 5 [(0, .ref (ad 0)), (1, .int x1), (2, .int x2), (3, .int x3)]) : W p l e (zR 6 129) s m args below meth c H locs 0 0 (zQi (mG D cs ad) q below args s) (F0 m 74 ls []) := by
  unfold n_X12_convicts_0_b74 at h
  obtain ⟨hx, hb, hml, hown, hts, hret, hlk⟩ := id C
  refine lv_iload_n hx hb dX12_convicts_74 rfl (lv_at hl 2 rfl) ?_
  exact w_X12_convicts_0_b75 (F := F) C hrc18 h hW (lv_sub hl [0, 1, 3] rfl)
def n_X12_convicts_0_b45 (F : Nat) (rc18 : Zs → Int32 → Int32 → Int32 → Option (Int32 × Zs)) (S : Zs) (x1 : Int32) (x2 : Int32) (x3 : Int32) (t0 : Int32) : Option (Int32 × Zs) :=
  if t0 = 0 then (n_X12_convicts_0_b74 F rc18 S x1 x2 x3) else (zcl (n_X12_standing_0 F S ) (fun v2 S1 => zcl (n_X12_saidBy_0 F S1 x3) (fun v4 S3 => zcl (n_X12_followsFrom_0 F S3 (v2 &&& v4) x1) (fun v6 S5 => if v6 = 0 then (n_X12_convicts_0_b74 F rc18 S5 x1 x2 x3) else (n_X12_convicts_0_b75 F rc18 S5 x1 x3 x3)))))
set_option maxRecDepth 20000 in
set_option maxHeartbeats 4000000 in
theorem w_X12_convicts_0_b45 {F : Nat} {q : (Int32 × Zs)} {S : Zs} {rc18 : Zs → Int32 → Int32 → Int32 → Option (Int32 × Zs)} {x1 : Int32} {x2 : Int32} {x3 : Int32} {t0 : Int32} {ls : Array Slot} {H : Heap} {locs : List Loc} (C : zC p s m args meth c cX12_convicts 5 RX12 (some .int)) (hrc18 : ∀ (S : Zs) (x1 : Int32) (x2 : Int32) (x3 : Int32) (H : Heap) (locs : List Loc) (ls : Array Slot), rc18 S x1 x2 x3 = some q → zW (mG D cs ad) s S H locs → lv_has ls 5 [(0, .ref (ad 0)), (1, .int x1), (2, .int x2), (3, .int x3)] → W p l e (zR 6 129) s m args below meth c H locs 0 0 (zQi (mG D cs ad) q below args s) (F0 m 18 ls [])) (h : n_X12_convicts_0_b45 F rc18 S x1 x2 x3 t0 = some q) (hW : zW (mG D cs ad) s S H locs) (hl : lv_has ls 5 [(0, .ref (ad 0)), (1, .int x1), (2, .int x2), (3, .int x3)]) : W p l e (zR 6 129) s m args below meth c H locs 0 0 (zQi (mG D cs ad) q below args s) (F0 m 45 ls [.int t0]) := by
  unfold n_X12_convicts_0_b45 at h
  obtain ⟨hx, hb, hml, hown, hts, hret, hlk⟩ := id C
  refine lv_istore (lv' := [(4, .int t0), (0, .ref (ad 0)), (1, .int x1), (2, .int x2), (3, .int x3)]) hx hb dX12_convicts_45 hl (by decide) rfl (fun ls hl => ?_)
  refine lv_iload hx hb dX12_convicts_47 (lv_at hl 0 rfl) ?_
  refine zz_ieq (tgt := 74) C h dX12_convicts_49 (by decide) (fun h => ?_) (fun h => ?_)
  · exact w_X12_convicts_0_b74 (F := F) C hrc18 h hW (lv_sub hl [1, 2, 3, 4] rfl)
  · refine lv_aload_n hx hb dX12_convicts_52 rfl (lv_at hl 1 rfl) ?_
    refine lv_aload_n hx hb dX12_convicts_53 rfl (lv_at hl 1 rfl) ?_
    refine zz_callVi (As := []) C hW h (fun r hr => c_X12_standing_0 hr) lk_X12_206 (hW.recv mr_0) rfl hl.1 ⟨rfl, rfl⟩ ⟨Nat.le_of_ble_eq_true rfl, Nat.le_of_ble_eq_true rfl⟩ (Nat.le_of_ble_eq_true rfl) ⟨Nat.zero_le _, Nat.zero_le _⟩ rfl dX12_convicts_54 (fun v2 S1 H locs h hW => ?_)
    refine lv_aload_n hx hb dX12_convicts_57 rfl (lv_at hl 1 rfl) ?_
    refine lv_iload_n hx hb dX12_convicts_58 rfl (lv_at hl 4 rfl) ?_
    refine zz_callVi (As := [.int x3]) C hW h (fun r hr => c_X12_saidBy_0 hr) lk_X12_227 (hW.recv mr_0) rfl hl.1 ⟨rfl, rfl⟩ ⟨Nat.le_of_ble_eq_true rfl, Nat.le_of_ble_eq_true rfl⟩ (Nat.le_of_ble_eq_true rfl) ⟨Nat.zero_le _, Nat.zero_le _⟩ rfl dX12_convicts_59 (fun v4 S3 H locs h hW => ?_)
    refine lv_iand hx hb dX12_convicts_62 ?_
    refine lv_iload_n hx hb dX12_convicts_63 rfl (lv_at hl 2 rfl) ?_
    refine zz_callVi (As := [.int (v2 &&& v4), .int x1]) C hW h (fun r hr => c_X12_followsFrom_0 hr) lk_X12_212 (hW.recv mr_0) rfl hl.1 ⟨rfl, rfl⟩ ⟨Nat.le_of_ble_eq_true rfl, Nat.le_of_ble_eq_true rfl⟩ (Nat.le_of_ble_eq_true rfl) ⟨Nat.zero_le _, Nat.zero_le _⟩ rfl dX12_convicts_64 (fun v6 S5 H locs h hW => ?_)
    refine zz_ieq (tgt := 74) C h dX12_convicts_67 (by decide) (fun h => ?_) (fun h => ?_)
    · exact w_X12_convicts_0_b74 (F := F) C hrc18 h hW (lv_sub hl [1, 2, 3, 4] rfl)
    · refine lv_iload_n hx hb dX12_convicts_70 rfl (lv_at hl 4 rfl) ?_
      refine lv_goto (tgt := 75) hx hb dX12_convicts_71 (by decide) ?_
      exact w_X12_convicts_0_b75 (F := F) C hrc18 h hW (lv_sub hl [1, 2, 4] rfl)
def n_X12_convicts_0_b40 (F : Nat) (rc18 : Zs → Int32 → Int32 → Int32 → Option (Int32 × Zs)) (S : Zs) (x1 : Int32) (x2 : Int32) (x3 : Int32) : Option (Int32 × Zs) :=
  n_X12_convicts_0_b45 F rc18 S x1 x2 x3 (1 : Int32)
set_option maxRecDepth 20000 in
set_option maxHeartbeats 4000000 in
theorem w_X12_convicts_0_b40 {F : Nat} {q : (Int32 × Zs)} {S : Zs} {rc18 : Zs → Int32 → Int32 → Int32 → Option (Int32 × Zs)} {x1 : Int32} {x2 : Int32} {x3 : Int32} {ls : Array Slot} {H : Heap} {locs : List Loc} (C : zC p s m args meth c cX12_convicts 5 RX12 (some .int)) (hrc18 : ∀ (S : Zs) (x1 : Int32) (x2 : Int32) (x3 : Int32) (H : Heap) (locs : List Loc) (ls : Array Slot), rc18 S x1 x2 x3 = some q → zW (mG D cs ad) s S H locs → lv_has ls 5 [(0, .ref (ad 0)), (1, .int x1), (2, .int x2), (3, .int x3)] → W p l e (zR 6 129) s m args below meth c H locs 0 0 (zQi (mG D cs ad) q below args s) (F0 m 18 ls [])) (h : n_X12_convicts_0_b40 F rc18 S x1 x2 x3 = some q) (hW : zW (mG D cs ad) s S H locs) (hl : lv_has ls 5 [(0, .ref (ad 0)), (1, .int x1), (2, .int x2), (3, .int x3)]) : W p l e (zR 6 129) s m args below meth c H locs 0 0 (zQi (mG D cs ad) q below args s) (F0 m 40 ls []) := by
  unfold n_X12_convicts_0_b40 at h
  obtain ⟨hx, hb, hml, hown, hts, hret, hlk⟩ := id C
  refine lv_iconst (v := 1) hx hb dX12_convicts_40 (by decide) ?_
  refine lv_goto (tgt := 45) hx hb dX12_convicts_41 (by decide) ?_
  exact w_X12_convicts_0_b45 (F := F) C hrc18 h hW (lv_sub hl [0, 1, 2, 3] rfl)
def n_X12_convicts_0_b18_l (F : Nat) (rc18 : Zs → Int32 → Int32 → Int32 → Option (Int32 × Zs)) (S : Zs) (x1 : Int32) (x2 : Int32) (x3 : Int32) : Option (Int32 × Zs) :=
  if (256 : Int32) ≤ x3 then (if 0 ≤ x2 then (zpf S 1 (0 : Int32) (fun S1 => zcl (n_X12_enters_0 F S1 x2) (fun v3 S2 => zcl (n_J6_bitCount_0f7a4_m F S2 x2) (fun v5 S4 => some (v5, S4))))) else (some ((-2 : Int32), S))) else (if x2 < 0 then (n_X12_convicts_0_b40 F rc18 S x1 x2 x3) else (zcl (n_J6_bitCount_0f7a4_m F S x3) (fun v7 S6 => zcl (n_J6_bitCount_0f7a4_m F S6 x2) (fun v9 S8 => if v9 ≤ v7 then (n_X12_convicts_0_b45 F rc18 S8 x1 x2 x3 (0 : Int32)) else (n_X12_convicts_0_b40 F rc18 S8 x1 x2 x3)))))
set_option maxRecDepth 20000 in
set_option maxHeartbeats 4000000 in
theorem w_X12_convicts_0_b18_l {F : Nat} {q : (Int32 × Zs)} {S : Zs} {rc18 : Zs → Int32 → Int32 → Int32 → Option (Int32 × Zs)} {x1 : Int32} {x2 : Int32} {x3 : Int32} {ls : Array Slot} {H : Heap} {locs : List Loc} (C : zC p s m args meth c cX12_convicts 5 RX12 (some .int)) (hrc18 : ∀ (S : Zs) (x1 : Int32) (x2 : Int32) (x3 : Int32) (H : Heap) (locs : List Loc) (ls : Array Slot), rc18 S x1 x2 x3 = some q → zW (mG D cs ad) s S H locs → lv_has ls 5 [(0, .ref (ad 0)), (1, .int x1), (2, .int x2), (3, .int x3)] → W p l e (zR 6 129) s m args below meth c H locs 0 0 (zQi (mG D cs ad) q below args s) (F0 m 18 ls [])) (h : n_X12_convicts_0_b18_l F rc18 S x1 x2 x3 = some q) (hW : zW (mG D cs ad) s S H locs) (hl : lv_has ls 5 [(0, .ref (ad 0)), (1, .int x1), (2, .int x2), (3, .int x3)]) : W p l e (zR 6 129) s m args below meth c H locs 0 0 (zQi (mG D cs ad) q below args s) (F0 m 18 ls []) := by
  unfold n_X12_convicts_0_b18_l at h
  obtain ⟨hx, hb, hml, hown, hts, hret, hlk⟩ := id C
  refine lv_iload_n hx hb dX12_convicts_18 rfl (lv_at hl 3 rfl) ?_
  refine lv_sipush (v := 256) hx hb dX12_convicts_19 (by decide) ?_
  refine zz_cge (tgt := 82) C h dX12_convicts_22 (by decide) (fun h => ?_) (fun h => ?_)
  · refine lv_iload_n hx hb dX12_convicts_82 rfl (lv_at hl 2 rfl) ?_
    refine zz_ige (tgt := 89) C h dX12_convicts_83 (by decide) (fun h => ?_) (fun h => ?_)
    · refine lv_aload_n hx hb dX12_convicts_89 rfl (lv_at hl 0 rfl) ?_
      refine lv_iconst (v := 0) hx hb dX12_convicts_90 (by decide) ?_
      refine mp_0_1 C hW h fl_X12_11 dX12_convicts_91 (fun S1 H locs h hW => ?_)
      refine lv_aload_n hx hb dX12_convicts_94 rfl (lv_at hl 0 rfl) ?_
      refine lv_iload_n hx hb dX12_convicts_95 rfl (lv_at hl 2 rfl) ?_
      refine zz_callVv (As := [.int x2]) C hW h (fun r hr => c_X12_enters_0 hr) lk_X12_221 (hW.recv mr_0) rfl hl.1 ⟨rfl, rfl⟩ ⟨Nat.le_of_ble_eq_true rfl, Nat.le_of_ble_eq_true rfl⟩ (Nat.le_of_ble_eq_true rfl) ⟨Nat.zero_le _, Nat.zero_le _⟩ rfl dX12_convicts_96 (fun v3 S2 H locs h hW => ?_)
      refine lv_iload_n hx hb dX12_convicts_99 rfl (lv_at hl 2 rfl) ?_
      refine zz_callSi (As := [.int x2]) C hW h (fun r hr => c_J6_bitCount_0f7a4_m hr) lk_X12_151 rfl hl.1 ⟨rfl, rfl⟩ ⟨Nat.le_of_ble_eq_true rfl, Nat.le_of_ble_eq_true rfl⟩ (Nat.le_of_ble_eq_true rfl) ⟨Nat.zero_le _, Nat.zero_le _⟩ rfl dX12_convicts_100 (fun v5 S4 H locs h hW => ?_)
      exact zz_iret C rfl h hW dX12_convicts_103
    · refine lv_bipush (v := -2) hx hb dX12_convicts_86 (by decide) ?_
      exact zz_iret C rfl h hW dX12_convicts_88
  · refine lv_iload_n hx hb dX12_convicts_25 rfl (lv_at hl 2 rfl) ?_
    refine zz_ilt (tgt := 40) C h dX12_convicts_26 (by decide) (fun h => ?_) (fun h => ?_)
    · exact w_X12_convicts_0_b40 (F := F) C hrc18 h hW (lv_sub hl [0, 1, 2, 3] rfl)
    · refine lv_iload_n hx hb dX12_convicts_29 rfl (lv_at hl 3 rfl) ?_
      refine zz_callSi (As := [.int x3]) C hW h (fun r hr => c_J6_bitCount_0f7a4_m hr) lk_X12_151 rfl hl.1 ⟨rfl, rfl⟩ ⟨Nat.le_of_ble_eq_true rfl, Nat.le_of_ble_eq_true rfl⟩ (Nat.le_of_ble_eq_true rfl) ⟨Nat.zero_le _, Nat.zero_le _⟩ rfl dX12_convicts_30 (fun v7 S6 H locs h hW => ?_)
      refine lv_iload_n hx hb dX12_convicts_33 rfl (lv_at hl 2 rfl) ?_
      refine zz_callSi (As := [.int x2]) C hW h (fun r hr => c_J6_bitCount_0f7a4_m hr) lk_X12_151 rfl hl.1 ⟨rfl, rfl⟩ ⟨Nat.le_of_ble_eq_true rfl, Nat.le_of_ble_eq_true rfl⟩ (Nat.le_of_ble_eq_true rfl) ⟨Nat.zero_le _, Nat.zero_le _⟩ rfl dX12_convicts_34 (fun v9 S8 H locs h hW => ?_)
      refine zz_cge (tgt := 44) C h dX12_convicts_37 (by decide) (fun h => ?_) (fun h => ?_)
      · refine lv_iconst (v := 0) hx hb dX12_convicts_44 (by decide) ?_
        exact w_X12_convicts_0_b45 (F := F) C hrc18 h hW (lv_sub hl [0, 1, 2, 3] rfl)
      · exact w_X12_convicts_0_b40 (F := F) C hrc18 h hW (lv_sub hl [0, 1, 2, 3] rfl)
def n_X12_convicts_0_b18 (F : Nat)  (S : Zs) (x1 : Int32) (x2 : Int32) (x3 : Int32) : Option (Int32 × Zs) :=
  zfix (fun (rc : (Zs × Int32 × Int32 × Int32) → Option (Int32 × Zs)) (u : (Zs × Int32 × Int32 × Int32)) => n_X12_convicts_0_b18_l F  (fun S x1 x2 x3 => rc (S, x1, x2, x3)) u.1 u.2.1 u.2.2.1 u.2.2.2) F (S, x1, x2, x3)
theorem w_X12_convicts_0_b18 {F : Nat} {q : (Int32 × Zs)}  (C : zC p s m args meth c cX12_convicts 5 RX12 (some .int))  : ∀ (n : Nat) (S : Zs) (x1 : Int32) (x2 : Int32) (x3 : Int32) (H : Heap) (locs : List Loc) (ls : Array Slot), zfix (fun (rc : (Zs × Int32 × Int32 × Int32) → Option (Int32 × Zs)) (u : (Zs × Int32 × Int32 × Int32)) => n_X12_convicts_0_b18_l F  (fun S x1 x2 x3 => rc (S, x1, x2, x3)) u.1 u.2.1 u.2.2.1 u.2.2.2) n (S, x1, x2, x3) = some q → zW (mG D cs ad) s S H locs → lv_has ls 5 [(0, .ref (ad 0)), (1, .int x1), (2, .int x2), (3, .int x3)] → W p l e (zR 6 129) s m args below meth c H locs 0 0 (zQi (mG D cs ad) q below args s) (F0 m 18 ls []) := by
  intro n
  induction n with
  | zero => intro S x1 x2 x3 H locs ls h; exact absurd h (fun h => by cases h)
  | succ n ih => intro S x1 x2 x3 H locs ls h hW hl; exact w_X12_convicts_0_b18_l (F := F) C (fun S x1 x2 x3 H locs ls h hW hl => ih S x1 x2 x3 H locs ls h hW hl) h hW hl
def n_X12_convicts_0_e (F : Nat)  (S : Zs) (x1 : Int32) : Option (Int32 × Zs) :=
  zpf S 0 (0 : Int32) (fun S1 => zcl (n_X12_isCode F S1 x1) (fun v3 S2 => if v3 = 0 then (some ((-1 : Int32), S2)) else (n_X12_convicts_0_b18 F  S2 x1 (-1 : Int32) (0 : Int32))))
set_option maxRecDepth 20000 in
set_option maxHeartbeats 4000000 in
theorem w_X12_convicts_0_e {F : Nat} {q : (Int32 × Zs)} {S : Zs}  {x1 : Int32} {ls : Array Slot} {H : Heap} {locs : List Loc} (C : zC p s m args meth c cX12_convicts 5 RX12 (some .int))  (h : n_X12_convicts_0_e F  S x1 = some q) (hW : zW (mG D cs ad) s S H locs) (hl : lv_has ls 5 [(0, .ref (ad 0)), (1, .int x1)]) : W p l e (zR 6 129) s m args below meth c H locs 0 0 (zQi (mG D cs ad) q below args s) (F0 m 0 ls []) := by
  unfold n_X12_convicts_0_e at h
  obtain ⟨hx, hb, hml, hown, hts, hret, hlk⟩ := id C
  refine lv_aload_n hx hb dX12_convicts_0 rfl (lv_at hl 0 rfl) ?_
  refine lv_iconst (v := 0) hx hb dX12_convicts_1 (by decide) ?_
  refine mp_0_0 C hW h fl_X12_3 dX12_convicts_2 (fun S1 H locs h hW => ?_)
  refine lv_iload_n hx hb dX12_convicts_5 rfl (lv_at hl 1 rfl) ?_
  refine zz_callSi (As := [.int x1]) C hW h (fun r hr => c_X12_isCode hr) lk_X12_142 rfl hl.1 ⟨rfl, rfl⟩ ⟨Nat.le_of_ble_eq_true rfl, Nat.le_of_ble_eq_true rfl⟩ (Nat.le_of_ble_eq_true rfl) ⟨Nat.zero_le _, Nat.zero_le _⟩ rfl dX12_convicts_6 (fun v3 S2 H locs h hW => ?_)
  refine zz_ine (tgt := 14) C h dX12_convicts_9 (by decide) (fun h => ?_) (fun h => ?_)
  · refine lv_iconst (v := -1) hx hb dX12_convicts_14 (by decide) ?_
    refine lv_istore_n (lv' := [(2, .int (-1 : Int32)), (0, .ref (ad 0)), (1, .int x1)]) hx hb dX12_convicts_15 rfl hl (by decide) rfl (fun ls hl => ?_)
    refine lv_iconst (v := 0) hx hb dX12_convicts_16 (by decide) ?_
    refine lv_istore_n (lv' := [(3, .int (0 : Int32)), (2, .int (-1 : Int32)), (0, .ref (ad 0)), (1, .int x1)]) hx hb dX12_convicts_17 rfl hl (by decide) rfl (fun ls hl => ?_)
    exact w_X12_convicts_0_b18 (F := F) C F _ _ _ _ _ _ _ h hW (lv_sub hl [2, 3, 1, 0] rfl)
  · refine lv_iconst (v := -1) hx hb dX12_convicts_12 (by decide) ?_
    exact zz_iret C rfl h hW dX12_convicts_13
def n_X12_convicts_0 (F : Nat) (S : Zs) (x1 : Int32) : Option (Int32 × Zs) := n_X12_convicts_0_e F  S x1
theorem c_X12_convicts_0 {l : Launch} {D : va_G} {cs ad : Nat → Nat} {F : Nat} {S : Zs} {x1 : Int32} {q : (Int32 × Zs)} (h : n_X12_convicts_0 F S x1 = some q) : zMi l yX12_convicts cX12_convicts 5 (some .int) (zR 6 129) (mG D cs ad) [.ref (ad 0), .int x1] S q :=
  zz_enter (by decide) (Nat.le_of_ble_eq_true rfl) (fun p e s m below meth c ls C hW hl => w_X12_convicts_0_e (F := F) C h hW (lv_sub hl [0, 1] rfl))
def n_X12_isTerm_e (F : Nat)  (S : Zs) (x0 : Int32) : Option (Int32 × Zs) :=
  zcl (n_X12_in F S (x0.toInt64) (0 : Int64) (23 : Int64)) (fun v2 S1 => zrb v2 S1)
set_option maxRecDepth 20000 in
set_option maxHeartbeats 4000000 in
theorem w_X12_isTerm_e {F : Nat} {q : (Int32 × Zs)} {S : Zs}  {x0 : Int32} {ls : Array Slot} {H : Heap} {locs : List Loc} (C : zC p s m args meth c cX12_isTerm 1 RX12 (some .boolean))  (h : n_X12_isTerm_e F  S x0 = some q) (hW : zW (mG D cs ad) s S H locs) (hl : lv_has ls 1 [(0, .int x0)]) : W p l e (zR 1 25) s m args below meth c H locs 0 0 (zQi (mG D cs ad) q below args s) (F0 m 0 ls []) := by
  unfold n_X12_isTerm_e at h
  obtain ⟨hx, hb, hml, hown, hts, hret, hlk⟩ := id C
  refine lv_iload_n hx hb dX12_isTerm_0 rfl (lv_at hl 0 rfl) ?_
  refine lv_i2l hx hb dX12_isTerm_1 rfl ?_
  refine lv_lconst (v := 0) hx hb dX12_isTerm_2 (by decide) ?_
  refine lv_ldc2 (v := 23) hx hb hown (hts _ ct_X12_234) dX12_isTerm_3 ?_
  refine zz_callSi (As := [.long (x0.toInt64), .long (0 : Int64), .long (23 : Int64)]) C hW h (fun r hr => c_X12_in hr) lk_X12_16 rfl hl.1 ⟨rfl, rfl⟩ ⟨Nat.le_of_ble_eq_true rfl, Nat.le_of_ble_eq_true rfl⟩ (Nat.le_of_ble_eq_true rfl) ⟨Nat.zero_le _, Nat.zero_le _⟩ rfl dX12_isTerm_6 (fun v2 S1 H locs h hW => ?_)
  exact zz_zret C rfl h hW dX12_isTerm_9
def n_X12_isTerm (F : Nat) (S : Zs) (x0 : Int32) : Option (Int32 × Zs) := n_X12_isTerm_e F  S x0
theorem c_X12_isTerm {l : Launch} {D : va_G} {cs ad : Nat → Nat} {F : Nat} {S : Zs} {x0 : Int32} {q : (Int32 × Zs)} (h : n_X12_isTerm F S x0 = some q) : zMi l yX12_isTerm cX12_isTerm 1 (some .boolean) (zR 1 25) (mG D cs ad) [.int x0] S q :=
  zz_enter (by decide) (Nat.le_of_ble_eq_true rfl) (fun p e s m below meth c ls C hW hl => w_X12_isTerm_e (F := F) C h hW (lv_sub hl [0] rfl))
def n_X12_closesStanding_0_e (F : Nat)  (S : Zs)  : Option (Int32 × Zs) :=
  zcl (n_X12_standing_0 F S ) (fun v2 S1 => zcl (n_X12_lays_0 F S1 v2) (fun v4 S3 => zcl (n_X12_closes_0 F S3 ) (fun v6 S5 => some (0, S5))))
set_option maxRecDepth 20000 in
set_option maxHeartbeats 4000000 in
theorem w_X12_closesStanding_0_e {F : Nat} {q : (Int32 × Zs)} {S : Zs}   {ls : Array Slot} {H : Heap} {locs : List Loc} (C : zC p s m args meth c cX12_closesStanding 1 RX12 none)  (h : n_X12_closesStanding_0_e F  S  = some q) (hW : zW (mG D cs ad) s S H locs) (hl : lv_has ls 1 [(0, .ref (ad 0))]) : W p l e (zR 3 62) s m args below meth c H locs 0 0 (zQv (mG D cs ad) q below args s) (F0 m 0 ls []) := by
  unfold n_X12_closesStanding_0_e at h
  obtain ⟨hx, hb, hml, hown, hts, hret, hlk⟩ := id C
  refine lv_aload_n hx hb dX12_closesStanding_0 rfl (lv_at hl 0 rfl) ?_
  refine lv_aload_n hx hb dX12_closesStanding_1 rfl (lv_at hl 0 rfl) ?_
  refine zz_callVi (As := []) C hW h (fun r hr => c_X12_standing_0 hr) lk_X12_206 (hW.recv mr_0) rfl hl.1 ⟨rfl, rfl⟩ ⟨Nat.le_of_ble_eq_true rfl, Nat.le_of_ble_eq_true rfl⟩ (Nat.le_of_ble_eq_true rfl) ⟨Nat.zero_le _, Nat.zero_le _⟩ rfl dX12_closesStanding_2 (fun v2 S1 H locs h hW => ?_)
  refine zz_callVv (As := [.int v2]) C hW h (fun r hr => c_X12_lays_0 hr) lk_X12_200 (hW.recv mr_0) rfl hl.1 ⟨rfl, rfl⟩ ⟨Nat.le_of_ble_eq_true rfl, Nat.le_of_ble_eq_true rfl⟩ (Nat.le_of_ble_eq_true rfl) ⟨Nat.zero_le _, Nat.zero_le _⟩ rfl dX12_closesStanding_5 (fun v4 S3 H locs h hW => ?_)
  refine lv_aload_n hx hb dX12_closesStanding_8 rfl (lv_at hl 0 rfl) ?_
  refine zz_callVv (As := []) C hW h (fun r hr => c_X12_closes_0 hr) lk_X12_183 (hW.recv mr_0) rfl hl.1 ⟨rfl, rfl⟩ ⟨Nat.le_of_ble_eq_true rfl, Nat.le_of_ble_eq_true rfl⟩ (Nat.le_of_ble_eq_true rfl) ⟨Nat.zero_le _, Nat.zero_le _⟩ rfl dX12_closesStanding_9 (fun v6 S5 H locs h hW => ?_)
  exact zz_vret C rfl h hW dX12_closesStanding_12
def n_X12_closesStanding_0 (F : Nat) (S : Zs)  : Option (Int32 × Zs) := n_X12_closesStanding_0_e F  S 
theorem c_X12_closesStanding_0 {l : Launch} {D : va_G} {cs ad : Nat → Nat} {F : Nat} {S : Zs}  {q : (Int32 × Zs)} (h : n_X12_closesStanding_0 F S  = some q) : zMv l yX12_closesStanding cX12_closesStanding 1 none (zR 3 62) (mG D cs ad) [.ref (ad 0)] S q :=
  zz_enter (by decide) (Nat.le_of_ble_eq_true rfl) (fun p e s m below meth c ls C hW hl => w_X12_closesStanding_0_e (F := F) C h hW (lv_sub hl [0] rfl))
def n_X12_all_0_b47 (F : Nat) (rc22 : Zs → Int32 → Int32 → Int32 → Option (Int32 × Zs)) (S : Zs) (x1 : Int32) (x3 : Int32) (t0 : Int32) (t1 : Int32) : Option (Int32 × Zs) :=
  zlet (t1 ||| t0) (fun v1 => zlet (x3 + (1 : Int32)) (fun v2 => rc22 S x1 v1 v2))
set_option maxRecDepth 20000 in
set_option maxHeartbeats 4000000 in
theorem w_X12_all_0_b47 {F : Nat} {q : (Int32 × Zs)} {S : Zs} {rc22 : Zs → Int32 → Int32 → Int32 → Option (Int32 × Zs)} {x1 : Int32} {x3 : Int32} {t0 : Int32} {t1 : Int32} {ls : Array Slot} {H : Heap} {locs : List Loc} (C : zC p s m args meth c cX12_all 4 RX12 (some .int)) (hrc22 : ∀ (S : Zs) (x1 : Int32) (x2 : Int32) (x3 : Int32) (H : Heap) (locs : List Loc) (ls : Array Slot), rc22 S x1 x2 x3 = some q → zW (mG D cs ad) s S H locs → lv_has ls 4 [(0, .ref (ad 0)), (1, .int x1), (2, .int x2), (3, .int x3)] → W p l e (zR 4 82) s m args below meth c H locs 0 0 (zQi (mG D cs ad) q below args s) (F0 m 22 ls [])) (h : n_X12_all_0_b47 F rc22 S x1 x3 t0 t1 = some q) (hW : zW (mG D cs ad) s S H locs) (hl : lv_has ls 4 [(0, .ref (ad 0)), (1, .int x1), (3, .int x3)]) : W p l e (zR 4 82) s m args below meth c H locs 0 0 (zQi (mG D cs ad) q below args s) (F0 m 47 ls [.int t0, .int t1]) := by
  unfold n_X12_all_0_b47 at h
  obtain ⟨hx, hb, hml, hown, hts, hret, hlk⟩ := id C
  refine lv_ior hx hb dX12_all_47 ?_
  refine zz_leti h (fun v1 h => ?_)
  refine lv_istore_n (lv' := [(2, .int v1), (0, .ref (ad 0)), (1, .int x1), (3, .int x3)]) hx hb dX12_all_48 rfl hl (by decide) rfl (fun ls hl => ?_)
  obtain ⟨v2, ev2, h⟩ := zz_name h
  refine lv_iinc (v := v2) (lv' := [(3, .int v2), (2, .int v1), (0, .ref (ad 0)), (1, .int x1)]) hx hb dX12_all_49 hl (k := 3) rfl ev2.symm (by decide) rfl (fun ls hl => ?_)
  refine lv_goto (tgt := 22) hx hb dX12_all_52 (by decide) ?_
  exact hrc22 _ _ _ _ _ _ _ h hW (lv_sub hl [2, 3, 1, 0] rfl)
def n_X12_all_0_b22_l (F : Nat) (rc22 : Zs → Int32 → Int32 → Int32 → Option (Int32 × Zs)) (S : Zs) (x1 : Int32) (x2 : Int32) (x3 : Int32) : Option (Int32 × Zs) :=
  if (24 : Int32) ≤ x3 then (some (x2, S)) else (zcl (n_X12_can_0 F S x1 (x3 ^^^ (1 : Int32))) (fun v2 S1 => if v2 = 0 then (n_X12_all_0_b47 F rc22 S1 x1 x3 ((1 : Int32) <<< (x3 &&& 31)) x2) else (n_X12_all_0_b47 F rc22 S1 x1 x3 (0 : Int32) x2)))
set_option maxRecDepth 20000 in
set_option maxHeartbeats 4000000 in
theorem w_X12_all_0_b22_l {F : Nat} {q : (Int32 × Zs)} {S : Zs} {rc22 : Zs → Int32 → Int32 → Int32 → Option (Int32 × Zs)} {x1 : Int32} {x2 : Int32} {x3 : Int32} {ls : Array Slot} {H : Heap} {locs : List Loc} (C : zC p s m args meth c cX12_all 4 RX12 (some .int)) (hrc22 : ∀ (S : Zs) (x1 : Int32) (x2 : Int32) (x3 : Int32) (H : Heap) (locs : List Loc) (ls : Array Slot), rc22 S x1 x2 x3 = some q → zW (mG D cs ad) s S H locs → lv_has ls 4 [(0, .ref (ad 0)), (1, .int x1), (2, .int x2), (3, .int x3)] → W p l e (zR 4 82) s m args below meth c H locs 0 0 (zQi (mG D cs ad) q below args s) (F0 m 22 ls [])) (h : n_X12_all_0_b22_l F rc22 S x1 x2 x3 = some q) (hW : zW (mG D cs ad) s S H locs) (hl : lv_has ls 4 [(0, .ref (ad 0)), (1, .int x1), (2, .int x2), (3, .int x3)]) : W p l e (zR 4 82) s m args below meth c H locs 0 0 (zQi (mG D cs ad) q below args s) (F0 m 22 ls []) := by
  unfold n_X12_all_0_b22_l at h
  obtain ⟨hx, hb, hml, hown, hts, hret, hlk⟩ := id C
  refine lv_iload_n hx hb dX12_all_22 rfl (lv_at hl 3 rfl) ?_
  refine lv_bipush (v := 24) hx hb dX12_all_23 (by decide) ?_
  refine zz_cge (tgt := 55) C h dX12_all_25 (by decide) (fun h => ?_) (fun h => ?_)
  · refine lv_iload_n hx hb dX12_all_55 rfl (lv_at hl 2 rfl) ?_
    exact zz_iret C rfl h hW dX12_all_56
  · refine lv_iload_n hx hb dX12_all_28 rfl (lv_at hl 2 rfl) ?_
    refine lv_aload_n hx hb dX12_all_29 rfl (lv_at hl 0 rfl) ?_
    refine lv_iload_n hx hb dX12_all_30 rfl (lv_at hl 1 rfl) ?_
    refine lv_iload_n hx hb dX12_all_31 rfl (lv_at hl 3 rfl) ?_
    refine lv_iconst (v := 1) hx hb dX12_all_32 (by decide) ?_
    refine lv_ixor hx hb dX12_all_33 ?_
    refine zz_callVi (As := [.int x1, .int (x3 ^^^ (1 : Int32))]) C hW h (fun r hr => c_X12_can_0 hr) lk_X12_180 (hW.recv mr_0) rfl hl.1 ⟨rfl, rfl⟩ ⟨Nat.le_of_ble_eq_true rfl, Nat.le_of_ble_eq_true rfl⟩ (Nat.le_of_ble_eq_true rfl) ⟨Nat.zero_le _, Nat.zero_le _⟩ rfl dX12_all_34 (fun v2 S1 H locs h hW => ?_)
    refine zz_ieq (tgt := 44) C h dX12_all_37 (by decide) (fun h => ?_) (fun h => ?_)
    · refine lv_iconst (v := 1) hx hb dX12_all_44 (by decide) ?_
      refine lv_iload_n hx hb dX12_all_45 rfl (lv_at hl 3 rfl) ?_
      refine lv_ishl hx hb dX12_all_46 ?_
      exact w_X12_all_0_b47 (F := F) C hrc22 h hW (lv_sub hl [0, 1, 3] rfl)
    · refine lv_iconst (v := 0) hx hb dX12_all_40 (by decide) ?_
      refine lv_goto (tgt := 47) hx hb dX12_all_41 (by decide) ?_
      exact w_X12_all_0_b47 (F := F) C hrc22 h hW (lv_sub hl [0, 1, 3] rfl)
def n_X12_all_0_b22 (F : Nat)  (S : Zs) (x1 : Int32) (x2 : Int32) (x3 : Int32) : Option (Int32 × Zs) :=
  zfix (fun (rc : (Zs × Int32 × Int32 × Int32) → Option (Int32 × Zs)) (u : (Zs × Int32 × Int32 × Int32)) => n_X12_all_0_b22_l F  (fun S x1 x2 x3 => rc (S, x1, x2, x3)) u.1 u.2.1 u.2.2.1 u.2.2.2) F (S, x1, x2, x3)
theorem w_X12_all_0_b22 {F : Nat} {q : (Int32 × Zs)}  (C : zC p s m args meth c cX12_all 4 RX12 (some .int))  : ∀ (n : Nat) (S : Zs) (x1 : Int32) (x2 : Int32) (x3 : Int32) (H : Heap) (locs : List Loc) (ls : Array Slot), zfix (fun (rc : (Zs × Int32 × Int32 × Int32) → Option (Int32 × Zs)) (u : (Zs × Int32 × Int32 × Int32)) => n_X12_all_0_b22_l F  (fun S x1 x2 x3 => rc (S, x1, x2, x3)) u.1 u.2.1 u.2.2.1 u.2.2.2) n (S, x1, x2, x3) = some q → zW (mG D cs ad) s S H locs → lv_has ls 4 [(0, .ref (ad 0)), (1, .int x1), (2, .int x2), (3, .int x3)] → W p l e (zR 4 82) s m args below meth c H locs 0 0 (zQi (mG D cs ad) q below args s) (F0 m 22 ls []) := by
  intro n
  induction n with
  | zero => intro S x1 x2 x3 H locs ls h; exact absurd h (fun h => by cases h)
  | succ n ih => intro S x1 x2 x3 H locs ls h hW hl; exact w_X12_all_0_b22_l (F := F) C (fun S x1 x2 x3 H locs ls h hW hl => ih S x1 x2 x3 H locs ls h hW hl) h hW hl
def n_X12_all_0_e (F : Nat)  (S : Zs) (x1 : Int32) : Option (Int32 × Zs) :=
  zpf S 0 (0 : Int32) (fun S1 => zcl (n_X12_isTerm F S1 x1) (fun v3 S2 => if v3 = 0 then (some ((-1 : Int32), S2)) else (zcl (n_X12_closesStanding_0 F S2 ) (fun v5 S4 => n_X12_all_0_b22 F  S4 x1 (0 : Int32) (0 : Int32)))))
set_option maxRecDepth 20000 in
set_option maxHeartbeats 4000000 in
theorem w_X12_all_0_e {F : Nat} {q : (Int32 × Zs)} {S : Zs}  {x1 : Int32} {ls : Array Slot} {H : Heap} {locs : List Loc} (C : zC p s m args meth c cX12_all 4 RX12 (some .int))  (h : n_X12_all_0_e F  S x1 = some q) (hW : zW (mG D cs ad) s S H locs) (hl : lv_has ls 4 [(0, .ref (ad 0)), (1, .int x1)]) : W p l e (zR 4 82) s m args below meth c H locs 0 0 (zQi (mG D cs ad) q below args s) (F0 m 0 ls []) := by
  unfold n_X12_all_0_e at h
  obtain ⟨hx, hb, hml, hown, hts, hret, hlk⟩ := id C
  refine lv_aload_n hx hb dX12_all_0 rfl (lv_at hl 0 rfl) ?_
  refine lv_iconst (v := 0) hx hb dX12_all_1 (by decide) ?_
  refine mp_0_0 C hW h fl_X12_3 dX12_all_2 (fun S1 H locs h hW => ?_)
  refine lv_iload_n hx hb dX12_all_5 rfl (lv_at hl 1 rfl) ?_
  refine zz_callSi (As := [.int x1]) C hW h (fun r hr => c_X12_isTerm hr) lk_X12_236 rfl hl.1 ⟨rfl, rfl⟩ ⟨Nat.le_of_ble_eq_true rfl, Nat.le_of_ble_eq_true rfl⟩ (Nat.le_of_ble_eq_true rfl) ⟨Nat.zero_le _, Nat.zero_le _⟩ rfl dX12_all_6 (fun v3 S2 H locs h hW => ?_)
  refine zz_ine (tgt := 14) C h dX12_all_9 (by decide) (fun h => ?_) (fun h => ?_)
  · refine lv_aload_n hx hb dX12_all_14 rfl (lv_at hl 0 rfl) ?_
    refine zz_callVv (As := []) C hW h (fun r hr => c_X12_closesStanding_0 hr) lk_X12_239 (hW.recv mr_0) rfl hl.1 ⟨rfl, rfl⟩ ⟨Nat.le_of_ble_eq_true rfl, Nat.le_of_ble_eq_true rfl⟩ (Nat.le_of_ble_eq_true rfl) ⟨Nat.zero_le _, Nat.zero_le _⟩ rfl dX12_all_15 (fun v5 S4 H locs h hW => ?_)
    refine lv_iconst (v := 0) hx hb dX12_all_18 (by decide) ?_
    refine lv_istore_n (lv' := [(2, .int (0 : Int32)), (0, .ref (ad 0)), (1, .int x1)]) hx hb dX12_all_19 rfl hl (by decide) rfl (fun ls hl => ?_)
    refine lv_iconst (v := 0) hx hb dX12_all_20 (by decide) ?_
    refine lv_istore_n (lv' := [(3, .int (0 : Int32)), (2, .int (0 : Int32)), (0, .ref (ad 0)), (1, .int x1)]) hx hb dX12_all_21 rfl hl (by decide) rfl (fun ls hl => ?_)
    exact w_X12_all_0_b22 (F := F) C F _ _ _ _ _ _ _ h hW (lv_sub hl [2, 3, 1, 0] rfl)
  · refine lv_iconst (v := -1) hx hb dX12_all_12 (by decide) ?_
    exact zz_iret C rfl h hW dX12_all_13
def n_X12_all_0 (F : Nat) (S : Zs) (x1 : Int32) : Option (Int32 × Zs) := n_X12_all_0_e F  S x1
theorem c_X12_all_0 {l : Launch} {D : va_G} {cs ad : Nat → Nat} {F : Nat} {S : Zs} {x1 : Int32} {q : (Int32 × Zs)} (h : n_X12_all_0 F S x1 = some q) : zMi l yX12_all cX12_all 4 (some .int) (zR 4 82) (mG D cs ad) [.ref (ad 0), .int x1] S q :=
  zz_enter (by decide) (Nat.le_of_ble_eq_true rfl) (fun p e s m below meth c ls C hW hl => w_X12_all_0_e (F := F) C h hW (lv_sub hl [0, 1] rfl))
end ZM
