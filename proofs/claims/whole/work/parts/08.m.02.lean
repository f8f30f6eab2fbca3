section ZM
variable {p : Program} {l : Launch} {e : Env} {s : State} {m : MethodId} {args : Array Value} {below : List Frame} {meth : Method} {c : Code} {D : va_G} {cs ad : Nat → Nat}
def n_X12_empty_0_b36 (F : Nat) (rc13 : Zs → Int32 → Int32 → Option (Int32 × Zs)) (S : Zs) (x2 : Int32) (t0 : Int32) (t1 : Int32) : Option (Int32 × Zs) :=
  zlet (t1 ||| t0) (fun v1 => zlet (x2 + (1 : Int32)) (fun v2 => rc13 S v1 v2))
set_option maxRecDepth 20000 in
set_option maxHeartbeats 4000000 in
theorem w_X12_empty_0_b36 {F : Nat} {q : (Int32 × Zs)} {S : Zs} {rc13 : Zs → Int32 → Int32 → Option (Int32 × Zs)} {x2 : Int32} {t0 : Int32} {t1 : Int32} {ls : Array Slot} {H : Heap} {locs : List Loc} (C : zC p s m args meth c cX12_empty 3 RX12 (some .int)) (hrc13 : ∀ (S : Zs) (x1 : Int32) (x2 : Int32) (H : Heap) (locs : List Loc) (ls : Array Slot), rc13 S x1 x2 = some q → zW (mG D cs ad) s S H locs → lv_has ls 3 [(0, .ref (ad 0)), (1, .int x1), (2, .int x2)] → W p l e (zR 4 82) s m args below meth c H locs 0 0 (zQi (mG D cs ad) q below args s) (F0 m 13 ls [])) (h : n_X12_empty_0_b36 F rc13 S x2 t0 t1 = some q) (hW : zW (mG D cs ad) s S H locs) (hl : lv_has ls 3 [(0, .ref (ad 0)), (2, .int x2)]) : W p l e (zR 4 82) s m args below meth c H locs 0 0 (zQi (mG D cs ad) q below args s) (F0 m 36 ls [.int t0, .int t1]) := by
  unfold n_X12_empty_0_b36 at h
  obtain ⟨hx, hb, hml, hown, hts, hret, hlk⟩ := id C
  refine lv_ior hx hb dX12_empty_36 ?_
  refine zz_leti h (fun v1 h => ?_)
  refine lv_istore_n (lv' := [(1, .int v1), (0, .ref (ad 0)), (2, .int x2)]) hx hb dX12_empty_37 rfl hl (by decide) rfl (fun ls hl => ?_)
  obtain ⟨v2, ev2, h⟩ := zz_name h
  refine lv_iinc (v := v2) (lv' := [(2, .int v2), (1, .int v1), (0, .ref (ad 0))]) hx hb dX12_empty_38 hl (k := 2) rfl ev2.symm (by decide) rfl (fun ls hl => ?_)
  refine lv_goto (tgt := 13) hx hb dX12_empty_41 (by decide) ?_
  exact hrc13 _ _ _ _ _ _ h hW (lv_sub hl [2, 1, 0] rfl)
def n_X12_empty_0_b13_l (F : Nat) (rc13 : Zs → Int32 → Int32 → Option (Int32 × Zs)) (S : Zs) (x1 : Int32) (x2 : Int32) : Option (Int32 × Zs) :=
  if (24 : Int32) ≤ x2 then (some (x1, S)) else (zcl (n_X12_can_0 F S x2 x2) (fun v2 S1 => if v2 = 0 then (n_X12_empty_0_b36 F rc13 S1 x2 ((1 : Int32) <<< (x2 &&& 31)) x1) else (n_X12_empty_0_b36 F rc13 S1 x2 (0 : Int32) x1)))
set_option maxRecDepth 20000 in
set_option maxHeartbeats 4000000 in
theorem w_X12_empty_0_b13_l {F : Nat} {q : (Int32 × Zs)} {S : Zs} {rc13 : Zs → Int32 → Int32 → Option (Int32 × Zs)} {x1 : Int32} {x2 : Int32} {ls : Array Slot} {H : Heap} {locs : List Loc} (C : zC p s m args meth c cX12_empty 3 RX12 (some .int)) (hrc13 : ∀ (S : Zs) (x1 : Int32) (x2 : Int32) (H : Heap) (locs : List Loc) (ls : Array Slot), rc13 S x1 x2 = some q → zW (mG D cs ad) s S H locs → lv_has ls 3 [(0, .ref (ad 0)), (1, .int x1), (2, .int x2)] → W p l e (zR 4 82) s m args below meth c H locs 0 0 (zQi (mG D cs ad) q below args s) (F0 m 13 ls [])) (h : n_X12_empty_0_b13_l F rc13 S x1 x2 = some q) (hW : zW (mG D cs ad) s S H locs) (hl : lv_has ls 3 [(0, .ref (ad 0)), (1, .int x1), (2, .int x2)]) : W p l e (zR 4 82) s m args below meth c H locs 0 0 (zQi (mG D cs ad) q below args s) (F0 m 13 ls []) := by
  unfold n_X12_empty_0_b13_l at h
  obtain ⟨hx, hb, hml, hown, hts, hret, hlk⟩ := id C
  refine lv_iload_n hx hb dX12_empty_13 rfl (lv_at hl 2 rfl) ?_
  refine lv_bipush (v := 24) hx hb dX12_empty_14 (by decide) ?_
  refine zz_cge (tgt := 44) C h dX12_empty_16 (by decide) (fun h => ?_) (fun h => ?_)
  · refine lv_iload_n hx hb dX12_empty_44 rfl (lv_at hl 1 rfl) ?_
    exact zz_iret C rfl h hW dX12_empty_45
  · refine lv_iload_n hx hb dX12_empty_19 rfl (lv_at hl 1 rfl) ?_
    refine lv_aload_n hx hb dX12_empty_20 rfl (lv_at hl 0 rfl) ?_
    refine lv_iload_n hx hb dX12_empty_21 rfl (lv_at hl 2 rfl) ?_
    refine lv_iload_n hx hb dX12_empty_22 rfl (lv_at hl 2 rfl) ?_
    refine zz_callVi (As := [.int x2, .int x2]) C hW h (fun r hr => c_X12_can_0 hr) lk_X12_180 (hW.recv mr_0) rfl hl.1 ⟨rfl, rfl⟩ ⟨Nat.le_of_ble_eq_true rfl, Nat.le_of_ble_eq_true rfl⟩ (Nat.le_of_ble_eq_true rfl) ⟨Nat.zero_le _, Nat.zero_le _⟩ rfl dX12_empty_23 (fun v2 S1 H locs h hW => ?_)
    refine zz_ieq (tgt := 33) C h dX12_empty_26 (by decide) (fun h => ?_) (fun h => ?_)
    · refine lv_iconst (v := 1) hx hb dX12_empty_33 (by decide) ?_
      refine lv_iload_n hx hb dX12_empty_34 rfl (lv_at hl 2 rfl) ?_
      refine lv_ishl hx hb dX12_empty_35 ?_
      exact w_X12_empty_0_b36 (F := F) C hrc13 h hW (lv_sub hl [0, 2] rfl)
    · refine lv_iconst (v := 0) hx hb dX12_empty_29 (by decide) ?_
      refine lv_goto (tgt := 36) hx hb dX12_empty_30 (by decide) ?_
      exact w_X12_empty_0_b36 (F := F) C hrc13 h hW (lv_sub hl [0, 2] rfl)
def n_X12_empty_0_b13 (F : Nat)  (S : Zs) (x1 : Int32) (x2 : Int32) : Option (Int32 × Zs) :=
  zfix (fun (rc : (Zs × Int32 × Int32) → Option (Int32 × Zs)) (u : (Zs × Int32 × Int32)) => n_X12_empty_0_b13_l F  (fun S x1 x2 => rc (S, x1, x2)) u.1 u.2.1 u.2.2) F (S, x1, x2)
theorem w_X12_empty_0_b13 {F : Nat} {q : (Int32 × Zs)}  (C : zC p s m args meth c cX12_empty 3 RX12 (some .int))  : ∀ (n : Nat) (S : Zs) (x1 : Int32) (x2 : Int32) (H : Heap) (locs : List Loc) (ls : Array Slot), zfix (fun (rc : (Zs × Int32 × Int32) → Option (Int32 × Zs)) (u : (Zs × Int32 × Int32)) => n_X12_empty_0_b13_l F  (fun S x1 x2 => rc (S, x1, x2)) u.1 u.2.1 u.2.2) n (S, x1, x2) = some q → zW (mG D cs ad) s S H locs → lv_has ls 3 [(0, .ref (ad 0)), (1, .int x1), (2, .int x2)] → W p l e (zR 4 82) s m args below meth c H locs 0 0 (zQi (mG D cs ad) q below args s) (F0 m 13 ls []) := by
  intro n
  induction n with
  | zero => intro S x1 x2 H locs ls h; exact absurd h (fun h => by cases h)
  | succ n ih => intro S x1 x2 H locs ls h hW hl; exact w_X12_empty_0_b13_l (F := F) C (fun S x1 x2 H locs ls h hW hl => ih S x1 x2 H locs ls h hW hl) h hW hl
def n_X12_empty_0_e (F : Nat)  (S : Zs)  : Option (Int32 × Zs) :=
  zpf S 0 (0 : Int32) (fun S1 => zcl (n_X12_closesStanding_0 F S1 ) (fun v3 S2 => n_X12_empty_0_b13 F  S2 (0 : Int32) (0 : Int32)))
set_option maxRecDepth 20000 in
set_option maxHeartbeats 4000000 in
theorem w_X12_empty_0_e {F : Nat} {q : (Int32 × Zs)} {S : Zs}   {ls : Array Slot} {H : Heap} {locs : List Loc} (C : zC p s m args meth c cX12_empty 3 RX12 (some .int))  (h : n_X12_empty_0_e F  S  = some q) (hW : zW (mG D cs ad) s S H locs) (hl : lv_has ls 3 [(0, .ref (ad 0))]) : W p l e (zR 4 82) s m args below meth c H locs 0 0 (zQi (mG D cs ad) q below args s) (F0 m 0 ls []) := by
  unfold n_X12_empty_0_e at h
  obtain ⟨hx, hb, hml, hown, hts, hret, hlk⟩ := id C
  refine lv_aload_n hx hb dX12_empty_0 rfl (lv_at hl 0 rfl) ?_
  refine lv_iconst (v := 0) hx hb dX12_empty_1 (by decide) ?_
  refine mp_0_0 C hW h fl_X12_3 dX12_empty_2 (fun S1 H locs h hW => ?_)
  refine lv_aload_n hx hb dX12_empty_5 rfl (lv_at hl 0 rfl) ?_
  refine zz_callVv (As := []) C hW h (fun r hr => c_X12_closesStanding_0 hr) lk_X12_239 (hW.recv mr_0) rfl hl.1 ⟨rfl, rfl⟩ ⟨Nat.le_of_ble_eq_true rfl, Nat.le_of_ble_eq_true rfl⟩ (Nat.le_of_ble_eq_true rfl) ⟨Nat.zero_le _, Nat.zero_le _⟩ rfl dX12_empty_6 (fun v3 S2 H locs h hW => ?_)
  refine lv_iconst (v := 0) hx hb dX12_empty_9 (by decide) ?_
  refine lv_istore_n (lv' := [(1, .int (0 : Int32)), (0, .ref (ad 0))]) hx hb dX12_empty_10 rfl hl (by decide) rfl (fun ls hl => ?_)
  refine lv_iconst (v := 0) hx hb dX12_empty_11 (by decide) ?_
  refine lv_istore_n (lv' := [(2, .int (0 : Int32)), (1, .int (0 : Int32)), (0, .ref (ad 0))]) hx hb dX12_empty_12 rfl hl (by decide) rfl (fun ls hl => ?_)
  exact w_X12_empty_0_b13 (F := F) C F _ _ _ _ _ _ h hW (lv_sub hl [2, 1, 0] rfl)
def n_X12_empty_0 (F : Nat) (S : Zs)  : Option (Int32 × Zs) := n_X12_empty_0_e F  S 
theorem c_X12_empty_0 {l : Launch} {D : va_G} {cs ad : Nat → Nat} {F : Nat} {S : Zs}  {q : (Int32 × Zs)} (h : n_X12_empty_0 F S  = some q) : zMi l yX12_empty cX12_empty 3 (some .int) (zR 4 82) (mG D cs ad) [.ref (ad 0)] S q :=
  zz_enter (by decide) (Nat.le_of_ble_eq_true rfl) (fun p e s m below meth c ls C hW hl => w_X12_empty_0_e (F := F) C h hW (lv_sub hl [0] rfl))
def n_X12_isStep_0_b23 (F : Nat)  (S : Zs)  : Option (Int32 × Zs) :=
  zrb (0 : Int32) S
set_option maxRecDepth 20000 in
set_option maxHeartbeats 4000000 in
theorem w_X12_isStep_0_b23 {F : Nat} {q : (Int32 × Zs)} {S : Zs}   {ls : Array Slot} {H : Heap} {locs : List Loc} (C : zC p s m args meth c cX12_isStep 6 RX12 (some .boolean))  (h : n_X12_isStep_0_b23 F  S  = some q) (hW : zW (mG D cs ad) s S H locs) (hl : lv_has ls 6 []) : W p l e (zR 2 40) s m args below meth c H locs 0 0 (zQi (mG D cs ad) q below args s) (F0 m 23 ls []) := by
  unfold n_X12_isStep_0_b23 at h
  obtain ⟨hx, hb, hml, hown, hts, hret, hlk⟩ := id C
  refine lv_iconst (v := 0) hx hb dX12_isStep_23 (by decide) ?_
  exact zz_zret C rfl h hW dX12_isStep_24
def n_X12_isStep_0_b106 (F : Nat)  (S : Zs) (t0 : Int32) : Option (Int32 × Zs) :=
  zrb t0 S
set_option maxRecDepth 20000 in
set_option maxHeartbeats 4000000 in
theorem w_X12_isStep_0_b106 {F : Nat} {q : (Int32 × Zs)} {S : Zs}  {t0 : Int32} {ls : Array Slot} {H : Heap} {locs : List Loc} (C : zC p s m args meth c cX12_isStep 6 RX12 (some .boolean))  (h : n_X12_isStep_0_b106 F  S t0 = some q) (hW : zW (mG D cs ad) s S H locs) (hl : lv_has ls 6 []) : W p l e (zR 2 40) s m args below meth c H locs 0 0 (zQi (mG D cs ad) q below args s) (F0 m 106 ls [.int t0]) := by
  unfold n_X12_isStep_0_b106 at h
  obtain ⟨hx, hb, hml, hown, hts, hret, hlk⟩ := id C
  exact zz_zret C rfl h hW dX12_isStep_106
def n_X12_isStep_0_b105 (F : Nat)  (S : Zs)  : Option (Int32 × Zs) :=
  n_X12_isStep_0_b106 F  S (0 : Int32)
set_option maxRecDepth 20000 in
set_option maxHeartbeats 4000000 in
theorem w_X12_isStep_0_b105 {F : Nat} {q : (Int32 × Zs)} {S : Zs}   {ls : Array Slot} {H : Heap} {locs : List Loc} (C : zC p s m args meth c cX12_isStep 6 RX12 (some .boolean))  (h : n_X12_isStep_0_b105 F  S  = some q) (hW : zW (mG D cs ad) s S H locs) (hl : lv_has ls 6 []) : W p l e (zR 2 40) s m args below meth c H locs 0 0 (zQi (mG D cs ad) q below args s) (F0 m 105 ls []) := by
  unfold n_X12_isStep_0_b105 at h
  obtain ⟨hx, hb, hml, hown, hts, hret, hlk⟩ := id C
  refine lv_iconst (v := 0) hx hb dX12_isStep_105 (by decide) ?_
  exact w_X12_isStep_0_b106 (F := F) C h hW (lv_sub hl [] rfl)
def n_X12_isStep_0_b101 (F : Nat)  (S : Zs)  : Option (Int32 × Zs) :=
  n_X12_isStep_0_b106 F  S (1 : Int32)
set_option maxRecDepth 20000 in
set_option maxHeartbeats 4000000 in
theorem w_X12_isStep_0_b101 {F : Nat} {q : (Int32 × Zs)} {S : Zs}   {ls : Array Slot} {H : Heap} {locs : List Loc} (C : zC p s m args meth c cX12_isStep 6 RX12 (some .boolean))  (h : n_X12_isStep_0_b101 F  S  = some q) (hW : zW (mG D cs ad) s S H locs) (hl : lv_has ls 6 []) : W p l e (zR 2 40) s m args below meth c H locs 0 0 (zQi (mG D cs ad) q below args s) (F0 m 101 ls []) := by
  unfold n_X12_isStep_0_b101 at h
  obtain ⟨hx, hb, hml, hown, hts, hret, hlk⟩ := id C
  refine lv_iconst (v := 1) hx hb dX12_isStep_101 (by decide) ?_
  refine lv_goto (tgt := 106) hx hb dX12_isStep_102 (by decide) ?_
  exact w_X12_isStep_0_b106 (F := F) C h hW (lv_sub hl [] rfl)
def n_X12_isStep_0_b85 (F : Nat)  (S : Zs) (x2 : Int32) (x3 : Int32) (x4 : Int32) (x5 : Int32) : Option (Int32 × Zs) :=
  if x2 = (x5 ^^^ (1 : Int32)) then (if x3 = (x4 ^^^ (1 : Int32)) then (n_X12_isStep_0_b101 F  S ) else (n_X12_isStep_0_b105 F  S )) else (n_X12_isStep_0_b105 F  S )
set_option maxRecDepth 20000 in
set_option maxHeartbeats 4000000 in
theorem w_X12_isStep_0_b85 {F : Nat} {q : (Int32 × Zs)} {S : Zs}  {x2 : Int32} {x3 : Int32} {x4 : Int32} {x5 : Int32} {ls : Array Slot} {H : Heap} {locs : List Loc} (C : zC p s m args meth c cX12_isStep 6 RX12 (some .boolean))  (h : n_X12_isStep_0_b85 F  S x2 x3 x4 x5 = some q) (hW : zW (mG D cs ad) s S H locs) (hl : lv_has ls 6 [(2, .int x2), (3, .int x3), (4, .int x4), (5, .int x5)]) : W p l e (zR 2 40) s m args below meth c H locs 0 0 (zQi (mG D cs ad) q below args s) (F0 m 85 ls []) := by
  unfold n_X12_isStep_0_b85 at h
  obtain ⟨hx, hb, hml, hown, hts, hret, hlk⟩ := id C
  refine lv_iload_n hx hb dX12_isStep_85 rfl (lv_at hl 0 rfl) ?_
  refine lv_iload hx hb dX12_isStep_86 (lv_at hl 3 rfl) ?_
  refine lv_iconst (v := 1) hx hb dX12_isStep_88 (by decide) ?_
  refine lv_ixor hx hb dX12_isStep_89 ?_
  refine zz_cne (tgt := 105) C h dX12_isStep_90 (by decide) (fun h => ?_) (fun h => ?_)
  · exact w_X12_isStep_0_b105 (F := F) C h hW (lv_sub hl [] rfl)
  · refine lv_iload_n hx hb dX12_isStep_93 rfl (lv_at hl 1 rfl) ?_
    refine lv_iload hx hb dX12_isStep_94 (lv_at hl 2 rfl) ?_
    refine lv_iconst (v := 1) hx hb dX12_isStep_96 (by decide) ?_
    refine lv_ixor hx hb dX12_isStep_97 ?_
    refine zz_cne (tgt := 105) C h dX12_isStep_98 (by decide) (fun h => ?_) (fun h => ?_)
    · exact w_X12_isStep_0_b105 (F := F) C h hW (lv_sub hl [] rfl)
    · exact w_X12_isStep_0_b101 (F := F) C h hW (lv_sub hl [] rfl)
def n_X12_isStep_0_b71 (F : Nat)  (S : Zs) (x2 : Int32) (x3 : Int32) (x4 : Int32) (t0 : Int32) : Option (Int32 × Zs) :=
  if x2 = x4 then (if x3 = t0 then (n_X12_isStep_0_b101 F  S ) else (n_X12_isStep_0_b85 F  S x2 x3 x4 t0)) else (n_X12_isStep_0_b85 F  S x2 x3 x4 t0)
set_option maxRecDepth 20000 in
set_option maxHeartbeats 4000000 in
theorem w_X12_isStep_0_b71 {F : Nat} {q : (Int32 × Zs)} {S : Zs}  {x2 : Int32} {x3 : Int32} {x4 : Int32} {t0 : Int32} {ls : Array Slot} {H : Heap} {locs : List Loc} (C : zC p s m args meth c cX12_isStep 6 RX12 (some .boolean))  (h : n_X12_isStep_0_b71 F  S x2 x3 x4 t0 = some q) (hW : zW (mG D cs ad) s S H locs) (hl : lv_has ls 6 [(2, .int x2), (3, .int x3), (4, .int x4)]) : W p l e (zR 2 40) s m args below meth c H locs 0 0 (zQi (mG D cs ad) q below args s) (F0 m 71 ls [.int t0]) := by
  unfold n_X12_isStep_0_b71 at h
  obtain ⟨hx, hb, hml, hown, hts, hret, hlk⟩ := id C
  refine lv_istore (lv' := [(5, .int t0), (2, .int x2), (3, .int x3), (4, .int x4)]) hx hb dX12_isStep_71 hl (by decide) rfl (fun ls hl => ?_)
  refine lv_iload_n hx hb dX12_isStep_73 rfl (lv_at hl 1 rfl) ?_
  refine lv_iload hx hb dX12_isStep_74 (lv_at hl 3 rfl) ?_
  refine zz_cne (tgt := 85) C h dX12_isStep_76 (by decide) (fun h => ?_) (fun h => ?_)
  · exact w_X12_isStep_0_b85 (F := F) C h hW (lv_sub hl [1, 2, 3, 0] rfl)
  · refine lv_iload_n hx hb dX12_isStep_79 rfl (lv_at hl 2 rfl) ?_
    refine lv_iload hx hb dX12_isStep_80 (lv_at hl 0 rfl) ?_
    refine zz_ceq (tgt := 101) C h dX12_isStep_82 (by decide) (fun h => ?_) (fun h => ?_)
    · exact w_X12_isStep_0_b101 (F := F) C h hW (lv_sub hl [] rfl)
    · exact w_X12_isStep_0_b85 (F := F) C h hW (lv_sub hl [1, 2, 3, 0] rfl)
def n_X12_isStep_0_e (F : Nat)  (S : Zs) (x1 : Int32) (x2 : Int32) (x3 : Int32) : Option (Int32 × Zs) :=
  zgf S 7 (fun v1 => zcl (n_X12_has F S v1 x1) (fun v3 S2 => if v3 = 0 then (zld S2 2 16 x1 (fun v4 => zcl (n_X12_isOfAll F S2 v4) (fun v6 S5 => if v6 = 0 then (n_X12_isStep_0_b23 F  S5 ) else (zld S5 2 16 x1 (fun v7 => zcl (n_X12_firstOf F S5 v7) (fun v9 S8 => zld S8 2 16 x1 (fun v10 => zcl (n_X12_formOf F S8 v10) (fun v12 S11 => if v12 = 0 then (zld S11 2 16 x1 (fun v16 => zcl (n_X12_secondOf F S11 v16) (fun v18 S17 => n_X12_isStep_0_b71 F  S17 x2 x3 v9 v18))) else (zld S11 2 16 x1 (fun v13 => zcl (n_X12_secondOf F S11 v13) (fun v15 S14 => n_X12_isStep_0_b71 F  S14 x2 x3 v9 (v15 ^^^ (1 : Int32))))))))))))) else (n_X12_isStep_0_b23 F  S2 )))
set_option maxRecDepth 20000 in
set_option maxHeartbeats 4000000 in
theorem w_X12_isStep_0_e {F : Nat} {q : (Int32 × Zs)} {S : Zs}  {x1 : Int32} {x2 : Int32} {x3 : Int32} {ls : Array Slot} {H : Heap} {locs : List Loc} (C : zC p s m args meth c cX12_isStep 6 RX12 (some .boolean))  (h : n_X12_isStep_0_e F  S x1 x2 x3 = some q) (hW : zW (mG D cs ad) s S H locs) (hl : lv_has ls 6 [(0, .ref (ad 0)), (1, .int x1), (2, .int x2), (3, .int x3)]) : W p l e (zR 2 40) s m args below meth c H locs 0 0 (zQi (mG D cs ad) q below args s) (F0 m 0 ls []) := by
  unfold n_X12_isStep_0_e at h
  obtain ⟨hx, hb, hml, hown, hts, hret, hlk⟩ := id C
  refine lv_aload_n hx hb dX12_isStep_0 rfl (lv_at hl 0 rfl) ?_
  refine mg_0_7 C hW h fl_X12_126 dX12_isStep_1 (fun v1 h => ?_)
  refine lv_iload_n hx hb dX12_isStep_4 rfl (lv_at hl 1 rfl) ?_
  refine zz_callSi (As := [.int v1, .int x1]) C hW h (fun r hr => c_X12_has hr) lk_X12_129 rfl hl.1 ⟨rfl, rfl⟩ ⟨Nat.le_of_ble_eq_true rfl, Nat.le_of_ble_eq_true rfl⟩ (Nat.le_of_ble_eq_true rfl) ⟨Nat.zero_le _, Nat.zero_le _⟩ rfl dX12_isStep_5 (fun v3 S2 H locs h hW => ?_)
  refine zz_ine (tgt := 23) C h dX12_isStep_8 (by decide) (fun h => ?_) (fun h => ?_)
  · exact w_X12_isStep_0_b23 (F := F) C h hW (lv_sub hl [] rfl)
  · refine lv_aload_n hx hb dX12_isStep_11 rfl (lv_at hl 0 rfl) ?_
    refine mg_0_4 C hW fl_X12_87 dX12_isStep_12 ?_
    refine lv_iload_n hx hb dX12_isStep_15 rfl (lv_at hl 1 rfl) ?_
    refine ml_2 C hW h dX12_isStep_16 (fun v4 h => ?_)
    refine zz_callSi (As := [.int v4]) C hW h (fun r hr => c_X12_isOfAll hr) lk_X12_165 rfl hl.1 ⟨rfl, rfl⟩ ⟨Nat.le_of_ble_eq_true rfl, Nat.le_of_ble_eq_true rfl⟩ (Nat.le_of_ble_eq_true rfl) ⟨Nat.zero_le _, Nat.zero_le _⟩ rfl dX12_isStep_17 (fun v6 S5 H locs h hW => ?_)
    refine zz_ine (tgt := 25) C h dX12_isStep_20 (by decide) (fun h => ?_) (fun h => ?_)
    · refine lv_aload_n hx hb dX12_isStep_25 rfl (lv_at hl 0 rfl) ?_
      refine mg_0_4 C hW fl_X12_87 dX12_isStep_26 ?_
      refine lv_iload_n hx hb dX12_isStep_29 rfl (lv_at hl 1 rfl) ?_
      refine ml_2 C hW h dX12_isStep_30 (fun v7 h => ?_)
      refine zz_callSi (As := [.int v7]) C hW h (fun r hr => c_X12_firstOf hr) lk_X12_24 rfl hl.1 ⟨rfl, rfl⟩ ⟨Nat.le_of_ble_eq_true rfl, Nat.le_of_ble_eq_true rfl⟩ (Nat.le_of_ble_eq_true rfl) ⟨Nat.zero_le _, Nat.zero_le _⟩ rfl dX12_isStep_31 (fun v9 S8 H locs h hW => ?_)
      refine lv_istore (lv' := [(4, .int v9), (0, .ref (ad 0)), (1, .int x1), (2, .int x2), (3, .int x3)]) hx hb dX12_isStep_34 hl (by decide) rfl (fun ls hl => ?_)
      refine lv_aload_n hx hb dX12_isStep_36 rfl (lv_at hl 1 rfl) ?_
      refine mg_0_4 C hW fl_X12_87 dX12_isStep_37 ?_
      refine lv_iload_n hx hb dX12_isStep_40 rfl (lv_at hl 2 rfl) ?_
      refine ml_2 C hW h dX12_isStep_41 (fun v10 h => ?_)
      refine zz_callSi (As := [.int v10]) C hW h (fun r hr => c_X12_formOf hr) lk_X12_20 rfl hl.1 ⟨rfl, rfl⟩ ⟨Nat.le_of_ble_eq_true rfl, Nat.le_of_ble_eq_true rfl⟩ (Nat.le_of_ble_eq_true rfl) ⟨Nat.zero_le _, Nat.zero_le _⟩ rfl dX12_isStep_42 (fun v12 S11 H locs h hW => ?_)
      refine zz_ine (tgt := 60) C h dX12_isStep_45 (by decide) (fun h => ?_) (fun h => ?_)
      · refine lv_aload_n hx hb dX12_isStep_60 rfl (lv_at hl 1 rfl) ?_
        refine mg_0_4 C hW fl_X12_87 dX12_isStep_61 ?_
        refine lv_iload_n hx hb dX12_isStep_64 rfl (lv_at hl 2 rfl) ?_
        refine ml_2 C hW h dX12_isStep_65 (fun v13 h => ?_)
        refine zz_callSi (As := [.int v13]) C hW h (fun r hr => c_X12_secondOf hr) lk_X12_27 rfl hl.1 ⟨rfl, rfl⟩ ⟨Nat.le_of_ble_eq_true rfl, Nat.le_of_ble_eq_true rfl⟩ (Nat.le_of_ble_eq_true rfl) ⟨Nat.zero_le _, Nat.zero_le _⟩ rfl dX12_isStep_66 (fun v15 S14 H locs h hW => ?_)
        refine lv_iconst (v := 1) hx hb dX12_isStep_69 (by decide) ?_
        refine lv_ixor hx hb dX12_isStep_70 ?_
        exact w_X12_isStep_0_b71 (F := F) C h hW (lv_sub hl [3, 4, 0] rfl)
      · refine lv_aload_n hx hb dX12_isStep_48 rfl (lv_at hl 1 rfl) ?_
        refine mg_0_4 C hW fl_X12_87 dX12_isStep_49 ?_
        refine lv_iload_n hx hb dX12_isStep_52 rfl (lv_at hl 2 rfl) ?_
        refine ml_2 C hW h dX12_isStep_53 (fun v16 h => ?_)
        refine zz_callSi (As := [.int v16]) C hW h (fun r hr => c_X12_secondOf hr) lk_X12_27 rfl hl.1 ⟨rfl, rfl⟩ ⟨Nat.le_of_ble_eq_true rfl, Nat.le_of_ble_eq_true rfl⟩ (Nat.le_of_ble_eq_true rfl) ⟨Nat.zero_le _, Nat.zero_le _⟩ rfl dX12_isStep_54 (fun v18 S17 H locs h hW => ?_)
        refine lv_goto (tgt := 71) hx hb dX12_isStep_57 (by decide) ?_
        exact w_X12_isStep_0_b71 (F := F) C h hW (lv_sub hl [3, 4, 0] rfl)
    · exact w_X12_isStep_0_b23 (F := F) C h hW (lv_sub hl [] rfl)
def n_X12_isStep_0 (F : Nat) (S : Zs) (x1 : Int32) (x2 : Int32) (x3 : Int32) : Option (Int32 × Zs) := n_X12_isStep_0_e F  S x1 x2 x3
theorem c_X12_isStep_0 {l : Launch} {D : va_G} {cs ad : Nat → Nat} {F : Nat} {S : Zs} {x1 : Int32} {x2 : Int32} {x3 : Int32} {q : (Int32 × Zs)} (h : n_X12_isStep_0 F S x1 x2 x3 = some q) : zMi l yX12_isStep cX12_isStep 6 (some .boolean) (zR 2 40) (mG D cs ad) [.ref (ad 0), .int x1, .int x2, .int x3] S q :=
  zz_enter (by decide) (Nat.le_of_ble_eq_true rfl) (fun p e s m below meth c ls C hW hl => w_X12_isStep_0_e (F := F) C h hW (lv_sub hl [0, 1, 2, 3] rfl))
def n_X12_isLed_0_b2_l (F : Nat) (rc2 : Zs → Int32 → Int32 → Int32 → Option (Int32 × Zs)) (S : Zs) (x1 : Int32) (x2 : Int32) (x3 : Int32) : Option (Int32 × Zs) :=
  zgf S 3 (fun v1 => if v1 ≤ x3 then (zrb (0 : Int32) S) else (zcl (n_X12_isStep_0 F S x3 x1 x2) (fun v3 S2 => if v3 = 0 then (zlet (x3 + (1 : Int32)) (fun v4 => rc2 S2 x1 x2 v4)) else (zrb (1 : Int32) S2))))
set_option maxRecDepth 20000 in
set_option maxHeartbeats 4000000 in
theorem w_X12_isLed_0_b2_l {F : Nat} {q : (Int32 × Zs)} {S : Zs} {rc2 : Zs → Int32 → Int32 → Int32 → Option (Int32 × Zs)} {x1 : Int32} {x2 : Int32} {x3 : Int32} {ls : Array Slot} {H : Heap} {locs : List Loc} (C : zC p s m args meth c cX12_isLed 4 RX12 (some .boolean)) (hrc2 : ∀ (S : Zs) (x1 : Int32) (x2 : Int32) (x3 : Int32) (H : Heap) (locs : List Loc) (ls : Array Slot), rc2 S x1 x2 x3 = some q → zW (mG D cs ad) s S H locs → lv_has ls 4 [(0, .ref (ad 0)), (1, .int x1), (2, .int x2), (3, .int x3)] → W p l e (zR 3 65) s m args below meth c H locs 0 0 (zQi (mG D cs ad) q below args s) (F0 m 2 ls [])) (h : n_X12_isLed_0_b2_l F rc2 S x1 x2 x3 = some q) (hW : zW (mG D cs ad) s S H locs) (hl : lv_has ls 4 [(0, .ref (ad 0)), (1, .int x1), (2, .int x2), (3, .int x3)]) : W p l e (zR 3 65) s m args below meth c H locs 0 0 (zQi (mG D cs ad) q below args s) (F0 m 2 ls []) := by
  unfold n_X12_isLed_0_b2_l at h
  obtain ⟨hx, hb, hml, hown, hts, hret, hlk⟩ := id C
  refine lv_iload_n hx hb dX12_isLed_2 rfl (lv_at hl 3 rfl) ?_
  refine lv_aload_n hx hb dX12_isLed_3 rfl (lv_at hl 0 rfl) ?_
  refine mg_0_3 C hW h fl_X12_105 dX12_isLed_4 (fun v1 h => ?_)
  refine zz_cge (tgt := 28) C h dX12_isLed_7 (by decide) (fun h => ?_) (fun h => ?_)
  · refine lv_iconst (v := 0) hx hb dX12_isLed_28 (by decide) ?_
    exact zz_zret C rfl h hW dX12_isLed_29
  · refine lv_aload_n hx hb dX12_isLed_10 rfl (lv_at hl 0 rfl) ?_
    refine lv_iload_n hx hb dX12_isLed_11 rfl (lv_at hl 3 rfl) ?_
    refine lv_iload_n hx hb dX12_isLed_12 rfl (lv_at hl 1 rfl) ?_
    refine lv_iload_n hx hb dX12_isLed_13 rfl (lv_at hl 2 rfl) ?_
    refine zz_callVi (As := [.int x3, .int x1, .int x2]) C hW h (fun r hr => c_X12_isStep_0 hr) lk_X12_242 (hW.recv mr_0) rfl hl.1 ⟨rfl, rfl⟩ ⟨Nat.le_of_ble_eq_true rfl, Nat.le_of_ble_eq_true rfl⟩ (Nat.le_of_ble_eq_true rfl) ⟨Nat.zero_le _, Nat.zero_le _⟩ rfl dX12_isLed_14 (fun v3 S2 H locs h hW => ?_)
    refine zz_ieq (tgt := 22) C h dX12_isLed_17 (by decide) (fun h => ?_) (fun h => ?_)
    · obtain ⟨v4, ev4, h⟩ := zz_name h
      refine lv_iinc (v := v4) (lv' := [(3, .int v4), (0, .ref (ad 0)), (1, .int x1), (2, .int x2)]) hx hb dX12_isLed_22 hl (k := 3) rfl ev4.symm (by decide) rfl (fun ls hl => ?_)
      refine lv_goto (tgt := 2) hx hb dX12_isLed_25 (by decide) ?_
      exact hrc2 _ _ _ _ _ _ _ h hW (lv_sub hl [1, 2, 3, 0] rfl)
    · refine lv_iconst (v := 1) hx hb dX12_isLed_20 (by decide) ?_
      exact zz_zret C rfl h hW dX12_isLed_21
def n_X12_isLed_0_b2 (F : Nat)  (S : Zs) (x1 : Int32) (x2 : Int32) (x3 : Int32) : Option (Int32 × Zs) :=
  zfix (fun (rc : (Zs × Int32 × Int32 × Int32) → Option (Int32 × Zs)) (u : (Zs × Int32 × Int32 × Int32)) => n_X12_isLed_0_b2_l F  (fun S x1 x2 x3 => rc (S, x1, x2, x3)) u.1 u.2.1 u.2.2.1 u.2.2.2) F (S, x1, x2, x3)
theorem w_X12_isLed_0_b2 {F : Nat} {q : (Int32 × Zs)}  (C : zC p s m args meth c cX12_isLed 4 RX12 (some .boolean))  : ∀ (n : Nat) (S : Zs) (x1 : Int32) (x2 : Int32) (x3 : Int32) (H : Heap) (locs : List Loc) (ls : Array Slot), zfix (fun (rc : (Zs × Int32 × Int32 × Int32) → Option (Int32 × Zs)) (u : (Zs × Int32 × Int32 × Int32)) => n_X12_isLed_0_b2_l F  (fun S x1 x2 x3 => rc (S, x1, x2, x3)) u.1 u.2.1 u.2.2.1 u.2.2.2) n (S, x1, x2, x3) = some q → zW (mG D cs ad) s S H locs → lv_has ls 4 [(0, .ref (ad 0)), (1, .int x1), (2, .int x2), (3, .int x3)] → W p l e (zR 3 65) s m args below meth c H locs 0 0 (zQi (mG D cs ad) q below args s) (F0 m 2 ls []) := by
  intro n
  induction n with
  | zero => intro S x1 x2 x3 H locs ls h; exact absurd h (fun h => by cases h)
  | succ n ih => intro S x1 x2 x3 H locs ls h hW hl; exact w_X12_isLed_0_b2_l (F := F) C (fun S x1 x2 x3 H locs ls h hW hl => ih S x1 x2 x3 H locs ls h hW hl) h hW hl
def n_X12_isLed_0_e (F : Nat)  (S : Zs) (x1 : Int32) (x2 : Int32) : Option (Int32 × Zs) :=
  n_X12_isLed_0_b2 F  S x1 x2 (0 : Int32)
set_option maxRecDepth 20000 in
set_option maxHeartbeats 4000000 in
theorem w_X12_isLed_0_e {F : Nat} {q : (Int32 × Zs)} {S : Zs}  {x1 : Int32} {x2 : Int32} {ls : Array Slot} {H : Heap} {locs : List Loc} (C : zC p s m args meth c cX12_isLed 4 RX12 (some .boolean))  (h : n_X12_isLed_0_e F  S x1 x2 = some q) (hW : zW (mG D cs ad) s S H locs) (hl : lv_has ls 4 [(0, .ref (ad 0)), (1, .int x1), (2, .int x2)]) : W p l e (zR 3 65) s m args below meth c H locs 0 0 (zQi (mG D cs ad) q below args s) (F0 m 0 ls []) := by
  unfold n_X12_isLed_0_e at h
  obtain ⟨hx, hb, hml, hown, hts, hret, hlk⟩ := id C
  refine lv_iconst (v := 0) hx hb dX12_isLed_0 (by decide) ?_
  refine lv_istore_n (lv' := [(3, .int (0 : Int32)), (0, .ref (ad 0)), (1, .int x1), (2, .int x2)]) hx hb dX12_isLed_1 rfl hl (by decide) rfl (fun ls hl => ?_)
  exact w_X12_isLed_0_b2 (F := F) C F _ _ _ _ _ _ _ h hW (lv_sub hl [1, 2, 3, 0] rfl)
def n_X12_isLed_0 (F : Nat) (S : Zs) (x1 : Int32) (x2 : Int32) : Option (Int32 × Zs) := n_X12_isLed_0_e F  S x1 x2
theorem c_X12_isLed_0 {l : Launch} {D : va_G} {cs ad : Nat → Nat} {F : Nat} {S : Zs} {x1 : Int32} {x2 : Int32} {q : (Int32 × Zs)} (h : n_X12_isLed_0 F S x1 x2 = some q) : zMi l yX12_isLed cX12_isLed 4 (some .boolean) (zR 3 65) (mG D cs ad) [.ref (ad 0), .int x1, .int x2] S q :=
  zz_enter (by decide) (Nat.le_of_ble_eq_true rfl) (fun p e s m below meth c ls C hW hl => w_X12_isLed_0_e (F := F) C h hW (lv_sub hl [0, 1, 2] rfl))
def n_X12_goesBy_0_b65 (F : Nat) (rc6 : Zs → Int32 → Int32 → Int32 → Int32 → Int32 → Option (Int32 × Zs)) (rc16 : Zs → Int32 → Int32 → Int32 → Int32 → Int32 → Int32 → Option (Int32 × Zs)) (S : Zs) (x1 : Int32) (x2 : Int32) (x3 : Int32) (x5 : Int32) (x6 : Int32) (t0 : Int32) (t1 : Int32) : Option (Int32 × Zs) :=
  zlet (t1 ||| t0) (fun v1 => zlet (x6 + (1 : Int32)) (fun v2 => rc16 S x1 x2 x3 v1 x5 v2))
set_option maxRecDepth 20000 in
set_option maxHeartbeats 4000000 in
theorem w_X12_goesBy_0_b65 {F : Nat} {q : (Int32 × Zs)} {S : Zs} {rc6 : Zs → Int32 → Int32 → Int32 → Int32 → Int32 → Option (Int32 × Zs)} {rc16 : Zs → Int32 → Int32 → Int32 → Int32 → Int32 → Int32 → Option (Int32 × Zs)} {x1 : Int32} {x2 : Int32} {x3 : Int32} {x5 : Int32} {x6 : Int32} {t0 : Int32} {t1 : Int32} {ls : Array Slot} {H : Heap} {locs : List Loc} (C : zC p s m args meth c cX12_goesBy 7 RX12 (some .int)) (hrc6 : ∀ (S : Zs) (x1 : Int32) (x2 : Int32) (x3 : Int32) (x4 : Int32) (x5 : Int32) (H : Heap) (locs : List Loc) (ls : Array Slot), rc6 S x1 x2 x3 x4 x5 = some q → zW (mG D cs ad) s S H locs → lv_has ls 7 [(0, .ref (ad 0)), (1, .int x1), (2, .int x2), (3, .int x3), (4, .int x4), (5, .int x5)] → W p l e (zR 3 65) s m args below meth c H locs 0 0 (zQi (mG D cs ad) q below args s) (F0 m 6 ls [])) (hrc16 : ∀ (S : Zs) (x1 : Int32) (x2 : Int32) (x3 : Int32) (x4 : Int32) (x5 : Int32) (x6 : Int32) (H : Heap) (locs : List Loc) (ls : Array Slot), rc16 S x1 x2 x3 x4 x5 x6 = some q → zW (mG D cs ad) s S H locs → lv_has ls 7 [(0, .ref (ad 0)), (1, .int x1), (2, .int x2), (3, .int x3), (4, .int x4), (5, .int x5), (6, .int x6)] → W p l e (zR 3 65) s m args below meth c H locs 0 0 (zQi (mG D cs ad) q below args s) (F0 m 16 ls [])) (h : n_X12_goesBy_0_b65 F rc6 rc16 S x1 x2 x3 x5 x6 t0 t1 = some q) (hW : zW (mG D cs ad) s S H locs) (hl : lv_has ls 7 [(0, .ref (ad 0)), (1, .int x1), (2, .int x2), (3, .int x3), (5, .int x5), (6, .int x6)]) : W p l e (zR 3 65) s m args below meth c H locs 0 0 (zQi (mG D cs ad) q below args s) (F0 m 65 ls [.int t0, .int t1]) := by
  unfold n_X12_goesBy_0_b65 at h
  obtain ⟨hx, hb, hml, hown, hts, hret, hlk⟩ := id C
  refine lv_ior hx hb dX12_goesBy_65 ?_
  refine zz_leti h (fun v1 h => ?_)
  refine lv_istore (lv' := [(4, .int v1), (0, .ref (ad 0)), (1, .int x1), (2, .int x2), (3, .int x3), (5, .int x5), (6, .int x6)]) hx hb dX12_goesBy_66 hl (by decide) rfl (fun ls hl => ?_)
  obtain ⟨v2, ev2, h⟩ := zz_name h
  refine lv_iinc (v := v2) (lv' := [(6, .int v2), (4, .int v1), (0, .ref (ad 0)), (1, .int x1), (2, .int x2), (3, .int x3), (5, .int x5)]) hx hb dX12_goesBy_68 hl (k := 6) rfl ev2.symm (by decide) rfl (fun ls hl => ?_)
  refine lv_goto (tgt := 16) hx hb dX12_goesBy_71 (by decide) ?_
  exact hrc16 _ _ _ _ _ _ _ _ _ _ h hW (lv_sub hl [2, 3, 4, 5, 1, 6, 0] rfl)
def n_X12_goesBy_0_b64 (F : Nat) (rc6 : Zs → Int32 → Int32 → Int32 → Int32 → Int32 → Option (Int32 × Zs)) (rc16 : Zs → Int32 → Int32 → Int32 → Int32 → Int32 → Int32 → Option (Int32 × Zs)) (S : Zs) (x1 : Int32) (x2 : Int32) (x3 : Int32) (x5 : Int32) (x6 : Int32) (t0 : Int32) : Option (Int32 × Zs) :=
  n_X12_goesBy_0_b65 F rc6 rc16 S x1 x2 x3 x5 x6 (0 : Int32) t0
set_option maxRecDepth 20000 in
set_option maxHeartbeats 4000000 in
theorem w_X12_goesBy_0_b64 {F : Nat} {q : (Int32 × Zs)} {S : Zs} {rc6 : Zs → Int32 → Int32 → Int32 → Int32 → Int32 → Option (Int32 × Zs)} {rc16 : Zs → Int32 → Int32 → Int32 → Int32 → Int32 → Int32 → Option (Int32 × Zs)} {x1 : Int32} {x2 : Int32} {x3 : Int32} {x5 : Int32} {x6 : Int32} {t0 : Int32} {ls : Array Slot} {H : Heap} {locs : List Loc} (C : zC p s m args meth c cX12_goesBy 7 RX12 (some .int)) (hrc6 : ∀ (S : Zs) (x1 : Int32) (x2 : Int32) (x3 : Int32) (x4 : Int32) (x5 : Int32) (H : Heap) (locs : List Loc) (ls : Array Slot), rc6 S x1 x2 x3 x4 x5 = some q → zW (mG D cs ad) s S H locs → lv_has ls 7 [(0, .ref (ad 0)), (1, .int x1), (2, .int x2), (3, .int x3), (4, .int x4), (5, .int x5)] → W p l e (zR 3 65) s m args below meth c H locs 0 0 (zQi (mG D cs ad) q below args s) (F0 m 6 ls [])) (hrc16 : ∀ (S : Zs) (x1 : Int32) (x2 : Int32) (x3 : Int32) (x4 : Int32) (x5 : Int32) (x6 : Int32) (H : Heap) (locs : List Loc) (ls : Array Slot), rc16 S x1 x2 x3 x4 x5 x6 = some q → zW (mG D cs ad) s S H locs → lv_has ls 7 [(0, .ref (ad 0)), (1, .int x1), (2, .int x2), (3, .int x3), (4, .int x4), (5, .int x5), (6, .int x6)] → W p l e (zR 3 65) s m args below meth c H locs 0 0 (zQi (mG D cs ad) q below args s) (F0 m 16 ls [])) (h : n_X12_goesBy_0_b64 F rc6 rc16 S x1 x2 x3 x5 x6 t0 = some q) (hW : zW (mG D cs ad) s S H locs) (hl : lv_has ls 7 [(0, .ref (ad 0)), (1, .int x1), (2, .int x2), (3, .int x3), (5, .int x5), (6, .int x6)]) : W p l e (zR 3 65) s m args below meth c H locs 0 0 (zQi (mG D cs ad) q below args s) (F0 m 64 ls [.int t0]) := by
  unfold n_X12_goesBy_0_b64 at h
  obtain ⟨hx, hb, hml, hown, hts, hret, hlk⟩ := id C
  refine lv_iconst (v := 0) hx hb dX12_goesBy_64 (by decide) ?_
  exact w_X12_goesBy_0_b65 (F := F) C hrc6 hrc16 h hW (lv_sub hl [0, 1, 2, 3, 4, 5] rfl)
def n_X12_goesBy_0_b16_l (F : Nat) (rc6 : Zs → Int32 → Int32 → Int32 → Int32 → Int32 → Option (Int32 × Zs)) (rc16 : Zs → Int32 → Int32 → Int32 → Int32 → Int32 → Int32 → Option (Int32 × Zs)) (S : Zs) (x1 : Int32) (x2 : Int32) (x3 : Int32) (x4 : Int32) (x5 : Int32) (x6 : Int32) : Option (Int32 × Zs) :=
  if (24 : Int32) ≤ x6 then (zlet (x5 + (1 : Int32)) (fun v1 => rc6 S x1 x2 x3 x4 v1)) else (zcl (n_X12_has F S x2 x5) (fun v3 S2 => if v3 = 0 then (n_X12_goesBy_0_b64 F rc6 rc16 S2 x1 x2 x3 x5 x6 x4) else (zld S2 8 24 x6 (fun v4 => if v4 = x3 then (zcl (n_X12_isStep_0 F S2 x1 x5 x6) (fun v6 S5 => if v6 = 0 then (n_X12_goesBy_0_b64 F rc6 rc16 S5 x1 x2 x3 x5 x6 x4) else (n_X12_goesBy_0_b65 F rc6 rc16 S5 x1 x2 x3 x5 x6 ((1 : Int32) <<< (x6 &&& 31)) x4))) else (n_X12_goesBy_0_b64 F rc6 rc16 S2 x1 x2 x3 x5 x6 x4)))))
set_option maxRecDepth 20000 in
set_option maxHeartbeats 4000000 in
theorem w_X12_goesBy_0_b16_l {F : Nat} {q : (Int32 × Zs)} {S : Zs} {rc6 : Zs → Int32 → Int32 → Int32 → Int32 → Int32 → Option (Int32 × Zs)} {rc16 : Zs → Int32 → Int32 → Int32 → Int32 → Int32 → Int32 → Option (Int32 × Zs)} {x1 : Int32} {x2 : Int32} {x3 : Int32} {x4 : Int32} {x5 : Int32} {x6 : Int32} {ls : Array Slot} {H : Heap} {locs : List Loc} (C : zC p s m args meth c cX12_goesBy 7 RX12 (some .int)) (hrc6 : ∀ (S : Zs) (x1 : Int32) (x2 : Int32) (x3 : Int32) (x4 : Int32) (x5 : Int32) (H : Heap) (locs : List Loc) (ls : Array Slot), rc6 S x1 x2 x3 x4 x5 = some q → zW (mG D cs ad) s S H locs → lv_has ls 7 [(0, .ref (ad 0)), (1, .int x1), (2, .int x2), (3, .int x3), (4, .int x4), (5, .int x5)] → W p l e (zR 3 65) s m args below meth c H locs 0 0 (zQi (mG D cs ad) q below args s) (F0 m 6 ls [])) (hrc16 : ∀ (S : Zs) (x1 : Int32) (x2 : Int32) (x3 : Int32) (x4 : Int32) (x5 : Int32) (x6 : Int32) (H : Heap) (locs : List Loc) (ls : Array Slot), rc16 S x1 x2 x3 x4 x5 x6 = some q → zW (mG D cs ad) s S H locs → lv_has ls 7 [(0, .ref (ad 0)), (1, .int x1), (2, .int x2), (3, .int x3), (4, .int x4), (5, .int x5), (6, .int x6)] → W p l e (zR 3 65) s m args below meth c H locs 0 0 (zQi (mG D cs ad) q below args s) (F0 m 16 ls [])) (h : n_X12_goesBy_0_b16_l F rc6 rc16 S x1 x2 x3 x4 x5 x6 = some q) (hW : zW (mG D cs ad) s S H locs) (hl : lv_has ls 7 [(0, .ref (ad 0)), (1, .int x1), (2, .int x2), (3, .int x3), (4, .int x4), (5, .int x5), (6, .int x6)]) : W p l e (zR 3 65) s m args below meth c H locs 0 0 (zQi (mG D cs ad) q below args s) (F0 m 16 ls []) := by
  unfold n_X12_goesBy_0_b16_l at h
  obtain ⟨hx, hb, hml, hown, hts, hret, hlk⟩ := id C
  refine lv_iload hx hb dX12_goesBy_16 (lv_at hl 6 rfl) ?_
  refine lv_bipush (v := 24) hx hb dX12_goesBy_18 (by decide) ?_
  refine zz_cge (tgt := 74) C h dX12_goesBy_20 (by decide) (fun h => ?_) (fun h => ?_)
  · obtain ⟨v1, ev1, h⟩ := zz_name h
    refine lv_iinc (v := v1) (lv' := [(5, .int v1), (0, .ref (ad 0)), (1, .int x1), (2, .int x2), (3, .int x3), (4, .int x4), (6, .int x6)]) hx hb dX12_goesBy_74 hl (k := 5) rfl ev1.symm (by decide) rfl (fun ls hl => ?_)
    refine lv_goto (tgt := 6) hx hb dX12_goesBy_77 (by decide) ?_
    exact hrc6 _ _ _ _ _ _ _ _ _ h hW (lv_sub hl [1, 2, 3, 4, 5, 0] rfl)
  · refine lv_iload hx hb dX12_goesBy_23 (lv_at hl 4 rfl) ?_
    refine lv_iload_n hx hb dX12_goesBy_25 rfl (lv_at hl 2 rfl) ?_
    refine lv_iload hx hb dX12_goesBy_26 (lv_at hl 5 rfl) ?_
    refine zz_callSi (As := [.int x2, .int x5]) C hW h (fun r hr => c_X12_has hr) lk_X12_129 rfl hl.1 ⟨rfl, rfl⟩ ⟨Nat.le_of_ble_eq_true rfl, Nat.le_of_ble_eq_true rfl⟩ (Nat.le_of_ble_eq_true rfl) ⟨Nat.zero_le _, Nat.zero_le _⟩ rfl dX12_goesBy_28 (fun v3 S2 H locs h hW => ?_)
    refine zz_ieq (tgt := 64) C h dX12_goesBy_31 (by decide) (fun h => ?_) (fun h => ?_)
    · exact w_X12_goesBy_0_b64 (F := F) C hrc6 hrc16 h hW (lv_sub hl [0, 1, 2, 3, 5, 6] rfl)
    · refine lv_aload_n hx hb dX12_goesBy_34 rfl (lv_at hl 0 rfl) ?_
      refine mg_0_21 C hW fl_X12_246 dX12_goesBy_35 ?_
      refine lv_iload hx hb dX12_goesBy_38 (lv_at hl 6 rfl) ?_
      refine ml_8 C hW h dX12_goesBy_40 (fun v4 h => ?_)
      refine lv_iload_n hx hb dX12_goesBy_41 rfl (lv_at hl 3 rfl) ?_
      refine zz_cne (tgt := 64) C h dX12_goesBy_42 (by decide) (fun h => ?_) (fun h => ?_)
      · exact w_X12_goesBy_0_b64 (F := F) C hrc6 hrc16 h hW (lv_sub hl [0, 1, 2, 3, 5, 6] rfl)
      · refine lv_aload_n hx hb dX12_goesBy_45 rfl (lv_at hl 0 rfl) ?_
        refine lv_iload_n hx hb dX12_goesBy_46 rfl (lv_at hl 1 rfl) ?_
        refine lv_iload hx hb dX12_goesBy_47 (lv_at hl 5 rfl) ?_
        refine lv_iload hx hb dX12_goesBy_49 (lv_at hl 6 rfl) ?_
        refine zz_callVi (As := [.int x1, .int x5, .int x6]) C hW h (fun r hr => c_X12_isStep_0 hr) lk_X12_242 (hW.recv mr_0) rfl hl.1 ⟨rfl, rfl⟩ ⟨Nat.le_of_ble_eq_true rfl, Nat.le_of_ble_eq_true rfl⟩ (Nat.le_of_ble_eq_true rfl) ⟨Nat.zero_le _, Nat.zero_le _⟩ rfl dX12_goesBy_51 (fun v6 S5 H locs h hW => ?_)
        refine zz_ieq (tgt := 64) C h dX12_goesBy_54 (by decide) (fun h => ?_) (fun h => ?_)
        · exact w_X12_goesBy_0_b64 (F := F) C hrc6 hrc16 h hW (lv_sub hl [0, 1, 2, 3, 5, 6] rfl)
        · refine lv_iconst (v := 1) hx hb dX12_goesBy_57 (by decide) ?_
          refine lv_iload hx hb dX12_goesBy_58 (lv_at hl 6 rfl) ?_
          refine lv_ishl hx hb dX12_goesBy_60 ?_
          refine lv_goto (tgt := 65) hx hb dX12_goesBy_61 (by decide) ?_
          exact w_X12_goesBy_0_b65 (F := F) C hrc6 hrc16 h hW (lv_sub hl [0, 1, 2, 3, 5, 6] rfl)
def n_X12_goesBy_0_b16 (F : Nat) (rc6 : Zs → Int32 → Int32 → Int32 → Int32 → Int32 → Option (Int32 × Zs)) (S : Zs) (x1 : Int32) (x2 : Int32) (x3 : Int32) (x4 : Int32) (x5 : Int32) (x6 : Int32) : Option (Int32 × Zs) :=
  zfix (fun (rc : (Zs × Int32 × Int32 × Int32 × Int32 × Int32 × Int32) → Option (Int32 × Zs)) (u : (Zs × Int32 × Int32 × Int32 × Int32 × Int32 × Int32)) => n_X12_goesBy_0_b16_l F rc6 (fun S x1 x2 x3 x4 x5 x6 => rc (S, x1, x2, x3, x4, x5, x6)) u.1 u.2.1 u.2.2.1 u.2.2.2.1 u.2.2.2.2.1 u.2.2.2.2.2.1 u.2.2.2.2.2.2) F (S, x1, x2, x3, x4, x5, x6)
theorem w_X12_goesBy_0_b16 {F : Nat} {q : (Int32 × Zs)} {rc6 : Zs → Int32 → Int32 → Int32 → Int32 → Int32 → Option (Int32 × Zs)} (C : zC p s m args meth c cX12_goesBy 7 RX12 (some .int)) (hrc6 : ∀ (S : Zs) (x1 : Int32) (x2 : Int32) (x3 : Int32) (x4 : Int32) (x5 : Int32) (H : Heap) (locs : List Loc) (ls : Array Slot), rc6 S x1 x2 x3 x4 x5 = some q → zW (mG D cs ad) s S H locs → lv_has ls 7 [(0, .ref (ad 0)), (1, .int x1), (2, .int x2), (3, .int x3), (4, .int x4), (5, .int x5)] → W p l e (zR 3 65) s m args below meth c H locs 0 0 (zQi (mG D cs ad) q below args s) (F0 m 6 ls [])) : ∀ (n : Nat) (S : Zs) (x1 : Int32) (x2 : Int32) (x3 : Int32) (x4 : Int32) (x5 : Int32) (x6 : Int32) (H : Heap) (locs : List Loc) (ls : Array Slot), zfix (fun (rc : (Zs × Int32 × Int32 × Int32 × Int32 × Int32 × Int32) → Option (Int32 × Zs)) (u : (Zs × Int32 × Int32 × Int32 × Int32 × Int32 × Int32)) => n_X12_goesBy_0_b16_l F rc6 (fun S x1 x2 x3 x4 x5 x6 => rc (S, x1, x2, x3, x4, x5, x6)) u.1 u.2.1 u.2.2.1 u.2.2.2.1 u.2.2.2.2.1 u.2.2.2.2.2.1 u.2.2.2.2.2.2) n (S, x1, x2, x3, x4, x5, x6) = some q → zW (mG D cs ad) s S H locs → lv_has ls 7 [(0, .ref (ad 0)), (1, .int x1), (2, .int x2), (3, .int x3), (4, .int x4), (5, .int x5), (6, .int x6)] → W p l e (zR 3 65) s m args below meth c H locs 0 0 (zQi (mG D cs ad) q below args s) (F0 m 16 ls []) := by
  intro n
  induction n with
  | zero => intro S x1 x2 x3 x4 x5 x6 H locs ls h; exact absurd h (fun h => by cases h)
  | succ n ih => intro S x1 x2 x3 x4 x5 x6 H locs ls h hW hl; exact w_X12_goesBy_0_b16_l (F := F) C hrc6 (fun S x1 x2 x3 x4 x5 x6 H locs ls h hW hl => ih S x1 x2 x3 x4 x5 x6 H locs ls h hW hl) h hW hl
def n_X12_goesBy_0_b6_l (F : Nat) (rc6 : Zs → Int32 → Int32 → Int32 → Int32 → Int32 → Option (Int32 × Zs)) (S : Zs) (x1 : Int32) (x2 : Int32) (x3 : Int32) (x4 : Int32) (x5 : Int32) : Option (Int32 × Zs) :=
  if (24 : Int32) ≤ x5 then (some (x4, S)) else (n_X12_goesBy_0_b16 F rc6 S x1 x2 x3 x4 x5 (0 : Int32))
set_option maxRecDepth 20000 in
set_option maxHeartbeats 4000000 in
theorem w_X12_goesBy_0_b6_l {F : Nat} {q : (Int32 × Zs)} {S : Zs} {rc6 : Zs → Int32 → Int32 → Int32 → Int32 → Int32 → Option (Int32 × Zs)} {x1 : Int32} {x2 : Int32} {x3 : Int32} {x4 : Int32} {x5 : Int32} {ls : Array Slot} {H : Heap} {locs : List Loc} (C : zC p s m args meth c cX12_goesBy 7 RX12 (some .int)) (hrc6 : ∀ (S : Zs) (x1 : Int32) (x2 : Int32) (x3 : Int32) (x4 : Int32) (x5 : Int32) (H : Heap) (locs : List Loc) (ls : Array Slot), rc6 S x1 x2 x3 x4 x5 = some q → zW (mG D cs ad) s S H locs → lv_has ls 7 [(0, .ref (ad 0)), (1, .int x1), (2, .int x2), (3, .int x3), (4, .int x4), (5, .int x5)] → W p l e (zR 3 65) s m args below meth c H locs 0 0 (zQi (mG D cs ad) q below args s) (F0 m 6 ls [])) (h : n_X12_goesBy_0_b6_l F rc6 S x1 x2 x3 x4 x5 = some q) (hW : zW (mG D cs ad) s S H locs) (hl : lv_has ls 7 [(0, .ref (ad 0)), (1, .int x1), (2, .int x2), (3, .int x3), (4, .int x4), (5, .int x5)]) : W p l e (zR 3 65) s m args below meth c H locs 0 0 (zQi (mG D cs ad) q below args s) (F0 m 6 ls []) := by
  unfold n_X12_goesBy_0_b6_l at h
  obtain ⟨hx, hb, hml, hown, hts, hret, hlk⟩ := id C
  refine lv_iload hx hb dX12_goesBy_6 (lv_at hl 5 rfl) ?_
  refine lv_bipush (v := 24) hx hb dX12_goesBy_8 (by decide) ?_
  refine zz_cge (tgt := 80) C h dX12_goesBy_10 (by decide) (fun h => ?_) (fun h => ?_)
  · refine lv_iload hx hb dX12_goesBy_80 (lv_at hl 4 rfl) ?_
    exact zz_iret C rfl h hW dX12_goesBy_82
  · refine lv_iconst (v := 0) hx hb dX12_goesBy_13 (by decide) ?_
    refine lv_istore (lv' := [(6, .int (0 : Int32)), (0, .ref (ad 0)), (1, .int x1), (2, .int x2), (3, .int x3), (4, .int x4), (5, .int x5)]) hx hb dX12_goesBy_14 hl (by decide) rfl (fun ls hl => ?_)
    exact w_X12_goesBy_0_b16 (F := F) C hrc6 F _ _ _ _ _ _ _ _ _ _ h hW (lv_sub hl [1, 2, 3, 4, 5, 6, 0] rfl)
def n_X12_goesBy_0_b6 (F : Nat)  (S : Zs) (x1 : Int32) (x2 : Int32) (x3 : Int32) (x4 : Int32) (x5 : Int32) : Option (Int32 × Zs) :=
  zfix (fun (rc : (Zs × Int32 × Int32 × Int32 × Int32 × Int32) → Option (Int32 × Zs)) (u : (Zs × Int32 × Int32 × Int32 × Int32 × Int32)) => n_X12_goesBy_0_b6_l F  (fun S x1 x2 x3 x4 x5 => rc (S, x1, x2, x3, x4, x5)) u.1 u.2.1 u.2.2.1 u.2.2.2.1 u.2.2.2.2.1 u.2.2.2.2.2) F (S, x1, x2, x3, x4, x5)
theorem w_X12_goesBy_0_b6 {F : Nat} {q : (Int32 × Zs)}  (C : zC p s m args meth c cX12_goesBy 7 RX12 (some .int))  : ∀ (n : Nat) (S : Zs) (x1 : Int32) (x2 : Int32) (x3 : Int32) (x4 : Int32) (x5 : Int32) (H : Heap) (locs : List Loc) (ls : Array Slot), zfix (fun (rc : (Zs × Int32 × Int32 × Int32 × Int32 × Int32) → Option (Int32 × Zs)) (u : (Zs × Int32 × Int32 × Int32 × Int32 × Int32)) => n_X12_goesBy_0_b6_l F  (fun S x1 x2 x3 x4 x5 => rc (S, x1, x2, x3, x4, x5)) u.1 u.2.1 u.2.2.1 u.2.2.2.1 u.2.2.2.2.1 u.2.2.2.2.2) n (S, x1, x2, x3, x4, x5) = some q → zW (mG D cs ad) s S H locs → lv_has ls 7 [(0, .ref (ad 0)), (1, .int x1), (2, .int x2), (3, .int x3), (4, .int x4), (5, .int x5)] → W p l e (zR 3 65) s m args below meth c H locs 0 0 (zQi (mG D cs ad) q below args s) (F0 m 6 ls []) := by
  intro n
  induction n with
  | zero => intro S x1 x2 x3 x4 x5 H locs ls h; exact absurd h (fun h => by cases h)
  | succ n ih => intro S x1 x2 x3 x4 x5 H locs ls h hW hl; exact w_X12_goesBy_0_b6_l (F := F) C (fun S x1 x2 x3 x4 x5 H locs ls h hW hl => ih S x1 x2 x3 x4 x5 H locs ls h hW hl) h hW hl
def n_X12_goesBy_0_e (F : Nat)  (S : Zs) (x1 : Int32) (x2 : Int32) (x3 : Int32) : Option (Int32 × Zs) :=
  n_X12_goesBy_0_b6 F  S x1 x2 x3 (0 : Int32) (0 : Int32)
set_option maxRecDepth 20000 in
set_option maxHeartbeats 4000000 in
theorem w_X12_goesBy_0_e {F : Nat} {q : (Int32 × Zs)} {S : Zs}  {x1 : Int32} {x2 : Int32} {x3 : Int32} {ls : Array Slot} {H : Heap} {locs : List Loc} (C : zC p s m args meth c cX12_goesBy 7 RX12 (some .int))  (h : n_X12_goesBy_0_e F  S x1 x2 x3 = some q) (hW : zW (mG D cs ad) s S H locs) (hl : lv_has ls 7 [(0, .ref (ad 0)), (1, .int x1), (2, .int x2), (3, .int x3)]) : W p l e (zR 3 65) s m args below meth c H locs 0 0 (zQi (mG D cs ad) q below args s) (F0 m 0 ls []) := by
  unfold n_X12_goesBy_0_e at h
  obtain ⟨hx, hb, hml, hown, hts, hret, hlk⟩ := id C
  refine lv_iconst (v := 0) hx hb dX12_goesBy_0 (by decide) ?_
  refine lv_istore (lv' := [(4, .int (0 : Int32)), (0, .ref (ad 0)), (1, .int x1), (2, .int x2), (3, .int x3)]) hx hb dX12_goesBy_1 hl (by decide) rfl (fun ls hl => ?_)
  refine lv_iconst (v := 0) hx hb dX12_goesBy_3 (by decide) ?_
  refine lv_istore (lv' := [(5, .int (0 : Int32)), (4, .int (0 : Int32)), (0, .ref (ad 0)), (1, .int x1), (2, .int x2), (3, .int x3)]) hx hb dX12_goesBy_4 hl (by decide) rfl (fun ls hl => ?_)
  exact w_X12_goesBy_0_b6 (F := F) C F _ _ _ _ _ _ _ _ _ h hW (lv_sub hl [2, 3, 4, 5, 1, 0] rfl)
def n_X12_goesBy_0 (F : Nat) (S : Zs) (x1 : Int32) (x2 : Int32) (x3 : Int32) : Option (Int32 × Zs) := n_X12_goesBy_0_e F  S x1 x2 x3
theorem c_X12_goesBy_0 {l : Launch} {D : va_G} {cs ad : Nat → Nat} {F : Nat} {S : Zs} {x1 : Int32} {x2 : Int32} {x3 : Int32} {q : (Int32 × Zs)} (h : n_X12_goesBy_0 F S x1 x2 x3 = some q) : zMi l yX12_goesBy cX12_goesBy 7 (some .int) (zR 3 65) (mG D cs ad) [.ref (ad 0), .int x1, .int x2, .int x3] S q :=
  zz_enter (by decide) (Nat.le_of_ble_eq_true rfl) (fun p e s m below meth c ls C hW hl => w_X12_goesBy_0_e (F := F) C h hW (lv_sub hl [0, 1, 2, 3] rfl))
def n_X12_chainsOn_0_b18_l (F : Nat) (rc11 : Zs → Int32 → Int32 → Option (Int32 × Zs)) (rc18 : Zs → Int32 → Int32 → Int32 → Option (Int32 × Zs)) (S : Zs) (x2 : Int32) (x3 : Int32) (x4 : Int32) : Option (Int32 × Zs) :=
  zcl (n_X12_goesBy_0 F S x4 x2 (x3 - (1 : Int32))) (fun v2 S1 => if v2 = 0 then (zlet (x4 + (1 : Int32)) (fun v8 => rc18 S1 x2 x3 v8)) else (zcl (n_X12_enters_0 F S1 x4) (fun v4 S3 => zcl (n_X12_goesBy_0 F S3 x4 x2 (x3 - (1 : Int32))) (fun v6 S5 => zlet (x3 + (-1 : Int32)) (fun v7 => rc11 S5 v6 v7)))))
set_option maxRecDepth 20000 in
set_option maxHeartbeats 4000000 in
theorem w_X12_chainsOn_0_b18_l {F : Nat} {q : (Int32 × Zs)} {S : Zs} {rc11 : Zs → Int32 → Int32 → Option (Int32 × Zs)} {rc18 : Zs → Int32 → Int32 → Int32 → Option (Int32 × Zs)} {x2 : Int32} {x3 : Int32} {x4 : Int32} {ls : Array Slot} {H : Heap} {locs : List Loc} (C : zC p s m args meth c cX12_chainsOn 5 RX12 none) (hrc11 : ∀ (S : Zs) (x2 : Int32) (x3 : Int32) (H : Heap) (locs : List Loc) (ls : Array Slot), rc11 S x2 x3 = some q → zW (mG D cs ad) s S H locs → lv_has ls 5 [(0, .ref (ad 0)), (2, .int x2), (3, .int x3)] → W p l e (zR 4 91) s m args below meth c H locs 0 0 (zQv (mG D cs ad) q below args s) (F0 m 11 ls [])) (hrc18 : ∀ (S : Zs) (x2 : Int32) (x3 : Int32) (x4 : Int32) (H : Heap) (locs : List Loc) (ls : Array Slot), rc18 S x2 x3 x4 = some q → zW (mG D cs ad) s S H locs → lv_has ls 5 [(0, .ref (ad 0)), (2, .int x2), (3, .int x3), (4, .int x4)] → W p l e (zR 4 91) s m args below meth c H locs 0 0 (zQv (mG D cs ad) q below args s) (F0 m 18 ls [])) (h : n_X12_chainsOn_0_b18_l F rc11 rc18 S x2 x3 x4 = some q) (hW : zW (mG D cs ad) s S H locs) (hl : lv_has ls 5 [(0, .ref (ad 0)), (2, .int x2), (3, .int x3), (4, .int x4)]) : W p l e (zR 4 91) s m args below meth c H locs 0 0 (zQv (mG D cs ad) q below args s) (F0 m 18 ls []) := by
  unfold n_X12_chainsOn_0_b18_l at h
  obtain ⟨hx, hb, hml, hown, hts, hret, hlk⟩ := id C
  refine lv_aload_n hx hb dX12_chainsOn_18 rfl (lv_at hl 0 rfl) ?_
  refine lv_iload hx hb dX12_chainsOn_19 (lv_at hl 3 rfl) ?_
  refine lv_iload_n hx hb dX12_chainsOn_21 rfl (lv_at hl 1 rfl) ?_
  refine lv_iload_n hx hb dX12_chainsOn_22 rfl (lv_at hl 2 rfl) ?_
  refine lv_iconst (v := 1) hx hb dX12_chainsOn_23 (by decide) ?_
  refine lv_isub hx hb dX12_chainsOn_24 ?_
  refine zz_callVi (As := [.int x4, .int x2, .int (x3 - (1 : Int32))]) C hW h (fun r hr => c_X12_goesBy_0 hr) lk_X12_256 (hW.recv mr_0) rfl hl.1 ⟨rfl, rfl⟩ ⟨Nat.le_of_ble_eq_true rfl, Nat.le_of_ble_eq_true rfl⟩ (Nat.le_of_ble_eq_true rfl) ⟨Nat.zero_le _, Nat.zero_le _⟩ rfl dX12_chainsOn_25 (fun v2 S1 H locs h hW => ?_)
  refine zz_ine (tgt := 37) C h dX12_chainsOn_28 (by decide) (fun h => ?_) (fun h => ?_)
  · refine lv_aload_n hx hb dX12_chainsOn_37 rfl (lv_at hl 0 rfl) ?_
    refine lv_iload hx hb dX12_chainsOn_38 (lv_at hl 3 rfl) ?_
    refine zz_callVv (As := [.int x4]) C hW h (fun r hr => c_X12_enters_0 hr) lk_X12_221 (hW.recv mr_0) rfl hl.1 ⟨rfl, rfl⟩ ⟨Nat.le_of_ble_eq_true rfl, Nat.le_of_ble_eq_true rfl⟩ (Nat.le_of_ble_eq_true rfl) ⟨Nat.zero_le _, Nat.zero_le _⟩ rfl dX12_chainsOn_40 (fun v4 S3 H locs h hW => ?_)
    refine lv_aload_n hx hb dX12_chainsOn_43 rfl (lv_at hl 0 rfl) ?_
    refine lv_iload hx hb dX12_chainsOn_44 (lv_at hl 3 rfl) ?_
    refine lv_iload_n hx hb dX12_chainsOn_46 rfl (lv_at hl 1 rfl) ?_
    refine lv_iload_n hx hb dX12_chainsOn_47 rfl (lv_at hl 2 rfl) ?_
    refine lv_iconst (v := 1) hx hb dX12_chainsOn_48 (by decide) ?_
    refine lv_isub hx hb dX12_chainsOn_49 ?_
    refine zz_callVi (As := [.int x4, .int x2, .int (x3 - (1 : Int32))]) C hW h (fun r hr => c_X12_goesBy_0 hr) lk_X12_256 (hW.recv mr_0) rfl hl.1 ⟨rfl, rfl⟩ ⟨Nat.le_of_ble_eq_true rfl, Nat.le_of_ble_eq_true rfl⟩ (Nat.le_of_ble_eq_true rfl) ⟨Nat.zero_le _, Nat.zero_le _⟩ rfl dX12_chainsOn_50 (fun v6 S5 H locs h hW => ?_)
    refine lv_istore_n (lv' := [(2, .int v6), (0, .ref (ad 0)), (3, .int x3), (4, .int x4)]) hx hb dX12_chainsOn_53 rfl hl (by decide) rfl (fun ls hl => ?_)
    obtain ⟨v7, ev7, h⟩ := zz_name h
    refine lv_iinc (v := v7) (lv' := [(3, .int v7), (2, .int v6), (0, .ref (ad 0)), (4, .int x4)]) hx hb dX12_chainsOn_54 hl (k := 2) rfl ev7.symm (by decide) rfl (fun ls hl => ?_)
    refine lv_goto (tgt := 11) hx hb dX12_chainsOn_57 (by decide) ?_
    exact hrc11 _ _ _ _ _ _ h hW (lv_sub hl [2, 1, 0] rfl)
  · obtain ⟨v8, ev8, h⟩ := zz_name h
    refine lv_iinc (v := v8) (lv' := [(4, .int v8), (0, .ref (ad 0)), (2, .int x2), (3, .int x3)]) hx hb dX12_chainsOn_31 hl (k := 3) rfl ev8.symm (by decide) rfl (fun ls hl => ?_)
    refine lv_goto (tgt := 18) hx hb dX12_chainsOn_34 (by decide) ?_
    exact hrc18 _ _ _ _ _ _ _ h hW (lv_sub hl [1, 2, 3, 0] rfl)
def n_X12_chainsOn_0_b18 (F : Nat) (rc11 : Zs → Int32 → Int32 → Option (Int32 × Zs)) (S : Zs) (x2 : Int32) (x3 : Int32) (x4 : Int32) : Option (Int32 × Zs) :=
  zfix (fun (rc : (Zs × Int32 × Int32 × Int32) → Option (Int32 × Zs)) (u : (Zs × Int32 × Int32 × Int32)) => n_X12_chainsOn_0_b18_l F rc11 (fun S x2 x3 x4 => rc (S, x2, x3, x4)) u.1 u.2.1 u.2.2.1 u.2.2.2) F (S, x2, x3, x4)
theorem w_X12_chainsOn_0_b18 {F : Nat} {q : (Int32 × Zs)} {rc11 : Zs → Int32 → Int32 → Option (Int32 × Zs)} (C : zC p s m args meth c cX12_chainsOn 5 RX12 none) (hrc11 : ∀ (S : Zs) (x2 : Int32) (x3 : Int32) (H : Heap) (locs : List Loc) (ls : Array Slot), rc11 S x2 x3 = some q → zW (mG D cs ad) s S H locs → lv_has ls 5 [(0, .ref (ad 0)), (2, .int x2), (3, .int x3)] → W p l e (zR 4 91) s m args below meth c H locs 0 0 (zQv (mG D cs ad) q below args s) (F0 m 11 ls [])) : ∀ (n : Nat) (S : Zs) (x2 : Int32) (x3 : Int32) (x4 : Int32) (H : Heap) (locs : List Loc) (ls : Array Slot), zfix (fun (rc : (Zs × Int32 × Int32 × Int32) → Option (Int32 × Zs)) (u : (Zs × Int32 × Int32 × Int32)) => n_X12_chainsOn_0_b18_l F rc11 (fun S x2 x3 x4 => rc (S, x2, x3, x4)) u.1 u.2.1 u.2.2.1 u.2.2.2) n (S, x2, x3, x4) = some q → zW (mG D cs ad) s S H locs → lv_has ls 5 [(0, .ref (ad 0)), (2, .int x2), (3, .int x3), (4, .int x4)] → W p l e (zR 4 91) s m args below meth c H locs 0 0 (zQv (mG D cs ad) q below args s) (F0 m 18 ls []) := by
  intro n
  induction n with
  | zero => intro S x2 x3 x4 H locs ls h; exact absurd h (fun h => by cases h)
  | succ n ih => intro S x2 x3 x4 H locs ls h hW hl; exact w_X12_chainsOn_0_b18_l (F := F) C hrc11 (fun S x2 x3 x4 H locs ls h hW hl => ih S x2 x3 x4 H locs ls h hW hl) h hW hl
def n_X12_chainsOn_0_b11_l (F : Nat) (rc11 : Zs → Int32 → Int32 → Option (Int32 × Zs)) (S : Zs) (x2 : Int32) (x3 : Int32) : Option (Int32 × Zs) :=
  if x3 ≤ 0 then (some (0, S)) else (n_X12_chainsOn_0_b18 F rc11 S x2 x3 (0 : Int32))
set_option maxRecDepth 20000 in
set_option maxHeartbeats 4000000 in
theorem w_X12_chainsOn_0_b11_l {F : Nat} {q : (Int32 × Zs)} {S : Zs} {rc11 : Zs → Int32 → Int32 → Option (Int32 × Zs)} {x2 : Int32} {x3 : Int32} {ls : Array Slot} {H : Heap} {locs : List Loc} (C : zC p s m args meth c cX12_chainsOn 5 RX12 none) (hrc11 : ∀ (S : Zs) (x2 : Int32) (x3 : Int32) (H : Heap) (locs : List Loc) (ls : Array Slot), rc11 S x2 x3 = some q → zW (mG D cs ad) s S H locs → lv_has ls 5 [(0, .ref (ad 0)), (2, .int x2), (3, .int x3)] → W p l e (zR 4 91) s m args below meth c H locs 0 0 (zQv (mG D cs ad) q below args s) (F0 m 11 ls [])) (h : n_X12_chainsOn_0_b11_l F rc11 S x2 x3 = some q) (hW : zW (mG D cs ad) s S H locs) (hl : lv_has ls 5 [(0, .ref (ad 0)), (2, .int x2), (3, .int x3)]) : W p l e (zR 4 91) s m args below meth c H locs 0 0 (zQv (mG D cs ad) q below args s) (F0 m 11 ls []) := by
  unfold n_X12_chainsOn_0_b11_l at h
  obtain ⟨hx, hb, hml, hown, hts, hret, hlk⟩ := id C
  refine lv_iload_n hx hb dX12_chainsOn_11 rfl (lv_at hl 2 rfl) ?_
  refine zz_ile (tgt := 60) C h dX12_chainsOn_12 (by decide) (fun h => ?_) (fun h => ?_)
  · exact zz_vret C rfl h hW dX12_chainsOn_60
  · refine lv_iconst (v := 0) hx hb dX12_chainsOn_15 (by decide) ?_
    refine lv_istore (lv' := [(4, .int (0 : Int32)), (0, .ref (ad 0)), (2, .int x2), (3, .int x3)]) hx hb dX12_chainsOn_16 hl (by decide) rfl (fun ls hl => ?_)
    exact w_X12_chainsOn_0_b18 (F := F) C hrc11 F _ _ _ _ _ _ _ h hW (lv_sub hl [1, 2, 3, 0] rfl)
def n_X12_chainsOn_0_b11 (F : Nat)  (S : Zs) (x2 : Int32) (x3 : Int32) : Option (Int32 × Zs) :=
  zfix (fun (rc : (Zs × Int32 × Int32) → Option (Int32 × Zs)) (u : (Zs × Int32 × Int32)) => n_X12_chainsOn_0_b11_l F  (fun S x2 x3 => rc (S, x2, x3)) u.1 u.2.1 u.2.2) F (S, x2, x3)
theorem w_X12_chainsOn_0_b11 {F : Nat} {q : (Int32 × Zs)}  (C : zC p s m args meth c cX12_chainsOn 5 RX12 none)  : ∀ (n : Nat) (S : Zs) (x2 : Int32) (x3 : Int32) (H : Heap) (locs : List Loc) (ls : Array Slot), zfix (fun (rc : (Zs × Int32 × Int32) → Option (Int32 × Zs)) (u : (Zs × Int32 × Int32)) => n_X12_chainsOn_0_b11_l F  (fun S x2 x3 => rc (S, x2, x3)) u.1 u.2.1 u.2.2) n (S, x2, x3) = some q → zW (mG D cs ad) s S H locs → lv_has ls 5 [(0, .ref (ad 0)), (2, .int x2), (3, .int x3)] → W p l e (zR 4 91) s m args below meth c H locs 0 0 (zQv (mG D cs ad) q below args s) (F0 m 11 ls []) := by
  intro n
  induction n with
  | zero => intro S x2 x3 H locs ls h; exact absurd h (fun h => by cases h)
  | succ n ih => intro S x2 x3 H locs ls h hW hl; exact w_X12_chainsOn_0_b11_l (F := F) C (fun S x2 x3 H locs ls h hW hl => ih S x2 x3 H locs ls h hW hl) h hW hl
def n_X12_chainsOn_0_e (F : Nat)  (S : Zs) (x1 : Int32) : Option (Int32 × Zs) :=
  zlet ((1 : Int32) <<< (x1 &&& 31)) (fun v1 => zld S 8 24 x1 (fun v2 => n_X12_chainsOn_0_b11 F  S v1 v2))
set_option maxRecDepth 20000 in
set_option maxHeartbeats 4000000 in
theorem w_X12_chainsOn_0_e {F : Nat} {q : (Int32 × Zs)} {S : Zs}  {x1 : Int32} {ls : Array Slot} {H : Heap} {locs : List Loc} (C : zC p s m args meth c cX12_chainsOn 5 RX12 none)  (h : n_X12_chainsOn_0_e F  S x1 = some q) (hW : zW (mG D cs ad) s S H locs) (hl : lv_has ls 5 [(0, .ref (ad 0)), (1, .int x1)]) : W p l e (zR 4 91) s m args below meth c H locs 0 0 (zQv (mG D cs ad) q below args s) (F0 m 0 ls []) := by
  unfold n_X12_chainsOn_0_e at h
  obtain ⟨hx, hb, hml, hown, hts, hret, hlk⟩ := id C
  refine lv_iconst (v := 1) hx hb dX12_chainsOn_0 (by decide) ?_
  refine lv_iload_n hx hb dX12_chainsOn_1 rfl (lv_at hl 1 rfl) ?_
  refine lv_ishl hx hb dX12_chainsOn_2 ?_
  refine zz_leti h (fun v1 h => ?_)
  refine lv_istore_n (lv' := [(2, .int v1), (0, .ref (ad 0)), (1, .int x1)]) hx hb dX12_chainsOn_3 rfl hl (by decide) rfl (fun ls hl => ?_)
  refine lv_aload_n hx hb dX12_chainsOn_4 rfl (lv_at hl 1 rfl) ?_
  refine mg_0_21 C hW fl_X12_246 dX12_chainsOn_5 ?_
  refine lv_iload_n hx hb dX12_chainsOn_8 rfl (lv_at hl 2 rfl) ?_
  refine ml_8 C hW h dX12_chainsOn_9 (fun v2 h => ?_)
  refine lv_istore_n (lv' := [(3, .int v2), (2, .int v1), (0, .ref (ad 0)), (1, .int x1)]) hx hb dX12_chainsOn_10 rfl hl (by decide) rfl (fun ls hl => ?_)
  exact w_X12_chainsOn_0_b11 (F := F) C F _ _ _ _ _ _ h hW (lv_sub hl [2, 1, 0] rfl)
def n_X12_chainsOn_0 (F : Nat) (S : Zs) (x1 : Int32) : Option (Int32 × Zs) := n_X12_chainsOn_0_e F  S x1
theorem c_X12_chainsOn_0 {l : Launch} {D : va_G} {cs ad : Nat → Nat} {F : Nat} {S : Zs} {x1 : Int32} {q : (Int32 × Zs)} (h : n_X12_chainsOn_0 F S x1 = some q) : zMv l yX12_chainsOn cX12_chainsOn 5 none (zR 4 91) (mG D cs ad) [.ref (ad 0), .int x1] S q :=
  zz_enter (by decide) (Nat.le_of_ble_eq_true rfl) (fun p e s m below meth c ls C hW hl => w_X12_chainsOn_0_e (F := F) C h hW (lv_sub hl [0, 1] rfl))
def n_X12_chain_0_b19 (F : Nat)  (S : Zs)  : Option (Int32 × Zs) :=
  some ((-1 : Int32), S)
set_option maxRecDepth 20000 in
set_option maxHeartbeats 4000000 in
theorem w_X12_chain_0_b19 {F : Nat} {q : (Int32 × Zs)} {S : Zs}   {ls : Array Slot} {H : Heap} {locs : List Loc} (C : zC p s m args meth c cX12_chain 6 RX12 (some .int))  (h : n_X12_chain_0_b19 F  S  = some q) (hW : zW (mG D cs ad) s S H locs) (hl : lv_has ls 6 []) : W p l e (zR 5 115) s m args below meth c H locs 0 0 (zQi (mG D cs ad) q below args s) (F0 m 19 ls []) := by
  unfold n_X12_chain_0_b19 at h
  obtain ⟨hx, hb, hml, hown, hts, hret, hlk⟩ := id C
  refine lv_iconst (v := -1) hx hb dX12_chain_19 (by decide) ?_
  exact zz_iret C rfl h hW dX12_chain_20
def n_X12_chain_0_b131 (F : Nat) (rc54 : Zs → Int32 → Int32 → Option (Int32 × Zs)) (rc63 : Zs → Int32 → Int32 → Int32 → Option (Int32 × Zs)) (rc73 : Zs → Int32 → Int32 → Int32 → Int32 → Option (Int32 × Zs)) (S : Zs) (x1 : Int32) (x3 : Int32) (x4 : Int32) (x5 : Int32) (t0 : Int32) (t1 : Int32) : Option (Int32 × Zs) :=
  zst S 8 24 t1 t0 (fun S1 => zlet (x5 + (1 : Int32)) (fun v2 => rc73 S1 x1 x3 x4 v2))
set_option maxRecDepth 20000 in
set_option maxHeartbeats 4000000 in
theorem w_X12_chain_0_b131 {F : Nat} {q : (Int32 × Zs)} {S : Zs} {rc54 : Zs → Int32 → Int32 → Option (Int32 × Zs)} {rc63 : Zs → Int32 → Int32 → Int32 → Option (Int32 × Zs)} {rc73 : Zs → Int32 → Int32 → Int32 → Int32 → Option (Int32 × Zs)} {x1 : Int32} {x3 : Int32} {x4 : Int32} {x5 : Int32} {t0 : Int32} {t1 : Int32} {ls : Array Slot} {H : Heap} {locs : List Loc} (C : zC p s m args meth c cX12_chain 6 RX12 (some .int)) (hrc54 : ∀ (S : Zs) (x1 : Int32) (x3 : Int32) (H : Heap) (locs : List Loc) (ls : Array Slot), rc54 S x1 x3 = some q → zW (mG D cs ad) s S H locs → lv_has ls 6 [(0, .ref (ad 0)), (1, .int x1), (3, .int x3)] → W p l e (zR 5 115) s m args below meth c H locs 0 0 (zQi (mG D cs ad) q below args s) (F0 m 54 ls [])) (hrc63 : ∀ (S : Zs) (x1 : Int32) (x3 : Int32) (x4 : Int32) (H : Heap) (locs : List Loc) (ls : Array Slot), rc63 S x1 x3 x4 = some q → zW (mG D cs ad) s S H locs → lv_has ls 6 [(0, .ref (ad 0)), (1, .int x1), (3, .int x3), (4, .int x4)] → W p l e (zR 5 115) s m args below meth c H locs 0 0 (zQi (mG D cs ad) q below args s) (F0 m 63 ls [])) (hrc73 : ∀ (S : Zs) (x1 : Int32) (x3 : Int32) (x4 : Int32) (x5 : Int32) (H : Heap) (locs : List Loc) (ls : Array Slot), rc73 S x1 x3 x4 x5 = some q → zW (mG D cs ad) s S H locs → lv_has ls 6 [(0, .ref (ad 0)), (1, .int x1), (3, .int x3), (4, .int x4), (5, .int x5)] → W p l e (zR 5 115) s m args below meth c H locs 0 0 (zQi (mG D cs ad) q below args s) (F0 m 73 ls [])) (h : n_X12_chain_0_b131 F rc54 rc63 rc73 S x1 x3 x4 x5 t0 t1 = some q) (hW : zW (mG D cs ad) s S H locs) (hl : lv_has ls 6 [(0, .ref (ad 0)), (1, .int x1), (3, .int x3), (4, .int x4), (5, .int x5)]) : W p l e (zR 5 115) s m args below meth c H locs 0 0 (zQi (mG D cs ad) q below args s) (F0 m 131 ls [.int t0, .int t1, .ref (ad 8)]) := by
  unfold n_X12_chain_0_b131 at h
  obtain ⟨hx, hb, hml, hown, hts, hret, hlk⟩ := id C
  refine ms_8 C hW h dX12_chain_131 (fun S1 H locs h hW => ?_)
  obtain ⟨v2, ev2, h⟩ := zz_name h
  refine lv_iinc (v := v2) (lv' := [(5, .int v2), (0, .ref (ad 0)), (1, .int x1), (3, .int x3), (4, .int x4)]) hx hb dX12_chain_132 hl (k := 4) rfl ev2.symm (by decide) rfl (fun ls hl => ?_)
  refine lv_goto (tgt := 73) hx hb dX12_chain_135 (by decide) ?_
  exact hrc73 _ _ _ _ _ _ _ _ h hW (lv_sub hl [1, 2, 3, 4, 0] rfl)
def n_X12_chain_0_b124 (F : Nat) (rc54 : Zs → Int32 → Int32 → Option (Int32 × Zs)) (rc63 : Zs → Int32 → Int32 → Int32 → Option (Int32 × Zs)) (rc73 : Zs → Int32 → Int32 → Int32 → Int32 → Option (Int32 × Zs)) (S : Zs) (x1 : Int32) (x3 : Int32) (x4 : Int32) (x5 : Int32) (t0 : Int32) : Option (Int32 × Zs) :=
  zld S 8 24 x4 (fun v1 => n_X12_chain_0_b131 F rc54 rc63 rc73 S x1 x3 x4 x5 v1 t0)
set_option maxRecDepth 20000 in
set_option maxHeartbeats 4000000 in
theorem w_X12_chain_0_b124 {F : Nat} {q : (Int32 × Zs)} {S : Zs} {rc54 : Zs → Int32 → Int32 → Option (Int32 × Zs)} {rc63 : Zs → Int32 → Int32 → Int32 → Option (Int32 × Zs)} {rc73 : Zs → Int32 → Int32 → Int32 → Int32 → Option (Int32 × Zs)} {x1 : Int32} {x3 : Int32} {x4 : Int32} {x5 : Int32} {t0 : Int32} {ls : Array Slot} {H : Heap} {locs : List Loc} (C : zC p s m args meth c cX12_chain 6 RX12 (some .int)) (hrc54 : ∀ (S : Zs) (x1 : Int32) (x3 : Int32) (H : Heap) (locs : List Loc) (ls : Array Slot), rc54 S x1 x3 = some q → zW (mG D cs ad) s S H locs → lv_has ls 6 [(0, .ref (ad 0)), (1, .int x1), (3, .int x3)] → W p l e (zR 5 115) s m args below meth c H locs 0 0 (zQi (mG D cs ad) q below args s) (F0 m 54 ls [])) (hrc63 : ∀ (S : Zs) (x1 : Int32) (x3 : Int32) (x4 : Int32) (H : Heap) (locs : List Loc) (ls : Array Slot), rc63 S x1 x3 x4 = some q → zW (mG D cs ad) s S H locs → lv_has ls 6 [(0, .ref (ad 0)), (1, .int x1), (3, .int x3), (4, .int x4)] → W p l e (zR 5 115) s m args below meth c H locs 0 0 (zQi (mG D cs ad) q below args s) (F0 m 63 ls [])) (hrc73 : ∀ (S : Zs) (x1 : Int32) (x3 : Int32) (x4 : Int32) (x5 : Int32) (H : Heap) (locs : List Loc) (ls : Array Slot), rc73 S x1 x3 x4 x5 = some q → zW (mG D cs ad) s S H locs → lv_has ls 6 [(0, .ref (ad 0)), (1, .int x1), (3, .int x3), (4, .int x4), (5, .int x5)] → W p l e (zR 5 115) s m args below meth c H locs 0 0 (zQi (mG D cs ad) q below args s) (F0 m 73 ls [])) (h : n_X12_chain_0_b124 F rc54 rc63 rc73 S x1 x3 x4 x5 t0 = some q) (hW : zW (mG D cs ad) s S H locs) (hl : lv_has ls 6 [(0, .ref (ad 0)), (1, .int x1), (3, .int x3), (4, .int x4), (5, .int x5)]) : W p l e (zR 5 115) s m args below meth c H locs 0 0 (zQi (mG D cs ad) q below args s) (F0 m 124 ls [.int t0, .ref (ad 8)]) := by
  unfold n_X12_chain_0_b124 at h
  obtain ⟨hx, hb, hml, hown, hts, hret, hlk⟩ := id C
  refine lv_aload_n hx hb dX12_chain_124 rfl (lv_at hl 0 rfl) ?_
  refine mg_0_21 C hW fl_X12_246 dX12_chain_125 ?_
  refine lv_iload hx hb dX12_chain_128 (lv_at hl 3 rfl) ?_
  refine ml_8 C hW h dX12_chain_130 (fun v1 h => ?_)
  exact w_X12_chain_0_b131 (F := F) C hrc54 hrc63 hrc73 h hW (lv_sub hl [0, 1, 2, 3, 4] rfl)
def n_X12_chain_0_b73_l (F : Nat) (rc54 : Zs → Int32 → Int32 → Option (Int32 × Zs)) (rc63 : Zs → Int32 → Int32 → Int32 → Option (Int32 × Zs)) (rc73 : Zs → Int32 → Int32 → Int32 → Int32 → Option (Int32 × Zs)) (S : Zs) (x1 : Int32) (x3 : Int32) (x4 : Int32) (x5 : Int32) : Option (Int32 × Zs) :=
  if (24 : Int32) ≤ x5 then (zlet (x4 + (1 : Int32)) (fun v1 => rc63 S x1 x3 v1)) else (zld S 8 24 x5 (fun v2 => if v2 = (x3 - (1 : Int32)) then (zcl (n_X12_isLed_0 F S x4 x5) (fun v4 S3 => if v4 = 0 then (n_X12_chain_0_b124 F rc54 rc63 rc73 S3 x1 x3 x4 x5 x4) else (zld S3 8 24 x4 (fun v5 => zlet (if x3 < v5 then x3 else v5) (fun v6 => n_X12_chain_0_b131 F rc54 rc63 rc73 S3 x1 x3 x4 x5 v6 x4))))) else (n_X12_chain_0_b124 F rc54 rc63 rc73 S x1 x3 x4 x5 x4)))
set_option maxRecDepth 20000 in
set_option maxHeartbeats 4000000 in
theorem w_X12_chain_0_b73_l {F : Nat} {q : (Int32 × Zs)} {S : Zs} {rc54 : Zs → Int32 → Int32 → Option (Int32 × Zs)} {rc63 : Zs → Int32 → Int32 → Int32 → Option (Int32 × Zs)} {rc73 : Zs → Int32 → Int32 → Int32 → Int32 → Option (Int32 × Zs)} {x1 : Int32} {x3 : Int32} {x4 : Int32} {x5 : Int32} {ls : Array Slot} {H : Heap} {locs : List Loc} (C : zC p s m args meth c cX12_chain 6 RX12 (some .int)) (hrc54 : ∀ (S : Zs) (x1 : Int32) (x3 : Int32) (H : Heap) (locs : List Loc) (ls : Array Slot), rc54 S x1 x3 = some q → zW (mG D cs ad) s S H locs → lv_has ls 6 [(0, .ref (ad 0)), (1, .int x1), (3, .int x3)] → W p l e (zR 5 115) s m args below meth c H locs 0 0 (zQi (mG D cs ad) q below args s) (F0 m 54 ls [])) (hrc63 : ∀ (S : Zs) (x1 : Int32) (x3 : Int32) (x4 : Int32) (H : Heap) (locs : List Loc) (ls : Array Slot), rc63 S x1 x3 x4 = some q → zW (mG D cs ad) s S H locs → lv_has ls 6 [(0, .ref (ad 0)), (1, .int x1), (3, .int x3), (4, .int x4)] → W p l e (zR 5 115) s m args below meth c H locs 0 0 (zQi (mG D cs ad) q below args s) (F0 m 63 ls [])) (hrc73 : ∀ (S : Zs) (x1 : Int32) (x3 : Int32) (x4 : Int32) (x5 : Int32) (H : Heap) (locs : List Loc) (ls : Array Slot), rc73 S x1 x3 x4 x5 = some q → zW (mG D cs ad) s S H locs → lv_has ls 6 [(0, .ref (ad 0)), (1, .int x1), (3, .int x3), (4, .int x4), (5, .int x5)] → W p l e (zR 5 115) s m args below meth c H locs 0 0 (zQi (mG D cs ad) q below args s) (F0 m 73 ls [])) (h : n_X12_chain_0_b73_l F rc54 rc63 rc73 S x1 x3 x4 x5 = some q) (hW : zW (mG D cs ad) s S H locs) (hl : lv_has ls 6 [(0, .ref (ad 0)), (1, .int x1), (3, .int x3), (4, .int x4), (5, .int x5)]) : W p l e (zR 5 115) s m args below meth c H locs 0 0 (zQi (mG D cs ad) q below args s) (F0 m 73 ls []) := by
  unfold n_X12_chain_0_b73_l at h
  obtain ⟨hx, hb, hml, hown, hts, hret, hlk⟩ := id C
  refine lv_iload hx hb dX12_chain_73 (lv_at hl 4 rfl) ?_
  refine lv_bipush (v := 24) hx hb dX12_chain_75 (by decide) ?_
  refine zz_cge (tgt := 138) C h dX12_chain_77 (by decide) (fun h => ?_) (fun h => ?_)
  · obtain ⟨v1, ev1, h⟩ := zz_name h
    refine lv_iinc (v := v1) (lv' := [(4, .int v1), (0, .ref (ad 0)), (1, .int x1), (3, .int x3), (5, .int x5)]) hx hb dX12_chain_138 hl (k := 3) rfl ev1.symm (by decide) rfl (fun ls hl => ?_)
    refine lv_goto (tgt := 63) hx hb dX12_chain_141 (by decide) ?_
    exact hrc63 _ _ _ _ _ _ _ h hW (lv_sub hl [1, 2, 3, 0] rfl)
  · refine lv_aload_n hx hb dX12_chain_80 rfl (lv_at hl 0 rfl) ?_
    refine mg_0_21 C hW fl_X12_246 dX12_chain_81 ?_
    refine lv_iload hx hb dX12_chain_84 (lv_at hl 3 rfl) ?_
    refine lv_aload_n hx hb dX12_chain_86 rfl (lv_at hl 0 rfl) ?_
    refine mg_0_21 C hW fl_X12_246 dX12_chain_87 ?_
    refine lv_iload hx hb dX12_chain_90 (lv_at hl 4 rfl) ?_
    refine ml_8 C hW h dX12_chain_92 (fun v2 h => ?_)
    refine lv_iload_n hx hb dX12_chain_93 rfl (lv_at hl 2 rfl) ?_
    refine lv_iconst (v := 1) hx hb dX12_chain_94 (by decide) ?_
    refine lv_isub hx hb dX12_chain_95 ?_
    refine zz_cne (tgt := 124) C h dX12_chain_96 (by decide) (fun h => ?_) (fun h => ?_)
    · exact w_X12_chain_0_b124 (F := F) C hrc54 hrc63 hrc73 h hW (lv_sub hl [0, 1, 2, 3, 4] rfl)
    · refine lv_aload_n hx hb dX12_chain_99 rfl (lv_at hl 0 rfl) ?_
      refine lv_iload hx hb dX12_chain_100 (lv_at hl 3 rfl) ?_
      refine lv_iload hx hb dX12_chain_102 (lv_at hl 4 rfl) ?_
      refine zz_callVi (As := [.int x4, .int x5]) C hW h (fun r hr => c_X12_isLed_0 hr) lk_X12_250 (hW.recv mr_0) rfl hl.1 ⟨rfl, rfl⟩ ⟨Nat.le_of_ble_eq_true rfl, Nat.le_of_ble_eq_true rfl⟩ (Nat.le_of_ble_eq_true rfl) ⟨Nat.zero_le _, Nat.zero_le _⟩ rfl dX12_chain_104 (fun v4 S3 H locs h hW => ?_)
      refine zz_ieq (tgt := 124) C h dX12_chain_107 (by decide) (fun h => ?_) (fun h => ?_)
      · exact w_X12_chain_0_b124 (F := F) C hrc54 hrc63 hrc73 h hW (lv_sub hl [0, 1, 2, 3, 4] rfl)
      · refine lv_aload_n hx hb dX12_chain_110 rfl (lv_at hl 0 rfl) ?_
        refine mg_0_21 C hW fl_X12_246 dX12_chain_111 ?_
        refine lv_iload hx hb dX12_chain_114 (lv_at hl 3 rfl) ?_
        refine ml_8 C hW h dX12_chain_116 (fun v5 h => ?_)
        refine lv_iload_n hx hb dX12_chain_117 rfl (lv_at hl 2 rfl) ?_
        refine va_mmin hx hb (hml.trans hl.1.symm) hown (hts _ lkm_X12_43) (hts _ sm_min) (hts _ it_Math) (hts _ cd_min) (Nat.le_of_ble_eq_true rfl) (Nat.le_of_ble_eq_true rfl) (Nat.zero_le _) (Nat.zero_le _) dX12_chain_118 ?_
        refine zz_leti h (fun v6 h => ?_)
        refine lv_goto (tgt := 131) hx hb dX12_chain_121 (by decide) ?_
        exact w_X12_chain_0_b131 (F := F) C hrc54 hrc63 hrc73 h hW (lv_sub hl [0, 1, 2, 3, 4] rfl)
def n_X12_chain_0_b73 (F : Nat) (rc54 : Zs → Int32 → Int32 → Option (Int32 × Zs)) (rc63 : Zs → Int32 → Int32 → Int32 → Option (Int32 × Zs)) (S : Zs) (x1 : Int32) (x3 : Int32) (x4 : Int32) (x5 : Int32) : Option (Int32 × Zs) :=
  zfix (fun (rc : (Zs × Int32 × Int32 × Int32 × Int32) → Option (Int32 × Zs)) (u : (Zs × Int32 × Int32 × Int32 × Int32)) => n_X12_chain_0_b73_l F rc54 rc63 (fun S x1 x3 x4 x5 => rc (S, x1, x3, x4, x5)) u.1 u.2.1 u.2.2.1 u.2.2.2.1 u.2.2.2.2) F (S, x1, x3, x4, x5)
theorem w_X12_chain_0_b73 {F : Nat} {q : (Int32 × Zs)} {rc54 : Zs → Int32 → Int32 → Option (Int32 × Zs)} {rc63 : Zs → Int32 → Int32 → Int32 → Option (Int32 × Zs)} (C : zC p s m args meth c cX12_chain 6 RX12 (some .int)) (hrc54 : ∀ (S : Zs) (x1 : Int32) (x3 : Int32) (H : Heap) (locs : List Loc) (ls : Array Slot), rc54 S x1 x3 = some q → zW (mG D cs ad) s S H locs → lv_has ls 6 [(0, .ref (ad 0)), (1, .int x1), (3, .int x3)] → W p l e (zR 5 115) s m args below meth c H locs 0 0 (zQi (mG D cs ad) q below args s) (F0 m 54 ls [])) (hrc63 : ∀ (S : Zs) (x1 : Int32) (x3 : Int32) (x4 : Int32) (H : Heap) (locs : List Loc) (ls : Array Slot), rc63 S x1 x3 x4 = some q → zW (mG D cs ad) s S H locs → lv_has ls 6 [(0, .ref (ad 0)), (1, .int x1), (3, .int x3), (4, .int x4)] → W p l e (zR 5 115) s m args below meth c H locs 0 0 (zQi (mG D cs ad) q below args s) (F0 m 63 ls [])) : ∀ (n : Nat) (S : Zs) (x1 : Int32) (x3 : Int32) (x4 : Int32) (x5 : Int32) (H : Heap) (locs : List Loc) (ls : Array Slot), zfix (fun (rc : (Zs × Int32 × Int32 × Int32 × Int32) → Option (Int32 × Zs)) (u : (Zs × Int32 × Int32 × Int32 × Int32)) => n_X12_chain_0_b73_l F rc54 rc63 (fun S x1 x3 x4 x5 => rc (S, x1, x3, x4, x5)) u.1 u.2.1 u.2.2.1 u.2.2.2.1 u.2.2.2.2) n (S, x1, x3, x4, x5) = some q → zW (mG D cs ad) s S H locs → lv_has ls 6 [(0, .ref (ad 0)), (1, .int x1), (3, .int x3), (4, .int x4), (5, .int x5)] → W p l e (zR 5 115) s m args below meth c H locs 0 0 (zQi (mG D cs ad) q below args s) (F0 m 73 ls []) := by
  intro n
  induction n with
  | zero => intro S x1 x3 x4 x5 H locs ls h; exact absurd h (fun h => by cases h)
  | succ n ih => intro S x1 x3 x4 x5 H locs ls h hW hl; exact w_X12_chain_0_b73_l (F := F) C hrc54 hrc63 (fun S x1 x3 x4 x5 H locs ls h hW hl => ih S x1 x3 x4 x5 H locs ls h hW hl) h hW hl
def n_X12_chain_0_b63_l (F : Nat) (rc54 : Zs → Int32 → Int32 → Option (Int32 × Zs)) (rc63 : Zs → Int32 → Int32 → Int32 → Option (Int32 × Zs)) (S : Zs) (x1 : Int32) (x3 : Int32) (x4 : Int32) : Option (Int32 × Zs) :=
  if (24 : Int32) ≤ x4 then (zlet (x3 + (1 : Int32)) (fun v1 => rc54 S x1 v1)) else (n_X12_chain_0_b73 F rc54 rc63 S x1 x3 x4 (0 : Int32))
set_option maxRecDepth 20000 in
set_option maxHeartbeats 4000000 in
theorem w_X12_chain_0_b63_l {F : Nat} {q : (Int32 × Zs)} {S : Zs} {rc54 : Zs → Int32 → Int32 → Option (Int32 × Zs)} {rc63 : Zs → Int32 → Int32 → Int32 → Option (Int32 × Zs)} {x1 : Int32} {x3 : Int32} {x4 : Int32} {ls : Array Slot} {H : Heap} {locs : List Loc} (C : zC p s m args meth c cX12_chain 6 RX12 (some .int)) (hrc54 : ∀ (S : Zs) (x1 : Int32) (x3 : Int32) (H : Heap) (locs : List Loc) (ls : Array Slot), rc54 S x1 x3 = some q → zW (mG D cs ad) s S H locs → lv_has ls 6 [(0, .ref (ad 0)), (1, .int x1), (3, .int x3)] → W p l e (zR 5 115) s m args below meth c H locs 0 0 (zQi (mG D cs ad) q below args s) (F0 m 54 ls [])) (hrc63 : ∀ (S : Zs) (x1 : Int32) (x3 : Int32) (x4 : Int32) (H : Heap) (locs : List Loc) (ls : Array Slot), rc63 S x1 x3 x4 = some q → zW (mG D cs ad) s S H locs → lv_has ls 6 [(0, .ref (ad 0)), (1, .int x1), (3, .int x3), (4, .int x4)] → W p l e (zR 5 115) s m args below meth c H locs 0 0 (zQi (mG D cs ad) q below args s) (F0 m 63 ls [])) (h : n_X12_chain_0_b63_l F rc54 rc63 S x1 x3 x4 = some q) (hW : zW (mG D cs ad) s S H locs) (hl : lv_has ls 6 [(0, .ref (ad 0)), (1, .int x1), (3, .int x3), (4, .int x4)]) : W p l e (zR 5 115) s m args below meth c H locs 0 0 (zQi (mG D cs ad) q below args s) (F0 m 63 ls []) := by
  unfold n_X12_chain_0_b63_l at h
  obtain ⟨hx, hb, hml, hown, hts, hret, hlk⟩ := id C
  refine lv_iload hx hb dX12_chain_63 (lv_at hl 3 rfl) ?_
  refine lv_bipush (v := 24) hx hb dX12_chain_65 (by decide) ?_
  refine zz_cge (tgt := 144) C h dX12_chain_67 (by decide) (fun h => ?_) (fun h => ?_)
  · obtain ⟨v1, ev1, h⟩ := zz_name h
    refine lv_iinc (v := v1) (lv' := [(3, .int v1), (0, .ref (ad 0)), (1, .int x1), (4, .int x4)]) hx hb dX12_chain_144 hl (k := 2) rfl ev1.symm (by decide) rfl (fun ls hl => ?_)
    refine lv_goto (tgt := 54) hx hb dX12_chain_147 (by decide) ?_
    exact hrc54 _ _ _ _ _ _ h hW (lv_sub hl [1, 2, 0] rfl)
  · refine lv_iconst (v := 0) hx hb dX12_chain_70 (by decide) ?_
    refine lv_istore (lv' := [(5, .int (0 : Int32)), (0, .ref (ad 0)), (1, .int x1), (3, .int x3), (4, .int x4)]) hx hb dX12_chain_71 hl (by decide) rfl (fun ls hl => ?_)
    exact w_X12_chain_0_b73 (F := F) C hrc54 hrc63 F _ _ _ _ _ _ _ _ h hW (lv_sub hl [1, 2, 3, 4, 0] rfl)
def n_X12_chain_0_b63 (F : Nat) (rc54 : Zs → Int32 → Int32 → Option (Int32 × Zs)) (S : Zs) (x1 : Int32) (x3 : Int32) (x4 : Int32) : Option (Int32 × Zs) :=
  zfix (fun (rc : (Zs × Int32 × Int32 × Int32) → Option (Int32 × Zs)) (u : (Zs × Int32 × Int32 × Int32)) => n_X12_chain_0_b63_l F rc54 (fun S x1 x3 x4 => rc (S, x1, x3, x4)) u.1 u.2.1 u.2.2.1 u.2.2.2) F (S, x1, x3, x4)
theorem w_X12_chain_0_b63 {F : Nat} {q : (Int32 × Zs)} {rc54 : Zs → Int32 → Int32 → Option (Int32 × Zs)} (C : zC p s m args meth c cX12_chain 6 RX12 (some .int)) (hrc54 : ∀ (S : Zs) (x1 : Int32) (x3 : Int32) (H : Heap) (locs : List Loc) (ls : Array Slot), rc54 S x1 x3 = some q → zW (mG D cs ad) s S H locs → lv_has ls 6 [(0, .ref (ad 0)), (1, .int x1), (3, .int x3)] → W p l e (zR 5 115) s m args below meth c H locs 0 0 (zQi (mG D cs ad) q below args s) (F0 m 54 ls [])) : ∀ (n : Nat) (S : Zs) (x1 : Int32) (x3 : Int32) (x4 : Int32) (H : Heap) (locs : List Loc) (ls : Array Slot), zfix (fun (rc : (Zs × Int32 × Int32 × Int32) → Option (Int32 × Zs)) (u : (Zs × Int32 × Int32 × Int32)) => n_X12_chain_0_b63_l F rc54 (fun S x1 x3 x4 => rc (S, x1, x3, x4)) u.1 u.2.1 u.2.2.1 u.2.2.2) n (S, x1, x3, x4) = some q → zW (mG D cs ad) s S H locs → lv_has ls 6 [(0, .ref (ad 0)), (1, .int x1), (3, .int x3), (4, .int x4)] → W p l e (zR 5 115) s m args below meth c H locs 0 0 (zQi (mG D cs ad) q below args s) (F0 m 63 ls []) := by
  intro n
  induction n with
  | zero => intro S x1 x3 x4 H locs ls h; exact absurd h (fun h => by cases h)
  | succ n ih => intro S x1 x3 x4 H locs ls h hW hl; exact w_X12_chain_0_b63_l (F := F) C hrc54 (fun S x1 x3 x4 H locs ls h hW hl => ih S x1 x3 x4 H locs ls h hW hl) h hW hl
def n_X12_chain_0_b54_l (F : Nat) (rc54 : Zs → Int32 → Int32 → Option (Int32 × Zs)) (S : Zs) (x1 : Int32) (x3 : Int32) : Option (Int32 × Zs) :=
  if (24 : Int32) ≤ x3 then (zld S 8 24 x1 (fun v1 => if v1 = (1000000 : Int32) then (some ((-2 : Int32), S)) else (zpf S 1 (0 : Int32) (fun S2 => zcl (n_X12_chainsOn_0 F S2 x1) (fun v4 S3 => zld S3 8 24 x1 (fun v5 => some (v5, S3))))))) else (n_X12_chain_0_b63 F rc54 S x1 x3 (0 : Int32))
set_option maxRecDepth 20000 in
set_option maxHeartbeats 4000000 in
theorem w_X12_chain_0_b54_l {F : Nat} {q : (Int32 × Zs)} {S : Zs} {rc54 : Zs → Int32 → Int32 → Option (Int32 × Zs)} {x1 : Int32} {x3 : Int32} {ls : Array Slot} {H : Heap} {locs : List Loc} (C : zC p s m args meth c cX12_chain 6 RX12 (some .int)) (hrc54 : ∀ (S : Zs) (x1 : Int32) (x3 : Int32) (H : Heap) (locs : List Loc) (ls : Array Slot), rc54 S x1 x3 = some q → zW (mG D cs ad) s S H locs → lv_has ls 6 [(0, .ref (ad 0)), (1, .int x1), (3, .int x3)] → W p l e (zR 5 115) s m args below meth c H locs 0 0 (zQi (mG D cs ad) q below args s) (F0 m 54 ls [])) (h : n_X12_chain_0_b54_l F rc54 S x1 x3 = some q) (hW : zW (mG D cs ad) s S H locs) (hl : lv_has ls 6 [(0, .ref (ad 0)), (1, .int x1), (3, .int x3)]) : W p l e (zR 5 115) s m args below meth c H locs 0 0 (zQi (mG D cs ad) q below args s) (F0 m 54 ls []) := by
  unfold n_X12_chain_0_b54_l at h
  obtain ⟨hx, hb, hml, hown, hts, hret, hlk⟩ := id C
  refine lv_iload_n hx hb dX12_chain_54 rfl (lv_at hl 2 rfl) ?_
  refine lv_bipush (v := 24) hx hb dX12_chain_55 (by decide) ?_
  refine zz_cge (tgt := 150) C h dX12_chain_57 (by decide) (fun h => ?_) (fun h => ?_)
  · refine lv_aload_n hx hb dX12_chain_150 rfl (lv_at hl 0 rfl) ?_
    refine mg_0_21 C hW fl_X12_246 dX12_chain_151 ?_
    refine lv_iload_n hx hb dX12_chain_154 rfl (lv_at hl 1 rfl) ?_
    refine ml_8 C hW h dX12_chain_155 (fun v1 h => ?_)
    refine lv_ldc (v := 1000000) hx hb hown (hts _ ct_X12_249) dX12_chain_156 ?_
    refine zz_cne (tgt := 164) C h dX12_chain_158 (by decide) (fun h => ?_) (fun h => ?_)
    · refine lv_aload_n hx hb dX12_chain_164 rfl (lv_at hl 0 rfl) ?_
      refine lv_iconst (v := 0) hx hb dX12_chain_165 (by decide) ?_
      refine mp_0_1 C hW h fl_X12_11 dX12_chain_166 (fun S2 H locs h hW => ?_)
      refine lv_aload_n hx hb dX12_chain_169 rfl (lv_at hl 0 rfl) ?_
      refine lv_iload_n hx hb dX12_chain_170 rfl (lv_at hl 1 rfl) ?_
      refine zz_callVv (As := [.int x1]) C hW h (fun r hr => c_X12_chainsOn_0 hr) lk_X12_253 (hW.recv mr_0) rfl hl.1 ⟨rfl, rfl⟩ ⟨Nat.le_of_ble_eq_true rfl, Nat.le_of_ble_eq_true rfl⟩ (Nat.le_of_ble_eq_true rfl) ⟨Nat.zero_le _, Nat.zero_le _⟩ rfl dX12_chain_171 (fun v4 S3 H locs h hW => ?_)
      refine lv_aload_n hx hb dX12_chain_174 rfl (lv_at hl 0 rfl) ?_
      refine mg_0_21 C hW fl_X12_246 dX12_chain_175 ?_
      refine lv_iload_n hx hb dX12_chain_178 rfl (lv_at hl 1 rfl) ?_
      refine ml_8 C hW h dX12_chain_179 (fun v5 h => ?_)
      exact zz_iret C rfl h hW dX12_chain_180
    · refine lv_bipush (v := -2) hx hb dX12_chain_161 (by decide) ?_
      exact zz_iret C rfl h hW dX12_chain_163
  · refine lv_iconst (v := 0) hx hb dX12_chain_60 (by decide) ?_
    refine lv_istore (lv' := [(4, .int (0 : Int32)), (0, .ref (ad 0)), (1, .int x1), (3, .int x3)]) hx hb dX12_chain_61 hl (by decide) rfl (fun ls hl => ?_)
    exact w_X12_chain_0_b63 (F := F) C hrc54 F _ _ _ _ _ _ _ h hW (lv_sub hl [1, 2, 3, 0] rfl)
def n_X12_chain_0_b54 (F : Nat)  (S : Zs) (x1 : Int32) (x3 : Int32) : Option (Int32 × Zs) :=
  zfix (fun (rc : (Zs × Int32 × Int32) → Option (Int32 × Zs)) (u : (Zs × Int32 × Int32)) => n_X12_chain_0_b54_l F  (fun S x1 x3 => rc (S, x1, x3)) u.1 u.2.1 u.2.2) F (S, x1, x3)
theorem w_X12_chain_0_b54 {F : Nat} {q : (Int32 × Zs)}  (C : zC p s m args meth c cX12_chain 6 RX12 (some .int))  : ∀ (n : Nat) (S : Zs) (x1 : Int32) (x3 : Int32) (H : Heap) (locs : List Loc) (ls : Array Slot), zfix (fun (rc : (Zs × Int32 × Int32) → Option (Int32 × Zs)) (u : (Zs × Int32 × Int32)) => n_X12_chain_0_b54_l F  (fun S x1 x3 => rc (S, x1, x3)) u.1 u.2.1 u.2.2) n (S, x1, x3) = some q → zW (mG D cs ad) s S H locs → lv_has ls 6 [(0, .ref (ad 0)), (1, .int x1), (3, .int x3)] → W p l e (zR 5 115) s m args below meth c H locs 0 0 (zQi (mG D cs ad) q below args s) (F0 m 54 ls []) := by
  intro n
  induction n with
  | zero => intro S x1 x3 H locs ls h; exact absurd h (fun h => by cases h)
  | succ n ih => intro S x1 x3 H locs ls h hW hl; exact w_X12_chain_0_b54_l (F := F) C (fun S x1 x3 H locs ls h hW hl => ih S x1 x3 H locs ls h hW hl) h hW hl
def n_X12_chain_0_b45 (F : Nat) (rc23 : Zs → Int32 → Int32 → Int32 → Option (Int32 × Zs)) (S : Zs) (x1 : Int32) (x2 : Int32) (x3 : Int32) (t0 : Int32) (t1 : Int32) : Option (Int32 × Zs) :=
  zst S 8 24 t1 t0 (fun S1 => zlet (x3 + (1 : Int32)) (fun v2 => rc23 S1 x1 x2 v2))
set_option maxRecDepth 20000 in
set_option maxHeartbeats 4000000 in
theorem w_X12_chain_0_b45 {F : Nat} {q : (Int32 × Zs)} {S : Zs} {rc23 : Zs → Int32 → Int32 → Int32 → Option (Int32 × Zs)} {x1 : Int32} {x2 : Int32} {x3 : Int32} {t0 : Int32} {t1 : Int32} {ls : Array Slot} {H : Heap} {locs : List Loc} (C : zC p s m args meth c cX12_chain 6 RX12 (some .int)) (hrc23 : ∀ (S : Zs) (x1 : Int32) (x2 : Int32) (x3 : Int32) (H : Heap) (locs : List Loc) (ls : Array Slot), rc23 S x1 x2 x3 = some q → zW (mG D cs ad) s S H locs → lv_has ls 6 [(0, .ref (ad 0)), (1, .int x1), (2, .int x2), (3, .int x3)] → W p l e (zR 5 115) s m args below meth c H locs 0 0 (zQi (mG D cs ad) q below args s) (F0 m 23 ls [])) (h : n_X12_chain_0_b45 F rc23 S x1 x2 x3 t0 t1 = some q) (hW : zW (mG D cs ad) s S H locs) (hl : lv_has ls 6 [(0, .ref (ad 0)), (1, .int x1), (2, .int x2), (3, .int x3)]) : W p l e (zR 5 115) s m args below meth c H locs 0 0 (zQi (mG D cs ad) q below args s) (F0 m 45 ls [.int t0, .int t1, .ref (ad 8)]) := by
  unfold n_X12_chain_0_b45 at h
  obtain ⟨hx, hb, hml, hown, hts, hret, hlk⟩ := id C
  refine ms_8 C hW h dX12_chain_45 (fun S1 H locs h hW => ?_)
  obtain ⟨v2, ev2, h⟩ := zz_name h
  refine lv_iinc (v := v2) (lv' := [(3, .int v2), (0, .ref (ad 0)), (1, .int x1), (2, .int x2)]) hx hb dX12_chain_46 hl (k := 3) rfl ev2.symm (by decide) rfl (fun ls hl => ?_)
  refine lv_goto (tgt := 23) hx hb dX12_chain_49 (by decide) ?_
  exact hrc23 _ _ _ _ _ _ _ h hW (lv_sub hl [1, 2, 3, 0] rfl)
def n_X12_chain_0_b23_l (F : Nat) (rc23 : Zs → Int32 → Int32 → Int32 → Option (Int32 × Zs)) (S : Zs) (x1 : Int32) (x2 : Int32) (x3 : Int32) : Option (Int32 × Zs) :=
  if (24 : Int32) ≤ x3 then (n_X12_chain_0_b54 F  S x1 (1 : Int32)) else (if x3 = x2 then (n_X12_chain_0_b45 F rc23 S x1 x2 x3 (0 : Int32) x3) else (n_X12_chain_0_b45 F rc23 S x1 x2 x3 (1000000 : Int32) x3))
set_option maxRecDepth 20000 in
set_option maxHeartbeats 4000000 in
theorem w_X12_chain_0_b23_l {F : Nat} {q : (Int32 × Zs)} {S : Zs} {rc23 : Zs → Int32 → Int32 → Int32 → Option (Int32 × Zs)} {x1 : Int32} {x2 : Int32} {x3 : Int32} {ls : Array Slot} {H : Heap} {locs : List Loc} (C : zC p s m args meth c cX12_chain 6 RX12 (some .int)) (hrc23 : ∀ (S : Zs) (x1 : Int32) (x2 : Int32) (x3 : Int32) (H : Heap) (locs : List Loc) (ls : Array Slot), rc23 S x1 x2 x3 = some q → zW (mG D cs ad) s S H locs → lv_has ls 6 [(0, .ref (ad 0)), (1, .int x1), (2, .int x2), (3, .int x3)] → W p l e (zR 5 115) s m args below meth c H locs 0 0 (zQi (mG D cs ad) q below args s) (F0 m 23 ls [])) (h : n_X12_chain_0_b23_l F rc23 S x1 x2 x3 = some q) (hW : zW (mG D cs ad) s S H locs) (hl : lv_has ls 6 [(0, .ref (ad 0)), (1, .int x1), (2, .int x2), (3, .int x3)]) : W p l e (zR 5 115) s m args below meth c H locs 0 0 (zQi (mG D cs ad) q below args s) (F0 m 23 ls []) := by
  unfold n_X12_chain_0_b23_l at h
  obtain ⟨hx, hb, hml, hown, hts, hret, hlk⟩ := id C
  refine lv_iload_n hx hb dX12_chain_23 rfl (lv_at hl 3 rfl) ?_
  refine lv_bipush (v := 24) hx hb dX12_chain_24 (by decide) ?_
  refine zz_cge (tgt := 52) C h dX12_chain_26 (by decide) (fun h => ?_) (fun h => ?_)
  · refine lv_iconst (v := 1) hx hb dX12_chain_52 (by decide) ?_
    refine lv_istore_n (lv' := [(3, .int (1 : Int32)), (0, .ref (ad 0)), (1, .int x1), (2, .int x2)]) hx hb dX12_chain_53 rfl hl (by decide) rfl (fun ls hl => ?_)
    exact w_X12_chain_0_b54 (F := F) C F _ _ _ _ _ _ h hW (lv_sub hl [1, 2, 0] rfl)
  · refine lv_aload_n hx hb dX12_chain_29 rfl (lv_at hl 0 rfl) ?_
    refine mg_0_21 C hW fl_X12_246 dX12_chain_30 ?_
    refine lv_iload_n hx hb dX12_chain_33 rfl (lv_at hl 3 rfl) ?_
    refine lv_iload_n hx hb dX12_chain_34 rfl (lv_at hl 3 rfl) ?_
    refine lv_iload_n hx hb dX12_chain_35 rfl (lv_at hl 2 rfl) ?_
    refine zz_cne (tgt := 43) C h dX12_chain_36 (by decide) (fun h => ?_) (fun h => ?_)
    · refine lv_ldc (v := 1000000) hx hb hown (hts _ ct_X12_249) dX12_chain_43 ?_
      exact w_X12_chain_0_b45 (F := F) C hrc23 h hW (lv_sub hl [0, 1, 2, 3] rfl)
    · refine lv_iconst (v := 0) hx hb dX12_chain_39 (by decide) ?_
      refine lv_goto (tgt := 45) hx hb dX12_chain_40 (by decide) ?_
      exact w_X12_chain_0_b45 (F := F) C hrc23 h hW (lv_sub hl [0, 1, 2, 3] rfl)
def n_X12_chain_0_b23 (F : Nat)  (S : Zs) (x1 : Int32) (x2 : Int32) (x3 : Int32) : Option (Int32 × Zs) :=
  zfix (fun (rc : (Zs × Int32 × Int32 × Int32) → Option (Int32 × Zs)) (u : (Zs × Int32 × Int32 × Int32)) => n_X12_chain_0_b23_l F  (fun S x1 x2 x3 => rc (S, x1, x2, x3)) u.1 u.2.1 u.2.2.1 u.2.2.2) F (S, x1, x2, x3)
theorem w_X12_chain_0_b23 {F : Nat} {q : (Int32 × Zs)}  (C : zC p s m args meth c cX12_chain 6 RX12 (some .int))  : ∀ (n : Nat) (S : Zs) (x1 : Int32) (x2 : Int32) (x3 : Int32) (H : Heap) (locs : List Loc) (ls : Array Slot), zfix (fun (rc : (Zs × Int32 × Int32 × Int32) → Option (Int32 × Zs)) (u : (Zs × Int32 × Int32 × Int32)) => n_X12_chain_0_b23_l F  (fun S x1 x2 x3 => rc (S, x1, x2, x3)) u.1 u.2.1 u.2.2.1 u.2.2.2) n (S, x1, x2, x3) = some q → zW (mG D cs ad) s S H locs → lv_has ls 6 [(0, .ref (ad 0)), (1, .int x1), (2, .int x2), (3, .int x3)] → W p l e (zR 5 115) s m args below meth c H locs 0 0 (zQi (mG D cs ad) q below args s) (F0 m 23 ls []) := by
  intro n
  induction n with
  | zero => intro S x1 x2 x3 H locs ls h; exact absurd h (fun h => by cases h)
  | succ n ih => intro S x1 x2 x3 H locs ls h hW hl; exact w_X12_chain_0_b23_l (F := F) C (fun S x1 x2 x3 H locs ls h hW hl => ih S x1 x2 x3 H locs ls h hW hl) h hW hl
def n_X12_chain_0_e (F : Nat)  (S : Zs) (x1 : Int32) (x2 : Int32) : Option (Int32 × Zs) :=
  zpf S 0 (0 : Int32) (fun S1 => zcl (n_X12_isTerm F S1 x1) (fun v3 S2 => if v3 = 0 then (n_X12_chain_0_b19 F  S2 ) else (zcl (n_X12_isTerm F S2 x2) (fun v5 S4 => if v5 = 0 then (n_X12_chain_0_b19 F  S4 ) else (n_X12_chain_0_b23 F  S4 x1 x2 (0 : Int32))))))
set_option maxRecDepth 20000 in
set_option maxHeartbeats 4000000 in
theorem w_X12_chain_0_e {F : Nat} {q : (Int32 × Zs)} {S : Zs}  {x1 : Int32} {x2 : Int32} {ls : Array Slot} {H : Heap} {locs : List Loc} (C : zC p s m args meth c cX12_chain 6 RX12 (some .int))  (h : n_X12_chain_0_e F  S x1 x2 = some q) (hW : zW (mG D cs ad) s S H locs) (hl : lv_has ls 6 [(0, .ref (ad 0)), (1, .int x1), (2, .int x2)]) : W p l e (zR 5 115) s m args below meth c H locs 0 0 (zQi (mG D cs ad) q below args s) (F0 m 0 ls []) := by
  unfold n_X12_chain_0_e at h
  obtain ⟨hx, hb, hml, hown, hts, hret, hlk⟩ := id C
  refine lv_aload_n hx hb dX12_chain_0 rfl (lv_at hl 0 rfl) ?_
  refine lv_iconst (v := 0) hx hb dX12_chain_1 (by decide) ?_
  refine mp_0_0 C hW h fl_X12_3 dX12_chain_2 (fun S1 H locs h hW => ?_)
  refine lv_iload_n hx hb dX12_chain_5 rfl (lv_at hl 1 rfl) ?_
  refine zz_callSi (As := [.int x1]) C hW h (fun r hr => c_X12_isTerm hr) lk_X12_236 rfl hl.1 ⟨rfl, rfl⟩ ⟨Nat.le_of_ble_eq_true rfl, Nat.le_of_ble_eq_true rfl⟩ (Nat.le_of_ble_eq_true rfl) ⟨Nat.zero_le _, Nat.zero_le _⟩ rfl dX12_chain_6 (fun v3 S2 H locs h hW => ?_)
  refine zz_ieq (tgt := 19) C h dX12_chain_9 (by decide) (fun h => ?_) (fun h => ?_)
  · exact w_X12_chain_0_b19 (F := F) C h hW (lv_sub hl [] rfl)
  · refine lv_iload_n hx hb dX12_chain_12 rfl (lv_at hl 2 rfl) ?_
    refine zz_callSi (As := [.int x2]) C hW h (fun r hr => c_X12_isTerm hr) lk_X12_236 rfl hl.1 ⟨rfl, rfl⟩ ⟨Nat.le_of_ble_eq_true rfl, Nat.le_of_ble_eq_true rfl⟩ (Nat.le_of_ble_eq_true rfl) ⟨Nat.zero_le _, Nat.zero_le _⟩ rfl dX12_chain_13 (fun v5 S4 H locs h hW => ?_)
    refine zz_ine (tgt := 21) C h dX12_chain_16 (by decide) (fun h => ?_) (fun h => ?_)
    · refine lv_iconst (v := 0) hx hb dX12_chain_21 (by decide) ?_
      refine lv_istore_n (lv' := [(3, .int (0 : Int32)), (0, .ref (ad 0)), (1, .int x1), (2, .int x2)]) hx hb dX12_chain_22 rfl hl (by decide) rfl (fun ls hl => ?_)
      exact w_X12_chain_0_b23 (F := F) C F _ _ _ _ _ _ _ h hW (lv_sub hl [1, 2, 3, 0] rfl)
    · exact w_X12_chain_0_b19 (F := F) C h hW (lv_sub hl [] rfl)
def n_X12_chain_0 (F : Nat) (S : Zs) (x1 : Int32) (x2 : Int32) : Option (Int32 × Zs) := n_X12_chain_0_e F  S x1 x2
theorem c_X12_chain_0 {l : Launch} {D : va_G} {cs ad : Nat → Nat} {F : Nat} {S : Zs} {x1 : Int32} {x2 : Int32} {q : (Int32 × Zs)} (h : n_X12_chain_0 F S x1 x2 = some q) : zMi l yX12_chain cX12_chain 6 (some .int) (zR 5 115) (mG D cs ad) [.ref (ad 0), .int x1, .int x2] S q :=
  zz_enter (by decide) (Nat.le_of_ble_eq_true rfl) (fun p e s m below meth c ls C hW hl => w_X12_chain_0_e (F := F) C h hW (lv_sub hl [0, 1, 2] rfl))
def n_X12_termsOf_b28 (F : Nat) (rc4 : Zs → Int32 → Int32 → Int32 → Option (Int32 × Zs)) (S : Zs) (x0 : Int32) (x2 : Int32) (t0 : Int32) (t1 : Int32) (t2 : Int32) (t3 : Int32) : Option (Int32 × Zs) :=
  zcl (n_X12_flag F S t0) (fun v2 S1 => zlet (t3 ||| (t2 <<< ((t1 + v2) &&& 31))) (fun v3 => zlet (x2 + (1 : Int32)) (fun v4 => rc4 S1 x0 v3 v4)))
set_option maxRecDepth 20000 in
set_option maxHeartbeats 4000000 in
theorem w_X12_termsOf_b28 {F : Nat} {q : (Int32 × Zs)} {S : Zs} {rc4 : Zs → Int32 → Int32 → Int32 → Option (Int32 × Zs)} {x0 : Int32} {x2 : Int32} {t0 : Int32} {t1 : Int32} {t2 : Int32} {t3 : Int32} {ls : Array Slot} {H : Heap} {locs : List Loc} (C : zC p s m args meth c cX12_termsOf 3 RX12 (some .int)) (hrc4 : ∀ (S : Zs) (x0 : Int32) (x1 : Int32) (x2 : Int32) (H : Heap) (locs : List Loc) (ls : Array Slot), rc4 S x0 x1 x2 = some q → zW (mG D cs ad) s S H locs → lv_has ls 3 [(0, .int x0), (1, .int x1), (2, .int x2)] → W p l e (zR 1 21) s m args below meth c H locs 0 0 (zQi (mG D cs ad) q below args s) (F0 m 4 ls [])) (h : n_X12_termsOf_b28 F rc4 S x0 x2 t0 t1 t2 t3 = some q) (hW : zW (mG D cs ad) s S H locs) (hl : lv_has ls 3 [(0, .int x0), (2, .int x2)]) : W p l e (zR 1 21) s m args below meth c H locs 0 0 (zQi (mG D cs ad) q below args s) (F0 m 28 ls [.int t0, .int t1, .int t2, .int t3]) := by
  unfold n_X12_termsOf_b28 at h
  obtain ⟨hx, hb, hml, hown, hts, hret, hlk⟩ := id C
  refine zz_callSi (As := [.int t0]) C hW h (fun r hr => c_X12_flag hr) lk_X12_52 rfl hl.1 ⟨rfl, rfl⟩ ⟨Nat.le_of_ble_eq_true rfl, Nat.le_of_ble_eq_true rfl⟩ (Nat.le_of_ble_eq_true rfl) ⟨Nat.zero_le _, Nat.zero_le _⟩ rfl dX12_termsOf_28 (fun v2 S1 H locs h hW => ?_)
  refine lv_iadd hx hb dX12_termsOf_31 ?_
  refine lv_ishl hx hb dX12_termsOf_32 ?_
  refine lv_ior hx hb dX12_termsOf_33 ?_
  refine zz_leti h (fun v3 h => ?_)
  refine lv_istore_n (lv' := [(1, .int v3), (0, .int x0), (2, .int x2)]) hx hb dX12_termsOf_34 rfl hl (by decide) rfl (fun ls hl => ?_)
  obtain ⟨v4, ev4, h⟩ := zz_name h
  refine lv_iinc (v := v4) (lv' := [(2, .int v4), (1, .int v3), (0, .int x0)]) hx hb dX12_termsOf_35 hl (k := 2) rfl ev4.symm (by decide) rfl (fun ls hl => ?_)
  refine lv_goto (tgt := 4) hx hb dX12_termsOf_38 (by decide) ?_
  exact hrc4 _ _ _ _ _ _ _ h hW (lv_sub hl [2, 1, 0] rfl)
def n_X12_termsOf_b4_l (F : Nat) (rc4 : Zs → Int32 → Int32 → Int32 → Option (Int32 × Zs)) (S : Zs) (x0 : Int32) (x1 : Int32) (x2 : Int32) : Option (Int32 × Zs) :=
  if (12 : Int32) ≤ x2 then (some (x1, S)) else (zcl (n_X12_has F S x0 x2) (fun v2 S1 => if v2 = 0 then (n_X12_termsOf_b28 F rc4 S1 x0 x2 (1 : Int32) ((2 : Int32) * x2) (1 : Int32) x1) else (n_X12_termsOf_b28 F rc4 S1 x0 x2 (0 : Int32) ((2 : Int32) * x2) (1 : Int32) x1)))
set_option maxRecDepth 20000 in
set_option maxHeartbeats 4000000 in
theorem w_X12_termsOf_b4_l {F : Nat} {q : (Int32 × Zs)} {S : Zs} {rc4 : Zs → Int32 → Int32 → Int32 → Option (Int32 × Zs)} {x0 : Int32} {x1 : Int32} {x2 : Int32} {ls : Array Slot} {H : Heap} {locs : List Loc} (C : zC p s m args meth c cX12_termsOf 3 RX12 (some .int)) (hrc4 : ∀ (S : Zs) (x0 : Int32) (x1 : Int32) (x2 : Int32) (H : Heap) (locs : List Loc) (ls : Array Slot), rc4 S x0 x1 x2 = some q → zW (mG D cs ad) s S H locs → lv_has ls 3 [(0, .int x0), (1, .int x1), (2, .int x2)] → W p l e (zR 1 21) s m args below meth c H locs 0 0 (zQi (mG D cs ad) q below args s) (F0 m 4 ls [])) (h : n_X12_termsOf_b4_l F rc4 S x0 x1 x2 = some q) (hW : zW (mG D cs ad) s S H locs) (hl : lv_has ls 3 [(0, .int x0), (1, .int x1), (2, .int x2)]) : W p l e (zR 1 21) s m args below meth c H locs 0 0 (zQi (mG D cs ad) q below args s) (F0 m 4 ls []) := by
  unfold n_X12_termsOf_b4_l at h
  obtain ⟨hx, hb, hml, hown, hts, hret, hlk⟩ := id C
  refine lv_iload_n hx hb dX12_termsOf_4 rfl (lv_at hl 2 rfl) ?_
  refine lv_bipush (v := 12) hx hb dX12_termsOf_5 (by decide) ?_
  refine zz_cge (tgt := 41) C h dX12_termsOf_7 (by decide) (fun h => ?_) (fun h => ?_)
  · refine lv_iload_n hx hb dX12_termsOf_41 rfl (lv_at hl 1 rfl) ?_
    exact zz_iret C rfl h hW dX12_termsOf_42
  · refine lv_iload_n hx hb dX12_termsOf_10 rfl (lv_at hl 1 rfl) ?_
    refine lv_iconst (v := 1) hx hb dX12_termsOf_11 (by decide) ?_
    refine lv_iconst (v := 2) hx hb dX12_termsOf_12 (by decide) ?_
    refine lv_iload_n hx hb dX12_termsOf_13 rfl (lv_at hl 2 rfl) ?_
    refine lv_imul hx hb dX12_termsOf_14 ?_
    refine lv_iload_n hx hb dX12_termsOf_15 rfl (lv_at hl 0 rfl) ?_
    refine lv_iload_n hx hb dX12_termsOf_16 rfl (lv_at hl 2 rfl) ?_
    refine zz_callSi (As := [.int x0, .int x2]) C hW h (fun r hr => c_X12_has hr) lk_X12_129 rfl hl.1 ⟨rfl, rfl⟩ ⟨Nat.le_of_ble_eq_true rfl, Nat.le_of_ble_eq_true rfl⟩ (Nat.le_of_ble_eq_true rfl) ⟨Nat.zero_le _, Nat.zero_le _⟩ rfl dX12_termsOf_17 (fun v2 S1 H locs h hW => ?_)
    refine zz_ine (tgt := 27) C h dX12_termsOf_20 (by decide) (fun h => ?_) (fun h => ?_)
    · refine lv_iconst (v := 0) hx hb dX12_termsOf_27 (by decide) ?_
      exact w_X12_termsOf_b28 (F := F) C hrc4 h hW (lv_sub hl [0, 2] rfl)
    · refine lv_iconst (v := 1) hx hb dX12_termsOf_23 (by decide) ?_
      refine lv_goto (tgt := 28) hx hb dX12_termsOf_24 (by decide) ?_
      exact w_X12_termsOf_b28 (F := F) C hrc4 h hW (lv_sub hl [0, 2] rfl)
def n_X12_termsOf_b4 (F : Nat)  (S : Zs) (x0 : Int32) (x1 : Int32) (x2 : Int32) : Option (Int32 × Zs) :=
  zfix (fun (rc : (Zs × Int32 × Int32 × Int32) → Option (Int32 × Zs)) (u : (Zs × Int32 × Int32 × Int32)) => n_X12_termsOf_b4_l F  (fun S x0 x1 x2 => rc (S, x0, x1, x2)) u.1 u.2.1 u.2.2.1 u.2.2.2) F (S, x0, x1, x2)
theorem w_X12_termsOf_b4 {F : Nat} {q : (Int32 × Zs)}  (C : zC p s m args meth c cX12_termsOf 3 RX12 (some .int))  : ∀ (n : Nat) (S : Zs) (x0 : Int32) (x1 : Int32) (x2 : Int32) (H : Heap) (locs : List Loc) (ls : Array Slot), zfix (fun (rc : (Zs × Int32 × Int32 × Int32) → Option (Int32 × Zs)) (u : (Zs × Int32 × Int32 × Int32)) => n_X12_termsOf_b4_l F  (fun S x0 x1 x2 => rc (S, x0, x1, x2)) u.1 u.2.1 u.2.2.1 u.2.2.2) n (S, x0, x1, x2) = some q → zW (mG D cs ad) s S H locs → lv_has ls 3 [(0, .int x0), (1, .int x1), (2, .int x2)] → W p l e (zR 1 21) s m args below meth c H locs 0 0 (zQi (mG D cs ad) q below args s) (F0 m 4 ls []) := by
  intro n
  induction n with
  | zero => intro S x0 x1 x2 H locs ls h; exact absurd h (fun h => by cases h)
  | succ n ih => intro S x0 x1 x2 H locs ls h hW hl; exact w_X12_termsOf_b4_l (F := F) C (fun S x0 x1 x2 H locs ls h hW hl => ih S x0 x1 x2 H locs ls h hW hl) h hW hl
def n_X12_termsOf_e (F : Nat)  (S : Zs) (x0 : Int32) : Option (Int32 × Zs) :=
  n_X12_termsOf_b4 F  S x0 (0 : Int32) (0 : Int32)
set_option maxRecDepth 20000 in
set_option maxHeartbeats 4000000 in
theorem w_X12_termsOf_e {F : Nat} {q : (Int32 × Zs)} {S : Zs}  {x0 : Int32} {ls : Array Slot} {H : Heap} {locs : List Loc} (C : zC p s m args meth c cX12_termsOf 3 RX12 (some .int))  (h : n_X12_termsOf_e F  S x0 = some q) (hW : zW (mG D cs ad) s S H locs) (hl : lv_has ls 3 [(0, .int x0)]) : W p l e (zR 1 21) s m args below meth c H locs 0 0 (zQi (mG D cs ad) q below args s) (F0 m 0 ls []) := by
  unfold n_X12_termsOf_e at h
  obtain ⟨hx, hb, hml, hown, hts, hret, hlk⟩ := id C
  refine lv_iconst (v := 0) hx hb dX12_termsOf_0 (by decide) ?_
  refine lv_istore_n (lv' := [(1, .int (0 : Int32)), (0, .int x0)]) hx hb dX12_termsOf_1 rfl hl (by decide) rfl (fun ls hl => ?_)
  refine lv_iconst (v := 0) hx hb dX12_termsOf_2 (by decide) ?_
  refine lv_istore_n (lv' := [(2, .int (0 : Int32)), (1, .int (0 : Int32)), (0, .int x0)]) hx hb dX12_termsOf_3 rfl hl (by decide) rfl (fun ls hl => ?_)
  exact w_X12_termsOf_b4 (F := F) C F _ _ _ _ _ _ _ h hW (lv_sub hl [2, 1, 0] rfl)
def n_X12_termsOf (F : Nat) (S : Zs) (x0 : Int32) : Option (Int32 × Zs) := n_X12_termsOf_e F  S x0
theorem c_X12_termsOf {l : Launch} {D : va_G} {cs ad : Nat → Nat} {F : Nat} {S : Zs} {x0 : Int32} {q : (Int32 × Zs)} (h : n_X12_termsOf F S x0 = some q) : zMi l yX12_termsOf cX12_termsOf 3 (some .int) (zR 1 21) (mG D cs ad) [.int x0] S q :=
  zz_enter (by decide) (Nat.le_of_ble_eq_true rfl) (fun p e s m below meth c ls C hW hl => w_X12_termsOf_e (F := F) C h hW (lv_sub hl [0] rfl))
def n_X12_canBe_0_b36 (F : Nat) (rc7 : Zs → Int32 → Int32 → Option (Int32 × Zs)) (S : Zs) (x2 : Int32) (x3 : Int32) : Option (Int32 × Zs) :=
  zlet (x3 + (1 : Int32)) (fun v1 => rc7 S x2 v1)
set_option maxRecDepth 20000 in
set_option maxHeartbeats 4000000 in
theorem w_X12_canBe_0_b36 {F : Nat} {q : (Int32 × Zs)} {S : Zs} {rc7 : Zs → Int32 → Int32 → Option (Int32 × Zs)} {x2 : Int32} {x3 : Int32} {ls : Array Slot} {H : Heap} {locs : List Loc} (C : zC p s m args meth c cX12_canBe 4 RX12 (some .boolean)) (hrc7 : ∀ (S : Zs) (x2 : Int32) (x3 : Int32) (H : Heap) (locs : List Loc) (ls : Array Slot), rc7 S x2 x3 = some q → zW (mG D cs ad) s S H locs → lv_has ls 4 [(0, .ref (ad 0)), (2, .int x2), (3, .int x3)] → W p l e (zR 2 43) s m args below meth c H locs 0 0 (zQi (mG D cs ad) q below args s) (F0 m 7 ls [])) (h : n_X12_canBe_0_b36 F rc7 S x2 x3 = some q) (hW : zW (mG D cs ad) s S H locs) (hl : lv_has ls 4 [(0, .ref (ad 0)), (2, .int x2), (3, .int x3)]) : W p l e (zR 2 43) s m args below meth c H locs 0 0 (zQi (mG D cs ad) q below args s) (F0 m 36 ls []) := by
  unfold n_X12_canBe_0_b36 at h
  obtain ⟨hx, hb, hml, hown, hts, hret, hlk⟩ := id C
  obtain ⟨v1, ev1, h⟩ := zz_name h
  refine lv_iinc (v := v1) (lv' := [(3, .int v1), (0, .ref (ad 0)), (2, .int x2)]) hx hb dX12_canBe_36 hl (k := 2) rfl ev1.symm (by decide) rfl (fun ls hl => ?_)
  refine lv_goto (tgt := 7) hx hb dX12_canBe_39 (by decide) ?_
  exact hrc7 _ _ _ _ _ _ h hW (lv_sub hl [1, 2, 0] rfl)
def n_X12_canBe_0_b7_l (F : Nat) (rc7 : Zs → Int32 → Int32 → Option (Int32 × Zs)) (S : Zs) (x2 : Int32) (x3 : Int32) : Option (Int32 × Zs) :=
  if (24 : Int32) ≤ x3 then (zrb (1 : Int32) S) else (zcl (n_X12_has F S x2 x3) (fun v2 S1 => if v2 = 0 then (n_X12_canBe_0_b36 F rc7 S1 x2 x3) else (zld S1 7 24 x3 (fun v3 => if (v3 &&& (x2 ^^^ (-1 : Int32))) = 0 then (n_X12_canBe_0_b36 F rc7 S1 x2 x3) else (zrb (0 : Int32) S1)))))
set_option maxRecDepth 20000 in
set_option maxHeartbeats 4000000 in
theorem w_X12_canBe_0_b7_l {F : Nat} {q : (Int32 × Zs)} {S : Zs} {rc7 : Zs → Int32 → Int32 → Option (Int32 × Zs)} {x2 : Int32} {x3 : Int32} {ls : Array Slot} {H : Heap} {locs : List Loc} (C : zC p s m args meth c cX12_canBe 4 RX12 (some .boolean)) (hrc7 : ∀ (S : Zs) (x2 : Int32) (x3 : Int32) (H : Heap) (locs : List Loc) (ls : Array Slot), rc7 S x2 x3 = some q → zW (mG D cs ad) s S H locs → lv_has ls 4 [(0, .ref (ad 0)), (2, .int x2), (3, .int x3)] → W p l e (zR 2 43) s m args below meth c H locs 0 0 (zQi (mG D cs ad) q below args s) (F0 m 7 ls [])) (h : n_X12_canBe_0_b7_l F rc7 S x2 x3 = some q) (hW : zW (mG D cs ad) s S H locs) (hl : lv_has ls 4 [(0, .ref (ad 0)), (2, .int x2), (3, .int x3)]) : W p l e (zR 2 43) s m args below meth c H locs 0 0 (zQi (mG D cs ad) q below args s) (F0 m 7 ls []) := by
  unfold n_X12_canBe_0_b7_l at h
  obtain ⟨hx, hb, hml, hown, hts, hret, hlk⟩ := id C
  refine lv_iload_n hx hb dX12_canBe_7 rfl (lv_at hl 2 rfl) ?_
  refine lv_bipush (v := 24) hx hb dX12_canBe_8 (by decide) ?_
  refine zz_cge (tgt := 42) C h dX12_canBe_10 (by decide) (fun h => ?_) (fun h => ?_)
  · refine lv_iconst (v := 1) hx hb dX12_canBe_42 (by decide) ?_
    exact zz_zret C rfl h hW dX12_canBe_43
  · refine lv_iload_n hx hb dX12_canBe_13 rfl (lv_at hl 1 rfl) ?_
    refine lv_iload_n hx hb dX12_canBe_14 rfl (lv_at hl 2 rfl) ?_
    refine zz_callSi (As := [.int x2, .int x3]) C hW h (fun r hr => c_X12_has hr) lk_X12_129 rfl hl.1 ⟨rfl, rfl⟩ ⟨Nat.le_of_ble_eq_true rfl, Nat.le_of_ble_eq_true rfl⟩ (Nat.le_of_ble_eq_true rfl) ⟨Nat.zero_le _, Nat.zero_le _⟩ rfl dX12_canBe_15 (fun v2 S1 H locs h hW => ?_)
    refine zz_ieq (tgt := 36) C h dX12_canBe_18 (by decide) (fun h => ?_) (fun h => ?_)
    · exact w_X12_canBe_0_b36 (F := F) C hrc7 h hW (lv_sub hl [0, 1, 2] rfl)
    · refine lv_aload_n hx hb dX12_canBe_21 rfl (lv_at hl 0 rfl) ?_
      refine mg_0_19 C hW fl_X12_162 dX12_canBe_22 ?_
      refine lv_iload_n hx hb dX12_canBe_25 rfl (lv_at hl 2 rfl) ?_
      refine ml_7 C hW h dX12_canBe_26 (fun v3 h => ?_)
      refine lv_iload_n hx hb dX12_canBe_27 rfl (lv_at hl 1 rfl) ?_
      refine lv_iconst (v := -1) hx hb dX12_canBe_28 (by decide) ?_
      refine lv_ixor hx hb dX12_canBe_29 ?_
      refine lv_iand hx hb dX12_canBe_30 ?_
      refine zz_ieq (tgt := 36) C h dX12_canBe_31 (by decide) (fun h => ?_) (fun h => ?_)
      · exact w_X12_canBe_0_b36 (F := F) C hrc7 h hW (lv_sub hl [0, 1, 2] rfl)
      · refine lv_iconst (v := 0) hx hb dX12_canBe_34 (by decide) ?_
        exact zz_zret C rfl h hW dX12_canBe_35
def n_X12_canBe_0_b7 (F : Nat)  (S : Zs) (x2 : Int32) (x3 : Int32) : Option (Int32 × Zs) :=
  zfix (fun (rc : (Zs × Int32 × Int32) → Option (Int32 × Zs)) (u : (Zs × Int32 × Int32)) => n_X12_canBe_0_b7_l F  (fun S x2 x3 => rc (S, x2, x3)) u.1 u.2.1 u.2.2) F (S, x2, x3)
theorem w_X12_canBe_0_b7 {F : Nat} {q : (Int32 × Zs)}  (C : zC p s m args meth c cX12_canBe 4 RX12 (some .boolean))  : ∀ (n : Nat) (S : Zs) (x2 : Int32) (x3 : Int32) (H : Heap) (locs : List Loc) (ls : Array Slot), zfix (fun (rc : (Zs × Int32 × Int32) → Option (Int32 × Zs)) (u : (Zs × Int32 × Int32)) => n_X12_canBe_0_b7_l F  (fun S x2 x3 => rc (S, x2, x3)) u.1 u.2.1 u.2.2) n (S, x2, x3) = some q → zW (mG D cs ad) s S H locs → lv_has ls 4 [(0, .ref (ad 0)), (2, .int x2), (3, .int x3)] → W p l e (zR 2 43) s m args below meth c H locs 0 0 (zQi (mG D cs ad) q below args s) (F0 m 7 ls []) := by
  intro n
  induction n with
  | zero => intro S x2 x3 H locs ls h; exact absurd h (fun h => by cases h)
  | succ n ih => intro S x2 x3 H locs ls h hW hl; exact w_X12_canBe_0_b7_l (F := F) C (fun S x2 x3 H locs ls h hW hl => ih S x2 x3 H locs ls h hW hl) h hW hl
def n_X12_canBe_0_e (F : Nat)  (S : Zs) (x1 : Int32) : Option (Int32 × Zs) :=
  zcl (n_X12_termsOf F S x1) (fun v2 S1 => n_X12_canBe_0_b7 F  S1 v2 (0 : Int32))
set_option maxRecDepth 20000 in
set_option maxHeartbeats 4000000 in
theorem w_X12_canBe_0_e {F : Nat} {q : (Int32 × Zs)} {S : Zs}  {x1 : Int32} {ls : Array Slot} {H : Heap} {locs : List Loc} (C : zC p s m args meth c cX12_canBe 4 RX12 (some .boolean))  (h : n_X12_canBe_0_e F  S x1 = some q) (hW : zW (mG D cs ad) s S H locs) (hl : lv_has ls 4 [(0, .ref (ad 0)), (1, .int x1)]) : W p l e (zR 2 43) s m args below meth c H locs 0 0 (zQi (mG D cs ad) q below args s) (F0 m 0 ls []) := by
  unfold n_X12_canBe_0_e at h
  obtain ⟨hx, hb, hml, hown, hts, hret, hlk⟩ := id C
  refine lv_iload_n hx hb dX12_canBe_0 rfl (lv_at hl 1 rfl) ?_
  refine zz_callSi (As := [.int x1]) C hW h (fun r hr => c_X12_termsOf hr) lk_X12_259 rfl hl.1 ⟨rfl, rfl⟩ ⟨Nat.le_of_ble_eq_true rfl, Nat.le_of_ble_eq_true rfl⟩ (Nat.le_of_ble_eq_true rfl) ⟨Nat.zero_le _, Nat.zero_le _⟩ rfl dX12_canBe_1 (fun v2 S1 H locs h hW => ?_)
  refine lv_istore_n (lv' := [(2, .int v2), (0, .ref (ad 0)), (1, .int x1)]) hx hb dX12_canBe_4 rfl hl (by decide) rfl (fun ls hl => ?_)
  refine lv_iconst (v := 0) hx hb dX12_canBe_5 (by decide) ?_
  refine lv_istore_n (lv' := [(3, .int (0 : Int32)), (2, .int v2), (0, .ref (ad 0)), (1, .int x1)]) hx hb dX12_canBe_6 rfl hl (by decide) rfl (fun ls hl => ?_)
  exact w_X12_canBe_0_b7 (F := F) C F _ _ _ _ _ _ h hW (lv_sub hl [2, 1, 0] rfl)
def n_X12_canBe_0 (F : Nat) (S : Zs) (x1 : Int32) : Option (Int32 × Zs) := n_X12_canBe_0_e F  S x1
theorem c_X12_canBe_0 {l : Launch} {D : va_G} {cs ad : Nat → Nat} {F : Nat} {S : Zs} {x1 : Int32} {q : (Int32 × Zs)} (h : n_X12_canBe_0 F S x1 = some q) : zMi l yX12_canBe cX12_canBe 4 (some .boolean) (zR 2 43) (mG D cs ad) [.ref (ad 0), .int x1] S q :=
  zz_enter (by decide) (Nat.le_of_ble_eq_true rfl) (fun p e s m below meth c ls C hW hl => w_X12_canBe_0_e (F := F) C h hW (lv_sub hl [0, 1] rfl))
def n_X12_isOf_b26 (F : Nat)  (S : Zs) (t0 : Int32) : Option (Int32 × Zs) :=
  zrb t0 S
set_option maxRecDepth 20000 in
set_option maxHeartbeats 4000000 in
theorem w_X12_isOf_b26 {F : Nat} {q : (Int32 × Zs)} {S : Zs}  {t0 : Int32} {ls : Array Slot} {H : Heap} {locs : List Loc} (C : zC p s m args meth c cX12_isOf 2 RX12 (some .boolean))  (h : n_X12_isOf_b26 F  S t0 = some q) (hW : zW (mG D cs ad) s S H locs) (hl : lv_has ls 2 []) : W p l e (zR 1 21) s m args below meth c H locs 0 0 (zQi (mG D cs ad) q below args s) (F0 m 26 ls [.int t0]) := by
  unfold n_X12_isOf_b26 at h
  obtain ⟨hx, hb, hml, hown, hts, hret, hlk⟩ := id C
  exact zz_zret C rfl h hW dX12_isOf_26
def n_X12_isOf_b18 (F : Nat)  (S : Zs) (t0 : Int32) (t1 : Int32) : Option (Int32 × Zs) :=
  if t1 = t0 then (n_X12_isOf_b26 F  S (1 : Int32)) else (n_X12_isOf_b26 F  S (0 : Int32))
set_option maxRecDepth 20000 in
set_option maxHeartbeats 4000000 in
theorem w_X12_isOf_b18 {F : Nat} {q : (Int32 × Zs)} {S : Zs}  {t0 : Int32} {t1 : Int32} {ls : Array Slot} {H : Heap} {locs : List Loc} (C : zC p s m args meth c cX12_isOf 2 RX12 (some .boolean))  (h : n_X12_isOf_b18 F  S t0 t1 = some q) (hW : zW (mG D cs ad) s S H locs) (hl : lv_has ls 2 []) : W p l e (zR 1 21) s m args below meth c H locs 0 0 (zQi (mG D cs ad) q below args s) (F0 m 18 ls [.int t0, .int t1]) := by
  unfold n_X12_isOf_b18 at h
  obtain ⟨hx, hb, hml, hown, hts, hret, hlk⟩ := id C
  refine zz_cne (tgt := 25) C h dX12_isOf_18 (by decide) (fun h => ?_) (fun h => ?_)
  · refine lv_iconst (v := 0) hx hb dX12_isOf_25 (by decide) ?_
    exact w_X12_isOf_b26 (F := F) C h hW (lv_sub hl [] rfl)
  · refine lv_iconst (v := 1) hx hb dX12_isOf_21 (by decide) ?_
    refine lv_goto (tgt := 26) hx hb dX12_isOf_22 (by decide) ?_
    exact w_X12_isOf_b26 (F := F) C h hW (lv_sub hl [] rfl)
def n_X12_isOf_e (F : Nat)  (S : Zs) (x0 : Int32) (x1 : Int32) : Option (Int32 × Zs) :=
  zcl (n_X12_has F S x0 (x1 / (2 : Int32))) (fun v2 S1 => if (x1 - x1 / (2 : Int32) * (2 : Int32)) = 0 then (n_X12_isOf_b18 F  S1 (1 : Int32) v2) else (n_X12_isOf_b18 F  S1 (0 : Int32) v2))
set_option maxRecDepth 20000 in
set_option maxHeartbeats 4000000 in
theorem w_X12_isOf_e {F : Nat} {q : (Int32 × Zs)} {S : Zs}  {x0 : Int32} {x1 : Int32} {ls : Array Slot} {H : Heap} {locs : List Loc} (C : zC p s m args meth c cX12_isOf 2 RX12 (some .boolean))  (h : n_X12_isOf_e F  S x0 x1 = some q) (hW : zW (mG D cs ad) s S H locs) (hl : lv_has ls 2 [(0, .int x0), (1, .int x1)]) : W p l e (zR 1 21) s m args below meth c H locs 0 0 (zQi (mG D cs ad) q below args s) (F0 m 0 ls []) := by
  unfold n_X12_isOf_e at h
  obtain ⟨hx, hb, hml, hown, hts, hret, hlk⟩ := id C
  refine lv_iload_n hx hb dX12_isOf_0 rfl (lv_at hl 0 rfl) ?_
  refine lv_iload_n hx hb dX12_isOf_1 rfl (lv_at hl 1 rfl) ?_
  refine lv_iconst (v := 2) hx hb dX12_isOf_2 (by decide) ?_
  refine lv_idiv hx hb dX12_isOf_3 (by decide) ?_
  refine zz_callSi (As := [.int x0, .int (x1 / (2 : Int32))]) C hW h (fun r hr => c_X12_has hr) lk_X12_129 rfl hl.1 ⟨rfl, rfl⟩ ⟨Nat.le_of_ble_eq_true rfl, Nat.le_of_ble_eq_true rfl⟩ (Nat.le_of_ble_eq_true rfl) ⟨Nat.zero_le _, Nat.zero_le _⟩ rfl dX12_isOf_4 (fun v2 S1 H locs h hW => ?_)
  refine lv_iload_n hx hb dX12_isOf_7 rfl (lv_at hl 1 rfl) ?_
  refine lv_iconst (v := 2) hx hb dX12_isOf_8 (by decide) ?_
  refine lv_irem hx hb dX12_isOf_9 (by decide) ?_
  refine zz_ine (tgt := 17) C h dX12_isOf_10 (by decide) (fun h => ?_) (fun h => ?_)
  · refine lv_iconst (v := 0) hx hb dX12_isOf_17 (by decide) ?_
    exact w_X12_isOf_b18 (F := F) C h hW (lv_sub hl [] rfl)
  · refine lv_iconst (v := 1) hx hb dX12_isOf_13 (by decide) ?_
    refine lv_goto (tgt := 18) hx hb dX12_isOf_14 (by decide) ?_
    exact w_X12_isOf_b18 (F := F) C h hW (lv_sub hl [] rfl)
def n_X12_isOf (F : Nat) (S : Zs) (x0 : Int32) (x1 : Int32) : Option (Int32 × Zs) := n_X12_isOf_e F  S x0 x1
theorem c_X12_isOf {l : Launch} {D : va_G} {cs ad : Nat → Nat} {F : Nat} {S : Zs} {x0 : Int32} {x1 : Int32} {q : (Int32 × Zs)} (h : n_X12_isOf F S x0 x1 = some q) : zMi l yX12_isOf cX12_isOf 2 (some .boolean) (zR 1 21) (mG D cs ad) [.int x0, .int x1] S q :=
  zz_enter (by decide) (Nat.le_of_ble_eq_true rfl) (fun p e s m below meth c ls C hW hl => w_X12_isOf_e (F := F) C h hW (lv_sub hl [0, 1] rfl))
def n_X12_countsBoth_0_b50 (F : Nat) (rc9 : Zs → Int32 → Int32 → Int32 → Int32 → Option (Int32 × Zs)) (S : Zs) (x1 : Int32) (x2 : Int32) (x4 : Int32) (t0 : Int32) (t1 : Int32) : Option (Int32 × Zs) :=
  zcl (n_X12_flag F S t0) (fun v2 S1 => zlet (t1 + v2) (fun v3 => zlet (x4 + (1 : Int32)) (fun v4 => rc9 S1 x1 x2 v3 v4)))
set_option maxRecDepth 20000 in
set_option maxHeartbeats 4000000 in
theorem w_X12_countsBoth_0_b50 {F : Nat} {q : (Int32 × Zs)} {S : Zs} {rc9 : Zs → Int32 → Int32 → Int32 → Int32 → Option (Int32 × Zs)} {x1 : Int32} {x2 : Int32} {x4 : Int32} {t0 : Int32} {t1 : Int32} {ls : Array Slot} {H : Heap} {locs : List Loc} (C : zC p s m args meth c cX12_countsBoth 5 RX12 (some .int)) (hrc9 : ∀ (S : Zs) (x1 : Int32) (x2 : Int32) (x3 : Int32) (x4 : Int32) (H : Heap) (locs : List Loc) (ls : Array Slot), rc9 S x1 x2 x3 x4 = some q → zW (mG D cs ad) s S H locs → lv_has ls 5 [(0, .ref (ad 0)), (1, .int x1), (2, .int x2), (3, .int x3), (4, .int x4)] → W p l e (zR 4 82) s m args below meth c H locs 0 0 (zQi (mG D cs ad) q below args s) (F0 m 9 ls [])) (h : n_X12_countsBoth_0_b50 F rc9 S x1 x2 x4 t0 t1 = some q) (hW : zW (mG D cs ad) s S H locs) (hl : lv_has ls 5 [(0, .ref (ad 0)), (1, .int x1), (2, .int x2), (4, .int x4)]) : W p l e (zR 4 82) s m args below meth c H locs 0 0 (zQi (mG D cs ad) q below args s) (F0 m 50 ls [.int t0, .int t1]) := by
  unfold n_X12_countsBoth_0_b50 at h
  obtain ⟨hx, hb, hml, hown, hts, hret, hlk⟩ := id C
  refine zz_callSi (As := [.int t0]) C hW h (fun r hr => c_X12_flag hr) lk_X12_52 rfl hl.1 ⟨rfl, rfl⟩ ⟨Nat.le_of_ble_eq_true rfl, Nat.le_of_ble_eq_true rfl⟩ (Nat.le_of_ble_eq_true rfl) ⟨Nat.zero_le _, Nat.zero_le _⟩ rfl dX12_countsBoth_50 (fun v2 S1 H locs h hW => ?_)
  refine lv_iadd hx hb dX12_countsBoth_53 ?_
  refine zz_leti h (fun v3 h => ?_)
  refine lv_istore_n (lv' := [(3, .int v3), (0, .ref (ad 0)), (1, .int x1), (2, .int x2), (4, .int x4)]) hx hb dX12_countsBoth_54 rfl hl (by decide) rfl (fun ls hl => ?_)
  obtain ⟨v4, ev4, h⟩ := zz_name h
  refine lv_iinc (v := v4) (lv' := [(4, .int v4), (3, .int v3), (0, .ref (ad 0)), (1, .int x1), (2, .int x2)]) hx hb dX12_countsBoth_55 hl (k := 4) rfl ev4.symm (by decide) rfl (fun ls hl => ?_)
  refine lv_goto (tgt := 9) hx hb dX12_countsBoth_58 (by decide) ?_
  exact hrc9 _ _ _ _ _ _ _ _ h hW (lv_sub hl [2, 3, 4, 1, 0] rfl)
def n_X12_countsBoth_0_b49 (F : Nat) (rc9 : Zs → Int32 → Int32 → Int32 → Int32 → Option (Int32 × Zs)) (S : Zs) (x1 : Int32) (x2 : Int32) (x4 : Int32) (t0 : Int32) : Option (Int32 × Zs) :=
  n_X12_countsBoth_0_b50 F rc9 S x1 x2 x4 (0 : Int32) t0
set_option maxRecDepth 20000 in
set_option maxHeartbeats 4000000 in
theorem w_X12_countsBoth_0_b49 {F : Nat} {q : (Int32 × Zs)} {S : Zs} {rc9 : Zs → Int32 → Int32 → Int32 → Int32 → Option (Int32 × Zs)} {x1 : Int32} {x2 : Int32} {x4 : Int32} {t0 : Int32} {ls : Array Slot} {H : Heap} {locs : List Loc} (C : zC p s m args meth c cX12_countsBoth 5 RX12 (some .int)) (hrc9 : ∀ (S : Zs) (x1 : Int32) (x2 : Int32) (x3 : Int32) (x4 : Int32) (H : Heap) (locs : List Loc) (ls : Array Slot), rc9 S x1 x2 x3 x4 = some q → zW (mG D cs ad) s S H locs → lv_has ls 5 [(0, .ref (ad 0)), (1, .int x1), (2, .int x2), (3, .int x3), (4, .int x4)] → W p l e (zR 4 82) s m args below meth c H locs 0 0 (zQi (mG D cs ad) q below args s) (F0 m 9 ls [])) (h : n_X12_countsBoth_0_b49 F rc9 S x1 x2 x4 t0 = some q) (hW : zW (mG D cs ad) s S H locs) (hl : lv_has ls 5 [(0, .ref (ad 0)), (1, .int x1), (2, .int x2), (4, .int x4)]) : W p l e (zR 4 82) s m args below meth c H locs 0 0 (zQi (mG D cs ad) q below args s) (F0 m 49 ls [.int t0]) := by
  unfold n_X12_countsBoth_0_b49 at h
  obtain ⟨hx, hb, hml, hown, hts, hret, hlk⟩ := id C
  refine lv_iconst (v := 0) hx hb dX12_countsBoth_49 (by decide) ?_
  exact w_X12_countsBoth_0_b50 (F := F) C hrc9 h hW (lv_sub hl [0, 1, 2, 3] rfl)
def n_X12_countsBoth_0_b9_l (F : Nat) (rc9 : Zs → Int32 → Int32 → Int32 → Int32 → Option (Int32 × Zs)) (S : Zs) (x1 : Int32) (x2 : Int32) (x3 : Int32) (x4 : Int32) : Option (Int32 × Zs) :=
  if (4096 : Int32) ≤ x4 then (some (x3, S)) else (zcl (n_X12_isOf F S x4 x1) (fun v2 S1 => if v2 = 0 then (n_X12_countsBoth_0_b49 F rc9 S1 x1 x2 x4 x3) else (zcl (n_X12_isOf F S1 x4 x2) (fun v4 S3 => if v4 = 0 then (n_X12_countsBoth_0_b49 F rc9 S3 x1 x2 x4 x3) else (zcl (n_X12_canBe_0 F S3 x4) (fun v6 S5 => if v6 = 0 then (n_X12_countsBoth_0_b49 F rc9 S5 x1 x2 x4 x3) else (n_X12_countsBoth_0_b50 F rc9 S5 x1 x2 x4 (1 : Int32) x3)))))))
set_option maxRecDepth 20000 in
set_option maxHeartbeats 4000000 in
theorem w_X12_countsBoth_0_b9_l {F : Nat} {q : (Int32 × Zs)} {S : Zs} {rc9 : Zs → Int32 → Int32 → Int32 → Int32 → Option (Int32 × Zs)} {x1 : Int32} {x2 : Int32} {x3 : Int32} {x4 : Int32} {ls : Array Slot} {H : Heap} {locs : List Loc} (C : zC p s m args meth c cX12_countsBoth 5 RX12 (some .int)) (hrc9 : ∀ (S : Zs) (x1 : Int32) (x2 : Int32) (x3 : Int32) (x4 : Int32) (H : Heap) (locs : List Loc) (ls : Array Slot), rc9 S x1 x2 x3 x4 = some q → zW (mG D cs ad) s S H locs → lv_has ls 5 [(0, .ref (ad 0)), (1, .int x1), (2, .int x2), (3, .int x3), (4, .int x4)] → W p l e (zR 4 82) s m args below meth c H locs 0 0 (zQi (mG D cs ad) q below args s) (F0 m 9 ls [])) (h : n_X12_countsBoth_0_b9_l F rc9 S x1 x2 x3 x4 = some q) (hW : zW (mG D cs ad) s S H locs) (hl : lv_has ls 5 [(0, .ref (ad 0)), (1, .int x1), (2, .int x2), (3, .int x3), (4, .int x4)]) : W p l e (zR 4 82) s m args below meth c H locs 0 0 (zQi (mG D cs ad) q below args s) (F0 m 9 ls []) := by
  unfold n_X12_countsBoth_0_b9_l at h
  obtain ⟨hx, hb, hml, hown, hts, hret, hlk⟩ := id C
  refine lv_iload hx hb dX12_countsBoth_9 (lv_at hl 4 rfl) ?_
  refine lv_sipush (v := 4096) hx hb dX12_countsBoth_11 (by decide) ?_
  refine zz_cge (tgt := 61) C h dX12_countsBoth_14 (by decide) (fun h => ?_) (fun h => ?_)
  · refine lv_iload_n hx hb dX12_countsBoth_61 rfl (lv_at hl 3 rfl) ?_
    exact zz_iret C rfl h hW dX12_countsBoth_62
  · refine lv_iload_n hx hb dX12_countsBoth_17 rfl (lv_at hl 3 rfl) ?_
    refine lv_iload hx hb dX12_countsBoth_18 (lv_at hl 4 rfl) ?_
    refine lv_iload_n hx hb dX12_countsBoth_20 rfl (lv_at hl 1 rfl) ?_
    refine zz_callSi (As := [.int x4, .int x1]) C hW h (fun r hr => c_X12_isOf hr) lk_X12_262 rfl hl.1 ⟨rfl, rfl⟩ ⟨Nat.le_of_ble_eq_true rfl, Nat.le_of_ble_eq_true rfl⟩ (Nat.le_of_ble_eq_true rfl) ⟨Nat.zero_le _, Nat.zero_le _⟩ rfl dX12_countsBoth_21 (fun v2 S1 H locs h hW => ?_)
    refine zz_ieq (tgt := 49) C h dX12_countsBoth_24 (by decide) (fun h => ?_) (fun h => ?_)
    · exact w_X12_countsBoth_0_b49 (F := F) C hrc9 h hW (lv_sub hl [0, 1, 2, 4] rfl)
    · refine lv_iload hx hb dX12_countsBoth_27 (lv_at hl 4 rfl) ?_
      refine lv_iload_n hx hb dX12_countsBoth_29 rfl (lv_at hl 2 rfl) ?_
      refine zz_callSi (As := [.int x4, .int x2]) C hW h (fun r hr => c_X12_isOf hr) lk_X12_262 rfl hl.1 ⟨rfl, rfl⟩ ⟨Nat.le_of_ble_eq_true rfl, Nat.le_of_ble_eq_true rfl⟩ (Nat.le_of_ble_eq_true rfl) ⟨Nat.zero_le _, Nat.zero_le _⟩ rfl dX12_countsBoth_30 (fun v4 S3 H locs h hW => ?_)
      refine zz_ieq (tgt := 49) C h dX12_countsBoth_33 (by decide) (fun h => ?_) (fun h => ?_)
      · exact w_X12_countsBoth_0_b49 (F := F) C hrc9 h hW (lv_sub hl [0, 1, 2, 4] rfl)
      · refine lv_aload_n hx hb dX12_countsBoth_36 rfl (lv_at hl 0 rfl) ?_
        refine lv_iload hx hb dX12_countsBoth_37 (lv_at hl 4 rfl) ?_
        refine zz_callVi (As := [.int x4]) C hW h (fun r hr => c_X12_canBe_0 hr) lk_X12_265 (hW.recv mr_0) rfl hl.1 ⟨rfl, rfl⟩ ⟨Nat.le_of_ble_eq_true rfl, Nat.le_of_ble_eq_true rfl⟩ (Nat.le_of_ble_eq_true rfl) ⟨Nat.zero_le _, Nat.zero_le _⟩ rfl dX12_countsBoth_39 (fun v6 S5 H locs h hW => ?_)
        refine zz_ieq (tgt := 49) C h dX12_countsBoth_42 (by decide) (fun h => ?_) (fun h => ?_)
        · exact w_X12_countsBoth_0_b49 (F := F) C hrc9 h hW (lv_sub hl [0, 1, 2, 4] rfl)
        · refine lv_iconst (v := 1) hx hb dX12_countsBoth_45 (by decide) ?_
          refine lv_goto (tgt := 50) hx hb dX12_countsBoth_46 (by decide) ?_
          exact w_X12_countsBoth_0_b50 (F := F) C hrc9 h hW (lv_sub hl [0, 1, 2, 4] rfl)
def n_X12_countsBoth_0_b9 (F : Nat)  (S : Zs) (x1 : Int32) (x2 : Int32) (x3 : Int32) (x4 : Int32) : Option (Int32 × Zs) :=
  zfix (fun (rc : (Zs × Int32 × Int32 × Int32 × Int32) → Option (Int32 × Zs)) (u : (Zs × Int32 × Int32 × Int32 × Int32)) => n_X12_countsBoth_0_b9_l F  (fun S x1 x2 x3 x4 => rc (S, x1, x2, x3, x4)) u.1 u.2.1 u.2.2.1 u.2.2.2.1 u.2.2.2.2) F (S, x1, x2, x3, x4)
theorem w_X12_countsBoth_0_b9 {F : Nat} {q : (Int32 × Zs)}  (C : zC p s m args meth c cX12_countsBoth 5 RX12 (some .int))  : ∀ (n : Nat) (S : Zs) (x1 : Int32) (x2 : Int32) (x3 : Int32) (x4 : Int32) (H : Heap) (locs : List Loc) (ls : Array Slot), zfix (fun (rc : (Zs × Int32 × Int32 × Int32 × Int32) → Option (Int32 × Zs)) (u : (Zs × Int32 × Int32 × Int32 × Int32)) => n_X12_countsBoth_0_b9_l F  (fun S x1 x2 x3 x4 => rc (S, x1, x2, x3, x4)) u.1 u.2.1 u.2.2.1 u.2.2.2.1 u.2.2.2.2) n (S, x1, x2, x3, x4) = some q → zW (mG D cs ad) s S H locs → lv_has ls 5 [(0, .ref (ad 0)), (1, .int x1), (2, .int x2), (3, .int x3), (4, .int x4)] → W p l e (zR 4 82) s m args below meth c H locs 0 0 (zQi (mG D cs ad) q below args s) (F0 m 9 ls []) := by
  intro n
  induction n with
  | zero => intro S x1 x2 x3 x4 H locs ls h; exact absurd h (fun h => by cases h)
  | succ n ih => intro S x1 x2 x3 x4 H locs ls h hW hl; exact w_X12_countsBoth_0_b9_l (F := F) C (fun S x1 x2 x3 x4 H locs ls h hW hl => ih S x1 x2 x3 x4 H locs ls h hW hl) h hW hl
def n_X12_countsBoth_0_e (F : Nat)  (S : Zs) (x1 : Int32) (x2 : Int32) : Option (Int32 × Zs) :=
  zcl (n_X12_closesStanding_0 F S ) (fun v2 S1 => n_X12_countsBoth_0_b9 F  S1 x1 x2 (0 : Int32) (0 : Int32))
set_option maxRecDepth 20000 in
set_option maxHeartbeats 4000000 in
theorem w_X12_countsBoth_0_e {F : Nat} {q : (Int32 × Zs)} {S : Zs}  {x1 : Int32} {x2 : Int32} {ls : Array Slot} {H : Heap} {locs : List Loc} (C : zC p s m args meth c cX12_countsBoth 5 RX12 (some .int))  (h : n_X12_countsBoth_0_e F  S x1 x2 = some q) (hW : zW (mG D cs ad) s S H locs) (hl : lv_has ls 5 [(0, .ref (ad 0)), (1, .int x1), (2, .int x2)]) : W p l e (zR 4 82) s m args below meth c H locs 0 0 (zQi (mG D cs ad) q below args s) (F0 m 0 ls []) := by
  unfold n_X12_countsBoth_0_e at h
  obtain ⟨hx, hb, hml, hown, hts, hret, hlk⟩ := id C
  refine lv_aload_n hx hb dX12_countsBoth_0 rfl (lv_at hl 0 rfl) ?_
  refine zz_callVv (As := []) C hW h (fun r hr => c_X12_closesStanding_0 hr) lk_X12_239 (hW.recv mr_0) rfl hl.1 ⟨rfl, rfl⟩ ⟨Nat.le_of_ble_eq_true rfl, Nat.le_of_ble_eq_true rfl⟩ (Nat.le_of_ble_eq_true rfl) ⟨Nat.zero_le _, Nat.zero_le _⟩ rfl dX12_countsBoth_1 (fun v2 S1 H locs h hW => ?_)
  refine lv_iconst (v := 0) hx hb dX12_countsBoth_4 (by decide) ?_
  refine lv_istore_n (lv' := [(3, .int (0 : Int32)), (0, .ref (ad 0)), (1, .int x1), (2, .int x2)]) hx hb dX12_countsBoth_5 rfl hl (by decide) rfl (fun ls hl => ?_)
  refine lv_iconst (v := 0) hx hb dX12_countsBoth_6 (by decide) ?_
  refine lv_istore (lv' := [(4, .int (0 : Int32)), (3, .int (0 : Int32)), (0, .ref (ad 0)), (1, .int x1), (2, .int x2)]) hx hb dX12_countsBoth_7 hl (by decide) rfl (fun ls hl => ?_)
  exact w_X12_countsBoth_0_b9 (F := F) C F _ _ _ _ _ _ _ _ h hW (lv_sub hl [2, 3, 4, 1, 0] rfl)
def n_X12_countsBoth_0 (F : Nat) (S : Zs) (x1 : Int32) (x2 : Int32) : Option (Int32 × Zs) := n_X12_countsBoth_0_e F  S x1 x2
theorem c_X12_countsBoth_0 {l : Launch} {D : va_G} {cs ad : Nat → Nat} {F : Nat} {S : Zs} {x1 : Int32} {x2 : Int32} {q : (Int32 × Zs)} (h : n_X12_countsBoth_0 F S x1 x2 = some q) : zMi l yX12_countsBoth cX12_countsBoth 5 (some .int) (zR 4 82) (mG D cs ad) [.ref (ad 0), .int x1, .int x2] S q :=
  zz_enter (by decide) (Nat.le_of_ble_eq_true rfl) (fun p e s m below meth c ls C hW hl => w_X12_countsBoth_0_e (F := F) C h hW (lv_sub hl [0, 1, 2] rfl))
def n_X12_sorts_0_e (F : Nat)  (S : Zs)  : Option (Int32 × Zs) :=
  zpf S 0 (0 : Int32) (fun S1 => zcl (n_X12_countsBoth_0 F S1 (0 : Int32) (0 : Int32)) (fun v3 S2 => zcl (n_X12_countsBoth_0 F S2 (1 : Int32) (1 : Int32)) (fun v5 S4 => some ((v3 + v5), S4))))
set_option maxRecDepth 20000 in
set_option maxHeartbeats 4000000 in
theorem w_X12_sorts_0_e {F : Nat} {q : (Int32 × Zs)} {S : Zs}   {ls : Array Slot} {H : Heap} {locs : List Loc} (C : zC p s m args meth c cX12_sorts 1 RX12 (some .int))  (h : n_X12_sorts_0_e F  S  = some q) (hW : zW (mG D cs ad) s S H locs) (hl : lv_has ls 1 [(0, .ref (ad 0))]) : W p l e (zR 5 106) s m args below meth c H locs 0 0 (zQi (mG D cs ad) q below args s) (F0 m 0 ls []) := by
  unfold n_X12_sorts_0_e at h
  obtain ⟨hx, hb, hml, hown, hts, hret, hlk⟩ := id C
  refine lv_aload_n hx hb dX12_sorts_0 rfl (lv_at hl 0 rfl) ?_
  refine lv_iconst (v := 0) hx hb dX12_sorts_1 (by decide) ?_
  refine mp_0_0 C hW h fl_X12_3 dX12_sorts_2 (fun S1 H locs h hW => ?_)
  refine lv_aload_n hx hb dX12_sorts_5 rfl (lv_at hl 0 rfl) ?_
  refine lv_iconst (v := 0) hx hb dX12_sorts_6 (by decide) ?_
  refine lv_iconst (v := 0) hx hb dX12_sorts_7 (by decide) ?_
  refine zz_callVi (As := [.int (0 : Int32), .int (0 : Int32)]) C hW h (fun r hr => c_X12_countsBoth_0 hr) lk_X12_268 (hW.recv mr_0) rfl hl.1 ⟨rfl, rfl⟩ ⟨Nat.le_of_ble_eq_true rfl, Nat.le_of_ble_eq_true rfl⟩ (Nat.le_of_ble_eq_true rfl) ⟨Nat.zero_le _, Nat.zero_le _⟩ rfl dX12_sorts_8 (fun v3 S2 H locs h hW => ?_)
  refine lv_aload_n hx hb dX12_sorts_11 rfl (lv_at hl 0 rfl) ?_
  refine lv_iconst (v := 1) hx hb dX12_sorts_12 (by decide) ?_
  refine lv_iconst (v := 1) hx hb dX12_sorts_13 (by decide) ?_
  refine zz_callVi (As := [.int (1 : Int32), .int (1 : Int32)]) C hW h (fun r hr => c_X12_countsBoth_0 hr) lk_X12_268 (hW.recv mr_0) rfl hl.1 ⟨rfl, rfl⟩ ⟨Nat.le_of_ble_eq_true rfl, Nat.le_of_ble_eq_true rfl⟩ (Nat.le_of_ble_eq_true rfl) ⟨Nat.zero_le _, Nat.zero_le _⟩ rfl dX12_sorts_14 (fun v5 S4 H locs h hW => ?_)
  refine lv_iadd hx hb dX12_sorts_17 ?_
  exact zz_iret C rfl h hW dX12_sorts_18
def n_X12_sorts_0 (F : Nat) (S : Zs)  : Option (Int32 × Zs) := n_X12_sorts_0_e F  S 
theorem c_X12_sorts_0 {l : Launch} {D : va_G} {cs ad : Nat → Nat} {F : Nat} {S : Zs}  {q : (Int32 × Zs)} (h : n_X12_sorts_0 F S  = some q) : zMi l yX12_sorts cX12_sorts 1 (some .int) (zR 5 106) (mG D cs ad) [.ref (ad 0)] S q :=
  zz_enter (by decide) (Nat.le_of_ble_eq_true rfl) (fun p e s m below meth c ls C hW hl => w_X12_sorts_0_e (F := F) C h hW (lv_sub hl [0] rfl))
def n_X12_sort_0_b43 (F : Nat) (rc19 : Zs → Int32 → Int32 → Option (Int32 × Zs)) (S : Zs) (x2 : Int32) (x3 : Int32) : Option (Int32 × Zs) :=
  zlet (x3 + (1 : Int32)) (fun v1 => rc19 S x2 v1)
set_option maxRecDepth 20000 in
set_option maxHeartbeats 4000000 in
theorem w_X12_sort_0_b43 {F : Nat} {q : (Int32 × Zs)} {S : Zs} {rc19 : Zs → Int32 → Int32 → Option (Int32 × Zs)} {x2 : Int32} {x3 : Int32} {ls : Array Slot} {H : Heap} {locs : List Loc} (C : zC p s m args meth c cX12_sort 4 RX12 (some .int)) (hrc19 : ∀ (S : Zs) (x2 : Int32) (x3 : Int32) (H : Heap) (locs : List Loc) (ls : Array Slot), rc19 S x2 x3 = some q → zW (mG D cs ad) s S H locs → lv_has ls 4 [(0, .ref (ad 0)), (2, .int x2), (3, .int x3)] → W p l e (zR 4 82) s m args below meth c H locs 0 0 (zQi (mG D cs ad) q below args s) (F0 m 19 ls [])) (h : n_X12_sort_0_b43 F rc19 S x2 x3 = some q) (hW : zW (mG D cs ad) s S H locs) (hl : lv_has ls 4 [(0, .ref (ad 0)), (2, .int x2), (3, .int x3)]) : W p l e (zR 4 82) s m args below meth c H locs 0 0 (zQi (mG D cs ad) q below args s) (F0 m 43 ls []) := by
  unfold n_X12_sort_0_b43 at h
  obtain ⟨hx, hb, hml, hown, hts, hret, hlk⟩ := id C
  obtain ⟨v1, ev1, h⟩ := zz_name h
  refine lv_iinc (v := v1) (lv' := [(3, .int v1), (0, .ref (ad 0)), (2, .int x2)]) hx hb dX12_sort_43 hl (k := 2) rfl ev1.symm (by decide) rfl (fun ls hl => ?_)
  refine lv_goto (tgt := 19) hx hb dX12_sort_46 (by decide) ?_
  exact hrc19 _ _ _ _ _ _ h hW (lv_sub hl [1, 2, 0] rfl)
def n_X12_sort_0_b19_l (F : Nat) (rc19 : Zs → Int32 → Int32 → Option (Int32 × Zs)) (S : Zs) (x2 : Int32) (x3 : Int32) : Option (Int32 × Zs) :=
  if (4096 : Int32) ≤ x3 then (some ((-2 : Int32), S)) else (zcl (n_X12_canBe_0 F S x3) (fun v2 S1 => if v2 = 0 then (n_X12_sort_0_b43 F rc19 S1 x2 x3) else (if x2 = 0 then (some (x3, S1)) else (zlet (x2 + (-1 : Int32)) (fun v3 => n_X12_sort_0_b43 F rc19 S1 v3 x3)))))
set_option maxRecDepth 20000 in
set_option maxHeartbeats 4000000 in
theorem w_X12_sort_0_b19_l {F : Nat} {q : (Int32 × Zs)} {S : Zs} {rc19 : Zs → Int32 → Int32 → Option (Int32 × Zs)} {x2 : Int32} {x3 : Int32} {ls : Array Slot} {H : Heap} {locs : List Loc} (C : zC p s m args meth c cX12_sort 4 RX12 (some .int)) (hrc19 : ∀ (S : Zs) (x2 : Int32) (x3 : Int32) (H : Heap) (locs : List Loc) (ls : Array Slot), rc19 S x2 x3 = some q → zW (mG D cs ad) s S H locs → lv_has ls 4 [(0, .ref (ad 0)), (2, .int x2), (3, .int x3)] → W p l e (zR 4 82) s m args below meth c H locs 0 0 (zQi (mG D cs ad) q below args s) (F0 m 19 ls [])) (h : n_X12_sort_0_b19_l F rc19 S x2 x3 = some q) (hW : zW (mG D cs ad) s S H locs) (hl : lv_has ls 4 [(0, .ref (ad 0)), (2, .int x2), (3, .int x3)]) : W p l e (zR 4 82) s m args below meth c H locs 0 0 (zQi (mG D cs ad) q below args s) (F0 m 19 ls []) := by
  unfold n_X12_sort_0_b19_l at h
  obtain ⟨hx, hb, hml, hown, hts, hret, hlk⟩ := id C
  refine lv_iload_n hx hb dX12_sort_19 rfl (lv_at hl 2 rfl) ?_
  refine lv_sipush (v := 4096) hx hb dX12_sort_20 (by decide) ?_
  refine zz_cge (tgt := 49) C h dX12_sort_23 (by decide) (fun h => ?_) (fun h => ?_)
  · refine lv_bipush (v := -2) hx hb dX12_sort_49 (by decide) ?_
    exact zz_iret C rfl h hW dX12_sort_51
  · refine lv_aload_n hx hb dX12_sort_26 rfl (lv_at hl 0 rfl) ?_
    refine lv_iload_n hx hb dX12_sort_27 rfl (lv_at hl 2 rfl) ?_
    refine zz_callVi (As := [.int x3]) C hW h (fun r hr => c_X12_canBe_0 hr) lk_X12_265 (hW.recv mr_0) rfl hl.1 ⟨rfl, rfl⟩ ⟨Nat.le_of_ble_eq_true rfl, Nat.le_of_ble_eq_true rfl⟩ (Nat.le_of_ble_eq_true rfl) ⟨Nat.zero_le _, Nat.zero_le _⟩ rfl dX12_sort_28 (fun v2 S1 H locs h hW => ?_)
    refine zz_ieq (tgt := 43) C h dX12_sort_31 (by decide) (fun h => ?_) (fun h => ?_)
    · exact w_X12_sort_0_b43 (F := F) C hrc19 h hW (lv_sub hl [0, 1, 2] rfl)
    · refine lv_iload_n hx hb dX12_sort_34 rfl (lv_at hl 1 rfl) ?_
      refine zz_ine (tgt := 40) C h dX12_sort_35 (by decide) (fun h => ?_) (fun h => ?_)
      · obtain ⟨v3, ev3, h⟩ := zz_name h
        refine lv_iinc (v := v3) (lv' := [(2, .int v3), (0, .ref (ad 0)), (3, .int x3)]) hx hb dX12_sort_40 hl (k := 1) rfl ev3.symm (by decide) rfl (fun ls hl => ?_)
        exact w_X12_sort_0_b43 (F := F) C hrc19 h hW (lv_sub hl [1, 0, 2] rfl)
      · refine lv_iload_n hx hb dX12_sort_38 rfl (lv_at hl 2 rfl) ?_
        exact zz_iret C rfl h hW dX12_sort_39
def n_X12_sort_0_b19 (F : Nat)  (S : Zs) (x2 : Int32) (x3 : Int32) : Option (Int32 × Zs) :=
  zfix (fun (rc : (Zs × Int32 × Int32) → Option (Int32 × Zs)) (u : (Zs × Int32 × Int32)) => n_X12_sort_0_b19_l F  (fun S x2 x3 => rc (S, x2, x3)) u.1 u.2.1 u.2.2) F (S, x2, x3)
theorem w_X12_sort_0_b19 {F : Nat} {q : (Int32 × Zs)}  (C : zC p s m args meth c cX12_sort 4 RX12 (some .int))  : ∀ (n : Nat) (S : Zs) (x2 : Int32) (x3 : Int32) (H : Heap) (locs : List Loc) (ls : Array Slot), zfix (fun (rc : (Zs × Int32 × Int32) → Option (Int32 × Zs)) (u : (Zs × Int32 × Int32)) => n_X12_sort_0_b19_l F  (fun S x2 x3 => rc (S, x2, x3)) u.1 u.2.1 u.2.2) n (S, x2, x3) = some q → zW (mG D cs ad) s S H locs → lv_has ls 4 [(0, .ref (ad 0)), (2, .int x2), (3, .int x3)] → W p l e (zR 4 82) s m args below meth c H locs 0 0 (zQi (mG D cs ad) q below args s) (F0 m 19 ls []) := by
  intro n
  induction n with
  | zero => intro S x2 x3 H locs ls h; exact absurd h (fun h => by cases h)
  | succ n ih => intro S x2 x3 H locs ls h hW hl; exact w_X12_sort_0_b19_l (F := F) C (fun S x2 x3 H locs ls h hW hl => ih S x2 x3 H locs ls h hW hl) h hW hl
def n_X12_sort_0_e (F : Nat)  (S : Zs) (x1 : Int32) : Option (Int32 × Zs) :=
  zpf S 0 (0 : Int32) (fun S1 => if 0 ≤ x1 then (zcl (n_X12_closesStanding_0 F S1 ) (fun v3 S2 => n_X12_sort_0_b19 F  S2 x1 (0 : Int32))) else (some ((-1 : Int32), S1)))
set_option maxRecDepth 20000 in
set_option maxHeartbeats 4000000 in
theorem w_X12_sort_0_e {F : Nat} {q : (Int32 × Zs)} {S : Zs}  {x1 : Int32} {ls : Array Slot} {H : Heap} {locs : List Loc} (C : zC p s m args meth c cX12_sort 4 RX12 (some .int))  (h : n_X12_sort_0_e F  S x1 = some q) (hW : zW (mG D cs ad) s S H locs) (hl : lv_has ls 4 [(0, .ref (ad 0)), (1, .int x1)]) : W p l e (zR 4 82) s m args below meth c H locs 0 0 (zQi (mG D cs ad) q below args s) (F0 m 0 ls []) := by
  unfold n_X12_sort_0_e at h
  obtain ⟨hx, hb, hml, hown, hts, hret, hlk⟩ := id C
  refine lv_aload_n hx hb dX12_sort_0 rfl (lv_at hl 0 rfl) ?_
  refine lv_iconst (v := 0) hx hb dX12_sort_1 (by decide) ?_
  refine mp_0_0 C hW h fl_X12_3 dX12_sort_2 (fun S1 H locs h hW => ?_)
  refine lv_iload_n hx hb dX12_sort_5 rfl (lv_at hl 1 rfl) ?_
  refine zz_ige (tgt := 11) C h dX12_sort_6 (by decide) (fun h => ?_) (fun h => ?_)
  · refine lv_aload_n hx hb dX12_sort_11 rfl (lv_at hl 0 rfl) ?_
    refine zz_callVv (As := []) C hW h (fun r hr => c_X12_closesStanding_0 hr) lk_X12_239 (hW.recv mr_0) rfl hl.1 ⟨rfl, rfl⟩ ⟨Nat.le_of_ble_eq_true rfl, Nat.le_of_ble_eq_true rfl⟩ (Nat.le_of_ble_eq_true rfl) ⟨Nat.zero_le _, Nat.zero_le _⟩ rfl dX12_sort_12 (fun v3 S2 H locs h hW => ?_)
    refine lv_iload_n hx hb dX12_sort_15 rfl (lv_at hl 1 rfl) ?_
    refine lv_istore_n (lv' := [(2, .int x1), (0, .ref (ad 0)), (1, .int x1)]) hx hb dX12_sort_16 rfl hl (by decide) rfl (fun ls hl => ?_)
    refine lv_iconst (v := 0) hx hb dX12_sort_17 (by decide) ?_
    refine lv_istore_n (lv' := [(3, .int (0 : Int32)), (2, .int x1), (0, .ref (ad 0)), (1, .int x1)]) hx hb dX12_sort_18 rfl hl (by decide) rfl (fun ls hl => ?_)
    exact w_X12_sort_0_b19 (F := F) C F _ _ _ _ _ _ h hW (lv_sub hl [2, 1, 0] rfl)
  · refine lv_iconst (v := -1) hx hb dX12_sort_9 (by decide) ?_
    exact zz_iret C rfl h hW dX12_sort_10
def n_X12_sort_0 (F : Nat) (S : Zs) (x1 : Int32) : Option (Int32 × Zs) := n_X12_sort_0_e F  S x1
theorem c_X12_sort_0 {l : Launch} {D : va_G} {cs ad : Nat → Nat} {F : Nat} {S : Zs} {x1 : Int32} {q : (Int32 × Zs)} (h : n_X12_sort_0 F S x1 = some q) : zMi l yX12_sort cX12_sort 4 (some .int) (zR 4 82) (mG D cs ad) [.ref (ad 0), .int x1] S q :=
  zz_enter (by decide) (Nat.le_of_ble_eq_true rfl) (fun p e s m below meth c ls C hW hl => w_X12_sort_0_e (F := F) C h hW (lv_sub hl [0, 1] rfl))
def n_X12_both_0_b29 (F : Nat)  (S : Zs) (t0 : Int32) : Option (Int32 × Zs) :=
  some (t0, S)
set_option maxRecDepth 20000 in
set_option maxHeartbeats 4000000 in
theorem w_X12_both_0_b29 {F : Nat} {q : (Int32 × Zs)} {S : Zs}  {t0 : Int32} {ls : Array Slot} {H : Heap} {locs : List Loc} (C : zC p s m args meth c cX12_both 3 RX12 (some .int))  (h : n_X12_both_0_b29 F  S t0 = some q) (hW : zW (mG D cs ad) s S H locs) (hl : lv_has ls 3 []) : W p l e (zR 5 106) s m args below meth c H locs 0 0 (zQi (mG D cs ad) q below args s) (F0 m 29 ls [.int t0]) := by
  unfold n_X12_both_0_b29 at h
  obtain ⟨hx, hb, hml, hown, hts, hret, hlk⟩ := id C
  exact zz_iret C rfl h hW dX12_both_29
def n_X12_both_0_b28 (F : Nat)  (S : Zs)  : Option (Int32 × Zs) :=
  n_X12_both_0_b29 F  S (-1 : Int32)
set_option maxRecDepth 20000 in
set_option maxHeartbeats 4000000 in
theorem w_X12_both_0_b28 {F : Nat} {q : (Int32 × Zs)} {S : Zs}   {ls : Array Slot} {H : Heap} {locs : List Loc} (C : zC p s m args meth c cX12_both 3 RX12 (some .int))  (h : n_X12_both_0_b28 F  S  = some q) (hW : zW (mG D cs ad) s S H locs) (hl : lv_has ls 3 []) : W p l e (zR 5 106) s m args below meth c H locs 0 0 (zQi (mG D cs ad) q below args s) (F0 m 28 ls []) := by
  unfold n_X12_both_0_b28 at h
  obtain ⟨hx, hb, hml, hown, hts, hret, hlk⟩ := id C
  refine lv_iconst (v := -1) hx hb dX12_both_28 (by decide) ?_
  exact w_X12_both_0_b29 (F := F) C h hW (lv_sub hl [] rfl)
def n_X12_both_0_e (F : Nat)  (S : Zs) (x1 : Int32) (x2 : Int32) : Option (Int32 × Zs) :=
  zpf S 0 (0 : Int32) (fun S1 => zcl (n_X12_isTerm F S1 x1) (fun v3 S2 => if v3 = 0 then (n_X12_both_0_b28 F  S2 ) else (zcl (n_X12_isTerm F S2 x2) (fun v5 S4 => if v5 = 0 then (n_X12_both_0_b28 F  S4 ) else (zcl (n_X12_countsBoth_0 F S4 x1 x2) (fun v7 S6 => n_X12_both_0_b29 F  S6 v7))))))
set_option maxRecDepth 20000 in
set_option maxHeartbeats 4000000 in
theorem w_X12_both_0_e {F : Nat} {q : (Int32 × Zs)} {S : Zs}  {x1 : Int32} {x2 : Int32} {ls : Array Slot} {H : Heap} {locs : List Loc} (C : zC p s m args meth c cX12_both 3 RX12 (some .int))  (h : n_X12_both_0_e F  S x1 x2 = some q) (hW : zW (mG D cs ad) s S H locs) (hl : lv_has ls 3 [(0, .ref (ad 0)), (1, .int x1), (2, .int x2)]) : W p l e (zR 5 106) s m args below meth c H locs 0 0 (zQi (mG D cs ad) q below args s) (F0 m 0 ls []) := by
  unfold n_X12_both_0_e at h
  obtain ⟨hx, hb, hml, hown, hts, hret, hlk⟩ := id C
  refine lv_aload_n hx hb dX12_both_0 rfl (lv_at hl 0 rfl) ?_
  refine lv_iconst (v := 0) hx hb dX12_both_1 (by decide) ?_
  refine mp_0_0 C hW h fl_X12_3 dX12_both_2 (fun S1 H locs h hW => ?_)
  refine lv_iload_n hx hb dX12_both_5 rfl (lv_at hl 1 rfl) ?_
  refine zz_callSi (As := [.int x1]) C hW h (fun r hr => c_X12_isTerm hr) lk_X12_236 rfl hl.1 ⟨rfl, rfl⟩ ⟨Nat.le_of_ble_eq_true rfl, Nat.le_of_ble_eq_true rfl⟩ (Nat.le_of_ble_eq_true rfl) ⟨Nat.zero_le _, Nat.zero_le _⟩ rfl dX12_both_6 (fun v3 S2 H locs h hW => ?_)
  refine zz_ieq (tgt := 28) C h dX12_both_9 (by decide) (fun h => ?_) (fun h => ?_)
  · exact w_X12_both_0_b28 (F := F) C h hW (lv_sub hl [] rfl)
  · refine lv_iload_n hx hb dX12_both_12 rfl (lv_at hl 2 rfl) ?_
    refine zz_callSi (As := [.int x2]) C hW h (fun r hr => c_X12_isTerm hr) lk_X12_236 rfl hl.1 ⟨rfl, rfl⟩ ⟨Nat.le_of_ble_eq_true rfl, Nat.le_of_ble_eq_true rfl⟩ (Nat.le_of_ble_eq_true rfl) ⟨Nat.zero_le _, Nat.zero_le _⟩ rfl dX12_both_13 (fun v5 S4 H locs h hW => ?_)
    refine zz_ieq (tgt := 28) C h dX12_both_16 (by decide) (fun h => ?_) (fun h => ?_)
    · exact w_X12_both_0_b28 (F := F) C h hW (lv_sub hl [] rfl)
    · refine lv_aload_n hx hb dX12_both_19 rfl (lv_at hl 0 rfl) ?_
      refine lv_iload_n hx hb dX12_both_20 rfl (lv_at hl 1 rfl) ?_
      refine lv_iload_n hx hb dX12_both_21 rfl (lv_at hl 2 rfl) ?_
      refine zz_callVi (As := [.int x1, .int x2]) C hW h (fun r hr => c_X12_countsBoth_0 hr) lk_X12_268 (hW.recv mr_0) rfl hl.1 ⟨rfl, rfl⟩ ⟨Nat.le_of_ble_eq_true rfl, Nat.le_of_ble_eq_true rfl⟩ (Nat.le_of_ble_eq_true rfl) ⟨Nat.zero_le _, Nat.zero_le _⟩ rfl dX12_both_22 (fun v7 S6 H locs h hW => ?_)
      refine lv_goto (tgt := 29) hx hb dX12_both_25 (by decide) ?_
      exact w_X12_both_0_b29 (F := F) C h hW (lv_sub hl [] rfl)
def n_X12_both_0 (F : Nat) (S : Zs) (x1 : Int32) (x2 : Int32) : Option (Int32 × Zs) := n_X12_both_0_e F  S x1 x2
theorem c_X12_both_0 {l : Launch} {D : va_G} {cs ad : Nat → Nat} {F : Nat} {S : Zs} {x1 : Int32} {x2 : Int32} {q : (Int32 × Zs)} (h : n_X12_both_0 F S x1 x2 = some q) : zMi l yX12_both cX12_both 3 (some .int) (zR 5 106) (mG D cs ad) [.ref (ad 0), .int x1, .int x2] S q :=
  zz_enter (by decide) (Nat.le_of_ble_eq_true rfl) (fun p e s m below meth c ls C hW hl => w_X12_both_0_e (F := F) C h hW (lv_sub hl [0, 1, 2] rfl))
def n_X12_asksFor_0_e (F : Nat)  (S : Zs) (x1 : Int32) (x2 : Int32) : Option (Int32 × Zs) :=
  zgf S 24 (fun v1 => zst S 9 29 v1 x1 (fun S2 => zgf S2 24 (fun v3 => zst S2 10 29 v3 x2 (fun S4 => zgf S4 24 (fun v5 => zpf S4 24 (v5 + (1 : Int32)) (fun S6 => some (0, S6)))))))
set_option maxRecDepth 20000 in
set_option maxHeartbeats 4000000 in
theorem w_X12_asksFor_0_e {F : Nat} {q : (Int32 × Zs)} {S : Zs}  {x1 : Int32} {x2 : Int32} {ls : Array Slot} {H : Heap} {locs : List Loc} (C : zC p s m args meth c cX12_asksFor 3 RX12 none)  (h : n_X12_asksFor_0_e F  S x1 x2 = some q) (hW : zW (mG D cs ad) s S H locs) (hl : lv_has ls 3 [(0, .ref (ad 0)), (1, .int x1), (2, .int x2)]) : W p l e (zR 0 0) s m args below meth c H locs 0 0 (zQv (mG D cs ad) q below args s) (F0 m 0 ls []) := by
  unfold n_X12_asksFor_0_e at h
  obtain ⟨hx, hb, hml, hown, hts, hret, hlk⟩ := id C
  refine lv_aload_n hx hb dX12_asksFor_0 rfl (lv_at hl 0 rfl) ?_
  refine mg_0_22 C hW fl_X12_271 dX12_asksFor_1 ?_
  refine lv_aload_n hx hb dX12_asksFor_4 rfl (lv_at hl 0 rfl) ?_
  refine mg_0_24 C hW h fl_X12_274 dX12_asksFor_5 (fun v1 h => ?_)
  refine lv_iload_n hx hb dX12_asksFor_8 rfl (lv_at hl 1 rfl) ?_
  refine ms_9 C hW h dX12_asksFor_9 (fun S2 H locs h hW => ?_)
  refine lv_aload_n hx hb dX12_asksFor_10 rfl (lv_at hl 0 rfl) ?_
  refine mg_0_23 C hW fl_X12_277 dX12_asksFor_11 ?_
  refine lv_aload_n hx hb dX12_asksFor_14 rfl (lv_at hl 0 rfl) ?_
  refine mg_0_24 C hW h fl_X12_274 dX12_asksFor_15 (fun v3 h => ?_)
  refine lv_iload_n hx hb dX12_asksFor_18 rfl (lv_at hl 2 rfl) ?_
  refine ms_10 C hW h dX12_asksFor_19 (fun S4 H locs h hW => ?_)
  refine lv_aload_n hx hb dX12_asksFor_20 rfl (lv_at hl 0 rfl) ?_
  refine lv_dup hx hb dX12_asksFor_21 rfl ?_
  refine mg_0_24 C hW h fl_X12_274 dX12_asksFor_22 (fun v5 h => ?_)
  refine lv_iconst (v := 1) hx hb dX12_asksFor_25 (by decide) ?_
  refine lv_iadd hx hb dX12_asksFor_26 ?_
  refine mp_0_24 C hW h fl_X12_274 dX12_asksFor_27 (fun S6 H locs h hW => ?_)
  exact zz_vret C rfl h hW dX12_asksFor_30
def n_X12_asksFor_0 (F : Nat) (S : Zs) (x1 : Int32) (x2 : Int32) : Option (Int32 × Zs) := n_X12_asksFor_0_e F  S x1 x2
theorem c_X12_asksFor_0 {l : Launch} {D : va_G} {cs ad : Nat → Nat} {F : Nat} {S : Zs} {x1 : Int32} {x2 : Int32} {q : (Int32 × Zs)} (h : n_X12_asksFor_0 F S x1 x2 = some q) : zMv l yX12_asksFor cX12_asksFor 3 none (zR 0 0) (mG D cs ad) [.ref (ad 0), .int x1, .int x2] S q :=
  zz_enter (by decide) (Nat.le_of_ble_eq_true rfl) (fun p e s m below meth c ls C hW hl => w_X12_asksFor_0_e (F := F) C h hW (lv_sub hl [0, 1, 2] rfl))
def n_X12_findsNeeds_0_b105 (F : Nat) (rc78 : Zs → Int32 → Option (Int32 × Zs)) (S : Zs) (x1 : Int32) : Option (Int32 × Zs) :=
  zlet (x1 + (1 : Int32)) (fun v1 => rc78 S v1)
set_option maxRecDepth 20000 in
set_option maxHeartbeats 4000000 in
theorem w_X12_findsNeeds_0_b105 {F : Nat} {q : (Int32 × Zs)} {S : Zs} {rc78 : Zs → Int32 → Option (Int32 × Zs)} {x1 : Int32} {ls : Array Slot} {H : Heap} {locs : List Loc} (C : zC p s m args meth c cX12_findsNeeds 3 RX12 none) (hrc78 : ∀ (S : Zs) (x1 : Int32) (H : Heap) (locs : List Loc) (ls : Array Slot), rc78 S x1 = some q → zW (mG D cs ad) s S H locs → lv_has ls 3 [(0, .ref (ad 0)), (1, .int x1)] → W p l e (zR 2 40) s m args below meth c H locs 0 0 (zQv (mG D cs ad) q below args s) (F0 m 78 ls [])) (h : n_X12_findsNeeds_0_b105 F rc78 S x1 = some q) (hW : zW (mG D cs ad) s S H locs) (hl : lv_has ls 3 [(0, .ref (ad 0)), (1, .int x1)]) : W p l e (zR 2 40) s m args below meth c H locs 0 0 (zQv (mG D cs ad) q below args s) (F0 m 105 ls []) := by
  unfold n_X12_findsNeeds_0_b105 at h
  obtain ⟨hx, hb, hml, hown, hts, hret, hlk⟩ := id C
  obtain ⟨v1, ev1, h⟩ := zz_name h
  refine lv_iinc (v := v1) (lv' := [(1, .int v1), (0, .ref (ad 0))]) hx hb dX12_findsNeeds_105 hl (k := 1) rfl ev1.symm (by decide) rfl (fun ls hl => ?_)
  refine lv_goto (tgt := 78) hx hb dX12_findsNeeds_108 (by decide) ?_
  exact hrc78 _ _ _ _ _ h hW (lv_sub hl [1, 0] rfl)
def n_X12_findsNeeds_0_b78_l (F : Nat) (rc78 : Zs → Int32 → Option (Int32 × Zs)) (S : Zs) (x1 : Int32) : Option (Int32 × Zs) :=
  if (12 : Int32) ≤ x1 then (some (0, S)) else (zgf S 8 (fun v1 => zcl (n_X12_has F S v1 x1) (fun v3 S2 => if v3 = 0 then (n_X12_findsNeeds_0_b105 F rc78 S2 x1) else (zcl (n_X12_asksFor_0 F S2 ((2 : Int32) * x1) ((2 : Int32) * x1)) (fun v5 S4 => n_X12_findsNeeds_0_b105 F rc78 S4 x1)))))
set_option maxRecDepth 20000 in
set_option maxHeartbeats 4000000 in
theorem w_X12_findsNeeds_0_b78_l {F : Nat} {q : (Int32 × Zs)} {S : Zs} {rc78 : Zs → Int32 → Option (Int32 × Zs)} {x1 : Int32} {ls : Array Slot} {H : Heap} {locs : List Loc} (C : zC p s m args meth c cX12_findsNeeds 3 RX12 none) (hrc78 : ∀ (S : Zs) (x1 : Int32) (H : Heap) (locs : List Loc) (ls : Array Slot), rc78 S x1 = some q → zW (mG D cs ad) s S H locs → lv_has ls 3 [(0, .ref (ad 0)), (1, .int x1)] → W p l e (zR 2 40) s m args below meth c H locs 0 0 (zQv (mG D cs ad) q below args s) (F0 m 78 ls [])) (h : n_X12_findsNeeds_0_b78_l F rc78 S x1 = some q) (hW : zW (mG D cs ad) s S H locs) (hl : lv_has ls 3 [(0, .ref (ad 0)), (1, .int x1)]) : W p l e (zR 2 40) s m args below meth c H locs 0 0 (zQv (mG D cs ad) q below args s) (F0 m 78 ls []) := by
  unfold n_X12_findsNeeds_0_b78_l at h
  obtain ⟨hx, hb, hml, hown, hts, hret, hlk⟩ := id C
  refine lv_iload_n hx hb dX12_findsNeeds_78 rfl (lv_at hl 1 rfl) ?_
  refine lv_bipush (v := 12) hx hb dX12_findsNeeds_79 (by decide) ?_
  refine zz_cge (tgt := 111) C h dX12_findsNeeds_81 (by decide) (fun h => ?_) (fun h => ?_)
  · exact zz_vret C rfl h hW dX12_findsNeeds_111
  · refine lv_aload_n hx hb dX12_findsNeeds_84 rfl (lv_at hl 0 rfl) ?_
    refine mg_0_8 C hW h fl_X12_139 dX12_findsNeeds_85 (fun v1 h => ?_)
    refine lv_iload_n hx hb dX12_findsNeeds_88 rfl (lv_at hl 1 rfl) ?_
    refine zz_callSi (As := [.int v1, .int x1]) C hW h (fun r hr => c_X12_has hr) lk_X12_129 rfl hl.1 ⟨rfl, rfl⟩ ⟨Nat.le_of_ble_eq_true rfl, Nat.le_of_ble_eq_true rfl⟩ (Nat.le_of_ble_eq_true rfl) ⟨Nat.zero_le _, Nat.zero_le _⟩ rfl dX12_findsNeeds_89 (fun v3 S2 H locs h hW => ?_)
    refine zz_ieq (tgt := 105) C h dX12_findsNeeds_92 (by decide) (fun h => ?_) (fun h => ?_)
    · exact w_X12_findsNeeds_0_b105 (F := F) C hrc78 h hW (lv_sub hl [0, 1] rfl)
    · refine lv_aload_n hx hb dX12_findsNeeds_95 rfl (lv_at hl 0 rfl) ?_
      refine lv_iconst (v := 2) hx hb dX12_findsNeeds_96 (by decide) ?_
      refine lv_iload_n hx hb dX12_findsNeeds_97 rfl (lv_at hl 1 rfl) ?_
      refine lv_imul hx hb dX12_findsNeeds_98 ?_
      refine lv_iconst (v := 2) hx hb dX12_findsNeeds_99 (by decide) ?_
      refine lv_iload_n hx hb dX12_findsNeeds_100 rfl (lv_at hl 1 rfl) ?_
      refine lv_imul hx hb dX12_findsNeeds_101 ?_
      refine zz_callVv (As := [.int ((2 : Int32) * x1), .int ((2 : Int32) * x1)]) C hW h (fun r hr => c_X12_asksFor_0 hr) lk_X12_280 (hW.recv mr_0) rfl hl.1 ⟨rfl, rfl⟩ ⟨Nat.le_of_ble_eq_true rfl, Nat.le_of_ble_eq_true rfl⟩ (Nat.le_of_ble_eq_true rfl) ⟨Nat.zero_le _, Nat.zero_le _⟩ rfl dX12_findsNeeds_102 (fun v5 S4 H locs h hW => ?_)
      exact w_X12_findsNeeds_0_b105 (F := F) C hrc78 h hW (lv_sub hl [0, 1] rfl)
def n_X12_findsNeeds_0_b78 (F : Nat)  (S : Zs) (x1 : Int32) : Option (Int32 × Zs) :=
  zfix (fun (rc : (Zs × Int32) → Option (Int32 × Zs)) (u : (Zs × Int32)) => n_X12_findsNeeds_0_b78_l F  (fun S x1 => rc (S, x1)) u.1 u.2) F (S, x1)
theorem w_X12_findsNeeds_0_b78 {F : Nat} {q : (Int32 × Zs)}  (C : zC p s m args meth c cX12_findsNeeds 3 RX12 none)  : ∀ (n : Nat) (S : Zs) (x1 : Int32) (H : Heap) (locs : List Loc) (ls : Array Slot), zfix (fun (rc : (Zs × Int32) → Option (Int32 × Zs)) (u : (Zs × Int32)) => n_X12_findsNeeds_0_b78_l F  (fun S x1 => rc (S, x1)) u.1 u.2) n (S, x1) = some q → zW (mG D cs ad) s S H locs → lv_has ls 3 [(0, .ref (ad 0)), (1, .int x1)] → W p l e (zR 2 40) s m args below meth c H locs 0 0 (zQv (mG D cs ad) q below args s) (F0 m 78 ls []) := by
  intro n
  induction n with
  | zero => intro S x1 H locs ls h; exact absurd h (fun h => by cases h)
  | succ n ih => intro S x1 H locs ls h hW hl; exact w_X12_findsNeeds_0_b78_l (F := F) C (fun S x1 H locs ls h hW hl => ih S x1 H locs ls h hW hl) h hW hl
def n_X12_findsNeeds_0_b70 (F : Nat) (rc7 : Zs → Int32 → Option (Int32 × Zs)) (S : Zs) (x1 : Int32) : Option (Int32 × Zs) :=
  zlet (x1 + (1 : Int32)) (fun v1 => rc7 S v1)
set_option maxRecDepth 20000 in
set_option maxHeartbeats 4000000 in
theorem w_X12_findsNeeds_0_b70 {F : Nat} {q : (Int32 × Zs)} {S : Zs} {rc7 : Zs → Int32 → Option (Int32 × Zs)} {x1 : Int32} {ls : Array Slot} {H : Heap} {locs : List Loc} (C : zC p s m args meth c cX12_findsNeeds 3 RX12 none) (hrc7 : ∀ (S : Zs) (x1 : Int32) (H : Heap) (locs : List Loc) (ls : Array Slot), rc7 S x1 = some q → zW (mG D cs ad) s S H locs → lv_has ls 3 [(0, .ref (ad 0)), (1, .int x1)] → W p l e (zR 2 40) s m args below meth c H locs 0 0 (zQv (mG D cs ad) q below args s) (F0 m 7 ls [])) (h : n_X12_findsNeeds_0_b70 F rc7 S x1 = some q) (hW : zW (mG D cs ad) s S H locs) (hl : lv_has ls 3 [(0, .ref (ad 0)), (1, .int x1)]) : W p l e (zR 2 40) s m args below meth c H locs 0 0 (zQv (mG D cs ad) q below args s) (F0 m 70 ls []) := by
  unfold n_X12_findsNeeds_0_b70 at h
  obtain ⟨hx, hb, hml, hown, hts, hret, hlk⟩ := id C
  obtain ⟨v1, ev1, h⟩ := zz_name h
  refine lv_iinc (v := v1) (lv' := [(1, .int v1), (0, .ref (ad 0))]) hx hb dX12_findsNeeds_70 hl (k := 1) rfl ev1.symm (by decide) rfl (fun ls hl => ?_)
  refine lv_goto (tgt := 7) hx hb dX12_findsNeeds_73 (by decide) ?_
  exact hrc7 _ _ _ _ _ h hW (lv_sub hl [1, 0] rfl)
def n_X12_findsNeeds_0_b67 (F : Nat) (rc7 : Zs → Int32 → Option (Int32 × Zs)) (S : Zs) (x1 : Int32) (t0 : Int32) (t1 : Int32) : Option (Int32 × Zs) :=
  zcl (n_X12_asksFor_0 F S t1 t0) (fun v2 S1 => n_X12_findsNeeds_0_b70 F rc7 S1 x1)
set_option maxRecDepth 20000 in
set_option maxHeartbeats 4000000 in
theorem w_X12_findsNeeds_0_b67 {F : Nat} {q : (Int32 × Zs)} {S : Zs} {rc7 : Zs → Int32 → Option (Int32 × Zs)} {x1 : Int32} {t0 : Int32} {t1 : Int32} {ls : Array Slot} {H : Heap} {locs : List Loc} (C : zC p s m args meth c cX12_findsNeeds 3 RX12 none) (hrc7 : ∀ (S : Zs) (x1 : Int32) (H : Heap) (locs : List Loc) (ls : Array Slot), rc7 S x1 = some q → zW (mG D cs ad) s S H locs → lv_has ls 3 [(0, .ref (ad 0)), (1, .int x1)] → W p l e (zR 2 40) s m args below meth c H locs 0 0 (zQv (mG D cs ad) q below args s) (F0 m 7 ls [])) (h : n_X12_findsNeeds_0_b67 F rc7 S x1 t0 t1 = some q) (hW : zW (mG D cs ad) s S H locs) (hl : lv_has ls 3 [(0, .ref (ad 0)), (1, .int x1)]) : W p l e (zR 2 40) s m args below meth c H locs 0 0 (zQv (mG D cs ad) q below args s) (F0 m 67 ls [.int t0, .int t1, .ref (ad 0)]) := by
  unfold n_X12_findsNeeds_0_b67 at h
  obtain ⟨hx, hb, hml, hown, hts, hret, hlk⟩ := id C
  refine zz_callVv (As := [.int t1, .int t0]) C hW h (fun r hr => c_X12_asksFor_0 hr) lk_X12_280 (hW.recv mr_0) rfl hl.1 ⟨rfl, rfl⟩ ⟨Nat.le_of_ble_eq_true rfl, Nat.le_of_ble_eq_true rfl⟩ (Nat.le_of_ble_eq_true rfl) ⟨Nat.zero_le _, Nat.zero_le _⟩ rfl dX12_findsNeeds_67 (fun v2 S1 H locs h hW => ?_)
  exact w_X12_findsNeeds_0_b70 (F := F) C hrc7 h hW (lv_sub hl [0, 1] rfl)
def n_X12_findsNeeds_0_b7_l (F : Nat) (rc7 : Zs → Int32 → Option (Int32 × Zs)) (S : Zs) (x1 : Int32) : Option (Int32 × Zs) :=
  zgf S 18 (fun v1 => if v1 ≤ x1 then (n_X12_findsNeeds_0_b78 F  S (0 : Int32)) else (zld S 6 18 x1 (fun v2 => zcl (n_X12_secondOf F S v2) (fun v4 S3 => zld S3 6 18 x1 (fun v5 => zcl (n_X12_isOfAll F S3 v5) (fun v7 S6 => if v7 = 0 then (zld S6 6 18 x1 (fun v8 => zcl (n_X12_firstOf F S6 v8) (fun v10 S9 => zld S9 6 18 x1 (fun v11 => zcl (n_X12_formOf F S9 v11) (fun v13 S12 => if v13 = (2 : Int32) then (n_X12_findsNeeds_0_b67 F rc7 S12 x1 v4 v10) else (n_X12_findsNeeds_0_b67 F rc7 S12 x1 (v4 ^^^ (1 : Int32)) v10)))))) else (n_X12_findsNeeds_0_b70 F rc7 S6 x1)))))))
set_option maxRecDepth 20000 in
set_option maxHeartbeats 4000000 in
theorem w_X12_findsNeeds_0_b7_l {F : Nat} {q : (Int32 × Zs)} {S : Zs} {rc7 : Zs → Int32 → Option (Int32 × Zs)} {x1 : Int32} {ls : Array Slot} {H : Heap} {locs : List Loc} (C : zC p s m args meth c cX12_findsNeeds 3 RX12 none) (hrc7 : ∀ (S : Zs) (x1 : Int32) (H : Heap) (locs : List Loc) (ls : Array Slot), rc7 S x1 = some q → zW (mG D cs ad) s S H locs → lv_has ls 3 [(0, .ref (ad 0)), (1, .int x1)] → W p l e (zR 2 40) s m args below meth c H locs 0 0 (zQv (mG D cs ad) q below args s) (F0 m 7 ls [])) (h : n_X12_findsNeeds_0_b7_l F rc7 S x1 = some q) (hW : zW (mG D cs ad) s S H locs) (hl : lv_has ls 3 [(0, .ref (ad 0)), (1, .int x1)]) : W p l e (zR 2 40) s m args below meth c H locs 0 0 (zQv (mG D cs ad) q below args s) (F0 m 7 ls []) := by
  unfold n_X12_findsNeeds_0_b7_l at h
  obtain ⟨hx, hb, hml, hown, hts, hret, hlk⟩ := id C
  refine lv_iload_n hx hb dX12_findsNeeds_7 rfl (lv_at hl 1 rfl) ?_
  refine lv_aload_n hx hb dX12_findsNeeds_8 rfl (lv_at hl 0 rfl) ?_
  refine mg_0_18 C hW h fl_X12_156 dX12_findsNeeds_9 (fun v1 h => ?_)
  refine zz_cge (tgt := 76) C h dX12_findsNeeds_12 (by decide) (fun h => ?_) (fun h => ?_)
  · refine lv_iconst (v := 0) hx hb dX12_findsNeeds_76 (by decide) ?_
    refine lv_istore_n (lv' := [(1, .int (0 : Int32)), (0, .ref (ad 0))]) hx hb dX12_findsNeeds_77 rfl hl (by decide) rfl (fun ls hl => ?_)
    exact w_X12_findsNeeds_0_b78 (F := F) C F _ _ _ _ _ h hW (lv_sub hl [1, 0] rfl)
  · refine lv_aload_n hx hb dX12_findsNeeds_15 rfl (lv_at hl 0 rfl) ?_
    refine mg_0_17 C hW fl_X12_159 dX12_findsNeeds_16 ?_
    refine lv_iload_n hx hb dX12_findsNeeds_19 rfl (lv_at hl 1 rfl) ?_
    refine ml_6 C hW h dX12_findsNeeds_20 (fun v2 h => ?_)
    refine zz_callSi (As := [.int v2]) C hW h (fun r hr => c_X12_secondOf hr) lk_X12_27 rfl hl.1 ⟨rfl, rfl⟩ ⟨Nat.le_of_ble_eq_true rfl, Nat.le_of_ble_eq_true rfl⟩ (Nat.le_of_ble_eq_true rfl) ⟨Nat.zero_le _, Nat.zero_le _⟩ rfl dX12_findsNeeds_21 (fun v4 S3 H locs h hW => ?_)
    refine lv_istore_n (lv' := [(2, .int v4), (0, .ref (ad 0)), (1, .int x1)]) hx hb dX12_findsNeeds_24 rfl hl (by decide) rfl (fun ls hl => ?_)
    refine lv_aload_n hx hb dX12_findsNeeds_25 rfl (lv_at hl 1 rfl) ?_
    refine mg_0_17 C hW fl_X12_159 dX12_findsNeeds_26 ?_
    refine lv_iload_n hx hb dX12_findsNeeds_29 rfl (lv_at hl 2 rfl) ?_
    refine ml_6 C hW h dX12_findsNeeds_30 (fun v5 h => ?_)
    refine zz_callSi (As := [.int v5]) C hW h (fun r hr => c_X12_isOfAll hr) lk_X12_165 rfl hl.1 ⟨rfl, rfl⟩ ⟨Nat.le_of_ble_eq_true rfl, Nat.le_of_ble_eq_true rfl⟩ (Nat.le_of_ble_eq_true rfl) ⟨Nat.zero_le _, Nat.zero_le _⟩ rfl dX12_findsNeeds_31 (fun v7 S6 H locs h hW => ?_)
    refine zz_ine (tgt := 70) C h dX12_findsNeeds_34 (by decide) (fun h => ?_) (fun h => ?_)
    · exact w_X12_findsNeeds_0_b70 (F := F) C hrc7 h hW (lv_sub hl [1, 2] rfl)
    · refine lv_aload_n hx hb dX12_findsNeeds_37 rfl (lv_at hl 1 rfl) ?_
      refine lv_aload_n hx hb dX12_findsNeeds_38 rfl (lv_at hl 1 rfl) ?_
      refine mg_0_17 C hW fl_X12_159 dX12_findsNeeds_39 ?_
      refine lv_iload_n hx hb dX12_findsNeeds_42 rfl (lv_at hl 2 rfl) ?_
      refine ml_6 C hW h dX12_findsNeeds_43 (fun v8 h => ?_)
      refine zz_callSi (As := [.int v8]) C hW h (fun r hr => c_X12_firstOf hr) lk_X12_24 rfl hl.1 ⟨rfl, rfl⟩ ⟨Nat.le_of_ble_eq_true rfl, Nat.le_of_ble_eq_true rfl⟩ (Nat.le_of_ble_eq_true rfl) ⟨Nat.zero_le _, Nat.zero_le _⟩ rfl dX12_findsNeeds_44 (fun v10 S9 H locs h hW => ?_)
      refine lv_aload_n hx hb dX12_findsNeeds_47 rfl (lv_at hl 1 rfl) ?_
      refine mg_0_17 C hW fl_X12_159 dX12_findsNeeds_48 ?_
      refine lv_iload_n hx hb dX12_findsNeeds_51 rfl (lv_at hl 2 rfl) ?_
      refine ml_6 C hW h dX12_findsNeeds_52 (fun v11 h => ?_)
      refine zz_callSi (As := [.int v11]) C hW h (fun r hr => c_X12_formOf hr) lk_X12_20 rfl hl.1 ⟨rfl, rfl⟩ ⟨Nat.le_of_ble_eq_true rfl, Nat.le_of_ble_eq_true rfl⟩ (Nat.le_of_ble_eq_true rfl) ⟨Nat.zero_le _, Nat.zero_le _⟩ rfl dX12_findsNeeds_53 (fun v13 S12 H locs h hW => ?_)
      refine lv_iconst (v := 2) hx hb dX12_findsNeeds_56 (by decide) ?_
      refine zz_cne (tgt := 64) C h dX12_findsNeeds_57 (by decide) (fun h => ?_) (fun h => ?_)
      · refine lv_iload_n hx hb dX12_findsNeeds_64 rfl (lv_at hl 0 rfl) ?_
        refine lv_iconst (v := 1) hx hb dX12_findsNeeds_65 (by decide) ?_
        refine lv_ixor hx hb dX12_findsNeeds_66 ?_
        exact w_X12_findsNeeds_0_b67 (F := F) C hrc7 h hW (lv_sub hl [1, 2] rfl)
      · refine lv_iload_n hx hb dX12_findsNeeds_60 rfl (lv_at hl 0 rfl) ?_
        refine lv_goto (tgt := 67) hx hb dX12_findsNeeds_61 (by decide) ?_
        exact w_X12_findsNeeds_0_b67 (F := F) C hrc7 h hW (lv_sub hl [1, 2] rfl)
def n_X12_findsNeeds_0_b7 (F : Nat)  (S : Zs) (x1 : Int32) : Option (Int32 × Zs) :=
  zfix (fun (rc : (Zs × Int32) → Option (Int32 × Zs)) (u : (Zs × Int32)) => n_X12_findsNeeds_0_b7_l F  (fun S x1 => rc (S, x1)) u.1 u.2) F (S, x1)
theorem w_X12_findsNeeds_0_b7 {F : Nat} {q : (Int32 × Zs)}  (C : zC p s m args meth c cX12_findsNeeds 3 RX12 none)  : ∀ (n : Nat) (S : Zs) (x1 : Int32) (H : Heap) (locs : List Loc) (ls : Array Slot), zfix (fun (rc : (Zs × Int32) → Option (Int32 × Zs)) (u : (Zs × Int32)) => n_X12_findsNeeds_0_b7_l F  (fun S x1 => rc (S, x1)) u.1 u.2) n (S, x1) = some q → zW (mG D cs ad) s S H locs → lv_has ls 3 [(0, .ref (ad 0)), (1, .int x1)] → W p l e (zR 2 40) s m args below meth c H locs 0 0 (zQv (mG D cs ad) q below args s) (F0 m 7 ls []) := by
  intro n
  induction n with
  | zero => intro S x1 H locs ls h; exact absurd h (fun h => by cases h)
  | succ n ih => intro S x1 H locs ls h hW hl; exact w_X12_findsNeeds_0_b7_l (F := F) C (fun S x1 H locs ls h hW hl => ih S x1 H locs ls h hW hl) h hW hl
def n_X12_findsNeeds_0_e (F : Nat)  (S : Zs)  : Option (Int32 × Zs) :=
  zpf S 24 (0 : Int32) (fun S1 => n_X12_findsNeeds_0_b7 F  S1 (0 : Int32))
set_option maxRecDepth 20000 in
set_option maxHeartbeats 4000000 in
theorem w_X12_findsNeeds_0_e {F : Nat} {q : (Int32 × Zs)} {S : Zs}   {ls : Array Slot} {H : Heap} {locs : List Loc} (C : zC p s m args meth c cX12_findsNeeds 3 RX12 none)  (h : n_X12_findsNeeds_0_e F  S  = some q) (hW : zW (mG D cs ad) s S H locs) (hl : lv_has ls 3 [(0, .ref (ad 0))]) : W p l e (zR 2 40) s m args below meth c H locs 0 0 (zQv (mG D cs ad) q below args s) (F0 m 0 ls []) := by
  unfold n_X12_findsNeeds_0_e at h
  obtain ⟨hx, hb, hml, hown, hts, hret, hlk⟩ := id C
  refine lv_aload_n hx hb dX12_findsNeeds_0 rfl (lv_at hl 0 rfl) ?_
  refine lv_iconst (v := 0) hx hb dX12_findsNeeds_1 (by decide) ?_
  refine mp_0_24 C hW h fl_X12_274 dX12_findsNeeds_2 (fun S1 H locs h hW => ?_)
  refine lv_iconst (v := 0) hx hb dX12_findsNeeds_5 (by decide) ?_
  refine lv_istore_n (lv' := [(1, .int (0 : Int32)), (0, .ref (ad 0))]) hx hb dX12_findsNeeds_6 rfl hl (by decide) rfl (fun ls hl => ?_)
  exact w_X12_findsNeeds_0_b7 (F := F) C F _ _ _ _ _ h hW (lv_sub hl [1, 0] rfl)
def n_X12_findsNeeds_0 (F : Nat) (S : Zs)  : Option (Int32 × Zs) := n_X12_findsNeeds_0_e F  S 
theorem c_X12_findsNeeds_0 {l : Launch} {D : va_G} {cs ad : Nat → Nat} {F : Nat} {S : Zs}  {q : (Int32 × Zs)} (h : n_X12_findsNeeds_0 F S  = some q) : zMv l yX12_findsNeeds cX12_findsNeeds 3 none (zR 2 40) (mG D cs ad) [.ref (ad 0)] S q :=
  zz_enter (by decide) (Nat.le_of_ble_eq_true rfl) (fun p e s m below meth c ls C hW hl => w_X12_findsNeeds_0_e (F := F) C h hW (lv_sub hl [0] rfl))
def n_X12_maskOf_0_b46 (F : Nat) (rc4 : Zs → Int32 → Int32 → Int32 → Option (Int32 × Zs)) (S : Zs) (x1 : Int32) (x3 : Int32) (t0 : Int32) (t1 : Int32) : Option (Int32 × Zs) :=
  zlet (t1 ||| t0) (fun v1 => zlet (x3 + (1 : Int32)) (fun v2 => rc4 S x1 v1 v2))
set_option maxRecDepth 20000 in
set_option maxHeartbeats 4000000 in
theorem w_X12_maskOf_0_b46 {F : Nat} {q : (Int32 × Zs)} {S : Zs} {rc4 : Zs → Int32 → Int32 → Int32 → Option (Int32 × Zs)} {x1 : Int32} {x3 : Int32} {t0 : Int32} {t1 : Int32} {ls : Array Slot} {H : Heap} {locs : List Loc} (C : zC p s m args meth c cX12_maskOf 4 RX12 (some .int)) (hrc4 : ∀ (S : Zs) (x1 : Int32) (x2 : Int32) (x3 : Int32) (H : Heap) (locs : List Loc) (ls : Array Slot), rc4 S x1 x2 x3 = some q → zW (mG D cs ad) s S H locs → lv_has ls 4 [(0, .ref (ad 0)), (1, .int x1), (2, .int x2), (3, .int x3)] → W p l e (zR 2 42) s m args below meth c H locs 0 0 (zQi (mG D cs ad) q below args s) (F0 m 4 ls [])) (h : n_X12_maskOf_0_b46 F rc4 S x1 x3 t0 t1 = some q) (hW : zW (mG D cs ad) s S H locs) (hl : lv_has ls 4 [(0, .ref (ad 0)), (1, .int x1), (3, .int x3)]) : W p l e (zR 2 42) s m args below meth c H locs 0 0 (zQi (mG D cs ad) q below args s) (F0 m 46 ls [.int t0, .int t1]) := by
  unfold n_X12_maskOf_0_b46 at h
  obtain ⟨hx, hb, hml, hown, hts, hret, hlk⟩ := id C
  refine lv_ior hx hb dX12_maskOf_46 ?_
  refine zz_leti h (fun v1 h => ?_)
  refine lv_istore_n (lv' := [(2, .int v1), (0, .ref (ad 0)), (1, .int x1), (3, .int x3)]) hx hb dX12_maskOf_47 rfl hl (by decide) rfl (fun ls hl => ?_)
  obtain ⟨v2, ev2, h⟩ := zz_name h
  refine lv_iinc (v := v2) (lv' := [(3, .int v2), (2, .int v1), (0, .ref (ad 0)), (1, .int x1)]) hx hb dX12_maskOf_48 hl (k := 3) rfl ev2.symm (by decide) rfl (fun ls hl => ?_)
  refine lv_goto (tgt := 4) hx hb dX12_maskOf_51 (by decide) ?_
  exact hrc4 _ _ _ _ _ _ _ h hW (lv_sub hl [2, 3, 1, 0] rfl)
def n_X12_maskOf_0_b45 (F : Nat) (rc4 : Zs → Int32 → Int32 → Int32 → Option (Int32 × Zs)) (S : Zs) (x1 : Int32) (x3 : Int32) (t0 : Int32) : Option (Int32 × Zs) :=
  n_X12_maskOf_0_b46 F rc4 S x1 x3 (0 : Int32) t0
set_option maxRecDepth 20000 in
set_option maxHeartbeats 4000000 in
theorem w_X12_maskOf_0_b45 {F : Nat} {q : (Int32 × Zs)} {S : Zs} {rc4 : Zs → Int32 → Int32 → Int32 → Option (Int32 × Zs)} {x1 : Int32} {x3 : Int32} {t0 : Int32} {ls : Array Slot} {H : Heap} {locs : List Loc} (C : zC p s m args meth c cX12_maskOf 4 RX12 (some .int)) (hrc4 : ∀ (S : Zs) (x1 : Int32) (x2 : Int32) (x3 : Int32) (H : Heap) (locs : List Loc) (ls : Array Slot), rc4 S x1 x2 x3 = some q → zW (mG D cs ad) s S H locs → lv_has ls 4 [(0, .ref (ad 0)), (1, .int x1), (2, .int x2), (3, .int x3)] → W p l e (zR 2 42) s m args below meth c H locs 0 0 (zQi (mG D cs ad) q below args s) (F0 m 4 ls [])) (h : n_X12_maskOf_0_b45 F rc4 S x1 x3 t0 = some q) (hW : zW (mG D cs ad) s S H locs) (hl : lv_has ls 4 [(0, .ref (ad 0)), (1, .int x1), (3, .int x3)]) : W p l e (zR 2 42) s m args below meth c H locs 0 0 (zQi (mG D cs ad) q below args s) (F0 m 45 ls [.int t0]) := by
  unfold n_X12_maskOf_0_b45 at h
  obtain ⟨hx, hb, hml, hown, hts, hret, hlk⟩ := id C
  refine lv_iconst (v := 0) hx hb dX12_maskOf_45 (by decide) ?_
  exact w_X12_maskOf_0_b46 (F := F) C hrc4 h hW (lv_sub hl [0, 1, 2] rfl)
def n_X12_maskOf_0_b4_l (F : Nat) (rc4 : Zs → Int32 → Int32 → Int32 → Option (Int32 × Zs)) (S : Zs) (x1 : Int32) (x2 : Int32) (x3 : Int32) : Option (Int32 × Zs) :=
  zgf S 24 (fun v1 => if v1 ≤ x3 then (some (x2, S)) else (zld S 9 29 x3 (fun v2 => zcl (n_X12_isOf F S x1 v2) (fun v4 S3 => if v4 = 0 then (n_X12_maskOf_0_b45 F rc4 S3 x1 x3 x2) else (zld S3 10 29 x3 (fun v5 => zcl (n_X12_isOf F S3 x1 v5) (fun v7 S6 => if v7 = 0 then (n_X12_maskOf_0_b45 F rc4 S6 x1 x3 x2) else (n_X12_maskOf_0_b46 F rc4 S6 x1 x3 ((1 : Int32) <<< (x3 &&& 31)) x2))))))))
set_option maxRecDepth 20000 in
set_option maxHeartbeats 4000000 in
theorem w_X12_maskOf_0_b4_l {F : Nat} {q : (Int32 × Zs)} {S : Zs} {rc4 : Zs → Int32 → Int32 → Int32 → Option (Int32 × Zs)} {x1 : Int32} {x2 : Int32} {x3 : Int32} {ls : Array Slot} {H : Heap} {locs : List Loc} (C : zC p s m args meth c cX12_maskOf 4 RX12 (some .int)) (hrc4 : ∀ (S : Zs) (x1 : Int32) (x2 : Int32) (x3 : Int32) (H : Heap) (locs : List Loc) (ls : Array Slot), rc4 S x1 x2 x3 = some q → zW (mG D cs ad) s S H locs → lv_has ls 4 [(0, .ref (ad 0)), (1, .int x1), (2, .int x2), (3, .int x3)] → W p l e (zR 2 42) s m args below meth c H locs 0 0 (zQi (mG D cs ad) q below args s) (F0 m 4 ls [])) (h : n_X12_maskOf_0_b4_l F rc4 S x1 x2 x3 = some q) (hW : zW (mG D cs ad) s S H locs) (hl : lv_has ls 4 [(0, .ref (ad 0)), (1, .int x1), (2, .int x2), (3, .int x3)]) : W p l e (zR 2 42) s m args below meth c H locs 0 0 (zQi (mG D cs ad) q below args s) (F0 m 4 ls []) := by
  unfold n_X12_maskOf_0_b4_l at h
  obtain ⟨hx, hb, hml, hown, hts, hret, hlk⟩ := id C
  refine lv_iload_n hx hb dX12_maskOf_4 rfl (lv_at hl 3 rfl) ?_
  refine lv_aload_n hx hb dX12_maskOf_5 rfl (lv_at hl 0 rfl) ?_
  refine mg_0_24 C hW h fl_X12_274 dX12_maskOf_6 (fun v1 h => ?_)
  refine zz_cge (tgt := 54) C h dX12_maskOf_9 (by decide) (fun h => ?_) (fun h => ?_)
  · refine lv_iload_n hx hb dX12_maskOf_54 rfl (lv_at hl 2 rfl) ?_
    exact zz_iret C rfl h hW dX12_maskOf_55
  · refine lv_iload_n hx hb dX12_maskOf_12 rfl (lv_at hl 2 rfl) ?_
    refine lv_iload_n hx hb dX12_maskOf_13 rfl (lv_at hl 1 rfl) ?_
    refine lv_aload_n hx hb dX12_maskOf_14 rfl (lv_at hl 0 rfl) ?_
    refine mg_0_22 C hW fl_X12_271 dX12_maskOf_15 ?_
    refine lv_iload_n hx hb dX12_maskOf_18 rfl (lv_at hl 3 rfl) ?_
    refine ml_9 C hW h dX12_maskOf_19 (fun v2 h => ?_)
    refine zz_callSi (As := [.int x1, .int v2]) C hW h (fun r hr => c_X12_isOf hr) lk_X12_262 rfl hl.1 ⟨rfl, rfl⟩ ⟨Nat.le_of_ble_eq_true rfl, Nat.le_of_ble_eq_true rfl⟩ (Nat.le_of_ble_eq_true rfl) ⟨Nat.zero_le _, Nat.zero_le _⟩ rfl dX12_maskOf_20 (fun v4 S3 H locs h hW => ?_)
    refine zz_ieq (tgt := 45) C h dX12_maskOf_23 (by decide) (fun h => ?_) (fun h => ?_)
    · exact w_X12_maskOf_0_b45 (F := F) C hrc4 h hW (lv_sub hl [0, 1, 3] rfl)
    · refine lv_iload_n hx hb dX12_maskOf_26 rfl (lv_at hl 1 rfl) ?_
      refine lv_aload_n hx hb dX12_maskOf_27 rfl (lv_at hl 0 rfl) ?_
      refine mg_0_23 C hW fl_X12_277 dX12_maskOf_28 ?_
      refine lv_iload_n hx hb dX12_maskOf_31 rfl (lv_at hl 3 rfl) ?_
      refine ml_10 C hW h dX12_maskOf_32 (fun v5 h => ?_)
      refine zz_callSi (As := [.int x1, .int v5]) C hW h (fun r hr => c_X12_isOf hr) lk_X12_262 rfl hl.1 ⟨rfl, rfl⟩ ⟨Nat.le_of_ble_eq_true rfl, Nat.le_of_ble_eq_true rfl⟩ (Nat.le_of_ble_eq_true rfl) ⟨Nat.zero_le _, Nat.zero_le _⟩ rfl dX12_maskOf_33 (fun v7 S6 H locs h hW => ?_)
      refine zz_ieq (tgt := 45) C h dX12_maskOf_36 (by decide) (fun h => ?_) (fun h => ?_)
      · exact w_X12_maskOf_0_b45 (F := F) C hrc4 h hW (lv_sub hl [0, 1, 3] rfl)
      · refine lv_iconst (v := 1) hx hb dX12_maskOf_39 (by decide) ?_
        refine lv_iload_n hx hb dX12_maskOf_40 rfl (lv_at hl 3 rfl) ?_
        refine lv_ishl hx hb dX12_maskOf_41 ?_
        refine lv_goto (tgt := 46) hx hb dX12_maskOf_42 (by decide) ?_
        exact w_X12_maskOf_0_b46 (F := F) C hrc4 h hW (lv_sub hl [0, 1, 3] rfl)
def n_X12_maskOf_0_b4 (F : Nat)  (S : Zs) (x1 : Int32) (x2 : Int32) (x3 : Int32) : Option (Int32 × Zs) :=
  zfix (fun (rc : (Zs × Int32 × Int32 × Int32) → Option (Int32 × Zs)) (u : (Zs × Int32 × Int32 × Int32)) => n_X12_maskOf_0_b4_l F  (fun S x1 x2 x3 => rc (S, x1, x2, x3)) u.1 u.2.1 u.2.2.1 u.2.2.2) F (S, x1, x2, x3)
theorem w_X12_maskOf_0_b4 {F : Nat} {q : (Int32 × Zs)}  (C : zC p s m args meth c cX12_maskOf 4 RX12 (some .int))  : ∀ (n : Nat) (S : Zs) (x1 : Int32) (x2 : Int32) (x3 : Int32) (H : Heap) (locs : List Loc) (ls : Array Slot), zfix (fun (rc : (Zs × Int32 × Int32 × Int32) → Option (Int32 × Zs)) (u : (Zs × Int32 × Int32 × Int32)) => n_X12_maskOf_0_b4_l F  (fun S x1 x2 x3 => rc (S, x1, x2, x3)) u.1 u.2.1 u.2.2.1 u.2.2.2) n (S, x1, x2, x3) = some q → zW (mG D cs ad) s S H locs → lv_has ls 4 [(0, .ref (ad 0)), (1, .int x1), (2, .int x2), (3, .int x3)] → W p l e (zR 2 42) s m args below meth c H locs 0 0 (zQi (mG D cs ad) q below args s) (F0 m 4 ls []) := by
  intro n
  induction n with
  | zero => intro S x1 x2 x3 H locs ls h; exact absurd h (fun h => by cases h)
  | succ n ih => intro S x1 x2 x3 H locs ls h hW hl; exact w_X12_maskOf_0_b4_l (F := F) C (fun S x1 x2 x3 H locs ls h hW hl => ih S x1 x2 x3 H locs ls h hW hl) h hW hl
def n_X12_maskOf_0_e (F : Nat)  (S : Zs) (x1 : Int32) : Option (Int32 × Zs) :=
  n_X12_maskOf_0_b4 F  S x1 (0 : Int32) (0 : Int32)
set_option maxRecDepth 20000 in
set_option maxHeartbeats 4000000 in
theorem w_X12_maskOf_0_e {F : Nat} {q : (Int32 × Zs)} {S : Zs}  {x1 : Int32} {ls : Array Slot} {H : Heap} {locs : List Loc} (C : zC p s m args meth c cX12_maskOf 4 RX12 (some .int))  (h : n_X12_maskOf_0_e F  S x1 = some q) (hW : zW (mG D cs ad) s S H locs) (hl : lv_has ls 4 [(0, .ref (ad 0)), (1, .int x1)]) : W p l e (zR 2 42) s m args below meth c H locs 0 0 (zQi (mG D cs ad) q below args s) (F0 m 0 ls []) := by
  unfold n_X12_maskOf_0_e at h
  obtain ⟨hx, hb, hml, hown, hts, hret, hlk⟩ := id C
  refine lv_iconst (v := 0) hx hb dX12_maskOf_0 (by decide) ?_
  refine lv_istore_n (lv' := [(2, .int (0 : Int32)), (0, .ref (ad 0)), (1, .int x1)]) hx hb dX12_maskOf_1 rfl hl (by decide) rfl (fun ls hl => ?_)
  refine lv_iconst (v := 0) hx hb dX12_maskOf_2 (by decide) ?_
  refine lv_istore_n (lv' := [(3, .int (0 : Int32)), (2, .int (0 : Int32)), (0, .ref (ad 0)), (1, .int x1)]) hx hb dX12_maskOf_3 rfl hl (by decide) rfl (fun ls hl => ?_)
  exact w_X12_maskOf_0_b4 (F := F) C F _ _ _ _ _ _ _ h hW (lv_sub hl [2, 3, 1, 0] rfl)
def n_X12_maskOf_0 (F : Nat) (S : Zs) (x1 : Int32) : Option (Int32 × Zs) := n_X12_maskOf_0_e F  S x1
theorem c_X12_maskOf_0 {l : Launch} {D : va_G} {cs ad : Nat → Nat} {F : Nat} {S : Zs} {x1 : Int32} {q : (Int32 × Zs)} (h : n_X12_maskOf_0 F S x1 = some q) : zMi l yX12_maskOf cX12_maskOf 4 (some .int) (zR 2 42) (mG D cs ad) [.ref (ad 0), .int x1] S q :=
  zz_enter (by decide) (Nat.le_of_ble_eq_true rfl) (fun p e s m below meth c ls C hW hl => w_X12_maskOf_0_e (F := F) C h hW (lv_sub hl [0, 1] rfl))
def n_X12_towns_0_b291 (F : Nat) (rc201 : Zs → Int32 → Int32 → Int32 → Option (Int32 × Zs)) (rc211 : Zs → Int32 → Int32 → Int32 → Int32 → Int32 → Option (Int32 × Zs)) (S : Zs) (x1 : Int32) (x2 : Int32) (x3 : Int32) (x5 : Int32) (t0 : Int32) : Option (Int32 × Zs) :=
  zlet (x5 + (1 : Int32)) (fun v1 => rc211 S x1 x2 x3 t0 v1)
set_option maxRecDepth 20000 in
set_option maxHeartbeats 4000000 in
theorem w_X12_towns_0_b291 {F : Nat} {q : (Int32 × Zs)} {S : Zs} {rc201 : Zs → Int32 → Int32 → Int32 → Option (Int32 × Zs)} {rc211 : Zs → Int32 → Int32 → Int32 → Int32 → Int32 → Option (Int32 × Zs)} {x1 : Int32} {x2 : Int32} {x3 : Int32} {x5 : Int32} {t0 : Int32} {ls : Array Slot} {H : Heap} {locs : List Loc} (C : zC p s m args meth c cX12_towns 7 RX12 (some .int)) (hrc201 : ∀ (S : Zs) (x1 : Int32) (x2 : Int32) (x3 : Int32) (H : Heap) (locs : List Loc) (ls : Array Slot), rc201 S x1 x2 x3 = some q → zW (mG D cs ad) s S H locs → lv_has ls 7 [(0, .ref (ad 0)), (1, .int x1), (2, .int x2), (3, .int x3)] → W p l e (zR 4 85) s m args below meth c H locs 0 0 (zQi (mG D cs ad) q below args s) (F0 m 201 ls [])) (hrc211 : ∀ (S : Zs) (x1 : Int32) (x2 : Int32) (x3 : Int32) (x4 : Int32) (x5 : Int32) (H : Heap) (locs : List Loc) (ls : Array Slot), rc211 S x1 x2 x3 x4 x5 = some q → zW (mG D cs ad) s S H locs → lv_has ls 7 [(0, .ref (ad 0)), (1, .int x1), (2, .int x2), (3, .int x3), (4, .int x4), (5, .int x5)] → W p l e (zR 4 85) s m args below meth c H locs 0 0 (zQi (mG D cs ad) q below args s) (F0 m 211 ls [])) (h : n_X12_towns_0_b291 F rc201 rc211 S x1 x2 x3 x5 t0 = some q) (hW : zW (mG D cs ad) s S H locs) (hl : lv_has ls 7 [(0, .ref (ad 0)), (1, .int x1), (2, .int x2), (3, .int x3), (5, .int x5)]) : W p l e (zR 4 85) s m args below meth c H locs 0 0 (zQi (mG D cs ad) q below args s) (F0 m 291 ls [.int t0]) := by
  unfold n_X12_towns_0_b291 at h
  obtain ⟨hx, hb, hml, hown, hts, hret, hlk⟩ := id C
  refine lv_istore (lv' := [(4, .int t0), (0, .ref (ad 0)), (1, .int x1), (2, .int x2), (3, .int x3), (5, .int x5)]) hx hb dX12_towns_291 hl (by decide) rfl (fun ls hl => ?_)
  obtain ⟨v1, ev1, h⟩ := zz_name h
  refine lv_iinc (v := v1) (lv' := [(5, .int v1), (4, .int t0), (0, .ref (ad 0)), (1, .int x1), (2, .int x2), (3, .int x3)]) hx hb dX12_towns_293 hl (k := 5) rfl ev1.symm (by decide) rfl (fun ls hl => ?_)
  refine lv_goto (tgt := 211) hx hb dX12_towns_296 (by decide) ?_
  exact hrc211 _ _ _ _ _ _ _ _ _ h hW (lv_sub hl [2, 3, 4, 5, 1, 0] rfl)
def n_X12_towns_0_b289 (F : Nat) (rc201 : Zs → Int32 → Int32 → Int32 → Option (Int32 × Zs)) (rc211 : Zs → Int32 → Int32 → Int32 → Int32 → Int32 → Option (Int32 × Zs)) (S : Zs) (x1 : Int32) (x2 : Int32) (x3 : Int32) (x4 : Int32) (x5 : Int32) : Option (Int32 × Zs) :=
  n_X12_towns_0_b291 F rc201 rc211 S x1 x2 x3 x5 x4
set_option maxRecDepth 20000 in
set_option maxHeartbeats 4000000 in
theorem w_X12_towns_0_b289 {F : Nat} {q : (Int32 × Zs)} {S : Zs} {rc201 : Zs → Int32 → Int32 → Int32 → Option (Int32 × Zs)} {rc211 : Zs → Int32 → Int32 → Int32 → Int32 → Int32 → Option (Int32 × Zs)} {x1 : Int32} {x2 : Int32} {x3 : Int32} {x4 : Int32} {x5 : Int32} {ls : Array Slot} {H : Heap} {locs : List Loc} (C : zC p s m args meth c cX12_towns 7 RX12 (some .int)) (hrc201 : ∀ (S : Zs) (x1 : Int32) (x2 : Int32) (x3 : Int32) (H : Heap) (locs : List Loc) (ls : Array Slot), rc201 S x1 x2 x3 = some q → zW (mG D cs ad) s S H locs → lv_has ls 7 [(0, .ref (ad 0)), (1, .int x1), (2, .int x2), (3, .int x3)] → W p l e (zR 4 85) s m args below meth c H locs 0 0 (zQi (mG D cs ad) q below args s) (F0 m 201 ls [])) (hrc211 : ∀ (S : Zs) (x1 : Int32) (x2 : Int32) (x3 : Int32) (x4 : Int32) (x5 : Int32) (H : Heap) (locs : List Loc) (ls : Array Slot), rc211 S x1 x2 x3 x4 x5 = some q → zW (mG D cs ad) s S H locs → lv_has ls 7 [(0, .ref (ad 0)), (1, .int x1), (2, .int x2), (3, .int x3), (4, .int x4), (5, .int x5)] → W p l e (zR 4 85) s m args below meth c H locs 0 0 (zQi (mG D cs ad) q below args s) (F0 m 211 ls [])) (h : n_X12_towns_0_b289 F rc201 rc211 S x1 x2 x3 x4 x5 = some q) (hW : zW (mG D cs ad) s S H locs) (hl : lv_has ls 7 [(0, .ref (ad 0)), (1, .int x1), (2, .int x2), (3, .int x3), (4, .int x4), (5, .int x5)]) : W p l e (zR 4 85) s m args below meth c H locs 0 0 (zQi (mG D cs ad) q below args s) (F0 m 289 ls []) := by
  unfold n_X12_towns_0_b289 at h
  obtain ⟨hx, hb, hml, hown, hts, hret, hlk⟩ := id C
  refine lv_iload hx hb dX12_towns_289 (lv_at hl 4 rfl) ?_
  exact w_X12_towns_0_b291 (F := F) C hrc201 hrc211 h hW (lv_sub hl [0, 1, 2, 3, 5] rfl)
def n_X12_towns_0_b284 (F : Nat) (rc201 : Zs → Int32 → Int32 → Int32 → Option (Int32 × Zs)) (rc211 : Zs → Int32 → Int32 → Int32 → Int32 → Int32 → Option (Int32 × Zs)) (S : Zs) (x1 : Int32) (x2 : Int32) (x3 : Int32) (x5 : Int32) : Option (Int32 × Zs) :=
  n_X12_towns_0_b291 F rc201 rc211 S x1 x2 x3 x5 x5
set_option maxRecDepth 20000 in
set_option maxHeartbeats 4000000 in
theorem w_X12_towns_0_b284 {F : Nat} {q : (Int32 × Zs)} {S : Zs} {rc201 : Zs → Int32 → Int32 → Int32 → Option (Int32 × Zs)} {rc211 : Zs → Int32 → Int32 → Int32 → Int32 → Int32 → Option (Int32 × Zs)} {x1 : Int32} {x2 : Int32} {x3 : Int32} {x5 : Int32} {ls : Array Slot} {H : Heap} {locs : List Loc} (C : zC p s m args meth c cX12_towns 7 RX12 (some .int)) (hrc201 : ∀ (S : Zs) (x1 : Int32) (x2 : Int32) (x3 : Int32) (H : Heap) (locs : List Loc) (ls : Array Slot), rc201 S x1 x2 x3 = some q → zW (mG D cs ad) s S H locs → lv_has ls 7 [(0, .ref (ad 0)), (1, .int x1), (2, .int x2), (3, .int x3)] → W p l e (zR 4 85) s m args below meth c H locs 0 0 (zQi (mG D cs ad) q below args s) (F0 m 201 ls [])) (hrc211 : ∀ (S : Zs) (x1 : Int32) (x2 : Int32) (x3 : Int32) (x4 : Int32) (x5 : Int32) (H : Heap) (locs : List Loc) (ls : Array Slot), rc211 S x1 x2 x3 x4 x5 = some q → zW (mG D cs ad) s S H locs → lv_has ls 7 [(0, .ref (ad 0)), (1, .int x1), (2, .int x2), (3, .int x3), (4, .int x4), (5, .int x5)] → W p l e (zR 4 85) s m args below meth c H locs 0 0 (zQi (mG D cs ad) q below args s) (F0 m 211 ls [])) (h : n_X12_towns_0_b284 F rc201 rc211 S x1 x2 x3 x5 = some q) (hW : zW (mG D cs ad) s S H locs) (hl : lv_has ls 7 [(0, .ref (ad 0)), (1, .int x1), (2, .int x2), (3, .int x3), (5, .int x5)]) : W p l e (zR 4 85) s m args below meth c H locs 0 0 (zQi (mG D cs ad) q below args s) (F0 m 284 ls []) := by
  unfold n_X12_towns_0_b284 at h
  obtain ⟨hx, hb, hml, hown, hts, hret, hlk⟩ := id C
  refine lv_iload hx hb dX12_towns_284 (lv_at hl 4 rfl) ?_
  refine lv_goto (tgt := 291) hx hb dX12_towns_286 (by decide) ?_
  exact w_X12_towns_0_b291 (F := F) C hrc201 hrc211 h hW (lv_sub hl [0, 1, 2, 3, 4] rfl)
def n_X12_towns_0_b255 (F : Nat) (rc201 : Zs → Int32 → Int32 → Int32 → Option (Int32 × Zs)) (rc211 : Zs → Int32 → Int32 → Int32 → Int32 → Int32 → Option (Int32 × Zs)) (S : Zs) (x1 : Int32) (x2 : Int32) (x3 : Int32) (x4 : Int32) (x5 : Int32) (t0 : Int32) : Option (Int32 × Zs) :=
  if t0 = 0 then (n_X12_towns_0_b289 F rc201 rc211 S x1 x2 x3 x4 x5) else (if x4 < 0 then (n_X12_towns_0_b284 F rc201 rc211 S x1 x2 x3 x5) else (zld S 11 4096 x5 (fun v1 => zld S 11 4096 x4 (fun v2 => if v2 ≤ v1 then (n_X12_towns_0_b289 F rc201 rc211 S x1 x2 x3 x4 x5) else (n_X12_towns_0_b284 F rc201 rc211 S x1 x2 x3 x5)))))
set_option maxRecDepth 20000 in
set_option maxHeartbeats 4000000 in
theorem w_X12_towns_0_b255 {F : Nat} {q : (Int32 × Zs)} {S : Zs} {rc201 : Zs → Int32 → Int32 → Int32 → Option (Int32 × Zs)} {rc211 : Zs → Int32 → Int32 → Int32 → Int32 → Int32 → Option (Int32 × Zs)} {x1 : Int32} {x2 : Int32} {x3 : Int32} {x4 : Int32} {x5 : Int32} {t0 : Int32} {ls : Array Slot} {H : Heap} {locs : List Loc} (C : zC p s m args meth c cX12_towns 7 RX12 (some .int)) (hrc201 : ∀ (S : Zs) (x1 : Int32) (x2 : Int32) (x3 : Int32) (H : Heap) (locs : List Loc) (ls : Array Slot), rc201 S x1 x2 x3 = some q → zW (mG D cs ad) s S H locs → lv_has ls 7 [(0, .ref (ad 0)), (1, .int x1), (2, .int x2), (3, .int x3)] → W p l e (zR 4 85) s m args below meth c H locs 0 0 (zQi (mG D cs ad) q below args s) (F0 m 201 ls [])) (hrc211 : ∀ (S : Zs) (x1 : Int32) (x2 : Int32) (x3 : Int32) (x4 : Int32) (x5 : Int32) (H : Heap) (locs : List Loc) (ls : Array Slot), rc211 S x1 x2 x3 x4 x5 = some q → zW (mG D cs ad) s S H locs → lv_has ls 7 [(0, .ref (ad 0)), (1, .int x1), (2, .int x2), (3, .int x3), (4, .int x4), (5, .int x5)] → W p l e (zR 4 85) s m args below meth c H locs 0 0 (zQi (mG D cs ad) q below args s) (F0 m 211 ls [])) (h : n_X12_towns_0_b255 F rc201 rc211 S x1 x2 x3 x4 x5 t0 = some q) (hW : zW (mG D cs ad) s S H locs) (hl : lv_has ls 7 [(0, .ref (ad 0)), (1, .int x1), (2, .int x2), (3, .int x3), (4, .int x4), (5, .int x5)]) : W p l e (zR 4 85) s m args below meth c H locs 0 0 (zQi (mG D cs ad) q below args s) (F0 m 255 ls [.int t0]) := by
  unfold n_X12_towns_0_b255 at h
  obtain ⟨hx, hb, hml, hown, hts, hret, hlk⟩ := id C
  refine lv_istore (lv' := [(6, .int t0), (0, .ref (ad 0)), (1, .int x1), (2, .int x2), (3, .int x3), (4, .int x4), (5, .int x5)]) hx hb dX12_towns_255 hl (by decide) rfl (fun ls hl => ?_)
  refine lv_iload hx hb dX12_towns_257 (lv_at hl 0 rfl) ?_
  refine zz_ieq (tgt := 289) C h dX12_towns_259 (by decide) (fun h => ?_) (fun h => ?_)
  · exact w_X12_towns_0_b289 (F := F) C hrc201 hrc211 h hW (lv_sub hl [1, 2, 3, 4, 5, 6] rfl)
  · refine lv_iload hx hb dX12_towns_262 (lv_at hl 5 rfl) ?_
    refine zz_ilt (tgt := 284) C h dX12_towns_264 (by decide) (fun h => ?_) (fun h => ?_)
    · exact w_X12_towns_0_b284 (F := F) C hrc201 hrc211 h hW (lv_sub hl [1, 2, 3, 4, 6] rfl)
    · refine lv_aload_n hx hb dX12_towns_267 rfl (lv_at hl 1 rfl) ?_
      refine mg_0_25 C hW fl_X12_286 dX12_towns_268 ?_
      refine lv_iload hx hb dX12_towns_271 (lv_at hl 6 rfl) ?_
      refine ml_11 C hW h dX12_towns_273 (fun v1 h => ?_)
      refine lv_aload_n hx hb dX12_towns_274 rfl (lv_at hl 1 rfl) ?_
      refine mg_0_25 C hW fl_X12_286 dX12_towns_275 ?_
      refine lv_iload hx hb dX12_towns_278 (lv_at hl 5 rfl) ?_
      refine ml_11 C hW h dX12_towns_280 (fun v2 h => ?_)
      refine zz_cge (tgt := 289) C h dX12_towns_281 (by decide) (fun h => ?_) (fun h => ?_)
      · exact w_X12_towns_0_b289 (F := F) C hrc201 hrc211 h hW (lv_sub hl [1, 2, 3, 4, 5, 6] rfl)
      · exact w_X12_towns_0_b284 (F := F) C hrc201 hrc211 h hW (lv_sub hl [1, 2, 3, 4, 6] rfl)
def n_X12_towns_0_b254 (F : Nat) (rc201 : Zs → Int32 → Int32 → Int32 → Option (Int32 × Zs)) (rc211 : Zs → Int32 → Int32 → Int32 → Int32 → Int32 → Option (Int32 × Zs)) (S : Zs) (x1 : Int32) (x2 : Int32) (x3 : Int32) (x4 : Int32) (x5 : Int32) : Option (Int32 × Zs) :=
  n_X12_towns_0_b255 F rc201 rc211 S x1 x2 x3 x4 x5 (0 : Int32)
set_option maxRecDepth 20000 in
set_option maxHeartbeats 4000000 in
theorem w_X12_towns_0_b254 {F : Nat} {q : (Int32 × Zs)} {S : Zs} {rc201 : Zs → Int32 → Int32 → Int32 → Option (Int32 × Zs)} {rc211 : Zs → Int32 → Int32 → Int32 → Int32 → Int32 → Option (Int32 × Zs)} {x1 : Int32} {x2 : Int32} {x3 : Int32} {x4 : Int32} {x5 : Int32} {ls : Array Slot} {H : Heap} {locs : List Loc} (C : zC p s m args meth c cX12_towns 7 RX12 (some .int)) (hrc201 : ∀ (S : Zs) (x1 : Int32) (x2 : Int32) (x3 : Int32) (H : Heap) (locs : List Loc) (ls : Array Slot), rc201 S x1 x2 x3 = some q → zW (mG D cs ad) s S H locs → lv_has ls 7 [(0, .ref (ad 0)), (1, .int x1), (2, .int x2), (3, .int x3)] → W p l e (zR 4 85) s m args below meth c H locs 0 0 (zQi (mG D cs ad) q below args s) (F0 m 201 ls [])) (hrc211 : ∀ (S : Zs) (x1 : Int32) (x2 : Int32) (x3 : Int32) (x4 : Int32) (x5 : Int32) (H : Heap) (locs : List Loc) (ls : Array Slot), rc211 S x1 x2 x3 x4 x5 = some q → zW (mG D cs ad) s S H locs → lv_has ls 7 [(0, .ref (ad 0)), (1, .int x1), (2, .int x2), (3, .int x3), (4, .int x4), (5, .int x5)] → W p l e (zR 4 85) s m args below meth c H locs 0 0 (zQi (mG D cs ad) q below args s) (F0 m 211 ls [])) (h : n_X12_towns_0_b254 F rc201 rc211 S x1 x2 x3 x4 x5 = some q) (hW : zW (mG D cs ad) s S H locs) (hl : lv_has ls 7 [(0, .ref (ad 0)), (1, .int x1), (2, .int x2), (3, .int x3), (4, .int x4), (5, .int x5)]) : W p l e (zR 4 85) s m args below meth c H locs 0 0 (zQi (mG D cs ad) q below args s) (F0 m 254 ls []) := by
  unfold n_X12_towns_0_b254 at h
  obtain ⟨hx, hb, hml, hown, hts, hret, hlk⟩ := id C
  refine lv_iconst (v := 0) hx hb dX12_towns_254 (by decide) ?_
  exact w_X12_towns_0_b255 (F := F) C hrc201 hrc211 h hW (lv_sub hl [0, 1, 2, 3, 4, 5] rfl)
def n_X12_towns_0_b211_l (F : Nat) (rc201 : Zs → Int32 → Int32 → Int32 → Option (Int32 × Zs)) (rc211 : Zs → Int32 → Int32 → Int32 → Int32 → Int32 → Option (Int32 × Zs)) (S : Zs) (x1 : Int32) (x2 : Int32) (x3 : Int32) (x4 : Int32) (x5 : Int32) : Option (Int32 × Zs) :=
  if x1 < x5 then (zld S 11 4096 x4 (fun v1 => zcl (n_X12_enters_0 F S v1) (fun v3 S2 => zld S2 11 4096 x4 (fun v4 => zlet (x2 &&& (x4 ^^^ (-1 : Int32))) (fun v5 => rc201 S2 x1 v5 v4))))) else (zld S 11 4096 x5 (fun v6 => if v6 ≤ x3 then (n_X12_towns_0_b254 F rc201 rc211 S x1 x2 x3 x4 x5) else (zld S 12 4096 (x2 &&& (x5 ^^^ (-1 : Int32))) (fun v7 => zld S 12 4096 x2 (fun v8 => if v7 = (v8 - (1 : Int32)) then (n_X12_towns_0_b255 F rc201 rc211 S x1 x2 x3 x4 x5 (1 : Int32)) else (n_X12_towns_0_b254 F rc201 rc211 S x1 x2 x3 x4 x5))))))
set_option maxRecDepth 20000 in
set_option maxHeartbeats 4000000 in
theorem w_X12_towns_0_b211_l {F : Nat} {q : (Int32 × Zs)} {S : Zs} {rc201 : Zs → Int32 → Int32 → Int32 → Option (Int32 × Zs)} {rc211 : Zs → Int32 → Int32 → Int32 → Int32 → Int32 → Option (Int32 × Zs)} {x1 : Int32} {x2 : Int32} {x3 : Int32} {x4 : Int32} {x5 : Int32} {ls : Array Slot} {H : Heap} {locs : List Loc} (C : zC p s m args meth c cX12_towns 7 RX12 (some .int)) (hrc201 : ∀ (S : Zs) (x1 : Int32) (x2 : Int32) (x3 : Int32) (H : Heap) (locs : List Loc) (ls : Array Slot), rc201 S x1 x2 x3 = some q → zW (mG D cs ad) s S H locs → lv_has ls 7 [(0, .ref (ad 0)), (1, .int x1), (2, .int x2), (3, .int x3)] → W p l e (zR 4 85) s m args below meth c H locs 0 0 (zQi (mG D cs ad) q below args s) (F0 m 201 ls [])) (hrc211 : ∀ (S : Zs) (x1 : Int32) (x2 : Int32) (x3 : Int32) (x4 : Int32) (x5 : Int32) (H : Heap) (locs : List Loc) (ls : Array Slot), rc211 S x1 x2 x3 x4 x5 = some q → zW (mG D cs ad) s S H locs → lv_has ls 7 [(0, .ref (ad 0)), (1, .int x1), (2, .int x2), (3, .int x3), (4, .int x4), (5, .int x5)] → W p l e (zR 4 85) s m args below meth c H locs 0 0 (zQi (mG D cs ad) q below args s) (F0 m 211 ls [])) (h : n_X12_towns_0_b211_l F rc201 rc211 S x1 x2 x3 x4 x5 = some q) (hW : zW (mG D cs ad) s S H locs) (hl : lv_has ls 7 [(0, .ref (ad 0)), (1, .int x1), (2, .int x2), (3, .int x3), (4, .int x4), (5, .int x5)]) : W p l e (zR 4 85) s m args below meth c H locs 0 0 (zQi (mG D cs ad) q below args s) (F0 m 211 ls []) := by
  unfold n_X12_towns_0_b211_l at h
  obtain ⟨hx, hb, hml, hown, hts, hret, hlk⟩ := id C
  refine lv_iload hx hb dX12_towns_211 (lv_at hl 5 rfl) ?_
  refine lv_iload_n hx hb dX12_towns_213 rfl (lv_at hl 1 rfl) ?_
  refine zz_cgt (tgt := 299) C h dX12_towns_214 (by decide) (fun h => ?_) (fun h => ?_)
  · refine lv_aload_n hx hb dX12_towns_299 rfl (lv_at hl 0 rfl) ?_
    refine lv_aload_n hx hb dX12_towns_300 rfl (lv_at hl 0 rfl) ?_
    refine mg_0_25 C hW fl_X12_286 dX12_towns_301 ?_
    refine lv_iload hx hb dX12_towns_304 (lv_at hl 4 rfl) ?_
    refine ml_11 C hW h dX12_towns_306 (fun v1 h => ?_)
    refine zz_callVv (As := [.int v1]) C hW h (fun r hr => c_X12_enters_0 hr) lk_X12_221 (hW.recv mr_0) rfl hl.1 ⟨rfl, rfl⟩ ⟨Nat.le_of_ble_eq_true rfl, Nat.le_of_ble_eq_true rfl⟩ (Nat.le_of_ble_eq_true rfl) ⟨Nat.zero_le _, Nat.zero_le _⟩ rfl dX12_towns_307 (fun v3 S2 H locs h hW => ?_)
    refine lv_aload_n hx hb dX12_towns_310 rfl (lv_at hl 0 rfl) ?_
    refine mg_0_25 C hW fl_X12_286 dX12_towns_311 ?_
    refine lv_iload hx hb dX12_towns_314 (lv_at hl 4 rfl) ?_
    refine ml_11 C hW h dX12_towns_316 (fun v4 h => ?_)
    refine lv_istore_n (lv' := [(3, .int v4), (0, .ref (ad 0)), (1, .int x1), (2, .int x2), (4, .int x4), (5, .int x5)]) hx hb dX12_towns_317 rfl hl (by decide) rfl (fun ls hl => ?_)
    refine lv_iload_n hx hb dX12_towns_318 rfl (lv_at hl 3 rfl) ?_
    refine lv_iload hx hb dX12_towns_319 (lv_at hl 4 rfl) ?_
    refine lv_iconst (v := -1) hx hb dX12_towns_321 (by decide) ?_
    refine lv_ixor hx hb dX12_towns_322 ?_
    refine lv_iand hx hb dX12_towns_323 ?_
    refine zz_leti h (fun v5 h => ?_)
    refine lv_istore_n (lv' := [(2, .int v5), (3, .int v4), (0, .ref (ad 0)), (1, .int x1), (4, .int x4), (5, .int x5)]) hx hb dX12_towns_324 rfl hl (by decide) rfl (fun ls hl => ?_)
    refine lv_goto (tgt := 201) hx hb dX12_towns_325 (by decide) ?_
    exact hrc201 _ _ _ _ _ _ _ h hW (lv_sub hl [2, 3, 0, 1] rfl)
  · refine lv_aload_n hx hb dX12_towns_217 rfl (lv_at hl 0 rfl) ?_
    refine mg_0_25 C hW fl_X12_286 dX12_towns_218 ?_
    refine lv_iload hx hb dX12_towns_221 (lv_at hl 5 rfl) ?_
    refine ml_11 C hW h dX12_towns_223 (fun v6 h => ?_)
    refine lv_iload_n hx hb dX12_towns_224 rfl (lv_at hl 3 rfl) ?_
    refine zz_cle (tgt := 254) C h dX12_towns_225 (by decide) (fun h => ?_) (fun h => ?_)
    · exact w_X12_towns_0_b254 (F := F) C hrc201 hrc211 h hW (lv_sub hl [0, 1, 2, 3, 4, 5] rfl)
    · refine lv_aload_n hx hb dX12_towns_228 rfl (lv_at hl 0 rfl) ?_
      refine mg_0_26 C hW fl_X12_292 dX12_towns_229 ?_
      refine lv_iload_n hx hb dX12_towns_232 rfl (lv_at hl 2 rfl) ?_
      refine lv_iload hx hb dX12_towns_233 (lv_at hl 5 rfl) ?_
      refine lv_iconst (v := -1) hx hb dX12_towns_235 (by decide) ?_
      refine lv_ixor hx hb dX12_towns_236 ?_
      refine lv_iand hx hb dX12_towns_237 ?_
      refine ml_12 C hW h dX12_towns_238 (fun v7 h => ?_)
      refine lv_aload_n hx hb dX12_towns_239 rfl (lv_at hl 0 rfl) ?_
      refine mg_0_26 C hW fl_X12_292 dX12_towns_240 ?_
      refine lv_iload_n hx hb dX12_towns_243 rfl (lv_at hl 2 rfl) ?_
      refine ml_12 C hW h dX12_towns_244 (fun v8 h => ?_)
      refine lv_iconst (v := 1) hx hb dX12_towns_245 (by decide) ?_
      refine lv_isub hx hb dX12_towns_246 ?_
      refine zz_cne (tgt := 254) C h dX12_towns_247 (by decide) (fun h => ?_) (fun h => ?_)
      · exact w_X12_towns_0_b254 (F := F) C hrc201 hrc211 h hW (lv_sub hl [0, 1, 2, 3, 4, 5] rfl)
      · refine lv_iconst (v := 1) hx hb dX12_towns_250 (by decide) ?_
        refine lv_goto (tgt := 255) hx hb dX12_towns_251 (by decide) ?_
        exact w_X12_towns_0_b255 (F := F) C hrc201 hrc211 h hW (lv_sub hl [0, 1, 2, 3, 4, 5] rfl)
def n_X12_towns_0_b211 (F : Nat) (rc201 : Zs → Int32 → Int32 → Int32 → Option (Int32 × Zs)) (S : Zs) (x1 : Int32) (x2 : Int32) (x3 : Int32) (x4 : Int32) (x5 : Int32) : Option (Int32 × Zs) :=
  zfix (fun (rc : (Zs × Int32 × Int32 × Int32 × Int32 × Int32) → Option (Int32 × Zs)) (u : (Zs × Int32 × Int32 × Int32 × Int32 × Int32)) => n_X12_towns_0_b211_l F rc201 (fun S x1 x2 x3 x4 x5 => rc (S, x1, x2, x3, x4, x5)) u.1 u.2.1 u.2.2.1 u.2.2.2.1 u.2.2.2.2.1 u.2.2.2.2.2) F (S, x1, x2, x3, x4, x5)
theorem w_X12_towns_0_b211 {F : Nat} {q : (Int32 × Zs)} {rc201 : Zs → Int32 → Int32 → Int32 → Option (Int32 × Zs)} (C : zC p s m args meth c cX12_towns 7 RX12 (some .int)) (hrc201 : ∀ (S : Zs) (x1 : Int32) (x2 : Int32) (x3 : Int32) (H : Heap) (locs : List Loc) (ls : Array Slot), rc201 S x1 x2 x3 = some q → zW (mG D cs ad) s S H locs → lv_has ls 7 [(0, .ref (ad 0)), (1, .int x1), (2, .int x2), (3, .int x3)] → W p l e (zR 4 85) s m args below meth c H locs 0 0 (zQi (mG D cs ad) q below args s) (F0 m 201 ls [])) : ∀ (n : Nat) (S : Zs) (x1 : Int32) (x2 : Int32) (x3 : Int32) (x4 : Int32) (x5 : Int32) (H : Heap) (locs : List Loc) (ls : Array Slot), zfix (fun (rc : (Zs × Int32 × Int32 × Int32 × Int32 × Int32) → Option (Int32 × Zs)) (u : (Zs × Int32 × Int32 × Int32 × Int32 × Int32)) => n_X12_towns_0_b211_l F rc201 (fun S x1 x2 x3 x4 x5 => rc (S, x1, x2, x3, x4, x5)) u.1 u.2.1 u.2.2.1 u.2.2.2.1 u.2.2.2.2.1 u.2.2.2.2.2) n (S, x1, x2, x3, x4, x5) = some q → zW (mG D cs ad) s S H locs → lv_has ls 7 [(0, .ref (ad 0)), (1, .int x1), (2, .int x2), (3, .int x3), (4, .int x4), (5, .int x5)] → W p l e (zR 4 85) s m args below meth c H locs 0 0 (zQi (mG D cs ad) q below args s) (F0 m 211 ls []) := by
  intro n
  induction n with
  | zero => intro S x1 x2 x3 x4 x5 H locs ls h; exact absurd h (fun h => by cases h)
  | succ n ih => intro S x1 x2 x3 x4 x5 H locs ls h hW hl; exact w_X12_towns_0_b211_l (F := F) C hrc201 (fun S x1 x2 x3 x4 x5 H locs ls h hW hl => ih S x1 x2 x3 x4 x5 H locs ls h hW hl) h hW hl
def n_X12_towns_0_b201_l (F : Nat) (rc201 : Zs → Int32 → Int32 → Int32 → Option (Int32 × Zs)) (S : Zs) (x1 : Int32) (x2 : Int32) (x3 : Int32) : Option (Int32 × Zs) :=
  if x2 = 0 then (zld S 12 4096 x1 (fun v1 => some (v1, S))) else (n_X12_towns_0_b211 F rc201 S x1 x2 x3 (-1 : Int32) (1 : Int32))
set_option maxRecDepth 20000 in
set_option maxHeartbeats 4000000 in
theorem w_X12_towns_0_b201_l {F : Nat} {q : (Int32 × Zs)} {S : Zs} {rc201 : Zs → Int32 → Int32 → Int32 → Option (Int32 × Zs)} {x1 : Int32} {x2 : Int32} {x3 : Int32} {ls : Array Slot} {H : Heap} {locs : List Loc} (C : zC p s m args meth c cX12_towns 7 RX12 (some .int)) (hrc201 : ∀ (S : Zs) (x1 : Int32) (x2 : Int32) (x3 : Int32) (H : Heap) (locs : List Loc) (ls : Array Slot), rc201 S x1 x2 x3 = some q → zW (mG D cs ad) s S H locs → lv_has ls 7 [(0, .ref (ad 0)), (1, .int x1), (2, .int x2), (3, .int x3)] → W p l e (zR 4 85) s m args below meth c H locs 0 0 (zQi (mG D cs ad) q below args s) (F0 m 201 ls [])) (h : n_X12_towns_0_b201_l F rc201 S x1 x2 x3 = some q) (hW : zW (mG D cs ad) s S H locs) (hl : lv_has ls 7 [(0, .ref (ad 0)), (1, .int x1), (2, .int x2), (3, .int x3)]) : W p l e (zR 4 85) s m args below meth c H locs 0 0 (zQi (mG D cs ad) q below args s) (F0 m 201 ls []) := by
  unfold n_X12_towns_0_b201_l at h
  obtain ⟨hx, hb, hml, hown, hts, hret, hlk⟩ := id C
  refine lv_iload_n hx hb dX12_towns_201 rfl (lv_at hl 2 rfl) ?_
  refine zz_ieq (tgt := 328) C h dX12_towns_202 (by decide) (fun h => ?_) (fun h => ?_)
  · refine lv_aload_n hx hb dX12_towns_328 rfl (lv_at hl 0 rfl) ?_
    refine mg_0_26 C hW fl_X12_292 dX12_towns_329 ?_
    refine lv_iload_n hx hb dX12_towns_332 rfl (lv_at hl 1 rfl) ?_
    refine ml_12 C hW h dX12_towns_333 (fun v1 h => ?_)
    exact zz_iret C rfl h hW dX12_towns_334
  · refine lv_iconst (v := -1) hx hb dX12_towns_205 (by decide) ?_
    refine lv_istore (lv' := [(4, .int (-1 : Int32)), (0, .ref (ad 0)), (1, .int x1), (2, .int x2), (3, .int x3)]) hx hb dX12_towns_206 hl (by decide) rfl (fun ls hl => ?_)
    refine lv_iconst (v := 1) hx hb dX12_towns_208 (by decide) ?_
    refine lv_istore (lv' := [(5, .int (1 : Int32)), (4, .int (-1 : Int32)), (0, .ref (ad 0)), (1, .int x1), (2, .int x2), (3, .int x3)]) hx hb dX12_towns_209 hl (by decide) rfl (fun ls hl => ?_)
    exact w_X12_towns_0_b211 (F := F) C hrc201 F _ _ _ _ _ _ _ _ _ h hW (lv_sub hl [2, 3, 4, 5, 1, 0] rfl)
def n_X12_towns_0_b201 (F : Nat)  (S : Zs) (x1 : Int32) (x2 : Int32) (x3 : Int32) : Option (Int32 × Zs) :=
  zfix (fun (rc : (Zs × Int32 × Int32 × Int32) → Option (Int32 × Zs)) (u : (Zs × Int32 × Int32 × Int32)) => n_X12_towns_0_b201_l F  (fun S x1 x2 x3 => rc (S, x1, x2, x3)) u.1 u.2.1 u.2.2.1 u.2.2.2) F (S, x1, x2, x3)
theorem w_X12_towns_0_b201 {F : Nat} {q : (Int32 × Zs)}  (C : zC p s m args meth c cX12_towns 7 RX12 (some .int))  : ∀ (n : Nat) (S : Zs) (x1 : Int32) (x2 : Int32) (x3 : Int32) (H : Heap) (locs : List Loc) (ls : Array Slot), zfix (fun (rc : (Zs × Int32 × Int32 × Int32) → Option (Int32 × Zs)) (u : (Zs × Int32 × Int32 × Int32)) => n_X12_towns_0_b201_l F  (fun S x1 x2 x3 => rc (S, x1, x2, x3)) u.1 u.2.1 u.2.2.1 u.2.2.2) n (S, x1, x2, x3) = some q → zW (mG D cs ad) s S H locs → lv_has ls 7 [(0, .ref (ad 0)), (1, .int x1), (2, .int x2), (3, .int x3)] → W p l e (zR 4 85) s m args below meth c H locs 0 0 (zQi (mG D cs ad) q below args s) (F0 m 201 ls []) := by
  intro n
  induction n with
  | zero => intro S x1 x2 x3 H locs ls h; exact absurd h (fun h => by cases h)
  | succ n ih => intro S x1 x2 x3 H locs ls h hW hl; exact w_X12_towns_0_b201_l (F := F) C (fun S x1 x2 x3 H locs ls h hW hl => ih S x1 x2 x3 H locs ls h hW hl) h hW hl
def n_X12_towns_0_b180 (F : Nat) (rc118 : Zs → Int32 → Int32 → Option (Int32 × Zs)) (rc133 : Zs → Int32 → Int32 → Int32 → Option (Int32 × Zs)) (S : Zs) (x1 : Int32) (x2 : Int32) (x3 : Int32) : Option (Int32 × Zs) :=
  zlet (x3 + (1 : Int32)) (fun v1 => rc133 S x1 x2 v1)
set_option maxRecDepth 20000 in
set_option maxHeartbeats 4000000 in
theorem w_X12_towns_0_b180 {F : Nat} {q : (Int32 × Zs)} {S : Zs} {rc118 : Zs → Int32 → Int32 → Option (Int32 × Zs)} {rc133 : Zs → Int32 → Int32 → Int32 → Option (Int32 × Zs)} {x1 : Int32} {x2 : Int32} {x3 : Int32} {ls : Array Slot} {H : Heap} {locs : List Loc} (C : zC p s m args meth c cX12_towns 7 RX12 (some .int)) (hrc118 : ∀ (S : Zs) (x1 : Int32) (x2 : Int32) (H : Heap) (locs : List Loc) (ls : Array Slot), rc118 S x1 x2 = some q → zW (mG D cs ad) s S H locs → lv_has ls 7 [(0, .ref (ad 0)), (1, .int x1), (2, .int x2)] → W p l e (zR 4 85) s m args below meth c H locs 0 0 (zQi (mG D cs ad) q below args s) (F0 m 118 ls [])) (hrc133 : ∀ (S : Zs) (x1 : Int32) (x2 : Int32) (x3 : Int32) (H : Heap) (locs : List Loc) (ls : Array Slot), rc133 S x1 x2 x3 = some q → zW (mG D cs ad) s S H locs → lv_has ls 7 [(0, .ref (ad 0)), (1, .int x1), (2, .int x2), (3, .int x3)] → W p l e (zR 4 85) s m args below meth c H locs 0 0 (zQi (mG D cs ad) q below args s) (F0 m 133 ls [])) (h : n_X12_towns_0_b180 F rc118 rc133 S x1 x2 x3 = some q) (hW : zW (mG D cs ad) s S H locs) (hl : lv_has ls 7 [(0, .ref (ad 0)), (1, .int x1), (2, .int x2), (3, .int x3)]) : W p l e (zR 4 85) s m args below meth c H locs 0 0 (zQi (mG D cs ad) q below args s) (F0 m 180 ls []) := by
  unfold n_X12_towns_0_b180 at h
  obtain ⟨hx, hb, hml, hown, hts, hret, hlk⟩ := id C
  obtain ⟨v1, ev1, h⟩ := zz_name h
  refine lv_iinc (v := v1) (lv' := [(3, .int v1), (0, .ref (ad 0)), (1, .int x1), (2, .int x2)]) hx hb dX12_towns_180 hl (k := 3) rfl ev1.symm (by decide) rfl (fun ls hl => ?_)
  refine lv_goto (tgt := 133) hx hb dX12_towns_183 (by decide) ?_
  exact hrc133 _ _ _ _ _ _ _ h hW (lv_sub hl [1, 2, 3, 0] rfl)
def n_X12_towns_0_b133_l (F : Nat) (rc118 : Zs → Int32 → Int32 → Option (Int32 × Zs)) (rc133 : Zs → Int32 → Int32 → Int32 → Option (Int32 × Zs)) (S : Zs) (x1 : Int32) (x2 : Int32) (x3 : Int32) : Option (Int32 × Zs) :=
  if x1 < x3 then (zlet (x2 + (1 : Int32)) (fun v1 => rc118 S x1 v1)) else (zld S 11 4096 x3 (fun v2 => if v2 < 0 then (n_X12_towns_0_b180 F rc118 rc133 S x1 x2 x3) else (if (x3 &&& x2) = 0 then (n_X12_towns_0_b180 F rc118 rc133 S x1 x2 x3) else (zld S 12 4096 x2 (fun v3 => zld S 12 4096 (x2 &&& (x3 ^^^ (-1 : Int32))) (fun v4 => zlet (if ((1 : Int32) + v4) < v3 then ((1 : Int32) + v4) else v3) (fun v5 => zst S 12 4096 x2 v5 (fun S6 => n_X12_towns_0_b180 F rc118 rc133 S6 x1 x2 x3))))))))
set_option maxRecDepth 20000 in
set_option maxHeartbeats 4000000 in
theorem w_X12_towns_0_b133_l {F : Nat} {q : (Int32 × Zs)} {S : Zs} {rc118 : Zs → Int32 → Int32 → Option (Int32 × Zs)} {rc133 : Zs → Int32 → Int32 → Int32 → Option (Int32 × Zs)} {x1 : Int32} {x2 : Int32} {x3 : Int32} {ls : Array Slot} {H : Heap} {locs : List Loc} (C : zC p s m args meth c cX12_towns 7 RX12 (some .int)) (hrc118 : ∀ (S : Zs) (x1 : Int32) (x2 : Int32) (H : Heap) (locs : List Loc) (ls : Array Slot), rc118 S x1 x2 = some q → zW (mG D cs ad) s S H locs → lv_has ls 7 [(0, .ref (ad 0)), (1, .int x1), (2, .int x2)] → W p l e (zR 4 85) s m args below meth c H locs 0 0 (zQi (mG D cs ad) q below args s) (F0 m 118 ls [])) (hrc133 : ∀ (S : Zs) (x1 : Int32) (x2 : Int32) (x3 : Int32) (H : Heap) (locs : List Loc) (ls : Array Slot), rc133 S x1 x2 x3 = some q → zW (mG D cs ad) s S H locs → lv_has ls 7 [(0, .ref (ad 0)), (1, .int x1), (2, .int x2), (3, .int x3)] → W p l e (zR 4 85) s m args below meth c H locs 0 0 (zQi (mG D cs ad) q below args s) (F0 m 133 ls [])) (h : n_X12_towns_0_b133_l F rc118 rc133 S x1 x2 x3 = some q) (hW : zW (mG D cs ad) s S H locs) (hl : lv_has ls 7 [(0, .ref (ad 0)), (1, .int x1), (2, .int x2), (3, .int x3)]) : W p l e (zR 4 85) s m args below meth c H locs 0 0 (zQi (mG D cs ad) q below args s) (F0 m 133 ls []) := by
  unfold n_X12_towns_0_b133_l at h
  obtain ⟨hx, hb, hml, hown, hts, hret, hlk⟩ := id C
  refine lv_iload_n hx hb dX12_towns_133 rfl (lv_at hl 3 rfl) ?_
  refine lv_iload_n hx hb dX12_towns_134 rfl (lv_at hl 1 rfl) ?_
  refine zz_cgt (tgt := 186) C h dX12_towns_135 (by decide) (fun h => ?_) (fun h => ?_)
  · obtain ⟨v1, ev1, h⟩ := zz_name h
    refine lv_iinc (v := v1) (lv' := [(2, .int v1), (0, .ref (ad 0)), (1, .int x1), (3, .int x3)]) hx hb dX12_towns_186 hl (k := 2) rfl ev1.symm (by decide) rfl (fun ls hl => ?_)
    refine lv_goto (tgt := 118) hx hb dX12_towns_189 (by decide) ?_
    exact hrc118 _ _ _ _ _ _ h hW (lv_sub hl [1, 2, 0] rfl)
  · refine lv_aload_n hx hb dX12_towns_138 rfl (lv_at hl 0 rfl) ?_
    refine mg_0_25 C hW fl_X12_286 dX12_towns_139 ?_
    refine lv_iload_n hx hb dX12_towns_142 rfl (lv_at hl 3 rfl) ?_
    refine ml_11 C hW h dX12_towns_143 (fun v2 h => ?_)
    refine zz_ilt (tgt := 180) C h dX12_towns_144 (by decide) (fun h => ?_) (fun h => ?_)
    · exact w_X12_towns_0_b180 (F := F) C hrc118 hrc133 h hW (lv_sub hl [0, 1, 2, 3] rfl)
    · refine lv_iload_n hx hb dX12_towns_147 rfl (lv_at hl 3 rfl) ?_
      refine lv_iload_n hx hb dX12_towns_148 rfl (lv_at hl 2 rfl) ?_
      refine lv_iand hx hb dX12_towns_149 ?_
      refine zz_ieq (tgt := 180) C h dX12_towns_150 (by decide) (fun h => ?_) (fun h => ?_)
      · exact w_X12_towns_0_b180 (F := F) C hrc118 hrc133 h hW (lv_sub hl [0, 1, 2, 3] rfl)
      · refine lv_aload_n hx hb dX12_towns_153 rfl (lv_at hl 0 rfl) ?_
        refine mg_0_26 C hW fl_X12_292 dX12_towns_154 ?_
        refine lv_iload_n hx hb dX12_towns_157 rfl (lv_at hl 2 rfl) ?_
        refine lv_aload_n hx hb dX12_towns_158 rfl (lv_at hl 0 rfl) ?_
        refine mg_0_26 C hW fl_X12_292 dX12_towns_159 ?_
        refine lv_iload_n hx hb dX12_towns_162 rfl (lv_at hl 2 rfl) ?_
        refine ml_12 C hW h dX12_towns_163 (fun v3 h => ?_)
        refine lv_iconst (v := 1) hx hb dX12_towns_164 (by decide) ?_
        refine lv_aload_n hx hb dX12_towns_165 rfl (lv_at hl 0 rfl) ?_
        refine mg_0_26 C hW fl_X12_292 dX12_towns_166 ?_
        refine lv_iload_n hx hb dX12_towns_169 rfl (lv_at hl 2 rfl) ?_
        refine lv_iload_n hx hb dX12_towns_170 rfl (lv_at hl 3 rfl) ?_
        refine lv_iconst (v := -1) hx hb dX12_towns_171 (by decide) ?_
        refine lv_ixor hx hb dX12_towns_172 ?_
        refine lv_iand hx hb dX12_towns_173 ?_
        refine ml_12 C hW h dX12_towns_174 (fun v4 h => ?_)
        refine lv_iadd hx hb dX12_towns_175 ?_
        refine va_mmin hx hb (hml.trans hl.1.symm) hown (hts _ lkm_X12_43) (hts _ sm_min) (hts _ it_Math) (hts _ cd_min) (Nat.le_of_ble_eq_true rfl) (Nat.le_of_ble_eq_true rfl) (Nat.zero_le _) (Nat.zero_le _) dX12_towns_176 ?_
        refine zz_leti h (fun v5 h => ?_)
        refine ms_12 C hW h dX12_towns_179 (fun S6 H locs h hW => ?_)
        exact w_X12_towns_0_b180 (F := F) C hrc118 hrc133 h hW (lv_sub hl [0, 1, 2, 3] rfl)
def n_X12_towns_0_b133 (F : Nat) (rc118 : Zs → Int32 → Int32 → Option (Int32 × Zs)) (S : Zs) (x1 : Int32) (x2 : Int32) (x3 : Int32) : Option (Int32 × Zs) :=
  zfix (fun (rc : (Zs × Int32 × Int32 × Int32) → Option (Int32 × Zs)) (u : (Zs × Int32 × Int32 × Int32)) => n_X12_towns_0_b133_l F rc118 (fun S x1 x2 x3 => rc (S, x1, x2, x3)) u.1 u.2.1 u.2.2.1 u.2.2.2) F (S, x1, x2, x3)
theorem w_X12_towns_0_b133 {F : Nat} {q : (Int32 × Zs)} {rc118 : Zs → Int32 → Int32 → Option (Int32 × Zs)} (C : zC p s m args meth c cX12_towns 7 RX12 (some .int)) (hrc118 : ∀ (S : Zs) (x1 : Int32) (x2 : Int32) (H : Heap) (locs : List Loc) (ls : Array Slot), rc118 S x1 x2 = some q → zW (mG D cs ad) s S H locs → lv_has ls 7 [(0, .ref (ad 0)), (1, .int x1), (2, .int x2)] → W p l e (zR 4 85) s m args below meth c H locs 0 0 (zQi (mG D cs ad) q below args s) (F0 m 118 ls [])) : ∀ (n : Nat) (S : Zs) (x1 : Int32) (x2 : Int32) (x3 : Int32) (H : Heap) (locs : List Loc) (ls : Array Slot), zfix (fun (rc : (Zs × Int32 × Int32 × Int32) → Option (Int32 × Zs)) (u : (Zs × Int32 × Int32 × Int32)) => n_X12_towns_0_b133_l F rc118 (fun S x1 x2 x3 => rc (S, x1, x2, x3)) u.1 u.2.1 u.2.2.1 u.2.2.2) n (S, x1, x2, x3) = some q → zW (mG D cs ad) s S H locs → lv_has ls 7 [(0, .ref (ad 0)), (1, .int x1), (2, .int x2), (3, .int x3)] → W p l e (zR 4 85) s m args below meth c H locs 0 0 (zQi (mG D cs ad) q below args s) (F0 m 133 ls []) := by
  intro n
  induction n with
  | zero => intro S x1 x2 x3 H locs ls h; exact absurd h (fun h => by cases h)
  | succ n ih => intro S x1 x2 x3 H locs ls h hW hl; exact w_X12_towns_0_b133_l (F := F) C hrc118 (fun S x1 x2 x3 H locs ls h hW hl => ih S x1 x2 x3 H locs ls h hW hl) h hW hl
def n_X12_towns_0_b118_l (F : Nat) (rc118 : Zs → Int32 → Int32 → Option (Int32 × Zs)) (S : Zs) (x1 : Int32) (x2 : Int32) : Option (Int32 × Zs) :=
  if x1 < x2 then (zpf S 1 (0 : Int32) (fun S1 => n_X12_towns_0_b201 F  S1 x1 x1 (-1 : Int32))) else (zst S 12 4096 x2 (1000000 : Int32) (fun S2 => n_X12_towns_0_b133 F rc118 S2 x1 x2 (1 : Int32)))
set_option maxRecDepth 20000 in
set_option maxHeartbeats 4000000 in
theorem w_X12_towns_0_b118_l {F : Nat} {q : (Int32 × Zs)} {S : Zs} {rc118 : Zs → Int32 → Int32 → Option (Int32 × Zs)} {x1 : Int32} {x2 : Int32} {ls : Array Slot} {H : Heap} {locs : List Loc} (C : zC p s m args meth c cX12_towns 7 RX12 (some .int)) (hrc118 : ∀ (S : Zs) (x1 : Int32) (x2 : Int32) (H : Heap) (locs : List Loc) (ls : Array Slot), rc118 S x1 x2 = some q → zW (mG D cs ad) s S H locs → lv_has ls 7 [(0, .ref (ad 0)), (1, .int x1), (2, .int x2)] → W p l e (zR 4 85) s m args below meth c H locs 0 0 (zQi (mG D cs ad) q below args s) (F0 m 118 ls [])) (h : n_X12_towns_0_b118_l F rc118 S x1 x2 = some q) (hW : zW (mG D cs ad) s S H locs) (hl : lv_has ls 7 [(0, .ref (ad 0)), (1, .int x1), (2, .int x2)]) : W p l e (zR 4 85) s m args below meth c H locs 0 0 (zQi (mG D cs ad) q below args s) (F0 m 118 ls []) := by
  unfold n_X12_towns_0_b118_l at h
  obtain ⟨hx, hb, hml, hown, hts, hret, hlk⟩ := id C
  refine lv_iload_n hx hb dX12_towns_118 rfl (lv_at hl 2 rfl) ?_
  refine lv_iload_n hx hb dX12_towns_119 rfl (lv_at hl 1 rfl) ?_
  refine zz_cgt (tgt := 192) C h dX12_towns_120 (by decide) (fun h => ?_) (fun h => ?_)
  · refine lv_aload_n hx hb dX12_towns_192 rfl (lv_at hl 0 rfl) ?_
    refine lv_iconst (v := 0) hx hb dX12_towns_193 (by decide) ?_
    refine mp_0_1 C hW h fl_X12_11 dX12_towns_194 (fun S1 H locs h hW => ?_)
    refine lv_iload_n hx hb dX12_towns_197 rfl (lv_at hl 1 rfl) ?_
    refine lv_istore_n (lv' := [(2, .int x1), (0, .ref (ad 0)), (1, .int x1)]) hx hb dX12_towns_198 rfl hl (by decide) rfl (fun ls hl => ?_)
    refine lv_iconst (v := -1) hx hb dX12_towns_199 (by decide) ?_
    refine lv_istore_n (lv' := [(3, .int (-1 : Int32)), (2, .int x1), (0, .ref (ad 0)), (1, .int x1)]) hx hb dX12_towns_200 rfl hl (by decide) rfl (fun ls hl => ?_)
    exact w_X12_towns_0_b201 (F := F) C F _ _ _ _ _ _ _ h hW (lv_sub hl [2, 3, 1, 0] rfl)
  · refine lv_aload_n hx hb dX12_towns_123 rfl (lv_at hl 0 rfl) ?_
    refine mg_0_26 C hW fl_X12_292 dX12_towns_124 ?_
    refine lv_iload_n hx hb dX12_towns_127 rfl (lv_at hl 2 rfl) ?_
    refine lv_ldc (v := 1000000) hx hb hown (hts _ ct_X12_249) dX12_towns_128 ?_
    refine ms_12 C hW h dX12_towns_130 (fun S2 H locs h hW => ?_)
    refine lv_iconst (v := 1) hx hb dX12_towns_131 (by decide) ?_
    refine lv_istore_n (lv' := [(3, .int (1 : Int32)), (0, .ref (ad 0)), (1, .int x1), (2, .int x2)]) hx hb dX12_towns_132 rfl hl (by decide) rfl (fun ls hl => ?_)
    exact w_X12_towns_0_b133 (F := F) C hrc118 F _ _ _ _ _ _ _ h hW (lv_sub hl [1, 2, 3, 0] rfl)
def n_X12_towns_0_b118 (F : Nat)  (S : Zs) (x1 : Int32) (x2 : Int32) : Option (Int32 × Zs) :=
  zfix (fun (rc : (Zs × Int32 × Int32) → Option (Int32 × Zs)) (u : (Zs × Int32 × Int32)) => n_X12_towns_0_b118_l F  (fun S x1 x2 => rc (S, x1, x2)) u.1 u.2.1 u.2.2) F (S, x1, x2)
theorem w_X12_towns_0_b118 {F : Nat} {q : (Int32 × Zs)}  (C : zC p s m args meth c cX12_towns 7 RX12 (some .int))  : ∀ (n : Nat) (S : Zs) (x1 : Int32) (x2 : Int32) (H : Heap) (locs : List Loc) (ls : Array Slot), zfix (fun (rc : (Zs × Int32 × Int32) → Option (Int32 × Zs)) (u : (Zs × Int32 × Int32)) => n_X12_towns_0_b118_l F  (fun S x1 x2 => rc (S, x1, x2)) u.1 u.2.1 u.2.2) n (S, x1, x2) = some q → zW (mG D cs ad) s S H locs → lv_has ls 7 [(0, .ref (ad 0)), (1, .int x1), (2, .int x2)] → W p l e (zR 4 85) s m args below meth c H locs 0 0 (zQi (mG D cs ad) q below args s) (F0 m 118 ls []) := by
  intro n
  induction n with
  | zero => intro S x1 x2 H locs ls h; exact absurd h (fun h => by cases h)
  | succ n ih => intro S x1 x2 H locs ls h hW hl; exact w_X12_towns_0_b118_l (F := F) C (fun S x1 x2 H locs ls h hW hl => ih S x1 x2 H locs ls h hW hl) h hW hl
def n_X12_towns_0_b103 (F : Nat) (rc57 : Zs → Int32 → Int32 → Option (Int32 × Zs)) (S : Zs) (x1 : Int32) (x2 : Int32) : Option (Int32 × Zs) :=
  zlet (x2 + (1 : Int32)) (fun v1 => rc57 S x1 v1)
set_option maxRecDepth 20000 in
set_option maxHeartbeats 4000000 in
theorem w_X12_towns_0_b103 {F : Nat} {q : (Int32 × Zs)} {S : Zs} {rc57 : Zs → Int32 → Int32 → Option (Int32 × Zs)} {x1 : Int32} {x2 : Int32} {ls : Array Slot} {H : Heap} {locs : List Loc} (C : zC p s m args meth c cX12_towns 7 RX12 (some .int)) (hrc57 : ∀ (S : Zs) (x1 : Int32) (x2 : Int32) (H : Heap) (locs : List Loc) (ls : Array Slot), rc57 S x1 x2 = some q → zW (mG D cs ad) s S H locs → lv_has ls 7 [(0, .ref (ad 0)), (1, .int x1), (2, .int x2)] → W p l e (zR 4 85) s m args below meth c H locs 0 0 (zQi (mG D cs ad) q below args s) (F0 m 57 ls [])) (h : n_X12_towns_0_b103 F rc57 S x1 x2 = some q) (hW : zW (mG D cs ad) s S H locs) (hl : lv_has ls 7 [(0, .ref (ad 0)), (1, .int x1), (2, .int x2)]) : W p l e (zR 4 85) s m args below meth c H locs 0 0 (zQi (mG D cs ad) q below args s) (F0 m 103 ls []) := by
  unfold n_X12_towns_0_b103 at h
  obtain ⟨hx, hb, hml, hown, hts, hret, hlk⟩ := id C
  obtain ⟨v1, ev1, h⟩ := zz_name h
  refine lv_iinc (v := v1) (lv' := [(2, .int v1), (0, .ref (ad 0)), (1, .int x1)]) hx hb dX12_towns_103 hl (k := 2) rfl ev1.symm (by decide) rfl (fun ls hl => ?_)
  refine lv_goto (tgt := 57) hx hb dX12_towns_106 (by decide) ?_
  exact hrc57 _ _ _ _ _ _ h hW (lv_sub hl [1, 2, 0] rfl)
def n_X12_towns_0_b102 (F : Nat) (rc57 : Zs → Int32 → Int32 → Option (Int32 × Zs)) (S : Zs) (x1 : Int32) (x2 : Int32) (t0 : Int32) (t1 : Int32) : Option (Int32 × Zs) :=
  zst S 11 4096 t1 t0 (fun S1 => n_X12_towns_0_b103 F rc57 S1 x1 x2)
set_option maxRecDepth 20000 in
set_option maxHeartbeats 4000000 in
theorem w_X12_towns_0_b102 {F : Nat} {q : (Int32 × Zs)} {S : Zs} {rc57 : Zs → Int32 → Int32 → Option (Int32 × Zs)} {x1 : Int32} {x2 : Int32} {t0 : Int32} {t1 : Int32} {ls : Array Slot} {H : Heap} {locs : List Loc} (C : zC p s m args meth c cX12_towns 7 RX12 (some .int)) (hrc57 : ∀ (S : Zs) (x1 : Int32) (x2 : Int32) (H : Heap) (locs : List Loc) (ls : Array Slot), rc57 S x1 x2 = some q → zW (mG D cs ad) s S H locs → lv_has ls 7 [(0, .ref (ad 0)), (1, .int x1), (2, .int x2)] → W p l e (zR 4 85) s m args below meth c H locs 0 0 (zQi (mG D cs ad) q below args s) (F0 m 57 ls [])) (h : n_X12_towns_0_b102 F rc57 S x1 x2 t0 t1 = some q) (hW : zW (mG D cs ad) s S H locs) (hl : lv_has ls 7 [(0, .ref (ad 0)), (1, .int x1), (2, .int x2)]) : W p l e (zR 4 85) s m args below meth c H locs 0 0 (zQi (mG D cs ad) q below args s) (F0 m 102 ls [.int t0, .int t1, .ref (ad 11)]) := by
  unfold n_X12_towns_0_b102 at h
  obtain ⟨hx, hb, hml, hown, hts, hret, hlk⟩ := id C
  refine ms_11 C hW h dX12_towns_102 (fun S1 H locs h hW => ?_)
  exact w_X12_towns_0_b103 (F := F) C hrc57 h hW (lv_sub hl [0, 1, 2] rfl)
def n_X12_towns_0_b57_l (F : Nat) (rc57 : Zs → Int32 → Int32 → Option (Int32 × Zs)) (S : Zs) (x1 : Int32) (x2 : Int32) : Option (Int32 × Zs) :=
  if (4096 : Int32) ≤ x2 then (zst S 12 4096 (0 : Int32) (0 : Int32) (fun S1 => n_X12_towns_0_b118 F  S1 x1 (1 : Int32))) else (zcl (n_X12_canBe_0 F S x2) (fun v3 S2 => if v3 = 0 then (n_X12_towns_0_b103 F rc57 S2 x1 x2) else (zcl (n_X12_maskOf_0 F S2 x2) (fun v5 S4 => zld S4 11 4096 v5 (fun v6 => if 0 ≤ v6 then (zld S4 11 4096 v5 (fun v7 => n_X12_towns_0_b102 F rc57 S4 x1 x2 v7 v5)) else (n_X12_towns_0_b102 F rc57 S4 x1 x2 x2 v5))))))
set_option maxRecDepth 20000 in
set_option maxHeartbeats 4000000 in
theorem w_X12_towns_0_b57_l {F : Nat} {q : (Int32 × Zs)} {S : Zs} {rc57 : Zs → Int32 → Int32 → Option (Int32 × Zs)} {x1 : Int32} {x2 : Int32} {ls : Array Slot} {H : Heap} {locs : List Loc} (C : zC p s m args meth c cX12_towns 7 RX12 (some .int)) (hrc57 : ∀ (S : Zs) (x1 : Int32) (x2 : Int32) (H : Heap) (locs : List Loc) (ls : Array Slot), rc57 S x1 x2 = some q → zW (mG D cs ad) s S H locs → lv_has ls 7 [(0, .ref (ad 0)), (1, .int x1), (2, .int x2)] → W p l e (zR 4 85) s m args below meth c H locs 0 0 (zQi (mG D cs ad) q below args s) (F0 m 57 ls [])) (h : n_X12_towns_0_b57_l F rc57 S x1 x2 = some q) (hW : zW (mG D cs ad) s S H locs) (hl : lv_has ls 7 [(0, .ref (ad 0)), (1, .int x1), (2, .int x2)]) : W p l e (zR 4 85) s m args below meth c H locs 0 0 (zQi (mG D cs ad) q below args s) (F0 m 57 ls []) := by
  unfold n_X12_towns_0_b57_l at h
  obtain ⟨hx, hb, hml, hown, hts, hret, hlk⟩ := id C
  refine lv_iload_n hx hb dX12_towns_57 rfl (lv_at hl 2 rfl) ?_
  refine lv_sipush (v := 4096) hx hb dX12_towns_58 (by decide) ?_
  refine zz_cge (tgt := 109) C h dX12_towns_61 (by decide) (fun h => ?_) (fun h => ?_)
  · refine lv_aload_n hx hb dX12_towns_109 rfl (lv_at hl 0 rfl) ?_
    refine mg_0_26 C hW fl_X12_292 dX12_towns_110 ?_
    refine lv_iconst (v := 0) hx hb dX12_towns_113 (by decide) ?_
    refine lv_iconst (v := 0) hx hb dX12_towns_114 (by decide) ?_
    refine ms_12 C hW h dX12_towns_115 (fun S1 H locs h hW => ?_)
    refine lv_iconst (v := 1) hx hb dX12_towns_116 (by decide) ?_
    refine lv_istore_n (lv' := [(2, .int (1 : Int32)), (0, .ref (ad 0)), (1, .int x1)]) hx hb dX12_towns_117 rfl hl (by decide) rfl (fun ls hl => ?_)
    exact w_X12_towns_0_b118 (F := F) C F _ _ _ _ _ _ h hW (lv_sub hl [1, 2, 0] rfl)
  · refine lv_aload_n hx hb dX12_towns_64 rfl (lv_at hl 0 rfl) ?_
    refine lv_iload_n hx hb dX12_towns_65 rfl (lv_at hl 2 rfl) ?_
    refine zz_callVi (As := [.int x2]) C hW h (fun r hr => c_X12_canBe_0 hr) lk_X12_265 (hW.recv mr_0) rfl hl.1 ⟨rfl, rfl⟩ ⟨Nat.le_of_ble_eq_true rfl, Nat.le_of_ble_eq_true rfl⟩ (Nat.le_of_ble_eq_true rfl) ⟨Nat.zero_le _, Nat.zero_le _⟩ rfl dX12_towns_66 (fun v3 S2 H locs h hW => ?_)
    refine zz_ieq (tgt := 103) C h dX12_towns_69 (by decide) (fun h => ?_) (fun h => ?_)
    · exact w_X12_towns_0_b103 (F := F) C hrc57 h hW (lv_sub hl [0, 1, 2] rfl)
    · refine lv_aload_n hx hb dX12_towns_72 rfl (lv_at hl 0 rfl) ?_
      refine lv_iload_n hx hb dX12_towns_73 rfl (lv_at hl 2 rfl) ?_
      refine zz_callVi (As := [.int x2]) C hW h (fun r hr => c_X12_maskOf_0 hr) lk_X12_289 (hW.recv mr_0) rfl hl.1 ⟨rfl, rfl⟩ ⟨Nat.le_of_ble_eq_true rfl, Nat.le_of_ble_eq_true rfl⟩ (Nat.le_of_ble_eq_true rfl) ⟨Nat.zero_le _, Nat.zero_le _⟩ rfl dX12_towns_74 (fun v5 S4 H locs h hW => ?_)
      refine lv_istore_n (lv' := [(3, .int v5), (0, .ref (ad 0)), (1, .int x1), (2, .int x2)]) hx hb dX12_towns_77 rfl hl (by decide) rfl (fun ls hl => ?_)
      refine lv_aload_n hx hb dX12_towns_78 rfl (lv_at hl 1 rfl) ?_
      refine mg_0_25 C hW fl_X12_286 dX12_towns_79 ?_
      refine lv_iload_n hx hb dX12_towns_82 rfl (lv_at hl 0 rfl) ?_
      refine lv_aload_n hx hb dX12_towns_83 rfl (lv_at hl 1 rfl) ?_
      refine mg_0_25 C hW fl_X12_286 dX12_towns_84 ?_
      refine lv_iload_n hx hb dX12_towns_87 rfl (lv_at hl 0 rfl) ?_
      refine ml_11 C hW h dX12_towns_88 (fun v6 h => ?_)
      refine zz_ige (tgt := 96) C h dX12_towns_89 (by decide) (fun h => ?_) (fun h => ?_)
      · refine lv_aload_n hx hb dX12_towns_96 rfl (lv_at hl 1 rfl) ?_
        refine mg_0_25 C hW fl_X12_286 dX12_towns_97 ?_
        refine lv_iload_n hx hb dX12_towns_100 rfl (lv_at hl 0 rfl) ?_
        refine ml_11 C hW h dX12_towns_101 (fun v7 h => ?_)
        exact w_X12_towns_0_b102 (F := F) C hrc57 h hW (lv_sub hl [1, 2, 3] rfl)
      · refine lv_iload_n hx hb dX12_towns_92 rfl (lv_at hl 3 rfl) ?_
        refine lv_goto (tgt := 102) hx hb dX12_towns_93 (by decide) ?_
        exact w_X12_towns_0_b102 (F := F) C hrc57 h hW (lv_sub hl [1, 2, 3] rfl)
def n_X12_towns_0_b57 (F : Nat)  (S : Zs) (x1 : Int32) (x2 : Int32) : Option (Int32 × Zs) :=
  zfix (fun (rc : (Zs × Int32 × Int32) → Option (Int32 × Zs)) (u : (Zs × Int32 × Int32)) => n_X12_towns_0_b57_l F  (fun S x1 x2 => rc (S, x1, x2)) u.1 u.2.1 u.2.2) F (S, x1, x2)
theorem w_X12_towns_0_b57 {F : Nat} {q : (Int32 × Zs)}  (C : zC p s m args meth c cX12_towns 7 RX12 (some .int))  : ∀ (n : Nat) (S : Zs) (x1 : Int32) (x2 : Int32) (H : Heap) (locs : List Loc) (ls : Array Slot), zfix (fun (rc : (Zs × Int32 × Int32) → Option (Int32 × Zs)) (u : (Zs × Int32 × Int32)) => n_X12_towns_0_b57_l F  (fun S x1 x2 => rc (S, x1, x2)) u.1 u.2.1 u.2.2) n (S, x1, x2) = some q → zW (mG D cs ad) s S H locs → lv_has ls 7 [(0, .ref (ad 0)), (1, .int x1), (2, .int x2)] → W p l e (zR 4 85) s m args below meth c H locs 0 0 (zQi (mG D cs ad) q below args s) (F0 m 57 ls []) := by
  intro n
  induction n with
  | zero => intro S x1 x2 H locs ls h; exact absurd h (fun h => by cases h)
  | succ n ih => intro S x1 x2 H locs ls h hW hl; exact w_X12_towns_0_b57_l (F := F) C (fun S x1 x2 H locs ls h hW hl => ih S x1 x2 H locs ls h hW hl) h hW hl
def n_X12_towns_0_b37_l (F : Nat) (rc37 : Zs → Int32 → Int32 → Option (Int32 × Zs)) (S : Zs) (x1 : Int32) (x2 : Int32) : Option (Int32 × Zs) :=
  if x1 < x2 then (n_X12_towns_0_b57 F  S x1 (0 : Int32)) else (zst S 11 4096 x2 (-1 : Int32) (fun S1 => zlet (x2 + (1 : Int32)) (fun v2 => rc37 S1 x1 v2)))
set_option maxRecDepth 20000 in
set_option maxHeartbeats 4000000 in
theorem w_X12_towns_0_b37_l {F : Nat} {q : (Int32 × Zs)} {S : Zs} {rc37 : Zs → Int32 → Int32 → Option (Int32 × Zs)} {x1 : Int32} {x2 : Int32} {ls : Array Slot} {H : Heap} {locs : List Loc} (C : zC p s m args meth c cX12_towns 7 RX12 (some .int)) (hrc37 : ∀ (S : Zs) (x1 : Int32) (x2 : Int32) (H : Heap) (locs : List Loc) (ls : Array Slot), rc37 S x1 x2 = some q → zW (mG D cs ad) s S H locs → lv_has ls 7 [(0, .ref (ad 0)), (1, .int x1), (2, .int x2)] → W p l e (zR 4 85) s m args below meth c H locs 0 0 (zQi (mG D cs ad) q below args s) (F0 m 37 ls [])) (h : n_X12_towns_0_b37_l F rc37 S x1 x2 = some q) (hW : zW (mG D cs ad) s S H locs) (hl : lv_has ls 7 [(0, .ref (ad 0)), (1, .int x1), (2, .int x2)]) : W p l e (zR 4 85) s m args below meth c H locs 0 0 (zQi (mG D cs ad) q below args s) (F0 m 37 ls []) := by
  unfold n_X12_towns_0_b37_l at h
  obtain ⟨hx, hb, hml, hown, hts, hret, hlk⟩ := id C
  refine lv_iload_n hx hb dX12_towns_37 rfl (lv_at hl 2 rfl) ?_
  refine lv_iload_n hx hb dX12_towns_38 rfl (lv_at hl 1 rfl) ?_
  refine zz_cgt (tgt := 55) C h dX12_towns_39 (by decide) (fun h => ?_) (fun h => ?_)
  · refine lv_iconst (v := 0) hx hb dX12_towns_55 (by decide) ?_
    refine lv_istore_n (lv' := [(2, .int (0 : Int32)), (0, .ref (ad 0)), (1, .int x1)]) hx hb dX12_towns_56 rfl hl (by decide) rfl (fun ls hl => ?_)
    exact w_X12_towns_0_b57 (F := F) C F _ _ _ _ _ _ h hW (lv_sub hl [1, 2, 0] rfl)
  · refine lv_aload_n hx hb dX12_towns_42 rfl (lv_at hl 0 rfl) ?_
    refine mg_0_25 C hW fl_X12_286 dX12_towns_43 ?_
    refine lv_iload_n hx hb dX12_towns_46 rfl (lv_at hl 2 rfl) ?_
    refine lv_iconst (v := -1) hx hb dX12_towns_47 (by decide) ?_
    refine ms_11 C hW h dX12_towns_48 (fun S1 H locs h hW => ?_)
    obtain ⟨v2, ev2, h⟩ := zz_name h
    refine lv_iinc (v := v2) (lv' := [(2, .int v2), (0, .ref (ad 0)), (1, .int x1)]) hx hb dX12_towns_49 hl (k := 2) rfl ev2.symm (by decide) rfl (fun ls hl => ?_)
    refine lv_goto (tgt := 37) hx hb dX12_towns_52 (by decide) ?_
    exact hrc37 _ _ _ _ _ _ h hW (lv_sub hl [1, 2, 0] rfl)
def n_X12_towns_0_b37 (F : Nat)  (S : Zs) (x1 : Int32) (x2 : Int32) : Option (Int32 × Zs) :=
  zfix (fun (rc : (Zs × Int32 × Int32) → Option (Int32 × Zs)) (u : (Zs × Int32 × Int32)) => n_X12_towns_0_b37_l F  (fun S x1 x2 => rc (S, x1, x2)) u.1 u.2.1 u.2.2) F (S, x1, x2)
theorem w_X12_towns_0_b37 {F : Nat} {q : (Int32 × Zs)}  (C : zC p s m args meth c cX12_towns 7 RX12 (some .int))  : ∀ (n : Nat) (S : Zs) (x1 : Int32) (x2 : Int32) (H : Heap) (locs : List Loc) (ls : Array Slot), zfix (fun (rc : (Zs × Int32 × Int32) → Option (Int32 × Zs)) (u : (Zs × Int32 × Int32)) => n_X12_towns_0_b37_l F  (fun S x1 x2 => rc (S, x1, x2)) u.1 u.2.1 u.2.2) n (S, x1, x2) = some q → zW (mG D cs ad) s S H locs → lv_has ls 7 [(0, .ref (ad 0)), (1, .int x1), (2, .int x2)] → W p l e (zR 4 85) s m args below meth c H locs 0 0 (zQi (mG D cs ad) q below args s) (F0 m 37 ls []) := by
  intro n
  induction n with
  | zero => intro S x1 x2 H locs ls h; exact absurd h (fun h => by cases h)
  | succ n ih => intro S x1 x2 H locs ls h hW hl; exact w_X12_towns_0_b37_l (F := F) C (fun S x1 x2 H locs ls h hW hl => ih S x1 x2 H locs ls h hW hl) h hW hl
def n_X12_towns_0_e (F : Nat)  (S : Zs)  : Option (Int32 × Zs) :=
  zcl (n_X12_holdsLaid_0 F S ) (fun v2 S1 => if v2 = 0 then (some ((-2 : Int32), S1)) else (zcl (n_X12_findsNeeds_0 F S1 ) (fun v4 S3 => zgf S3 24 (fun v5 => if v5 ≤ (12 : Int32) then (zgf S3 24 (fun v6 => zlet (((1 : Int32) <<< (v6 &&& 31)) - (1 : Int32)) (fun v7 => n_X12_towns_0_b37 F  S3 v7 (0 : Int32)))) else (some ((-3 : Int32), S3))))))
set_option maxRecDepth 20000 in
set_option maxHeartbeats 4000000 in
theorem w_X12_towns_0_e {F : Nat} {q : (Int32 × Zs)} {S : Zs}   {ls : Array Slot} {H : Heap} {locs : List Loc} (C : zC p s m args meth c cX12_towns 7 RX12 (some .int))  (h : n_X12_towns_0_e F  S  = some q) (hW : zW (mG D cs ad) s S H locs) (hl : lv_has ls 7 [(0, .ref (ad 0))]) : W p l e (zR 4 85) s m args below meth c H locs 0 0 (zQi (mG D cs ad) q below args s) (F0 m 0 ls []) := by
  unfold n_X12_towns_0_e at h
  obtain ⟨hx, hb, hml, hown, hts, hret, hlk⟩ := id C
  refine lv_aload_n hx hb dX12_towns_0 rfl (lv_at hl 0 rfl) ?_
  refine zz_callVi (As := []) C hW h (fun r hr => c_X12_holdsLaid_0 hr) lk_X12_197 (hW.recv mr_0) rfl hl.1 ⟨rfl, rfl⟩ ⟨Nat.le_of_ble_eq_true rfl, Nat.le_of_ble_eq_true rfl⟩ (Nat.le_of_ble_eq_true rfl) ⟨Nat.zero_le _, Nat.zero_le _⟩ rfl dX12_towns_1 (fun v2 S1 H locs h hW => ?_)
  refine zz_ine (tgt := 10) C h dX12_towns_4 (by decide) (fun h => ?_) (fun h => ?_)
  · refine lv_aload_n hx hb dX12_towns_10 rfl (lv_at hl 0 rfl) ?_
    refine zz_callVv (As := []) C hW h (fun r hr => c_X12_findsNeeds_0 hr) lk_X12_283 (hW.recv mr_0) rfl hl.1 ⟨rfl, rfl⟩ ⟨Nat.le_of_ble_eq_true rfl, Nat.le_of_ble_eq_true rfl⟩ (Nat.le_of_ble_eq_true rfl) ⟨Nat.zero_le _, Nat.zero_le _⟩ rfl dX12_towns_11 (fun v4 S3 H locs h hW => ?_)
    refine lv_aload_n hx hb dX12_towns_14 rfl (lv_at hl 0 rfl) ?_
    refine mg_0_24 C hW h fl_X12_274 dX12_towns_15 (fun v5 h => ?_)
    refine lv_bipush (v := 12) hx hb dX12_towns_18 (by decide) ?_
    refine zz_cle (tgt := 26) C h dX12_towns_20 (by decide) (fun h => ?_) (fun h => ?_)
    · refine lv_iconst (v := 1) hx hb dX12_towns_26 (by decide) ?_
      refine lv_aload_n hx hb dX12_towns_27 rfl (lv_at hl 0 rfl) ?_
      refine mg_0_24 C hW h fl_X12_274 dX12_towns_28 (fun v6 h => ?_)
      refine lv_ishl hx hb dX12_towns_31 ?_
      refine lv_iconst (v := 1) hx hb dX12_towns_32 (by decide) ?_
      refine lv_isub hx hb dX12_towns_33 ?_
      refine zz_leti h (fun v7 h => ?_)
      refine lv_istore_n (lv' := [(1, .int v7), (0, .ref (ad 0))]) hx hb dX12_towns_34 rfl hl (by decide) rfl (fun ls hl => ?_)
      refine lv_iconst (v := 0) hx hb dX12_towns_35 (by decide) ?_
      refine lv_istore_n (lv' := [(2, .int (0 : Int32)), (1, .int v7), (0, .ref (ad 0))]) hx hb dX12_towns_36 rfl hl (by decide) rfl (fun ls hl => ?_)
      exact w_X12_towns_0_b37 (F := F) C F _ _ _ _ _ _ h hW (lv_sub hl [2, 1, 0] rfl)
    · refine lv_bipush (v := -3) hx hb dX12_towns_23 (by decide) ?_
      exact zz_iret C rfl h hW dX12_towns_25
  · refine lv_bipush (v := -2) hx hb dX12_towns_7 (by decide) ?_
    exact zz_iret C rfl h hW dX12_towns_9
def n_X12_towns_0 (F : Nat) (S : Zs)  : Option (Int32 × Zs) := n_X12_towns_0_e F  S 
theorem c_X12_towns_0 {l : Launch} {D : va_G} {cs ad : Nat → Nat} {F : Nat} {S : Zs}  {q : (Int32 × Zs)} (h : n_X12_towns_0 F S  = some q) : zMi l yX12_towns cX12_towns 7 (some .int) (zR 4 85) (mG D cs ad) [.ref (ad 0)] S q :=
  zz_enter (by decide) (Nat.le_of_ble_eq_true rfl) (fun p e s m below meth c ls C hW hl => w_X12_towns_0_e (F := F) C h hW (lv_sub hl [0] rfl))
end ZM
