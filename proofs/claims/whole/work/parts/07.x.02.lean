section ZM
variable {p : Program} {l : Launch} {e : Env} {s : State} {m : MethodId} {args : Array Value} {below : List Frame} {meth : Method} {c : Code} {D : va_G} {cs ad : Nat → Nat}
def n_X11_truth_0_b10 (F : Nat)  (S : Zs)  : Option (Int32 × Zs) :=
  some ((-1 : Int32), S)
set_option maxRecDepth 20000 in
set_option maxHeartbeats 4000000 in
theorem w_X11_truth_0_b10 {F : Nat} {q : (Int32 × Zs)} {S : Zs}   {ls : Array Slot} {H : Heap} {locs : List Loc} (C : zC p s m args meth c cX11_truth 4 RX11 (some .int))  (h : n_X11_truth_0_b10 F  S  = some q) (hW : zW (xG D cs ad) s S H locs) (hl : lv_has ls 4 []) : W p l e (zR 4 94) s m args below meth c H locs 0 0 (zQi (xG D cs ad) q below args s) (F0 m 10 ls []) := by
  unfold n_X11_truth_0_b10 at h
  obtain ⟨hx, hb, hml, hown, hts, hret, hlk⟩ := id C
  refine lv_iconst (v := -1) hx hb dX11_truth_10 (by decide) ?_
  exact zz_iret C rfl h hW dX11_truth_11
def n_X11_truth_0_e (F : Nat)  (S : Zs) (x1 : Int32) : Option (Int32 × Zs) :=
  if x1 < 0 then (n_X11_truth_0_b10 F  S ) else (if x1 < (8 : Int32) then (zcl (n_X2_activeOf_3 F S ((1 : Int32) <<< (x1 &&& 31))) (fun v2 S1 => zcl (n_X2_active_3 F S1 ) (fun v4 S3 => zlet (v4 &&& (v2 ^^^ (-1 : Int32))) (fun v5 => zcl (n_X1_countEntailed_13 F S3 v5 v2 (1 : Int32)) (fun v7 S6 => zcl (n_X11_tellOne_0 F S6 v7) (fun v9 S8 => zcl (n_X1_countEntailed_13 F S8 v5 v2 (0 : Int32)) (fun v11 S10 => some (v11, S10)))))))) else (n_X11_truth_0_b10 F  S ))
set_option maxRecDepth 20000 in
set_option maxHeartbeats 4000000 in
theorem w_X11_truth_0_e {F : Nat} {q : (Int32 × Zs)} {S : Zs}  {x1 : Int32} {ls : Array Slot} {H : Heap} {locs : List Loc} (C : zC p s m args meth c cX11_truth 4 RX11 (some .int))  (h : n_X11_truth_0_e F  S x1 = some q) (hW : zW (xG D cs ad) s S H locs) (hl : lv_has ls 4 [(0, .ref (ad 0)), (1, .int x1)]) : W p l e (zR 4 94) s m args below meth c H locs 0 0 (zQi (xG D cs ad) q below args s) (F0 m 0 ls []) := by
  unfold n_X11_truth_0_e at h
  obtain ⟨hx, hb, hml, hown, hts, hret, hlk⟩ := id C
  refine lv_iload_n hx hb dX11_truth_0 rfl (lv_at hl 1 rfl) ?_
  refine zz_ilt (tgt := 10) C h dX11_truth_1 (by decide) (fun h => ?_) (fun h => ?_)
  · exact w_X11_truth_0_b10 (F := F) C h hW (lv_sub hl [] rfl)
  · refine lv_iload_n hx hb dX11_truth_4 rfl (lv_at hl 1 rfl) ?_
    refine lv_bipush (v := 8) hx hb dX11_truth_5 (by decide) ?_
    refine zz_clt (tgt := 12) C h dX11_truth_7 (by decide) (fun h => ?_) (fun h => ?_)
    · refine lv_aload_n hx hb dX11_truth_12 rfl (lv_at hl 0 rfl) ?_
      refine xg_0_1 C hW fl_X11_27 dX11_truth_13 ?_
      refine lv_iconst (v := 1) hx hb dX11_truth_16 (by decide) ?_
      refine lv_iload_n hx hb dX11_truth_17 rfl (lv_at hl 1 rfl) ?_
      refine lv_ishl hx hb dX11_truth_18 ?_
      refine zz_callVi (As := [.int ((1 : Int32) <<< (x1 &&& 31))]) C hW h (fun r hr => c_X2_activeOf_3 hr) lk_X11_176 (hW.recv xr_3) rfl hl.1 ⟨rfl, rfl⟩ ⟨Nat.le_of_ble_eq_true rfl, Nat.le_of_ble_eq_true rfl⟩ (Nat.le_of_ble_eq_true rfl) ⟨Nat.zero_le _, Nat.zero_le _⟩ rfl dX11_truth_19 (fun v2 S1 H locs h hW => ?_)
      refine lv_istore_n (lv' := [(2, .int v2), (0, .ref (ad 0)), (1, .int x1)]) hx hb dX11_truth_22 rfl hl (by decide) rfl (fun ls hl => ?_)
      refine lv_aload_n hx hb dX11_truth_23 rfl (lv_at hl 1 rfl) ?_
      refine xg_0_1 C hW fl_X11_27 dX11_truth_24 ?_
      refine zz_callVi (As := []) C hW h (fun r hr => c_X2_active_3 hr) lk_X11_144 (hW.recv xr_3) rfl hl.1 ⟨rfl, rfl⟩ ⟨Nat.le_of_ble_eq_true rfl, Nat.le_of_ble_eq_true rfl⟩ (Nat.le_of_ble_eq_true rfl) ⟨Nat.zero_le _, Nat.zero_le _⟩ rfl dX11_truth_27 (fun v4 S3 H locs h hW => ?_)
      refine lv_iload_n hx hb dX11_truth_30 rfl (lv_at hl 0 rfl) ?_
      refine lv_iconst (v := -1) hx hb dX11_truth_31 (by decide) ?_
      refine lv_ixor hx hb dX11_truth_32 ?_
      refine lv_iand hx hb dX11_truth_33 ?_
      refine zz_leti h (fun v5 h => ?_)
      refine lv_istore_n (lv' := [(3, .int v5), (2, .int v2), (0, .ref (ad 0)), (1, .int x1)]) hx hb dX11_truth_34 rfl hl (by decide) rfl (fun ls hl => ?_)
      refine lv_aload_n hx hb dX11_truth_35 rfl (lv_at hl 2 rfl) ?_
      refine lv_aload_n hx hb dX11_truth_36 rfl (lv_at hl 2 rfl) ?_
      refine xg_0_2 C hW fl_X11_31 dX11_truth_37 ?_
      refine lv_iload_n hx hb dX11_truth_40 rfl (lv_at hl 0 rfl) ?_
      refine lv_iload_n hx hb dX11_truth_41 rfl (lv_at hl 1 rfl) ?_
      refine lv_iconst (v := 1) hx hb dX11_truth_42 (by decide) ?_
      refine zz_callVi (As := [.int v5, .int v2, .int (1 : Int32)]) C hW h (fun r hr => c_X1_countEntailed_13 hr) lk_X11_179 (hW.recv xr_13) rfl hl.1 ⟨rfl, rfl⟩ ⟨Nat.le_of_ble_eq_true rfl, Nat.le_of_ble_eq_true rfl⟩ (Nat.le_of_ble_eq_true rfl) ⟨Nat.zero_le _, Nat.zero_le _⟩ rfl dX11_truth_43 (fun v7 S6 H locs h hW => ?_)
      refine zz_callVv (As := [.int v7]) C hW h (fun r hr => c_X11_tellOne_0 hr) lk_X11_182 (hW.recv xr_0) rfl hl.1 ⟨rfl, rfl⟩ ⟨Nat.le_of_ble_eq_true rfl, Nat.le_of_ble_eq_true rfl⟩ (Nat.le_of_ble_eq_true rfl) ⟨Nat.zero_le _, Nat.zero_le _⟩ rfl dX11_truth_46 (fun v9 S8 H locs h hW => ?_)
      refine lv_aload_n hx hb dX11_truth_49 rfl (lv_at hl 2 rfl) ?_
      refine xg_0_2 C hW fl_X11_31 dX11_truth_50 ?_
      refine lv_iload_n hx hb dX11_truth_53 rfl (lv_at hl 0 rfl) ?_
      refine lv_iload_n hx hb dX11_truth_54 rfl (lv_at hl 1 rfl) ?_
      refine lv_iconst (v := 0) hx hb dX11_truth_55 (by decide) ?_
      refine zz_callVi (As := [.int v5, .int v2, .int (0 : Int32)]) C hW h (fun r hr => c_X1_countEntailed_13 hr) lk_X11_179 (hW.recv xr_13) rfl hl.1 ⟨rfl, rfl⟩ ⟨Nat.le_of_ble_eq_true rfl, Nat.le_of_ble_eq_true rfl⟩ (Nat.le_of_ble_eq_true rfl) ⟨Nat.zero_le _, Nat.zero_le _⟩ rfl dX11_truth_56 (fun v11 S10 H locs h hW => ?_)
      exact zz_iret C rfl h hW dX11_truth_59
    · exact w_X11_truth_0_b10 (F := F) C h hW (lv_sub hl [] rfl)
def n_X11_truth_0 (F : Nat) (S : Zs) (x1 : Int32) : Option (Int32 × Zs) := n_X11_truth_0_e F  S x1
theorem c_X11_truth_0 {l : Launch} {D : va_G} {cs ad : Nat → Nat} {F : Nat} {S : Zs} {x1 : Int32} {q : (Int32 × Zs)} (h : n_X11_truth_0 F S x1 = some q) : zMi l yX11_truth cX11_truth 4 (some .int) (zR 4 94) (xG D cs ad) [.ref (ad 0), .int x1] S q :=
  zz_enter (by decide) (Nat.le_of_ble_eq_true rfl) (fun p e s m below meth c ls C hW hl => w_X11_truth_0_e (F := F) C h hW (lv_sub hl [0, 1] rfl))
def n_X11_trusts_0_b18 (F : Nat)  (S : Zs)  : Option (Int32 × Zs) :=
  some ((-1 : Int32), S)
set_option maxRecDepth 20000 in
set_option maxHeartbeats 4000000 in
theorem w_X11_trusts_0_b18 {F : Nat} {q : (Int32 × Zs)} {S : Zs}   {ls : Array Slot} {H : Heap} {locs : List Loc} (C : zC p s m args meth c cX11_trusts 3 RX11 (some .int))  (h : n_X11_trusts_0_b18 F  S  = some q) (hW : zW (xG D cs ad) s S H locs) (hl : lv_has ls 3 []) : W p l e (zR 3 68) s m args below meth c H locs 0 0 (zQi (xG D cs ad) q below args s) (F0 m 18 ls []) := by
  unfold n_X11_trusts_0_b18 at h
  obtain ⟨hx, hb, hml, hown, hts, hret, hlk⟩ := id C
  refine lv_iconst (v := -1) hx hb dX11_trusts_18 (by decide) ?_
  exact zz_iret C rfl h hW dX11_trusts_19
def n_X11_trusts_0_b44 (F : Nat)  (S : Zs) (t0 : Int32) : Option (Int32 × Zs) :=
  some (t0, S)
set_option maxRecDepth 20000 in
set_option maxHeartbeats 4000000 in
theorem w_X11_trusts_0_b44 {F : Nat} {q : (Int32 × Zs)} {S : Zs}  {t0 : Int32} {ls : Array Slot} {H : Heap} {locs : List Loc} (C : zC p s m args meth c cX11_trusts 3 RX11 (some .int))  (h : n_X11_trusts_0_b44 F  S t0 = some q) (hW : zW (xG D cs ad) s S H locs) (hl : lv_has ls 3 []) : W p l e (zR 3 68) s m args below meth c H locs 0 0 (zQi (xG D cs ad) q below args s) (F0 m 44 ls [.int t0]) := by
  unfold n_X11_trusts_0_b44 at h
  obtain ⟨hx, hb, hml, hown, hts, hret, hlk⟩ := id C
  exact zz_iret C rfl h hW dX11_trusts_44
def n_X11_trusts_0_e (F : Nat)  (S : Zs) (x1 : Int32) (x2 : Int32) : Option (Int32 × Zs) :=
  if x1 < 0 then (n_X11_trusts_0_b18 F  S ) else (if (255 : Int32) < x1 then (n_X11_trusts_0_b18 F  S ) else (zcl (n_X0_isCode F S x2) (fun v2 S1 => if v2 = 0 then (n_X11_trusts_0_b18 F  S1 ) else (zcl (n_X2_activeOf_3 F S1 x1) (fun v4 S3 => zcl (n_X1_entails_13 F S3 v4 x2) (fun v6 S5 => if v6 = 0 then (n_X11_trusts_0_b44 F  S5 (0 : Int32)) else (n_X11_trusts_0_b44 F  S5 (1 : Int32))))))))
set_option maxRecDepth 20000 in
set_option maxHeartbeats 4000000 in
theorem w_X11_trusts_0_e {F : Nat} {q : (Int32 × Zs)} {S : Zs}  {x1 : Int32} {x2 : Int32} {ls : Array Slot} {H : Heap} {locs : List Loc} (C : zC p s m args meth c cX11_trusts 3 RX11 (some .int))  (h : n_X11_trusts_0_e F  S x1 x2 = some q) (hW : zW (xG D cs ad) s S H locs) (hl : lv_has ls 3 [(0, .ref (ad 0)), (1, .int x1), (2, .int x2)]) : W p l e (zR 3 68) s m args below meth c H locs 0 0 (zQi (xG D cs ad) q below args s) (F0 m 0 ls []) := by
  unfold n_X11_trusts_0_e at h
  obtain ⟨hx, hb, hml, hown, hts, hret, hlk⟩ := id C
  refine lv_iload_n hx hb dX11_trusts_0 rfl (lv_at hl 1 rfl) ?_
  refine zz_ilt (tgt := 18) C h dX11_trusts_1 (by decide) (fun h => ?_) (fun h => ?_)
  · exact w_X11_trusts_0_b18 (F := F) C h hW (lv_sub hl [] rfl)
  · refine lv_iload_n hx hb dX11_trusts_4 rfl (lv_at hl 1 rfl) ?_
    refine lv_sipush (v := 255) hx hb dX11_trusts_5 (by decide) ?_
    refine zz_cgt (tgt := 18) C h dX11_trusts_8 (by decide) (fun h => ?_) (fun h => ?_)
    · exact w_X11_trusts_0_b18 (F := F) C h hW (lv_sub hl [] rfl)
    · refine lv_iload_n hx hb dX11_trusts_11 rfl (lv_at hl 2 rfl) ?_
      refine zz_callSi (As := [.int x2]) C hW h (fun r hr => c_X0_isCode hr) lk_X11_126 rfl hl.1 ⟨rfl, rfl⟩ ⟨Nat.le_of_ble_eq_true rfl, Nat.le_of_ble_eq_true rfl⟩ (Nat.le_of_ble_eq_true rfl) ⟨Nat.zero_le _, Nat.zero_le _⟩ rfl dX11_trusts_12 (fun v2 S1 H locs h hW => ?_)
      refine zz_ine (tgt := 20) C h dX11_trusts_15 (by decide) (fun h => ?_) (fun h => ?_)
      · refine lv_aload_n hx hb dX11_trusts_20 rfl (lv_at hl 0 rfl) ?_
        refine xg_0_2 C hW fl_X11_31 dX11_trusts_21 ?_
        refine lv_aload_n hx hb dX11_trusts_24 rfl (lv_at hl 0 rfl) ?_
        refine xg_0_1 C hW fl_X11_27 dX11_trusts_25 ?_
        refine lv_iload_n hx hb dX11_trusts_28 rfl (lv_at hl 1 rfl) ?_
        refine zz_callVi (As := [.int x1]) C hW h (fun r hr => c_X2_activeOf_3 hr) lk_X11_176 (hW.recv xr_3) rfl hl.1 ⟨rfl, rfl⟩ ⟨Nat.le_of_ble_eq_true rfl, Nat.le_of_ble_eq_true rfl⟩ (Nat.le_of_ble_eq_true rfl) ⟨Nat.zero_le _, Nat.zero_le _⟩ rfl dX11_trusts_29 (fun v4 S3 H locs h hW => ?_)
        refine lv_iload_n hx hb dX11_trusts_32 rfl (lv_at hl 2 rfl) ?_
        refine zz_callVi (As := [.int v4, .int x2]) C hW h (fun r hr => c_X1_entails_13 hr) lk_X11_151 (hW.recv xr_13) rfl hl.1 ⟨rfl, rfl⟩ ⟨Nat.le_of_ble_eq_true rfl, Nat.le_of_ble_eq_true rfl⟩ (Nat.le_of_ble_eq_true rfl) ⟨Nat.zero_le _, Nat.zero_le _⟩ rfl dX11_trusts_33 (fun v6 S5 H locs h hW => ?_)
        refine zz_ieq (tgt := 43) C h dX11_trusts_36 (by decide) (fun h => ?_) (fun h => ?_)
        · refine lv_iconst (v := 0) hx hb dX11_trusts_43 (by decide) ?_
          exact w_X11_trusts_0_b44 (F := F) C h hW (lv_sub hl [] rfl)
        · refine lv_iconst (v := 1) hx hb dX11_trusts_39 (by decide) ?_
          refine lv_goto (tgt := 44) hx hb dX11_trusts_40 (by decide) ?_
          exact w_X11_trusts_0_b44 (F := F) C h hW (lv_sub hl [] rfl)
      · exact w_X11_trusts_0_b18 (F := F) C h hW (lv_sub hl [] rfl)
def n_X11_trusts_0 (F : Nat) (S : Zs) (x1 : Int32) (x2 : Int32) : Option (Int32 × Zs) := n_X11_trusts_0_e F  S x1 x2
theorem c_X11_trusts_0 {l : Launch} {D : va_G} {cs ad : Nat → Nat} {F : Nat} {S : Zs} {x1 : Int32} {x2 : Int32} {q : (Int32 × Zs)} (h : n_X11_trusts_0 F S x1 x2 = some q) : zMi l yX11_trusts cX11_trusts 3 (some .int) (zR 3 68) (xG D cs ad) [.ref (ad 0), .int x1, .int x2] S q :=
  zz_enter (by decide) (Nat.le_of_ble_eq_true rfl) (fun p e s m below meth c ls C hW hl => w_X11_trusts_0_e (F := F) C h hW (lv_sub hl [0, 1, 2] rfl))
def n_X11_convicts_0_e (F : Nat)  (S : Zs) (x1 : Int32) : Option (Int32 × Zs) :=
  zcl (n_X0_isCode F S x1) (fun v2 S1 => if v2 = 0 then (some ((-1 : Int32), S1)) else (zcl (n_X6_smallest_23 F S1 (3 : Int32) x1 (255 : Int32) (0 : Int32)) (fun v4 S3 => zcl (n_X11_tellSmallest_0 F S3 v4) (fun v6 S5 => some (v6, S5)))))
set_option maxRecDepth 20000 in
set_option maxHeartbeats 4000000 in
theorem w_X11_convicts_0_e {F : Nat} {q : (Int32 × Zs)} {S : Zs}  {x1 : Int32} {ls : Array Slot} {H : Heap} {locs : List Loc} (C : zC p s m args meth c cX11_convicts 2 RX11 (some .int))  (h : n_X11_convicts_0_e F  S x1 = some q) (hW : zW (xG D cs ad) s S H locs) (hl : lv_has ls 2 [(0, .ref (ad 0)), (1, .int x1)]) : W p l e (zR 26 770) s m args below meth c H locs 0 0 (zQi (xG D cs ad) q below args s) (F0 m 0 ls []) := by
  unfold n_X11_convicts_0_e at h
  obtain ⟨hx, hb, hml, hown, hts, hret, hlk⟩ := id C
  refine lv_iload_n hx hb dX11_convicts_0 rfl (lv_at hl 1 rfl) ?_
  refine zz_callSi (As := [.int x1]) C hW h (fun r hr => c_X0_isCode hr) lk_X11_126 rfl hl.1 ⟨rfl, rfl⟩ ⟨Nat.le_of_ble_eq_true rfl, Nat.le_of_ble_eq_true rfl⟩ (Nat.le_of_ble_eq_true rfl) ⟨Nat.zero_le _, Nat.zero_le _⟩ rfl dX11_convicts_1 (fun v2 S1 H locs h hW => ?_)
  refine zz_ine (tgt := 9) C h dX11_convicts_4 (by decide) (fun h => ?_) (fun h => ?_)
  · refine lv_aload_n hx hb dX11_convicts_9 rfl (lv_at hl 0 rfl) ?_
    refine lv_aload_n hx hb dX11_convicts_10 rfl (lv_at hl 0 rfl) ?_
    refine xg_0_3 C hW fl_X11_40 dX11_convicts_11 ?_
    refine lv_iconst (v := 3) hx hb dX11_convicts_14 (by decide) ?_
    refine lv_iload_n hx hb dX11_convicts_15 rfl (lv_at hl 1 rfl) ?_
    refine lv_sipush (v := 255) hx hb dX11_convicts_16 (by decide) ?_
    refine lv_iconst (v := 0) hx hb dX11_convicts_19 (by decide) ?_
    refine zz_callVi (As := [.int (3 : Int32), .int x1, .int (255 : Int32), .int (0 : Int32)]) C hW h (fun r hr => c_X6_smallest_23 hr) lk_X11_164 (hW.recv xr_23) rfl hl.1 ⟨rfl, rfl⟩ ⟨Nat.le_of_ble_eq_true rfl, Nat.le_of_ble_eq_true rfl⟩ (Nat.le_of_ble_eq_true rfl) ⟨Nat.zero_le _, Nat.zero_le _⟩ rfl dX11_convicts_20 (fun v4 S3 H locs h hW => ?_)
    refine zz_callVi (As := [.int v4]) C hW h (fun r hr => c_X11_tellSmallest_0 hr) lk_X11_167 (hW.recv xr_0) rfl hl.1 ⟨rfl, rfl⟩ ⟨Nat.le_of_ble_eq_true rfl, Nat.le_of_ble_eq_true rfl⟩ (Nat.le_of_ble_eq_true rfl) ⟨Nat.zero_le _, Nat.zero_le _⟩ rfl dX11_convicts_23 (fun v6 S5 H locs h hW => ?_)
    exact zz_iret C rfl h hW dX11_convicts_26
  · refine lv_iconst (v := -1) hx hb dX11_convicts_7 (by decide) ?_
    exact zz_iret C rfl h hW dX11_convicts_8
def n_X11_convicts_0 (F : Nat) (S : Zs) (x1 : Int32) : Option (Int32 × Zs) := n_X11_convicts_0_e F  S x1
theorem c_X11_convicts_0 {l : Launch} {D : va_G} {cs ad : Nat → Nat} {F : Nat} {S : Zs} {x1 : Int32} {q : (Int32 × Zs)} (h : n_X11_convicts_0 F S x1 = some q) : zMi l yX11_convicts cX11_convicts 2 (some .int) (zR 26 770) (xG D cs ad) [.ref (ad 0), .int x1] S q :=
  zz_enter (by decide) (Nat.le_of_ble_eq_true rfl) (fun p e s m below meth c ls C hW hl => w_X11_convicts_0_e (F := F) C h hW (lv_sub hl [0, 1] rfl))
def n_X0_isTerm_b15 (F : Nat)  (S : Zs) (t0 : Int32) : Option (Int32 × Zs) :=
  zrb t0 S
set_option maxRecDepth 20000 in
set_option maxHeartbeats 4000000 in
theorem w_X0_isTerm_b15 {F : Nat} {q : (Int32 × Zs)} {S : Zs}  {t0 : Int32} {ls : Array Slot} {H : Heap} {locs : List Loc} (C : zC p s m args meth c cX0_isTerm 1 RX0 (some .boolean))  (h : n_X0_isTerm_b15 F  S t0 = some q) (hW : zW (xG D cs ad) s S H locs) (hl : lv_has ls 1 []) : W p l e (zR 0 0) s m args below meth c H locs 0 0 (zQi (xG D cs ad) q below args s) (F0 m 15 ls [.int t0]) := by
  unfold n_X0_isTerm_b15 at h
  obtain ⟨hx, hb, hml, hown, hts, hret, hlk⟩ := id C
  exact zz_zret C rfl h hW dX0_isTerm_15
def n_X0_isTerm_b14 (F : Nat)  (S : Zs)  : Option (Int32 × Zs) :=
  n_X0_isTerm_b15 F  S (0 : Int32)
set_option maxRecDepth 20000 in
set_option maxHeartbeats 4000000 in
theorem w_X0_isTerm_b14 {F : Nat} {q : (Int32 × Zs)} {S : Zs}   {ls : Array Slot} {H : Heap} {locs : List Loc} (C : zC p s m args meth c cX0_isTerm 1 RX0 (some .boolean))  (h : n_X0_isTerm_b14 F  S  = some q) (hW : zW (xG D cs ad) s S H locs) (hl : lv_has ls 1 []) : W p l e (zR 0 0) s m args below meth c H locs 0 0 (zQi (xG D cs ad) q below args s) (F0 m 14 ls []) := by
  unfold n_X0_isTerm_b14 at h
  obtain ⟨hx, hb, hml, hown, hts, hret, hlk⟩ := id C
  refine lv_iconst (v := 0) hx hb dX0_isTerm_14 (by decide) ?_
  exact w_X0_isTerm_b15 (F := F) C h hW (lv_sub hl [] rfl)
def n_X0_isTerm_e (F : Nat)  (S : Zs) (x0 : Int32) : Option (Int32 × Zs) :=
  if x0 < 0 then (n_X0_isTerm_b14 F  S ) else (if (24 : Int32) ≤ x0 then (n_X0_isTerm_b14 F  S ) else (n_X0_isTerm_b15 F  S (1 : Int32)))
set_option maxRecDepth 20000 in
set_option maxHeartbeats 4000000 in
theorem w_X0_isTerm_e {F : Nat} {q : (Int32 × Zs)} {S : Zs}  {x0 : Int32} {ls : Array Slot} {H : Heap} {locs : List Loc} (C : zC p s m args meth c cX0_isTerm 1 RX0 (some .boolean))  (h : n_X0_isTerm_e F  S x0 = some q) (hW : zW (xG D cs ad) s S H locs) (hl : lv_has ls 1 [(0, .int x0)]) : W p l e (zR 0 0) s m args below meth c H locs 0 0 (zQi (xG D cs ad) q below args s) (F0 m 0 ls []) := by
  unfold n_X0_isTerm_e at h
  obtain ⟨hx, hb, hml, hown, hts, hret, hlk⟩ := id C
  refine lv_iload_n hx hb dX0_isTerm_0 rfl (lv_at hl 0 rfl) ?_
  refine zz_ilt (tgt := 14) C h dX0_isTerm_1 (by decide) (fun h => ?_) (fun h => ?_)
  · exact w_X0_isTerm_b14 (F := F) C h hW (lv_sub hl [] rfl)
  · refine lv_iload_n hx hb dX0_isTerm_4 rfl (lv_at hl 0 rfl) ?_
    refine lv_bipush (v := 24) hx hb dX0_isTerm_5 (by decide) ?_
    refine zz_cge (tgt := 14) C h dX0_isTerm_7 (by decide) (fun h => ?_) (fun h => ?_)
    · exact w_X0_isTerm_b14 (F := F) C h hW (lv_sub hl [] rfl)
    · refine lv_iconst (v := 1) hx hb dX0_isTerm_10 (by decide) ?_
      refine lv_goto (tgt := 15) hx hb dX0_isTerm_11 (by decide) ?_
      exact w_X0_isTerm_b15 (F := F) C h hW (lv_sub hl [] rfl)
def n_X0_isTerm (F : Nat) (S : Zs) (x0 : Int32) : Option (Int32 × Zs) := n_X0_isTerm_e F  S x0
theorem c_X0_isTerm {l : Launch} {D : va_G} {cs ad : Nat → Nat} {F : Nat} {S : Zs} {x0 : Int32} {q : (Int32 × Zs)} (h : n_X0_isTerm F S x0 = some q) : zMi l yX0_isTerm cX0_isTerm 1 (some .boolean) (zR 0 0) (xG D cs ad) [.int x0] S q :=
  zz_enter (by decide) (Nat.le_of_ble_eq_true rfl) (fun p e s m below meth c ls C hW hl => w_X0_isTerm_e (F := F) C h hW (lv_sub hl [0] rfl))
def n_X9_canBe_14_b37 (F : Nat)  (S : Zs) (t0 : Int32) : Option (Int32 × Zs) :=
  zrb t0 S
set_option maxRecDepth 20000 in
set_option maxHeartbeats 4000000 in
theorem w_X9_canBe_14_b37 {F : Nat} {q : (Int32 × Zs)} {S : Zs}  {t0 : Int32} {ls : Array Slot} {H : Heap} {locs : List Loc} (C : zC p s m args meth c cX9_canBe 4 RX9 (some .boolean))  (h : n_X9_canBe_14_b37 F  S t0 = some q) (hW : zW (xG D cs ad) s S H locs) (hl : lv_has ls 4 []) : W p l e (zR 0 0) s m args below meth c H locs 0 0 (zQi (xG D cs ad) q below args s) (F0 m 37 ls [.int t0]) := by
  unfold n_X9_canBe_14_b37 at h
  obtain ⟨hx, hb, hml, hown, hts, hret, hlk⟩ := id C
  exact zz_zret C rfl h hW dX9_canBe_37
def n_X9_canBe_14_b36 (F : Nat)  (S : Zs)  : Option (Int32 × Zs) :=
  n_X9_canBe_14_b37 F  S (0 : Int32)
set_option maxRecDepth 20000 in
set_option maxHeartbeats 4000000 in
theorem w_X9_canBe_14_b36 {F : Nat} {q : (Int32 × Zs)} {S : Zs}   {ls : Array Slot} {H : Heap} {locs : List Loc} (C : zC p s m args meth c cX9_canBe 4 RX9 (some .boolean))  (h : n_X9_canBe_14_b36 F  S  = some q) (hW : zW (xG D cs ad) s S H locs) (hl : lv_has ls 4 []) : W p l e (zR 0 0) s m args below meth c H locs 0 0 (zQi (xG D cs ad) q below args s) (F0 m 36 ls []) := by
  unfold n_X9_canBe_14_b36 at h
  obtain ⟨hx, hb, hml, hown, hts, hret, hlk⟩ := id C
  refine lv_iconst (v := 0) hx hb dX9_canBe_36 (by decide) ?_
  exact w_X9_canBe_14_b37 (F := F) C h hW (lv_sub hl [] rfl)
def n_X9_canBe_14_e (F : Nat)  (S : Zs) (x1 : Int32) (x2 : Int32) : Option (Int32 × Zs) :=
  zld S 15 24 x1 (fun v1 => zld S 15 24 x2 (fun v2 => zlet (v1 ||| v2) (fun v3 => zgf S 284 (fun v4 => if v4 = 0 then (if ((v3 &&& ((v3.toUInt32 >>> ((1 : Int32).toUInt32 &&& Int32.toUInt32 31)).toInt32)) &&& (5592405 : Int32)) = 0 then (n_X9_canBe_14_b37 F  S (1 : Int32)) else (n_X9_canBe_14_b36 F  S )) else (n_X9_canBe_14_b36 F  S )))))
set_option maxRecDepth 20000 in
set_option maxHeartbeats 4000000 in
theorem w_X9_canBe_14_e {F : Nat} {q : (Int32 × Zs)} {S : Zs}  {x1 : Int32} {x2 : Int32} {ls : Array Slot} {H : Heap} {locs : List Loc} (C : zC p s m args meth c cX9_canBe 4 RX9 (some .boolean))  (h : n_X9_canBe_14_e F  S x1 x2 = some q) (hW : zW (xG D cs ad) s S H locs) (hl : lv_has ls 4 [(0, .ref (ad 14)), (1, .int x1), (2, .int x2)]) : W p l e (zR 0 0) s m args below meth c H locs 0 0 (zQi (xG D cs ad) q below args s) (F0 m 0 ls []) := by
  unfold n_X9_canBe_14_e at h
  obtain ⟨hx, hb, hml, hown, hts, hret, hlk⟩ := id C
  refine lv_aload_n hx hb dX9_canBe_0 rfl (lv_at hl 0 rfl) ?_
  refine xg_14_0 C hW fl_X9_9 dX9_canBe_1 ?_
  refine lv_iload_n hx hb dX9_canBe_4 rfl (lv_at hl 1 rfl) ?_
  refine xl_15 C hW h dX9_canBe_5 (fun v1 h => ?_)
  refine lv_aload_n hx hb dX9_canBe_6 rfl (lv_at hl 0 rfl) ?_
  refine xg_14_0 C hW fl_X9_9 dX9_canBe_7 ?_
  refine lv_iload_n hx hb dX9_canBe_10 rfl (lv_at hl 2 rfl) ?_
  refine xl_15 C hW h dX9_canBe_11 (fun v2 h => ?_)
  refine lv_ior hx hb dX9_canBe_12 ?_
  refine zz_leti h (fun v3 h => ?_)
  refine lv_istore_n (lv' := [(3, .int v3), (0, .ref (ad 14)), (1, .int x1), (2, .int x2)]) hx hb dX9_canBe_13 rfl hl (by decide) rfl (fun ls hl => ?_)
  refine lv_aload_n hx hb dX9_canBe_14 rfl (lv_at hl 1 rfl) ?_
  refine xg_14_4 C hW h fl_X9_25 dX9_canBe_15 (fun v4 h => ?_)
  refine zz_ine (tgt := 36) C h dX9_canBe_18 (by decide) (fun h => ?_) (fun h => ?_)
  · exact w_X9_canBe_14_b36 (F := F) C h hW (lv_sub hl [] rfl)
  · refine lv_iload_n hx hb dX9_canBe_21 rfl (lv_at hl 0 rfl) ?_
    refine lv_iload_n hx hb dX9_canBe_22 rfl (lv_at hl 0 rfl) ?_
    refine lv_iconst (v := 1) hx hb dX9_canBe_23 (by decide) ?_
    refine lv_iushr hx hb dX9_canBe_24 rfl ?_
    refine lv_iand hx hb dX9_canBe_25 ?_
    refine lv_ldc (v := 5592405) hx hb hown (hts _ ct_X9_49) dX9_canBe_26 ?_
    refine lv_iand hx hb dX9_canBe_28 ?_
    refine zz_ine (tgt := 36) C h dX9_canBe_29 (by decide) (fun h => ?_) (fun h => ?_)
    · exact w_X9_canBe_14_b36 (F := F) C h hW (lv_sub hl [] rfl)
    · refine lv_iconst (v := 1) hx hb dX9_canBe_32 (by decide) ?_
      refine lv_goto (tgt := 37) hx hb dX9_canBe_33 (by decide) ?_
      exact w_X9_canBe_14_b37 (F := F) C h hW (lv_sub hl [] rfl)
def n_X9_canBe_14 (F : Nat) (S : Zs) (x1 : Int32) (x2 : Int32) : Option (Int32 × Zs) := n_X9_canBe_14_e F  S x1 x2
theorem c_X9_canBe_14 {l : Launch} {D : va_G} {cs ad : Nat → Nat} {F : Nat} {S : Zs} {x1 : Int32} {x2 : Int32} {q : (Int32 × Zs)} (h : n_X9_canBe_14 F S x1 x2 = some q) : zMi l yX9_canBe cX9_canBe 4 (some .boolean) (zR 0 0) (xG D cs ad) [.ref (ad 14), .int x1, .int x2] S q :=
  zz_enter (by decide) (Nat.le_of_ble_eq_true rfl) (fun p e s m below meth c ls C hW hl => w_X9_canBe_14_e (F := F) C h hW (lv_sub hl [0, 1, 2] rfl))
def n_X1_allThatAre_13_b43 (F : Nat) (rc17 : Zs → Int32 → Int32 → Int32 → Option (Int32 × Zs)) (S : Zs) (x1 : Int32) (x3 : Int32) (x4 : Int32) : Option (Int32 × Zs) :=
  zlet (x4 + (1 : Int32)) (fun v1 => rc17 S x1 x3 v1)
set_option maxRecDepth 20000 in
set_option maxHeartbeats 4000000 in
theorem w_X1_allThatAre_13_b43 {F : Nat} {q : (Int32 × Zs)} {S : Zs} {rc17 : Zs → Int32 → Int32 → Int32 → Option (Int32 × Zs)} {x1 : Int32} {x3 : Int32} {x4 : Int32} {ls : Array Slot} {H : Heap} {locs : List Loc} (C : zC p s m args meth c cX1_allThatAre 5 RX1 (some .int)) (hrc17 : ∀ (S : Zs) (x1 : Int32) (x3 : Int32) (x4 : Int32) (H : Heap) (locs : List Loc) (ls : Array Slot), rc17 S x1 x3 x4 = some q → zW (xG D cs ad) s S H locs → lv_has ls 5 [(1, .int x1), (2, .ref (ad 14)), (3, .int x3), (4, .int x4)] → W p l e (zR 2 46) s m args below meth c H locs 0 0 (zQi (xG D cs ad) q below args s) (F0 m 17 ls [])) (h : n_X1_allThatAre_13_b43 F rc17 S x1 x3 x4 = some q) (hW : zW (xG D cs ad) s S H locs) (hl : lv_has ls 5 [(1, .int x1), (2, .ref (ad 14)), (3, .int x3), (4, .int x4)]) : W p l e (zR 2 46) s m args below meth c H locs 0 0 (zQi (xG D cs ad) q below args s) (F0 m 43 ls []) := by
  unfold n_X1_allThatAre_13_b43 at h
  obtain ⟨hx, hb, hml, hown, hts, hret, hlk⟩ := id C
  obtain ⟨v1, ev1, h⟩ := zz_name h
  refine lv_iinc (v := v1) (lv' := [(4, .int v1), (1, .int x1), (2, .ref (ad 14)), (3, .int x3)]) hx hb dX1_allThatAre_43 hl (k := 3) rfl ev1.symm (by decide) rfl (fun ls hl => ?_)
  refine lv_goto (tgt := 17) hx hb dX1_allThatAre_46 (by decide) ?_
  exact hrc17 _ _ _ _ _ _ _ h hW (lv_sub hl [1, 2, 3, 0] rfl)
def n_X1_allThatAre_13_b17_l (F : Nat) (rc17 : Zs → Int32 → Int32 → Int32 → Option (Int32 × Zs)) (S : Zs) (x1 : Int32) (x3 : Int32) (x4 : Int32) : Option (Int32 × Zs) :=
  if (24 : Int32) ≤ x4 then (some (x3, S)) else (zcl (n_X9_canBe_14 F S x1 (x4 ^^^ (1 : Int32))) (fun v2 S1 => if v2 = 0 then (zlet (x3 ||| ((1 : Int32) <<< (x4 &&& 31))) (fun v3 => n_X1_allThatAre_13_b43 F rc17 S1 x1 v3 x4)) else (n_X1_allThatAre_13_b43 F rc17 S1 x1 x3 x4)))
set_option maxRecDepth 20000 in
set_option maxHeartbeats 4000000 in
theorem w_X1_allThatAre_13_b17_l {F : Nat} {q : (Int32 × Zs)} {S : Zs} {rc17 : Zs → Int32 → Int32 → Int32 → Option (Int32 × Zs)} {x1 : Int32} {x3 : Int32} {x4 : Int32} {ls : Array Slot} {H : Heap} {locs : List Loc} (C : zC p s m args meth c cX1_allThatAre 5 RX1 (some .int)) (hrc17 : ∀ (S : Zs) (x1 : Int32) (x3 : Int32) (x4 : Int32) (H : Heap) (locs : List Loc) (ls : Array Slot), rc17 S x1 x3 x4 = some q → zW (xG D cs ad) s S H locs → lv_has ls 5 [(1, .int x1), (2, .ref (ad 14)), (3, .int x3), (4, .int x4)] → W p l e (zR 2 46) s m args below meth c H locs 0 0 (zQi (xG D cs ad) q below args s) (F0 m 17 ls [])) (h : n_X1_allThatAre_13_b17_l F rc17 S x1 x3 x4 = some q) (hW : zW (xG D cs ad) s S H locs) (hl : lv_has ls 5 [(1, .int x1), (2, .ref (ad 14)), (3, .int x3), (4, .int x4)]) : W p l e (zR 2 46) s m args below meth c H locs 0 0 (zQi (xG D cs ad) q below args s) (F0 m 17 ls []) := by
  unfold n_X1_allThatAre_13_b17_l at h
  obtain ⟨hx, hb, hml, hown, hts, hret, hlk⟩ := id C
  refine lv_iload hx hb dX1_allThatAre_17 (lv_at hl 3 rfl) ?_
  refine lv_bipush (v := 24) hx hb dX1_allThatAre_19 (by decide) ?_
  refine zz_cge (tgt := 49) C h dX1_allThatAre_21 (by decide) (fun h => ?_) (fun h => ?_)
  · refine lv_iload_n hx hb dX1_allThatAre_49 rfl (lv_at hl 2 rfl) ?_
    exact zz_iret C rfl h hW dX1_allThatAre_50
  · refine lv_aload_n hx hb dX1_allThatAre_24 rfl (lv_at hl 1 rfl) ?_
    refine lv_iload_n hx hb dX1_allThatAre_25 rfl (lv_at hl 0 rfl) ?_
    refine lv_iload hx hb dX1_allThatAre_26 (lv_at hl 3 rfl) ?_
    refine lv_iconst (v := 1) hx hb dX1_allThatAre_28 (by decide) ?_
    refine lv_ixor hx hb dX1_allThatAre_29 ?_
    refine zz_callVi (As := [.int x1, .int (x4 ^^^ (1 : Int32))]) C hW h (fun r hr => c_X9_canBe_14 hr) lk_X1_103 (hW.recv xr_14) rfl hl.1 ⟨rfl, rfl⟩ ⟨Nat.le_of_ble_eq_true rfl, Nat.le_of_ble_eq_true rfl⟩ (Nat.le_of_ble_eq_true rfl) ⟨Nat.zero_le _, Nat.zero_le _⟩ rfl dX1_allThatAre_30 (fun v2 S1 H locs h hW => ?_)
    refine zz_ine (tgt := 43) C h dX1_allThatAre_33 (by decide) (fun h => ?_) (fun h => ?_)
    · exact w_X1_allThatAre_13_b43 (F := F) C hrc17 h hW (lv_sub hl [0, 1, 2, 3] rfl)
    · refine lv_iload_n hx hb dX1_allThatAre_36 rfl (lv_at hl 2 rfl) ?_
      refine lv_iconst (v := 1) hx hb dX1_allThatAre_37 (by decide) ?_
      refine lv_iload hx hb dX1_allThatAre_38 (lv_at hl 3 rfl) ?_
      refine lv_ishl hx hb dX1_allThatAre_40 ?_
      refine lv_ior hx hb dX1_allThatAre_41 ?_
      refine zz_leti h (fun v3 h => ?_)
      refine lv_istore_n (lv' := [(3, .int v3), (1, .int x1), (2, .ref (ad 14)), (4, .int x4)]) hx hb dX1_allThatAre_42 rfl hl (by decide) rfl (fun ls hl => ?_)
      exact w_X1_allThatAre_13_b43 (F := F) C hrc17 h hW (lv_sub hl [1, 2, 0, 3] rfl)
def n_X1_allThatAre_13_b17 (F : Nat)  (S : Zs) (x1 : Int32) (x3 : Int32) (x4 : Int32) : Option (Int32 × Zs) :=
  zfix (fun (rc : (Zs × Int32 × Int32 × Int32) → Option (Int32 × Zs)) (u : (Zs × Int32 × Int32 × Int32)) => n_X1_allThatAre_13_b17_l F  (fun S x1 x3 x4 => rc (S, x1, x3, x4)) u.1 u.2.1 u.2.2.1 u.2.2.2) F (S, x1, x3, x4)
theorem w_X1_allThatAre_13_b17 {F : Nat} {q : (Int32 × Zs)}  (C : zC p s m args meth c cX1_allThatAre 5 RX1 (some .int))  : ∀ (n : Nat) (S : Zs) (x1 : Int32) (x3 : Int32) (x4 : Int32) (H : Heap) (locs : List Loc) (ls : Array Slot), zfix (fun (rc : (Zs × Int32 × Int32 × Int32) → Option (Int32 × Zs)) (u : (Zs × Int32 × Int32 × Int32)) => n_X1_allThatAre_13_b17_l F  (fun S x1 x3 x4 => rc (S, x1, x3, x4)) u.1 u.2.1 u.2.2.1 u.2.2.2) n (S, x1, x3, x4) = some q → zW (xG D cs ad) s S H locs → lv_has ls 5 [(1, .int x1), (2, .ref (ad 14)), (3, .int x3), (4, .int x4)] → W p l e (zR 2 46) s m args below meth c H locs 0 0 (zQi (xG D cs ad) q below args s) (F0 m 17 ls []) := by
  intro n
  induction n with
  | zero => intro S x1 x3 x4 H locs ls h; exact absurd h (fun h => by cases h)
  | succ n ih => intro S x1 x3 x4 H locs ls h hW hl; exact w_X1_allThatAre_13_b17_l (F := F) C (fun S x1 x3 x4 H locs ls h hW hl => ih S x1 x3 x4 H locs ls h hW hl) h hW hl
def n_X1_allThatAre_13_e (F : Nat)  (S : Zs) (x1 : Int32) : Option (Int32 × Zs) :=
  zcl (n_X2_active_3 F S ) (fun v2 S1 => zcl (n_X1_prepare_13 F S1 v2) (fun v4 S3 => n_X1_allThatAre_13_b17 F  S3 x1 (0 : Int32) (0 : Int32)))
set_option maxRecDepth 20000 in
set_option maxHeartbeats 4000000 in
theorem w_X1_allThatAre_13_e {F : Nat} {q : (Int32 × Zs)} {S : Zs}  {x1 : Int32} {ls : Array Slot} {H : Heap} {locs : List Loc} (C : zC p s m args meth c cX1_allThatAre 5 RX1 (some .int))  (h : n_X1_allThatAre_13_e F  S x1 = some q) (hW : zW (xG D cs ad) s S H locs) (hl : lv_has ls 5 [(0, .ref (ad 13)), (1, .int x1)]) : W p l e (zR 2 46) s m args below meth c H locs 0 0 (zQi (xG D cs ad) q below args s) (F0 m 0 ls []) := by
  unfold n_X1_allThatAre_13_e at h
  obtain ⟨hx, hb, hml, hown, hts, hret, hlk⟩ := id C
  refine lv_aload_n hx hb dX1_allThatAre_0 rfl (lv_at hl 0 rfl) ?_
  refine lv_aload_n hx hb dX1_allThatAre_1 rfl (lv_at hl 0 rfl) ?_
  refine xg_13_0 C hW fl_X1_32 dX1_allThatAre_2 ?_
  refine zz_callVi (As := []) C hW h (fun r hr => c_X2_active_3 hr) lk_X1_95 (hW.recv xr_3) rfl hl.1 ⟨rfl, rfl⟩ ⟨Nat.le_of_ble_eq_true rfl, Nat.le_of_ble_eq_true rfl⟩ (Nat.le_of_ble_eq_true rfl) ⟨Nat.zero_le _, Nat.zero_le _⟩ rfl dX1_allThatAre_5 (fun v2 S1 H locs h hW => ?_)
  refine zz_callVr (As := [.int v2]) C hW h (fun r hr => c_X1_prepare_13 hr) lk_X1_78 (hW.recv xr_13) rfl hl.1 ⟨rfl, rfl⟩ ⟨Nat.le_of_ble_eq_true rfl, Nat.le_of_ble_eq_true rfl⟩ (Nat.le_of_ble_eq_true rfl) ⟨Nat.zero_le _, Nat.zero_le _⟩ rfl dX1_allThatAre_8 (fun v4 S3 H locs h hW => ?_)
  refine lv_astore_n (lv' := [(2, .ref (ad 14)), (0, .ref (ad 13)), (1, .int x1)]) hx hb dX1_allThatAre_11 rfl hl (by decide) rfl (fun ls hl => ?_)
  refine lv_iconst (v := 0) hx hb dX1_allThatAre_12 (by decide) ?_
  refine lv_istore_n (lv' := [(3, .int (0 : Int32)), (2, .ref (ad 14)), (0, .ref (ad 13)), (1, .int x1)]) hx hb dX1_allThatAre_13 rfl hl (by decide) rfl (fun ls hl => ?_)
  refine lv_iconst (v := 0) hx hb dX1_allThatAre_14 (by decide) ?_
  refine lv_istore (lv' := [(4, .int (0 : Int32)), (3, .int (0 : Int32)), (2, .ref (ad 14)), (0, .ref (ad 13)), (1, .int x1)]) hx hb dX1_allThatAre_15 hl (by decide) rfl (fun ls hl => ?_)
  exact w_X1_allThatAre_13_b17 (F := F) C F _ _ _ _ _ _ _ h hW (lv_sub hl [4, 2, 1, 0] rfl)
def n_X1_allThatAre_13 (F : Nat) (S : Zs) (x1 : Int32) : Option (Int32 × Zs) := n_X1_allThatAre_13_e F  S x1
theorem c_X1_allThatAre_13 {l : Launch} {D : va_G} {cs ad : Nat → Nat} {F : Nat} {S : Zs} {x1 : Int32} {q : (Int32 × Zs)} (h : n_X1_allThatAre_13 F S x1 = some q) : zMi l yX1_allThatAre cX1_allThatAre 5 (some .int) (zR 2 46) (xG D cs ad) [.ref (ad 13), .int x1] S q :=
  zz_enter (by decide) (Nat.le_of_ble_eq_true rfl) (fun p e s m below meth c ls C hW hl => w_X1_allThatAre_13_e (F := F) C h hW (lv_sub hl [0, 1] rfl))
def n_X11_all_0_b19 (F : Nat)  (S : Zs) (t0 : Int32) : Option (Int32 × Zs) :=
  some (t0, S)
set_option maxRecDepth 20000 in
set_option maxHeartbeats 4000000 in
theorem w_X11_all_0_b19 {F : Nat} {q : (Int32 × Zs)} {S : Zs}  {t0 : Int32} {ls : Array Slot} {H : Heap} {locs : List Loc} (C : zC p s m args meth c cX11_all 2 RX11 (some .int))  (h : n_X11_all_0_b19 F  S t0 = some q) (hW : zW (xG D cs ad) s S H locs) (hl : lv_has ls 2 []) : W p l e (zR 3 70) s m args below meth c H locs 0 0 (zQi (xG D cs ad) q below args s) (F0 m 19 ls [.int t0]) := by
  unfold n_X11_all_0_b19 at h
  obtain ⟨hx, hb, hml, hown, hts, hret, hlk⟩ := id C
  exact zz_iret C rfl h hW dX11_all_19
def n_X11_all_0_e (F : Nat)  (S : Zs) (x1 : Int32) : Option (Int32 × Zs) :=
  zcl (n_X0_isTerm F S x1) (fun v2 S1 => if v2 = 0 then (n_X11_all_0_b19 F  S1 (-1 : Int32)) else (zcl (n_X1_allThatAre_13 F S1 x1) (fun v4 S3 => n_X11_all_0_b19 F  S3 v4)))
set_option maxRecDepth 20000 in
set_option maxHeartbeats 4000000 in
theorem w_X11_all_0_e {F : Nat} {q : (Int32 × Zs)} {S : Zs}  {x1 : Int32} {ls : Array Slot} {H : Heap} {locs : List Loc} (C : zC p s m args meth c cX11_all 2 RX11 (some .int))  (h : n_X11_all_0_e F  S x1 = some q) (hW : zW (xG D cs ad) s S H locs) (hl : lv_has ls 2 [(0, .ref (ad 0)), (1, .int x1)]) : W p l e (zR 3 70) s m args below meth c H locs 0 0 (zQi (xG D cs ad) q below args s) (F0 m 0 ls []) := by
  unfold n_X11_all_0_e at h
  obtain ⟨hx, hb, hml, hown, hts, hret, hlk⟩ := id C
  refine lv_iload_n hx hb dX11_all_0 rfl (lv_at hl 1 rfl) ?_
  refine zz_callSi (As := [.int x1]) C hW h (fun r hr => c_X0_isTerm hr) lk_X11_186 rfl hl.1 ⟨rfl, rfl⟩ ⟨Nat.le_of_ble_eq_true rfl, Nat.le_of_ble_eq_true rfl⟩ (Nat.le_of_ble_eq_true rfl) ⟨Nat.zero_le _, Nat.zero_le _⟩ rfl dX11_all_1 (fun v2 S1 H locs h hW => ?_)
  refine zz_ieq (tgt := 18) C h dX11_all_4 (by decide) (fun h => ?_) (fun h => ?_)
  · refine lv_iconst (v := -1) hx hb dX11_all_18 (by decide) ?_
    exact w_X11_all_0_b19 (F := F) C h hW (lv_sub hl [] rfl)
  · refine lv_aload_n hx hb dX11_all_7 rfl (lv_at hl 0 rfl) ?_
    refine xg_0_2 C hW fl_X11_31 dX11_all_8 ?_
    refine lv_iload_n hx hb dX11_all_11 rfl (lv_at hl 1 rfl) ?_
    refine zz_callVi (As := [.int x1]) C hW h (fun r hr => c_X1_allThatAre_13 hr) lk_X11_189 (hW.recv xr_13) rfl hl.1 ⟨rfl, rfl⟩ ⟨Nat.le_of_ble_eq_true rfl, Nat.le_of_ble_eq_true rfl⟩ (Nat.le_of_ble_eq_true rfl) ⟨Nat.zero_le _, Nat.zero_le _⟩ rfl dX11_all_12 (fun v4 S3 H locs h hW => ?_)
    refine lv_goto (tgt := 19) hx hb dX11_all_15 (by decide) ?_
    exact w_X11_all_0_b19 (F := F) C h hW (lv_sub hl [] rfl)
def n_X11_all_0 (F : Nat) (S : Zs) (x1 : Int32) : Option (Int32 × Zs) := n_X11_all_0_e F  S x1
theorem c_X11_all_0 {l : Launch} {D : va_G} {cs ad : Nat → Nat} {F : Nat} {S : Zs} {x1 : Int32} {q : (Int32 × Zs)} (h : n_X11_all_0 F S x1 = some q) : zMi l yX11_all cX11_all 2 (some .int) (zR 3 70) (xG D cs ad) [.ref (ad 0), .int x1] S q :=
  zz_enter (by decide) (Nat.le_of_ble_eq_true rfl) (fun p e s m below meth c ls C hW hl => w_X11_all_0_e (F := F) C h hW (lv_sub hl [0, 1] rfl))
def n_X1_nobodyIs_13_b37 (F : Nat) (rc16 : Zs → Int32 → Int32 → Option (Int32 × Zs)) (S : Zs) (x2 : Int32) (x3 : Int32) : Option (Int32 × Zs) :=
  zlet (x3 + (1 : Int32)) (fun v1 => rc16 S x2 v1)
set_option maxRecDepth 20000 in
set_option maxHeartbeats 4000000 in
theorem w_X1_nobodyIs_13_b37 {F : Nat} {q : (Int32 × Zs)} {S : Zs} {rc16 : Zs → Int32 → Int32 → Option (Int32 × Zs)} {x2 : Int32} {x3 : Int32} {ls : Array Slot} {H : Heap} {locs : List Loc} (C : zC p s m args meth c cX1_nobodyIs 4 RX1 (some .int)) (hrc16 : ∀ (S : Zs) (x2 : Int32) (x3 : Int32) (H : Heap) (locs : List Loc) (ls : Array Slot), rc16 S x2 x3 = some q → zW (xG D cs ad) s S H locs → lv_has ls 4 [(1, .ref (ad 14)), (2, .int x2), (3, .int x3)] → W p l e (zR 2 46) s m args below meth c H locs 0 0 (zQi (xG D cs ad) q below args s) (F0 m 16 ls [])) (h : n_X1_nobodyIs_13_b37 F rc16 S x2 x3 = some q) (hW : zW (xG D cs ad) s S H locs) (hl : lv_has ls 4 [(1, .ref (ad 14)), (2, .int x2), (3, .int x3)]) : W p l e (zR 2 46) s m args below meth c H locs 0 0 (zQi (xG D cs ad) q below args s) (F0 m 37 ls []) := by
  unfold n_X1_nobodyIs_13_b37 at h
  obtain ⟨hx, hb, hml, hown, hts, hret, hlk⟩ := id C
  obtain ⟨v1, ev1, h⟩ := zz_name h
  refine lv_iinc (v := v1) (lv' := [(3, .int v1), (1, .ref (ad 14)), (2, .int x2)]) hx hb dX1_nobodyIs_37 hl (k := 2) rfl ev1.symm (by decide) rfl (fun ls hl => ?_)
  refine lv_goto (tgt := 16) hx hb dX1_nobodyIs_40 (by decide) ?_
  exact hrc16 _ _ _ _ _ _ h hW (lv_sub hl [1, 2, 0] rfl)
def n_X1_nobodyIs_13_b16_l (F : Nat) (rc16 : Zs → Int32 → Int32 → Option (Int32 × Zs)) (S : Zs) (x2 : Int32) (x3 : Int32) : Option (Int32 × Zs) :=
  if (24 : Int32) ≤ x3 then (some (x2, S)) else (zcl (n_X9_canBe_14 F S x3 x3) (fun v2 S1 => if v2 = 0 then (zlet (x2 ||| ((1 : Int32) <<< (x3 &&& 31))) (fun v3 => n_X1_nobodyIs_13_b37 F rc16 S1 v3 x3)) else (n_X1_nobodyIs_13_b37 F rc16 S1 x2 x3)))
set_option maxRecDepth 20000 in
set_option maxHeartbeats 4000000 in
theorem w_X1_nobodyIs_13_b16_l {F : Nat} {q : (Int32 × Zs)} {S : Zs} {rc16 : Zs → Int32 → Int32 → Option (Int32 × Zs)} {x2 : Int32} {x3 : Int32} {ls : Array Slot} {H : Heap} {locs : List Loc} (C : zC p s m args meth c cX1_nobodyIs 4 RX1 (some .int)) (hrc16 : ∀ (S : Zs) (x2 : Int32) (x3 : Int32) (H : Heap) (locs : List Loc) (ls : Array Slot), rc16 S x2 x3 = some q → zW (xG D cs ad) s S H locs → lv_has ls 4 [(1, .ref (ad 14)), (2, .int x2), (3, .int x3)] → W p l e (zR 2 46) s m args below meth c H locs 0 0 (zQi (xG D cs ad) q below args s) (F0 m 16 ls [])) (h : n_X1_nobodyIs_13_b16_l F rc16 S x2 x3 = some q) (hW : zW (xG D cs ad) s S H locs) (hl : lv_has ls 4 [(1, .ref (ad 14)), (2, .int x2), (3, .int x3)]) : W p l e (zR 2 46) s m args below meth c H locs 0 0 (zQi (xG D cs ad) q below args s) (F0 m 16 ls []) := by
  unfold n_X1_nobodyIs_13_b16_l at h
  obtain ⟨hx, hb, hml, hown, hts, hret, hlk⟩ := id C
  refine lv_iload_n hx hb dX1_nobodyIs_16 rfl (lv_at hl 2 rfl) ?_
  refine lv_bipush (v := 24) hx hb dX1_nobodyIs_17 (by decide) ?_
  refine zz_cge (tgt := 43) C h dX1_nobodyIs_19 (by decide) (fun h => ?_) (fun h => ?_)
  · refine lv_iload_n hx hb dX1_nobodyIs_43 rfl (lv_at hl 1 rfl) ?_
    exact zz_iret C rfl h hW dX1_nobodyIs_44
  · refine lv_aload_n hx hb dX1_nobodyIs_22 rfl (lv_at hl 0 rfl) ?_
    refine lv_iload_n hx hb dX1_nobodyIs_23 rfl (lv_at hl 2 rfl) ?_
    refine lv_iload_n hx hb dX1_nobodyIs_24 rfl (lv_at hl 2 rfl) ?_
    refine zz_callVi (As := [.int x3, .int x3]) C hW h (fun r hr => c_X9_canBe_14 hr) lk_X1_103 (hW.recv xr_14) rfl hl.1 ⟨rfl, rfl⟩ ⟨Nat.le_of_ble_eq_true rfl, Nat.le_of_ble_eq_true rfl⟩ (Nat.le_of_ble_eq_true rfl) ⟨Nat.zero_le _, Nat.zero_le _⟩ rfl dX1_nobodyIs_25 (fun v2 S1 H locs h hW => ?_)
    refine zz_ine (tgt := 37) C h dX1_nobodyIs_28 (by decide) (fun h => ?_) (fun h => ?_)
    · exact w_X1_nobodyIs_13_b37 (F := F) C hrc16 h hW (lv_sub hl [0, 1, 2] rfl)
    · refine lv_iload_n hx hb dX1_nobodyIs_31 rfl (lv_at hl 1 rfl) ?_
      refine lv_iconst (v := 1) hx hb dX1_nobodyIs_32 (by decide) ?_
      refine lv_iload_n hx hb dX1_nobodyIs_33 rfl (lv_at hl 2 rfl) ?_
      refine lv_ishl hx hb dX1_nobodyIs_34 ?_
      refine lv_ior hx hb dX1_nobodyIs_35 ?_
      refine zz_leti h (fun v3 h => ?_)
      refine lv_istore_n (lv' := [(2, .int v3), (1, .ref (ad 14)), (3, .int x3)]) hx hb dX1_nobodyIs_36 rfl hl (by decide) rfl (fun ls hl => ?_)
      exact w_X1_nobodyIs_13_b37 (F := F) C hrc16 h hW (lv_sub hl [1, 0, 2] rfl)
def n_X1_nobodyIs_13_b16 (F : Nat)  (S : Zs) (x2 : Int32) (x3 : Int32) : Option (Int32 × Zs) :=
  zfix (fun (rc : (Zs × Int32 × Int32) → Option (Int32 × Zs)) (u : (Zs × Int32 × Int32)) => n_X1_nobodyIs_13_b16_l F  (fun S x2 x3 => rc (S, x2, x3)) u.1 u.2.1 u.2.2) F (S, x2, x3)
theorem w_X1_nobodyIs_13_b16 {F : Nat} {q : (Int32 × Zs)}  (C : zC p s m args meth c cX1_nobodyIs 4 RX1 (some .int))  : ∀ (n : Nat) (S : Zs) (x2 : Int32) (x3 : Int32) (H : Heap) (locs : List Loc) (ls : Array Slot), zfix (fun (rc : (Zs × Int32 × Int32) → Option (Int32 × Zs)) (u : (Zs × Int32 × Int32)) => n_X1_nobodyIs_13_b16_l F  (fun S x2 x3 => rc (S, x2, x3)) u.1 u.2.1 u.2.2) n (S, x2, x3) = some q → zW (xG D cs ad) s S H locs → lv_has ls 4 [(1, .ref (ad 14)), (2, .int x2), (3, .int x3)] → W p l e (zR 2 46) s m args below meth c H locs 0 0 (zQi (xG D cs ad) q below args s) (F0 m 16 ls []) := by
  intro n
  induction n with
  | zero => intro S x2 x3 H locs ls h; exact absurd h (fun h => by cases h)
  | succ n ih => intro S x2 x3 H locs ls h hW hl; exact w_X1_nobodyIs_13_b16_l (F := F) C (fun S x2 x3 H locs ls h hW hl => ih S x2 x3 H locs ls h hW hl) h hW hl
def n_X1_nobodyIs_13_e (F : Nat)  (S : Zs)  : Option (Int32 × Zs) :=
  zcl (n_X2_active_3 F S ) (fun v2 S1 => zcl (n_X1_prepare_13 F S1 v2) (fun v4 S3 => n_X1_nobodyIs_13_b16 F  S3 (0 : Int32) (0 : Int32)))
set_option maxRecDepth 20000 in
set_option maxHeartbeats 4000000 in
theorem w_X1_nobodyIs_13_e {F : Nat} {q : (Int32 × Zs)} {S : Zs}   {ls : Array Slot} {H : Heap} {locs : List Loc} (C : zC p s m args meth c cX1_nobodyIs 4 RX1 (some .int))  (h : n_X1_nobodyIs_13_e F  S  = some q) (hW : zW (xG D cs ad) s S H locs) (hl : lv_has ls 4 [(0, .ref (ad 13))]) : W p l e (zR 2 46) s m args below meth c H locs 0 0 (zQi (xG D cs ad) q below args s) (F0 m 0 ls []) := by
  unfold n_X1_nobodyIs_13_e at h
  obtain ⟨hx, hb, hml, hown, hts, hret, hlk⟩ := id C
  refine lv_aload_n hx hb dX1_nobodyIs_0 rfl (lv_at hl 0 rfl) ?_
  refine lv_aload_n hx hb dX1_nobodyIs_1 rfl (lv_at hl 0 rfl) ?_
  refine xg_13_0 C hW fl_X1_32 dX1_nobodyIs_2 ?_
  refine zz_callVi (As := []) C hW h (fun r hr => c_X2_active_3 hr) lk_X1_95 (hW.recv xr_3) rfl hl.1 ⟨rfl, rfl⟩ ⟨Nat.le_of_ble_eq_true rfl, Nat.le_of_ble_eq_true rfl⟩ (Nat.le_of_ble_eq_true rfl) ⟨Nat.zero_le _, Nat.zero_le _⟩ rfl dX1_nobodyIs_5 (fun v2 S1 H locs h hW => ?_)
  refine zz_callVr (As := [.int v2]) C hW h (fun r hr => c_X1_prepare_13 hr) lk_X1_78 (hW.recv xr_13) rfl hl.1 ⟨rfl, rfl⟩ ⟨Nat.le_of_ble_eq_true rfl, Nat.le_of_ble_eq_true rfl⟩ (Nat.le_of_ble_eq_true rfl) ⟨Nat.zero_le _, Nat.zero_le _⟩ rfl dX1_nobodyIs_8 (fun v4 S3 H locs h hW => ?_)
  refine lv_astore_n (lv' := [(1, .ref (ad 14)), (0, .ref (ad 13))]) hx hb dX1_nobodyIs_11 rfl hl (by decide) rfl (fun ls hl => ?_)
  refine lv_iconst (v := 0) hx hb dX1_nobodyIs_12 (by decide) ?_
  refine lv_istore_n (lv' := [(2, .int (0 : Int32)), (1, .ref (ad 14)), (0, .ref (ad 13))]) hx hb dX1_nobodyIs_13 rfl hl (by decide) rfl (fun ls hl => ?_)
  refine lv_iconst (v := 0) hx hb dX1_nobodyIs_14 (by decide) ?_
  refine lv_istore_n (lv' := [(3, .int (0 : Int32)), (2, .int (0 : Int32)), (1, .ref (ad 14)), (0, .ref (ad 13))]) hx hb dX1_nobodyIs_15 rfl hl (by decide) rfl (fun ls hl => ?_)
  exact w_X1_nobodyIs_13_b16 (F := F) C F _ _ _ _ _ _ h hW (lv_sub hl [2, 1, 0] rfl)
def n_X1_nobodyIs_13 (F : Nat) (S : Zs)  : Option (Int32 × Zs) := n_X1_nobodyIs_13_e F  S 
theorem c_X1_nobodyIs_13 {l : Launch} {D : va_G} {cs ad : Nat → Nat} {F : Nat} {S : Zs}  {q : (Int32 × Zs)} (h : n_X1_nobodyIs_13 F S  = some q) : zMi l yX1_nobodyIs cX1_nobodyIs 4 (some .int) (zR 2 46) (xG D cs ad) [.ref (ad 13)] S q :=
  zz_enter (by decide) (Nat.le_of_ble_eq_true rfl) (fun p e s m below meth c ls C hW hl => w_X1_nobodyIs_13_e (F := F) C h hW (lv_sub hl [0] rfl))
def n_X11_empty_0_e (F : Nat)  (S : Zs)  : Option (Int32 × Zs) :=
  zcl (n_X1_nobodyIs_13 F S ) (fun v2 S1 => some (v2, S1))
set_option maxRecDepth 20000 in
set_option maxHeartbeats 4000000 in
theorem w_X11_empty_0_e {F : Nat} {q : (Int32 × Zs)} {S : Zs}   {ls : Array Slot} {H : Heap} {locs : List Loc} (C : zC p s m args meth c cX11_empty 1 RX11 (some .int))  (h : n_X11_empty_0_e F  S  = some q) (hW : zW (xG D cs ad) s S H locs) (hl : lv_has ls 1 [(0, .ref (ad 0))]) : W p l e (zR 3 69) s m args below meth c H locs 0 0 (zQi (xG D cs ad) q below args s) (F0 m 0 ls []) := by
  unfold n_X11_empty_0_e at h
  obtain ⟨hx, hb, hml, hown, hts, hret, hlk⟩ := id C
  refine lv_aload_n hx hb dX11_empty_0 rfl (lv_at hl 0 rfl) ?_
  refine xg_0_2 C hW fl_X11_31 dX11_empty_1 ?_
  refine zz_callVi (As := []) C hW h (fun r hr => c_X1_nobodyIs_13 hr) lk_X11_192 (hW.recv xr_13) rfl hl.1 ⟨rfl, rfl⟩ ⟨Nat.le_of_ble_eq_true rfl, Nat.le_of_ble_eq_true rfl⟩ (Nat.le_of_ble_eq_true rfl) ⟨Nat.zero_le _, Nat.zero_le _⟩ rfl dX11_empty_4 (fun v2 S1 H locs h hW => ?_)
  exact zz_iret C rfl h hW dX11_empty_7
def n_X11_empty_0 (F : Nat) (S : Zs)  : Option (Int32 × Zs) := n_X11_empty_0_e F  S 
theorem c_X11_empty_0 {l : Launch} {D : va_G} {cs ad : Nat → Nat} {F : Nat} {S : Zs}  {q : (Int32 × Zs)} (h : n_X11_empty_0 F S  = some q) : zMi l yX11_empty cX11_empty 1 (some .int) (zR 3 69) (xG D cs ad) [.ref (ad 0)] S q :=
  zz_enter (by decide) (Nat.le_of_ble_eq_true rfl) (fun p e s m below meth c ls C hW hl => w_X11_empty_0_e (F := F) C h hW (lv_sub hl [0] rfl))
def n_X2_isActive_3_b28 (F : Nat)  (S : Zs) (t0 : Int32) : Option (Int32 × Zs) :=
  zrb t0 S
set_option maxRecDepth 20000 in
set_option maxHeartbeats 4000000 in
theorem w_X2_isActive_3_b28 {F : Nat} {q : (Int32 × Zs)} {S : Zs}  {t0 : Int32} {ls : Array Slot} {H : Heap} {locs : List Loc} (C : zC p s m args meth c cX2_isActive 2 RX2 (some .boolean))  (h : n_X2_isActive_3_b28 F  S t0 = some q) (hW : zW (xG D cs ad) s S H locs) (hl : lv_has ls 2 []) : W p l e (zR 0 0) s m args below meth c H locs 0 0 (zQi (xG D cs ad) q below args s) (F0 m 28 ls [.int t0]) := by
  unfold n_X2_isActive_3_b28 at h
  obtain ⟨hx, hb, hml, hown, hts, hret, hlk⟩ := id C
  exact zz_zret C rfl h hW dX2_isActive_28
def n_X2_isActive_3_b27 (F : Nat)  (S : Zs)  : Option (Int32 × Zs) :=
  n_X2_isActive_3_b28 F  S (0 : Int32)
set_option maxRecDepth 20000 in
set_option maxHeartbeats 4000000 in
theorem w_X2_isActive_3_b27 {F : Nat} {q : (Int32 × Zs)} {S : Zs}   {ls : Array Slot} {H : Heap} {locs : List Loc} (C : zC p s m args meth c cX2_isActive 2 RX2 (some .boolean))  (h : n_X2_isActive_3_b27 F  S  = some q) (hW : zW (xG D cs ad) s S H locs) (hl : lv_has ls 2 []) : W p l e (zR 0 0) s m args below meth c H locs 0 0 (zQi (xG D cs ad) q below args s) (F0 m 27 ls []) := by
  unfold n_X2_isActive_3_b27 at h
  obtain ⟨hx, hb, hml, hown, hts, hret, hlk⟩ := id C
  refine lv_iconst (v := 0) hx hb dX2_isActive_27 (by decide) ?_
  exact w_X2_isActive_3_b28 (F := F) C h hW (lv_sub hl [] rfl)
def n_X2_isActive_3_e (F : Nat)  (S : Zs) (x1 : Int32) : Option (Int32 × Zs) :=
  if x1 < 0 then (n_X2_isActive_3_b27 F  S ) else (zgf S 62 (fun v1 => if v1 ≤ x1 then (n_X2_isActive_3_b27 F  S ) else (zgf S 64 (fun v2 => if ((v2 >>> (x1 &&& 31)) &&& (1 : Int32)) = 0 then (n_X2_isActive_3_b28 F  S (1 : Int32)) else (n_X2_isActive_3_b27 F  S )))))
set_option maxRecDepth 20000 in
set_option maxHeartbeats 4000000 in
theorem w_X2_isActive_3_e {F : Nat} {q : (Int32 × Zs)} {S : Zs}  {x1 : Int32} {ls : Array Slot} {H : Heap} {locs : List Loc} (C : zC p s m args meth c cX2_isActive 2 RX2 (some .boolean))  (h : n_X2_isActive_3_e F  S x1 = some q) (hW : zW (xG D cs ad) s S H locs) (hl : lv_has ls 2 [(0, .ref (ad 3)), (1, .int x1)]) : W p l e (zR 0 0) s m args below meth c H locs 0 0 (zQi (xG D cs ad) q below args s) (F0 m 0 ls []) := by
  unfold n_X2_isActive_3_e at h
  obtain ⟨hx, hb, hml, hown, hts, hret, hlk⟩ := id C
  refine lv_iload_n hx hb dX2_isActive_0 rfl (lv_at hl 1 rfl) ?_
  refine zz_ilt (tgt := 27) C h dX2_isActive_1 (by decide) (fun h => ?_) (fun h => ?_)
  · exact w_X2_isActive_3_b27 (F := F) C h hW (lv_sub hl [] rfl)
  · refine lv_iload_n hx hb dX2_isActive_4 rfl (lv_at hl 1 rfl) ?_
    refine lv_aload_n hx hb dX2_isActive_5 rfl (lv_at hl 0 rfl) ?_
    refine xg_3_2 C hW h fl_X2_50 dX2_isActive_6 (fun v1 h => ?_)
    refine zz_cge (tgt := 27) C h dX2_isActive_9 (by decide) (fun h => ?_) (fun h => ?_)
    · exact w_X2_isActive_3_b27 (F := F) C h hW (lv_sub hl [] rfl)
    · refine lv_aload_n hx hb dX2_isActive_12 rfl (lv_at hl 0 rfl) ?_
      refine xg_3_4 C hW h fl_X2_81 dX2_isActive_13 (fun v2 h => ?_)
      refine lv_iload_n hx hb dX2_isActive_16 rfl (lv_at hl 1 rfl) ?_
      refine lv_ishr hx hb dX2_isActive_17 ?_
      refine lv_iconst (v := 1) hx hb dX2_isActive_18 (by decide) ?_
      refine lv_iand hx hb dX2_isActive_19 ?_
      refine zz_ine (tgt := 27) C h dX2_isActive_20 (by decide) (fun h => ?_) (fun h => ?_)
      · exact w_X2_isActive_3_b27 (F := F) C h hW (lv_sub hl [] rfl)
      · refine lv_iconst (v := 1) hx hb dX2_isActive_23 (by decide) ?_
        refine lv_goto (tgt := 28) hx hb dX2_isActive_24 (by decide) ?_
        exact w_X2_isActive_3_b28 (F := F) C h hW (lv_sub hl [] rfl)
def n_X2_isActive_3 (F : Nat) (S : Zs) (x1 : Int32) : Option (Int32 × Zs) := n_X2_isActive_3_e F  S x1
theorem c_X2_isActive_3 {l : Launch} {D : va_G} {cs ad : Nat → Nat} {F : Nat} {S : Zs} {x1 : Int32} {q : (Int32 × Zs)} (h : n_X2_isActive_3 F S x1 = some q) : zMi l yX2_isActive cX2_isActive 2 (some .boolean) (zR 0 0) (xG D cs ad) [.ref (ad 3), .int x1] S q :=
  zz_enter (by decide) (Nat.le_of_ble_eq_true rfl) (fun p e s m below meth c ls C hW hl => w_X2_isActive_3_e (F := F) C h hW (lv_sub hl [0, 1] rfl))
def n_X1_reaches_13_b22 (F : Nat)  (S : Zs)  : Option (Int32 × Zs) :=
  zrb (0 : Int32) S
set_option maxRecDepth 20000 in
set_option maxHeartbeats 4000000 in
theorem w_X1_reaches_13_b22 {F : Nat} {q : (Int32 × Zs)} {S : Zs}   {ls : Array Slot} {H : Heap} {locs : List Loc} (C : zC p s m args meth c cX1_reaches 4 RX1 (some .boolean))  (h : n_X1_reaches_13_b22 F  S  = some q) (hW : zW (xG D cs ad) s S H locs) (hl : lv_has ls 4 []) : W p l e (zR 0 0) s m args below meth c H locs 0 0 (zQi (xG D cs ad) q below args s) (F0 m 22 ls []) := by
  unfold n_X1_reaches_13_b22 at h
  obtain ⟨hx, hb, hml, hown, hts, hret, hlk⟩ := id C
  refine lv_iconst (v := 0) hx hb dX1_reaches_22 (by decide) ?_
  exact zz_zret C rfl h hW dX1_reaches_23
def n_X1_reaches_13_e (F : Nat)  (S : Zs) (x1 : Int32) (x2 : Int32) (x3 : Int32) : Option (Int32 × Zs) :=
  zld S 22 24 x2 (fun v1 => if v1 = (x3 - (1 : Int32)) then (zld S 22 24 x1 (fun v2 => if x3 < v2 then (zst S 22 24 x1 x3 (fun S3 => zrb (1 : Int32) S3)) else (n_X1_reaches_13_b22 F  S ))) else (n_X1_reaches_13_b22 F  S ))
set_option maxRecDepth 20000 in
set_option maxHeartbeats 4000000 in
theorem w_X1_reaches_13_e {F : Nat} {q : (Int32 × Zs)} {S : Zs}  {x1 : Int32} {x2 : Int32} {x3 : Int32} {ls : Array Slot} {H : Heap} {locs : List Loc} (C : zC p s m args meth c cX1_reaches 4 RX1 (some .boolean))  (h : n_X1_reaches_13_e F  S x1 x2 x3 = some q) (hW : zW (xG D cs ad) s S H locs) (hl : lv_has ls 4 [(0, .ref (ad 13)), (1, .int x1), (2, .int x2), (3, .int x3)]) : W p l e (zR 0 0) s m args below meth c H locs 0 0 (zQi (xG D cs ad) q below args s) (F0 m 0 ls []) := by
  unfold n_X1_reaches_13_e at h
  obtain ⟨hx, hb, hml, hown, hts, hret, hlk⟩ := id C
  refine lv_aload_n hx hb dX1_reaches_0 rfl (lv_at hl 0 rfl) ?_
  refine xg_13_3 C hW fl_X1_21 dX1_reaches_1 ?_
  refine lv_iload_n hx hb dX1_reaches_4 rfl (lv_at hl 2 rfl) ?_
  refine xl_22 C hW h dX1_reaches_5 (fun v1 h => ?_)
  refine lv_iload_n hx hb dX1_reaches_6 rfl (lv_at hl 3 rfl) ?_
  refine lv_iconst (v := 1) hx hb dX1_reaches_7 (by decide) ?_
  refine lv_isub hx hb dX1_reaches_8 ?_
  refine zz_cne (tgt := 22) C h dX1_reaches_9 (by decide) (fun h => ?_) (fun h => ?_)
  · exact w_X1_reaches_13_b22 (F := F) C h hW (lv_sub hl [] rfl)
  · refine lv_aload_n hx hb dX1_reaches_12 rfl (lv_at hl 0 rfl) ?_
    refine xg_13_3 C hW fl_X1_21 dX1_reaches_13 ?_
    refine lv_iload_n hx hb dX1_reaches_16 rfl (lv_at hl 1 rfl) ?_
    refine xl_22 C hW h dX1_reaches_17 (fun v2 h => ?_)
    refine lv_iload_n hx hb dX1_reaches_18 rfl (lv_at hl 3 rfl) ?_
    refine zz_cgt (tgt := 24) C h dX1_reaches_19 (by decide) (fun h => ?_) (fun h => ?_)
    · refine lv_aload_n hx hb dX1_reaches_24 rfl (lv_at hl 0 rfl) ?_
      refine xg_13_3 C hW fl_X1_21 dX1_reaches_25 ?_
      refine lv_iload_n hx hb dX1_reaches_28 rfl (lv_at hl 1 rfl) ?_
      refine lv_iload_n hx hb dX1_reaches_29 rfl (lv_at hl 3 rfl) ?_
      refine xs_22 C hW h dX1_reaches_30 (fun S3 H locs h hW => ?_)
      refine lv_iconst (v := 1) hx hb dX1_reaches_31 (by decide) ?_
      exact zz_zret C rfl h hW dX1_reaches_32
    · exact w_X1_reaches_13_b22 (F := F) C h hW (lv_sub hl [] rfl)
def n_X1_reaches_13 (F : Nat) (S : Zs) (x1 : Int32) (x2 : Int32) (x3 : Int32) : Option (Int32 × Zs) := n_X1_reaches_13_e F  S x1 x2 x3
theorem c_X1_reaches_13 {l : Launch} {D : va_G} {cs ad : Nat → Nat} {F : Nat} {S : Zs} {x1 : Int32} {x2 : Int32} {x3 : Int32} {q : (Int32 × Zs)} (h : n_X1_reaches_13 F S x1 x2 x3 = some q) : zMi l yX1_reaches cX1_reaches 4 (some .boolean) (zR 0 0) (xG D cs ad) [.ref (ad 13), .int x1, .int x2, .int x3] S q :=
  zz_enter (by decide) (Nat.le_of_ble_eq_true rfl) (fun p e s m below meth c ls C hW hl => w_X1_reaches_13_e (F := F) C h hW (lv_sub hl [0, 1, 2, 3] rfl))
def n_X1_measureDistances_13_b146 (F : Nat)  (S : Zs)  : Option (Int32 × Zs) :=
  some (0, S)
set_option maxRecDepth 20000 in
set_option maxHeartbeats 4000000 in
theorem w_X1_measureDistances_13_b146 {F : Nat} {q : (Int32 × Zs)} {S : Zs}   {ls : Array Slot} {H : Heap} {locs : List Loc} (C : zC p s m args meth c cX1_measureDistances 6 RX1 none)  (h : n_X1_measureDistances_13_b146 F  S  = some q) (hW : zW (xG D cs ad) s S H locs) (hl : lv_has ls 6 []) : W p l e (zR 1 23) s m args below meth c H locs 0 0 (zQv (xG D cs ad) q below args s) (F0 m 146 ls []) := by
  unfold n_X1_measureDistances_13_b146 at h
  obtain ⟨hx, hb, hml, hown, hts, hret, hlk⟩ := id C
  exact zz_vret C rfl h hW dX1_measureDistances_146
def n_X1_measureDistances_13_b134 (F : Nat) (rc35 : Zs → Int32 → Int32 → Option (Int32 × Zs)) (rc50 : Zs → Int32 → Int32 → Int32 → Option (Int32 × Zs)) (S : Zs) (x2 : Int32) (x3 : Int32) (x4 : Int32) : Option (Int32 × Zs) :=
  zlet (x4 + (1 : Int32)) (fun v1 => rc50 S x2 x3 v1)
set_option maxRecDepth 20000 in
set_option maxHeartbeats 4000000 in
theorem w_X1_measureDistances_13_b134 {F : Nat} {q : (Int32 × Zs)} {S : Zs} {rc35 : Zs → Int32 → Int32 → Option (Int32 × Zs)} {rc50 : Zs → Int32 → Int32 → Int32 → Option (Int32 × Zs)} {x2 : Int32} {x3 : Int32} {x4 : Int32} {ls : Array Slot} {H : Heap} {locs : List Loc} (C : zC p s m args meth c cX1_measureDistances 6 RX1 none) (hrc35 : ∀ (S : Zs) (x2 : Int32) (x3 : Int32) (H : Heap) (locs : List Loc) (ls : Array Slot), rc35 S x2 x3 = some q → zW (xG D cs ad) s S H locs → lv_has ls 6 [(0, .ref (ad 13)), (2, .int x2), (3, .int x3)] → W p l e (zR 1 23) s m args below meth c H locs 0 0 (zQv (xG D cs ad) q below args s) (F0 m 35 ls [])) (hrc50 : ∀ (S : Zs) (x2 : Int32) (x3 : Int32) (x4 : Int32) (H : Heap) (locs : List Loc) (ls : Array Slot), rc50 S x2 x3 x4 = some q → zW (xG D cs ad) s S H locs → lv_has ls 6 [(0, .ref (ad 13)), (2, .int x2), (3, .int x3), (4, .int x4)] → W p l e (zR 1 23) s m args below meth c H locs 0 0 (zQv (xG D cs ad) q below args s) (F0 m 50 ls [])) (h : n_X1_measureDistances_13_b134 F rc35 rc50 S x2 x3 x4 = some q) (hW : zW (xG D cs ad) s S H locs) (hl : lv_has ls 6 [(0, .ref (ad 13)), (2, .int x2), (3, .int x3), (4, .int x4)]) : W p l e (zR 1 23) s m args below meth c H locs 0 0 (zQv (xG D cs ad) q below args s) (F0 m 134 ls []) := by
  unfold n_X1_measureDistances_13_b134 at h
  obtain ⟨hx, hb, hml, hown, hts, hret, hlk⟩ := id C
  obtain ⟨v1, ev1, h⟩ := zz_name h
  refine lv_iinc (v := v1) (lv' := [(4, .int v1), (0, .ref (ad 13)), (2, .int x2), (3, .int x3)]) hx hb dX1_measureDistances_134 hl (k := 3) rfl ev1.symm (by decide) rfl (fun ls hl => ?_)
  refine lv_goto (tgt := 50) hx hb dX1_measureDistances_137 (by decide) ?_
  exact hrc50 _ _ _ _ _ _ _ h hW (lv_sub hl [1, 2, 3, 0] rfl)
def n_X1_measureDistances_13_b50_l (F : Nat) (rc35 : Zs → Int32 → Int32 → Option (Int32 × Zs)) (rc50 : Zs → Int32 → Int32 → Int32 → Option (Int32 × Zs)) (S : Zs) (x2 : Int32) (x3 : Int32) (x4 : Int32) : Option (Int32 × Zs) :=
  zgf S 62 (fun v1 => if v1 ≤ x4 then (zlet (x3 + (1 : Int32)) (fun v2 => rc35 S x2 v2)) else (zld S 4 16 x4 (fun v3 => zcl (n_X2_isActive_3 F S x4) (fun v5 S4 => if v5 = 0 then (n_X1_measureDistances_13_b134 F rc35 rc50 S4 x2 x3 x4) else (zcl (n_X0_isUniversal F S4 v3) (fun v7 S6 => if v7 = 0 then (n_X1_measureDistances_13_b134 F rc35 rc50 S6 x2 x3 x4) else (zcl (n_X0_subject F S6 v3) (fun v9 S8 => zcl (n_X0_target F S8 v3) (fun v11 S10 => zcl (n_X1_reaches_13 F S10 v9 v11 x3) (fun v13 S12 => zlet (x2 ||| v13) (fun v14 => zcl (n_X0_target F S12 v3) (fun v16 S15 => zcl (n_X0_subject F S15 v3) (fun v18 S17 => zcl (n_X1_reaches_13 F S17 (v16 ^^^ (1 : Int32)) (v18 ^^^ (1 : Int32)) x3) (fun v20 S19 => zlet (v14 ||| v20) (fun v21 => n_X1_measureDistances_13_b134 F rc35 rc50 S19 v21 x3 x4)))))))))))))))
set_option maxRecDepth 20000 in
set_option maxHeartbeats 4000000 in
theorem w_X1_measureDistances_13_b50_l {F : Nat} {q : (Int32 × Zs)} {S : Zs} {rc35 : Zs → Int32 → Int32 → Option (Int32 × Zs)} {rc50 : Zs → Int32 → Int32 → Int32 → Option (Int32 × Zs)} {x2 : Int32} {x3 : Int32} {x4 : Int32} {ls : Array Slot} {H : Heap} {locs : List Loc} (C : zC p s m args meth c cX1_measureDistances 6 RX1 none) (hrc35 : ∀ (S : Zs) (x2 : Int32) (x3 : Int32) (H : Heap) (locs : List Loc) (ls : Array Slot), rc35 S x2 x3 = some q → zW (xG D cs ad) s S H locs → lv_has ls 6 [(0, .ref (ad 13)), (2, .int x2), (3, .int x3)] → W p l e (zR 1 23) s m args below meth c H locs 0 0 (zQv (xG D cs ad) q below args s) (F0 m 35 ls [])) (hrc50 : ∀ (S : Zs) (x2 : Int32) (x3 : Int32) (x4 : Int32) (H : Heap) (locs : List Loc) (ls : Array Slot), rc50 S x2 x3 x4 = some q → zW (xG D cs ad) s S H locs → lv_has ls 6 [(0, .ref (ad 13)), (2, .int x2), (3, .int x3), (4, .int x4)] → W p l e (zR 1 23) s m args below meth c H locs 0 0 (zQv (xG D cs ad) q below args s) (F0 m 50 ls [])) (h : n_X1_measureDistances_13_b50_l F rc35 rc50 S x2 x3 x4 = some q) (hW : zW (xG D cs ad) s S H locs) (hl : lv_has ls 6 [(0, .ref (ad 13)), (2, .int x2), (3, .int x3), (4, .int x4)]) : W p l e (zR 1 23) s m args below meth c H locs 0 0 (zQv (xG D cs ad) q below args s) (F0 m 50 ls []) := by
  unfold n_X1_measureDistances_13_b50_l at h
  obtain ⟨hx, hb, hml, hown, hts, hret, hlk⟩ := id C
  refine lv_iload hx hb dX1_measureDistances_50 (lv_at hl 3 rfl) ?_
  refine lv_aload_n hx hb dX1_measureDistances_52 rfl (lv_at hl 0 rfl) ?_
  refine xg_13_0 C hW fl_X1_32 dX1_measureDistances_53 ?_
  refine xg_3_2 C hW h fl_X1_48 dX1_measureDistances_56 (fun v1 h => ?_)
  refine zz_cge (tgt := 140) C h dX1_measureDistances_59 (by decide) (fun h => ?_) (fun h => ?_)
  · obtain ⟨v2, ev2, h⟩ := zz_name h
    refine lv_iinc (v := v2) (lv' := [(3, .int v2), (0, .ref (ad 13)), (2, .int x2), (4, .int x4)]) hx hb dX1_measureDistances_140 hl (k := 2) rfl ev2.symm (by decide) rfl (fun ls hl => ?_)
    refine lv_goto (tgt := 35) hx hb dX1_measureDistances_143 (by decide) ?_
    exact hrc35 _ _ _ _ _ _ h hW (lv_sub hl [1, 2, 0] rfl)
  · refine lv_aload_n hx hb dX1_measureDistances_62 rfl (lv_at hl 0 rfl) ?_
    refine xg_13_0 C hW fl_X1_32 dX1_measureDistances_63 ?_
    refine xg_3_0 C hW fl_X1_51 dX1_measureDistances_66 ?_
    refine lv_iload hx hb dX1_measureDistances_69 (lv_at hl 3 rfl) ?_
    refine xl_4 C hW h dX1_measureDistances_71 (fun v3 h => ?_)
    refine lv_istore (lv' := [(5, .int v3), (0, .ref (ad 13)), (2, .int x2), (3, .int x3), (4, .int x4)]) hx hb dX1_measureDistances_72 hl (by decide) rfl (fun ls hl => ?_)
    refine lv_aload_n hx hb dX1_measureDistances_74 rfl (lv_at hl 1 rfl) ?_
    refine xg_13_0 C hW fl_X1_32 dX1_measureDistances_75 ?_
    refine lv_iload hx hb dX1_measureDistances_78 (lv_at hl 4 rfl) ?_
    refine zz_callVi (As := [.int x4]) C hW h (fun r hr => c_X2_isActive_3 hr) lk_X1_109 (hW.recv xr_3) rfl hl.1 ⟨rfl, rfl⟩ ⟨Nat.le_of_ble_eq_true rfl, Nat.le_of_ble_eq_true rfl⟩ (Nat.le_of_ble_eq_true rfl) ⟨Nat.zero_le _, Nat.zero_le _⟩ rfl dX1_measureDistances_80 (fun v5 S4 H locs h hW => ?_)
    refine zz_ieq (tgt := 134) C h dX1_measureDistances_83 (by decide) (fun h => ?_) (fun h => ?_)
    · exact w_X1_measureDistances_13_b134 (F := F) C hrc35 hrc50 h hW (lv_sub hl [1, 2, 3, 4] rfl)
    · refine lv_iload hx hb dX1_measureDistances_86 (lv_at hl 0 rfl) ?_
      refine zz_callSi (As := [.int v3]) C hW h (fun r hr => c_X0_isUniversal hr) lk_X1_54 rfl hl.1 ⟨rfl, rfl⟩ ⟨Nat.le_of_ble_eq_true rfl, Nat.le_of_ble_eq_true rfl⟩ (Nat.le_of_ble_eq_true rfl) ⟨Nat.zero_le _, Nat.zero_le _⟩ rfl dX1_measureDistances_88 (fun v7 S6 H locs h hW => ?_)
      refine zz_ieq (tgt := 134) C h dX1_measureDistances_91 (by decide) (fun h => ?_) (fun h => ?_)
      · exact w_X1_measureDistances_13_b134 (F := F) C hrc35 hrc50 h hW (lv_sub hl [1, 2, 3, 4] rfl)
      · refine lv_iload_n hx hb dX1_measureDistances_94 rfl (lv_at hl 2 rfl) ?_
        refine lv_aload_n hx hb dX1_measureDistances_95 rfl (lv_at hl 1 rfl) ?_
        refine lv_iload hx hb dX1_measureDistances_96 (lv_at hl 0 rfl) ?_
        refine zz_callSi (As := [.int v3]) C hW h (fun r hr => c_X0_subject hr) lk_X1_60 rfl hl.1 ⟨rfl, rfl⟩ ⟨Nat.le_of_ble_eq_true rfl, Nat.le_of_ble_eq_true rfl⟩ (Nat.le_of_ble_eq_true rfl) ⟨Nat.zero_le _, Nat.zero_le _⟩ rfl dX1_measureDistances_98 (fun v9 S8 H locs h hW => ?_)
        refine lv_iload hx hb dX1_measureDistances_101 (lv_at hl 0 rfl) ?_
        refine zz_callSi (As := [.int v3]) C hW h (fun r hr => c_X0_target hr) lk_X1_64 rfl hl.1 ⟨rfl, rfl⟩ ⟨Nat.le_of_ble_eq_true rfl, Nat.le_of_ble_eq_true rfl⟩ (Nat.le_of_ble_eq_true rfl) ⟨Nat.zero_le _, Nat.zero_le _⟩ rfl dX1_measureDistances_103 (fun v11 S10 H locs h hW => ?_)
        refine lv_iload_n hx hb dX1_measureDistances_106 rfl (lv_at hl 3 rfl) ?_
        refine zz_callVi (As := [.int v9, .int v11, .int x3]) C hW h (fun r hr => c_X1_reaches_13 hr) lk_X1_116 (hW.recv xr_13) rfl hl.1 ⟨rfl, rfl⟩ ⟨Nat.le_of_ble_eq_true rfl, Nat.le_of_ble_eq_true rfl⟩ (Nat.le_of_ble_eq_true rfl) ⟨Nat.zero_le _, Nat.zero_le _⟩ rfl dX1_measureDistances_107 (fun v13 S12 H locs h hW => ?_)
        refine lv_ior hx hb dX1_measureDistances_110 ?_
        refine zz_leti h (fun v14 h => ?_)
        refine lv_istore_n (lv' := [(2, .int v14), (5, .int v3), (0, .ref (ad 13)), (3, .int x3), (4, .int x4)]) hx hb dX1_measureDistances_111 rfl hl (by decide) rfl (fun ls hl => ?_)
        refine lv_iload_n hx hb dX1_measureDistances_112 rfl (lv_at hl 0 rfl) ?_
        refine lv_aload_n hx hb dX1_measureDistances_113 rfl (lv_at hl 2 rfl) ?_
        refine lv_iload hx hb dX1_measureDistances_114 (lv_at hl 1 rfl) ?_
        refine zz_callSi (As := [.int v3]) C hW h (fun r hr => c_X0_target hr) lk_X1_64 rfl hl.1 ⟨rfl, rfl⟩ ⟨Nat.le_of_ble_eq_true rfl, Nat.le_of_ble_eq_true rfl⟩ (Nat.le_of_ble_eq_true rfl) ⟨Nat.zero_le _, Nat.zero_le _⟩ rfl dX1_measureDistances_116 (fun v16 S15 H locs h hW => ?_)
        refine lv_iconst (v := 1) hx hb dX1_measureDistances_119 (by decide) ?_
        refine lv_ixor hx hb dX1_measureDistances_120 ?_
        refine lv_iload hx hb dX1_measureDistances_121 (lv_at hl 1 rfl) ?_
        refine zz_callSi (As := [.int v3]) C hW h (fun r hr => c_X0_subject hr) lk_X1_60 rfl hl.1 ⟨rfl, rfl⟩ ⟨Nat.le_of_ble_eq_true rfl, Nat.le_of_ble_eq_true rfl⟩ (Nat.le_of_ble_eq_true rfl) ⟨Nat.zero_le _, Nat.zero_le _⟩ rfl dX1_measureDistances_123 (fun v18 S17 H locs h hW => ?_)
        refine lv_iconst (v := 1) hx hb dX1_measureDistances_126 (by decide) ?_
        refine lv_ixor hx hb dX1_measureDistances_127 ?_
        refine lv_iload_n hx hb dX1_measureDistances_128 rfl (lv_at hl 3 rfl) ?_
        refine zz_callVi (As := [.int (v16 ^^^ (1 : Int32)), .int (v18 ^^^ (1 : Int32)), .int x3]) C hW h (fun r hr => c_X1_reaches_13 hr) lk_X1_116 (hW.recv xr_13) rfl hl.1 ⟨rfl, rfl⟩ ⟨Nat.le_of_ble_eq_true rfl, Nat.le_of_ble_eq_true rfl⟩ (Nat.le_of_ble_eq_true rfl) ⟨Nat.zero_le _, Nat.zero_le _⟩ rfl dX1_measureDistances_129 (fun v20 S19 H locs h hW => ?_)
        refine lv_ior hx hb dX1_measureDistances_132 ?_
        refine zz_leti h (fun v21 h => ?_)
        refine lv_istore_n (lv' := [(2, .int v21), (5, .int v3), (0, .ref (ad 13)), (3, .int x3), (4, .int x4)]) hx hb dX1_measureDistances_133 rfl hl (by decide) rfl (fun ls hl => ?_)
        exact w_X1_measureDistances_13_b134 (F := F) C hrc35 hrc50 h hW (lv_sub hl [2, 0, 3, 4] rfl)
def n_X1_measureDistances_13_b50 (F : Nat) (rc35 : Zs → Int32 → Int32 → Option (Int32 × Zs)) (S : Zs) (x2 : Int32) (x3 : Int32) (x4 : Int32) : Option (Int32 × Zs) :=
  zfix (fun (rc : (Zs × Int32 × Int32 × Int32) → Option (Int32 × Zs)) (u : (Zs × Int32 × Int32 × Int32)) => n_X1_measureDistances_13_b50_l F rc35 (fun S x2 x3 x4 => rc (S, x2, x3, x4)) u.1 u.2.1 u.2.2.1 u.2.2.2) F (S, x2, x3, x4)
theorem w_X1_measureDistances_13_b50 {F : Nat} {q : (Int32 × Zs)} {rc35 : Zs → Int32 → Int32 → Option (Int32 × Zs)} (C : zC p s m args meth c cX1_measureDistances 6 RX1 none) (hrc35 : ∀ (S : Zs) (x2 : Int32) (x3 : Int32) (H : Heap) (locs : List Loc) (ls : Array Slot), rc35 S x2 x3 = some q → zW (xG D cs ad) s S H locs → lv_has ls 6 [(0, .ref (ad 13)), (2, .int x2), (3, .int x3)] → W p l e (zR 1 23) s m args below meth c H locs 0 0 (zQv (xG D cs ad) q below args s) (F0 m 35 ls [])) : ∀ (n : Nat) (S : Zs) (x2 : Int32) (x3 : Int32) (x4 : Int32) (H : Heap) (locs : List Loc) (ls : Array Slot), zfix (fun (rc : (Zs × Int32 × Int32 × Int32) → Option (Int32 × Zs)) (u : (Zs × Int32 × Int32 × Int32)) => n_X1_measureDistances_13_b50_l F rc35 (fun S x2 x3 x4 => rc (S, x2, x3, x4)) u.1 u.2.1 u.2.2.1 u.2.2.2) n (S, x2, x3, x4) = some q → zW (xG D cs ad) s S H locs → lv_has ls 6 [(0, .ref (ad 13)), (2, .int x2), (3, .int x3), (4, .int x4)] → W p l e (zR 1 23) s m args below meth c H locs 0 0 (zQv (xG D cs ad) q below args s) (F0 m 50 ls []) := by
  intro n
  induction n with
  | zero => intro S x2 x3 x4 H locs ls h; exact absurd h (fun h => by cases h)
  | succ n ih => intro S x2 x3 x4 H locs ls h hW hl; exact w_X1_measureDistances_13_b50_l (F := F) C hrc35 (fun S x2 x3 x4 H locs ls h hW hl => ih S x2 x3 x4 H locs ls h hW hl) h hW hl
def n_X1_measureDistances_13_b35_l (F : Nat) (rc35 : Zs → Int32 → Int32 → Option (Int32 × Zs)) (S : Zs) (x2 : Int32) (x3 : Int32) : Option (Int32 × Zs) :=
  if (24 : Int32) ≤ x3 then (n_X1_measureDistances_13_b146 F  S ) else (if x2 = 0 then (n_X1_measureDistances_13_b146 F  S ) else (n_X1_measureDistances_13_b50 F rc35 S (0 : Int32) x3 (0 : Int32)))
set_option maxRecDepth 20000 in
set_option maxHeartbeats 4000000 in
theorem w_X1_measureDistances_13_b35_l {F : Nat} {q : (Int32 × Zs)} {S : Zs} {rc35 : Zs → Int32 → Int32 → Option (Int32 × Zs)} {x2 : Int32} {x3 : Int32} {ls : Array Slot} {H : Heap} {locs : List Loc} (C : zC p s m args meth c cX1_measureDistances 6 RX1 none) (hrc35 : ∀ (S : Zs) (x2 : Int32) (x3 : Int32) (H : Heap) (locs : List Loc) (ls : Array Slot), rc35 S x2 x3 = some q → zW (xG D cs ad) s S H locs → lv_has ls 6 [(0, .ref (ad 13)), (2, .int x2), (3, .int x3)] → W p l e (zR 1 23) s m args below meth c H locs 0 0 (zQv (xG D cs ad) q below args s) (F0 m 35 ls [])) (h : n_X1_measureDistances_13_b35_l F rc35 S x2 x3 = some q) (hW : zW (xG D cs ad) s S H locs) (hl : lv_has ls 6 [(0, .ref (ad 13)), (2, .int x2), (3, .int x3)]) : W p l e (zR 1 23) s m args below meth c H locs 0 0 (zQv (xG D cs ad) q below args s) (F0 m 35 ls []) := by
  unfold n_X1_measureDistances_13_b35_l at h
  obtain ⟨hx, hb, hml, hown, hts, hret, hlk⟩ := id C
  refine lv_iload_n hx hb dX1_measureDistances_35 rfl (lv_at hl 2 rfl) ?_
  refine lv_bipush (v := 24) hx hb dX1_measureDistances_36 (by decide) ?_
  refine zz_cge (tgt := 146) C h dX1_measureDistances_38 (by decide) (fun h => ?_) (fun h => ?_)
  · exact w_X1_measureDistances_13_b146 (F := F) C h hW (lv_sub hl [] rfl)
  · refine lv_iload_n hx hb dX1_measureDistances_41 rfl (lv_at hl 1 rfl) ?_
    refine zz_ieq (tgt := 146) C h dX1_measureDistances_42 (by decide) (fun h => ?_) (fun h => ?_)
    · exact w_X1_measureDistances_13_b146 (F := F) C h hW (lv_sub hl [] rfl)
    · refine lv_iconst (v := 0) hx hb dX1_measureDistances_45 (by decide) ?_
      refine lv_istore_n (lv' := [(2, .int (0 : Int32)), (0, .ref (ad 13)), (3, .int x3)]) hx hb dX1_measureDistances_46 rfl hl (by decide) rfl (fun ls hl => ?_)
      refine lv_iconst (v := 0) hx hb dX1_measureDistances_47 (by decide) ?_
      refine lv_istore (lv' := [(4, .int (0 : Int32)), (2, .int (0 : Int32)), (0, .ref (ad 13)), (3, .int x3)]) hx hb dX1_measureDistances_48 hl (by decide) rfl (fun ls hl => ?_)
      exact w_X1_measureDistances_13_b50 (F := F) C hrc35 F _ _ _ _ _ _ _ h hW (lv_sub hl [2, 1, 3, 0] rfl)
def n_X1_measureDistances_13_b35 (F : Nat)  (S : Zs) (x2 : Int32) (x3 : Int32) : Option (Int32 × Zs) :=
  zfix (fun (rc : (Zs × Int32 × Int32) → Option (Int32 × Zs)) (u : (Zs × Int32 × Int32)) => n_X1_measureDistances_13_b35_l F  (fun S x2 x3 => rc (S, x2, x3)) u.1 u.2.1 u.2.2) F (S, x2, x3)
theorem w_X1_measureDistances_13_b35 {F : Nat} {q : (Int32 × Zs)}  (C : zC p s m args meth c cX1_measureDistances 6 RX1 none)  : ∀ (n : Nat) (S : Zs) (x2 : Int32) (x3 : Int32) (H : Heap) (locs : List Loc) (ls : Array Slot), zfix (fun (rc : (Zs × Int32 × Int32) → Option (Int32 × Zs)) (u : (Zs × Int32 × Int32)) => n_X1_measureDistances_13_b35_l F  (fun S x2 x3 => rc (S, x2, x3)) u.1 u.2.1 u.2.2) n (S, x2, x3) = some q → zW (xG D cs ad) s S H locs → lv_has ls 6 [(0, .ref (ad 13)), (2, .int x2), (3, .int x3)] → W p l e (zR 1 23) s m args below meth c H locs 0 0 (zQv (xG D cs ad) q below args s) (F0 m 35 ls []) := by
  intro n
  induction n with
  | zero => intro S x2 x3 H locs ls h; exact absurd h (fun h => by cases h)
  | succ n ih => intro S x2 x3 H locs ls h hW hl; exact w_X1_measureDistances_13_b35_l (F := F) C (fun S x2 x3 H locs ls h hW hl => ih S x2 x3 H locs ls h hW hl) h hW hl
def n_X1_measureDistances_13_b24 (F : Nat) (rc2 : Zs → Int32 → Int32 → Option (Int32 × Zs)) (S : Zs) (x1 : Int32) (x2 : Int32) (t0 : Int32) (t1 : Int32) : Option (Int32 × Zs) :=
  zst S 22 24 t1 t0 (fun S1 => zlet (x2 + (1 : Int32)) (fun v2 => rc2 S1 x1 v2))
set_option maxRecDepth 20000 in
set_option maxHeartbeats 4000000 in
theorem w_X1_measureDistances_13_b24 {F : Nat} {q : (Int32 × Zs)} {S : Zs} {rc2 : Zs → Int32 → Int32 → Option (Int32 × Zs)} {x1 : Int32} {x2 : Int32} {t0 : Int32} {t1 : Int32} {ls : Array Slot} {H : Heap} {locs : List Loc} (C : zC p s m args meth c cX1_measureDistances 6 RX1 none) (hrc2 : ∀ (S : Zs) (x1 : Int32) (x2 : Int32) (H : Heap) (locs : List Loc) (ls : Array Slot), rc2 S x1 x2 = some q → zW (xG D cs ad) s S H locs → lv_has ls 6 [(0, .ref (ad 13)), (1, .int x1), (2, .int x2)] → W p l e (zR 1 23) s m args below meth c H locs 0 0 (zQv (xG D cs ad) q below args s) (F0 m 2 ls [])) (h : n_X1_measureDistances_13_b24 F rc2 S x1 x2 t0 t1 = some q) (hW : zW (xG D cs ad) s S H locs) (hl : lv_has ls 6 [(0, .ref (ad 13)), (1, .int x1), (2, .int x2)]) : W p l e (zR 1 23) s m args below meth c H locs 0 0 (zQv (xG D cs ad) q below args s) (F0 m 24 ls [.int t0, .int t1, .ref (ad 22)]) := by
  unfold n_X1_measureDistances_13_b24 at h
  obtain ⟨hx, hb, hml, hown, hts, hret, hlk⟩ := id C
  refine xs_22 C hW h dX1_measureDistances_24 (fun S1 H locs h hW => ?_)
  obtain ⟨v2, ev2, h⟩ := zz_name h
  refine lv_iinc (v := v2) (lv' := [(2, .int v2), (0, .ref (ad 13)), (1, .int x1)]) hx hb dX1_measureDistances_25 hl (k := 2) rfl ev2.symm (by decide) rfl (fun ls hl => ?_)
  refine lv_goto (tgt := 2) hx hb dX1_measureDistances_28 (by decide) ?_
  exact hrc2 _ _ _ _ _ _ h hW (lv_sub hl [1, 2, 0] rfl)
def n_X1_measureDistances_13_b2_l (F : Nat) (rc2 : Zs → Int32 → Int32 → Option (Int32 × Zs)) (S : Zs) (x1 : Int32) (x2 : Int32) : Option (Int32 × Zs) :=
  if (24 : Int32) ≤ x2 then (n_X1_measureDistances_13_b35 F  S (1 : Int32) (1 : Int32)) else (if x2 = x1 then (n_X1_measureDistances_13_b24 F rc2 S x1 x2 (0 : Int32) x2) else (n_X1_measureDistances_13_b24 F rc2 S x1 x2 (25 : Int32) x2))
set_option maxRecDepth 20000 in
set_option maxHeartbeats 4000000 in
theorem w_X1_measureDistances_13_b2_l {F : Nat} {q : (Int32 × Zs)} {S : Zs} {rc2 : Zs → Int32 → Int32 → Option (Int32 × Zs)} {x1 : Int32} {x2 : Int32} {ls : Array Slot} {H : Heap} {locs : List Loc} (C : zC p s m args meth c cX1_measureDistances 6 RX1 none) (hrc2 : ∀ (S : Zs) (x1 : Int32) (x2 : Int32) (H : Heap) (locs : List Loc) (ls : Array Slot), rc2 S x1 x2 = some q → zW (xG D cs ad) s S H locs → lv_has ls 6 [(0, .ref (ad 13)), (1, .int x1), (2, .int x2)] → W p l e (zR 1 23) s m args below meth c H locs 0 0 (zQv (xG D cs ad) q below args s) (F0 m 2 ls [])) (h : n_X1_measureDistances_13_b2_l F rc2 S x1 x2 = some q) (hW : zW (xG D cs ad) s S H locs) (hl : lv_has ls 6 [(0, .ref (ad 13)), (1, .int x1), (2, .int x2)]) : W p l e (zR 1 23) s m args below meth c H locs 0 0 (zQv (xG D cs ad) q below args s) (F0 m 2 ls []) := by
  unfold n_X1_measureDistances_13_b2_l at h
  obtain ⟨hx, hb, hml, hown, hts, hret, hlk⟩ := id C
  refine lv_iload_n hx hb dX1_measureDistances_2 rfl (lv_at hl 2 rfl) ?_
  refine lv_bipush (v := 24) hx hb dX1_measureDistances_3 (by decide) ?_
  refine zz_cge (tgt := 31) C h dX1_measureDistances_5 (by decide) (fun h => ?_) (fun h => ?_)
  · refine lv_iconst (v := 1) hx hb dX1_measureDistances_31 (by decide) ?_
    refine lv_istore_n (lv' := [(2, .int (1 : Int32)), (0, .ref (ad 13)), (1, .int x1)]) hx hb dX1_measureDistances_32 rfl hl (by decide) rfl (fun ls hl => ?_)
    refine lv_iconst (v := 1) hx hb dX1_measureDistances_33 (by decide) ?_
    refine lv_istore_n (lv' := [(3, .int (1 : Int32)), (2, .int (1 : Int32)), (0, .ref (ad 13)), (1, .int x1)]) hx hb dX1_measureDistances_34 rfl hl (by decide) rfl (fun ls hl => ?_)
    exact w_X1_measureDistances_13_b35 (F := F) C F _ _ _ _ _ _ h hW (lv_sub hl [2, 1, 0] rfl)
  · refine lv_aload_n hx hb dX1_measureDistances_8 rfl (lv_at hl 0 rfl) ?_
    refine xg_13_3 C hW fl_X1_21 dX1_measureDistances_9 ?_
    refine lv_iload_n hx hb dX1_measureDistances_12 rfl (lv_at hl 2 rfl) ?_
    refine lv_iload_n hx hb dX1_measureDistances_13 rfl (lv_at hl 2 rfl) ?_
    refine lv_iload_n hx hb dX1_measureDistances_14 rfl (lv_at hl 1 rfl) ?_
    refine zz_cne (tgt := 22) C h dX1_measureDistances_15 (by decide) (fun h => ?_) (fun h => ?_)
    · refine lv_bipush (v := 25) hx hb dX1_measureDistances_22 (by decide) ?_
      exact w_X1_measureDistances_13_b24 (F := F) C hrc2 h hW (lv_sub hl [0, 1, 2] rfl)
    · refine lv_iconst (v := 0) hx hb dX1_measureDistances_18 (by decide) ?_
      refine lv_goto (tgt := 24) hx hb dX1_measureDistances_19 (by decide) ?_
      exact w_X1_measureDistances_13_b24 (F := F) C hrc2 h hW (lv_sub hl [0, 1, 2] rfl)
def n_X1_measureDistances_13_b2 (F : Nat)  (S : Zs) (x1 : Int32) (x2 : Int32) : Option (Int32 × Zs) :=
  zfix (fun (rc : (Zs × Int32 × Int32) → Option (Int32 × Zs)) (u : (Zs × Int32 × Int32)) => n_X1_measureDistances_13_b2_l F  (fun S x1 x2 => rc (S, x1, x2)) u.1 u.2.1 u.2.2) F (S, x1, x2)
theorem w_X1_measureDistances_13_b2 {F : Nat} {q : (Int32 × Zs)}  (C : zC p s m args meth c cX1_measureDistances 6 RX1 none)  : ∀ (n : Nat) (S : Zs) (x1 : Int32) (x2 : Int32) (H : Heap) (locs : List Loc) (ls : Array Slot), zfix (fun (rc : (Zs × Int32 × Int32) → Option (Int32 × Zs)) (u : (Zs × Int32 × Int32)) => n_X1_measureDistances_13_b2_l F  (fun S x1 x2 => rc (S, x1, x2)) u.1 u.2.1 u.2.2) n (S, x1, x2) = some q → zW (xG D cs ad) s S H locs → lv_has ls 6 [(0, .ref (ad 13)), (1, .int x1), (2, .int x2)] → W p l e (zR 1 23) s m args below meth c H locs 0 0 (zQv (xG D cs ad) q below args s) (F0 m 2 ls []) := by
  intro n
  induction n with
  | zero => intro S x1 x2 H locs ls h; exact absurd h (fun h => by cases h)
  | succ n ih => intro S x1 x2 H locs ls h hW hl; exact w_X1_measureDistances_13_b2_l (F := F) C (fun S x1 x2 H locs ls h hW hl => ih S x1 x2 H locs ls h hW hl) h hW hl
def n_X1_measureDistances_13_e (F : Nat)  (S : Zs) (x1 : Int32) : Option (Int32 × Zs) :=
  n_X1_measureDistances_13_b2 F  S x1 (0 : Int32)
set_option maxRecDepth 20000 in
set_option maxHeartbeats 4000000 in
theorem w_X1_measureDistances_13_e {F : Nat} {q : (Int32 × Zs)} {S : Zs}  {x1 : Int32} {ls : Array Slot} {H : Heap} {locs : List Loc} (C : zC p s m args meth c cX1_measureDistances 6 RX1 none)  (h : n_X1_measureDistances_13_e F  S x1 = some q) (hW : zW (xG D cs ad) s S H locs) (hl : lv_has ls 6 [(0, .ref (ad 13)), (1, .int x1)]) : W p l e (zR 1 23) s m args below meth c H locs 0 0 (zQv (xG D cs ad) q below args s) (F0 m 0 ls []) := by
  unfold n_X1_measureDistances_13_e at h
  obtain ⟨hx, hb, hml, hown, hts, hret, hlk⟩ := id C
  refine lv_iconst (v := 0) hx hb dX1_measureDistances_0 (by decide) ?_
  refine lv_istore_n (lv' := [(2, .int (0 : Int32)), (0, .ref (ad 13)), (1, .int x1)]) hx hb dX1_measureDistances_1 rfl hl (by decide) rfl (fun ls hl => ?_)
  exact w_X1_measureDistances_13_b2 (F := F) C F _ _ _ _ _ _ h hW (lv_sub hl [1, 2, 0] rfl)
def n_X1_measureDistances_13 (F : Nat) (S : Zs) (x1 : Int32) : Option (Int32 × Zs) := n_X1_measureDistances_13_e F  S x1
theorem c_X1_measureDistances_13 {l : Launch} {D : va_G} {cs ad : Nat → Nat} {F : Nat} {S : Zs} {x1 : Int32} {q : (Int32 × Zs)} (h : n_X1_measureDistances_13 F S x1 = some q) : zMv l yX1_measureDistances cX1_measureDistances 6 none (zR 1 23) (xG D cs ad) [.ref (ad 13), .int x1] S q :=
  zz_enter (by decide) (Nat.le_of_ble_eq_true rfl) (fun p e s m below meth c ls C hW hl => w_X1_measureDistances_13_e (F := F) C h hW (lv_sub hl [0, 1] rfl))
def n_X1_next_b40 (F : Nat)  (S : Zs) (t0 : Int32) : Option (Int32 × Zs) :=
  some (t0, S)
set_option maxRecDepth 20000 in
set_option maxHeartbeats 4000000 in
theorem w_X1_next_b40 {F : Nat} {q : (Int32 × Zs)} {S : Zs}  {t0 : Int32} {ls : Array Slot} {H : Heap} {locs : List Loc} (C : zC p s m args meth c cX1_next 4 RX1 (some .int))  (h : n_X1_next_b40 F  S t0 = some q) (hW : zW (xG D cs ad) s S H locs) (hl : lv_has ls 4 []) : W p l e (zR 1 20) s m args below meth c H locs 0 0 (zQi (xG D cs ad) q below args s) (F0 m 40 ls [.int t0]) := by
  unfold n_X1_next_b40 at h
  obtain ⟨hx, hb, hml, hown, hts, hret, hlk⟩ := id C
  exact zz_iret C rfl h hW dX1_next_40
def n_X1_next_e (F : Nat)  (S : Zs) (x0 : Int32) (x1 : Int32) : Option (Int32 × Zs) :=
  zcl (n_X0_subject F S x0) (fun v2 S1 => zcl (n_X0_target F S1 x0) (fun v4 S3 => zcl (n_X0_isUniversal F S3 x0) (fun v6 S5 => if v6 = 0 then (some ((-1 : Int32), S5)) else (if x1 = v2 then (some (v4, S5)) else (if x1 = (v4 ^^^ (1 : Int32)) then (n_X1_next_b40 F  S5 (v2 ^^^ (1 : Int32))) else (n_X1_next_b40 F  S5 (-1 : Int32)))))))
set_option maxRecDepth 20000 in
set_option maxHeartbeats 4000000 in
theorem w_X1_next_e {F : Nat} {q : (Int32 × Zs)} {S : Zs}  {x0 : Int32} {x1 : Int32} {ls : Array Slot} {H : Heap} {locs : List Loc} (C : zC p s m args meth c cX1_next 4 RX1 (some .int))  (h : n_X1_next_e F  S x0 x1 = some q) (hW : zW (xG D cs ad) s S H locs) (hl : lv_has ls 4 [(0, .int x0), (1, .int x1)]) : W p l e (zR 1 20) s m args below meth c H locs 0 0 (zQi (xG D cs ad) q below args s) (F0 m 0 ls []) := by
  unfold n_X1_next_e at h
  obtain ⟨hx, hb, hml, hown, hts, hret, hlk⟩ := id C
  refine lv_iload_n hx hb dX1_next_0 rfl (lv_at hl 0 rfl) ?_
  refine zz_callSi (As := [.int x0]) C hW h (fun r hr => c_X0_subject hr) lk_X1_60 rfl hl.1 ⟨rfl, rfl⟩ ⟨Nat.le_of_ble_eq_true rfl, Nat.le_of_ble_eq_true rfl⟩ (Nat.le_of_ble_eq_true rfl) ⟨Nat.zero_le _, Nat.zero_le _⟩ rfl dX1_next_1 (fun v2 S1 H locs h hW => ?_)
  refine lv_istore_n (lv' := [(2, .int v2), (0, .int x0), (1, .int x1)]) hx hb dX1_next_4 rfl hl (by decide) rfl (fun ls hl => ?_)
  refine lv_iload_n hx hb dX1_next_5 rfl (lv_at hl 1 rfl) ?_
  refine zz_callSi (As := [.int x0]) C hW h (fun r hr => c_X0_target hr) lk_X1_64 rfl hl.1 ⟨rfl, rfl⟩ ⟨Nat.le_of_ble_eq_true rfl, Nat.le_of_ble_eq_true rfl⟩ (Nat.le_of_ble_eq_true rfl) ⟨Nat.zero_le _, Nat.zero_le _⟩ rfl dX1_next_6 (fun v4 S3 H locs h hW => ?_)
  refine lv_istore_n (lv' := [(3, .int v4), (2, .int v2), (0, .int x0), (1, .int x1)]) hx hb dX1_next_9 rfl hl (by decide) rfl (fun ls hl => ?_)
  refine lv_iload_n hx hb dX1_next_10 rfl (lv_at hl 2 rfl) ?_
  refine zz_callSi (As := [.int x0]) C hW h (fun r hr => c_X0_isUniversal hr) lk_X1_54 rfl hl.1 ⟨rfl, rfl⟩ ⟨Nat.le_of_ble_eq_true rfl, Nat.le_of_ble_eq_true rfl⟩ (Nat.le_of_ble_eq_true rfl) ⟨Nat.zero_le _, Nat.zero_le _⟩ rfl dX1_next_11 (fun v6 S5 H locs h hW => ?_)
  refine zz_ine (tgt := 19) C h dX1_next_14 (by decide) (fun h => ?_) (fun h => ?_)
  · refine lv_iload_n hx hb dX1_next_19 rfl (lv_at hl 3 rfl) ?_
    refine lv_iload_n hx hb dX1_next_20 rfl (lv_at hl 1 rfl) ?_
    refine zz_cne (tgt := 26) C h dX1_next_21 (by decide) (fun h => ?_) (fun h => ?_)
    · refine lv_iload_n hx hb dX1_next_26 rfl (lv_at hl 3 rfl) ?_
      refine lv_iload_n hx hb dX1_next_27 rfl (lv_at hl 0 rfl) ?_
      refine lv_iconst (v := 1) hx hb dX1_next_28 (by decide) ?_
      refine lv_ixor hx hb dX1_next_29 ?_
      refine zz_cne (tgt := 39) C h dX1_next_30 (by decide) (fun h => ?_) (fun h => ?_)
      · refine lv_iconst (v := -1) hx hb dX1_next_39 (by decide) ?_
        exact w_X1_next_b40 (F := F) C h hW (lv_sub hl [] rfl)
      · refine lv_iload_n hx hb dX1_next_33 rfl (lv_at hl 1 rfl) ?_
        refine lv_iconst (v := 1) hx hb dX1_next_34 (by decide) ?_
        refine lv_ixor hx hb dX1_next_35 ?_
        refine lv_goto (tgt := 40) hx hb dX1_next_36 (by decide) ?_
        exact w_X1_next_b40 (F := F) C h hW (lv_sub hl [] rfl)
    · refine lv_iload_n hx hb dX1_next_24 rfl (lv_at hl 0 rfl) ?_
      exact zz_iret C rfl h hW dX1_next_25
  · refine lv_iconst (v := -1) hx hb dX1_next_17 (by decide) ?_
    exact zz_iret C rfl h hW dX1_next_18
def n_X1_next (F : Nat) (S : Zs) (x0 : Int32) (x1 : Int32) : Option (Int32 × Zs) := n_X1_next_e F  S x0 x1
theorem c_X1_next {l : Launch} {D : va_G} {cs ad : Nat → Nat} {F : Nat} {S : Zs} {x0 : Int32} {x1 : Int32} {q : (Int32 × Zs)} (h : n_X1_next F S x0 x1 = some q) : zMi l yX1_next cX1_next 4 (some .int) (zR 1 20) (xG D cs ad) [.int x0, .int x1] S q :=
  zz_enter (by decide) (Nat.le_of_ble_eq_true rfl) (fun p e s m below meth c ls C hW hl => w_X1_next_e (F := F) C h hW (lv_sub hl [0, 1] rfl))
def n_X1_chainOf_13_47_b27 (F : Nat)  (S : Zs)  : Option (Int32 × Zs) :=
  some ((-2 : Int32), S)
set_option maxRecDepth 20000 in
set_option maxHeartbeats 4000000 in
theorem w_X1_chainOf_13_47_b27 {F : Nat} {q : (Int32 × Zs)} {S : Zs}   {ls : Array Slot} {H : Heap} {locs : List Loc} (C : zC p s m args meth c cX1_chainOf 9 RX1 (some .int))  (h : n_X1_chainOf_13_47_b27 F  S  = some q) (hW : zW (xG D cs ad) s S H locs) (hl : lv_has ls 9 []) : W p l e (zR 2 48) s m args below meth c H locs 0 0 (zQi (xG D cs ad) q below args s) (F0 m 27 ls []) := by
  unfold n_X1_chainOf_13_47_b27 at h
  obtain ⟨hx, hb, hml, hown, hts, hret, hlk⟩ := id C
  refine lv_bipush (v := -2) hx hb dX1_chainOf_27 (by decide) ?_
  exact zz_iret C rfl h hW dX1_chainOf_29
def n_X1_chainOf_13_47_b133 (F : Nat) (rc36 : Zs → Int32 → Int32 → Int32 → Option (Int32 × Zs)) (S : Zs) (x4 : Int32) (x5 : Int32) (x6 : Int32) : Option (Int32 × Zs) :=
  zlet (x6 + (1 : Int32)) (fun v1 => rc36 S x4 x5 v1)
set_option maxRecDepth 20000 in
set_option maxHeartbeats 4000000 in
theorem w_X1_chainOf_13_47_b133 {F : Nat} {q : (Int32 × Zs)} {S : Zs} {rc36 : Zs → Int32 → Int32 → Int32 → Option (Int32 × Zs)} {x4 : Int32} {x5 : Int32} {x6 : Int32} {ls : Array Slot} {H : Heap} {locs : List Loc} (C : zC p s m args meth c cX1_chainOf 9 RX1 (some .int)) (hrc36 : ∀ (S : Zs) (x4 : Int32) (x5 : Int32) (x6 : Int32) (H : Heap) (locs : List Loc) (ls : Array Slot), rc36 S x4 x5 x6 = some q → zW (xG D cs ad) s S H locs → lv_has ls 9 [(0, .ref (ad 13)), (3, .ref (ad 47)), (4, .int x4), (5, .int x5), (6, .int x6)] → W p l e (zR 2 48) s m args below meth c H locs 0 0 (zQi (xG D cs ad) q below args s) (F0 m 36 ls [])) (h : n_X1_chainOf_13_47_b133 F rc36 S x4 x5 x6 = some q) (hW : zW (xG D cs ad) s S H locs) (hl : lv_has ls 9 [(0, .ref (ad 13)), (3, .ref (ad 47)), (4, .int x4), (5, .int x5), (6, .int x6)]) : W p l e (zR 2 48) s m args below meth c H locs 0 0 (zQi (xG D cs ad) q below args s) (F0 m 133 ls []) := by
  unfold n_X1_chainOf_13_47_b133 at h
  obtain ⟨hx, hb, hml, hown, hts, hret, hlk⟩ := id C
  obtain ⟨v1, ev1, h⟩ := zz_name h
  refine lv_iinc (v := v1) (lv' := [(6, .int v1), (0, .ref (ad 13)), (3, .ref (ad 47)), (4, .int x4), (5, .int x5)]) hx hb dX1_chainOf_133 hl (k := 4) rfl ev1.symm (by decide) rfl (fun ls hl => ?_)
  refine lv_goto (tgt := 36) hx hb dX1_chainOf_136 (by decide) ?_
  exact hrc36 _ _ _ _ _ _ _ h hW (lv_sub hl [1, 2, 3, 4, 0] rfl)
def n_X1_chainOf_13_47_b127 (F : Nat) (rc36 : Zs → Int32 → Int32 → Int32 → Option (Int32 × Zs)) (rc46 : Zs → Int32 → Int32 → Int32 → Int32 → Option (Int32 × Zs)) (S : Zs) (x4 : Int32) (x5 : Int32) (x6 : Int32) (x7 : Int32) : Option (Int32 × Zs) :=
  zlet (x7 + (1 : Int32)) (fun v1 => rc46 S x4 x5 x6 v1)
set_option maxRecDepth 20000 in
set_option maxHeartbeats 4000000 in
theorem w_X1_chainOf_13_47_b127 {F : Nat} {q : (Int32 × Zs)} {S : Zs} {rc36 : Zs → Int32 → Int32 → Int32 → Option (Int32 × Zs)} {rc46 : Zs → Int32 → Int32 → Int32 → Int32 → Option (Int32 × Zs)} {x4 : Int32} {x5 : Int32} {x6 : Int32} {x7 : Int32} {ls : Array Slot} {H : Heap} {locs : List Loc} (C : zC p s m args meth c cX1_chainOf 9 RX1 (some .int)) (hrc36 : ∀ (S : Zs) (x4 : Int32) (x5 : Int32) (x6 : Int32) (H : Heap) (locs : List Loc) (ls : Array Slot), rc36 S x4 x5 x6 = some q → zW (xG D cs ad) s S H locs → lv_has ls 9 [(0, .ref (ad 13)), (3, .ref (ad 47)), (4, .int x4), (5, .int x5), (6, .int x6)] → W p l e (zR 2 48) s m args below meth c H locs 0 0 (zQi (xG D cs ad) q below args s) (F0 m 36 ls [])) (hrc46 : ∀ (S : Zs) (x4 : Int32) (x5 : Int32) (x6 : Int32) (x7 : Int32) (H : Heap) (locs : List Loc) (ls : Array Slot), rc46 S x4 x5 x6 x7 = some q → zW (xG D cs ad) s S H locs → lv_has ls 9 [(0, .ref (ad 13)), (3, .ref (ad 47)), (4, .int x4), (5, .int x5), (6, .int x6), (7, .int x7)] → W p l e (zR 2 48) s m args below meth c H locs 0 0 (zQi (xG D cs ad) q below args s) (F0 m 46 ls [])) (h : n_X1_chainOf_13_47_b127 F rc36 rc46 S x4 x5 x6 x7 = some q) (hW : zW (xG D cs ad) s S H locs) (hl : lv_has ls 9 [(0, .ref (ad 13)), (3, .ref (ad 47)), (4, .int x4), (5, .int x5), (6, .int x6), (7, .int x7)]) : W p l e (zR 2 48) s m args below meth c H locs 0 0 (zQi (xG D cs ad) q below args s) (F0 m 127 ls []) := by
  unfold n_X1_chainOf_13_47_b127 at h
  obtain ⟨hx, hb, hml, hown, hts, hret, hlk⟩ := id C
  obtain ⟨v1, ev1, h⟩ := zz_name h
  refine lv_iinc (v := v1) (lv' := [(7, .int v1), (0, .ref (ad 13)), (3, .ref (ad 47)), (4, .int x4), (5, .int x5), (6, .int x6)]) hx hb dX1_chainOf_127 hl (k := 5) rfl ev1.symm (by decide) rfl (fun ls hl => ?_)
  refine lv_goto (tgt := 46) hx hb dX1_chainOf_130 (by decide) ?_
  exact hrc46 _ _ _ _ _ _ _ _ h hW (lv_sub hl [1, 2, 3, 4, 5, 0] rfl)
def n_X1_chainOf_13_47_b89 (F : Nat) (rc36 : Zs → Int32 → Int32 → Int32 → Option (Int32 × Zs)) (rc46 : Zs → Int32 → Int32 → Int32 → Int32 → Option (Int32 × Zs)) (S : Zs) (x4 : Int32) (x5 : Int32) (x6 : Int32) (x7 : Int32) (t0 : Int32) : Option (Int32 × Zs) :=
  if t0 = (-1 : Int32) then (n_X1_chainOf_13_47_b127 F rc36 rc46 S x4 x5 x6 x7) else (zld S 22 24 t0 (fun v1 => if v1 = ((x4 - x6) - (1 : Int32)) then (zst S 47 24 x6 x7 (fun S2 => n_X1_chainOf_13_47_b133 F rc36 S2 x4 t0 x6)) else (n_X1_chainOf_13_47_b127 F rc36 rc46 S x4 x5 x6 x7)))
set_option maxRecDepth 20000 in
set_option maxHeartbeats 4000000 in
theorem w_X1_chainOf_13_47_b89 {F : Nat} {q : (Int32 × Zs)} {S : Zs} {rc36 : Zs → Int32 → Int32 → Int32 → Option (Int32 × Zs)} {rc46 : Zs → Int32 → Int32 → Int32 → Int32 → Option (Int32 × Zs)} {x4 : Int32} {x5 : Int32} {x6 : Int32} {x7 : Int32} {t0 : Int32} {ls : Array Slot} {H : Heap} {locs : List Loc} (C : zC p s m args meth c cX1_chainOf 9 RX1 (some .int)) (hrc36 : ∀ (S : Zs) (x4 : Int32) (x5 : Int32) (x6 : Int32) (H : Heap) (locs : List Loc) (ls : Array Slot), rc36 S x4 x5 x6 = some q → zW (xG D cs ad) s S H locs → lv_has ls 9 [(0, .ref (ad 13)), (3, .ref (ad 47)), (4, .int x4), (5, .int x5), (6, .int x6)] → W p l e (zR 2 48) s m args below meth c H locs 0 0 (zQi (xG D cs ad) q below args s) (F0 m 36 ls [])) (hrc46 : ∀ (S : Zs) (x4 : Int32) (x5 : Int32) (x6 : Int32) (x7 : Int32) (H : Heap) (locs : List Loc) (ls : Array Slot), rc46 S x4 x5 x6 x7 = some q → zW (xG D cs ad) s S H locs → lv_has ls 9 [(0, .ref (ad 13)), (3, .ref (ad 47)), (4, .int x4), (5, .int x5), (6, .int x6), (7, .int x7)] → W p l e (zR 2 48) s m args below meth c H locs 0 0 (zQi (xG D cs ad) q below args s) (F0 m 46 ls [])) (h : n_X1_chainOf_13_47_b89 F rc36 rc46 S x4 x5 x6 x7 t0 = some q) (hW : zW (xG D cs ad) s S H locs) (hl : lv_has ls 9 [(0, .ref (ad 13)), (3, .ref (ad 47)), (4, .int x4), (5, .int x5), (6, .int x6), (7, .int x7)]) : W p l e (zR 2 48) s m args below meth c H locs 0 0 (zQi (xG D cs ad) q below args s) (F0 m 89 ls [.int t0]) := by
  unfold n_X1_chainOf_13_47_b89 at h
  obtain ⟨hx, hb, hml, hown, hts, hret, hlk⟩ := id C
  refine lv_istore (lv' := [(8, .int t0), (0, .ref (ad 13)), (3, .ref (ad 47)), (4, .int x4), (5, .int x5), (6, .int x6), (7, .int x7)]) hx hb dX1_chainOf_89 hl (by decide) rfl (fun ls hl => ?_)
  refine lv_iload hx hb dX1_chainOf_91 (lv_at hl 0 rfl) ?_
  refine lv_iconst (v := -1) hx hb dX1_chainOf_93 (by decide) ?_
  refine zz_ceq (tgt := 127) C h dX1_chainOf_94 (by decide) (fun h => ?_) (fun h => ?_)
  · exact w_X1_chainOf_13_47_b127 (F := F) C hrc36 hrc46 h hW (lv_sub hl [1, 2, 3, 4, 5, 6] rfl)
  · refine lv_aload_n hx hb dX1_chainOf_97 rfl (lv_at hl 1 rfl) ?_
    refine xg_13_3 C hW fl_X1_21 dX1_chainOf_98 ?_
    refine lv_iload hx hb dX1_chainOf_101 (lv_at hl 0 rfl) ?_
    refine xl_22 C hW h dX1_chainOf_103 (fun v1 h => ?_)
    refine lv_iload hx hb dX1_chainOf_104 (lv_at hl 3 rfl) ?_
    refine lv_iload hx hb dX1_chainOf_106 (lv_at hl 5 rfl) ?_
    refine lv_isub hx hb dX1_chainOf_108 ?_
    refine lv_iconst (v := 1) hx hb dX1_chainOf_109 (by decide) ?_
    refine lv_isub hx hb dX1_chainOf_110 ?_
    refine zz_cne (tgt := 127) C h dX1_chainOf_111 (by decide) (fun h => ?_) (fun h => ?_)
    · exact w_X1_chainOf_13_47_b127 (F := F) C hrc36 hrc46 h hW (lv_sub hl [1, 2, 3, 4, 5, 6] rfl)
    · refine lv_aload_n hx hb dX1_chainOf_114 rfl (lv_at hl 2 rfl) ?_
      refine lv_iload hx hb dX1_chainOf_115 (lv_at hl 5 rfl) ?_
      refine lv_iload hx hb dX1_chainOf_117 (lv_at hl 6 rfl) ?_
      refine xs_47 C hW h dX1_chainOf_119 (fun S2 H locs h hW => ?_)
      refine lv_iload hx hb dX1_chainOf_120 (lv_at hl 0 rfl) ?_
      refine lv_istore (lv' := [(5, .int t0), (8, .int t0), (0, .ref (ad 13)), (3, .ref (ad 47)), (4, .int x4), (6, .int x6), (7, .int x7)]) hx hb dX1_chainOf_122 hl (by decide) rfl (fun ls hl => ?_)
      refine lv_goto (tgt := 133) hx hb dX1_chainOf_124 (by decide) ?_
      exact w_X1_chainOf_13_47_b133 (F := F) C hrc36 h hW (lv_sub hl [2, 3, 4, 0, 5] rfl)
def n_X1_chainOf_13_47_b46_l (F : Nat) (rc36 : Zs → Int32 → Int32 → Int32 → Option (Int32 × Zs)) (rc46 : Zs → Int32 → Int32 → Int32 → Int32 → Option (Int32 × Zs)) (S : Zs) (x4 : Int32) (x5 : Int32) (x6 : Int32) (x7 : Int32) : Option (Int32 × Zs) :=
  zgf S 62 (fun v1 => if v1 ≤ x7 then (n_X1_chainOf_13_47_b133 F rc36 S x4 x5 x6) else (zcl (n_X2_isActive_3 F S x7) (fun v3 S2 => if v3 = 0 then (n_X1_chainOf_13_47_b89 F rc36 rc46 S2 x4 x5 x6 x7 (-1 : Int32)) else (zld S2 4 16 x7 (fun v4 => zcl (n_X1_next F S2 v4 x5) (fun v6 S5 => n_X1_chainOf_13_47_b89 F rc36 rc46 S5 x4 x5 x6 x7 v6))))))
set_option maxRecDepth 20000 in
set_option maxHeartbeats 4000000 in
theorem w_X1_chainOf_13_47_b46_l {F : Nat} {q : (Int32 × Zs)} {S : Zs} {rc36 : Zs → Int32 → Int32 → Int32 → Option (Int32 × Zs)} {rc46 : Zs → Int32 → Int32 → Int32 → Int32 → Option (Int32 × Zs)} {x4 : Int32} {x5 : Int32} {x6 : Int32} {x7 : Int32} {ls : Array Slot} {H : Heap} {locs : List Loc} (C : zC p s m args meth c cX1_chainOf 9 RX1 (some .int)) (hrc36 : ∀ (S : Zs) (x4 : Int32) (x5 : Int32) (x6 : Int32) (H : Heap) (locs : List Loc) (ls : Array Slot), rc36 S x4 x5 x6 = some q → zW (xG D cs ad) s S H locs → lv_has ls 9 [(0, .ref (ad 13)), (3, .ref (ad 47)), (4, .int x4), (5, .int x5), (6, .int x6)] → W p l e (zR 2 48) s m args below meth c H locs 0 0 (zQi (xG D cs ad) q below args s) (F0 m 36 ls [])) (hrc46 : ∀ (S : Zs) (x4 : Int32) (x5 : Int32) (x6 : Int32) (x7 : Int32) (H : Heap) (locs : List Loc) (ls : Array Slot), rc46 S x4 x5 x6 x7 = some q → zW (xG D cs ad) s S H locs → lv_has ls 9 [(0, .ref (ad 13)), (3, .ref (ad 47)), (4, .int x4), (5, .int x5), (6, .int x6), (7, .int x7)] → W p l e (zR 2 48) s m args below meth c H locs 0 0 (zQi (xG D cs ad) q below args s) (F0 m 46 ls [])) (h : n_X1_chainOf_13_47_b46_l F rc36 rc46 S x4 x5 x6 x7 = some q) (hW : zW (xG D cs ad) s S H locs) (hl : lv_has ls 9 [(0, .ref (ad 13)), (3, .ref (ad 47)), (4, .int x4), (5, .int x5), (6, .int x6), (7, .int x7)]) : W p l e (zR 2 48) s m args below meth c H locs 0 0 (zQi (xG D cs ad) q below args s) (F0 m 46 ls []) := by
  unfold n_X1_chainOf_13_47_b46_l at h
  obtain ⟨hx, hb, hml, hown, hts, hret, hlk⟩ := id C
  refine lv_iload hx hb dX1_chainOf_46 (lv_at hl 5 rfl) ?_
  refine lv_aload_n hx hb dX1_chainOf_48 rfl (lv_at hl 0 rfl) ?_
  refine xg_13_0 C hW fl_X1_32 dX1_chainOf_49 ?_
  refine xg_3_2 C hW h fl_X1_48 dX1_chainOf_52 (fun v1 h => ?_)
  refine zz_cge (tgt := 133) C h dX1_chainOf_55 (by decide) (fun h => ?_) (fun h => ?_)
  · exact w_X1_chainOf_13_47_b133 (F := F) C hrc36 h hW (lv_sub hl [0, 1, 2, 3, 4] rfl)
  · refine lv_aload_n hx hb dX1_chainOf_58 rfl (lv_at hl 0 rfl) ?_
    refine xg_13_0 C hW fl_X1_32 dX1_chainOf_59 ?_
    refine lv_iload hx hb dX1_chainOf_62 (lv_at hl 5 rfl) ?_
    refine zz_callVi (As := [.int x7]) C hW h (fun r hr => c_X2_isActive_3 hr) lk_X1_109 (hW.recv xr_3) rfl hl.1 ⟨rfl, rfl⟩ ⟨Nat.le_of_ble_eq_true rfl, Nat.le_of_ble_eq_true rfl⟩ (Nat.le_of_ble_eq_true rfl) ⟨Nat.zero_le _, Nat.zero_le _⟩ rfl dX1_chainOf_64 (fun v3 S2 H locs h hW => ?_)
    refine zz_ieq (tgt := 88) C h dX1_chainOf_67 (by decide) (fun h => ?_) (fun h => ?_)
    · refine lv_iconst (v := -1) hx hb dX1_chainOf_88 (by decide) ?_
      exact w_X1_chainOf_13_47_b89 (F := F) C hrc36 hrc46 h hW (lv_sub hl [0, 1, 2, 3, 4, 5] rfl)
    · refine lv_aload_n hx hb dX1_chainOf_70 rfl (lv_at hl 0 rfl) ?_
      refine xg_13_0 C hW fl_X1_32 dX1_chainOf_71 ?_
      refine xg_3_0 C hW fl_X1_51 dX1_chainOf_74 ?_
      refine lv_iload hx hb dX1_chainOf_77 (lv_at hl 5 rfl) ?_
      refine xl_4 C hW h dX1_chainOf_79 (fun v4 h => ?_)
      refine lv_iload hx hb dX1_chainOf_80 (lv_at hl 3 rfl) ?_
      refine zz_callSi (As := [.int v4, .int x5]) C hW h (fun r hr => c_X1_next hr) lk_X1_112 rfl hl.1 ⟨rfl, rfl⟩ ⟨Nat.le_of_ble_eq_true rfl, Nat.le_of_ble_eq_true rfl⟩ (Nat.le_of_ble_eq_true rfl) ⟨Nat.zero_le _, Nat.zero_le _⟩ rfl dX1_chainOf_82 (fun v6 S5 H locs h hW => ?_)
      refine lv_goto (tgt := 89) hx hb dX1_chainOf_85 (by decide) ?_
      exact w_X1_chainOf_13_47_b89 (F := F) C hrc36 hrc46 h hW (lv_sub hl [0, 1, 2, 3, 4, 5] rfl)
def n_X1_chainOf_13_47_b46 (F : Nat) (rc36 : Zs → Int32 → Int32 → Int32 → Option (Int32 × Zs)) (S : Zs) (x4 : Int32) (x5 : Int32) (x6 : Int32) (x7 : Int32) : Option (Int32 × Zs) :=
  zfix (fun (rc : (Zs × Int32 × Int32 × Int32 × Int32) → Option (Int32 × Zs)) (u : (Zs × Int32 × Int32 × Int32 × Int32)) => n_X1_chainOf_13_47_b46_l F rc36 (fun S x4 x5 x6 x7 => rc (S, x4, x5, x6, x7)) u.1 u.2.1 u.2.2.1 u.2.2.2.1 u.2.2.2.2) F (S, x4, x5, x6, x7)
theorem w_X1_chainOf_13_47_b46 {F : Nat} {q : (Int32 × Zs)} {rc36 : Zs → Int32 → Int32 → Int32 → Option (Int32 × Zs)} (C : zC p s m args meth c cX1_chainOf 9 RX1 (some .int)) (hrc36 : ∀ (S : Zs) (x4 : Int32) (x5 : Int32) (x6 : Int32) (H : Heap) (locs : List Loc) (ls : Array Slot), rc36 S x4 x5 x6 = some q → zW (xG D cs ad) s S H locs → lv_has ls 9 [(0, .ref (ad 13)), (3, .ref (ad 47)), (4, .int x4), (5, .int x5), (6, .int x6)] → W p l e (zR 2 48) s m args below meth c H locs 0 0 (zQi (xG D cs ad) q below args s) (F0 m 36 ls [])) : ∀ (n : Nat) (S : Zs) (x4 : Int32) (x5 : Int32) (x6 : Int32) (x7 : Int32) (H : Heap) (locs : List Loc) (ls : Array Slot), zfix (fun (rc : (Zs × Int32 × Int32 × Int32 × Int32) → Option (Int32 × Zs)) (u : (Zs × Int32 × Int32 × Int32 × Int32)) => n_X1_chainOf_13_47_b46_l F rc36 (fun S x4 x5 x6 x7 => rc (S, x4, x5, x6, x7)) u.1 u.2.1 u.2.2.1 u.2.2.2.1 u.2.2.2.2) n (S, x4, x5, x6, x7) = some q → zW (xG D cs ad) s S H locs → lv_has ls 9 [(0, .ref (ad 13)), (3, .ref (ad 47)), (4, .int x4), (5, .int x5), (6, .int x6), (7, .int x7)] → W p l e (zR 2 48) s m args below meth c H locs 0 0 (zQi (xG D cs ad) q below args s) (F0 m 46 ls []) := by
  intro n
  induction n with
  | zero => intro S x4 x5 x6 x7 H locs ls h; exact absurd h (fun h => by cases h)
  | succ n ih => intro S x4 x5 x6 x7 H locs ls h hW hl; exact w_X1_chainOf_13_47_b46_l (F := F) C hrc36 (fun S x4 x5 x6 x7 H locs ls h hW hl => ih S x4 x5 x6 x7 H locs ls h hW hl) h hW hl
def n_X1_chainOf_13_47_b36_l (F : Nat) (rc36 : Zs → Int32 → Int32 → Int32 → Option (Int32 × Zs)) (S : Zs) (x4 : Int32) (x5 : Int32) (x6 : Int32) : Option (Int32 × Zs) :=
  if x4 ≤ x6 then (some (x4, S)) else (n_X1_chainOf_13_47_b46 F rc36 S x4 x5 x6 (0 : Int32))
set_option maxRecDepth 20000 in
set_option maxHeartbeats 4000000 in
theorem w_X1_chainOf_13_47_b36_l {F : Nat} {q : (Int32 × Zs)} {S : Zs} {rc36 : Zs → Int32 → Int32 → Int32 → Option (Int32 × Zs)} {x4 : Int32} {x5 : Int32} {x6 : Int32} {ls : Array Slot} {H : Heap} {locs : List Loc} (C : zC p s m args meth c cX1_chainOf 9 RX1 (some .int)) (hrc36 : ∀ (S : Zs) (x4 : Int32) (x5 : Int32) (x6 : Int32) (H : Heap) (locs : List Loc) (ls : Array Slot), rc36 S x4 x5 x6 = some q → zW (xG D cs ad) s S H locs → lv_has ls 9 [(0, .ref (ad 13)), (3, .ref (ad 47)), (4, .int x4), (5, .int x5), (6, .int x6)] → W p l e (zR 2 48) s m args below meth c H locs 0 0 (zQi (xG D cs ad) q below args s) (F0 m 36 ls [])) (h : n_X1_chainOf_13_47_b36_l F rc36 S x4 x5 x6 = some q) (hW : zW (xG D cs ad) s S H locs) (hl : lv_has ls 9 [(0, .ref (ad 13)), (3, .ref (ad 47)), (4, .int x4), (5, .int x5), (6, .int x6)]) : W p l e (zR 2 48) s m args below meth c H locs 0 0 (zQi (xG D cs ad) q below args s) (F0 m 36 ls []) := by
  unfold n_X1_chainOf_13_47_b36_l at h
  obtain ⟨hx, hb, hml, hown, hts, hret, hlk⟩ := id C
  refine lv_iload hx hb dX1_chainOf_36 (lv_at hl 4 rfl) ?_
  refine lv_iload hx hb dX1_chainOf_38 (lv_at hl 2 rfl) ?_
  refine zz_cge (tgt := 139) C h dX1_chainOf_40 (by decide) (fun h => ?_) (fun h => ?_)
  · refine lv_iload hx hb dX1_chainOf_139 (lv_at hl 2 rfl) ?_
    exact zz_iret C rfl h hW dX1_chainOf_141
  · refine lv_iconst (v := 0) hx hb dX1_chainOf_43 (by decide) ?_
    refine lv_istore (lv' := [(7, .int (0 : Int32)), (0, .ref (ad 13)), (3, .ref (ad 47)), (4, .int x4), (5, .int x5), (6, .int x6)]) hx hb dX1_chainOf_44 hl (by decide) rfl (fun ls hl => ?_)
    exact w_X1_chainOf_13_47_b46 (F := F) C hrc36 F _ _ _ _ _ _ _ _ h hW (lv_sub hl [1, 2, 3, 4, 5, 0] rfl)
def n_X1_chainOf_13_47_b36 (F : Nat)  (S : Zs) (x4 : Int32) (x5 : Int32) (x6 : Int32) : Option (Int32 × Zs) :=
  zfix (fun (rc : (Zs × Int32 × Int32 × Int32) → Option (Int32 × Zs)) (u : (Zs × Int32 × Int32 × Int32)) => n_X1_chainOf_13_47_b36_l F  (fun S x4 x5 x6 => rc (S, x4, x5, x6)) u.1 u.2.1 u.2.2.1 u.2.2.2) F (S, x4, x5, x6)
theorem w_X1_chainOf_13_47_b36 {F : Nat} {q : (Int32 × Zs)}  (C : zC p s m args meth c cX1_chainOf 9 RX1 (some .int))  : ∀ (n : Nat) (S : Zs) (x4 : Int32) (x5 : Int32) (x6 : Int32) (H : Heap) (locs : List Loc) (ls : Array Slot), zfix (fun (rc : (Zs × Int32 × Int32 × Int32) → Option (Int32 × Zs)) (u : (Zs × Int32 × Int32 × Int32)) => n_X1_chainOf_13_47_b36_l F  (fun S x4 x5 x6 => rc (S, x4, x5, x6)) u.1 u.2.1 u.2.2.1 u.2.2.2) n (S, x4, x5, x6) = some q → zW (xG D cs ad) s S H locs → lv_has ls 9 [(0, .ref (ad 13)), (3, .ref (ad 47)), (4, .int x4), (5, .int x5), (6, .int x6)] → W p l e (zR 2 48) s m args below meth c H locs 0 0 (zQi (xG D cs ad) q below args s) (F0 m 36 ls []) := by
  intro n
  induction n with
  | zero => intro S x4 x5 x6 H locs ls h; exact absurd h (fun h => by cases h)
  | succ n ih => intro S x4 x5 x6 H locs ls h hW hl; exact w_X1_chainOf_13_47_b36_l (F := F) C (fun S x4 x5 x6 H locs ls h hW hl => ih S x4 x5 x6 H locs ls h hW hl) h hW hl
def n_X1_chainOf_13_47_e (F : Nat)  (S : Zs) (x1 : Int32) (x2 : Int32) : Option (Int32 × Zs) :=
  zcl (n_X1_measureDistances_13 F S x2) (fun v2 S1 => zld S1 22 24 x1 (fun v3 => if (24 : Int32) < v3 then (n_X1_chainOf_13_47_b27 F  S1 ) else (if v3 ≤ (nI 24) then (n_X1_chainOf_13_47_b36 F  S1 v3 x1 (0 : Int32)) else (n_X1_chainOf_13_47_b27 F  S1 ))))
set_option maxRecDepth 20000 in
set_option maxHeartbeats 4000000 in
theorem w_X1_chainOf_13_47_e {F : Nat} {q : (Int32 × Zs)} {S : Zs}  {x1 : Int32} {x2 : Int32} {ls : Array Slot} {H : Heap} {locs : List Loc} (C : zC p s m args meth c cX1_chainOf 9 RX1 (some .int))  (h : n_X1_chainOf_13_47_e F  S x1 x2 = some q) (hW : zW (xG D cs ad) s S H locs) (hl : lv_has ls 9 [(0, .ref (ad 13)), (1, .int x1), (2, .int x2), (3, .ref (ad 47))]) : W p l e (zR 2 48) s m args below meth c H locs 0 0 (zQi (xG D cs ad) q below args s) (F0 m 0 ls []) := by
  unfold n_X1_chainOf_13_47_e at h
  obtain ⟨hx, hb, hml, hown, hts, hret, hlk⟩ := id C
  refine lv_aload_n hx hb dX1_chainOf_0 rfl (lv_at hl 0 rfl) ?_
  refine lv_iload_n hx hb dX1_chainOf_1 rfl (lv_at hl 2 rfl) ?_
  refine zz_callVv (As := [.int x2]) C hW h (fun r hr => c_X1_measureDistances_13 hr) lk_X1_106 (hW.recv xr_13) rfl hl.1 ⟨rfl, rfl⟩ ⟨Nat.le_of_ble_eq_true rfl, Nat.le_of_ble_eq_true rfl⟩ (Nat.le_of_ble_eq_true rfl) ⟨Nat.zero_le _, Nat.zero_le _⟩ rfl dX1_chainOf_2 (fun v2 S1 H locs h hW => ?_)
  refine lv_aload_n hx hb dX1_chainOf_5 rfl (lv_at hl 0 rfl) ?_
  refine xg_13_3 C hW fl_X1_21 dX1_chainOf_6 ?_
  refine lv_iload_n hx hb dX1_chainOf_9 rfl (lv_at hl 1 rfl) ?_
  refine xl_22 C hW h dX1_chainOf_10 (fun v3 h => ?_)
  refine lv_istore (lv' := [(4, .int v3), (0, .ref (ad 13)), (1, .int x1), (2, .int x2), (3, .ref (ad 47))]) hx hb dX1_chainOf_11 hl (by decide) rfl (fun ls hl => ?_)
  refine lv_iload hx hb dX1_chainOf_13 (lv_at hl 0 rfl) ?_
  refine lv_bipush (v := 24) hx hb dX1_chainOf_15 (by decide) ?_
  refine zz_cgt (tgt := 27) C h dX1_chainOf_17 (by decide) (fun h => ?_) (fun h => ?_)
  · exact w_X1_chainOf_13_47_b27 (F := F) C h hW (lv_sub hl [] rfl)
  · refine lv_iload hx hb dX1_chainOf_20 (lv_at hl 0 rfl) ?_
    refine lv_aload_n hx hb dX1_chainOf_22 rfl (lv_at hl 4 rfl) ?_
    refine xn_47 C hW dX1_chainOf_23 ?_
    refine zz_cle (tgt := 30) C h dX1_chainOf_24 (by decide) (fun h => ?_) (fun h => ?_)
    · refine lv_iload_n hx hb dX1_chainOf_30 rfl (lv_at hl 2 rfl) ?_
      refine lv_istore (lv' := [(5, .int x1), (4, .int v3), (0, .ref (ad 13)), (1, .int x1), (2, .int x2), (3, .ref (ad 47))]) hx hb dX1_chainOf_31 hl (by decide) rfl (fun ls hl => ?_)
      refine lv_iconst (v := 0) hx hb dX1_chainOf_33 (by decide) ?_
      refine lv_istore (lv' := [(6, .int (0 : Int32)), (5, .int x1), (4, .int v3), (0, .ref (ad 13)), (1, .int x1), (2, .int x2), (3, .ref (ad 47))]) hx hb dX1_chainOf_34 hl (by decide) rfl (fun ls hl => ?_)
      exact w_X1_chainOf_13_47_b36 (F := F) C F _ _ _ _ _ _ _ h hW (lv_sub hl [3, 6, 2, 1, 0] rfl)
    · exact w_X1_chainOf_13_47_b27 (F := F) C h hW (lv_sub hl [] rfl)
def n_X1_chainOf_13_47 (F : Nat) (S : Zs) (x1 : Int32) (x2 : Int32) : Option (Int32 × Zs) := n_X1_chainOf_13_47_e F  S x1 x2
theorem c_X1_chainOf_13_47 {l : Launch} {D : va_G} {cs ad : Nat → Nat} {F : Nat} {S : Zs} {x1 : Int32} {x2 : Int32} {q : (Int32 × Zs)} (h : n_X1_chainOf_13_47 F S x1 x2 = some q) : zMi l yX1_chainOf cX1_chainOf 9 (some .int) (zR 2 48) (xG D cs ad) [.ref (ad 13), .int x1, .int x2, .ref (ad 47)] S q :=
  zz_enter (by decide) (Nat.le_of_ble_eq_true rfl) (fun p e s m below meth c ls C hW hl => w_X1_chainOf_13_47_e (F := F) C h hW (lv_sub hl [0, 1, 2, 3] rfl))
def n_X11_chain_0_b14 (F : Nat)  (S : Zs)  : Option (Int32 × Zs) :=
  some ((-1 : Int32), S)
set_option maxRecDepth 20000 in
set_option maxHeartbeats 4000000 in
theorem w_X11_chain_0_b14 {F : Nat} {q : (Int32 × Zs)} {S : Zs}   {ls : Array Slot} {H : Heap} {locs : List Loc} (C : zC p s m args meth c cX11_chain 4 RX11 (some .int))  (h : n_X11_chain_0_b14 F  S  = some q) (hW : zW (xG D cs ad) s S H locs) (hl : lv_has ls 4 []) : W p l e (zR 3 76) s m args below meth c H locs 0 0 (zQi (xG D cs ad) q below args s) (F0 m 14 ls []) := by
  unfold n_X11_chain_0_b14 at h
  obtain ⟨hx, hb, hml, hown, hts, hret, hlk⟩ := id C
  refine lv_iconst (v := -1) hx hb dX11_chain_14 (by decide) ?_
  exact zz_iret C rfl h hW dX11_chain_15
def n_X11_chain_0_b39 (F : Nat)  (S : Zs) (x3 : Int32) : Option (Int32 × Zs) :=
  some (x3, S)
set_option maxRecDepth 20000 in
set_option maxHeartbeats 4000000 in
theorem w_X11_chain_0_b39 {F : Nat} {q : (Int32 × Zs)} {S : Zs}  {x3 : Int32} {ls : Array Slot} {H : Heap} {locs : List Loc} (C : zC p s m args meth c cX11_chain 4 RX11 (some .int))  (h : n_X11_chain_0_b39 F  S x3 = some q) (hW : zW (xG D cs ad) s S H locs) (hl : lv_has ls 4 [(3, .int x3)]) : W p l e (zR 3 76) s m args below meth c H locs 0 0 (zQi (xG D cs ad) q below args s) (F0 m 39 ls []) := by
  unfold n_X11_chain_0_b39 at h
  obtain ⟨hx, hb, hml, hown, hts, hret, hlk⟩ := id C
  refine lv_iload_n hx hb dX11_chain_39 rfl (lv_at hl 0 rfl) ?_
  exact zz_iret C rfl h hW dX11_chain_40
def n_X11_chain_0_e (F : Nat)  (S : Zs) (x1 : Int32) (x2 : Int32) : Option (Int32 × Zs) :=
  zcl (n_X0_isTerm F S x1) (fun v2 S1 => if v2 = 0 then (n_X11_chain_0_b14 F  S1 ) else (zcl (n_X0_isTerm F S1 x2) (fun v4 S3 => if v4 = 0 then (n_X11_chain_0_b14 F  S3 ) else (zcl (n_X1_chainOf_13_47 F S3 x1 x2) (fun v6 S5 => if v6 < 0 then (n_X11_chain_0_b39 F  S5 v6) else (zpf S5 10 v6 (fun S7 => n_X11_chain_0_b39 F  S7 v6)))))))
set_option maxRecDepth 20000 in
set_option maxHeartbeats 4000000 in
theorem w_X11_chain_0_e {F : Nat} {q : (Int32 × Zs)} {S : Zs}  {x1 : Int32} {x2 : Int32} {ls : Array Slot} {H : Heap} {locs : List Loc} (C : zC p s m args meth c cX11_chain 4 RX11 (some .int))  (h : n_X11_chain_0_e F  S x1 x2 = some q) (hW : zW (xG D cs ad) s S H locs) (hl : lv_has ls 4 [(0, .ref (ad 0)), (1, .int x1), (2, .int x2)]) : W p l e (zR 3 76) s m args below meth c H locs 0 0 (zQi (xG D cs ad) q below args s) (F0 m 0 ls []) := by
  unfold n_X11_chain_0_e at h
  obtain ⟨hx, hb, hml, hown, hts, hret, hlk⟩ := id C
  refine lv_iload_n hx hb dX11_chain_0 rfl (lv_at hl 1 rfl) ?_
  refine zz_callSi (As := [.int x1]) C hW h (fun r hr => c_X0_isTerm hr) lk_X11_186 rfl hl.1 ⟨rfl, rfl⟩ ⟨Nat.le_of_ble_eq_true rfl, Nat.le_of_ble_eq_true rfl⟩ (Nat.le_of_ble_eq_true rfl) ⟨Nat.zero_le _, Nat.zero_le _⟩ rfl dX11_chain_1 (fun v2 S1 H locs h hW => ?_)
  refine zz_ieq (tgt := 14) C h dX11_chain_4 (by decide) (fun h => ?_) (fun h => ?_)
  · exact w_X11_chain_0_b14 (F := F) C h hW (lv_sub hl [] rfl)
  · refine lv_iload_n hx hb dX11_chain_7 rfl (lv_at hl 2 rfl) ?_
    refine zz_callSi (As := [.int x2]) C hW h (fun r hr => c_X0_isTerm hr) lk_X11_186 rfl hl.1 ⟨rfl, rfl⟩ ⟨Nat.le_of_ble_eq_true rfl, Nat.le_of_ble_eq_true rfl⟩ (Nat.le_of_ble_eq_true rfl) ⟨Nat.zero_le _, Nat.zero_le _⟩ rfl dX11_chain_8 (fun v4 S3 H locs h hW => ?_)
    refine zz_ine (tgt := 16) C h dX11_chain_11 (by decide) (fun h => ?_) (fun h => ?_)
    · refine lv_aload_n hx hb dX11_chain_16 rfl (lv_at hl 0 rfl) ?_
      refine xg_0_2 C hW fl_X11_31 dX11_chain_17 ?_
      refine lv_iload_n hx hb dX11_chain_20 rfl (lv_at hl 1 rfl) ?_
      refine lv_iload_n hx hb dX11_chain_21 rfl (lv_at hl 2 rfl) ?_
      refine lv_aload_n hx hb dX11_chain_22 rfl (lv_at hl 0 rfl) ?_
      refine xg_0_9 C hW fl_X11_78 dX11_chain_23 ?_
      refine zz_callVi (As := [.int x1, .int x2, .ref (ad 47)]) C hW h (fun r hr => c_X1_chainOf_13_47 hr) lk_X11_195 (hW.recv xr_13) rfl hl.1 ⟨rfl, rfl⟩ ⟨Nat.le_of_ble_eq_true rfl, Nat.le_of_ble_eq_true rfl⟩ (Nat.le_of_ble_eq_true rfl) ⟨Nat.zero_le _, Nat.zero_le _⟩ rfl dX11_chain_26 (fun v6 S5 H locs h hW => ?_)
      refine lv_istore_n (lv' := [(3, .int v6), (0, .ref (ad 0)), (1, .int x1), (2, .int x2)]) hx hb dX11_chain_29 rfl hl (by decide) rfl (fun ls hl => ?_)
      refine lv_iload_n hx hb dX11_chain_30 rfl (lv_at hl 0 rfl) ?_
      refine zz_ilt (tgt := 39) C h dX11_chain_31 (by decide) (fun h => ?_) (fun h => ?_)
      · exact w_X11_chain_0_b39 (F := F) C h hW (lv_sub hl [0] rfl)
      · refine lv_aload_n hx hb dX11_chain_34 rfl (lv_at hl 1 rfl) ?_
        refine lv_iload_n hx hb dX11_chain_35 rfl (lv_at hl 0 rfl) ?_
        refine xp_0_10 C hW h fl_X11_82 dX11_chain_36 (fun S7 H locs h hW => ?_)
        exact w_X11_chain_0_b39 (F := F) C h hW (lv_sub hl [0] rfl)
    · exact w_X11_chain_0_b14 (F := F) C h hW (lv_sub hl [] rfl)
def n_X11_chain_0 (F : Nat) (S : Zs) (x1 : Int32) (x2 : Int32) : Option (Int32 × Zs) := n_X11_chain_0_e F  S x1 x2
theorem c_X11_chain_0 {l : Launch} {D : va_G} {cs ad : Nat → Nat} {F : Nat} {S : Zs} {x1 : Int32} {x2 : Int32} {q : (Int32 × Zs)} (h : n_X11_chain_0 F S x1 x2 = some q) : zMi l yX11_chain cX11_chain 4 (some .int) (zR 3 76) (xG D cs ad) [.ref (ad 0), .int x1, .int x2] S q :=
  zz_enter (by decide) (Nat.le_of_ble_eq_true rfl) (fun p e s m below meth c ls C hW hl => w_X11_chain_0_e (F := F) C h hW (lv_sub hl [0, 1, 2] rfl))
def n_J13_bitCount_95d88_x_e (F : Nat)  (S : Zs) (x0 : Int64) : Option (Int32 × Zs) :=
  zlet (x0 - (((x0.toUInt64 >>> ((1 : Int32).toInt64.toUInt64 &&& Int64.toUInt64 63)).toInt64) &&& (6148914691236517205 : Int64))) (fun v1 => zlet ((v1 &&& (3689348814741910323 : Int64)) + (((v1.toUInt64 >>> ((2 : Int32).toInt64.toUInt64 &&& Int64.toUInt64 63)).toInt64) &&& (3689348814741910323 : Int64))) (fun v2 => zlet ((v2 + ((v2.toUInt64 >>> ((4 : Int32).toInt64.toUInt64 &&& Int64.toUInt64 63)).toInt64)) &&& (1085102592571150095 : Int64)) (fun v3 => zlet (v3 + ((v3.toUInt64 >>> ((8 : Int32).toInt64.toUInt64 &&& Int64.toUInt64 63)).toInt64)) (fun v4 => zlet (v4 + ((v4.toUInt64 >>> ((16 : Int32).toInt64.toUInt64 &&& Int64.toUInt64 63)).toInt64)) (fun v5 => zlet (v5 + ((v5.toUInt64 >>> ((32 : Int32).toInt64.toUInt64 &&& Int64.toUInt64 63)).toInt64)) (fun v6 => some (((v6.toInt32) &&& (127 : Int32)), S)))))))
set_option maxRecDepth 20000 in
set_option maxHeartbeats 4000000 in
theorem w_J13_bitCount_95d88_x_e {F : Nat} {q : (Int32 × Zs)} {S : Zs}  {x0 : Int64} {ls : Array Slot} {H : Heap} {locs : List Loc} (C : zC p s m args meth c cJ13_bitCount_95d88 2 RJ13 (some .int))  (h : n_J13_bitCount_95d88_x_e F  S x0 = some q) (hW : zW (xG D cs ad) s S H locs) (hl : lv_has ls 2 [(0, .long x0)]) : W p l e (zR 0 0) s m args below meth c H locs 0 0 (zQi (xG D cs ad) q below args s) (F0 m 0 ls []) := by
  unfold n_J13_bitCount_95d88_x_e at h
  obtain ⟨hx, hb, hml, hown, hts, hret, hlk⟩ := id C
  refine lv_lload_n hx hb dJ13_bitCount_95d88_0 rfl (lv_at hl 0 rfl) ?_
  refine lv_lload_n hx hb dJ13_bitCount_95d88_1 rfl (lv_at hl 0 rfl) ?_
  refine lv_iconst (v := 1) hx hb dJ13_bitCount_95d88_2 (by decide) ?_
  refine lv_lushr hx hb dJ13_bitCount_95d88_3 rfl ?_
  refine lv_ldc2 (v := 6148914691236517205) hx hb hown (hts _ ct_J13_314) dJ13_bitCount_95d88_4 ?_
  refine lv_land hx hb dJ13_bitCount_95d88_7 ?_
  refine lv_lsub hx hb dJ13_bitCount_95d88_8 ?_
  refine zz_letl h (fun v1 h => ?_)
  refine lv_lstore_n (lv' := [(0, .long v1)]) hx hb dJ13_bitCount_95d88_9 rfl hl (by decide) rfl (fun ls hl => ?_)
  refine lv_lload_n hx hb dJ13_bitCount_95d88_10 rfl (lv_at hl 0 rfl) ?_
  refine lv_ldc2 (v := 3689348814741910323) hx hb hown (hts _ ct_J13_316) dJ13_bitCount_95d88_11 ?_
  refine lv_land hx hb dJ13_bitCount_95d88_14 ?_
  refine lv_lload_n hx hb dJ13_bitCount_95d88_15 rfl (lv_at hl 0 rfl) ?_
  refine lv_iconst (v := 2) hx hb dJ13_bitCount_95d88_16 (by decide) ?_
  refine lv_lushr hx hb dJ13_bitCount_95d88_17 rfl ?_
  refine lv_ldc2 (v := 3689348814741910323) hx hb hown (hts _ ct_J13_316) dJ13_bitCount_95d88_18 ?_
  refine lv_land hx hb dJ13_bitCount_95d88_21 ?_
  refine lv_ladd hx hb dJ13_bitCount_95d88_22 ?_
  refine zz_letl h (fun v2 h => ?_)
  refine lv_lstore_n (lv' := [(0, .long v2)]) hx hb dJ13_bitCount_95d88_23 rfl hl (by decide) rfl (fun ls hl => ?_)
  refine lv_lload_n hx hb dJ13_bitCount_95d88_24 rfl (lv_at hl 0 rfl) ?_
  refine lv_lload_n hx hb dJ13_bitCount_95d88_25 rfl (lv_at hl 0 rfl) ?_
  refine lv_iconst (v := 4) hx hb dJ13_bitCount_95d88_26 (by decide) ?_
  refine lv_lushr hx hb dJ13_bitCount_95d88_27 rfl ?_
  refine lv_ladd hx hb dJ13_bitCount_95d88_28 ?_
  refine lv_ldc2 (v := 1085102592571150095) hx hb hown (hts _ ct_J13_318) dJ13_bitCount_95d88_29 ?_
  refine lv_land hx hb dJ13_bitCount_95d88_32 ?_
  refine zz_letl h (fun v3 h => ?_)
  refine lv_lstore_n (lv' := [(0, .long v3)]) hx hb dJ13_bitCount_95d88_33 rfl hl (by decide) rfl (fun ls hl => ?_)
  refine lv_lload_n hx hb dJ13_bitCount_95d88_34 rfl (lv_at hl 0 rfl) ?_
  refine lv_lload_n hx hb dJ13_bitCount_95d88_35 rfl (lv_at hl 0 rfl) ?_
  refine lv_bipush (v := 8) hx hb dJ13_bitCount_95d88_36 (by decide) ?_
  refine lv_lushr hx hb dJ13_bitCount_95d88_38 rfl ?_
  refine lv_ladd hx hb dJ13_bitCount_95d88_39 ?_
  refine zz_letl h (fun v4 h => ?_)
  refine lv_lstore_n (lv' := [(0, .long v4)]) hx hb dJ13_bitCount_95d88_40 rfl hl (by decide) rfl (fun ls hl => ?_)
  refine lv_lload_n hx hb dJ13_bitCount_95d88_41 rfl (lv_at hl 0 rfl) ?_
  refine lv_lload_n hx hb dJ13_bitCount_95d88_42 rfl (lv_at hl 0 rfl) ?_
  refine lv_bipush (v := 16) hx hb dJ13_bitCount_95d88_43 (by decide) ?_
  refine lv_lushr hx hb dJ13_bitCount_95d88_45 rfl ?_
  refine lv_ladd hx hb dJ13_bitCount_95d88_46 ?_
  refine zz_letl h (fun v5 h => ?_)
  refine lv_lstore_n (lv' := [(0, .long v5)]) hx hb dJ13_bitCount_95d88_47 rfl hl (by decide) rfl (fun ls hl => ?_)
  refine lv_lload_n hx hb dJ13_bitCount_95d88_48 rfl (lv_at hl 0 rfl) ?_
  refine lv_lload_n hx hb dJ13_bitCount_95d88_49 rfl (lv_at hl 0 rfl) ?_
  refine lv_bipush (v := 32) hx hb dJ13_bitCount_95d88_50 (by decide) ?_
  refine lv_lushr hx hb dJ13_bitCount_95d88_52 rfl ?_
  refine lv_ladd hx hb dJ13_bitCount_95d88_53 ?_
  refine zz_letl h (fun v6 h => ?_)
  refine lv_lstore_n (lv' := [(0, .long v6)]) hx hb dJ13_bitCount_95d88_54 rfl hl (by decide) rfl (fun ls hl => ?_)
  refine lv_lload_n hx hb dJ13_bitCount_95d88_55 rfl (lv_at hl 0 rfl) ?_
  refine lv_l2i hx hb dJ13_bitCount_95d88_56 rfl ?_
  refine lv_bipush (v := 127) hx hb dJ13_bitCount_95d88_57 (by decide) ?_
  refine lv_iand hx hb dJ13_bitCount_95d88_59 ?_
  exact zz_iret C rfl h hW dJ13_bitCount_95d88_60
def n_J13_bitCount_95d88_x (F : Nat) (S : Zs) (x0 : Int64) : Option (Int32 × Zs) := n_J13_bitCount_95d88_x_e F  S x0
theorem c_J13_bitCount_95d88_x {l : Launch} {D : va_G} {cs ad : Nat → Nat} {F : Nat} {S : Zs} {x0 : Int64} {q : (Int32 × Zs)} (h : n_J13_bitCount_95d88_x F S x0 = some q) : zMi l yJ13_bitCount_95d88 cJ13_bitCount_95d88 2 (some .int) (zR 0 0) (xG D cs ad) [.long x0] S q :=
  zz_enter (by decide) (Nat.le_of_ble_eq_true rfl) (fun p e s m below meth c ls C hW hl => w_J13_bitCount_95d88_x_e (F := F) C h hW (lv_sub hl [0] rfl))
def n_X7_members_b44 (F : Nat)  (S : Zs) (t0 : Int64) : Option (Int64 × Zs) :=
  some (t0, S)
set_option maxRecDepth 20000 in
set_option maxHeartbeats 4000000 in
theorem w_X7_members_b44 {F : Nat} {q : (Int64 × Zs)} {S : Zs}  {t0 : Int64} {ls : Array Slot} {H : Heap} {locs : List Loc} (C : zC p s m args meth c cX7_members 5 RX7 (some .long))  (h : n_X7_members_b44 F  S t0 = some q) (hW : zW (xG D cs ad) s S H locs) (hl : lv_has ls 5 []) : W p l e (zR 0 0) s m args below meth c H locs 0 0 (zQl (xG D cs ad) q below args s) (F0 m 44 ls [.long t0]) := by
  unfold n_X7_members_b44 at h
  obtain ⟨hx, hb, hml, hown, hts, hret, hlk⟩ := id C
  exact zz_lret C rfl h hW dX7_members_44
def n_X7_members_b28 (F : Nat)  (S : Zs) (x0 : Int32) (t0 : Int64) : Option (Int64 × Zs) :=
  if (x0 &&& (1 : Int32)) = 0 then (n_X7_members_b44 F  S t0) else (n_X7_members_b44 F  S (t0 ^^^ (-1 : Int64)))
set_option maxRecDepth 20000 in
set_option maxHeartbeats 4000000 in
theorem w_X7_members_b28 {F : Nat} {q : (Int64 × Zs)} {S : Zs}  {x0 : Int32} {t0 : Int64} {ls : Array Slot} {H : Heap} {locs : List Loc} (C : zC p s m args meth c cX7_members 5 RX7 (some .long))  (h : n_X7_members_b28 F  S x0 t0 = some q) (hW : zW (xG D cs ad) s S H locs) (hl : lv_has ls 5 [(0, .int x0)]) : W p l e (zR 0 0) s m args below meth c H locs 0 0 (zQl (xG D cs ad) q below args s) (F0 m 28 ls [.long t0]) := by
  unfold n_X7_members_b28 at h
  obtain ⟨hx, hb, hml, hown, hts, hret, hlk⟩ := id C
  refine lv_lstore_n (lv' := [(3, .long t0), (0, .int x0)]) hx hb dX7_members_28 rfl hl (by decide) rfl (fun ls hl => ?_)
  refine lv_iload_n hx hb dX7_members_29 rfl (lv_at hl 1 rfl) ?_
  refine lv_iconst (v := 1) hx hb dX7_members_30 (by decide) ?_
  refine lv_iand hx hb dX7_members_31 ?_
  refine zz_ine (tgt := 39) C h dX7_members_32 (by decide) (fun h => ?_) (fun h => ?_)
  · refine lv_lload_n hx hb dX7_members_39 rfl (lv_at hl 0 rfl) ?_
    refine lv_ldc2 (v := -1) hx hb hown (hts _ ct_X7_26) dX7_members_40 ?_
    refine lv_lxor hx hb dX7_members_43 ?_
    exact w_X7_members_b44 (F := F) C h hW (lv_sub hl [] rfl)
  · refine lv_lload_n hx hb dX7_members_35 rfl (lv_at hl 0 rfl) ?_
    refine lv_goto (tgt := 44) hx hb dX7_members_36 (by decide) ?_
    exact w_X7_members_b44 (F := F) C h hW (lv_sub hl [] rfl)
def n_X7_members_e (F : Nat)  (S : Zs) (x0 : Int32) (x1 : Int32) : Option (Int64 × Zs) :=
  zlet (x0 >>> ((1 : Int32) &&& 31)) (fun v1 => if (6 : Int32) ≤ v1 then (n_X7_members_b28 F  S x0 (-(((x1 >>> ((v1 - (6 : Int32)) &&& 31)) &&& (1 : Int32)).toInt64))) else (zlt xt_50 6 v1 (fun v2 => n_X7_members_b28 F  S x0 v2)))
set_option maxRecDepth 20000 in
set_option maxHeartbeats 4000000 in
theorem w_X7_members_e {F : Nat} {q : (Int64 × Zs)} {S : Zs}  {x0 : Int32} {x1 : Int32} {ls : Array Slot} {H : Heap} {locs : List Loc} (C : zC p s m args meth c cX7_members 5 RX7 (some .long))  (h : n_X7_members_e F  S x0 x1 = some q) (hW : zW (xG D cs ad) s S H locs) (hl : lv_has ls 5 [(0, .int x0), (1, .int x1)]) : W p l e (zR 0 0) s m args below meth c H locs 0 0 (zQl (xG D cs ad) q below args s) (F0 m 0 ls []) := by
  unfold n_X7_members_e at h
  obtain ⟨hx, hb, hml, hown, hts, hret, hlk⟩ := id C
  refine lv_iload_n hx hb dX7_members_0 rfl (lv_at hl 0 rfl) ?_
  refine lv_iconst (v := 1) hx hb dX7_members_1 (by decide) ?_
  refine lv_ishr hx hb dX7_members_2 ?_
  refine zz_leti h (fun v1 h => ?_)
  refine lv_istore_n (lv' := [(2, .int v1), (0, .int x0), (1, .int x1)]) hx hb dX7_members_3 rfl hl (by decide) rfl (fun ls hl => ?_)
  refine lv_iload_n hx hb dX7_members_4 rfl (lv_at hl 0 rfl) ?_
  refine lv_bipush (v := 6) hx hb dX7_members_5 (by decide) ?_
  refine zz_cge (tgt := 18) C h dX7_members_7 (by decide) (fun h => ?_) (fun h => ?_)
  · refine lv_iload_n hx hb dX7_members_18 rfl (lv_at hl 2 rfl) ?_
    refine lv_iload_n hx hb dX7_members_19 rfl (lv_at hl 0 rfl) ?_
    refine lv_bipush (v := 6) hx hb dX7_members_20 (by decide) ?_
    refine lv_isub hx hb dX7_members_22 ?_
    refine lv_ishr hx hb dX7_members_23 ?_
    refine lv_iconst (v := 1) hx hb dX7_members_24 (by decide) ?_
    refine lv_iand hx hb dX7_members_25 ?_
    refine lv_i2l hx hb dX7_members_26 rfl ?_
    refine lv_lneg hx hb dX7_members_27 ?_
    exact w_X7_members_b28 (F := F) C h hW (lv_sub hl [1] rfl)
  · refine xst_50 C hW fl_X7_67 dX7_members_10 ?_
    refine lv_iload_n hx hb dX7_members_13 rfl (lv_at hl 0 rfl) ?_
    refine xtl_50 C hW h dX7_members_14 (fun v2 h => ?_)
    refine lv_goto (tgt := 28) hx hb dX7_members_15 (by decide) ?_
    exact w_X7_members_b28 (F := F) C h hW (lv_sub hl [1] rfl)
def n_X7_members (F : Nat) (S : Zs) (x0 : Int32) (x1 : Int32) : Option (Int64 × Zs) := n_X7_members_e F  S x0 x1
theorem c_X7_members {l : Launch} {D : va_G} {cs ad : Nat → Nat} {F : Nat} {S : Zs} {x0 : Int32} {x1 : Int32} {q : (Int64 × Zs)} (h : n_X7_members F S x0 x1 = some q) : zMl l yX7_members cX7_members 5 (some .long) (zR 0 0) (xG D cs ad) [.int x0, .int x1] S q :=
  zz_enter (by decide) (Nat.le_of_ble_eq_true rfl) (fun p e s m below meth c ls C hW hl => w_X7_members_e (F := F) C h hW (lv_sub hl [0, 1] rfl))
def n_X7_exclude_24_b23_l (F : Nat) (rc23 : Zs → Int32 → Int32 → Int32 → Option (Int32 × Zs)) (S : Zs) (x2 : Int32) (x3 : Int32) (x4 : Int32) : Option (Int32 × Zs) :=
  if (64 : Int32) ≤ x4 then (some (0, S)) else (zldL S 64 x4 (fun v1 => zcl (n_X7_members F S x2 x4) (fun v3 S2 => zcl (n_X7_members F S2 x3 x4) (fun v5 S4 => zstL S4 64 x4 (v1 &&& ((v3 &&& v5) ^^^ (-1 : Int64))) (fun S6 => zlet (x4 + (1 : Int32)) (fun v7 => rc23 S6 x2 x3 v7))))))
set_option maxRecDepth 20000 in
set_option maxHeartbeats 4000000 in
theorem w_X7_exclude_24_b23_l {F : Nat} {q : (Int32 × Zs)} {S : Zs} {rc23 : Zs → Int32 → Int32 → Int32 → Option (Int32 × Zs)} {x2 : Int32} {x3 : Int32} {x4 : Int32} {ls : Array Slot} {H : Heap} {locs : List Loc} (C : zC p s m args meth c cX7_exclude 5 RX7 none) (hrc23 : ∀ (S : Zs) (x2 : Int32) (x3 : Int32) (x4 : Int32) (H : Heap) (locs : List Loc) (ls : Array Slot), rc23 S x2 x3 x4 = some q → zW (xG D cs ad) s S H locs → lv_has ls 5 [(0, .ref (ad 24)), (2, .int x2), (3, .int x3), (4, .int x4)] → W p l e (zR 1 24) s m args below meth c H locs 0 0 (zQv (xG D cs ad) q below args s) (F0 m 23 ls [])) (h : n_X7_exclude_24_b23_l F rc23 S x2 x3 x4 = some q) (hW : zW (xG D cs ad) s S H locs) (hl : lv_has ls 5 [(0, .ref (ad 24)), (2, .int x2), (3, .int x3), (4, .int x4)]) : W p l e (zR 1 24) s m args below meth c H locs 0 0 (zQv (xG D cs ad) q below args s) (F0 m 23 ls []) := by
  unfold n_X7_exclude_24_b23_l at h
  obtain ⟨hx, hb, hml, hown, hts, hret, hlk⟩ := id C
  refine lv_iload hx hb dX7_exclude_23 (lv_at hl 3 rfl) ?_
  refine lv_bipush (v := 64) hx hb dX7_exclude_25 (by decide) ?_
  refine zz_cge (tgt := 63) C h dX7_exclude_27 (by decide) (fun h => ?_) (fun h => ?_)
  · exact zz_vret C rfl h hW dX7_exclude_63
  · refine lv_aload_n hx hb dX7_exclude_30 rfl (lv_at hl 0 rfl) ?_
    refine xg_24_1 C hW fl_X7_11 dX7_exclude_31 ?_
    refine lv_iload hx hb dX7_exclude_34 (lv_at hl 3 rfl) ?_
    refine lv_dup2_11 hx hb dX7_exclude_36 rfl rfl ?_
    refine xl_25 C hW h dX7_exclude_37 (fun v1 h => ?_)
    refine lv_iload_n hx hb dX7_exclude_38 rfl (lv_at hl 1 rfl) ?_
    refine lv_iload hx hb dX7_exclude_39 (lv_at hl 3 rfl) ?_
    refine zz_callSl (As := [.int x2, .int x4]) C hW h (fun r hr => c_X7_members hr) lk_X7_63 rfl hl.1 ⟨rfl, rfl⟩ ⟨Nat.le_of_ble_eq_true rfl, Nat.le_of_ble_eq_true rfl⟩ (Nat.le_of_ble_eq_true rfl) ⟨Nat.zero_le _, Nat.zero_le _⟩ rfl dX7_exclude_41 (fun v3 S2 H locs h hW => ?_)
    refine lv_iload_n hx hb dX7_exclude_44 rfl (lv_at hl 2 rfl) ?_
    refine lv_iload hx hb dX7_exclude_45 (lv_at hl 3 rfl) ?_
    refine zz_callSl (As := [.int x3, .int x4]) C hW h (fun r hr => c_X7_members hr) lk_X7_63 rfl hl.1 ⟨rfl, rfl⟩ ⟨Nat.le_of_ble_eq_true rfl, Nat.le_of_ble_eq_true rfl⟩ (Nat.le_of_ble_eq_true rfl) ⟨Nat.zero_le _, Nat.zero_le _⟩ rfl dX7_exclude_47 (fun v5 S4 H locs h hW => ?_)
    refine lv_land hx hb dX7_exclude_50 ?_
    refine lv_ldc2 (v := -1) hx hb hown (hts _ ct_X7_26) dX7_exclude_51 ?_
    refine lv_lxor hx hb dX7_exclude_54 ?_
    refine lv_land hx hb dX7_exclude_55 ?_
    refine xs_25 C hW h dX7_exclude_56 (fun S6 H locs h hW => ?_)
    obtain ⟨v7, ev7, h⟩ := zz_name h
    refine lv_iinc (v := v7) (lv' := [(4, .int v7), (0, .ref (ad 24)), (2, .int x2), (3, .int x3)]) hx hb dX7_exclude_57 hl (k := 3) rfl ev7.symm (by decide) rfl (fun ls hl => ?_)
    refine lv_goto (tgt := 23) hx hb dX7_exclude_60 (by decide) ?_
    exact hrc23 _ _ _ _ _ _ _ h hW (lv_sub hl [1, 2, 3, 0] rfl)
def n_X7_exclude_24_b23 (F : Nat)  (S : Zs) (x2 : Int32) (x3 : Int32) (x4 : Int32) : Option (Int32 × Zs) :=
  zfix (fun (rc : (Zs × Int32 × Int32 × Int32) → Option (Int32 × Zs)) (u : (Zs × Int32 × Int32 × Int32)) => n_X7_exclude_24_b23_l F  (fun S x2 x3 x4 => rc (S, x2, x3, x4)) u.1 u.2.1 u.2.2.1 u.2.2.2) F (S, x2, x3, x4)
theorem w_X7_exclude_24_b23 {F : Nat} {q : (Int32 × Zs)}  (C : zC p s m args meth c cX7_exclude 5 RX7 none)  : ∀ (n : Nat) (S : Zs) (x2 : Int32) (x3 : Int32) (x4 : Int32) (H : Heap) (locs : List Loc) (ls : Array Slot), zfix (fun (rc : (Zs × Int32 × Int32 × Int32) → Option (Int32 × Zs)) (u : (Zs × Int32 × Int32 × Int32)) => n_X7_exclude_24_b23_l F  (fun S x2 x3 x4 => rc (S, x2, x3, x4)) u.1 u.2.1 u.2.2.1 u.2.2.2) n (S, x2, x3, x4) = some q → zW (xG D cs ad) s S H locs → lv_has ls 5 [(0, .ref (ad 24)), (2, .int x2), (3, .int x3), (4, .int x4)] → W p l e (zR 1 24) s m args below meth c H locs 0 0 (zQv (xG D cs ad) q below args s) (F0 m 23 ls []) := by
  intro n
  induction n with
  | zero => intro S x2 x3 x4 H locs ls h; exact absurd h (fun h => by cases h)
  | succ n ih => intro S x2 x3 x4 H locs ls h hW hl; exact w_X7_exclude_24_b23_l (F := F) C (fun S x2 x3 x4 H locs ls h hW hl => ih S x2 x3 x4 H locs ls h hW hl) h hW hl
def n_X7_exclude_24_e (F : Nat)  (S : Zs) (x1 : Int32) : Option (Int32 × Zs) :=
  zcl (n_X0_isUniversal F S x1) (fun v2 S1 => if v2 = 0 then (some (0, S1)) else (zcl (n_X0_subject F S1 x1) (fun v4 S3 => zcl (n_X0_target F S3 x1) (fun v6 S5 => zlet (v6 ^^^ (1 : Int32)) (fun v7 => n_X7_exclude_24_b23 F  S5 v4 v7 (0 : Int32))))))
set_option maxRecDepth 20000 in
set_option maxHeartbeats 4000000 in
theorem w_X7_exclude_24_e {F : Nat} {q : (Int32 × Zs)} {S : Zs}  {x1 : Int32} {ls : Array Slot} {H : Heap} {locs : List Loc} (C : zC p s m args meth c cX7_exclude 5 RX7 none)  (h : n_X7_exclude_24_e F  S x1 = some q) (hW : zW (xG D cs ad) s S H locs) (hl : lv_has ls 5 [(0, .ref (ad 24)), (1, .int x1)]) : W p l e (zR 1 24) s m args below meth c H locs 0 0 (zQv (xG D cs ad) q below args s) (F0 m 0 ls []) := by
  unfold n_X7_exclude_24_e at h
  obtain ⟨hx, hb, hml, hown, hts, hret, hlk⟩ := id C
  refine lv_iload_n hx hb dX7_exclude_0 rfl (lv_at hl 1 rfl) ?_
  refine zz_callSi (As := [.int x1]) C hW h (fun r hr => c_X0_isUniversal hr) lk_X7_50 rfl hl.1 ⟨rfl, rfl⟩ ⟨Nat.le_of_ble_eq_true rfl, Nat.le_of_ble_eq_true rfl⟩ (Nat.le_of_ble_eq_true rfl) ⟨Nat.zero_le _, Nat.zero_le _⟩ rfl dX7_exclude_1 (fun v2 S1 H locs h hW => ?_)
  refine zz_ine (tgt := 8) C h dX7_exclude_4 (by decide) (fun h => ?_) (fun h => ?_)
  · refine lv_iload_n hx hb dX7_exclude_8 rfl (lv_at hl 1 rfl) ?_
    refine zz_callSi (As := [.int x1]) C hW h (fun r hr => c_X0_subject hr) lk_X7_56 rfl hl.1 ⟨rfl, rfl⟩ ⟨Nat.le_of_ble_eq_true rfl, Nat.le_of_ble_eq_true rfl⟩ (Nat.le_of_ble_eq_true rfl) ⟨Nat.zero_le _, Nat.zero_le _⟩ rfl dX7_exclude_9 (fun v4 S3 H locs h hW => ?_)
    refine lv_istore_n (lv' := [(2, .int v4), (0, .ref (ad 24)), (1, .int x1)]) hx hb dX7_exclude_12 rfl hl (by decide) rfl (fun ls hl => ?_)
    refine lv_iload_n hx hb dX7_exclude_13 rfl (lv_at hl 2 rfl) ?_
    refine zz_callSi (As := [.int x1]) C hW h (fun r hr => c_X0_target hr) lk_X7_60 rfl hl.1 ⟨rfl, rfl⟩ ⟨Nat.le_of_ble_eq_true rfl, Nat.le_of_ble_eq_true rfl⟩ (Nat.le_of_ble_eq_true rfl) ⟨Nat.zero_le _, Nat.zero_le _⟩ rfl dX7_exclude_14 (fun v6 S5 H locs h hW => ?_)
    refine lv_iconst (v := 1) hx hb dX7_exclude_17 (by decide) ?_
    refine lv_ixor hx hb dX7_exclude_18 ?_
    refine zz_leti h (fun v7 h => ?_)
    refine lv_istore_n (lv' := [(3, .int v7), (2, .int v4), (0, .ref (ad 24)), (1, .int x1)]) hx hb dX7_exclude_19 rfl hl (by decide) rfl (fun ls hl => ?_)
    refine lv_iconst (v := 0) hx hb dX7_exclude_20 (by decide) ?_
    refine lv_istore (lv' := [(4, .int (0 : Int32)), (3, .int v7), (2, .int v4), (0, .ref (ad 24)), (1, .int x1)]) hx hb dX7_exclude_21 hl (by decide) rfl (fun ls hl => ?_)
    exact w_X7_exclude_24_b23 (F := F) C F _ _ _ _ _ _ _ h hW (lv_sub hl [3, 2, 1, 0] rfl)
  · exact zz_vret C rfl h hW dX7_exclude_7
def n_X7_exclude_24 (F : Nat) (S : Zs) (x1 : Int32) : Option (Int32 × Zs) := n_X7_exclude_24_e F  S x1
theorem c_X7_exclude_24 {l : Launch} {D : va_G} {cs ad : Nat → Nat} {F : Nat} {S : Zs} {x1 : Int32} {q : (Int32 × Zs)} (h : n_X7_exclude_24 F S x1 = some q) : zMv l yX7_exclude cX7_exclude 5 none (zR 1 24) (xG D cs ad) [.ref (ad 24), .int x1] S q :=
  zz_enter (by decide) (Nat.le_of_ble_eq_true rfl) (fun p e s m below meth c ls C hW hl => w_X7_exclude_24_e (F := F) C h hW (lv_sub hl [0, 1] rfl))
def n_X7_settle_24_b107_l (F : Nat) (rc107 : Zs → Int32 → Option (Int32 × Zs)) (S : Zs) (x3 : Int32) : Option (Int32 × Zs) :=
  if (64 : Int32) ≤ x3 then (some (0, S)) else (zgf S 482 (fun v1 => zldL S 64 x3 (fun v2 => zcl (n_J13_bitCount_95d88_x F S v2) (fun v4 S3 => zpf S3 482 (v1 + v4) (fun S5 => zlet (x3 + (1 : Int32)) (fun v6 => rc107 S5 v6))))))
set_option maxRecDepth 20000 in
set_option maxHeartbeats 4000000 in
theorem w_X7_settle_24_b107_l {F : Nat} {q : (Int32 × Zs)} {S : Zs} {rc107 : Zs → Int32 → Option (Int32 × Zs)} {x3 : Int32} {ls : Array Slot} {H : Heap} {locs : List Loc} (C : zC p s m args meth c cX7_settle 4 RX7 none) (hrc107 : ∀ (S : Zs) (x3 : Int32) (H : Heap) (locs : List Loc) (ls : Array Slot), rc107 S x3 = some q → zW (xG D cs ad) s S H locs → lv_has ls 4 [(0, .ref (ad 24)), (3, .int x3)] → W p l e (zR 2 48) s m args below meth c H locs 0 0 (zQv (xG D cs ad) q below args s) (F0 m 107 ls [])) (h : n_X7_settle_24_b107_l F rc107 S x3 = some q) (hW : zW (xG D cs ad) s S H locs) (hl : lv_has ls 4 [(0, .ref (ad 24)), (3, .int x3)]) : W p l e (zR 2 48) s m args below meth c H locs 0 0 (zQv (xG D cs ad) q below args s) (F0 m 107 ls []) := by
  unfold n_X7_settle_24_b107_l at h
  obtain ⟨hx, hb, hml, hown, hts, hret, hlk⟩ := id C
  refine lv_iload_n hx hb dX7_settle_107 rfl (lv_at hl 1 rfl) ?_
  refine lv_bipush (v := 64) hx hb dX7_settle_108 (by decide) ?_
  refine zz_cge (tgt := 137) C h dX7_settle_110 (by decide) (fun h => ?_) (fun h => ?_)
  · exact zz_vret C rfl h hW dX7_settle_137
  · refine lv_aload_n hx hb dX7_settle_113 rfl (lv_at hl 0 rfl) ?_
    refine lv_dup hx hb dX7_settle_114 rfl ?_
    refine xg_24_2 C hW h fl_X7_41 dX7_settle_115 (fun v1 h => ?_)
    refine lv_aload_n hx hb dX7_settle_118 rfl (lv_at hl 0 rfl) ?_
    refine xg_24_1 C hW fl_X7_11 dX7_settle_119 ?_
    refine lv_iload_n hx hb dX7_settle_122 rfl (lv_at hl 1 rfl) ?_
    refine xl_25 C hW h dX7_settle_123 (fun v2 h => ?_)
    refine zz_callSi (As := [.long v2]) C hW h (fun r hr => c_J13_bitCount_95d88_x hr) lk_X7_44 rfl hl.1 ⟨rfl, rfl⟩ ⟨Nat.le_of_ble_eq_true rfl, Nat.le_of_ble_eq_true rfl⟩ (Nat.le_of_ble_eq_true rfl) ⟨Nat.zero_le _, Nat.zero_le _⟩ rfl dX7_settle_124 (fun v4 S3 H locs h hW => ?_)
    refine lv_iadd hx hb dX7_settle_127 ?_
    refine xp_24_2 C hW h fl_X7_41 dX7_settle_128 (fun S5 H locs h hW => ?_)
    obtain ⟨v6, ev6, h⟩ := zz_name h
    refine lv_iinc (v := v6) (lv' := [(3, .int v6), (0, .ref (ad 24))]) hx hb dX7_settle_131 hl (k := 1) rfl ev6.symm (by decide) rfl (fun ls hl => ?_)
    refine lv_goto (tgt := 107) hx hb dX7_settle_134 (by decide) ?_
    exact hrc107 _ _ _ _ _ h hW (lv_sub hl [1, 0] rfl)
def n_X7_settle_24_b107 (F : Nat)  (S : Zs) (x3 : Int32) : Option (Int32 × Zs) :=
  zfix (fun (rc : (Zs × Int32) → Option (Int32 × Zs)) (u : (Zs × Int32)) => n_X7_settle_24_b107_l F  (fun S x3 => rc (S, x3)) u.1 u.2) F (S, x3)
theorem w_X7_settle_24_b107 {F : Nat} {q : (Int32 × Zs)}  (C : zC p s m args meth c cX7_settle 4 RX7 none)  : ∀ (n : Nat) (S : Zs) (x3 : Int32) (H : Heap) (locs : List Loc) (ls : Array Slot), zfix (fun (rc : (Zs × Int32) → Option (Int32 × Zs)) (u : (Zs × Int32)) => n_X7_settle_24_b107_l F  (fun S x3 => rc (S, x3)) u.1 u.2) n (S, x3) = some q → zW (xG D cs ad) s S H locs → lv_has ls 4 [(0, .ref (ad 24)), (3, .int x3)] → W p l e (zR 2 48) s m args below meth c H locs 0 0 (zQv (xG D cs ad) q below args s) (F0 m 107 ls []) := by
  intro n
  induction n with
  | zero => intro S x3 H locs ls h; exact absurd h (fun h => by cases h)
  | succ n ih => intro S x3 H locs ls h hW hl; exact w_X7_settle_24_b107_l (F := F) C (fun S x3 H locs ls h hW hl => ih S x3 H locs ls h hW hl) h hW hl
def n_X7_settle_24_b100 (F : Nat)  (S : Zs)  : Option (Int32 × Zs) :=
  zpf S 482 (0 : Int32) (fun S1 => n_X7_settle_24_b107 F  S1 (0 : Int32))
set_option maxRecDepth 20000 in
set_option maxHeartbeats 4000000 in
theorem w_X7_settle_24_b100 {F : Nat} {q : (Int32 × Zs)} {S : Zs}   {ls : Array Slot} {H : Heap} {locs : List Loc} (C : zC p s m args meth c cX7_settle 4 RX7 none)  (h : n_X7_settle_24_b100 F  S  = some q) (hW : zW (xG D cs ad) s S H locs) (hl : lv_has ls 4 [(0, .ref (ad 24))]) : W p l e (zR 2 48) s m args below meth c H locs 0 0 (zQv (xG D cs ad) q below args s) (F0 m 100 ls []) := by
  unfold n_X7_settle_24_b100 at h
  obtain ⟨hx, hb, hml, hown, hts, hret, hlk⟩ := id C
  refine lv_aload_n hx hb dX7_settle_100 rfl (lv_at hl 0 rfl) ?_
  refine lv_iconst (v := 0) hx hb dX7_settle_101 (by decide) ?_
  refine xp_24_2 C hW h fl_X7_41 dX7_settle_102 (fun S1 H locs h hW => ?_)
  refine lv_iconst (v := 0) hx hb dX7_settle_105 (by decide) ?_
  refine lv_istore_n (lv' := [(3, .int (0 : Int32)), (0, .ref (ad 24))]) hx hb dX7_settle_106 rfl hl (by decide) rfl (fun ls hl => ?_)
  exact w_X7_settle_24_b107 (F := F) C F _ _ _ _ _ h hW (lv_sub hl [1, 0] rfl)
def n_X7_settle_24_b84 (F : Nat) (rc52 : Zs → Int32 → Int32 → Int32 → Option (Int32 × Zs)) (S : Zs) (x1 : Int32) (x2 : Int32) (x3 : Int32) : Option (Int32 × Zs) :=
  zlet (x3 + (1 : Int32)) (fun v1 => rc52 S x1 x2 v1)
set_option maxRecDepth 20000 in
set_option maxHeartbeats 4000000 in
theorem w_X7_settle_24_b84 {F : Nat} {q : (Int32 × Zs)} {S : Zs} {rc52 : Zs → Int32 → Int32 → Int32 → Option (Int32 × Zs)} {x1 : Int32} {x2 : Int32} {x3 : Int32} {ls : Array Slot} {H : Heap} {locs : List Loc} (C : zC p s m args meth c cX7_settle 4 RX7 none) (hrc52 : ∀ (S : Zs) (x1 : Int32) (x2 : Int32) (x3 : Int32) (H : Heap) (locs : List Loc) (ls : Array Slot), rc52 S x1 x2 x3 = some q → zW (xG D cs ad) s S H locs → lv_has ls 4 [(0, .ref (ad 24)), (1, .int x1), (2, .int x2), (3, .int x3)] → W p l e (zR 2 48) s m args below meth c H locs 0 0 (zQv (xG D cs ad) q below args s) (F0 m 52 ls [])) (h : n_X7_settle_24_b84 F rc52 S x1 x2 x3 = some q) (hW : zW (xG D cs ad) s S H locs) (hl : lv_has ls 4 [(0, .ref (ad 24)), (1, .int x1), (2, .int x2), (3, .int x3)]) : W p l e (zR 2 48) s m args below meth c H locs 0 0 (zQv (xG D cs ad) q below args s) (F0 m 84 ls []) := by
  unfold n_X7_settle_24_b84 at h
  obtain ⟨hx, hb, hml, hown, hts, hret, hlk⟩ := id C
  obtain ⟨v1, ev1, h⟩ := zz_name h
  refine lv_iinc (v := v1) (lv' := [(3, .int v1), (0, .ref (ad 24)), (1, .int x1), (2, .int x2)]) hx hb dX7_settle_84 hl (k := 3) rfl ev1.symm (by decide) rfl (fun ls hl => ?_)
  refine lv_goto (tgt := 52) hx hb dX7_settle_87 (by decide) ?_
  exact hrc52 _ _ _ _ _ _ _ h hW (lv_sub hl [1, 2, 3, 0] rfl)
def n_X7_settle_24_b52_l (F : Nat) (rc52 : Zs → Int32 → Int32 → Int32 → Option (Int32 × Zs)) (S : Zs) (x1 : Int32) (x2 : Int32) (x3 : Int32) : Option (Int32 × Zs) :=
  zgf S 62 (fun v1 => if v1 ≤ x3 then (if x2 = (-1 : Int32) then (n_X7_settle_24_b100 F  S ) else (zcl (n_X7_exclude_24 F S x2) (fun v3 S2 => n_X7_settle_24_b100 F  S2 ))) else (if ((x1 >>> (x3 &&& 31)) &&& (1 : Int32)) = 0 then (n_X7_settle_24_b84 F rc52 S x1 x2 x3) else (zld S 4 16 x3 (fun v4 => zcl (n_X7_exclude_24 F S v4) (fun v6 S5 => n_X7_settle_24_b84 F rc52 S5 x1 x2 x3)))))
set_option maxRecDepth 20000 in
set_option maxHeartbeats 4000000 in
theorem w_X7_settle_24_b52_l {F : Nat} {q : (Int32 × Zs)} {S : Zs} {rc52 : Zs → Int32 → Int32 → Int32 → Option (Int32 × Zs)} {x1 : Int32} {x2 : Int32} {x3 : Int32} {ls : Array Slot} {H : Heap} {locs : List Loc} (C : zC p s m args meth c cX7_settle 4 RX7 none) (hrc52 : ∀ (S : Zs) (x1 : Int32) (x2 : Int32) (x3 : Int32) (H : Heap) (locs : List Loc) (ls : Array Slot), rc52 S x1 x2 x3 = some q → zW (xG D cs ad) s S H locs → lv_has ls 4 [(0, .ref (ad 24)), (1, .int x1), (2, .int x2), (3, .int x3)] → W p l e (zR 2 48) s m args below meth c H locs 0 0 (zQv (xG D cs ad) q below args s) (F0 m 52 ls [])) (h : n_X7_settle_24_b52_l F rc52 S x1 x2 x3 = some q) (hW : zW (xG D cs ad) s S H locs) (hl : lv_has ls 4 [(0, .ref (ad 24)), (1, .int x1), (2, .int x2), (3, .int x3)]) : W p l e (zR 2 48) s m args below meth c H locs 0 0 (zQv (xG D cs ad) q below args s) (F0 m 52 ls []) := by
  unfold n_X7_settle_24_b52_l at h
  obtain ⟨hx, hb, hml, hown, hts, hret, hlk⟩ := id C
  refine lv_iload_n hx hb dX7_settle_52 rfl (lv_at hl 3 rfl) ?_
  refine lv_aload_n hx hb dX7_settle_53 rfl (lv_at hl 0 rfl) ?_
  refine xg_24_0 C hW fl_X7_22 dX7_settle_54 ?_
  refine xg_3_2 C hW h fl_X7_28 dX7_settle_57 (fun v1 h => ?_)
  refine zz_cge (tgt := 90) C h dX7_settle_60 (by decide) (fun h => ?_) (fun h => ?_)
  · refine lv_iload_n hx hb dX7_settle_90 rfl (lv_at hl 2 rfl) ?_
    refine lv_iconst (v := -1) hx hb dX7_settle_91 (by decide) ?_
    refine zz_ceq (tgt := 100) C h dX7_settle_92 (by decide) (fun h => ?_) (fun h => ?_)
    · exact w_X7_settle_24_b100 (F := F) C h hW (lv_sub hl [0] rfl)
    · refine lv_aload_n hx hb dX7_settle_95 rfl (lv_at hl 0 rfl) ?_
      refine lv_iload_n hx hb dX7_settle_96 rfl (lv_at hl 2 rfl) ?_
      refine zz_callVv (As := [.int x2]) C hW h (fun r hr => c_X7_exclude_24 hr) lk_X7_37 (hW.recv xr_24) rfl hl.1 ⟨rfl, rfl⟩ ⟨Nat.le_of_ble_eq_true rfl, Nat.le_of_ble_eq_true rfl⟩ (Nat.le_of_ble_eq_true rfl) ⟨Nat.zero_le _, Nat.zero_le _⟩ rfl dX7_settle_97 (fun v3 S2 H locs h hW => ?_)
      exact w_X7_settle_24_b100 (F := F) C h hW (lv_sub hl [0] rfl)
  · refine lv_iload_n hx hb dX7_settle_63 rfl (lv_at hl 1 rfl) ?_
    refine lv_iload_n hx hb dX7_settle_64 rfl (lv_at hl 3 rfl) ?_
    refine lv_ishr hx hb dX7_settle_65 ?_
    refine lv_iconst (v := 1) hx hb dX7_settle_66 (by decide) ?_
    refine lv_iand hx hb dX7_settle_67 ?_
    refine zz_ieq (tgt := 84) C h dX7_settle_68 (by decide) (fun h => ?_) (fun h => ?_)
    · exact w_X7_settle_24_b84 (F := F) C hrc52 h hW (lv_sub hl [0, 1, 2, 3] rfl)
    · refine lv_aload_n hx hb dX7_settle_71 rfl (lv_at hl 0 rfl) ?_
      refine lv_aload_n hx hb dX7_settle_72 rfl (lv_at hl 0 rfl) ?_
      refine xg_24_0 C hW fl_X7_22 dX7_settle_73 ?_
      refine xg_3_0 C hW fl_X7_33 dX7_settle_76 ?_
      refine lv_iload_n hx hb dX7_settle_79 rfl (lv_at hl 3 rfl) ?_
      refine xl_4 C hW h dX7_settle_80 (fun v4 h => ?_)
      refine zz_callVv (As := [.int v4]) C hW h (fun r hr => c_X7_exclude_24 hr) lk_X7_37 (hW.recv xr_24) rfl hl.1 ⟨rfl, rfl⟩ ⟨Nat.le_of_ble_eq_true rfl, Nat.le_of_ble_eq_true rfl⟩ (Nat.le_of_ble_eq_true rfl) ⟨Nat.zero_le _, Nat.zero_le _⟩ rfl dX7_settle_81 (fun v6 S5 H locs h hW => ?_)
      exact w_X7_settle_24_b84 (F := F) C hrc52 h hW (lv_sub hl [0, 1, 2, 3] rfl)
def n_X7_settle_24_b52 (F : Nat)  (S : Zs) (x1 : Int32) (x2 : Int32) (x3 : Int32) : Option (Int32 × Zs) :=
  zfix (fun (rc : (Zs × Int32 × Int32 × Int32) → Option (Int32 × Zs)) (u : (Zs × Int32 × Int32 × Int32)) => n_X7_settle_24_b52_l F  (fun S x1 x2 x3 => rc (S, x1, x2, x3)) u.1 u.2.1 u.2.2.1 u.2.2.2) F (S, x1, x2, x3)
theorem w_X7_settle_24_b52 {F : Nat} {q : (Int32 × Zs)}  (C : zC p s m args meth c cX7_settle 4 RX7 none)  : ∀ (n : Nat) (S : Zs) (x1 : Int32) (x2 : Int32) (x3 : Int32) (H : Heap) (locs : List Loc) (ls : Array Slot), zfix (fun (rc : (Zs × Int32 × Int32 × Int32) → Option (Int32 × Zs)) (u : (Zs × Int32 × Int32 × Int32)) => n_X7_settle_24_b52_l F  (fun S x1 x2 x3 => rc (S, x1, x2, x3)) u.1 u.2.1 u.2.2.1 u.2.2.2) n (S, x1, x2, x3) = some q → zW (xG D cs ad) s S H locs → lv_has ls 4 [(0, .ref (ad 24)), (1, .int x1), (2, .int x2), (3, .int x3)] → W p l e (zR 2 48) s m args below meth c H locs 0 0 (zQv (xG D cs ad) q below args s) (F0 m 52 ls []) := by
  intro n
  induction n with
  | zero => intro S x1 x2 x3 H locs ls h; exact absurd h (fun h => by cases h)
  | succ n ih => intro S x1 x2 x3 H locs ls h hW hl; exact w_X7_settle_24_b52_l (F := F) C (fun S x1 x2 x3 H locs ls h hW hl => ih S x1 x2 x3 H locs ls h hW hl) h hW hl
def n_X7_settle_24_b29_l (F : Nat) (rc29 : Zs → Int32 → Int32 → Int32 → Option (Int32 × Zs)) (S : Zs) (x1 : Int32) (x2 : Int32) (x3 : Int32) : Option (Int32 × Zs) :=
  if (64 : Int32) ≤ x3 then (n_X7_settle_24_b52 F  S x1 x2 (0 : Int32)) else (zstL S 64 x3 (-1 : Int64) (fun S1 => zlet (x3 + (1 : Int32)) (fun v2 => rc29 S1 x1 x2 v2)))
set_option maxRecDepth 20000 in
set_option maxHeartbeats 4000000 in
theorem w_X7_settle_24_b29_l {F : Nat} {q : (Int32 × Zs)} {S : Zs} {rc29 : Zs → Int32 → Int32 → Int32 → Option (Int32 × Zs)} {x1 : Int32} {x2 : Int32} {x3 : Int32} {ls : Array Slot} {H : Heap} {locs : List Loc} (C : zC p s m args meth c cX7_settle 4 RX7 none) (hrc29 : ∀ (S : Zs) (x1 : Int32) (x2 : Int32) (x3 : Int32) (H : Heap) (locs : List Loc) (ls : Array Slot), rc29 S x1 x2 x3 = some q → zW (xG D cs ad) s S H locs → lv_has ls 4 [(0, .ref (ad 24)), (1, .int x1), (2, .int x2), (3, .int x3)] → W p l e (zR 2 48) s m args below meth c H locs 0 0 (zQv (xG D cs ad) q below args s) (F0 m 29 ls [])) (h : n_X7_settle_24_b29_l F rc29 S x1 x2 x3 = some q) (hW : zW (xG D cs ad) s S H locs) (hl : lv_has ls 4 [(0, .ref (ad 24)), (1, .int x1), (2, .int x2), (3, .int x3)]) : W p l e (zR 2 48) s m args below meth c H locs 0 0 (zQv (xG D cs ad) q below args s) (F0 m 29 ls []) := by
  unfold n_X7_settle_24_b29_l at h
  obtain ⟨hx, hb, hml, hown, hts, hret, hlk⟩ := id C
  refine lv_iload_n hx hb dX7_settle_29 rfl (lv_at hl 3 rfl) ?_
  refine lv_bipush (v := 64) hx hb dX7_settle_30 (by decide) ?_
  refine zz_cge (tgt := 50) C h dX7_settle_32 (by decide) (fun h => ?_) (fun h => ?_)
  · refine lv_iconst (v := 0) hx hb dX7_settle_50 (by decide) ?_
    refine lv_istore_n (lv' := [(3, .int (0 : Int32)), (0, .ref (ad 24)), (1, .int x1), (2, .int x2)]) hx hb dX7_settle_51 rfl hl (by decide) rfl (fun ls hl => ?_)
    exact w_X7_settle_24_b52 (F := F) C F _ _ _ _ _ _ _ h hW (lv_sub hl [1, 2, 3, 0] rfl)
  · refine lv_aload_n hx hb dX7_settle_35 rfl (lv_at hl 0 rfl) ?_
    refine xg_24_1 C hW fl_X7_11 dX7_settle_36 ?_
    refine lv_iload_n hx hb dX7_settle_39 rfl (lv_at hl 3 rfl) ?_
    refine lv_ldc2 (v := -1) hx hb hown (hts _ ct_X7_26) dX7_settle_40 ?_
    refine xs_25 C hW h dX7_settle_43 (fun S1 H locs h hW => ?_)
    obtain ⟨v2, ev2, h⟩ := zz_name h
    refine lv_iinc (v := v2) (lv' := [(3, .int v2), (0, .ref (ad 24)), (1, .int x1), (2, .int x2)]) hx hb dX7_settle_44 hl (k := 3) rfl ev2.symm (by decide) rfl (fun ls hl => ?_)
    refine lv_goto (tgt := 29) hx hb dX7_settle_47 (by decide) ?_
    exact hrc29 _ _ _ _ _ _ _ h hW (lv_sub hl [1, 2, 3, 0] rfl)
def n_X7_settle_24_b29 (F : Nat)  (S : Zs) (x1 : Int32) (x2 : Int32) (x3 : Int32) : Option (Int32 × Zs) :=
  zfix (fun (rc : (Zs × Int32 × Int32 × Int32) → Option (Int32 × Zs)) (u : (Zs × Int32 × Int32 × Int32)) => n_X7_settle_24_b29_l F  (fun S x1 x2 x3 => rc (S, x1, x2, x3)) u.1 u.2.1 u.2.2.1 u.2.2.2) F (S, x1, x2, x3)
theorem w_X7_settle_24_b29 {F : Nat} {q : (Int32 × Zs)}  (C : zC p s m args meth c cX7_settle 4 RX7 none)  : ∀ (n : Nat) (S : Zs) (x1 : Int32) (x2 : Int32) (x3 : Int32) (H : Heap) (locs : List Loc) (ls : Array Slot), zfix (fun (rc : (Zs × Int32 × Int32 × Int32) → Option (Int32 × Zs)) (u : (Zs × Int32 × Int32 × Int32)) => n_X7_settle_24_b29_l F  (fun S x1 x2 x3 => rc (S, x1, x2, x3)) u.1 u.2.1 u.2.2.1 u.2.2.2) n (S, x1, x2, x3) = some q → zW (xG D cs ad) s S H locs → lv_has ls 4 [(0, .ref (ad 24)), (1, .int x1), (2, .int x2), (3, .int x3)] → W p l e (zR 2 48) s m args below meth c H locs 0 0 (zQv (xG D cs ad) q below args s) (F0 m 29 ls []) := by
  intro n
  induction n with
  | zero => intro S x1 x2 x3 H locs ls h; exact absurd h (fun h => by cases h)
  | succ n ih => intro S x1 x2 x3 H locs ls h hW hl; exact w_X7_settle_24_b29_l (F := F) C (fun S x1 x2 x3 H locs ls h hW hl => ih S x1 x2 x3 H locs ls h hW hl) h hW hl
def n_X7_settle_24_b17 (F : Nat)  (S : Zs) (x1 : Int32) (x2 : Int32) : Option (Int32 × Zs) :=
  zpf S 483 x1 (fun S1 => zpf S1 484 x2 (fun S2 => n_X7_settle_24_b29 F  S2 x1 x2 (0 : Int32)))
set_option maxRecDepth 20000 in
set_option maxHeartbeats 4000000 in
theorem w_X7_settle_24_b17 {F : Nat} {q : (Int32 × Zs)} {S : Zs}  {x1 : Int32} {x2 : Int32} {ls : Array Slot} {H : Heap} {locs : List Loc} (C : zC p s m args meth c cX7_settle 4 RX7 none)  (h : n_X7_settle_24_b17 F  S x1 x2 = some q) (hW : zW (xG D cs ad) s S H locs) (hl : lv_has ls 4 [(0, .ref (ad 24)), (1, .int x1), (2, .int x2)]) : W p l e (zR 2 48) s m args below meth c H locs 0 0 (zQv (xG D cs ad) q below args s) (F0 m 17 ls []) := by
  unfold n_X7_settle_24_b17 at h
  obtain ⟨hx, hb, hml, hown, hts, hret, hlk⟩ := id C
  refine lv_aload_n hx hb dX7_settle_17 rfl (lv_at hl 0 rfl) ?_
  refine lv_iload_n hx hb dX7_settle_18 rfl (lv_at hl 1 rfl) ?_
  refine xp_24_3 C hW h fl_X7_15 dX7_settle_19 (fun S1 H locs h hW => ?_)
  refine lv_aload_n hx hb dX7_settle_22 rfl (lv_at hl 0 rfl) ?_
  refine lv_iload_n hx hb dX7_settle_23 rfl (lv_at hl 2 rfl) ?_
  refine xp_24_4 C hW h fl_X7_19 dX7_settle_24 (fun S2 H locs h hW => ?_)
  refine lv_iconst (v := 0) hx hb dX7_settle_27 (by decide) ?_
  refine lv_istore_n (lv' := [(3, .int (0 : Int32)), (0, .ref (ad 24)), (1, .int x1), (2, .int x2)]) hx hb dX7_settle_28 rfl hl (by decide) rfl (fun ls hl => ?_)
  exact w_X7_settle_24_b29 (F := F) C F _ _ _ _ _ _ _ h hW (lv_sub hl [1, 2, 3, 0] rfl)
def n_X7_settle_24_e (F : Nat)  (S : Zs) (x1 : Int32) (x2 : Int32) : Option (Int32 × Zs) :=
  zgf S 483 (fun v1 => if v1 = x1 then (zgf S 484 (fun v2 => if v2 = x2 then (some (0, S)) else (n_X7_settle_24_b17 F  S x1 x2))) else (n_X7_settle_24_b17 F  S x1 x2))
set_option maxRecDepth 20000 in
set_option maxHeartbeats 4000000 in
theorem w_X7_settle_24_e {F : Nat} {q : (Int32 × Zs)} {S : Zs}  {x1 : Int32} {x2 : Int32} {ls : Array Slot} {H : Heap} {locs : List Loc} (C : zC p s m args meth c cX7_settle 4 RX7 none)  (h : n_X7_settle_24_e F  S x1 x2 = some q) (hW : zW (xG D cs ad) s S H locs) (hl : lv_has ls 4 [(0, .ref (ad 24)), (1, .int x1), (2, .int x2)]) : W p l e (zR 2 48) s m args below meth c H locs 0 0 (zQv (xG D cs ad) q below args s) (F0 m 0 ls []) := by
  unfold n_X7_settle_24_e at h
  obtain ⟨hx, hb, hml, hown, hts, hret, hlk⟩ := id C
  refine lv_aload_n hx hb dX7_settle_0 rfl (lv_at hl 0 rfl) ?_
  refine xg_24_3 C hW h fl_X7_15 dX7_settle_1 (fun v1 h => ?_)
  refine lv_iload_n hx hb dX7_settle_4 rfl (lv_at hl 1 rfl) ?_
  refine zz_cne (tgt := 17) C h dX7_settle_5 (by decide) (fun h => ?_) (fun h => ?_)
  · exact w_X7_settle_24_b17 (F := F) C h hW (lv_sub hl [0, 1, 2] rfl)
  · refine lv_aload_n hx hb dX7_settle_8 rfl (lv_at hl 0 rfl) ?_
    refine xg_24_4 C hW h fl_X7_19 dX7_settle_9 (fun v2 h => ?_)
    refine lv_iload_n hx hb dX7_settle_12 rfl (lv_at hl 2 rfl) ?_
    refine zz_cne (tgt := 17) C h dX7_settle_13 (by decide) (fun h => ?_) (fun h => ?_)
    · exact w_X7_settle_24_b17 (F := F) C h hW (lv_sub hl [0, 1, 2] rfl)
    · exact zz_vret C rfl h hW dX7_settle_16
def n_X7_settle_24 (F : Nat) (S : Zs) (x1 : Int32) (x2 : Int32) : Option (Int32 × Zs) := n_X7_settle_24_e F  S x1 x2
theorem c_X7_settle_24 {l : Launch} {D : va_G} {cs ad : Nat → Nat} {F : Nat} {S : Zs} {x1 : Int32} {x2 : Int32} {q : (Int32 × Zs)} (h : n_X7_settle_24 F S x1 x2 = some q) : zMv l yX7_settle cX7_settle 4 none (zR 2 48) (xG D cs ad) [.ref (ad 24), .int x1, .int x2] S q :=
  zz_enter (by decide) (Nat.le_of_ble_eq_true rfl) (fun p e s m below meth c ls C hW hl => w_X7_settle_24_e (F := F) C h hW (lv_sub hl [0, 1, 2] rfl))
def n_X11_sorts_0_e (F : Nat)  (S : Zs)  : Option (Int32 × Zs) :=
  zcl (n_X2_active_3 F S ) (fun v2 S1 => zcl (n_X7_settle_24 F S1 v2 (-1 : Int32)) (fun v4 S3 => zgf S3 482 (fun v5 => some (v5, S3))))
set_option maxRecDepth 20000 in
set_option maxHeartbeats 4000000 in
theorem w_X11_sorts_0_e {F : Nat} {q : (Int32 × Zs)} {S : Zs}   {ls : Array Slot} {H : Heap} {locs : List Loc} (C : zC p s m args meth c cX11_sorts 1 RX11 (some .int))  (h : n_X11_sorts_0_e F  S  = some q) (hW : zW (xG D cs ad) s S H locs) (hl : lv_has ls 1 [(0, .ref (ad 0))]) : W p l e (zR 3 71) s m args below meth c H locs 0 0 (zQi (xG D cs ad) q below args s) (F0 m 0 ls []) := by
  unfold n_X11_sorts_0_e at h
  obtain ⟨hx, hb, hml, hown, hts, hret, hlk⟩ := id C
  refine lv_aload_n hx hb dX11_sorts_0 rfl (lv_at hl 0 rfl) ?_
  refine xg_0_4 C hW fl_X11_44 dX11_sorts_1 ?_
  refine lv_aload_n hx hb dX11_sorts_4 rfl (lv_at hl 0 rfl) ?_
  refine xg_0_1 C hW fl_X11_27 dX11_sorts_5 ?_
  refine zz_callVi (As := []) C hW h (fun r hr => c_X2_active_3 hr) lk_X11_144 (hW.recv xr_3) rfl hl.1 ⟨rfl, rfl⟩ ⟨Nat.le_of_ble_eq_true rfl, Nat.le_of_ble_eq_true rfl⟩ (Nat.le_of_ble_eq_true rfl) ⟨Nat.zero_le _, Nat.zero_le _⟩ rfl dX11_sorts_8 (fun v2 S1 H locs h hW => ?_)
  refine lv_iconst (v := -1) hx hb dX11_sorts_11 (by decide) ?_
  refine zz_callVv (As := [.int v2, .int (-1 : Int32)]) C hW h (fun r hr => c_X7_settle_24 hr) lk_X11_199 (hW.recv xr_24) rfl hl.1 ⟨rfl, rfl⟩ ⟨Nat.le_of_ble_eq_true rfl, Nat.le_of_ble_eq_true rfl⟩ (Nat.le_of_ble_eq_true rfl) ⟨Nat.zero_le _, Nat.zero_le _⟩ rfl dX11_sorts_12 (fun v4 S3 H locs h hW => ?_)
  refine lv_aload_n hx hb dX11_sorts_15 rfl (lv_at hl 0 rfl) ?_
  refine xg_0_4 C hW fl_X11_44 dX11_sorts_16 ?_
  refine xg_24_2 C hW h fl_X11_203 dX11_sorts_19 (fun v5 h => ?_)
  exact zz_iret C rfl h hW dX11_sorts_22
def n_X11_sorts_0 (F : Nat) (S : Zs)  : Option (Int32 × Zs) := n_X11_sorts_0_e F  S 
theorem c_X11_sorts_0 {l : Launch} {D : va_G} {cs ad : Nat → Nat} {F : Nat} {S : Zs}  {q : (Int32 × Zs)} (h : n_X11_sorts_0 F S  = some q) : zMi l yX11_sorts cX11_sorts 1 (some .int) (zR 3 71) (xG D cs ad) [.ref (ad 0)] S q :=
  zz_enter (by decide) (Nat.le_of_ble_eq_true rfl) (fun p e s m below meth c ls C hW hl => w_X11_sorts_0_e (F := F) C h hW (lv_sub hl [0] rfl))
def n_X7_has_24_b26 (F : Nat)  (S : Zs) (t0 : Int32) : Option (Int32 × Zs) :=
  zrb t0 S
set_option maxRecDepth 20000 in
set_option maxHeartbeats 4000000 in
theorem w_X7_has_24_b26 {F : Nat} {q : (Int32 × Zs)} {S : Zs}  {t0 : Int32} {ls : Array Slot} {H : Heap} {locs : List Loc} (C : zC p s m args meth c cX7_has 2 RX7 (some .boolean))  (h : n_X7_has_24_b26 F  S t0 = some q) (hW : zW (xG D cs ad) s S H locs) (hl : lv_has ls 2 []) : W p l e (zR 0 0) s m args below meth c H locs 0 0 (zQi (xG D cs ad) q below args s) (F0 m 26 ls [.int t0]) := by
  unfold n_X7_has_24_b26 at h
  obtain ⟨hx, hb, hml, hown, hts, hret, hlk⟩ := id C
  exact zz_zret C rfl h hW dX7_has_26
def n_X7_has_24_e (F : Nat)  (S : Zs) (x1 : Int32) : Option (Int32 × Zs) :=
  zldL S 64 (x1 >>> ((6 : Int32) &&& 31)) (fun v1 => if (lg_cmp (((v1.toUInt64 >>> ((x1 &&& (63 : Int32)).toInt64.toUInt64 &&& Int64.toUInt64 63)).toInt64) &&& (1 : Int64)) (0 : Int64)) = 0 then (n_X7_has_24_b26 F  S (0 : Int32)) else (n_X7_has_24_b26 F  S (1 : Int32)))
set_option maxRecDepth 20000 in
set_option maxHeartbeats 4000000 in
theorem w_X7_has_24_e {F : Nat} {q : (Int32 × Zs)} {S : Zs}  {x1 : Int32} {ls : Array Slot} {H : Heap} {locs : List Loc} (C : zC p s m args meth c cX7_has 2 RX7 (some .boolean))  (h : n_X7_has_24_e F  S x1 = some q) (hW : zW (xG D cs ad) s S H locs) (hl : lv_has ls 2 [(0, .ref (ad 24)), (1, .int x1)]) : W p l e (zR 0 0) s m args below meth c H locs 0 0 (zQi (xG D cs ad) q below args s) (F0 m 0 ls []) := by
  unfold n_X7_has_24_e at h
  obtain ⟨hx, hb, hml, hown, hts, hret, hlk⟩ := id C
  refine lv_aload_n hx hb dX7_has_0 rfl (lv_at hl 0 rfl) ?_
  refine xg_24_1 C hW fl_X7_11 dX7_has_1 ?_
  refine lv_iload_n hx hb dX7_has_4 rfl (lv_at hl 1 rfl) ?_
  refine lv_bipush (v := 6) hx hb dX7_has_5 (by decide) ?_
  refine lv_ishr hx hb dX7_has_7 ?_
  refine xl_25 C hW h dX7_has_8 (fun v1 h => ?_)
  refine lv_iload_n hx hb dX7_has_9 rfl (lv_at hl 1 rfl) ?_
  refine lv_bipush (v := 63) hx hb dX7_has_10 (by decide) ?_
  refine lv_iand hx hb dX7_has_12 ?_
  refine lv_lushr hx hb dX7_has_13 rfl ?_
  refine lv_lconst (v := 1) hx hb dX7_has_14 (by decide) ?_
  refine lv_land hx hb dX7_has_15 ?_
  refine lv_lconst (v := 0) hx hb dX7_has_16 (by decide) ?_
  refine W.lcmp hx hb dX7_has_17 ?_
  refine zz_ieq (tgt := 25) C h dX7_has_18 (by decide) (fun h => ?_) (fun h => ?_)
  · refine lv_iconst (v := 0) hx hb dX7_has_25 (by decide) ?_
    exact w_X7_has_24_b26 (F := F) C h hW (lv_sub hl [] rfl)
  · refine lv_iconst (v := 1) hx hb dX7_has_21 (by decide) ?_
    refine lv_goto (tgt := 26) hx hb dX7_has_22 (by decide) ?_
    exact w_X7_has_24_b26 (F := F) C h hW (lv_sub hl [] rfl)
def n_X7_has_24 (F : Nat) (S : Zs) (x1 : Int32) : Option (Int32 × Zs) := n_X7_has_24_e F  S x1
theorem c_X7_has_24 {l : Launch} {D : va_G} {cs ad : Nat → Nat} {F : Nat} {S : Zs} {x1 : Int32} {q : (Int32 × Zs)} (h : n_X7_has_24 F S x1 = some q) : zMi l yX7_has cX7_has 2 (some .boolean) (zR 0 0) (xG D cs ad) [.ref (ad 24), .int x1] S q :=
  zz_enter (by decide) (Nat.le_of_ble_eq_true rfl) (fun p e s m below meth c ls C hW hl => w_X7_has_24_e (F := F) C h hW (lv_sub hl [0, 1] rfl))
def n_X7_numberedFrom_24_b40 (F : Nat) (rc8 : Zs → Int32 → Int32 → Int32 → Int32 → Option (Int32 × Zs)) (S : Zs) (x1 : Int32) (x2 : Int32) (x3 : Int32) (x4 : Int32) : Option (Int32 × Zs) :=
  zlet (x4 + (1 : Int32)) (fun v1 => rc8 S x1 x2 x3 v1)
set_option maxRecDepth 20000 in
set_option maxHeartbeats 4000000 in
theorem w_X7_numberedFrom_24_b40 {F : Nat} {q : (Int32 × Zs)} {S : Zs} {rc8 : Zs → Int32 → Int32 → Int32 → Int32 → Option (Int32 × Zs)} {x1 : Int32} {x2 : Int32} {x3 : Int32} {x4 : Int32} {ls : Array Slot} {H : Heap} {locs : List Loc} (C : zC p s m args meth c cX7_numberedFrom 5 RX7 (some .int)) (hrc8 : ∀ (S : Zs) (x1 : Int32) (x2 : Int32) (x3 : Int32) (x4 : Int32) (H : Heap) (locs : List Loc) (ls : Array Slot), rc8 S x1 x2 x3 x4 = some q → zW (xG D cs ad) s S H locs → lv_has ls 5 [(0, .ref (ad 24)), (1, .int x1), (2, .int x2), (3, .int x3), (4, .int x4)] → W p l e (zR 1 21) s m args below meth c H locs 0 0 (zQi (xG D cs ad) q below args s) (F0 m 8 ls [])) (h : n_X7_numberedFrom_24_b40 F rc8 S x1 x2 x3 x4 = some q) (hW : zW (xG D cs ad) s S H locs) (hl : lv_has ls 5 [(0, .ref (ad 24)), (1, .int x1), (2, .int x2), (3, .int x3), (4, .int x4)]) : W p l e (zR 1 21) s m args below meth c H locs 0 0 (zQi (xG D cs ad) q below args s) (F0 m 40 ls []) := by
  unfold n_X7_numberedFrom_24_b40 at h
  obtain ⟨hx, hb, hml, hown, hts, hret, hlk⟩ := id C
  obtain ⟨v1, ev1, h⟩ := zz_name h
  refine lv_iinc (v := v1) (lv' := [(4, .int v1), (0, .ref (ad 24)), (1, .int x1), (2, .int x2), (3, .int x3)]) hx hb dX7_numberedFrom_40 hl (k := 4) rfl ev1.symm (by decide) rfl (fun ls hl => ?_)
  refine lv_goto (tgt := 8) hx hb dX7_numberedFrom_43 (by decide) ?_
  exact hrc8 _ _ _ _ _ _ _ _ h hW (lv_sub hl [1, 2, 3, 4, 0] rfl)
def n_X7_numberedFrom_24_b8_l (F : Nat) (rc8 : Zs → Int32 → Int32 → Int32 → Int32 → Option (Int32 × Zs)) (S : Zs) (x1 : Int32) (x2 : Int32) (x3 : Int32) (x4 : Int32) : Option (Int32 × Zs) :=
  if (((64 : Int32) * x1) + (64 : Int32)) ≤ x4 then (some ((-2 : Int32), S)) else (zcl (n_X7_has_24 F S x4) (fun v2 S1 => if v2 = 0 then (n_X7_numberedFrom_24_b40 F rc8 S1 x1 x2 x3 x4) else (if x3 = x2 then (some (x4, S1)) else (zlet (x3 + (1 : Int32)) (fun v3 => n_X7_numberedFrom_24_b40 F rc8 S1 x1 x2 v3 x4)))))
set_option maxRecDepth 20000 in
set_option maxHeartbeats 4000000 in
theorem w_X7_numberedFrom_24_b8_l {F : Nat} {q : (Int32 × Zs)} {S : Zs} {rc8 : Zs → Int32 → Int32 → Int32 → Int32 → Option (Int32 × Zs)} {x1 : Int32} {x2 : Int32} {x3 : Int32} {x4 : Int32} {ls : Array Slot} {H : Heap} {locs : List Loc} (C : zC p s m args meth c cX7_numberedFrom 5 RX7 (some .int)) (hrc8 : ∀ (S : Zs) (x1 : Int32) (x2 : Int32) (x3 : Int32) (x4 : Int32) (H : Heap) (locs : List Loc) (ls : Array Slot), rc8 S x1 x2 x3 x4 = some q → zW (xG D cs ad) s S H locs → lv_has ls 5 [(0, .ref (ad 24)), (1, .int x1), (2, .int x2), (3, .int x3), (4, .int x4)] → W p l e (zR 1 21) s m args below meth c H locs 0 0 (zQi (xG D cs ad) q below args s) (F0 m 8 ls [])) (h : n_X7_numberedFrom_24_b8_l F rc8 S x1 x2 x3 x4 = some q) (hW : zW (xG D cs ad) s S H locs) (hl : lv_has ls 5 [(0, .ref (ad 24)), (1, .int x1), (2, .int x2), (3, .int x3), (4, .int x4)]) : W p l e (zR 1 21) s m args below meth c H locs 0 0 (zQi (xG D cs ad) q below args s) (F0 m 8 ls []) := by
  unfold n_X7_numberedFrom_24_b8_l at h
  obtain ⟨hx, hb, hml, hown, hts, hret, hlk⟩ := id C
  refine lv_iload hx hb dX7_numberedFrom_8 (lv_at hl 4 rfl) ?_
  refine lv_bipush (v := 64) hx hb dX7_numberedFrom_10 (by decide) ?_
  refine lv_iload_n hx hb dX7_numberedFrom_12 rfl (lv_at hl 1 rfl) ?_
  refine lv_imul hx hb dX7_numberedFrom_13 ?_
  refine lv_bipush (v := 64) hx hb dX7_numberedFrom_14 (by decide) ?_
  refine lv_iadd hx hb dX7_numberedFrom_16 ?_
  refine zz_cge (tgt := 46) C h dX7_numberedFrom_17 (by decide) (fun h => ?_) (fun h => ?_)
  · refine lv_bipush (v := -2) hx hb dX7_numberedFrom_46 (by decide) ?_
    exact zz_iret C rfl h hW dX7_numberedFrom_48
  · refine lv_aload_n hx hb dX7_numberedFrom_20 rfl (lv_at hl 0 rfl) ?_
    refine lv_iload hx hb dX7_numberedFrom_21 (lv_at hl 4 rfl) ?_
    refine zz_callVi (As := [.int x4]) C hW h (fun r hr => c_X7_has_24 hr) lk_X7_74 (hW.recv xr_24) rfl hl.1 ⟨rfl, rfl⟩ ⟨Nat.le_of_ble_eq_true rfl, Nat.le_of_ble_eq_true rfl⟩ (Nat.le_of_ble_eq_true rfl) ⟨Nat.zero_le _, Nat.zero_le _⟩ rfl dX7_numberedFrom_23 (fun v2 S1 H locs h hW => ?_)
    refine zz_ieq (tgt := 40) C h dX7_numberedFrom_26 (by decide) (fun h => ?_) (fun h => ?_)
    · exact w_X7_numberedFrom_24_b40 (F := F) C hrc8 h hW (lv_sub hl [0, 1, 2, 3, 4] rfl)
    · refine lv_iload_n hx hb dX7_numberedFrom_29 rfl (lv_at hl 3 rfl) ?_
      refine lv_iload_n hx hb dX7_numberedFrom_30 rfl (lv_at hl 2 rfl) ?_
      refine zz_cne (tgt := 37) C h dX7_numberedFrom_31 (by decide) (fun h => ?_) (fun h => ?_)
      · obtain ⟨v3, ev3, h⟩ := zz_name h
        refine lv_iinc (v := v3) (lv' := [(3, .int v3), (0, .ref (ad 24)), (1, .int x1), (2, .int x2), (4, .int x4)]) hx hb dX7_numberedFrom_37 hl (k := 3) rfl ev3.symm (by decide) rfl (fun ls hl => ?_)
        exact w_X7_numberedFrom_24_b40 (F := F) C hrc8 h hW (lv_sub hl [1, 2, 3, 0, 4] rfl)
      · refine lv_iload hx hb dX7_numberedFrom_34 (lv_at hl 4 rfl) ?_
        exact zz_iret C rfl h hW dX7_numberedFrom_36
def n_X7_numberedFrom_24_b8 (F : Nat)  (S : Zs) (x1 : Int32) (x2 : Int32) (x3 : Int32) (x4 : Int32) : Option (Int32 × Zs) :=
  zfix (fun (rc : (Zs × Int32 × Int32 × Int32 × Int32) → Option (Int32 × Zs)) (u : (Zs × Int32 × Int32 × Int32 × Int32)) => n_X7_numberedFrom_24_b8_l F  (fun S x1 x2 x3 x4 => rc (S, x1, x2, x3, x4)) u.1 u.2.1 u.2.2.1 u.2.2.2.1 u.2.2.2.2) F (S, x1, x2, x3, x4)
theorem w_X7_numberedFrom_24_b8 {F : Nat} {q : (Int32 × Zs)}  (C : zC p s m args meth c cX7_numberedFrom 5 RX7 (some .int))  : ∀ (n : Nat) (S : Zs) (x1 : Int32) (x2 : Int32) (x3 : Int32) (x4 : Int32) (H : Heap) (locs : List Loc) (ls : Array Slot), zfix (fun (rc : (Zs × Int32 × Int32 × Int32 × Int32) → Option (Int32 × Zs)) (u : (Zs × Int32 × Int32 × Int32 × Int32)) => n_X7_numberedFrom_24_b8_l F  (fun S x1 x2 x3 x4 => rc (S, x1, x2, x3, x4)) u.1 u.2.1 u.2.2.1 u.2.2.2.1 u.2.2.2.2) n (S, x1, x2, x3, x4) = some q → zW (xG D cs ad) s S H locs → lv_has ls 5 [(0, .ref (ad 24)), (1, .int x1), (2, .int x2), (3, .int x3), (4, .int x4)] → W p l e (zR 1 21) s m args below meth c H locs 0 0 (zQi (xG D cs ad) q below args s) (F0 m 8 ls []) := by
  intro n
  induction n with
  | zero => intro S x1 x2 x3 x4 H locs ls h; exact absurd h (fun h => by cases h)
  | succ n ih => intro S x1 x2 x3 x4 H locs ls h hW hl; exact w_X7_numberedFrom_24_b8_l (F := F) C (fun S x1 x2 x3 x4 H locs ls h hW hl => ih S x1 x2 x3 x4 H locs ls h hW hl) h hW hl
def n_X7_numberedFrom_24_e (F : Nat)  (S : Zs) (x1 : Int32) (x2 : Int32) : Option (Int32 × Zs) :=
  zlet ((64 : Int32) * x1) (fun v1 => n_X7_numberedFrom_24_b8 F  S x1 x2 (0 : Int32) v1)
set_option maxRecDepth 20000 in
set_option maxHeartbeats 4000000 in
theorem w_X7_numberedFrom_24_e {F : Nat} {q : (Int32 × Zs)} {S : Zs}  {x1 : Int32} {x2 : Int32} {ls : Array Slot} {H : Heap} {locs : List Loc} (C : zC p s m args meth c cX7_numberedFrom 5 RX7 (some .int))  (h : n_X7_numberedFrom_24_e F  S x1 x2 = some q) (hW : zW (xG D cs ad) s S H locs) (hl : lv_has ls 5 [(0, .ref (ad 24)), (1, .int x1), (2, .int x2)]) : W p l e (zR 1 21) s m args below meth c H locs 0 0 (zQi (xG D cs ad) q below args s) (F0 m 0 ls []) := by
  unfold n_X7_numberedFrom_24_e at h
  obtain ⟨hx, hb, hml, hown, hts, hret, hlk⟩ := id C
  refine lv_iconst (v := 0) hx hb dX7_numberedFrom_0 (by decide) ?_
  refine lv_istore_n (lv' := [(3, .int (0 : Int32)), (0, .ref (ad 24)), (1, .int x1), (2, .int x2)]) hx hb dX7_numberedFrom_1 rfl hl (by decide) rfl (fun ls hl => ?_)
  refine lv_bipush (v := 64) hx hb dX7_numberedFrom_2 (by decide) ?_
  refine lv_iload_n hx hb dX7_numberedFrom_4 rfl (lv_at hl 2 rfl) ?_
  refine lv_imul hx hb dX7_numberedFrom_5 ?_
  refine zz_leti h (fun v1 h => ?_)
  refine lv_istore (lv' := [(4, .int v1), (3, .int (0 : Int32)), (0, .ref (ad 24)), (1, .int x1), (2, .int x2)]) hx hb dX7_numberedFrom_6 hl (by decide) rfl (fun ls hl => ?_)
  exact w_X7_numberedFrom_24_b8 (F := F) C F _ _ _ _ _ _ _ _ h hW (lv_sub hl [2, 3, 4, 1, 0] rfl)
def n_X7_numberedFrom_24 (F : Nat) (S : Zs) (x1 : Int32) (x2 : Int32) : Option (Int32 × Zs) := n_X7_numberedFrom_24_e F  S x1 x2
theorem c_X7_numberedFrom_24 {l : Launch} {D : va_G} {cs ad : Nat → Nat} {F : Nat} {S : Zs} {x1 : Int32} {x2 : Int32} {q : (Int32 × Zs)} (h : n_X7_numberedFrom_24 F S x1 x2 = some q) : zMi l yX7_numberedFrom cX7_numberedFrom 5 (some .int) (zR 1 21) (xG D cs ad) [.ref (ad 24), .int x1, .int x2] S q :=
  zz_enter (by decide) (Nat.le_of_ble_eq_true rfl) (fun p e s m below meth c ls C hW hl => w_X7_numberedFrom_24_e (F := F) C h hW (lv_sub hl [0, 1, 2] rfl))
def n_X7_numbered_24_b4_l (F : Nat) (rc4 : Zs → Int32 → Int32 → Int32 → Option (Int32 × Zs)) (S : Zs) (x1 : Int32) (x2 : Int32) (x3 : Int32) : Option (Int32 × Zs) :=
  if (64 : Int32) ≤ x3 then (some ((-2 : Int32), S)) else (zldL S 64 x3 (fun v1 => zcl (n_J13_bitCount_95d88_x F S v1) (fun v3 S2 => if (x2 + v3) ≤ x1 then (zlet (x2 + v3) (fun v4 => zlet (x3 + (1 : Int32)) (fun v5 => rc4 S2 x1 v4 v5))) else (zcl (n_X7_numberedFrom_24 F S2 x3 (x1 - x2)) (fun v7 S6 => some (v7, S6))))))
set_option maxRecDepth 20000 in
set_option maxHeartbeats 4000000 in
theorem w_X7_numbered_24_b4_l {F : Nat} {q : (Int32 × Zs)} {S : Zs} {rc4 : Zs → Int32 → Int32 → Int32 → Option (Int32 × Zs)} {x1 : Int32} {x2 : Int32} {x3 : Int32} {ls : Array Slot} {H : Heap} {locs : List Loc} (C : zC p s m args meth c cX7_numbered 5 RX7 (some .int)) (hrc4 : ∀ (S : Zs) (x1 : Int32) (x2 : Int32) (x3 : Int32) (H : Heap) (locs : List Loc) (ls : Array Slot), rc4 S x1 x2 x3 = some q → zW (xG D cs ad) s S H locs → lv_has ls 5 [(0, .ref (ad 24)), (1, .int x1), (2, .int x2), (3, .int x3)] → W p l e (zR 2 45) s m args below meth c H locs 0 0 (zQi (xG D cs ad) q below args s) (F0 m 4 ls [])) (h : n_X7_numbered_24_b4_l F rc4 S x1 x2 x3 = some q) (hW : zW (xG D cs ad) s S H locs) (hl : lv_has ls 5 [(0, .ref (ad 24)), (1, .int x1), (2, .int x2), (3, .int x3)]) : W p l e (zR 2 45) s m args below meth c H locs 0 0 (zQi (xG D cs ad) q below args s) (F0 m 4 ls []) := by
  unfold n_X7_numbered_24_b4_l at h
  obtain ⟨hx, hb, hml, hown, hts, hret, hlk⟩ := id C
  refine lv_iload_n hx hb dX7_numbered_4 rfl (lv_at hl 3 rfl) ?_
  refine lv_bipush (v := 64) hx hb dX7_numbered_5 (by decide) ?_
  refine zz_cge (tgt := 49) C h dX7_numbered_7 (by decide) (fun h => ?_) (fun h => ?_)
  · refine lv_bipush (v := -2) hx hb dX7_numbered_49 (by decide) ?_
    exact zz_iret C rfl h hW dX7_numbered_51
  · refine lv_aload_n hx hb dX7_numbered_10 rfl (lv_at hl 0 rfl) ?_
    refine xg_24_1 C hW fl_X7_11 dX7_numbered_11 ?_
    refine lv_iload_n hx hb dX7_numbered_14 rfl (lv_at hl 3 rfl) ?_
    refine xl_25 C hW h dX7_numbered_15 (fun v1 h => ?_)
    refine zz_callSi (As := [.long v1]) C hW h (fun r hr => c_J13_bitCount_95d88_x hr) lk_X7_44 rfl hl.1 ⟨rfl, rfl⟩ ⟨Nat.le_of_ble_eq_true rfl, Nat.le_of_ble_eq_true rfl⟩ (Nat.le_of_ble_eq_true rfl) ⟨Nat.zero_le _, Nat.zero_le _⟩ rfl dX7_numbered_16 (fun v3 S2 H locs h hW => ?_)
    refine lv_istore (lv' := [(4, .int v3), (0, .ref (ad 24)), (1, .int x1), (2, .int x2), (3, .int x3)]) hx hb dX7_numbered_19 hl (by decide) rfl (fun ls hl => ?_)
    refine lv_iload_n hx hb dX7_numbered_21 rfl (lv_at hl 2 rfl) ?_
    refine lv_iload_n hx hb dX7_numbered_22 rfl (lv_at hl 3 rfl) ?_
    refine lv_iload hx hb dX7_numbered_23 (lv_at hl 0 rfl) ?_
    refine lv_iadd hx hb dX7_numbered_25 ?_
    refine zz_cge (tgt := 38) C h dX7_numbered_26 (by decide) (fun h => ?_) (fun h => ?_)
    · refine lv_iload_n hx hb dX7_numbered_38 rfl (lv_at hl 3 rfl) ?_
      refine lv_iload hx hb dX7_numbered_39 (lv_at hl 0 rfl) ?_
      refine lv_iadd hx hb dX7_numbered_41 ?_
      refine zz_leti h (fun v4 h => ?_)
      refine lv_istore_n (lv' := [(2, .int v4), (4, .int v3), (0, .ref (ad 24)), (1, .int x1), (3, .int x3)]) hx hb dX7_numbered_42 rfl hl (by decide) rfl (fun ls hl => ?_)
      obtain ⟨v5, ev5, h⟩ := zz_name h
      refine lv_iinc (v := v5) (lv' := [(3, .int v5), (2, .int v4), (4, .int v3), (0, .ref (ad 24)), (1, .int x1)]) hx hb dX7_numbered_43 hl (k := 4) rfl ev5.symm (by decide) rfl (fun ls hl => ?_)
      refine lv_goto (tgt := 4) hx hb dX7_numbered_46 (by decide) ?_
      exact hrc4 _ _ _ _ _ _ _ h hW (lv_sub hl [3, 4, 1, 0] rfl)
    · refine lv_aload_n hx hb dX7_numbered_29 rfl (lv_at hl 1 rfl) ?_
      refine lv_iload_n hx hb dX7_numbered_30 rfl (lv_at hl 4 rfl) ?_
      refine lv_iload_n hx hb dX7_numbered_31 rfl (lv_at hl 2 rfl) ?_
      refine lv_iload_n hx hb dX7_numbered_32 rfl (lv_at hl 3 rfl) ?_
      refine lv_isub hx hb dX7_numbered_33 ?_
      refine zz_callVi (As := [.int x3, .int (x1 - x2)]) C hW h (fun r hr => c_X7_numberedFrom_24 hr) lk_X7_70 (hW.recv xr_24) rfl hl.1 ⟨rfl, rfl⟩ ⟨Nat.le_of_ble_eq_true rfl, Nat.le_of_ble_eq_true rfl⟩ (Nat.le_of_ble_eq_true rfl) ⟨Nat.zero_le _, Nat.zero_le _⟩ rfl dX7_numbered_34 (fun v7 S6 H locs h hW => ?_)
      exact zz_iret C rfl h hW dX7_numbered_37
def n_X7_numbered_24_b4 (F : Nat)  (S : Zs) (x1 : Int32) (x2 : Int32) (x3 : Int32) : Option (Int32 × Zs) :=
  zfix (fun (rc : (Zs × Int32 × Int32 × Int32) → Option (Int32 × Zs)) (u : (Zs × Int32 × Int32 × Int32)) => n_X7_numbered_24_b4_l F  (fun S x1 x2 x3 => rc (S, x1, x2, x3)) u.1 u.2.1 u.2.2.1 u.2.2.2) F (S, x1, x2, x3)
theorem w_X7_numbered_24_b4 {F : Nat} {q : (Int32 × Zs)}  (C : zC p s m args meth c cX7_numbered 5 RX7 (some .int))  : ∀ (n : Nat) (S : Zs) (x1 : Int32) (x2 : Int32) (x3 : Int32) (H : Heap) (locs : List Loc) (ls : Array Slot), zfix (fun (rc : (Zs × Int32 × Int32 × Int32) → Option (Int32 × Zs)) (u : (Zs × Int32 × Int32 × Int32)) => n_X7_numbered_24_b4_l F  (fun S x1 x2 x3 => rc (S, x1, x2, x3)) u.1 u.2.1 u.2.2.1 u.2.2.2) n (S, x1, x2, x3) = some q → zW (xG D cs ad) s S H locs → lv_has ls 5 [(0, .ref (ad 24)), (1, .int x1), (2, .int x2), (3, .int x3)] → W p l e (zR 2 45) s m args below meth c H locs 0 0 (zQi (xG D cs ad) q below args s) (F0 m 4 ls []) := by
  intro n
  induction n with
  | zero => intro S x1 x2 x3 H locs ls h; exact absurd h (fun h => by cases h)
  | succ n ih => intro S x1 x2 x3 H locs ls h hW hl; exact w_X7_numbered_24_b4_l (F := F) C (fun S x1 x2 x3 H locs ls h hW hl => ih S x1 x2 x3 H locs ls h hW hl) h hW hl
def n_X7_numbered_24_e (F : Nat)  (S : Zs) (x1 : Int32) : Option (Int32 × Zs) :=
  n_X7_numbered_24_b4 F  S x1 (0 : Int32) (0 : Int32)
set_option maxRecDepth 20000 in
set_option maxHeartbeats 4000000 in
theorem w_X7_numbered_24_e {F : Nat} {q : (Int32 × Zs)} {S : Zs}  {x1 : Int32} {ls : Array Slot} {H : Heap} {locs : List Loc} (C : zC p s m args meth c cX7_numbered 5 RX7 (some .int))  (h : n_X7_numbered_24_e F  S x1 = some q) (hW : zW (xG D cs ad) s S H locs) (hl : lv_has ls 5 [(0, .ref (ad 24)), (1, .int x1)]) : W p l e (zR 2 45) s m args below meth c H locs 0 0 (zQi (xG D cs ad) q below args s) (F0 m 0 ls []) := by
  unfold n_X7_numbered_24_e at h
  obtain ⟨hx, hb, hml, hown, hts, hret, hlk⟩ := id C
  refine lv_iconst (v := 0) hx hb dX7_numbered_0 (by decide) ?_
  refine lv_istore_n (lv' := [(2, .int (0 : Int32)), (0, .ref (ad 24)), (1, .int x1)]) hx hb dX7_numbered_1 rfl hl (by decide) rfl (fun ls hl => ?_)
  refine lv_iconst (v := 0) hx hb dX7_numbered_2 (by decide) ?_
  refine lv_istore_n (lv' := [(3, .int (0 : Int32)), (2, .int (0 : Int32)), (0, .ref (ad 24)), (1, .int x1)]) hx hb dX7_numbered_3 rfl hl (by decide) rfl (fun ls hl => ?_)
  exact w_X7_numbered_24_b4 (F := F) C F _ _ _ _ _ _ _ h hW (lv_sub hl [2, 3, 1, 0] rfl)
def n_X7_numbered_24 (F : Nat) (S : Zs) (x1 : Int32) : Option (Int32 × Zs) := n_X7_numbered_24_e F  S x1
theorem c_X7_numbered_24 {l : Launch} {D : va_G} {cs ad : Nat → Nat} {F : Nat} {S : Zs} {x1 : Int32} {q : (Int32 × Zs)} (h : n_X7_numbered_24 F S x1 = some q) : zMi l yX7_numbered cX7_numbered 5 (some .int) (zR 2 45) (xG D cs ad) [.ref (ad 24), .int x1] S q :=
  zz_enter (by decide) (Nat.le_of_ble_eq_true rfl) (fun p e s m below meth c ls C hW hl => w_X7_numbered_24_e (F := F) C h hW (lv_sub hl [0, 1] rfl))
def n_X11_sort_0_e (F : Nat)  (S : Zs) (x1 : Int32) : Option (Int32 × Zs) :=
  if 0 ≤ x1 then (zcl (n_X2_active_3 F S ) (fun v2 S1 => zcl (n_X7_settle_24 F S1 v2 (-1 : Int32)) (fun v4 S3 => zcl (n_X7_numbered_24 F S3 x1) (fun v6 S5 => some (v6, S5))))) else (some ((-1 : Int32), S))
set_option maxRecDepth 20000 in
set_option maxHeartbeats 4000000 in
theorem w_X11_sort_0_e {F : Nat} {q : (Int32 × Zs)} {S : Zs}  {x1 : Int32} {ls : Array Slot} {H : Heap} {locs : List Loc} (C : zC p s m args meth c cX11_sort 2 RX11 (some .int))  (h : n_X11_sort_0_e F  S x1 = some q) (hW : zW (xG D cs ad) s S H locs) (hl : lv_has ls 2 [(0, .ref (ad 0)), (1, .int x1)]) : W p l e (zR 3 71) s m args below meth c H locs 0 0 (zQi (xG D cs ad) q below args s) (F0 m 0 ls []) := by
  unfold n_X11_sort_0_e at h
  obtain ⟨hx, hb, hml, hown, hts, hret, hlk⟩ := id C
  refine lv_iload_n hx hb dX11_sort_0 rfl (lv_at hl 1 rfl) ?_
  refine zz_ige (tgt := 6) C h dX11_sort_1 (by decide) (fun h => ?_) (fun h => ?_)
  · refine lv_aload_n hx hb dX11_sort_6 rfl (lv_at hl 0 rfl) ?_
    refine xg_0_4 C hW fl_X11_44 dX11_sort_7 ?_
    refine lv_aload_n hx hb dX11_sort_10 rfl (lv_at hl 0 rfl) ?_
    refine xg_0_1 C hW fl_X11_27 dX11_sort_11 ?_
    refine zz_callVi (As := []) C hW h (fun r hr => c_X2_active_3 hr) lk_X11_144 (hW.recv xr_3) rfl hl.1 ⟨rfl, rfl⟩ ⟨Nat.le_of_ble_eq_true rfl, Nat.le_of_ble_eq_true rfl⟩ (Nat.le_of_ble_eq_true rfl) ⟨Nat.zero_le _, Nat.zero_le _⟩ rfl dX11_sort_14 (fun v2 S1 H locs h hW => ?_)
    refine lv_iconst (v := -1) hx hb dX11_sort_17 (by decide) ?_
    refine zz_callVv (As := [.int v2, .int (-1 : Int32)]) C hW h (fun r hr => c_X7_settle_24 hr) lk_X11_199 (hW.recv xr_24) rfl hl.1 ⟨rfl, rfl⟩ ⟨Nat.le_of_ble_eq_true rfl, Nat.le_of_ble_eq_true rfl⟩ (Nat.le_of_ble_eq_true rfl) ⟨Nat.zero_le _, Nat.zero_le _⟩ rfl dX11_sort_18 (fun v4 S3 H locs h hW => ?_)
    refine lv_aload_n hx hb dX11_sort_21 rfl (lv_at hl 0 rfl) ?_
    refine xg_0_4 C hW fl_X11_44 dX11_sort_22 ?_
    refine lv_iload_n hx hb dX11_sort_25 rfl (lv_at hl 1 rfl) ?_
    refine zz_callVi (As := [.int x1]) C hW h (fun r hr => c_X7_numbered_24 hr) lk_X11_206 (hW.recv xr_24) rfl hl.1 ⟨rfl, rfl⟩ ⟨Nat.le_of_ble_eq_true rfl, Nat.le_of_ble_eq_true rfl⟩ (Nat.le_of_ble_eq_true rfl) ⟨Nat.zero_le _, Nat.zero_le _⟩ rfl dX11_sort_26 (fun v6 S5 H locs h hW => ?_)
    exact zz_iret C rfl h hW dX11_sort_29
  · refine lv_iconst (v := -1) hx hb dX11_sort_4 (by decide) ?_
    exact zz_iret C rfl h hW dX11_sort_5
def n_X11_sort_0 (F : Nat) (S : Zs) (x1 : Int32) : Option (Int32 × Zs) := n_X11_sort_0_e F  S x1
theorem c_X11_sort_0 {l : Launch} {D : va_G} {cs ad : Nat → Nat} {F : Nat} {S : Zs} {x1 : Int32} {q : (Int32 × Zs)} (h : n_X11_sort_0 F S x1 = some q) : zMi l yX11_sort cX11_sort 2 (some .int) (zR 3 71) (xG D cs ad) [.ref (ad 0), .int x1] S q :=
  zz_enter (by decide) (Nat.le_of_ble_eq_true rfl) (fun p e s m below meth c ls C hW hl => w_X11_sort_0_e (F := F) C h hW (lv_sub hl [0, 1] rfl))
def n_X7_ofBoth_24_b5_l (F : Nat) (rc5 : Zs → Int32 → Int32 → Int32 → Int32 → Option (Int32 × Zs)) (S : Zs) (x1 : Int32) (x2 : Int32) (x3 : Int32) (x4 : Int32) : Option (Int32 × Zs) :=
  if (64 : Int32) ≤ x4 then (some (x3, S)) else (zldL S 64 x4 (fun v1 => zcl (n_X7_members F S x1 x4) (fun v3 S2 => zcl (n_X7_members F S2 x2 x4) (fun v5 S4 => zcl (n_J13_bitCount_95d88_x F S4 ((v1 &&& v3) &&& v5)) (fun v7 S6 => zlet (x3 + v7) (fun v8 => zlet (x4 + (1 : Int32)) (fun v9 => rc5 S6 x1 x2 v8 v9)))))))
set_option maxRecDepth 20000 in
set_option maxHeartbeats 4000000 in
theorem w_X7_ofBoth_24_b5_l {F : Nat} {q : (Int32 × Zs)} {S : Zs} {rc5 : Zs → Int32 → Int32 → Int32 → Int32 → Option (Int32 × Zs)} {x1 : Int32} {x2 : Int32} {x3 : Int32} {x4 : Int32} {ls : Array Slot} {H : Heap} {locs : List Loc} (C : zC p s m args meth c cX7_ofBoth 5 RX7 (some .int)) (hrc5 : ∀ (S : Zs) (x1 : Int32) (x2 : Int32) (x3 : Int32) (x4 : Int32) (H : Heap) (locs : List Loc) (ls : Array Slot), rc5 S x1 x2 x3 x4 = some q → zW (xG D cs ad) s S H locs → lv_has ls 5 [(0, .ref (ad 24)), (1, .int x1), (2, .int x2), (3, .int x3), (4, .int x4)] → W p l e (zR 1 24) s m args below meth c H locs 0 0 (zQi (xG D cs ad) q below args s) (F0 m 5 ls [])) (h : n_X7_ofBoth_24_b5_l F rc5 S x1 x2 x3 x4 = some q) (hW : zW (xG D cs ad) s S H locs) (hl : lv_has ls 5 [(0, .ref (ad 24)), (1, .int x1), (2, .int x2), (3, .int x3), (4, .int x4)]) : W p l e (zR 1 24) s m args below meth c H locs 0 0 (zQi (xG D cs ad) q below args s) (F0 m 5 ls []) := by
  unfold n_X7_ofBoth_24_b5_l at h
  obtain ⟨hx, hb, hml, hown, hts, hret, hlk⟩ := id C
  refine lv_iload hx hb dX7_ofBoth_5 (lv_at hl 4 rfl) ?_
  refine lv_bipush (v := 64) hx hb dX7_ofBoth_7 (by decide) ?_
  refine zz_cge (tgt := 45) C h dX7_ofBoth_9 (by decide) (fun h => ?_) (fun h => ?_)
  · refine lv_iload_n hx hb dX7_ofBoth_45 rfl (lv_at hl 3 rfl) ?_
    exact zz_iret C rfl h hW dX7_ofBoth_46
  · refine lv_iload_n hx hb dX7_ofBoth_12 rfl (lv_at hl 3 rfl) ?_
    refine lv_aload_n hx hb dX7_ofBoth_13 rfl (lv_at hl 0 rfl) ?_
    refine xg_24_1 C hW fl_X7_11 dX7_ofBoth_14 ?_
    refine lv_iload hx hb dX7_ofBoth_17 (lv_at hl 4 rfl) ?_
    refine xl_25 C hW h dX7_ofBoth_19 (fun v1 h => ?_)
    refine lv_iload_n hx hb dX7_ofBoth_20 rfl (lv_at hl 1 rfl) ?_
    refine lv_iload hx hb dX7_ofBoth_21 (lv_at hl 4 rfl) ?_
    refine zz_callSl (As := [.int x1, .int x4]) C hW h (fun r hr => c_X7_members hr) lk_X7_63 rfl hl.1 ⟨rfl, rfl⟩ ⟨Nat.le_of_ble_eq_true rfl, Nat.le_of_ble_eq_true rfl⟩ (Nat.le_of_ble_eq_true rfl) ⟨Nat.zero_le _, Nat.zero_le _⟩ rfl dX7_ofBoth_23 (fun v3 S2 H locs h hW => ?_)
    refine lv_land hx hb dX7_ofBoth_26 ?_
    refine lv_iload_n hx hb dX7_ofBoth_27 rfl (lv_at hl 2 rfl) ?_
    refine lv_iload hx hb dX7_ofBoth_28 (lv_at hl 4 rfl) ?_
    refine zz_callSl (As := [.int x2, .int x4]) C hW h (fun r hr => c_X7_members hr) lk_X7_63 rfl hl.1 ⟨rfl, rfl⟩ ⟨Nat.le_of_ble_eq_true rfl, Nat.le_of_ble_eq_true rfl⟩ (Nat.le_of_ble_eq_true rfl) ⟨Nat.zero_le _, Nat.zero_le _⟩ rfl dX7_ofBoth_30 (fun v5 S4 H locs h hW => ?_)
    refine lv_land hx hb dX7_ofBoth_33 ?_
    refine zz_callSi (As := [.long ((v1 &&& v3) &&& v5)]) C hW h (fun r hr => c_J13_bitCount_95d88_x hr) lk_X7_44 rfl hl.1 ⟨rfl, rfl⟩ ⟨Nat.le_of_ble_eq_true rfl, Nat.le_of_ble_eq_true rfl⟩ (Nat.le_of_ble_eq_true rfl) ⟨Nat.zero_le _, Nat.zero_le _⟩ rfl dX7_ofBoth_34 (fun v7 S6 H locs h hW => ?_)
    refine lv_iadd hx hb dX7_ofBoth_37 ?_
    refine zz_leti h (fun v8 h => ?_)
    refine lv_istore_n (lv' := [(3, .int v8), (0, .ref (ad 24)), (1, .int x1), (2, .int x2), (4, .int x4)]) hx hb dX7_ofBoth_38 rfl hl (by decide) rfl (fun ls hl => ?_)
    obtain ⟨v9, ev9, h⟩ := zz_name h
    refine lv_iinc (v := v9) (lv' := [(4, .int v9), (3, .int v8), (0, .ref (ad 24)), (1, .int x1), (2, .int x2)]) hx hb dX7_ofBoth_39 hl (k := 4) rfl ev9.symm (by decide) rfl (fun ls hl => ?_)
    refine lv_goto (tgt := 5) hx hb dX7_ofBoth_42 (by decide) ?_
    exact hrc5 _ _ _ _ _ _ _ _ h hW (lv_sub hl [2, 3, 4, 1, 0] rfl)
def n_X7_ofBoth_24_b5 (F : Nat)  (S : Zs) (x1 : Int32) (x2 : Int32) (x3 : Int32) (x4 : Int32) : Option (Int32 × Zs) :=
  zfix (fun (rc : (Zs × Int32 × Int32 × Int32 × Int32) → Option (Int32 × Zs)) (u : (Zs × Int32 × Int32 × Int32 × Int32)) => n_X7_ofBoth_24_b5_l F  (fun S x1 x2 x3 x4 => rc (S, x1, x2, x3, x4)) u.1 u.2.1 u.2.2.1 u.2.2.2.1 u.2.2.2.2) F (S, x1, x2, x3, x4)
theorem w_X7_ofBoth_24_b5 {F : Nat} {q : (Int32 × Zs)}  (C : zC p s m args meth c cX7_ofBoth 5 RX7 (some .int))  : ∀ (n : Nat) (S : Zs) (x1 : Int32) (x2 : Int32) (x3 : Int32) (x4 : Int32) (H : Heap) (locs : List Loc) (ls : Array Slot), zfix (fun (rc : (Zs × Int32 × Int32 × Int32 × Int32) → Option (Int32 × Zs)) (u : (Zs × Int32 × Int32 × Int32 × Int32)) => n_X7_ofBoth_24_b5_l F  (fun S x1 x2 x3 x4 => rc (S, x1, x2, x3, x4)) u.1 u.2.1 u.2.2.1 u.2.2.2.1 u.2.2.2.2) n (S, x1, x2, x3, x4) = some q → zW (xG D cs ad) s S H locs → lv_has ls 5 [(0, .ref (ad 24)), (1, .int x1), (2, .int x2), (3, .int x3), (4, .int x4)] → W p l e (zR 1 24) s m args below meth c H locs 0 0 (zQi (xG D cs ad) q below args s) (F0 m 5 ls []) := by
  intro n
  induction n with
  | zero => intro S x1 x2 x3 x4 H locs ls h; exact absurd h (fun h => by cases h)
  | succ n ih => intro S x1 x2 x3 x4 H locs ls h hW hl; exact w_X7_ofBoth_24_b5_l (F := F) C (fun S x1 x2 x3 x4 H locs ls h hW hl => ih S x1 x2 x3 x4 H locs ls h hW hl) h hW hl
def n_X7_ofBoth_24_e (F : Nat)  (S : Zs) (x1 : Int32) (x2 : Int32) : Option (Int32 × Zs) :=
  n_X7_ofBoth_24_b5 F  S x1 x2 (0 : Int32) (0 : Int32)
set_option maxRecDepth 20000 in
set_option maxHeartbeats 4000000 in
theorem w_X7_ofBoth_24_e {F : Nat} {q : (Int32 × Zs)} {S : Zs}  {x1 : Int32} {x2 : Int32} {ls : Array Slot} {H : Heap} {locs : List Loc} (C : zC p s m args meth c cX7_ofBoth 5 RX7 (some .int))  (h : n_X7_ofBoth_24_e F  S x1 x2 = some q) (hW : zW (xG D cs ad) s S H locs) (hl : lv_has ls 5 [(0, .ref (ad 24)), (1, .int x1), (2, .int x2)]) : W p l e (zR 1 24) s m args below meth c H locs 0 0 (zQi (xG D cs ad) q below args s) (F0 m 0 ls []) := by
  unfold n_X7_ofBoth_24_e at h
  obtain ⟨hx, hb, hml, hown, hts, hret, hlk⟩ := id C
  refine lv_iconst (v := 0) hx hb dX7_ofBoth_0 (by decide) ?_
  refine lv_istore_n (lv' := [(3, .int (0 : Int32)), (0, .ref (ad 24)), (1, .int x1), (2, .int x2)]) hx hb dX7_ofBoth_1 rfl hl (by decide) rfl (fun ls hl => ?_)
  refine lv_iconst (v := 0) hx hb dX7_ofBoth_2 (by decide) ?_
  refine lv_istore (lv' := [(4, .int (0 : Int32)), (3, .int (0 : Int32)), (0, .ref (ad 24)), (1, .int x1), (2, .int x2)]) hx hb dX7_ofBoth_3 hl (by decide) rfl (fun ls hl => ?_)
  exact w_X7_ofBoth_24_b5 (F := F) C F _ _ _ _ _ _ _ _ h hW (lv_sub hl [2, 3, 4, 1, 0] rfl)
def n_X7_ofBoth_24 (F : Nat) (S : Zs) (x1 : Int32) (x2 : Int32) : Option (Int32 × Zs) := n_X7_ofBoth_24_e F  S x1 x2
theorem c_X7_ofBoth_24 {l : Launch} {D : va_G} {cs ad : Nat → Nat} {F : Nat} {S : Zs} {x1 : Int32} {x2 : Int32} {q : (Int32 × Zs)} (h : n_X7_ofBoth_24 F S x1 x2 = some q) : zMi l yX7_ofBoth cX7_ofBoth 5 (some .int) (zR 1 24) (xG D cs ad) [.ref (ad 24), .int x1, .int x2] S q :=
  zz_enter (by decide) (Nat.le_of_ble_eq_true rfl) (fun p e s m below meth c ls C hW hl => w_X7_ofBoth_24_e (F := F) C h hW (lv_sub hl [0, 1, 2] rfl))
def n_X11_both_0_b14 (F : Nat)  (S : Zs)  : Option (Int32 × Zs) :=
  some ((-1 : Int32), S)
set_option maxRecDepth 20000 in
set_option maxHeartbeats 4000000 in
theorem w_X11_both_0_b14 {F : Nat} {q : (Int32 × Zs)} {S : Zs}   {ls : Array Slot} {H : Heap} {locs : List Loc} (C : zC p s m args meth c cX11_both 3 RX11 (some .int))  (h : n_X11_both_0_b14 F  S  = some q) (hW : zW (xG D cs ad) s S H locs) (hl : lv_has ls 3 []) : W p l e (zR 3 71) s m args below meth c H locs 0 0 (zQi (xG D cs ad) q below args s) (F0 m 14 ls []) := by
  unfold n_X11_both_0_b14 at h
  obtain ⟨hx, hb, hml, hown, hts, hret, hlk⟩ := id C
  refine lv_iconst (v := -1) hx hb dX11_both_14 (by decide) ?_
  exact zz_iret C rfl h hW dX11_both_15
def n_X11_both_0_e (F : Nat)  (S : Zs) (x1 : Int32) (x2 : Int32) : Option (Int32 × Zs) :=
  zcl (n_X0_isTerm F S x1) (fun v2 S1 => if v2 = 0 then (n_X11_both_0_b14 F  S1 ) else (zcl (n_X0_isTerm F S1 x2) (fun v4 S3 => if v4 = 0 then (n_X11_both_0_b14 F  S3 ) else (zcl (n_X2_active_3 F S3 ) (fun v6 S5 => zcl (n_X7_settle_24 F S5 v6 (-1 : Int32)) (fun v8 S7 => zcl (n_X7_ofBoth_24 F S7 x1 x2) (fun v10 S9 => some (v10, S9))))))))
set_option maxRecDepth 20000 in
set_option maxHeartbeats 4000000 in
theorem w_X11_both_0_e {F : Nat} {q : (Int32 × Zs)} {S : Zs}  {x1 : Int32} {x2 : Int32} {ls : Array Slot} {H : Heap} {locs : List Loc} (C : zC p s m args meth c cX11_both 3 RX11 (some .int))  (h : n_X11_both_0_e F  S x1 x2 = some q) (hW : zW (xG D cs ad) s S H locs) (hl : lv_has ls 3 [(0, .ref (ad 0)), (1, .int x1), (2, .int x2)]) : W p l e (zR 3 71) s m args below meth c H locs 0 0 (zQi (xG D cs ad) q below args s) (F0 m 0 ls []) := by
  unfold n_X11_both_0_e at h
  obtain ⟨hx, hb, hml, hown, hts, hret, hlk⟩ := id C
  refine lv_iload_n hx hb dX11_both_0 rfl (lv_at hl 1 rfl) ?_
  refine zz_callSi (As := [.int x1]) C hW h (fun r hr => c_X0_isTerm hr) lk_X11_186 rfl hl.1 ⟨rfl, rfl⟩ ⟨Nat.le_of_ble_eq_true rfl, Nat.le_of_ble_eq_true rfl⟩ (Nat.le_of_ble_eq_true rfl) ⟨Nat.zero_le _, Nat.zero_le _⟩ rfl dX11_both_1 (fun v2 S1 H locs h hW => ?_)
  refine zz_ieq (tgt := 14) C h dX11_both_4 (by decide) (fun h => ?_) (fun h => ?_)
  · exact w_X11_both_0_b14 (F := F) C h hW (lv_sub hl [] rfl)
  · refine lv_iload_n hx hb dX11_both_7 rfl (lv_at hl 2 rfl) ?_
    refine zz_callSi (As := [.int x2]) C hW h (fun r hr => c_X0_isTerm hr) lk_X11_186 rfl hl.1 ⟨rfl, rfl⟩ ⟨Nat.le_of_ble_eq_true rfl, Nat.le_of_ble_eq_true rfl⟩ (Nat.le_of_ble_eq_true rfl) ⟨Nat.zero_le _, Nat.zero_le _⟩ rfl dX11_both_8 (fun v4 S3 H locs h hW => ?_)
    refine zz_ine (tgt := 16) C h dX11_both_11 (by decide) (fun h => ?_) (fun h => ?_)
    · refine lv_aload_n hx hb dX11_both_16 rfl (lv_at hl 0 rfl) ?_
      refine xg_0_4 C hW fl_X11_44 dX11_both_17 ?_
      refine lv_aload_n hx hb dX11_both_20 rfl (lv_at hl 0 rfl) ?_
      refine xg_0_1 C hW fl_X11_27 dX11_both_21 ?_
      refine zz_callVi (As := []) C hW h (fun r hr => c_X2_active_3 hr) lk_X11_144 (hW.recv xr_3) rfl hl.1 ⟨rfl, rfl⟩ ⟨Nat.le_of_ble_eq_true rfl, Nat.le_of_ble_eq_true rfl⟩ (Nat.le_of_ble_eq_true rfl) ⟨Nat.zero_le _, Nat.zero_le _⟩ rfl dX11_both_24 (fun v6 S5 H locs h hW => ?_)
      refine lv_iconst (v := -1) hx hb dX11_both_27 (by decide) ?_
      refine zz_callVv (As := [.int v6, .int (-1 : Int32)]) C hW h (fun r hr => c_X7_settle_24 hr) lk_X11_199 (hW.recv xr_24) rfl hl.1 ⟨rfl, rfl⟩ ⟨Nat.le_of_ble_eq_true rfl, Nat.le_of_ble_eq_true rfl⟩ (Nat.le_of_ble_eq_true rfl) ⟨Nat.zero_le _, Nat.zero_le _⟩ rfl dX11_both_28 (fun v8 S7 H locs h hW => ?_)
      refine lv_aload_n hx hb dX11_both_31 rfl (lv_at hl 0 rfl) ?_
      refine xg_0_4 C hW fl_X11_44 dX11_both_32 ?_
      refine lv_iload_n hx hb dX11_both_35 rfl (lv_at hl 1 rfl) ?_
      refine lv_iload_n hx hb dX11_both_36 rfl (lv_at hl 2 rfl) ?_
      refine zz_callVi (As := [.int x1, .int x2]) C hW h (fun r hr => c_X7_ofBoth_24 hr) lk_X11_209 (hW.recv xr_24) rfl hl.1 ⟨rfl, rfl⟩ ⟨Nat.le_of_ble_eq_true rfl, Nat.le_of_ble_eq_true rfl⟩ (Nat.le_of_ble_eq_true rfl) ⟨Nat.zero_le _, Nat.zero_le _⟩ rfl dX11_both_37 (fun v10 S9 H locs h hW => ?_)
      exact zz_iret C rfl h hW dX11_both_40
    · exact w_X11_both_0_b14 (F := F) C h hW (lv_sub hl [] rfl)
def n_X11_both_0 (F : Nat) (S : Zs) (x1 : Int32) (x2 : Int32) : Option (Int32 × Zs) := n_X11_both_0_e F  S x1 x2
theorem c_X11_both_0 {l : Launch} {D : va_G} {cs ad : Nat → Nat} {F : Nat} {S : Zs} {x1 : Int32} {x2 : Int32} {q : (Int32 × Zs)} (h : n_X11_both_0 F S x1 x2 = some q) : zMi l yX11_both cX11_both 3 (some .int) (zR 3 71) (xG D cs ad) [.ref (ad 0), .int x1, .int x2] S q :=
  zz_enter (by decide) (Nat.le_of_ble_eq_true rfl) (fun p e s m below meth c ls C hW hl => w_X11_both_0_e (F := F) C h hW (lv_sub hl [0, 1, 2] rfl))
def n_X9_canBe_18_b37 (F : Nat)  (S : Zs) (t0 : Int32) : Option (Int32 × Zs) :=
  zrb t0 S
set_option maxRecDepth 20000 in
set_option maxHeartbeats 4000000 in
theorem w_X9_canBe_18_b37 {F : Nat} {q : (Int32 × Zs)} {S : Zs}  {t0 : Int32} {ls : Array Slot} {H : Heap} {locs : List Loc} (C : zC p s m args meth c cX9_canBe 4 RX9 (some .boolean))  (h : n_X9_canBe_18_b37 F  S t0 = some q) (hW : zW (xG D cs ad) s S H locs) (hl : lv_has ls 4 []) : W p l e (zR 0 0) s m args below meth c H locs 0 0 (zQi (xG D cs ad) q below args s) (F0 m 37 ls [.int t0]) := by
  unfold n_X9_canBe_18_b37 at h
  obtain ⟨hx, hb, hml, hown, hts, hret, hlk⟩ := id C
  exact zz_zret C rfl h hW dX9_canBe_37
def n_X9_canBe_18_b36 (F : Nat)  (S : Zs)  : Option (Int32 × Zs) :=
  n_X9_canBe_18_b37 F  S (0 : Int32)
set_option maxRecDepth 20000 in
set_option maxHeartbeats 4000000 in
theorem w_X9_canBe_18_b36 {F : Nat} {q : (Int32 × Zs)} {S : Zs}   {ls : Array Slot} {H : Heap} {locs : List Loc} (C : zC p s m args meth c cX9_canBe 4 RX9 (some .boolean))  (h : n_X9_canBe_18_b36 F  S  = some q) (hW : zW (xG D cs ad) s S H locs) (hl : lv_has ls 4 []) : W p l e (zR 0 0) s m args below meth c H locs 0 0 (zQi (xG D cs ad) q below args s) (F0 m 36 ls []) := by
  unfold n_X9_canBe_18_b36 at h
  obtain ⟨hx, hb, hml, hown, hts, hret, hlk⟩ := id C
  refine lv_iconst (v := 0) hx hb dX9_canBe_36 (by decide) ?_
  exact w_X9_canBe_18_b37 (F := F) C h hW (lv_sub hl [] rfl)
def n_X9_canBe_18_e (F : Nat)  (S : Zs) (x1 : Int32) (x2 : Int32) : Option (Int32 × Zs) :=
  zld S 19 24 x1 (fun v1 => zld S 19 24 x2 (fun v2 => zlet (v1 ||| v2) (fun v3 => zgf S 364 (fun v4 => if v4 = 0 then (if ((v3 &&& ((v3.toUInt32 >>> ((1 : Int32).toUInt32 &&& Int32.toUInt32 31)).toInt32)) &&& (5592405 : Int32)) = 0 then (n_X9_canBe_18_b37 F  S (1 : Int32)) else (n_X9_canBe_18_b36 F  S )) else (n_X9_canBe_18_b36 F  S )))))
set_option maxRecDepth 20000 in
set_option maxHeartbeats 4000000 in
theorem w_X9_canBe_18_e {F : Nat} {q : (Int32 × Zs)} {S : Zs}  {x1 : Int32} {x2 : Int32} {ls : Array Slot} {H : Heap} {locs : List Loc} (C : zC p s m args meth c cX9_canBe 4 RX9 (some .boolean))  (h : n_X9_canBe_18_e F  S x1 x2 = some q) (hW : zW (xG D cs ad) s S H locs) (hl : lv_has ls 4 [(0, .ref (ad 18)), (1, .int x1), (2, .int x2)]) : W p l e (zR 0 0) s m args below meth c H locs 0 0 (zQi (xG D cs ad) q below args s) (F0 m 0 ls []) := by
  unfold n_X9_canBe_18_e at h
  obtain ⟨hx, hb, hml, hown, hts, hret, hlk⟩ := id C
  refine lv_aload_n hx hb dX9_canBe_0 rfl (lv_at hl 0 rfl) ?_
  refine xg_18_0 C hW fl_X9_9 dX9_canBe_1 ?_
  refine lv_iload_n hx hb dX9_canBe_4 rfl (lv_at hl 1 rfl) ?_
  refine xl_19 C hW h dX9_canBe_5 (fun v1 h => ?_)
  refine lv_aload_n hx hb dX9_canBe_6 rfl (lv_at hl 0 rfl) ?_
  refine xg_18_0 C hW fl_X9_9 dX9_canBe_7 ?_
  refine lv_iload_n hx hb dX9_canBe_10 rfl (lv_at hl 2 rfl) ?_
  refine xl_19 C hW h dX9_canBe_11 (fun v2 h => ?_)
  refine lv_ior hx hb dX9_canBe_12 ?_
  refine zz_leti h (fun v3 h => ?_)
  refine lv_istore_n (lv' := [(3, .int v3), (0, .ref (ad 18)), (1, .int x1), (2, .int x2)]) hx hb dX9_canBe_13 rfl hl (by decide) rfl (fun ls hl => ?_)
  refine lv_aload_n hx hb dX9_canBe_14 rfl (lv_at hl 1 rfl) ?_
  refine xg_18_4 C hW h fl_X9_25 dX9_canBe_15 (fun v4 h => ?_)
  refine zz_ine (tgt := 36) C h dX9_canBe_18 (by decide) (fun h => ?_) (fun h => ?_)
  · exact w_X9_canBe_18_b36 (F := F) C h hW (lv_sub hl [] rfl)
  · refine lv_iload_n hx hb dX9_canBe_21 rfl (lv_at hl 0 rfl) ?_
    refine lv_iload_n hx hb dX9_canBe_22 rfl (lv_at hl 0 rfl) ?_
    refine lv_iconst (v := 1) hx hb dX9_canBe_23 (by decide) ?_
    refine lv_iushr hx hb dX9_canBe_24 rfl ?_
    refine lv_iand hx hb dX9_canBe_25 ?_
    refine lv_ldc (v := 5592405) hx hb hown (hts _ ct_X9_49) dX9_canBe_26 ?_
    refine lv_iand hx hb dX9_canBe_28 ?_
    refine zz_ine (tgt := 36) C h dX9_canBe_29 (by decide) (fun h => ?_) (fun h => ?_)
    · exact w_X9_canBe_18_b36 (F := F) C h hW (lv_sub hl [] rfl)
    · refine lv_iconst (v := 1) hx hb dX9_canBe_32 (by decide) ?_
      refine lv_goto (tgt := 37) hx hb dX9_canBe_33 (by decide) ?_
      exact w_X9_canBe_18_b37 (F := F) C h hW (lv_sub hl [] rfl)
def n_X9_canBe_18 (F : Nat) (S : Zs) (x1 : Int32) (x2 : Int32) : Option (Int32 × Zs) := n_X9_canBe_18_e F  S x1 x2
theorem c_X9_canBe_18 {l : Launch} {D : va_G} {cs ad : Nat → Nat} {F : Nat} {S : Zs} {x1 : Int32} {x2 : Int32} {q : (Int32 × Zs)} (h : n_X9_canBe_18 F S x1 x2 = some q) : zMi l yX9_canBe cX9_canBe 4 (some .boolean) (zR 0 0) (xG D cs ad) [.ref (ad 18), .int x1, .int x2] S q :=
  zz_enter (by decide) (Nat.le_of_ble_eq_true rfl) (fun p e s m below meth c ls C hW hl => w_X9_canBe_18_e (F := F) C h hW (lv_sub hl [0, 1, 2] rfl))
def n_X9_canShare_18_b81 (F : Nat)  (S : Zs) (t0 : Int32) : Option (Int32 × Zs) :=
  zrb t0 S
set_option maxRecDepth 20000 in
set_option maxHeartbeats 4000000 in
theorem w_X9_canShare_18_b81 {F : Nat} {q : (Int32 × Zs)} {S : Zs}  {t0 : Int32} {ls : Array Slot} {H : Heap} {locs : List Loc} (C : zC p s m args meth c cX9_canShare 3 RX9 (some .boolean))  (h : n_X9_canShare_18_b81 F  S t0 = some q) (hW : zW (xG D cs ad) s S H locs) (hl : lv_has ls 3 []) : W p l e (zR 1 23) s m args below meth c H locs 0 0 (zQi (xG D cs ad) q below args s) (F0 m 81 ls [.int t0]) := by
  unfold n_X9_canShare_18_b81 at h
  obtain ⟨hx, hb, hml, hown, hts, hret, hlk⟩ := id C
  exact zz_zret C rfl h hW dX9_canShare_81
def n_X9_canShare_18_b80 (F : Nat)  (S : Zs)  : Option (Int32 × Zs) :=
  n_X9_canShare_18_b81 F  S (0 : Int32)
set_option maxRecDepth 20000 in
set_option maxHeartbeats 4000000 in
theorem w_X9_canShare_18_b80 {F : Nat} {q : (Int32 × Zs)} {S : Zs}   {ls : Array Slot} {H : Heap} {locs : List Loc} (C : zC p s m args meth c cX9_canShare 3 RX9 (some .boolean))  (h : n_X9_canShare_18_b80 F  S  = some q) (hW : zW (xG D cs ad) s S H locs) (hl : lv_has ls 3 []) : W p l e (zR 1 23) s m args below meth c H locs 0 0 (zQi (xG D cs ad) q below args s) (F0 m 80 ls []) := by
  unfold n_X9_canShare_18_b80 at h
  obtain ⟨hx, hb, hml, hown, hts, hret, hlk⟩ := id C
  refine lv_iconst (v := 0) hx hb dX9_canShare_80 (by decide) ?_
  exact w_X9_canShare_18_b81 (F := F) C h hW (lv_sub hl [] rfl)
def n_X9_canShare_18_e (F : Nat)  (S : Zs) (x1 : Int32) (x2 : Int32) : Option (Int32 × Zs) :=
  zld S 20 29 x1 (fun v1 => zld S 20 29 x2 (fun v2 => zcl (n_X9_canBe_18 F S v1 v2) (fun v4 S3 => if v4 = 0 then (n_X9_canShare_18_b80 F  S3 ) else (zld S3 20 29 x1 (fun v5 => zld S3 21 29 x2 (fun v6 => zcl (n_X9_canBe_18 F S3 v5 v6) (fun v8 S7 => if v8 = 0 then (n_X9_canShare_18_b80 F  S7 ) else (zld S7 21 29 x1 (fun v9 => zld S7 20 29 x2 (fun v10 => zcl (n_X9_canBe_18 F S7 v9 v10) (fun v12 S11 => if v12 = 0 then (n_X9_canShare_18_b80 F  S11 ) else (zld S11 21 29 x1 (fun v13 => zld S11 21 29 x2 (fun v14 => zcl (n_X9_canBe_18 F S11 v13 v14) (fun v16 S15 => if v16 = 0 then (n_X9_canShare_18_b80 F  S15 ) else (n_X9_canShare_18_b81 F  S15 (1 : Int32)))))))))))))))))
set_option maxRecDepth 20000 in
set_option maxHeartbeats 4000000 in
theorem w_X9_canShare_18_e {F : Nat} {q : (Int32 × Zs)} {S : Zs}  {x1 : Int32} {x2 : Int32} {ls : Array Slot} {H : Heap} {locs : List Loc} (C : zC p s m args meth c cX9_canShare 3 RX9 (some .boolean))  (h : n_X9_canShare_18_e F  S x1 x2 = some q) (hW : zW (xG D cs ad) s S H locs) (hl : lv_has ls 3 [(0, .ref (ad 18)), (1, .int x1), (2, .int x2)]) : W p l e (zR 1 23) s m args below meth c H locs 0 0 (zQi (xG D cs ad) q below args s) (F0 m 0 ls []) := by
  unfold n_X9_canShare_18_e at h
  obtain ⟨hx, hb, hml, hown, hts, hret, hlk⟩ := id C
  refine lv_aload_n hx hb dX9_canShare_0 rfl (lv_at hl 0 rfl) ?_
  refine lv_aload_n hx hb dX9_canShare_1 rfl (lv_at hl 0 rfl) ?_
  refine xg_18_1 C hW fl_X9_15 dX9_canShare_2 ?_
  refine lv_iload_n hx hb dX9_canShare_5 rfl (lv_at hl 1 rfl) ?_
  refine xl_20 C hW h dX9_canShare_6 (fun v1 h => ?_)
  refine lv_aload_n hx hb dX9_canShare_7 rfl (lv_at hl 0 rfl) ?_
  refine xg_18_1 C hW fl_X9_15 dX9_canShare_8 ?_
  refine lv_iload_n hx hb dX9_canShare_11 rfl (lv_at hl 2 rfl) ?_
  refine xl_20 C hW h dX9_canShare_12 (fun v2 h => ?_)
  refine zz_callVi (As := [.int v1, .int v2]) C hW h (fun r hr => c_X9_canBe_18 hr) lk_X9_50 (hW.recv xr_18) rfl hl.1 ⟨rfl, rfl⟩ ⟨Nat.le_of_ble_eq_true rfl, Nat.le_of_ble_eq_true rfl⟩ (Nat.le_of_ble_eq_true rfl) ⟨Nat.zero_le _, Nat.zero_le _⟩ rfl dX9_canShare_13 (fun v4 S3 H locs h hW => ?_)
  refine zz_ieq (tgt := 80) C h dX9_canShare_16 (by decide) (fun h => ?_) (fun h => ?_)
  · exact w_X9_canShare_18_b80 (F := F) C h hW (lv_sub hl [] rfl)
  · refine lv_aload_n hx hb dX9_canShare_19 rfl (lv_at hl 0 rfl) ?_
    refine lv_aload_n hx hb dX9_canShare_20 rfl (lv_at hl 0 rfl) ?_
    refine xg_18_1 C hW fl_X9_15 dX9_canShare_21 ?_
    refine lv_iload_n hx hb dX9_canShare_24 rfl (lv_at hl 1 rfl) ?_
    refine xl_20 C hW h dX9_canShare_25 (fun v5 h => ?_)
    refine lv_aload_n hx hb dX9_canShare_26 rfl (lv_at hl 0 rfl) ?_
    refine xg_18_2 C hW fl_X9_18 dX9_canShare_27 ?_
    refine lv_iload_n hx hb dX9_canShare_30 rfl (lv_at hl 2 rfl) ?_
    refine xl_21 C hW h dX9_canShare_31 (fun v6 h => ?_)
    refine zz_callVi (As := [.int v5, .int v6]) C hW h (fun r hr => c_X9_canBe_18 hr) lk_X9_50 (hW.recv xr_18) rfl hl.1 ⟨rfl, rfl⟩ ⟨Nat.le_of_ble_eq_true rfl, Nat.le_of_ble_eq_true rfl⟩ (Nat.le_of_ble_eq_true rfl) ⟨Nat.zero_le _, Nat.zero_le _⟩ rfl dX9_canShare_32 (fun v8 S7 H locs h hW => ?_)
    refine zz_ieq (tgt := 80) C h dX9_canShare_35 (by decide) (fun h => ?_) (fun h => ?_)
    · exact w_X9_canShare_18_b80 (F := F) C h hW (lv_sub hl [] rfl)
    · refine lv_aload_n hx hb dX9_canShare_38 rfl (lv_at hl 0 rfl) ?_
      refine lv_aload_n hx hb dX9_canShare_39 rfl (lv_at hl 0 rfl) ?_
      refine xg_18_2 C hW fl_X9_18 dX9_canShare_40 ?_
      refine lv_iload_n hx hb dX9_canShare_43 rfl (lv_at hl 1 rfl) ?_
      refine xl_21 C hW h dX9_canShare_44 (fun v9 h => ?_)
      refine lv_aload_n hx hb dX9_canShare_45 rfl (lv_at hl 0 rfl) ?_
      refine xg_18_1 C hW fl_X9_15 dX9_canShare_46 ?_
      refine lv_iload_n hx hb dX9_canShare_49 rfl (lv_at hl 2 rfl) ?_
      refine xl_20 C hW h dX9_canShare_50 (fun v10 h => ?_)
      refine zz_callVi (As := [.int v9, .int v10]) C hW h (fun r hr => c_X9_canBe_18 hr) lk_X9_50 (hW.recv xr_18) rfl hl.1 ⟨rfl, rfl⟩ ⟨Nat.le_of_ble_eq_true rfl, Nat.le_of_ble_eq_true rfl⟩ (Nat.le_of_ble_eq_true rfl) ⟨Nat.zero_le _, Nat.zero_le _⟩ rfl dX9_canShare_51 (fun v12 S11 H locs h hW => ?_)
      refine zz_ieq (tgt := 80) C h dX9_canShare_54 (by decide) (fun h => ?_) (fun h => ?_)
      · exact w_X9_canShare_18_b80 (F := F) C h hW (lv_sub hl [] rfl)
      · refine lv_aload_n hx hb dX9_canShare_57 rfl (lv_at hl 0 rfl) ?_
        refine lv_aload_n hx hb dX9_canShare_58 rfl (lv_at hl 0 rfl) ?_
        refine xg_18_2 C hW fl_X9_18 dX9_canShare_59 ?_
        refine lv_iload_n hx hb dX9_canShare_62 rfl (lv_at hl 1 rfl) ?_
        refine xl_21 C hW h dX9_canShare_63 (fun v13 h => ?_)
        refine lv_aload_n hx hb dX9_canShare_64 rfl (lv_at hl 0 rfl) ?_
        refine xg_18_2 C hW fl_X9_18 dX9_canShare_65 ?_
        refine lv_iload_n hx hb dX9_canShare_68 rfl (lv_at hl 2 rfl) ?_
        refine xl_21 C hW h dX9_canShare_69 (fun v14 h => ?_)
        refine zz_callVi (As := [.int v13, .int v14]) C hW h (fun r hr => c_X9_canBe_18 hr) lk_X9_50 (hW.recv xr_18) rfl hl.1 ⟨rfl, rfl⟩ ⟨Nat.le_of_ble_eq_true rfl, Nat.le_of_ble_eq_true rfl⟩ (Nat.le_of_ble_eq_true rfl) ⟨Nat.zero_le _, Nat.zero_le _⟩ rfl dX9_canShare_70 (fun v16 S15 H locs h hW => ?_)
        refine zz_ieq (tgt := 80) C h dX9_canShare_73 (by decide) (fun h => ?_) (fun h => ?_)
        · exact w_X9_canShare_18_b80 (F := F) C h hW (lv_sub hl [] rfl)
        · refine lv_iconst (v := 1) hx hb dX9_canShare_76 (by decide) ?_
          refine lv_goto (tgt := 81) hx hb dX9_canShare_77 (by decide) ?_
          exact w_X9_canShare_18_b81 (F := F) C h hW (lv_sub hl [] rfl)
def n_X9_canShare_18 (F : Nat) (S : Zs) (x1 : Int32) (x2 : Int32) : Option (Int32 × Zs) := n_X9_canShare_18_e F  S x1 x2
theorem c_X9_canShare_18 {l : Launch} {D : va_G} {cs ad : Nat → Nat} {F : Nat} {S : Zs} {x1 : Int32} {x2 : Int32} {q : (Int32 × Zs)} (h : n_X9_canShare_18 F S x1 x2 = some q) : zMi l yX9_canShare cX9_canShare 3 (some .boolean) (zR 1 23) (xG D cs ad) [.ref (ad 18), .int x1, .int x2] S q :=
  zz_enter (by decide) (Nat.le_of_ble_eq_true rfl) (fun p e s m below meth c ls C hW hl => w_X9_canShare_18_e (F := F) C h hW (lv_sub hl [0, 1, 2] rfl))
def n_X10_study_26_18_b62_l (F : Nat) (rc62 : Zs → Int32 → Option (Int32 × Zs)) (S : Zs) (x2 : Int32) : Option (Int32 × Zs) :=
  zgf S 363 (fun v1 => if ((1 : Int32) <<< (v1 &&& 31)) ≤ x2 then (some (0, S)) else (zst S 29 4096 x2 (vp_nar .byte (0 : Int32)) (fun S2 => zlet (x2 + (1 : Int32)) (fun v3 => rc62 S2 v3))))
set_option maxRecDepth 20000 in
set_option maxHeartbeats 4000000 in
theorem w_X10_study_26_18_b62_l {F : Nat} {q : (Int32 × Zs)} {S : Zs} {rc62 : Zs → Int32 → Option (Int32 × Zs)} {x2 : Int32} {ls : Array Slot} {H : Heap} {locs : List Loc} (C : zC p s m args meth c cX10_study 4 RX10 none) (hrc62 : ∀ (S : Zs) (x2 : Int32) (H : Heap) (locs : List Loc) (ls : Array Slot), rc62 S x2 = some q → zW (xG D cs ad) s S H locs → lv_has ls 4 [(0, .ref (ad 26)), (1, .ref (ad 18)), (2, .int x2)] → W p l e (zR 2 45) s m args below meth c H locs 0 0 (zQv (xG D cs ad) q below args s) (F0 m 62 ls [])) (h : n_X10_study_26_18_b62_l F rc62 S x2 = some q) (hW : zW (xG D cs ad) s S H locs) (hl : lv_has ls 4 [(0, .ref (ad 26)), (1, .ref (ad 18)), (2, .int x2)]) : W p l e (zR 2 45) s m args below meth c H locs 0 0 (zQv (xG D cs ad) q below args s) (F0 m 62 ls []) := by
  unfold n_X10_study_26_18_b62_l at h
  obtain ⟨hx, hb, hml, hown, hts, hret, hlk⟩ := id C
  refine lv_iload_n hx hb dX10_study_62 rfl (lv_at hl 2 rfl) ?_
  refine lv_iconst (v := 1) hx hb dX10_study_63 (by decide) ?_
  refine lv_aload_n hx hb dX10_study_64 rfl (lv_at hl 1 rfl) ?_
  refine xg_18_3 C hW h fl_X10_55 dX10_study_65 (fun v1 h => ?_)
  refine lv_ishl hx hb dX10_study_68 ?_
  refine zz_cge (tgt := 85) C h dX10_study_69 (by decide) (fun h => ?_) (fun h => ?_)
  · exact zz_vret C rfl h hW dX10_study_85
  · refine lv_aload_n hx hb dX10_study_72 rfl (lv_at hl 0 rfl) ?_
    refine xg_26_5 C hW fl_X10_18 dX10_study_73 ?_
    refine lv_iload_n hx hb dX10_study_76 rfl (lv_at hl 2 rfl) ?_
    refine lv_iconst (v := 0) hx hb dX10_study_77 (by decide) ?_
    refine xs_29 C hW h dX10_study_78 (fun S2 H locs h hW => ?_)
    obtain ⟨v3, ev3, h⟩ := zz_name h
    refine lv_iinc (v := v3) (lv' := [(2, .int v3), (0, .ref (ad 26)), (1, .ref (ad 18))]) hx hb dX10_study_79 hl (k := 2) rfl ev3.symm (by decide) rfl (fun ls hl => ?_)
    refine lv_goto (tgt := 62) hx hb dX10_study_82 (by decide) ?_
    exact hrc62 _ _ _ _ _ h hW (lv_sub hl [1, 2, 0] rfl)
def n_X10_study_26_18_b62 (F : Nat)  (S : Zs) (x2 : Int32) : Option (Int32 × Zs) :=
  zfix (fun (rc : (Zs × Int32) → Option (Int32 × Zs)) (u : (Zs × Int32)) => n_X10_study_26_18_b62_l F  (fun S x2 => rc (S, x2)) u.1 u.2) F (S, x2)
theorem w_X10_study_26_18_b62 {F : Nat} {q : (Int32 × Zs)}  (C : zC p s m args meth c cX10_study 4 RX10 none)  : ∀ (n : Nat) (S : Zs) (x2 : Int32) (H : Heap) (locs : List Loc) (ls : Array Slot), zfix (fun (rc : (Zs × Int32) → Option (Int32 × Zs)) (u : (Zs × Int32)) => n_X10_study_26_18_b62_l F  (fun S x2 => rc (S, x2)) u.1 u.2) n (S, x2) = some q → zW (xG D cs ad) s S H locs → lv_has ls 4 [(0, .ref (ad 26)), (1, .ref (ad 18)), (2, .int x2)] → W p l e (zR 2 45) s m args below meth c H locs 0 0 (zQv (xG D cs ad) q below args s) (F0 m 62 ls []) := by
  intro n
  induction n with
  | zero => intro S x2 H locs ls h; exact absurd h (fun h => by cases h)
  | succ n ih => intro S x2 H locs ls h hW hl; exact w_X10_study_26_18_b62_l (F := F) C (fun S x2 H locs ls h hW hl => ih S x2 H locs ls h hW hl) h hW hl
def n_X10_study_26_18_b48 (F : Nat) (rc2 : Zs → Int32 → Option (Int32 × Zs)) (rc19 : Zs → Int32 → Int32 → Option (Int32 × Zs)) (S : Zs) (x2 : Int32) (x3 : Int32) : Option (Int32 × Zs) :=
  zlet (x3 + (1 : Int32)) (fun v1 => rc19 S x2 v1)
set_option maxRecDepth 20000 in
set_option maxHeartbeats 4000000 in
theorem w_X10_study_26_18_b48 {F : Nat} {q : (Int32 × Zs)} {S : Zs} {rc2 : Zs → Int32 → Option (Int32 × Zs)} {rc19 : Zs → Int32 → Int32 → Option (Int32 × Zs)} {x2 : Int32} {x3 : Int32} {ls : Array Slot} {H : Heap} {locs : List Loc} (C : zC p s m args meth c cX10_study 4 RX10 none) (hrc2 : ∀ (S : Zs) (x2 : Int32) (H : Heap) (locs : List Loc) (ls : Array Slot), rc2 S x2 = some q → zW (xG D cs ad) s S H locs → lv_has ls 4 [(0, .ref (ad 26)), (1, .ref (ad 18)), (2, .int x2)] → W p l e (zR 2 45) s m args below meth c H locs 0 0 (zQv (xG D cs ad) q below args s) (F0 m 2 ls [])) (hrc19 : ∀ (S : Zs) (x2 : Int32) (x3 : Int32) (H : Heap) (locs : List Loc) (ls : Array Slot), rc19 S x2 x3 = some q → zW (xG D cs ad) s S H locs → lv_has ls 4 [(0, .ref (ad 26)), (1, .ref (ad 18)), (2, .int x2), (3, .int x3)] → W p l e (zR 2 45) s m args below meth c H locs 0 0 (zQv (xG D cs ad) q below args s) (F0 m 19 ls [])) (h : n_X10_study_26_18_b48 F rc2 rc19 S x2 x3 = some q) (hW : zW (xG D cs ad) s S H locs) (hl : lv_has ls 4 [(0, .ref (ad 26)), (1, .ref (ad 18)), (2, .int x2), (3, .int x3)]) : W p l e (zR 2 45) s m args below meth c H locs 0 0 (zQv (xG D cs ad) q below args s) (F0 m 48 ls []) := by
  unfold n_X10_study_26_18_b48 at h
  obtain ⟨hx, hb, hml, hown, hts, hret, hlk⟩ := id C
  obtain ⟨v1, ev1, h⟩ := zz_name h
  refine lv_iinc (v := v1) (lv' := [(3, .int v1), (0, .ref (ad 26)), (1, .ref (ad 18)), (2, .int x2)]) hx hb dX10_study_48 hl (k := 3) rfl ev1.symm (by decide) rfl (fun ls hl => ?_)
  refine lv_goto (tgt := 19) hx hb dX10_study_51 (by decide) ?_
  exact hrc19 _ _ _ _ _ _ h hW (lv_sub hl [1, 2, 3, 0] rfl)
def n_X10_study_26_18_b19_l (F : Nat) (rc2 : Zs → Int32 → Option (Int32 × Zs)) (rc19 : Zs → Int32 → Int32 → Option (Int32 × Zs)) (S : Zs) (x2 : Int32) (x3 : Int32) : Option (Int32 × Zs) :=
  zgf S 363 (fun v1 => if v1 ≤ x3 then (zlet (x2 + (1 : Int32)) (fun v2 => rc2 S v2)) else (zcl (n_X9_canShare_18 F S x2 x3) (fun v4 S3 => if v4 = 0 then (zld S3 28 12 x2 (fun v5 => zst S3 28 12 x2 (v5 ||| ((1 : Int32) <<< (x3 &&& 31))) (fun S6 => n_X10_study_26_18_b48 F rc2 rc19 S6 x2 x3))) else (n_X10_study_26_18_b48 F rc2 rc19 S3 x2 x3))))
set_option maxRecDepth 20000 in
set_option maxHeartbeats 4000000 in
theorem w_X10_study_26_18_b19_l {F : Nat} {q : (Int32 × Zs)} {S : Zs} {rc2 : Zs → Int32 → Option (Int32 × Zs)} {rc19 : Zs → Int32 → Int32 → Option (Int32 × Zs)} {x2 : Int32} {x3 : Int32} {ls : Array Slot} {H : Heap} {locs : List Loc} (C : zC p s m args meth c cX10_study 4 RX10 none) (hrc2 : ∀ (S : Zs) (x2 : Int32) (H : Heap) (locs : List Loc) (ls : Array Slot), rc2 S x2 = some q → zW (xG D cs ad) s S H locs → lv_has ls 4 [(0, .ref (ad 26)), (1, .ref (ad 18)), (2, .int x2)] → W p l e (zR 2 45) s m args below meth c H locs 0 0 (zQv (xG D cs ad) q below args s) (F0 m 2 ls [])) (hrc19 : ∀ (S : Zs) (x2 : Int32) (x3 : Int32) (H : Heap) (locs : List Loc) (ls : Array Slot), rc19 S x2 x3 = some q → zW (xG D cs ad) s S H locs → lv_has ls 4 [(0, .ref (ad 26)), (1, .ref (ad 18)), (2, .int x2), (3, .int x3)] → W p l e (zR 2 45) s m args below meth c H locs 0 0 (zQv (xG D cs ad) q below args s) (F0 m 19 ls [])) (h : n_X10_study_26_18_b19_l F rc2 rc19 S x2 x3 = some q) (hW : zW (xG D cs ad) s S H locs) (hl : lv_has ls 4 [(0, .ref (ad 26)), (1, .ref (ad 18)), (2, .int x2), (3, .int x3)]) : W p l e (zR 2 45) s m args below meth c H locs 0 0 (zQv (xG D cs ad) q below args s) (F0 m 19 ls []) := by
  unfold n_X10_study_26_18_b19_l at h
  obtain ⟨hx, hb, hml, hown, hts, hret, hlk⟩ := id C
  refine lv_iload_n hx hb dX10_study_19 rfl (lv_at hl 3 rfl) ?_
  refine lv_aload_n hx hb dX10_study_20 rfl (lv_at hl 1 rfl) ?_
  refine xg_18_3 C hW h fl_X10_55 dX10_study_21 (fun v1 h => ?_)
  refine zz_cge (tgt := 54) C h dX10_study_24 (by decide) (fun h => ?_) (fun h => ?_)
  · obtain ⟨v2, ev2, h⟩ := zz_name h
    refine lv_iinc (v := v2) (lv' := [(2, .int v2), (0, .ref (ad 26)), (1, .ref (ad 18)), (3, .int x3)]) hx hb dX10_study_54 hl (k := 2) rfl ev2.symm (by decide) rfl (fun ls hl => ?_)
    refine lv_goto (tgt := 2) hx hb dX10_study_57 (by decide) ?_
    exact hrc2 _ _ _ _ _ h hW (lv_sub hl [1, 2, 0] rfl)
  · refine lv_aload_n hx hb dX10_study_27 rfl (lv_at hl 1 rfl) ?_
    refine lv_iload_n hx hb dX10_study_28 rfl (lv_at hl 2 rfl) ?_
    refine lv_iload_n hx hb dX10_study_29 rfl (lv_at hl 3 rfl) ?_
    refine zz_callVi (As := [.int x2, .int x3]) C hW h (fun r hr => c_X9_canShare_18 hr) lk_X10_73 (hW.recv xr_18) rfl hl.1 ⟨rfl, rfl⟩ ⟨Nat.le_of_ble_eq_true rfl, Nat.le_of_ble_eq_true rfl⟩ (Nat.le_of_ble_eq_true rfl) ⟨Nat.zero_le _, Nat.zero_le _⟩ rfl dX10_study_30 (fun v4 S3 H locs h hW => ?_)
    refine zz_ine (tgt := 48) C h dX10_study_33 (by decide) (fun h => ?_) (fun h => ?_)
    · exact w_X10_study_26_18_b48 (F := F) C hrc2 hrc19 h hW (lv_sub hl [0, 1, 2, 3] rfl)
    · refine lv_aload_n hx hb dX10_study_36 rfl (lv_at hl 0 rfl) ?_
      refine xg_26_4 C hW fl_X10_15 dX10_study_37 ?_
      refine lv_iload_n hx hb dX10_study_40 rfl (lv_at hl 2 rfl) ?_
      refine lv_dup2_11 hx hb dX10_study_41 rfl rfl ?_
      refine xl_28 C hW h dX10_study_42 (fun v5 h => ?_)
      refine lv_iconst (v := 1) hx hb dX10_study_43 (by decide) ?_
      refine lv_iload_n hx hb dX10_study_44 rfl (lv_at hl 3 rfl) ?_
      refine lv_ishl hx hb dX10_study_45 ?_
      refine lv_ior hx hb dX10_study_46 ?_
      refine xs_28 C hW h dX10_study_47 (fun S6 H locs h hW => ?_)
      exact w_X10_study_26_18_b48 (F := F) C hrc2 hrc19 h hW (lv_sub hl [0, 1, 2, 3] rfl)
def n_X10_study_26_18_b19 (F : Nat) (rc2 : Zs → Int32 → Option (Int32 × Zs)) (S : Zs) (x2 : Int32) (x3 : Int32) : Option (Int32 × Zs) :=
  zfix (fun (rc : (Zs × Int32 × Int32) → Option (Int32 × Zs)) (u : (Zs × Int32 × Int32)) => n_X10_study_26_18_b19_l F rc2 (fun S x2 x3 => rc (S, x2, x3)) u.1 u.2.1 u.2.2) F (S, x2, x3)
theorem w_X10_study_26_18_b19 {F : Nat} {q : (Int32 × Zs)} {rc2 : Zs → Int32 → Option (Int32 × Zs)} (C : zC p s m args meth c cX10_study 4 RX10 none) (hrc2 : ∀ (S : Zs) (x2 : Int32) (H : Heap) (locs : List Loc) (ls : Array Slot), rc2 S x2 = some q → zW (xG D cs ad) s S H locs → lv_has ls 4 [(0, .ref (ad 26)), (1, .ref (ad 18)), (2, .int x2)] → W p l e (zR 2 45) s m args below meth c H locs 0 0 (zQv (xG D cs ad) q below args s) (F0 m 2 ls [])) : ∀ (n : Nat) (S : Zs) (x2 : Int32) (x3 : Int32) (H : Heap) (locs : List Loc) (ls : Array Slot), zfix (fun (rc : (Zs × Int32 × Int32) → Option (Int32 × Zs)) (u : (Zs × Int32 × Int32)) => n_X10_study_26_18_b19_l F rc2 (fun S x2 x3 => rc (S, x2, x3)) u.1 u.2.1 u.2.2) n (S, x2, x3) = some q → zW (xG D cs ad) s S H locs → lv_has ls 4 [(0, .ref (ad 26)), (1, .ref (ad 18)), (2, .int x2), (3, .int x3)] → W p l e (zR 2 45) s m args below meth c H locs 0 0 (zQv (xG D cs ad) q below args s) (F0 m 19 ls []) := by
  intro n
  induction n with
  | zero => intro S x2 x3 H locs ls h; exact absurd h (fun h => by cases h)
  | succ n ih => intro S x2 x3 H locs ls h hW hl; exact w_X10_study_26_18_b19_l (F := F) C hrc2 (fun S x2 x3 H locs ls h hW hl => ih S x2 x3 H locs ls h hW hl) h hW hl
def n_X10_study_26_18_b2_l (F : Nat) (rc2 : Zs → Int32 → Option (Int32 × Zs)) (S : Zs) (x2 : Int32) : Option (Int32 × Zs) :=
  zgf S 363 (fun v1 => if v1 ≤ x2 then (n_X10_study_26_18_b62 F  S (0 : Int32)) else (zst S 28 12 x2 (0 : Int32) (fun S2 => n_X10_study_26_18_b19 F rc2 S2 x2 (0 : Int32))))
set_option maxRecDepth 20000 in
set_option maxHeartbeats 4000000 in
theorem w_X10_study_26_18_b2_l {F : Nat} {q : (Int32 × Zs)} {S : Zs} {rc2 : Zs → Int32 → Option (Int32 × Zs)} {x2 : Int32} {ls : Array Slot} {H : Heap} {locs : List Loc} (C : zC p s m args meth c cX10_study 4 RX10 none) (hrc2 : ∀ (S : Zs) (x2 : Int32) (H : Heap) (locs : List Loc) (ls : Array Slot), rc2 S x2 = some q → zW (xG D cs ad) s S H locs → lv_has ls 4 [(0, .ref (ad 26)), (1, .ref (ad 18)), (2, .int x2)] → W p l e (zR 2 45) s m args below meth c H locs 0 0 (zQv (xG D cs ad) q below args s) (F0 m 2 ls [])) (h : n_X10_study_26_18_b2_l F rc2 S x2 = some q) (hW : zW (xG D cs ad) s S H locs) (hl : lv_has ls 4 [(0, .ref (ad 26)), (1, .ref (ad 18)), (2, .int x2)]) : W p l e (zR 2 45) s m args below meth c H locs 0 0 (zQv (xG D cs ad) q below args s) (F0 m 2 ls []) := by
  unfold n_X10_study_26_18_b2_l at h
  obtain ⟨hx, hb, hml, hown, hts, hret, hlk⟩ := id C
  refine lv_iload_n hx hb dX10_study_2 rfl (lv_at hl 2 rfl) ?_
  refine lv_aload_n hx hb dX10_study_3 rfl (lv_at hl 1 rfl) ?_
  refine xg_18_3 C hW h fl_X10_55 dX10_study_4 (fun v1 h => ?_)
  refine zz_cge (tgt := 60) C h dX10_study_7 (by decide) (fun h => ?_) (fun h => ?_)
  · refine lv_iconst (v := 0) hx hb dX10_study_60 (by decide) ?_
    refine lv_istore_n (lv' := [(2, .int (0 : Int32)), (0, .ref (ad 26)), (1, .ref (ad 18))]) hx hb dX10_study_61 rfl hl (by decide) rfl (fun ls hl => ?_)
    exact w_X10_study_26_18_b62 (F := F) C F _ _ _ _ _ h hW (lv_sub hl [1, 2, 0] rfl)
  · refine lv_aload_n hx hb dX10_study_10 rfl (lv_at hl 0 rfl) ?_
    refine xg_26_4 C hW fl_X10_15 dX10_study_11 ?_
    refine lv_iload_n hx hb dX10_study_14 rfl (lv_at hl 2 rfl) ?_
    refine lv_iconst (v := 0) hx hb dX10_study_15 (by decide) ?_
    refine xs_28 C hW h dX10_study_16 (fun S2 H locs h hW => ?_)
    refine lv_iconst (v := 0) hx hb dX10_study_17 (by decide) ?_
    refine lv_istore_n (lv' := [(3, .int (0 : Int32)), (0, .ref (ad 26)), (1, .ref (ad 18)), (2, .int x2)]) hx hb dX10_study_18 rfl hl (by decide) rfl (fun ls hl => ?_)
    exact w_X10_study_26_18_b19 (F := F) C hrc2 F _ _ _ _ _ _ h hW (lv_sub hl [1, 2, 3, 0] rfl)
def n_X10_study_26_18_b2 (F : Nat)  (S : Zs) (x2 : Int32) : Option (Int32 × Zs) :=
  zfix (fun (rc : (Zs × Int32) → Option (Int32 × Zs)) (u : (Zs × Int32)) => n_X10_study_26_18_b2_l F  (fun S x2 => rc (S, x2)) u.1 u.2) F (S, x2)
theorem w_X10_study_26_18_b2 {F : Nat} {q : (Int32 × Zs)}  (C : zC p s m args meth c cX10_study 4 RX10 none)  : ∀ (n : Nat) (S : Zs) (x2 : Int32) (H : Heap) (locs : List Loc) (ls : Array Slot), zfix (fun (rc : (Zs × Int32) → Option (Int32 × Zs)) (u : (Zs × Int32)) => n_X10_study_26_18_b2_l F  (fun S x2 => rc (S, x2)) u.1 u.2) n (S, x2) = some q → zW (xG D cs ad) s S H locs → lv_has ls 4 [(0, .ref (ad 26)), (1, .ref (ad 18)), (2, .int x2)] → W p l e (zR 2 45) s m args below meth c H locs 0 0 (zQv (xG D cs ad) q below args s) (F0 m 2 ls []) := by
  intro n
  induction n with
  | zero => intro S x2 H locs ls h; exact absurd h (fun h => by cases h)
  | succ n ih => intro S x2 H locs ls h hW hl; exact w_X10_study_26_18_b2_l (F := F) C (fun S x2 H locs ls h hW hl => ih S x2 H locs ls h hW hl) h hW hl
def n_X10_study_26_18_e (F : Nat)  (S : Zs)  : Option (Int32 × Zs) :=
  n_X10_study_26_18_b2 F  S (0 : Int32)
set_option maxRecDepth 20000 in
set_option maxHeartbeats 4000000 in
theorem w_X10_study_26_18_e {F : Nat} {q : (Int32 × Zs)} {S : Zs}   {ls : Array Slot} {H : Heap} {locs : List Loc} (C : zC p s m args meth c cX10_study 4 RX10 none)  (h : n_X10_study_26_18_e F  S  = some q) (hW : zW (xG D cs ad) s S H locs) (hl : lv_has ls 4 [(0, .ref (ad 26)), (1, .ref (ad 18))]) : W p l e (zR 2 45) s m args below meth c H locs 0 0 (zQv (xG D cs ad) q below args s) (F0 m 0 ls []) := by
  unfold n_X10_study_26_18_e at h
  obtain ⟨hx, hb, hml, hown, hts, hret, hlk⟩ := id C
  refine lv_iconst (v := 0) hx hb dX10_study_0 (by decide) ?_
  refine lv_istore_n (lv' := [(2, .int (0 : Int32)), (0, .ref (ad 26)), (1, .ref (ad 18))]) hx hb dX10_study_1 rfl hl (by decide) rfl (fun ls hl => ?_)
  exact w_X10_study_26_18_b2 (F := F) C F _ _ _ _ _ h hW (lv_sub hl [1, 2, 0] rfl)
def n_X10_study_26_18 (F : Nat) (S : Zs)  : Option (Int32 × Zs) := n_X10_study_26_18_e F  S 
theorem c_X10_study_26_18 {l : Launch} {D : va_G} {cs ad : Nat → Nat} {F : Nat} {S : Zs}  {q : (Int32 × Zs)} (h : n_X10_study_26_18 F S  = some q) : zMv l yX10_study cX10_study 4 none (zR 2 45) (xG D cs ad) [.ref (ad 26), .ref (ad 18)] S q :=
  zz_enter (by decide) (Nat.le_of_ble_eq_true rfl) (fun p e s m below meth c ls C hW hl => w_X10_study_26_18_e (F := F) C h hW (lv_sub hl [0, 1] rfl))
end ZM
