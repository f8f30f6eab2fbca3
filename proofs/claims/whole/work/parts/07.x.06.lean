section ZM
variable {p : Program} {l : Launch} {e : Env} {s : State} {m : MethodId} {args : Array Value} {below : List Frame} {meth : Method} {c : Code} {D : va_G} {cs ad : Nat → Nat}
def n_X3_hear_41_1_b61 (F : Nat)  (S : Zs) (x2 : Int32) : Option (Int32 × Zs) :=
  some (x2, S)
set_option maxRecDepth 20000 in
set_option maxHeartbeats 4000000 in
theorem w_X3_hear_41_1_b61 {F : Nat} {q : (Int32 × Zs)} {S : Zs}  {x2 : Int32} {ls : Array Slot} {H : Heap} {locs : List Loc} (C : zC p s m args meth c cX3_hear 5 RX3 (some .int))  (h : n_X3_hear_41_1_b61 F  S x2 = some q) (hW : zW (xG D cs ad) s S H locs) (hl : lv_has ls 5 [(2, .int x2)]) : W p l e (zR 6 145) s m args below meth c H locs 0 0 (zQi (xG D cs ad) q below args s) (F0 m 61 ls []) := by
  unfold n_X3_hear_41_1_b61 at h
  obtain ⟨hx, hb, hml, hown, hts, hret, hlk⟩ := id C
  refine lv_iload_n hx hb dX3_hear_61 rfl (lv_at hl 0 rfl) ?_
  exact zz_iret C rfl h hW dX3_hear_62
def n_X3_hear_41_1_b8_l (F : Nat) (rc8 : Zs → Int32 → Int32 → Option (Int32 × Zs)) (S : Zs) (x2 : Int32) (x3 : Int32) : Option (Int32 × Zs) :=
  if x2 ≤ x3 then (if x2 ≤ 0 then (n_X3_hear_41_1_b61 F  S x2) else (zgf S 826 (fun v1 => zpf S 826 (v1 + x2) (fun S2 => n_X3_hear_41_1_b61 F  S2 x2)))) else (zgf S 826 (fun v3 => zcl (n_X3_weigh_41 F S (v3 + x3)) (fun v5 S4 => if v5 = 0 then (zlet (x3 + (1 : Int32)) (fun v6 => rc8 S4 x2 v6)) else (some ((((-100 : Int32) - ((10 : Int32) * x3)) - v5), S4)))))
set_option maxRecDepth 20000 in
set_option maxHeartbeats 4000000 in
theorem w_X3_hear_41_1_b8_l {F : Nat} {q : (Int32 × Zs)} {S : Zs} {rc8 : Zs → Int32 → Int32 → Option (Int32 × Zs)} {x2 : Int32} {x3 : Int32} {ls : Array Slot} {H : Heap} {locs : List Loc} (C : zC p s m args meth c cX3_hear 5 RX3 (some .int)) (hrc8 : ∀ (S : Zs) (x2 : Int32) (x3 : Int32) (H : Heap) (locs : List Loc) (ls : Array Slot), rc8 S x2 x3 = some q → zW (xG D cs ad) s S H locs → lv_has ls 5 [(0, .ref (ad 41)), (2, .int x2), (3, .int x3)] → W p l e (zR 6 145) s m args below meth c H locs 0 0 (zQi (xG D cs ad) q below args s) (F0 m 8 ls [])) (h : n_X3_hear_41_1_b8_l F rc8 S x2 x3 = some q) (hW : zW (xG D cs ad) s S H locs) (hl : lv_has ls 5 [(0, .ref (ad 41)), (2, .int x2), (3, .int x3)]) : W p l e (zR 6 145) s m args below meth c H locs 0 0 (zQi (xG D cs ad) q below args s) (F0 m 8 ls []) := by
  unfold n_X3_hear_41_1_b8_l at h
  obtain ⟨hx, hb, hml, hown, hts, hret, hlk⟩ := id C
  refine lv_iload_n hx hb dX3_hear_8 rfl (lv_at hl 2 rfl) ?_
  refine lv_iload_n hx hb dX3_hear_9 rfl (lv_at hl 1 rfl) ?_
  refine zz_cge (tgt := 47) C h dX3_hear_10 (by decide) (fun h => ?_) (fun h => ?_)
  · refine lv_iload_n hx hb dX3_hear_47 rfl (lv_at hl 1 rfl) ?_
    refine zz_ile (tgt := 61) C h dX3_hear_48 (by decide) (fun h => ?_) (fun h => ?_)
    · exact w_X3_hear_41_1_b61 (F := F) C h hW (lv_sub hl [1] rfl)
    · refine lv_aload_n hx hb dX3_hear_51 rfl (lv_at hl 0 rfl) ?_
      refine lv_dup hx hb dX3_hear_52 rfl ?_
      refine xg_41_6 C hW h fl_X3_35 dX3_hear_53 (fun v1 h => ?_)
      refine lv_iload_n hx hb dX3_hear_56 rfl (lv_at hl 1 rfl) ?_
      refine lv_iadd hx hb dX3_hear_57 ?_
      refine xp_41_6 C hW h fl_X3_35 dX3_hear_58 (fun S2 H locs h hW => ?_)
      exact w_X3_hear_41_1_b61 (F := F) C h hW (lv_sub hl [1] rfl)
  · refine lv_aload_n hx hb dX3_hear_13 rfl (lv_at hl 0 rfl) ?_
    refine lv_aload_n hx hb dX3_hear_14 rfl (lv_at hl 0 rfl) ?_
    refine xg_41_6 C hW h fl_X3_35 dX3_hear_15 (fun v3 h => ?_)
    refine lv_iload_n hx hb dX3_hear_18 rfl (lv_at hl 2 rfl) ?_
    refine lv_iadd hx hb dX3_hear_19 ?_
    refine zz_callVi (As := [.int (v3 + x3)]) C hW h (fun r hr => c_X3_weigh_41 hr) lk_X3_39 (hW.recv xr_41) rfl hl.1 ⟨rfl, rfl⟩ ⟨Nat.le_of_ble_eq_true rfl, Nat.le_of_ble_eq_true rfl⟩ (Nat.le_of_ble_eq_true rfl) ⟨Nat.zero_le _, Nat.zero_le _⟩ rfl dX3_hear_20 (fun v5 S4 H locs h hW => ?_)
    refine lv_istore (lv' := [(4, .int v5), (0, .ref (ad 41)), (2, .int x2), (3, .int x3)]) hx hb dX3_hear_23 hl (by decide) rfl (fun ls hl => ?_)
    refine lv_iload hx hb dX3_hear_25 (lv_at hl 0 rfl) ?_
    refine zz_ieq (tgt := 41) C h dX3_hear_27 (by decide) (fun h => ?_) (fun h => ?_)
    · obtain ⟨v6, ev6, h⟩ := zz_name h
      refine lv_iinc (v := v6) (lv' := [(3, .int v6), (4, .int v5), (0, .ref (ad 41)), (2, .int x2)]) hx hb dX3_hear_41 hl (k := 3) rfl ev6.symm (by decide) rfl (fun ls hl => ?_)
      refine lv_goto (tgt := 8) hx hb dX3_hear_44 (by decide) ?_
      exact hrc8 _ _ _ _ _ _ h hW (lv_sub hl [2, 3, 0] rfl)
    · refine lv_bipush (v := -100) hx hb dX3_hear_30 (by decide) ?_
      refine lv_bipush (v := 10) hx hb dX3_hear_32 (by decide) ?_
      refine lv_iload_n hx hb dX3_hear_34 rfl (lv_at hl 3 rfl) ?_
      refine lv_imul hx hb dX3_hear_35 ?_
      refine lv_isub hx hb dX3_hear_36 ?_
      refine lv_iload hx hb dX3_hear_37 (lv_at hl 0 rfl) ?_
      refine lv_isub hx hb dX3_hear_39 ?_
      exact zz_iret C rfl h hW dX3_hear_40
def n_X3_hear_41_1_b8 (F : Nat)  (S : Zs) (x2 : Int32) (x3 : Int32) : Option (Int32 × Zs) :=
  zfix (fun (rc : (Zs × Int32 × Int32) → Option (Int32 × Zs)) (u : (Zs × Int32 × Int32)) => n_X3_hear_41_1_b8_l F  (fun S x2 x3 => rc (S, x2, x3)) u.1 u.2.1 u.2.2) F (S, x2, x3)
theorem w_X3_hear_41_1_b8 {F : Nat} {q : (Int32 × Zs)}  (C : zC p s m args meth c cX3_hear 5 RX3 (some .int))  : ∀ (n : Nat) (S : Zs) (x2 : Int32) (x3 : Int32) (H : Heap) (locs : List Loc) (ls : Array Slot), zfix (fun (rc : (Zs × Int32 × Int32) → Option (Int32 × Zs)) (u : (Zs × Int32 × Int32)) => n_X3_hear_41_1_b8_l F  (fun S x2 x3 => rc (S, x2, x3)) u.1 u.2.1 u.2.2) n (S, x2, x3) = some q → zW (xG D cs ad) s S H locs → lv_has ls 5 [(0, .ref (ad 41)), (2, .int x2), (3, .int x3)] → W p l e (zR 6 145) s m args below meth c H locs 0 0 (zQi (xG D cs ad) q below args s) (F0 m 8 ls []) := by
  intro n
  induction n with
  | zero => intro S x2 x3 H locs ls h; exact absurd h (fun h => by cases h)
  | succ n ih => intro S x2 x3 H locs ls h hW hl; exact w_X3_hear_41_1_b8_l (F := F) C (fun S x2 x3 H locs ls h hW hl => ih S x2 x3 H locs ls h hW hl) h hW hl
def n_X3_hear_41_1_e (F : Nat)  (S : Zs)  : Option (Int32 × Zs) :=
  zcl (n_X3_read_41_1 F S ) (fun v2 S1 => n_X3_hear_41_1_b8 F  S1 v2 (0 : Int32))
set_option maxRecDepth 20000 in
set_option maxHeartbeats 4000000 in
theorem w_X3_hear_41_1_e {F : Nat} {q : (Int32 × Zs)} {S : Zs}   {ls : Array Slot} {H : Heap} {locs : List Loc} (C : zC p s m args meth c cX3_hear 5 RX3 (some .int))  (h : n_X3_hear_41_1_e F  S  = some q) (hW : zW (xG D cs ad) s S H locs) (hl : lv_has ls 5 [(0, .ref (ad 41)), (1, .ref (ad 1))]) : W p l e (zR 6 145) s m args below meth c H locs 0 0 (zQi (xG D cs ad) q below args s) (F0 m 0 ls []) := by
  unfold n_X3_hear_41_1_e at h
  obtain ⟨hx, hb, hml, hown, hts, hret, hlk⟩ := id C
  refine lv_aload_n hx hb dX3_hear_0 rfl (lv_at hl 0 rfl) ?_
  refine lv_aload_n hx hb dX3_hear_1 rfl (lv_at hl 1 rfl) ?_
  refine zz_callVi (As := [.ref (ad 1)]) C hW h (fun r hr => c_X3_read_41_1 hr) lk_X3_31 (hW.recv xr_41) rfl hl.1 ⟨rfl, rfl⟩ ⟨Nat.le_of_ble_eq_true rfl, Nat.le_of_ble_eq_true rfl⟩ (Nat.le_of_ble_eq_true rfl) ⟨Nat.zero_le _, Nat.zero_le _⟩ rfl dX3_hear_2 (fun v2 S1 H locs h hW => ?_)
  refine lv_istore_n (lv' := [(2, .int v2), (0, .ref (ad 41)), (1, .ref (ad 1))]) hx hb dX3_hear_5 rfl hl (by decide) rfl (fun ls hl => ?_)
  refine lv_iconst (v := 0) hx hb dX3_hear_6 (by decide) ?_
  refine lv_istore_n (lv' := [(3, .int (0 : Int32)), (2, .int v2), (0, .ref (ad 41)), (1, .ref (ad 1))]) hx hb dX3_hear_7 rfl hl (by decide) rfl (fun ls hl => ?_)
  exact w_X3_hear_41_1_b8 (F := F) C F _ _ _ _ _ _ h hW (lv_sub hl [2, 1, 0] rfl)
def n_X3_hear_41_1 (F : Nat) (S : Zs)  : Option (Int32 × Zs) := n_X3_hear_41_1_e F  S 
theorem c_X3_hear_41_1 {l : Launch} {D : va_G} {cs ad : Nat → Nat} {F : Nat} {S : Zs}  {q : (Int32 × Zs)} (h : n_X3_hear_41_1 F S  = some q) : zMi l yX3_hear cX3_hear 5 (some .int) (zR 6 145) (xG D cs ad) [.ref (ad 41), .ref (ad 1)] S q :=
  zz_enter (by decide) (Nat.le_of_ble_eq_true rfl) (fun p e s m below meth c ls C hW hl => w_X3_hear_41_1_e (F := F) C h hW (lv_sub hl [0, 1] rfl))
def n_X11_plead_0_e (F : Nat)  (S : Zs)  : Option (Int32 × Zs) :=
  zcl (n_X3_hear_41_1 F S ) (fun v2 S1 => zcl (n_X8_wipe_1 F S1 ) (fun v4 S3 => some (v2, S3)))
set_option maxRecDepth 20000 in
set_option maxHeartbeats 4000000 in
theorem w_X11_plead_0_e {F : Nat} {q : (Int32 × Zs)} {S : Zs}   {ls : Array Slot} {H : Heap} {locs : List Loc} (C : zC p s m args meth c cX11_plead 2 RX11 (some .int))  (h : n_X11_plead_0_e F  S  = some q) (hW : zW (xG D cs ad) s S H locs) (hl : lv_has ls 2 [(0, .ref (ad 0))]) : W p l e (zR 7 169) s m args below meth c H locs 0 0 (zQi (xG D cs ad) q below args s) (F0 m 0 ls []) := by
  unfold n_X11_plead_0_e at h
  obtain ⟨hx, hb, hml, hown, hts, hret, hlk⟩ := id C
  refine lv_aload_n hx hb dX11_plead_0 rfl (lv_at hl 0 rfl) ?_
  refine xg_0_8 C hW fl_X11_74 dX11_plead_1 ?_
  refine lv_aload_n hx hb dX11_plead_4 rfl (lv_at hl 0 rfl) ?_
  refine xg_0_0 C hW fl_X11_21 dX11_plead_5 ?_
  refine zz_callVi (As := [.ref (ad 1)]) C hW h (fun r hr => c_X3_hear_41_1 hr) lk_X11_290 (hW.recv xr_41) rfl hl.1 ⟨rfl, rfl⟩ ⟨Nat.le_of_ble_eq_true rfl, Nat.le_of_ble_eq_true rfl⟩ (Nat.le_of_ble_eq_true rfl) ⟨Nat.zero_le _, Nat.zero_le _⟩ rfl dX11_plead_8 (fun v2 S1 H locs h hW => ?_)
  refine lv_istore_n (lv' := [(1, .int v2), (0, .ref (ad 0))]) hx hb dX11_plead_11 rfl hl (by decide) rfl (fun ls hl => ?_)
  refine lv_aload_n hx hb dX11_plead_12 rfl (lv_at hl 1 rfl) ?_
  refine xg_0_0 C hW fl_X11_21 dX11_plead_13 ?_
  refine zz_callVv (As := []) C hW h (fun r hr => c_X8_wipe_1 hr) lk_X11_98 (hW.recv xr_1) rfl hl.1 ⟨rfl, rfl⟩ ⟨Nat.le_of_ble_eq_true rfl, Nat.le_of_ble_eq_true rfl⟩ (Nat.le_of_ble_eq_true rfl) ⟨Nat.zero_le _, Nat.zero_le _⟩ rfl dX11_plead_16 (fun v4 S3 H locs h hW => ?_)
  refine lv_iload_n hx hb dX11_plead_19 rfl (lv_at hl 0 rfl) ?_
  exact zz_iret C rfl h hW dX11_plead_20
def n_X11_plead_0 (F : Nat) (S : Zs)  : Option (Int32 × Zs) := n_X11_plead_0_e F  S 
theorem c_X11_plead_0 {l : Launch} {D : va_G} {cs ad : Nat → Nat} {F : Nat} {S : Zs}  {q : (Int32 × Zs)} (h : n_X11_plead_0 F S  = some q) : zMi l yX11_plead cX11_plead 2 (some .int) (zR 7 169) (xG D cs ad) [.ref (ad 0)] S q :=
  zz_enter (by decide) (Nat.le_of_ble_eq_true rfl) (fun p e s m below meth c ls C hW hl => w_X11_plead_0_e (F := F) C h hW (lv_sub hl [0] rfl))
def n_X3_tellOf_41_e (F : Nat)  (S : Zs) (x1 : Int32) (x2 : Int32) : Option (Int32 × Zs) :=
  if x2 = (0 : Int32) then (zld S 42 40 x1 (fun v1 => some (v1, S))) else (if x2 = (1 : Int32) then (zld S 43 40 x1 (fun v2 => some (v2, S))) else (if x2 = (2 : Int32) then (zld S 44 40 x1 (fun v3 => some (v3, S))) else (if x2 = (3 : Int32) then (zld S 45 40 x1 (fun v4 => some (v4, S))) else (zld S 46 40 x1 (fun v5 => some (v5, S))))))
set_option maxRecDepth 20000 in
set_option maxHeartbeats 4000000 in
theorem w_X3_tellOf_41_e {F : Nat} {q : (Int32 × Zs)} {S : Zs}  {x1 : Int32} {x2 : Int32} {ls : Array Slot} {H : Heap} {locs : List Loc} (C : zC p s m args meth c cX3_tellOf 3 RX3 (some .int))  (h : n_X3_tellOf_41_e F  S x1 x2 = some q) (hW : zW (xG D cs ad) s S H locs) (hl : lv_has ls 3 [(0, .ref (ad 41)), (1, .int x1), (2, .int x2)]) : W p l e (zR 0 0) s m args below meth c H locs 0 0 (zQi (xG D cs ad) q below args s) (F0 m 0 ls []) := by
  unfold n_X3_tellOf_41_e at h
  obtain ⟨hx, hb, hml, hown, hts, hret, hlk⟩ := id C
  refine lv_iload_n hx hb dX3_tellOf_0 rfl (lv_at hl 2 rfl) ?_
  by_cases e0 : x2 = (0 : Int32)
  · replace h := (zz_if h).1 e0
    refine lv_tableIn (off := 31) (tgt := 32) hx hb dX3_tellOf_1 (by rw [e0]; decide) (by rw [e0]; decide) (by rw [e0]; rfl) (by decide) ?_
    refine lv_aload_n hx hb dX3_tellOf_32 rfl (lv_at hl 0 rfl) ?_
    refine xg_41_1 C hW fl_X3_11 dX3_tellOf_33 ?_
    refine lv_iload_n hx hb dX3_tellOf_36 rfl (lv_at hl 1 rfl) ?_
    refine xl_42 C hW h dX3_tellOf_37 (fun v1 h => ?_)
    exact zz_iret C rfl h hW dX3_tellOf_38
  · replace h := (zz_if h).2 e0
    by_cases e1 : x2 = (1 : Int32)
    · replace h := (zz_if h).1 e1
      refine lv_tableIn (off := 38) (tgt := 39) hx hb dX3_tellOf_1 (by rw [e1]; decide) (by rw [e1]; decide) (by rw [e1]; rfl) (by decide) ?_
      refine lv_aload_n hx hb dX3_tellOf_39 rfl (lv_at hl 0 rfl) ?_
      refine xg_41_2 C hW fl_X3_15 dX3_tellOf_40 ?_
      refine lv_iload_n hx hb dX3_tellOf_43 rfl (lv_at hl 1 rfl) ?_
      refine xl_43 C hW h dX3_tellOf_44 (fun v2 h => ?_)
      exact zz_iret C rfl h hW dX3_tellOf_45
    · replace h := (zz_if h).2 e1
      by_cases e2 : x2 = (2 : Int32)
      · replace h := (zz_if h).1 e2
        refine lv_tableIn (off := 45) (tgt := 46) hx hb dX3_tellOf_1 (by rw [e2]; decide) (by rw [e2]; decide) (by rw [e2]; rfl) (by decide) ?_
        refine lv_aload_n hx hb dX3_tellOf_46 rfl (lv_at hl 0 rfl) ?_
        refine xg_41_3 C hW fl_X3_18 dX3_tellOf_47 ?_
        refine lv_iload_n hx hb dX3_tellOf_50 rfl (lv_at hl 1 rfl) ?_
        refine xl_44 C hW h dX3_tellOf_51 (fun v3 h => ?_)
        exact zz_iret C rfl h hW dX3_tellOf_52
      · replace h := (zz_if h).2 e2
        by_cases e3 : x2 = (3 : Int32)
        · replace h := (zz_if h).1 e3
          refine lv_tableIn (off := 52) (tgt := 53) hx hb dX3_tellOf_1 (by rw [e3]; decide) (by rw [e3]; decide) (by rw [e3]; rfl) (by decide) ?_
          refine lv_aload_n hx hb dX3_tellOf_53 rfl (lv_at hl 0 rfl) ?_
          refine xg_41_4 C hW fl_X3_21 dX3_tellOf_54 ?_
          refine lv_iload_n hx hb dX3_tellOf_57 rfl (lv_at hl 1 rfl) ?_
          refine xl_45 C hW h dX3_tellOf_58 (fun v4 h => ?_)
          exact zz_iret C rfl h hW dX3_tellOf_59
        · replace h := (zz_if h).2 e3
          refine lv_tableOut (tgt := 60) hx hb dX3_tellOf_1 (zsw_out (fun k h1 h2 => by rcases (show k = 0 ∨ k = 1 ∨ k = 2 ∨ k = 3 by omega) with rfl | rfl | rfl | rfl <;> first | exact e0 | exact e1 | exact e2 | exact e3)) (by decide) ?_
          refine lv_aload_n hx hb dX3_tellOf_60 rfl (lv_at hl 0 rfl) ?_
          refine xg_41_5 C hW fl_X3_24 dX3_tellOf_61 ?_
          refine lv_iload_n hx hb dX3_tellOf_64 rfl (lv_at hl 1 rfl) ?_
          refine xl_46 C hW h dX3_tellOf_65 (fun v5 h => ?_)
          exact zz_iret C rfl h hW dX3_tellOf_66
def n_X3_tellOf_41 (F : Nat) (S : Zs) (x1 : Int32) (x2 : Int32) : Option (Int32 × Zs) := n_X3_tellOf_41_e F  S x1 x2
theorem c_X3_tellOf_41 {l : Launch} {D : va_G} {cs ad : Nat → Nat} {F : Nat} {S : Zs} {x1 : Int32} {x2 : Int32} {q : (Int32 × Zs)} (h : n_X3_tellOf_41 F S x1 x2 = some q) : zMi l yX3_tellOf cX3_tellOf 3 (some .int) (zR 0 0) (xG D cs ad) [.ref (ad 41), .int x1, .int x2] S q :=
  zz_enter (by decide) (Nat.le_of_ble_eq_true rfl) (fun p e s m below meth c ls C hW hl => w_X3_tellOf_41_e (F := F) C h hW (lv_sub hl [0, 1, 2] rfl))
def n_X11_pleaded_0_e (F : Nat)  (S : Zs) (x1 : Int32) (x2 : Int32) : Option (Int32 × Zs) :=
  if x1 < 0 then (none) else (zgf S 826 (fun v1 => if v1 ≤ x1 then (none) else (if x2 < 0 then (none) else (if x2 ≤ (4 : Int32) then (zcl (n_X3_tellOf_41 F S x1 x2) (fun v3 S2 => some (v3, S2))) else (none)))))
set_option maxRecDepth 20000 in
set_option maxHeartbeats 4000000 in
theorem w_X11_pleaded_0_e {F : Nat} {q : (Int32 × Zs)} {S : Zs}  {x1 : Int32} {x2 : Int32} {ls : Array Slot} {H : Heap} {locs : List Loc} (C : zC p s m args meth c cX11_pleaded 3 RX11 (some .int))  (h : n_X11_pleaded_0_e F  S x1 x2 = some q) (hW : zW (xG D cs ad) s S H locs) (hl : lv_has ls 3 [(0, .ref (ad 0)), (1, .int x1), (2, .int x2)]) : W p l e (zR 1 22) s m args below meth c H locs 0 0 (zQi (xG D cs ad) q below args s) (F0 m 0 ls []) := by
  unfold n_X11_pleaded_0_e at h
  obtain ⟨hx, hb, hml, hown, hts, hret, hlk⟩ := id C
  refine lv_iload_n hx hb dX11_pleaded_0 rfl (lv_at hl 1 rfl) ?_
  refine zz_ilt (tgt := 24) C h dX11_pleaded_1 (by decide) (fun h => ?_) (fun h => ?_)
  · cases h
  · refine lv_iload_n hx hb dX11_pleaded_4 rfl (lv_at hl 1 rfl) ?_
    refine lv_aload_n hx hb dX11_pleaded_5 rfl (lv_at hl 0 rfl) ?_
    refine xg_0_8 C hW fl_X11_74 dX11_pleaded_6 ?_
    refine xg_41_6 C hW h fl_X11_291 dX11_pleaded_9 (fun v1 h => ?_)
    refine zz_cge (tgt := 24) C h dX11_pleaded_12 (by decide) (fun h => ?_) (fun h => ?_)
    · cases h
    · refine lv_iload_n hx hb dX11_pleaded_15 rfl (lv_at hl 2 rfl) ?_
      refine zz_ilt (tgt := 24) C h dX11_pleaded_16 (by decide) (fun h => ?_) (fun h => ?_)
      · cases h
      · refine lv_iload_n hx hb dX11_pleaded_19 rfl (lv_at hl 2 rfl) ?_
        refine lv_iconst (v := 4) hx hb dX11_pleaded_20 (by decide) ?_
        refine zz_cle (tgt := 32) C h dX11_pleaded_21 (by decide) (fun h => ?_) (fun h => ?_)
        · refine lv_aload_n hx hb dX11_pleaded_32 rfl (lv_at hl 0 rfl) ?_
          refine xg_0_8 C hW fl_X11_74 dX11_pleaded_33 ?_
          refine lv_iload_n hx hb dX11_pleaded_36 rfl (lv_at hl 1 rfl) ?_
          refine lv_iload_n hx hb dX11_pleaded_37 rfl (lv_at hl 2 rfl) ?_
          refine zz_callVi (As := [.int x1, .int x2]) C hW h (fun r hr => c_X3_tellOf_41 hr) lk_X11_294 (hW.recv xr_41) rfl hl.1 ⟨rfl, rfl⟩ ⟨Nat.le_of_ble_eq_true rfl, Nat.le_of_ble_eq_true rfl⟩ (Nat.le_of_ble_eq_true rfl) ⟨Nat.zero_le _, Nat.zero_le _⟩ rfl dX11_pleaded_38 (fun v3 S2 H locs h hW => ?_)
          exact zz_iret C rfl h hW dX11_pleaded_41
        · cases h
def n_X11_pleaded_0 (F : Nat) (S : Zs) (x1 : Int32) (x2 : Int32) : Option (Int32 × Zs) := n_X11_pleaded_0_e F  S x1 x2
theorem c_X11_pleaded_0 {l : Launch} {D : va_G} {cs ad : Nat → Nat} {F : Nat} {S : Zs} {x1 : Int32} {x2 : Int32} {q : (Int32 × Zs)} (h : n_X11_pleaded_0 F S x1 x2 = some q) : zMi l yX11_pleaded cX11_pleaded 3 (some .int) (zR 1 22) (xG D cs ad) [.ref (ad 0), .int x1, .int x2] S q :=
  zz_enter (by decide) (Nat.le_of_ble_eq_true rfl) (fun p e s m below meth c ls C hW hl => w_X11_pleaded_0_e (F := F) C h hW (lv_sub hl [0, 1, 2] rfl))
def n_X3_isStanding_41_b33 (F : Nat)  (S : Zs) (t0 : Int32) : Option (Int32 × Zs) :=
  zrb t0 S
set_option maxRecDepth 20000 in
set_option maxHeartbeats 4000000 in
theorem w_X3_isStanding_41_b33 {F : Nat} {q : (Int32 × Zs)} {S : Zs}  {t0 : Int32} {ls : Array Slot} {H : Heap} {locs : List Loc} (C : zC p s m args meth c cX3_isStanding 3 RX3 (some .boolean))  (h : n_X3_isStanding_41_b33 F  S t0 = some q) (hW : zW (xG D cs ad) s S H locs) (hl : lv_has ls 3 []) : W p l e (zR 1 21) s m args below meth c H locs 0 0 (zQi (xG D cs ad) q below args s) (F0 m 33 ls [.int t0]) := by
  unfold n_X3_isStanding_41_b33 at h
  obtain ⟨hx, hb, hml, hown, hts, hret, hlk⟩ := id C
  exact zz_zret C rfl h hW dX3_isStanding_33
def n_X3_isStanding_41_e (F : Nat)  (S : Zs) (x1 : Int32) (x2 : Int32) : Option (Int32 × Zs) :=
  if (16 : Int32) ≤ x1 then (if ((x2 >>> ((x1 - (16 : Int32)) &&& 31)) &&& (1 : Int32)) = 0 then (n_X3_isStanding_41_b33 F  S (0 : Int32)) else (n_X3_isStanding_41_b33 F  S (1 : Int32))) else (zcl (n_X2_isActive_3 F S x1) (fun v2 S1 => n_X3_isStanding_41_b33 F  S1 v2))
set_option maxRecDepth 20000 in
set_option maxHeartbeats 4000000 in
theorem w_X3_isStanding_41_e {F : Nat} {q : (Int32 × Zs)} {S : Zs}  {x1 : Int32} {x2 : Int32} {ls : Array Slot} {H : Heap} {locs : List Loc} (C : zC p s m args meth c cX3_isStanding 3 RX3 (some .boolean))  (h : n_X3_isStanding_41_e F  S x1 x2 = some q) (hW : zW (xG D cs ad) s S H locs) (hl : lv_has ls 3 [(0, .ref (ad 41)), (1, .int x1), (2, .int x2)]) : W p l e (zR 1 21) s m args below meth c H locs 0 0 (zQi (xG D cs ad) q below args s) (F0 m 0 ls []) := by
  unfold n_X3_isStanding_41_e at h
  obtain ⟨hx, hb, hml, hown, hts, hret, hlk⟩ := id C
  refine lv_iload_n hx hb dX3_isStanding_0 rfl (lv_at hl 1 rfl) ?_
  refine lv_bipush (v := 16) hx hb dX3_isStanding_1 (by decide) ?_
  refine zz_cge (tgt := 17) C h dX3_isStanding_3 (by decide) (fun h => ?_) (fun h => ?_)
  · refine lv_iload_n hx hb dX3_isStanding_17 rfl (lv_at hl 2 rfl) ?_
    refine lv_iload_n hx hb dX3_isStanding_18 rfl (lv_at hl 1 rfl) ?_
    refine lv_bipush (v := 16) hx hb dX3_isStanding_19 (by decide) ?_
    refine lv_isub hx hb dX3_isStanding_21 ?_
    refine lv_ishr hx hb dX3_isStanding_22 ?_
    refine lv_iconst (v := 1) hx hb dX3_isStanding_23 (by decide) ?_
    refine lv_iand hx hb dX3_isStanding_24 ?_
    refine zz_ieq (tgt := 32) C h dX3_isStanding_25 (by decide) (fun h => ?_) (fun h => ?_)
    · refine lv_iconst (v := 0) hx hb dX3_isStanding_32 (by decide) ?_
      exact w_X3_isStanding_41_b33 (F := F) C h hW (lv_sub hl [] rfl)
    · refine lv_iconst (v := 1) hx hb dX3_isStanding_28 (by decide) ?_
      refine lv_goto (tgt := 33) hx hb dX3_isStanding_29 (by decide) ?_
      exact w_X3_isStanding_41_b33 (F := F) C h hW (lv_sub hl [] rfl)
  · refine lv_aload_n hx hb dX3_isStanding_6 rfl (lv_at hl 0 rfl) ?_
    refine xg_41_0 C hW fl_X3_27 dX3_isStanding_7 ?_
    refine lv_iload_n hx hb dX3_isStanding_10 rfl (lv_at hl 1 rfl) ?_
    refine zz_callVi (As := [.int x1]) C hW h (fun r hr => c_X2_isActive_3 hr) lk_X3_92 (hW.recv xr_3) rfl hl.1 ⟨rfl, rfl⟩ ⟨Nat.le_of_ble_eq_true rfl, Nat.le_of_ble_eq_true rfl⟩ (Nat.le_of_ble_eq_true rfl) ⟨Nat.zero_le _, Nat.zero_le _⟩ rfl dX3_isStanding_11 (fun v2 S1 H locs h hW => ?_)
    refine lv_goto (tgt := 33) hx hb dX3_isStanding_14 (by decide) ?_
    exact w_X3_isStanding_41_b33 (F := F) C h hW (lv_sub hl [] rfl)
def n_X3_isStanding_41 (F : Nat) (S : Zs) (x1 : Int32) (x2 : Int32) : Option (Int32 × Zs) := n_X3_isStanding_41_e F  S x1 x2
theorem c_X3_isStanding_41 {l : Launch} {D : va_G} {cs ad : Nat → Nat} {F : Nat} {S : Zs} {x1 : Int32} {x2 : Int32} {q : (Int32 × Zs)} (h : n_X3_isStanding_41 F S x1 x2 = some q) : zMi l yX3_isStanding cX3_isStanding 3 (some .boolean) (zR 1 21) (xG D cs ad) [.ref (ad 41), .int x1, .int x2] S q :=
  zz_enter (by decide) (Nat.le_of_ble_eq_true rfl) (fun p e s m below meth c ls C hW hl => w_X3_isStanding_41_e (F := F) C h hW (lv_sub hl [0, 1, 2] rfl))
def n_X3_standing_41_b56 (F : Nat) (rc4 : Zs → Int32 → Int32 → Option (Int32 × Zs)) (S : Zs) (x1 : Int32) (x2 : Int32) : Option (Int32 × Zs) :=
  zlet (x2 + (1 : Int32)) (fun v1 => rc4 S x1 v1)
set_option maxRecDepth 20000 in
set_option maxHeartbeats 4000000 in
theorem w_X3_standing_41_b56 {F : Nat} {q : (Int32 × Zs)} {S : Zs} {rc4 : Zs → Int32 → Int32 → Option (Int32 × Zs)} {x1 : Int32} {x2 : Int32} {ls : Array Slot} {H : Heap} {locs : List Loc} (C : zC p s m args meth c cX3_standing 3 RX3 (some .int)) (hrc4 : ∀ (S : Zs) (x1 : Int32) (x2 : Int32) (H : Heap) (locs : List Loc) (ls : Array Slot), rc4 S x1 x2 = some q → zW (xG D cs ad) s S H locs → lv_has ls 3 [(0, .ref (ad 41)), (1, .int x1), (2, .int x2)] → W p l e (zR 2 43) s m args below meth c H locs 0 0 (zQi (xG D cs ad) q below args s) (F0 m 4 ls [])) (h : n_X3_standing_41_b56 F rc4 S x1 x2 = some q) (hW : zW (xG D cs ad) s S H locs) (hl : lv_has ls 3 [(0, .ref (ad 41)), (1, .int x1), (2, .int x2)]) : W p l e (zR 2 43) s m args below meth c H locs 0 0 (zQi (xG D cs ad) q below args s) (F0 m 56 ls []) := by
  unfold n_X3_standing_41_b56 at h
  obtain ⟨hx, hb, hml, hown, hts, hret, hlk⟩ := id C
  obtain ⟨v1, ev1, h⟩ := zz_name h
  refine lv_iinc (v := v1) (lv' := [(2, .int v1), (0, .ref (ad 41)), (1, .int x1)]) hx hb dX3_standing_56 hl (k := 2) rfl ev1.symm (by decide) rfl (fun ls hl => ?_)
  refine lv_goto (tgt := 4) hx hb dX3_standing_59 (by decide) ?_
  exact hrc4 _ _ _ _ _ _ h hW (lv_sub hl [1, 2, 0] rfl)
def n_X3_standing_41_b50 (F : Nat) (rc4 : Zs → Int32 → Int32 → Option (Int32 × Zs)) (S : Zs) (x1 : Int32) (x2 : Int32) : Option (Int32 × Zs) :=
  zlet (x1 ||| ((1 : Int32) <<< (x2 &&& 31))) (fun v1 => n_X3_standing_41_b56 F rc4 S v1 x2)
set_option maxRecDepth 20000 in
set_option maxHeartbeats 4000000 in
theorem w_X3_standing_41_b50 {F : Nat} {q : (Int32 × Zs)} {S : Zs} {rc4 : Zs → Int32 → Int32 → Option (Int32 × Zs)} {x1 : Int32} {x2 : Int32} {ls : Array Slot} {H : Heap} {locs : List Loc} (C : zC p s m args meth c cX3_standing 3 RX3 (some .int)) (hrc4 : ∀ (S : Zs) (x1 : Int32) (x2 : Int32) (H : Heap) (locs : List Loc) (ls : Array Slot), rc4 S x1 x2 = some q → zW (xG D cs ad) s S H locs → lv_has ls 3 [(0, .ref (ad 41)), (1, .int x1), (2, .int x2)] → W p l e (zR 2 43) s m args below meth c H locs 0 0 (zQi (xG D cs ad) q below args s) (F0 m 4 ls [])) (h : n_X3_standing_41_b50 F rc4 S x1 x2 = some q) (hW : zW (xG D cs ad) s S H locs) (hl : lv_has ls 3 [(0, .ref (ad 41)), (1, .int x1), (2, .int x2)]) : W p l e (zR 2 43) s m args below meth c H locs 0 0 (zQi (xG D cs ad) q below args s) (F0 m 50 ls []) := by
  unfold n_X3_standing_41_b50 at h
  obtain ⟨hx, hb, hml, hown, hts, hret, hlk⟩ := id C
  refine lv_iload_n hx hb dX3_standing_50 rfl (lv_at hl 1 rfl) ?_
  refine lv_iconst (v := 1) hx hb dX3_standing_51 (by decide) ?_
  refine lv_iload_n hx hb dX3_standing_52 rfl (lv_at hl 2 rfl) ?_
  refine lv_ishl hx hb dX3_standing_53 ?_
  refine lv_ior hx hb dX3_standing_54 ?_
  refine zz_leti h (fun v1 h => ?_)
  refine lv_istore_n (lv' := [(1, .int v1), (0, .ref (ad 41)), (2, .int x2)]) hx hb dX3_standing_55 rfl hl (by decide) rfl (fun ls hl => ?_)
  exact w_X3_standing_41_b56 (F := F) C hrc4 h hW (lv_sub hl [1, 0, 2] rfl)
def n_X3_standing_41_b4_l (F : Nat) (rc4 : Zs → Int32 → Int32 → Option (Int32 × Zs)) (S : Zs) (x1 : Int32) (x2 : Int32) : Option (Int32 × Zs) :=
  zgf S 826 (fun v1 => if v1 ≤ x2 then (some (x1, S)) else (zld S 44 40 x2 (fun v2 => zcl (n_X3_isStanding_41 F S v2 x1) (fun v4 S3 => if v4 = 0 then (n_X3_standing_41_b56 F rc4 S3 x1 x2) else (zld S3 45 40 x2 (fun v5 => if v5 = (-1 : Int32) then (n_X3_standing_41_b50 F rc4 S3 x1 x2) else (zld S3 45 40 x2 (fun v6 => zcl (n_X3_isStanding_41 F S3 v6 x1) (fun v8 S7 => if v8 = 0 then (n_X3_standing_41_b56 F rc4 S7 x1 x2) else (n_X3_standing_41_b50 F rc4 S7 x1 x2))))))))))
set_option maxRecDepth 20000 in
set_option maxHeartbeats 4000000 in
theorem w_X3_standing_41_b4_l {F : Nat} {q : (Int32 × Zs)} {S : Zs} {rc4 : Zs → Int32 → Int32 → Option (Int32 × Zs)} {x1 : Int32} {x2 : Int32} {ls : Array Slot} {H : Heap} {locs : List Loc} (C : zC p s m args meth c cX3_standing 3 RX3 (some .int)) (hrc4 : ∀ (S : Zs) (x1 : Int32) (x2 : Int32) (H : Heap) (locs : List Loc) (ls : Array Slot), rc4 S x1 x2 = some q → zW (xG D cs ad) s S H locs → lv_has ls 3 [(0, .ref (ad 41)), (1, .int x1), (2, .int x2)] → W p l e (zR 2 43) s m args below meth c H locs 0 0 (zQi (xG D cs ad) q below args s) (F0 m 4 ls [])) (h : n_X3_standing_41_b4_l F rc4 S x1 x2 = some q) (hW : zW (xG D cs ad) s S H locs) (hl : lv_has ls 3 [(0, .ref (ad 41)), (1, .int x1), (2, .int x2)]) : W p l e (zR 2 43) s m args below meth c H locs 0 0 (zQi (xG D cs ad) q below args s) (F0 m 4 ls []) := by
  unfold n_X3_standing_41_b4_l at h
  obtain ⟨hx, hb, hml, hown, hts, hret, hlk⟩ := id C
  refine lv_iload_n hx hb dX3_standing_4 rfl (lv_at hl 2 rfl) ?_
  refine lv_aload_n hx hb dX3_standing_5 rfl (lv_at hl 0 rfl) ?_
  refine xg_41_6 C hW h fl_X3_35 dX3_standing_6 (fun v1 h => ?_)
  refine zz_cge (tgt := 62) C h dX3_standing_9 (by decide) (fun h => ?_) (fun h => ?_)
  · refine lv_iload_n hx hb dX3_standing_62 rfl (lv_at hl 1 rfl) ?_
    exact zz_iret C rfl h hW dX3_standing_63
  · refine lv_aload_n hx hb dX3_standing_12 rfl (lv_at hl 0 rfl) ?_
    refine lv_aload_n hx hb dX3_standing_13 rfl (lv_at hl 0 rfl) ?_
    refine xg_41_3 C hW fl_X3_18 dX3_standing_14 ?_
    refine lv_iload_n hx hb dX3_standing_17 rfl (lv_at hl 2 rfl) ?_
    refine xl_44 C hW h dX3_standing_18 (fun v2 h => ?_)
    refine lv_iload_n hx hb dX3_standing_19 rfl (lv_at hl 1 rfl) ?_
    refine zz_callVi (As := [.int v2, .int x1]) C hW h (fun r hr => c_X3_isStanding_41 hr) lk_X3_143 (hW.recv xr_41) rfl hl.1 ⟨rfl, rfl⟩ ⟨Nat.le_of_ble_eq_true rfl, Nat.le_of_ble_eq_true rfl⟩ (Nat.le_of_ble_eq_true rfl) ⟨Nat.zero_le _, Nat.zero_le _⟩ rfl dX3_standing_20 (fun v4 S3 H locs h hW => ?_)
    refine zz_ieq (tgt := 56) C h dX3_standing_23 (by decide) (fun h => ?_) (fun h => ?_)
    · exact w_X3_standing_41_b56 (F := F) C hrc4 h hW (lv_sub hl [0, 1, 2] rfl)
    · refine lv_aload_n hx hb dX3_standing_26 rfl (lv_at hl 0 rfl) ?_
      refine xg_41_4 C hW fl_X3_21 dX3_standing_27 ?_
      refine lv_iload_n hx hb dX3_standing_30 rfl (lv_at hl 2 rfl) ?_
      refine xl_45 C hW h dX3_standing_31 (fun v5 h => ?_)
      refine lv_iconst (v := -1) hx hb dX3_standing_32 (by decide) ?_
      refine zz_ceq (tgt := 50) C h dX3_standing_33 (by decide) (fun h => ?_) (fun h => ?_)
      · exact w_X3_standing_41_b50 (F := F) C hrc4 h hW (lv_sub hl [0, 1, 2] rfl)
      · refine lv_aload_n hx hb dX3_standing_36 rfl (lv_at hl 0 rfl) ?_
        refine lv_aload_n hx hb dX3_standing_37 rfl (lv_at hl 0 rfl) ?_
        refine xg_41_4 C hW fl_X3_21 dX3_standing_38 ?_
        refine lv_iload_n hx hb dX3_standing_41 rfl (lv_at hl 2 rfl) ?_
        refine xl_45 C hW h dX3_standing_42 (fun v6 h => ?_)
        refine lv_iload_n hx hb dX3_standing_43 rfl (lv_at hl 1 rfl) ?_
        refine zz_callVi (As := [.int v6, .int x1]) C hW h (fun r hr => c_X3_isStanding_41 hr) lk_X3_143 (hW.recv xr_41) rfl hl.1 ⟨rfl, rfl⟩ ⟨Nat.le_of_ble_eq_true rfl, Nat.le_of_ble_eq_true rfl⟩ (Nat.le_of_ble_eq_true rfl) ⟨Nat.zero_le _, Nat.zero_le _⟩ rfl dX3_standing_44 (fun v8 S7 H locs h hW => ?_)
        refine zz_ieq (tgt := 56) C h dX3_standing_47 (by decide) (fun h => ?_) (fun h => ?_)
        · exact w_X3_standing_41_b56 (F := F) C hrc4 h hW (lv_sub hl [0, 1, 2] rfl)
        · exact w_X3_standing_41_b50 (F := F) C hrc4 h hW (lv_sub hl [0, 1, 2] rfl)
def n_X3_standing_41_b4 (F : Nat)  (S : Zs) (x1 : Int32) (x2 : Int32) : Option (Int32 × Zs) :=
  zfix (fun (rc : (Zs × Int32 × Int32) → Option (Int32 × Zs)) (u : (Zs × Int32 × Int32)) => n_X3_standing_41_b4_l F  (fun S x1 x2 => rc (S, x1, x2)) u.1 u.2.1 u.2.2) F (S, x1, x2)
theorem w_X3_standing_41_b4 {F : Nat} {q : (Int32 × Zs)}  (C : zC p s m args meth c cX3_standing 3 RX3 (some .int))  : ∀ (n : Nat) (S : Zs) (x1 : Int32) (x2 : Int32) (H : Heap) (locs : List Loc) (ls : Array Slot), zfix (fun (rc : (Zs × Int32 × Int32) → Option (Int32 × Zs)) (u : (Zs × Int32 × Int32)) => n_X3_standing_41_b4_l F  (fun S x1 x2 => rc (S, x1, x2)) u.1 u.2.1 u.2.2) n (S, x1, x2) = some q → zW (xG D cs ad) s S H locs → lv_has ls 3 [(0, .ref (ad 41)), (1, .int x1), (2, .int x2)] → W p l e (zR 2 43) s m args below meth c H locs 0 0 (zQi (xG D cs ad) q below args s) (F0 m 4 ls []) := by
  intro n
  induction n with
  | zero => intro S x1 x2 H locs ls h; exact absurd h (fun h => by cases h)
  | succ n ih => intro S x1 x2 H locs ls h hW hl; exact w_X3_standing_41_b4_l (F := F) C (fun S x1 x2 H locs ls h hW hl => ih S x1 x2 H locs ls h hW hl) h hW hl
def n_X3_standing_41_e (F : Nat)  (S : Zs)  : Option (Int32 × Zs) :=
  n_X3_standing_41_b4 F  S (0 : Int32) (0 : Int32)
set_option maxRecDepth 20000 in
set_option maxHeartbeats 4000000 in
theorem w_X3_standing_41_e {F : Nat} {q : (Int32 × Zs)} {S : Zs}   {ls : Array Slot} {H : Heap} {locs : List Loc} (C : zC p s m args meth c cX3_standing 3 RX3 (some .int))  (h : n_X3_standing_41_e F  S  = some q) (hW : zW (xG D cs ad) s S H locs) (hl : lv_has ls 3 [(0, .ref (ad 41))]) : W p l e (zR 2 43) s m args below meth c H locs 0 0 (zQi (xG D cs ad) q below args s) (F0 m 0 ls []) := by
  unfold n_X3_standing_41_e at h
  obtain ⟨hx, hb, hml, hown, hts, hret, hlk⟩ := id C
  refine lv_iconst (v := 0) hx hb dX3_standing_0 (by decide) ?_
  refine lv_istore_n (lv' := [(1, .int (0 : Int32)), (0, .ref (ad 41))]) hx hb dX3_standing_1 rfl hl (by decide) rfl (fun ls hl => ?_)
  refine lv_iconst (v := 0) hx hb dX3_standing_2 (by decide) ?_
  refine lv_istore_n (lv' := [(2, .int (0 : Int32)), (1, .int (0 : Int32)), (0, .ref (ad 41))]) hx hb dX3_standing_3 rfl hl (by decide) rfl (fun ls hl => ?_)
  exact w_X3_standing_41_b4 (F := F) C F _ _ _ _ _ _ h hW (lv_sub hl [2, 1, 0] rfl)
def n_X3_standing_41 (F : Nat) (S : Zs)  : Option (Int32 × Zs) := n_X3_standing_41_e F  S 
theorem c_X3_standing_41 {l : Launch} {D : va_G} {cs ad : Nat → Nat} {F : Nat} {S : Zs}  {q : (Int32 × Zs)} (h : n_X3_standing_41 F S  = some q) : zMi l yX3_standing cX3_standing 3 (some .int) (zR 2 43) (xG D cs ad) [.ref (ad 41)] S q :=
  zz_enter (by decide) (Nat.le_of_ble_eq_true rfl) (fun p e s m below meth c ls C hW hl => w_X3_standing_41_e (F := F) C h hW (lv_sub hl [0] rfl))
def n_X11_stands_0_e (F : Nat)  (S : Zs)  : Option (Int32 × Zs) :=
  zcl (n_X3_standing_41 F S ) (fun v2 S1 => some (v2, S1))
set_option maxRecDepth 20000 in
set_option maxHeartbeats 4000000 in
theorem w_X11_stands_0_e {F : Nat} {q : (Int32 × Zs)} {S : Zs}   {ls : Array Slot} {H : Heap} {locs : List Loc} (C : zC p s m args meth c cX11_stands 1 RX11 (some .int))  (h : n_X11_stands_0_e F  S  = some q) (hW : zW (xG D cs ad) s S H locs) (hl : lv_has ls 1 [(0, .ref (ad 0))]) : W p l e (zR 3 65) s m args below meth c H locs 0 0 (zQi (xG D cs ad) q below args s) (F0 m 0 ls []) := by
  unfold n_X11_stands_0_e at h
  obtain ⟨hx, hb, hml, hown, hts, hret, hlk⟩ := id C
  refine lv_aload_n hx hb dX11_stands_0 rfl (lv_at hl 0 rfl) ?_
  refine xg_0_8 C hW fl_X11_74 dX11_stands_1 ?_
  refine zz_callVi (As := []) C hW h (fun r hr => c_X3_standing_41 hr) lk_X11_295 (hW.recv xr_41) rfl hl.1 ⟨rfl, rfl⟩ ⟨Nat.le_of_ble_eq_true rfl, Nat.le_of_ble_eq_true rfl⟩ (Nat.le_of_ble_eq_true rfl) ⟨Nat.zero_le _, Nat.zero_le _⟩ rfl dX11_stands_4 (fun v2 S1 H locs h hW => ?_)
  exact zz_iret C rfl h hW dX11_stands_7
def n_X11_stands_0 (F : Nat) (S : Zs)  : Option (Int32 × Zs) := n_X11_stands_0_e F  S 
theorem c_X11_stands_0 {l : Launch} {D : va_G} {cs ad : Nat → Nat} {F : Nat} {S : Zs}  {q : (Int32 × Zs)} (h : n_X11_stands_0 F S  = some q) : zMi l yX11_stands cX11_stands 1 (some .int) (zR 3 65) (xG D cs ad) [.ref (ad 0)] S q :=
  zz_enter (by decide) (Nat.le_of_ble_eq_true rfl) (fun p e s m below meth c ls C hW hl => w_X11_stands_0_e (F := F) C h hW (lv_sub hl [0] rfl))
def n_X3_stepsOf_41_b28 (F : Nat) (rc4 : Zs → Int32 → Int32 → Int32 → Option (Int32 × Zs)) (S : Zs) (x1 : Int32) (x2 : Int32) (x3 : Int32) : Option (Int32 × Zs) :=
  zlet (x3 + (1 : Int32)) (fun v1 => rc4 S x1 x2 v1)
set_option maxRecDepth 20000 in
set_option maxHeartbeats 4000000 in
theorem w_X3_stepsOf_41_b28 {F : Nat} {q : (Int32 × Zs)} {S : Zs} {rc4 : Zs → Int32 → Int32 → Int32 → Option (Int32 × Zs)} {x1 : Int32} {x2 : Int32} {x3 : Int32} {ls : Array Slot} {H : Heap} {locs : List Loc} (C : zC p s m args meth c cX3_stepsOf 4 RX3 (some .int)) (hrc4 : ∀ (S : Zs) (x1 : Int32) (x2 : Int32) (x3 : Int32) (H : Heap) (locs : List Loc) (ls : Array Slot), rc4 S x1 x2 x3 = some q → zW (xG D cs ad) s S H locs → lv_has ls 4 [(0, .ref (ad 41)), (1, .int x1), (2, .int x2), (3, .int x3)] → W p l e (zR 0 0) s m args below meth c H locs 0 0 (zQi (xG D cs ad) q below args s) (F0 m 4 ls [])) (h : n_X3_stepsOf_41_b28 F rc4 S x1 x2 x3 = some q) (hW : zW (xG D cs ad) s S H locs) (hl : lv_has ls 4 [(0, .ref (ad 41)), (1, .int x1), (2, .int x2), (3, .int x3)]) : W p l e (zR 0 0) s m args below meth c H locs 0 0 (zQi (xG D cs ad) q below args s) (F0 m 28 ls []) := by
  unfold n_X3_stepsOf_41_b28 at h
  obtain ⟨hx, hb, hml, hown, hts, hret, hlk⟩ := id C
  obtain ⟨v1, ev1, h⟩ := zz_name h
  refine lv_iinc (v := v1) (lv' := [(3, .int v1), (0, .ref (ad 41)), (1, .int x1), (2, .int x2)]) hx hb dX3_stepsOf_28 hl (k := 3) rfl ev1.symm (by decide) rfl (fun ls hl => ?_)
  refine lv_goto (tgt := 4) hx hb dX3_stepsOf_31 (by decide) ?_
  exact hrc4 _ _ _ _ _ _ _ h hW (lv_sub hl [1, 2, 3, 0] rfl)
def n_X3_stepsOf_41_b4_l (F : Nat) (rc4 : Zs → Int32 → Int32 → Int32 → Option (Int32 × Zs)) (S : Zs) (x1 : Int32) (x2 : Int32) (x3 : Int32) : Option (Int32 × Zs) :=
  zgf S 826 (fun v1 => if v1 ≤ x3 then (some (x2, S)) else (zld S 43 40 x3 (fun v2 => if v2 = x1 then (zlet (x2 ||| ((1 : Int32) <<< (x3 &&& 31))) (fun v3 => n_X3_stepsOf_41_b28 F rc4 S x1 v3 x3)) else (n_X3_stepsOf_41_b28 F rc4 S x1 x2 x3))))
set_option maxRecDepth 20000 in
set_option maxHeartbeats 4000000 in
theorem w_X3_stepsOf_41_b4_l {F : Nat} {q : (Int32 × Zs)} {S : Zs} {rc4 : Zs → Int32 → Int32 → Int32 → Option (Int32 × Zs)} {x1 : Int32} {x2 : Int32} {x3 : Int32} {ls : Array Slot} {H : Heap} {locs : List Loc} (C : zC p s m args meth c cX3_stepsOf 4 RX3 (some .int)) (hrc4 : ∀ (S : Zs) (x1 : Int32) (x2 : Int32) (x3 : Int32) (H : Heap) (locs : List Loc) (ls : Array Slot), rc4 S x1 x2 x3 = some q → zW (xG D cs ad) s S H locs → lv_has ls 4 [(0, .ref (ad 41)), (1, .int x1), (2, .int x2), (3, .int x3)] → W p l e (zR 0 0) s m args below meth c H locs 0 0 (zQi (xG D cs ad) q below args s) (F0 m 4 ls [])) (h : n_X3_stepsOf_41_b4_l F rc4 S x1 x2 x3 = some q) (hW : zW (xG D cs ad) s S H locs) (hl : lv_has ls 4 [(0, .ref (ad 41)), (1, .int x1), (2, .int x2), (3, .int x3)]) : W p l e (zR 0 0) s m args below meth c H locs 0 0 (zQi (xG D cs ad) q below args s) (F0 m 4 ls []) := by
  unfold n_X3_stepsOf_41_b4_l at h
  obtain ⟨hx, hb, hml, hown, hts, hret, hlk⟩ := id C
  refine lv_iload_n hx hb dX3_stepsOf_4 rfl (lv_at hl 3 rfl) ?_
  refine lv_aload_n hx hb dX3_stepsOf_5 rfl (lv_at hl 0 rfl) ?_
  refine xg_41_6 C hW h fl_X3_35 dX3_stepsOf_6 (fun v1 h => ?_)
  refine zz_cge (tgt := 34) C h dX3_stepsOf_9 (by decide) (fun h => ?_) (fun h => ?_)
  · refine lv_iload_n hx hb dX3_stepsOf_34 rfl (lv_at hl 2 rfl) ?_
    exact zz_iret C rfl h hW dX3_stepsOf_35
  · refine lv_aload_n hx hb dX3_stepsOf_12 rfl (lv_at hl 0 rfl) ?_
    refine xg_41_2 C hW fl_X3_15 dX3_stepsOf_13 ?_
    refine lv_iload_n hx hb dX3_stepsOf_16 rfl (lv_at hl 3 rfl) ?_
    refine xl_43 C hW h dX3_stepsOf_17 (fun v2 h => ?_)
    refine lv_iload_n hx hb dX3_stepsOf_18 rfl (lv_at hl 1 rfl) ?_
    refine zz_cne (tgt := 28) C h dX3_stepsOf_19 (by decide) (fun h => ?_) (fun h => ?_)
    · exact w_X3_stepsOf_41_b28 (F := F) C hrc4 h hW (lv_sub hl [0, 1, 2, 3] rfl)
    · refine lv_iload_n hx hb dX3_stepsOf_22 rfl (lv_at hl 2 rfl) ?_
      refine lv_iconst (v := 1) hx hb dX3_stepsOf_23 (by decide) ?_
      refine lv_iload_n hx hb dX3_stepsOf_24 rfl (lv_at hl 3 rfl) ?_
      refine lv_ishl hx hb dX3_stepsOf_25 ?_
      refine lv_ior hx hb dX3_stepsOf_26 ?_
      refine zz_leti h (fun v3 h => ?_)
      refine lv_istore_n (lv' := [(2, .int v3), (0, .ref (ad 41)), (1, .int x1), (3, .int x3)]) hx hb dX3_stepsOf_27 rfl hl (by decide) rfl (fun ls hl => ?_)
      exact w_X3_stepsOf_41_b28 (F := F) C hrc4 h hW (lv_sub hl [1, 2, 0, 3] rfl)
def n_X3_stepsOf_41_b4 (F : Nat)  (S : Zs) (x1 : Int32) (x2 : Int32) (x3 : Int32) : Option (Int32 × Zs) :=
  zfix (fun (rc : (Zs × Int32 × Int32 × Int32) → Option (Int32 × Zs)) (u : (Zs × Int32 × Int32 × Int32)) => n_X3_stepsOf_41_b4_l F  (fun S x1 x2 x3 => rc (S, x1, x2, x3)) u.1 u.2.1 u.2.2.1 u.2.2.2) F (S, x1, x2, x3)
theorem w_X3_stepsOf_41_b4 {F : Nat} {q : (Int32 × Zs)}  (C : zC p s m args meth c cX3_stepsOf 4 RX3 (some .int))  : ∀ (n : Nat) (S : Zs) (x1 : Int32) (x2 : Int32) (x3 : Int32) (H : Heap) (locs : List Loc) (ls : Array Slot), zfix (fun (rc : (Zs × Int32 × Int32 × Int32) → Option (Int32 × Zs)) (u : (Zs × Int32 × Int32 × Int32)) => n_X3_stepsOf_41_b4_l F  (fun S x1 x2 x3 => rc (S, x1, x2, x3)) u.1 u.2.1 u.2.2.1 u.2.2.2) n (S, x1, x2, x3) = some q → zW (xG D cs ad) s S H locs → lv_has ls 4 [(0, .ref (ad 41)), (1, .int x1), (2, .int x2), (3, .int x3)] → W p l e (zR 0 0) s m args below meth c H locs 0 0 (zQi (xG D cs ad) q below args s) (F0 m 4 ls []) := by
  intro n
  induction n with
  | zero => intro S x1 x2 x3 H locs ls h; exact absurd h (fun h => by cases h)
  | succ n ih => intro S x1 x2 x3 H locs ls h hW hl; exact w_X3_stepsOf_41_b4_l (F := F) C (fun S x1 x2 x3 H locs ls h hW hl => ih S x1 x2 x3 H locs ls h hW hl) h hW hl
def n_X3_stepsOf_41_e (F : Nat)  (S : Zs) (x1 : Int32) : Option (Int32 × Zs) :=
  n_X3_stepsOf_41_b4 F  S x1 (0 : Int32) (0 : Int32)
set_option maxRecDepth 20000 in
set_option maxHeartbeats 4000000 in
theorem w_X3_stepsOf_41_e {F : Nat} {q : (Int32 × Zs)} {S : Zs}  {x1 : Int32} {ls : Array Slot} {H : Heap} {locs : List Loc} (C : zC p s m args meth c cX3_stepsOf 4 RX3 (some .int))  (h : n_X3_stepsOf_41_e F  S x1 = some q) (hW : zW (xG D cs ad) s S H locs) (hl : lv_has ls 4 [(0, .ref (ad 41)), (1, .int x1)]) : W p l e (zR 0 0) s m args below meth c H locs 0 0 (zQi (xG D cs ad) q below args s) (F0 m 0 ls []) := by
  unfold n_X3_stepsOf_41_e at h
  obtain ⟨hx, hb, hml, hown, hts, hret, hlk⟩ := id C
  refine lv_iconst (v := 0) hx hb dX3_stepsOf_0 (by decide) ?_
  refine lv_istore_n (lv' := [(2, .int (0 : Int32)), (0, .ref (ad 41)), (1, .int x1)]) hx hb dX3_stepsOf_1 rfl hl (by decide) rfl (fun ls hl => ?_)
  refine lv_iconst (v := 0) hx hb dX3_stepsOf_2 (by decide) ?_
  refine lv_istore_n (lv' := [(3, .int (0 : Int32)), (2, .int (0 : Int32)), (0, .ref (ad 41)), (1, .int x1)]) hx hb dX3_stepsOf_3 rfl hl (by decide) rfl (fun ls hl => ?_)
  exact w_X3_stepsOf_41_b4 (F := F) C F _ _ _ _ _ _ _ h hW (lv_sub hl [2, 3, 1, 0] rfl)
def n_X3_stepsOf_41 (F : Nat) (S : Zs) (x1 : Int32) : Option (Int32 × Zs) := n_X3_stepsOf_41_e F  S x1
theorem c_X3_stepsOf_41 {l : Launch} {D : va_G} {cs ad : Nat → Nat} {F : Nat} {S : Zs} {x1 : Int32} {q : (Int32 × Zs)} (h : n_X3_stepsOf_41 F S x1 = some q) : zMi l yX3_stepsOf cX3_stepsOf 4 (some .int) (zR 0 0) (xG D cs ad) [.ref (ad 41), .int x1] S q :=
  zz_enter (by decide) (Nat.le_of_ble_eq_true rfl) (fun p e s m below meth c ls C hW hl => w_X3_stepsOf_41_e (F := F) C h hW (lv_sub hl [0, 1] rfl))
def n_X2_isWanted_3_b2_l (F : Nat) (rc2 : Zs → Int32 → Int32 → Option (Int32 × Zs)) (S : Zs) (x1 : Int32) (x2 : Int32) : Option (Int32 × Zs) :=
  zgf S 68 (fun v1 => if v1 ≤ x2 then (zrb (0 : Int32) S) else (zld S 6 6 x2 (fun v2 => if v2 = x1 then (zrb (1 : Int32) S) else (zlet (x2 + (1 : Int32)) (fun v3 => rc2 S x1 v3)))))
set_option maxRecDepth 20000 in
set_option maxHeartbeats 4000000 in
theorem w_X2_isWanted_3_b2_l {F : Nat} {q : (Int32 × Zs)} {S : Zs} {rc2 : Zs → Int32 → Int32 → Option (Int32 × Zs)} {x1 : Int32} {x2 : Int32} {ls : Array Slot} {H : Heap} {locs : List Loc} (C : zC p s m args meth c cX2_isWanted 3 RX2 (some .boolean)) (hrc2 : ∀ (S : Zs) (x1 : Int32) (x2 : Int32) (H : Heap) (locs : List Loc) (ls : Array Slot), rc2 S x1 x2 = some q → zW (xG D cs ad) s S H locs → lv_has ls 3 [(0, .ref (ad 3)), (1, .int x1), (2, .int x2)] → W p l e (zR 0 0) s m args below meth c H locs 0 0 (zQi (xG D cs ad) q below args s) (F0 m 2 ls [])) (h : n_X2_isWanted_3_b2_l F rc2 S x1 x2 = some q) (hW : zW (xG D cs ad) s S H locs) (hl : lv_has ls 3 [(0, .ref (ad 3)), (1, .int x1), (2, .int x2)]) : W p l e (zR 0 0) s m args below meth c H locs 0 0 (zQi (xG D cs ad) q below args s) (F0 m 2 ls []) := by
  unfold n_X2_isWanted_3_b2_l at h
  obtain ⟨hx, hb, hml, hown, hts, hret, hlk⟩ := id C
  refine lv_iload_n hx hb dX2_isWanted_2 rfl (lv_at hl 2 rfl) ?_
  refine lv_aload_n hx hb dX2_isWanted_3 rfl (lv_at hl 0 rfl) ?_
  refine xg_3_8 C hW h fl_X2_90 dX2_isWanted_4 (fun v1 h => ?_)
  refine zz_cge (tgt := 28) C h dX2_isWanted_7 (by decide) (fun h => ?_) (fun h => ?_)
  · refine lv_iconst (v := 0) hx hb dX2_isWanted_28 (by decide) ?_
    exact zz_zret C rfl h hW dX2_isWanted_29
  · refine lv_aload_n hx hb dX2_isWanted_10 rfl (lv_at hl 0 rfl) ?_
    refine xg_3_7 C hW fl_X2_23 dX2_isWanted_11 ?_
    refine lv_iload_n hx hb dX2_isWanted_14 rfl (lv_at hl 2 rfl) ?_
    refine xl_6 C hW h dX2_isWanted_15 (fun v2 h => ?_)
    refine lv_iload_n hx hb dX2_isWanted_16 rfl (lv_at hl 1 rfl) ?_
    refine zz_cne (tgt := 22) C h dX2_isWanted_17 (by decide) (fun h => ?_) (fun h => ?_)
    · obtain ⟨v3, ev3, h⟩ := zz_name h
      refine lv_iinc (v := v3) (lv' := [(2, .int v3), (0, .ref (ad 3)), (1, .int x1)]) hx hb dX2_isWanted_22 hl (k := 2) rfl ev3.symm (by decide) rfl (fun ls hl => ?_)
      refine lv_goto (tgt := 2) hx hb dX2_isWanted_25 (by decide) ?_
      exact hrc2 _ _ _ _ _ _ h hW (lv_sub hl [1, 2, 0] rfl)
    · refine lv_iconst (v := 1) hx hb dX2_isWanted_20 (by decide) ?_
      exact zz_zret C rfl h hW dX2_isWanted_21
def n_X2_isWanted_3_b2 (F : Nat)  (S : Zs) (x1 : Int32) (x2 : Int32) : Option (Int32 × Zs) :=
  zfix (fun (rc : (Zs × Int32 × Int32) → Option (Int32 × Zs)) (u : (Zs × Int32 × Int32)) => n_X2_isWanted_3_b2_l F  (fun S x1 x2 => rc (S, x1, x2)) u.1 u.2.1 u.2.2) F (S, x1, x2)
theorem w_X2_isWanted_3_b2 {F : Nat} {q : (Int32 × Zs)}  (C : zC p s m args meth c cX2_isWanted 3 RX2 (some .boolean))  : ∀ (n : Nat) (S : Zs) (x1 : Int32) (x2 : Int32) (H : Heap) (locs : List Loc) (ls : Array Slot), zfix (fun (rc : (Zs × Int32 × Int32) → Option (Int32 × Zs)) (u : (Zs × Int32 × Int32)) => n_X2_isWanted_3_b2_l F  (fun S x1 x2 => rc (S, x1, x2)) u.1 u.2.1 u.2.2) n (S, x1, x2) = some q → zW (xG D cs ad) s S H locs → lv_has ls 3 [(0, .ref (ad 3)), (1, .int x1), (2, .int x2)] → W p l e (zR 0 0) s m args below meth c H locs 0 0 (zQi (xG D cs ad) q below args s) (F0 m 2 ls []) := by
  intro n
  induction n with
  | zero => intro S x1 x2 H locs ls h; exact absurd h (fun h => by cases h)
  | succ n ih => intro S x1 x2 H locs ls h hW hl; exact w_X2_isWanted_3_b2_l (F := F) C (fun S x1 x2 H locs ls h hW hl => ih S x1 x2 H locs ls h hW hl) h hW hl
def n_X2_isWanted_3_e (F : Nat)  (S : Zs) (x1 : Int32) : Option (Int32 × Zs) :=
  n_X2_isWanted_3_b2 F  S x1 (0 : Int32)
set_option maxRecDepth 20000 in
set_option maxHeartbeats 4000000 in
theorem w_X2_isWanted_3_e {F : Nat} {q : (Int32 × Zs)} {S : Zs}  {x1 : Int32} {ls : Array Slot} {H : Heap} {locs : List Loc} (C : zC p s m args meth c cX2_isWanted 3 RX2 (some .boolean))  (h : n_X2_isWanted_3_e F  S x1 = some q) (hW : zW (xG D cs ad) s S H locs) (hl : lv_has ls 3 [(0, .ref (ad 3)), (1, .int x1)]) : W p l e (zR 0 0) s m args below meth c H locs 0 0 (zQi (xG D cs ad) q below args s) (F0 m 0 ls []) := by
  unfold n_X2_isWanted_3_e at h
  obtain ⟨hx, hb, hml, hown, hts, hret, hlk⟩ := id C
  refine lv_iconst (v := 0) hx hb dX2_isWanted_0 (by decide) ?_
  refine lv_istore_n (lv' := [(2, .int (0 : Int32)), (0, .ref (ad 3)), (1, .int x1)]) hx hb dX2_isWanted_1 rfl hl (by decide) rfl (fun ls hl => ?_)
  exact w_X2_isWanted_3_b2 (F := F) C F _ _ _ _ _ _ h hW (lv_sub hl [1, 2, 0] rfl)
def n_X2_isWanted_3 (F : Nat) (S : Zs) (x1 : Int32) : Option (Int32 × Zs) := n_X2_isWanted_3_e F  S x1
theorem c_X2_isWanted_3 {l : Launch} {D : va_G} {cs ad : Nat → Nat} {F : Nat} {S : Zs} {x1 : Int32} {q : (Int32 × Zs)} (h : n_X2_isWanted_3 F S x1 = some q) : zMi l yX2_isWanted cX2_isWanted 3 (some .boolean) (zR 0 0) (xG D cs ad) [.ref (ad 3), .int x1] S q :=
  zz_enter (by decide) (Nat.le_of_ble_eq_true rfl) (fun p e s m below meth c ls C hW hl => w_X2_isWanted_3_e (F := F) C h hW (lv_sub hl [0, 1] rfl))
def n_X3_countWanted_41_b39 (F : Nat) (rc4 : Zs → Int32 → Int32 → Int32 → Option (Int32 × Zs)) (S : Zs) (x1 : Int32) (x2 : Int32) (x3 : Int32) : Option (Int32 × Zs) :=
  zlet (x3 + (1 : Int32)) (fun v1 => rc4 S x1 x2 v1)
set_option maxRecDepth 20000 in
set_option maxHeartbeats 4000000 in
theorem w_X3_countWanted_41_b39 {F : Nat} {q : (Int32 × Zs)} {S : Zs} {rc4 : Zs → Int32 → Int32 → Int32 → Option (Int32 × Zs)} {x1 : Int32} {x2 : Int32} {x3 : Int32} {ls : Array Slot} {H : Heap} {locs : List Loc} (C : zC p s m args meth c cX3_countWanted 4 RX3 (some .int)) (hrc4 : ∀ (S : Zs) (x1 : Int32) (x2 : Int32) (x3 : Int32) (H : Heap) (locs : List Loc) (ls : Array Slot), rc4 S x1 x2 x3 = some q → zW (xG D cs ad) s S H locs → lv_has ls 4 [(0, .ref (ad 41)), (1, .int x1), (2, .int x2), (3, .int x3)] → W p l e (zR 1 22) s m args below meth c H locs 0 0 (zQi (xG D cs ad) q below args s) (F0 m 4 ls [])) (h : n_X3_countWanted_41_b39 F rc4 S x1 x2 x3 = some q) (hW : zW (xG D cs ad) s S H locs) (hl : lv_has ls 4 [(0, .ref (ad 41)), (1, .int x1), (2, .int x2), (3, .int x3)]) : W p l e (zR 1 22) s m args below meth c H locs 0 0 (zQi (xG D cs ad) q below args s) (F0 m 39 ls []) := by
  unfold n_X3_countWanted_41_b39 at h
  obtain ⟨hx, hb, hml, hown, hts, hret, hlk⟩ := id C
  obtain ⟨v1, ev1, h⟩ := zz_name h
  refine lv_iinc (v := v1) (lv' := [(3, .int v1), (0, .ref (ad 41)), (1, .int x1), (2, .int x2)]) hx hb dX3_countWanted_39 hl (k := 3) rfl ev1.symm (by decide) rfl (fun ls hl => ?_)
  refine lv_goto (tgt := 4) hx hb dX3_countWanted_42 (by decide) ?_
  exact hrc4 _ _ _ _ _ _ _ h hW (lv_sub hl [1, 2, 3, 0] rfl)
def n_X3_countWanted_41_b4_l (F : Nat) (rc4 : Zs → Int32 → Int32 → Int32 → Option (Int32 × Zs)) (S : Zs) (x1 : Int32) (x2 : Int32) (x3 : Int32) : Option (Int32 × Zs) :=
  zgf S 826 (fun v1 => if v1 ≤ x3 then (some (x2, S)) else (if ((x1 >>> (x3 &&& 31)) &&& (1 : Int32)) = 0 then (n_X3_countWanted_41_b39 F rc4 S x1 x2 x3) else (zld S 42 40 x3 (fun v2 => zcl (n_X2_isWanted_3 F S v2) (fun v4 S3 => if v4 = 0 then (n_X3_countWanted_41_b39 F rc4 S3 x1 x2 x3) else (zlet (x2 + (1 : Int32)) (fun v5 => n_X3_countWanted_41_b39 F rc4 S3 x1 v5 x3)))))))
set_option maxRecDepth 20000 in
set_option maxHeartbeats 4000000 in
theorem w_X3_countWanted_41_b4_l {F : Nat} {q : (Int32 × Zs)} {S : Zs} {rc4 : Zs → Int32 → Int32 → Int32 → Option (Int32 × Zs)} {x1 : Int32} {x2 : Int32} {x3 : Int32} {ls : Array Slot} {H : Heap} {locs : List Loc} (C : zC p s m args meth c cX3_countWanted 4 RX3 (some .int)) (hrc4 : ∀ (S : Zs) (x1 : Int32) (x2 : Int32) (x3 : Int32) (H : Heap) (locs : List Loc) (ls : Array Slot), rc4 S x1 x2 x3 = some q → zW (xG D cs ad) s S H locs → lv_has ls 4 [(0, .ref (ad 41)), (1, .int x1), (2, .int x2), (3, .int x3)] → W p l e (zR 1 22) s m args below meth c H locs 0 0 (zQi (xG D cs ad) q below args s) (F0 m 4 ls [])) (h : n_X3_countWanted_41_b4_l F rc4 S x1 x2 x3 = some q) (hW : zW (xG D cs ad) s S H locs) (hl : lv_has ls 4 [(0, .ref (ad 41)), (1, .int x1), (2, .int x2), (3, .int x3)]) : W p l e (zR 1 22) s m args below meth c H locs 0 0 (zQi (xG D cs ad) q below args s) (F0 m 4 ls []) := by
  unfold n_X3_countWanted_41_b4_l at h
  obtain ⟨hx, hb, hml, hown, hts, hret, hlk⟩ := id C
  refine lv_iload_n hx hb dX3_countWanted_4 rfl (lv_at hl 3 rfl) ?_
  refine lv_aload_n hx hb dX3_countWanted_5 rfl (lv_at hl 0 rfl) ?_
  refine xg_41_6 C hW h fl_X3_35 dX3_countWanted_6 (fun v1 h => ?_)
  refine zz_cge (tgt := 45) C h dX3_countWanted_9 (by decide) (fun h => ?_) (fun h => ?_)
  · refine lv_iload_n hx hb dX3_countWanted_45 rfl (lv_at hl 2 rfl) ?_
    exact zz_iret C rfl h hW dX3_countWanted_46
  · refine lv_iload_n hx hb dX3_countWanted_12 rfl (lv_at hl 1 rfl) ?_
    refine lv_iload_n hx hb dX3_countWanted_13 rfl (lv_at hl 3 rfl) ?_
    refine lv_ishr hx hb dX3_countWanted_14 ?_
    refine lv_iconst (v := 1) hx hb dX3_countWanted_15 (by decide) ?_
    refine lv_iand hx hb dX3_countWanted_16 ?_
    refine zz_ieq (tgt := 39) C h dX3_countWanted_17 (by decide) (fun h => ?_) (fun h => ?_)
    · exact w_X3_countWanted_41_b39 (F := F) C hrc4 h hW (lv_sub hl [0, 1, 2, 3] rfl)
    · refine lv_aload_n hx hb dX3_countWanted_20 rfl (lv_at hl 0 rfl) ?_
      refine xg_41_0 C hW fl_X3_27 dX3_countWanted_21 ?_
      refine lv_aload_n hx hb dX3_countWanted_24 rfl (lv_at hl 0 rfl) ?_
      refine xg_41_1 C hW fl_X3_11 dX3_countWanted_25 ?_
      refine lv_iload_n hx hb dX3_countWanted_28 rfl (lv_at hl 3 rfl) ?_
      refine xl_42 C hW h dX3_countWanted_29 (fun v2 h => ?_)
      refine zz_callVi (As := [.int v2]) C hW h (fun r hr => c_X2_isWanted_3 hr) lk_X3_146 (hW.recv xr_3) rfl hl.1 ⟨rfl, rfl⟩ ⟨Nat.le_of_ble_eq_true rfl, Nat.le_of_ble_eq_true rfl⟩ (Nat.le_of_ble_eq_true rfl) ⟨Nat.zero_le _, Nat.zero_le _⟩ rfl dX3_countWanted_30 (fun v4 S3 H locs h hW => ?_)
      refine zz_ieq (tgt := 39) C h dX3_countWanted_33 (by decide) (fun h => ?_) (fun h => ?_)
      · exact w_X3_countWanted_41_b39 (F := F) C hrc4 h hW (lv_sub hl [0, 1, 2, 3] rfl)
      · obtain ⟨v5, ev5, h⟩ := zz_name h
        refine lv_iinc (v := v5) (lv' := [(2, .int v5), (0, .ref (ad 41)), (1, .int x1), (3, .int x3)]) hx hb dX3_countWanted_36 hl (k := 2) rfl ev5.symm (by decide) rfl (fun ls hl => ?_)
        exact w_X3_countWanted_41_b39 (F := F) C hrc4 h hW (lv_sub hl [1, 2, 0, 3] rfl)
def n_X3_countWanted_41_b4 (F : Nat)  (S : Zs) (x1 : Int32) (x2 : Int32) (x3 : Int32) : Option (Int32 × Zs) :=
  zfix (fun (rc : (Zs × Int32 × Int32 × Int32) → Option (Int32 × Zs)) (u : (Zs × Int32 × Int32 × Int32)) => n_X3_countWanted_41_b4_l F  (fun S x1 x2 x3 => rc (S, x1, x2, x3)) u.1 u.2.1 u.2.2.1 u.2.2.2) F (S, x1, x2, x3)
theorem w_X3_countWanted_41_b4 {F : Nat} {q : (Int32 × Zs)}  (C : zC p s m args meth c cX3_countWanted 4 RX3 (some .int))  : ∀ (n : Nat) (S : Zs) (x1 : Int32) (x2 : Int32) (x3 : Int32) (H : Heap) (locs : List Loc) (ls : Array Slot), zfix (fun (rc : (Zs × Int32 × Int32 × Int32) → Option (Int32 × Zs)) (u : (Zs × Int32 × Int32 × Int32)) => n_X3_countWanted_41_b4_l F  (fun S x1 x2 x3 => rc (S, x1, x2, x3)) u.1 u.2.1 u.2.2.1 u.2.2.2) n (S, x1, x2, x3) = some q → zW (xG D cs ad) s S H locs → lv_has ls 4 [(0, .ref (ad 41)), (1, .int x1), (2, .int x2), (3, .int x3)] → W p l e (zR 1 22) s m args below meth c H locs 0 0 (zQi (xG D cs ad) q below args s) (F0 m 4 ls []) := by
  intro n
  induction n with
  | zero => intro S x1 x2 x3 H locs ls h; exact absurd h (fun h => by cases h)
  | succ n ih => intro S x1 x2 x3 H locs ls h hW hl; exact w_X3_countWanted_41_b4_l (F := F) C (fun S x1 x2 x3 H locs ls h hW hl => ih S x1 x2 x3 H locs ls h hW hl) h hW hl
def n_X3_countWanted_41_e (F : Nat)  (S : Zs) (x1 : Int32) : Option (Int32 × Zs) :=
  n_X3_countWanted_41_b4 F  S x1 (0 : Int32) (0 : Int32)
set_option maxRecDepth 20000 in
set_option maxHeartbeats 4000000 in
theorem w_X3_countWanted_41_e {F : Nat} {q : (Int32 × Zs)} {S : Zs}  {x1 : Int32} {ls : Array Slot} {H : Heap} {locs : List Loc} (C : zC p s m args meth c cX3_countWanted 4 RX3 (some .int))  (h : n_X3_countWanted_41_e F  S x1 = some q) (hW : zW (xG D cs ad) s S H locs) (hl : lv_has ls 4 [(0, .ref (ad 41)), (1, .int x1)]) : W p l e (zR 1 22) s m args below meth c H locs 0 0 (zQi (xG D cs ad) q below args s) (F0 m 0 ls []) := by
  unfold n_X3_countWanted_41_e at h
  obtain ⟨hx, hb, hml, hown, hts, hret, hlk⟩ := id C
  refine lv_iconst (v := 0) hx hb dX3_countWanted_0 (by decide) ?_
  refine lv_istore_n (lv' := [(2, .int (0 : Int32)), (0, .ref (ad 41)), (1, .int x1)]) hx hb dX3_countWanted_1 rfl hl (by decide) rfl (fun ls hl => ?_)
  refine lv_iconst (v := 0) hx hb dX3_countWanted_2 (by decide) ?_
  refine lv_istore_n (lv' := [(3, .int (0 : Int32)), (2, .int (0 : Int32)), (0, .ref (ad 41)), (1, .int x1)]) hx hb dX3_countWanted_3 rfl hl (by decide) rfl (fun ls hl => ?_)
  exact w_X3_countWanted_41_b4 (F := F) C F _ _ _ _ _ _ _ h hW (lv_sub hl [2, 3, 1, 0] rfl)
def n_X3_countWanted_41 (F : Nat) (S : Zs) (x1 : Int32) : Option (Int32 × Zs) := n_X3_countWanted_41_e F  S x1
theorem c_X3_countWanted_41 {l : Launch} {D : va_G} {cs ad : Nat → Nat} {F : Nat} {S : Zs} {x1 : Int32} {q : (Int32 × Zs)} (h : n_X3_countWanted_41 F S x1 = some q) : zMi l yX3_countWanted cX3_countWanted 4 (some .int) (zR 1 22) (xG D cs ad) [.ref (ad 41), .int x1] S q :=
  zz_enter (by decide) (Nat.le_of_ble_eq_true rfl) (fun p e s m below meth c ls C hW hl => w_X3_countWanted_41_e (F := F) C h hW (lv_sub hl [0, 1] rfl))
def n_X2_isTold_3_b2_l (F : Nat) (rc2 : Zs → Int32 → Int32 → Option (Int32 × Zs)) (S : Zs) (x1 : Int32) (x2 : Int32) : Option (Int32 × Zs) :=
  zgf S 62 (fun v1 => if v1 ≤ x2 then (zrb (0 : Int32) S) else (zld S 4 16 x2 (fun v2 => if v2 = x1 then (zrb (1 : Int32) S) else (zlet (x2 + (1 : Int32)) (fun v3 => rc2 S x1 v3)))))
set_option maxRecDepth 20000 in
set_option maxHeartbeats 4000000 in
theorem w_X2_isTold_3_b2_l {F : Nat} {q : (Int32 × Zs)} {S : Zs} {rc2 : Zs → Int32 → Int32 → Option (Int32 × Zs)} {x1 : Int32} {x2 : Int32} {ls : Array Slot} {H : Heap} {locs : List Loc} (C : zC p s m args meth c cX2_isTold 3 RX2 (some .boolean)) (hrc2 : ∀ (S : Zs) (x1 : Int32) (x2 : Int32) (H : Heap) (locs : List Loc) (ls : Array Slot), rc2 S x1 x2 = some q → zW (xG D cs ad) s S H locs → lv_has ls 3 [(0, .ref (ad 3)), (1, .int x1), (2, .int x2)] → W p l e (zR 0 0) s m args below meth c H locs 0 0 (zQi (xG D cs ad) q below args s) (F0 m 2 ls [])) (h : n_X2_isTold_3_b2_l F rc2 S x1 x2 = some q) (hW : zW (xG D cs ad) s S H locs) (hl : lv_has ls 3 [(0, .ref (ad 3)), (1, .int x1), (2, .int x2)]) : W p l e (zR 0 0) s m args below meth c H locs 0 0 (zQi (xG D cs ad) q below args s) (F0 m 2 ls []) := by
  unfold n_X2_isTold_3_b2_l at h
  obtain ⟨hx, hb, hml, hown, hts, hret, hlk⟩ := id C
  refine lv_iload_n hx hb dX2_isTold_2 rfl (lv_at hl 2 rfl) ?_
  refine lv_aload_n hx hb dX2_isTold_3 rfl (lv_at hl 0 rfl) ?_
  refine xg_3_2 C hW h fl_X2_50 dX2_isTold_4 (fun v1 h => ?_)
  refine zz_cge (tgt := 28) C h dX2_isTold_7 (by decide) (fun h => ?_) (fun h => ?_)
  · refine lv_iconst (v := 0) hx hb dX2_isTold_28 (by decide) ?_
    exact zz_zret C rfl h hW dX2_isTold_29
  · refine lv_aload_n hx hb dX2_isTold_10 rfl (lv_at hl 0 rfl) ?_
    refine xg_3_0 C hW fl_X2_9 dX2_isTold_11 ?_
    refine lv_iload_n hx hb dX2_isTold_14 rfl (lv_at hl 2 rfl) ?_
    refine xl_4 C hW h dX2_isTold_15 (fun v2 h => ?_)
    refine lv_iload_n hx hb dX2_isTold_16 rfl (lv_at hl 1 rfl) ?_
    refine zz_cne (tgt := 22) C h dX2_isTold_17 (by decide) (fun h => ?_) (fun h => ?_)
    · obtain ⟨v3, ev3, h⟩ := zz_name h
      refine lv_iinc (v := v3) (lv' := [(2, .int v3), (0, .ref (ad 3)), (1, .int x1)]) hx hb dX2_isTold_22 hl (k := 2) rfl ev3.symm (by decide) rfl (fun ls hl => ?_)
      refine lv_goto (tgt := 2) hx hb dX2_isTold_25 (by decide) ?_
      exact hrc2 _ _ _ _ _ _ h hW (lv_sub hl [1, 2, 0] rfl)
    · refine lv_iconst (v := 1) hx hb dX2_isTold_20 (by decide) ?_
      exact zz_zret C rfl h hW dX2_isTold_21
def n_X2_isTold_3_b2 (F : Nat)  (S : Zs) (x1 : Int32) (x2 : Int32) : Option (Int32 × Zs) :=
  zfix (fun (rc : (Zs × Int32 × Int32) → Option (Int32 × Zs)) (u : (Zs × Int32 × Int32)) => n_X2_isTold_3_b2_l F  (fun S x1 x2 => rc (S, x1, x2)) u.1 u.2.1 u.2.2) F (S, x1, x2)
theorem w_X2_isTold_3_b2 {F : Nat} {q : (Int32 × Zs)}  (C : zC p s m args meth c cX2_isTold 3 RX2 (some .boolean))  : ∀ (n : Nat) (S : Zs) (x1 : Int32) (x2 : Int32) (H : Heap) (locs : List Loc) (ls : Array Slot), zfix (fun (rc : (Zs × Int32 × Int32) → Option (Int32 × Zs)) (u : (Zs × Int32 × Int32)) => n_X2_isTold_3_b2_l F  (fun S x1 x2 => rc (S, x1, x2)) u.1 u.2.1 u.2.2) n (S, x1, x2) = some q → zW (xG D cs ad) s S H locs → lv_has ls 3 [(0, .ref (ad 3)), (1, .int x1), (2, .int x2)] → W p l e (zR 0 0) s m args below meth c H locs 0 0 (zQi (xG D cs ad) q below args s) (F0 m 2 ls []) := by
  intro n
  induction n with
  | zero => intro S x1 x2 H locs ls h; exact absurd h (fun h => by cases h)
  | succ n ih => intro S x1 x2 H locs ls h hW hl; exact w_X2_isTold_3_b2_l (F := F) C (fun S x1 x2 H locs ls h hW hl => ih S x1 x2 H locs ls h hW hl) h hW hl
def n_X2_isTold_3_e (F : Nat)  (S : Zs) (x1 : Int32) : Option (Int32 × Zs) :=
  n_X2_isTold_3_b2 F  S x1 (0 : Int32)
set_option maxRecDepth 20000 in
set_option maxHeartbeats 4000000 in
theorem w_X2_isTold_3_e {F : Nat} {q : (Int32 × Zs)} {S : Zs}  {x1 : Int32} {ls : Array Slot} {H : Heap} {locs : List Loc} (C : zC p s m args meth c cX2_isTold 3 RX2 (some .boolean))  (h : n_X2_isTold_3_e F  S x1 = some q) (hW : zW (xG D cs ad) s S H locs) (hl : lv_has ls 3 [(0, .ref (ad 3)), (1, .int x1)]) : W p l e (zR 0 0) s m args below meth c H locs 0 0 (zQi (xG D cs ad) q below args s) (F0 m 0 ls []) := by
  unfold n_X2_isTold_3_e at h
  obtain ⟨hx, hb, hml, hown, hts, hret, hlk⟩ := id C
  refine lv_iconst (v := 0) hx hb dX2_isTold_0 (by decide) ?_
  refine lv_istore_n (lv' := [(2, .int (0 : Int32)), (0, .ref (ad 3)), (1, .int x1)]) hx hb dX2_isTold_1 rfl hl (by decide) rfl (fun ls hl => ?_)
  exact w_X2_isTold_3_b2 (F := F) C F _ _ _ _ _ _ h hW (lv_sub hl [1, 2, 0] rfl)
def n_X2_isTold_3 (F : Nat) (S : Zs) (x1 : Int32) : Option (Int32 × Zs) := n_X2_isTold_3_e F  S x1
theorem c_X2_isTold_3 {l : Launch} {D : va_G} {cs ad : Nat → Nat} {F : Nat} {S : Zs} {x1 : Int32} {q : (Int32 × Zs)} (h : n_X2_isTold_3 F S x1 = some q) : zMi l yX2_isTold cX2_isTold 3 (some .boolean) (zR 0 0) (xG D cs ad) [.ref (ad 3), .int x1] S q :=
  zz_enter (by decide) (Nat.le_of_ble_eq_true rfl) (fun p e s m below meth c ls C hW hl => w_X2_isTold_3_e (F := F) C h hW (lv_sub hl [0, 1] rfl))
def n_X3_isPleadedAhead_41_b2_l (F : Nat) (rc2 : Zs → Int32 → Int32 → Option (Int32 × Zs)) (S : Zs) (x1 : Int32) (x2 : Int32) : Option (Int32 × Zs) :=
  if x1 ≤ x2 then (zrb (0 : Int32) S) else (zld S 42 40 x2 (fun v1 => zld S 42 40 x1 (fun v2 => if v1 = v2 then (zrb (1 : Int32) S) else (zlet (x2 + (1 : Int32)) (fun v3 => rc2 S x1 v3)))))
set_option maxRecDepth 20000 in
set_option maxHeartbeats 4000000 in
theorem w_X3_isPleadedAhead_41_b2_l {F : Nat} {q : (Int32 × Zs)} {S : Zs} {rc2 : Zs → Int32 → Int32 → Option (Int32 × Zs)} {x1 : Int32} {x2 : Int32} {ls : Array Slot} {H : Heap} {locs : List Loc} (C : zC p s m args meth c cX3_isPleadedAhead 3 RX3 (some .boolean)) (hrc2 : ∀ (S : Zs) (x1 : Int32) (x2 : Int32) (H : Heap) (locs : List Loc) (ls : Array Slot), rc2 S x1 x2 = some q → zW (xG D cs ad) s S H locs → lv_has ls 3 [(0, .ref (ad 41)), (1, .int x1), (2, .int x2)] → W p l e (zR 0 0) s m args below meth c H locs 0 0 (zQi (xG D cs ad) q below args s) (F0 m 2 ls [])) (h : n_X3_isPleadedAhead_41_b2_l F rc2 S x1 x2 = some q) (hW : zW (xG D cs ad) s S H locs) (hl : lv_has ls 3 [(0, .ref (ad 41)), (1, .int x1), (2, .int x2)]) : W p l e (zR 0 0) s m args below meth c H locs 0 0 (zQi (xG D cs ad) q below args s) (F0 m 2 ls []) := by
  unfold n_X3_isPleadedAhead_41_b2_l at h
  obtain ⟨hx, hb, hml, hown, hts, hret, hlk⟩ := id C
  refine lv_iload_n hx hb dX3_isPleadedAhead_2 rfl (lv_at hl 2 rfl) ?_
  refine lv_iload_n hx hb dX3_isPleadedAhead_3 rfl (lv_at hl 1 rfl) ?_
  refine zz_cge (tgt := 30) C h dX3_isPleadedAhead_4 (by decide) (fun h => ?_) (fun h => ?_)
  · refine lv_iconst (v := 0) hx hb dX3_isPleadedAhead_30 (by decide) ?_
    exact zz_zret C rfl h hW dX3_isPleadedAhead_31
  · refine lv_aload_n hx hb dX3_isPleadedAhead_7 rfl (lv_at hl 0 rfl) ?_
    refine xg_41_1 C hW fl_X3_11 dX3_isPleadedAhead_8 ?_
    refine lv_iload_n hx hb dX3_isPleadedAhead_11 rfl (lv_at hl 2 rfl) ?_
    refine xl_42 C hW h dX3_isPleadedAhead_12 (fun v1 h => ?_)
    refine lv_aload_n hx hb dX3_isPleadedAhead_13 rfl (lv_at hl 0 rfl) ?_
    refine xg_41_1 C hW fl_X3_11 dX3_isPleadedAhead_14 ?_
    refine lv_iload_n hx hb dX3_isPleadedAhead_17 rfl (lv_at hl 1 rfl) ?_
    refine xl_42 C hW h dX3_isPleadedAhead_18 (fun v2 h => ?_)
    refine zz_cne (tgt := 24) C h dX3_isPleadedAhead_19 (by decide) (fun h => ?_) (fun h => ?_)
    · obtain ⟨v3, ev3, h⟩ := zz_name h
      refine lv_iinc (v := v3) (lv' := [(2, .int v3), (0, .ref (ad 41)), (1, .int x1)]) hx hb dX3_isPleadedAhead_24 hl (k := 2) rfl ev3.symm (by decide) rfl (fun ls hl => ?_)
      refine lv_goto (tgt := 2) hx hb dX3_isPleadedAhead_27 (by decide) ?_
      exact hrc2 _ _ _ _ _ _ h hW (lv_sub hl [1, 2, 0] rfl)
    · refine lv_iconst (v := 1) hx hb dX3_isPleadedAhead_22 (by decide) ?_
      exact zz_zret C rfl h hW dX3_isPleadedAhead_23
def n_X3_isPleadedAhead_41_b2 (F : Nat)  (S : Zs) (x1 : Int32) (x2 : Int32) : Option (Int32 × Zs) :=
  zfix (fun (rc : (Zs × Int32 × Int32) → Option (Int32 × Zs)) (u : (Zs × Int32 × Int32)) => n_X3_isPleadedAhead_41_b2_l F  (fun S x1 x2 => rc (S, x1, x2)) u.1 u.2.1 u.2.2) F (S, x1, x2)
theorem w_X3_isPleadedAhead_41_b2 {F : Nat} {q : (Int32 × Zs)}  (C : zC p s m args meth c cX3_isPleadedAhead 3 RX3 (some .boolean))  : ∀ (n : Nat) (S : Zs) (x1 : Int32) (x2 : Int32) (H : Heap) (locs : List Loc) (ls : Array Slot), zfix (fun (rc : (Zs × Int32 × Int32) → Option (Int32 × Zs)) (u : (Zs × Int32 × Int32)) => n_X3_isPleadedAhead_41_b2_l F  (fun S x1 x2 => rc (S, x1, x2)) u.1 u.2.1 u.2.2) n (S, x1, x2) = some q → zW (xG D cs ad) s S H locs → lv_has ls 3 [(0, .ref (ad 41)), (1, .int x1), (2, .int x2)] → W p l e (zR 0 0) s m args below meth c H locs 0 0 (zQi (xG D cs ad) q below args s) (F0 m 2 ls []) := by
  intro n
  induction n with
  | zero => intro S x1 x2 H locs ls h; exact absurd h (fun h => by cases h)
  | succ n ih => intro S x1 x2 H locs ls h hW hl; exact w_X3_isPleadedAhead_41_b2_l (F := F) C (fun S x1 x2 H locs ls h hW hl => ih S x1 x2 H locs ls h hW hl) h hW hl
def n_X3_isPleadedAhead_41_e (F : Nat)  (S : Zs) (x1 : Int32) : Option (Int32 × Zs) :=
  n_X3_isPleadedAhead_41_b2 F  S x1 (0 : Int32)
set_option maxRecDepth 20000 in
set_option maxHeartbeats 4000000 in
theorem w_X3_isPleadedAhead_41_e {F : Nat} {q : (Int32 × Zs)} {S : Zs}  {x1 : Int32} {ls : Array Slot} {H : Heap} {locs : List Loc} (C : zC p s m args meth c cX3_isPleadedAhead 3 RX3 (some .boolean))  (h : n_X3_isPleadedAhead_41_e F  S x1 = some q) (hW : zW (xG D cs ad) s S H locs) (hl : lv_has ls 3 [(0, .ref (ad 41)), (1, .int x1)]) : W p l e (zR 0 0) s m args below meth c H locs 0 0 (zQi (xG D cs ad) q below args s) (F0 m 0 ls []) := by
  unfold n_X3_isPleadedAhead_41_e at h
  obtain ⟨hx, hb, hml, hown, hts, hret, hlk⟩ := id C
  refine lv_iconst (v := 0) hx hb dX3_isPleadedAhead_0 (by decide) ?_
  refine lv_istore_n (lv' := [(2, .int (0 : Int32)), (0, .ref (ad 41)), (1, .int x1)]) hx hb dX3_isPleadedAhead_1 rfl hl (by decide) rfl (fun ls hl => ?_)
  exact w_X3_isPleadedAhead_41_b2 (F := F) C F _ _ _ _ _ _ h hW (lv_sub hl [1, 2, 0] rfl)
def n_X3_isPleadedAhead_41 (F : Nat) (S : Zs) (x1 : Int32) : Option (Int32 × Zs) := n_X3_isPleadedAhead_41_e F  S x1
theorem c_X3_isPleadedAhead_41 {l : Launch} {D : va_G} {cs ad : Nat → Nat} {F : Nat} {S : Zs} {x1 : Int32} {q : (Int32 × Zs)} (h : n_X3_isPleadedAhead_41 F S x1 = some q) : zMi l yX3_isPleadedAhead cX3_isPleadedAhead 3 (some .boolean) (zR 0 0) (xG D cs ad) [.ref (ad 41), .int x1] S q :=
  zz_enter (by decide) (Nat.le_of_ble_eq_true rfl) (fun p e s m below meth c ls C hW hl => w_X3_isPleadedAhead_41_e (F := F) C h hW (lv_sub hl [0, 1] rfl))
def n_X3_countRepeated_41_b47 (F : Nat) (rc4 : Zs → Int32 → Int32 → Int32 → Option (Int32 × Zs)) (S : Zs) (x1 : Int32) (x2 : Int32) (x3 : Int32) : Option (Int32 × Zs) :=
  zlet (x3 + (1 : Int32)) (fun v1 => rc4 S x1 x2 v1)
set_option maxRecDepth 20000 in
set_option maxHeartbeats 4000000 in
theorem w_X3_countRepeated_41_b47 {F : Nat} {q : (Int32 × Zs)} {S : Zs} {rc4 : Zs → Int32 → Int32 → Int32 → Option (Int32 × Zs)} {x1 : Int32} {x2 : Int32} {x3 : Int32} {ls : Array Slot} {H : Heap} {locs : List Loc} (C : zC p s m args meth c cX3_countRepeated 4 RX3 (some .int)) (hrc4 : ∀ (S : Zs) (x1 : Int32) (x2 : Int32) (x3 : Int32) (H : Heap) (locs : List Loc) (ls : Array Slot), rc4 S x1 x2 x3 = some q → zW (xG D cs ad) s S H locs → lv_has ls 4 [(0, .ref (ad 41)), (1, .int x1), (2, .int x2), (3, .int x3)] → W p l e (zR 1 22) s m args below meth c H locs 0 0 (zQi (xG D cs ad) q below args s) (F0 m 4 ls [])) (h : n_X3_countRepeated_41_b47 F rc4 S x1 x2 x3 = some q) (hW : zW (xG D cs ad) s S H locs) (hl : lv_has ls 4 [(0, .ref (ad 41)), (1, .int x1), (2, .int x2), (3, .int x3)]) : W p l e (zR 1 22) s m args below meth c H locs 0 0 (zQi (xG D cs ad) q below args s) (F0 m 47 ls []) := by
  unfold n_X3_countRepeated_41_b47 at h
  obtain ⟨hx, hb, hml, hown, hts, hret, hlk⟩ := id C
  obtain ⟨v1, ev1, h⟩ := zz_name h
  refine lv_iinc (v := v1) (lv' := [(3, .int v1), (0, .ref (ad 41)), (1, .int x1), (2, .int x2)]) hx hb dX3_countRepeated_47 hl (k := 3) rfl ev1.symm (by decide) rfl (fun ls hl => ?_)
  refine lv_goto (tgt := 4) hx hb dX3_countRepeated_50 (by decide) ?_
  exact hrc4 _ _ _ _ _ _ _ h hW (lv_sub hl [1, 2, 3, 0] rfl)
def n_X3_countRepeated_41_b44 (F : Nat) (rc4 : Zs → Int32 → Int32 → Int32 → Option (Int32 × Zs)) (S : Zs) (x1 : Int32) (x2 : Int32) (x3 : Int32) : Option (Int32 × Zs) :=
  zlet (x2 + (1 : Int32)) (fun v1 => n_X3_countRepeated_41_b47 F rc4 S x1 v1 x3)
set_option maxRecDepth 20000 in
set_option maxHeartbeats 4000000 in
theorem w_X3_countRepeated_41_b44 {F : Nat} {q : (Int32 × Zs)} {S : Zs} {rc4 : Zs → Int32 → Int32 → Int32 → Option (Int32 × Zs)} {x1 : Int32} {x2 : Int32} {x3 : Int32} {ls : Array Slot} {H : Heap} {locs : List Loc} (C : zC p s m args meth c cX3_countRepeated 4 RX3 (some .int)) (hrc4 : ∀ (S : Zs) (x1 : Int32) (x2 : Int32) (x3 : Int32) (H : Heap) (locs : List Loc) (ls : Array Slot), rc4 S x1 x2 x3 = some q → zW (xG D cs ad) s S H locs → lv_has ls 4 [(0, .ref (ad 41)), (1, .int x1), (2, .int x2), (3, .int x3)] → W p l e (zR 1 22) s m args below meth c H locs 0 0 (zQi (xG D cs ad) q below args s) (F0 m 4 ls [])) (h : n_X3_countRepeated_41_b44 F rc4 S x1 x2 x3 = some q) (hW : zW (xG D cs ad) s S H locs) (hl : lv_has ls 4 [(0, .ref (ad 41)), (1, .int x1), (2, .int x2), (3, .int x3)]) : W p l e (zR 1 22) s m args below meth c H locs 0 0 (zQi (xG D cs ad) q below args s) (F0 m 44 ls []) := by
  unfold n_X3_countRepeated_41_b44 at h
  obtain ⟨hx, hb, hml, hown, hts, hret, hlk⟩ := id C
  obtain ⟨v1, ev1, h⟩ := zz_name h
  refine lv_iinc (v := v1) (lv' := [(2, .int v1), (0, .ref (ad 41)), (1, .int x1), (3, .int x3)]) hx hb dX3_countRepeated_44 hl (k := 2) rfl ev1.symm (by decide) rfl (fun ls hl => ?_)
  exact w_X3_countRepeated_41_b47 (F := F) C hrc4 h hW (lv_sub hl [1, 2, 0, 3] rfl)
def n_X3_countRepeated_41_b4_l (F : Nat) (rc4 : Zs → Int32 → Int32 → Int32 → Option (Int32 × Zs)) (S : Zs) (x1 : Int32) (x2 : Int32) (x3 : Int32) : Option (Int32 × Zs) :=
  zgf S 826 (fun v1 => if v1 ≤ x3 then (some (x2, S)) else (if ((x1 >>> (x3 &&& 31)) &&& (1 : Int32)) = 0 then (n_X3_countRepeated_41_b47 F rc4 S x1 x2 x3) else (zld S 42 40 x3 (fun v2 => zcl (n_X2_isTold_3 F S v2) (fun v4 S3 => if v4 = 0 then (zcl (n_X3_isPleadedAhead_41 F S3 x3) (fun v6 S5 => if v6 = 0 then (n_X3_countRepeated_41_b47 F rc4 S5 x1 x2 x3) else (n_X3_countRepeated_41_b44 F rc4 S5 x1 x2 x3))) else (n_X3_countRepeated_41_b44 F rc4 S3 x1 x2 x3))))))
set_option maxRecDepth 20000 in
set_option maxHeartbeats 4000000 in
theorem w_X3_countRepeated_41_b4_l {F : Nat} {q : (Int32 × Zs)} {S : Zs} {rc4 : Zs → Int32 → Int32 → Int32 → Option (Int32 × Zs)} {x1 : Int32} {x2 : Int32} {x3 : Int32} {ls : Array Slot} {H : Heap} {locs : List Loc} (C : zC p s m args meth c cX3_countRepeated 4 RX3 (some .int)) (hrc4 : ∀ (S : Zs) (x1 : Int32) (x2 : Int32) (x3 : Int32) (H : Heap) (locs : List Loc) (ls : Array Slot), rc4 S x1 x2 x3 = some q → zW (xG D cs ad) s S H locs → lv_has ls 4 [(0, .ref (ad 41)), (1, .int x1), (2, .int x2), (3, .int x3)] → W p l e (zR 1 22) s m args below meth c H locs 0 0 (zQi (xG D cs ad) q below args s) (F0 m 4 ls [])) (h : n_X3_countRepeated_41_b4_l F rc4 S x1 x2 x3 = some q) (hW : zW (xG D cs ad) s S H locs) (hl : lv_has ls 4 [(0, .ref (ad 41)), (1, .int x1), (2, .int x2), (3, .int x3)]) : W p l e (zR 1 22) s m args below meth c H locs 0 0 (zQi (xG D cs ad) q below args s) (F0 m 4 ls []) := by
  unfold n_X3_countRepeated_41_b4_l at h
  obtain ⟨hx, hb, hml, hown, hts, hret, hlk⟩ := id C
  refine lv_iload_n hx hb dX3_countRepeated_4 rfl (lv_at hl 3 rfl) ?_
  refine lv_aload_n hx hb dX3_countRepeated_5 rfl (lv_at hl 0 rfl) ?_
  refine xg_41_6 C hW h fl_X3_35 dX3_countRepeated_6 (fun v1 h => ?_)
  refine zz_cge (tgt := 53) C h dX3_countRepeated_9 (by decide) (fun h => ?_) (fun h => ?_)
  · refine lv_iload_n hx hb dX3_countRepeated_53 rfl (lv_at hl 2 rfl) ?_
    exact zz_iret C rfl h hW dX3_countRepeated_54
  · refine lv_iload_n hx hb dX3_countRepeated_12 rfl (lv_at hl 1 rfl) ?_
    refine lv_iload_n hx hb dX3_countRepeated_13 rfl (lv_at hl 3 rfl) ?_
    refine lv_ishr hx hb dX3_countRepeated_14 ?_
    refine lv_iconst (v := 1) hx hb dX3_countRepeated_15 (by decide) ?_
    refine lv_iand hx hb dX3_countRepeated_16 ?_
    refine zz_ieq (tgt := 47) C h dX3_countRepeated_17 (by decide) (fun h => ?_) (fun h => ?_)
    · exact w_X3_countRepeated_41_b47 (F := F) C hrc4 h hW (lv_sub hl [0, 1, 2, 3] rfl)
    · refine lv_aload_n hx hb dX3_countRepeated_20 rfl (lv_at hl 0 rfl) ?_
      refine xg_41_0 C hW fl_X3_27 dX3_countRepeated_21 ?_
      refine lv_aload_n hx hb dX3_countRepeated_24 rfl (lv_at hl 0 rfl) ?_
      refine xg_41_1 C hW fl_X3_11 dX3_countRepeated_25 ?_
      refine lv_iload_n hx hb dX3_countRepeated_28 rfl (lv_at hl 3 rfl) ?_
      refine xl_42 C hW h dX3_countRepeated_29 (fun v2 h => ?_)
      refine zz_callVi (As := [.int v2]) C hW h (fun r hr => c_X2_isTold_3 hr) lk_X3_149 (hW.recv xr_3) rfl hl.1 ⟨rfl, rfl⟩ ⟨Nat.le_of_ble_eq_true rfl, Nat.le_of_ble_eq_true rfl⟩ (Nat.le_of_ble_eq_true rfl) ⟨Nat.zero_le _, Nat.zero_le _⟩ rfl dX3_countRepeated_30 (fun v4 S3 H locs h hW => ?_)
      refine zz_ine (tgt := 44) C h dX3_countRepeated_33 (by decide) (fun h => ?_) (fun h => ?_)
      · exact w_X3_countRepeated_41_b44 (F := F) C hrc4 h hW (lv_sub hl [0, 1, 2, 3] rfl)
      · refine lv_aload_n hx hb dX3_countRepeated_36 rfl (lv_at hl 0 rfl) ?_
        refine lv_iload_n hx hb dX3_countRepeated_37 rfl (lv_at hl 3 rfl) ?_
        refine zz_callVi (As := [.int x3]) C hW h (fun r hr => c_X3_isPleadedAhead_41 hr) lk_X3_152 (hW.recv xr_41) rfl hl.1 ⟨rfl, rfl⟩ ⟨Nat.le_of_ble_eq_true rfl, Nat.le_of_ble_eq_true rfl⟩ (Nat.le_of_ble_eq_true rfl) ⟨Nat.zero_le _, Nat.zero_le _⟩ rfl dX3_countRepeated_38 (fun v6 S5 H locs h hW => ?_)
        refine zz_ieq (tgt := 47) C h dX3_countRepeated_41 (by decide) (fun h => ?_) (fun h => ?_)
        · exact w_X3_countRepeated_41_b47 (F := F) C hrc4 h hW (lv_sub hl [0, 1, 2, 3] rfl)
        · exact w_X3_countRepeated_41_b44 (F := F) C hrc4 h hW (lv_sub hl [0, 1, 2, 3] rfl)
def n_X3_countRepeated_41_b4 (F : Nat)  (S : Zs) (x1 : Int32) (x2 : Int32) (x3 : Int32) : Option (Int32 × Zs) :=
  zfix (fun (rc : (Zs × Int32 × Int32 × Int32) → Option (Int32 × Zs)) (u : (Zs × Int32 × Int32 × Int32)) => n_X3_countRepeated_41_b4_l F  (fun S x1 x2 x3 => rc (S, x1, x2, x3)) u.1 u.2.1 u.2.2.1 u.2.2.2) F (S, x1, x2, x3)
theorem w_X3_countRepeated_41_b4 {F : Nat} {q : (Int32 × Zs)}  (C : zC p s m args meth c cX3_countRepeated 4 RX3 (some .int))  : ∀ (n : Nat) (S : Zs) (x1 : Int32) (x2 : Int32) (x3 : Int32) (H : Heap) (locs : List Loc) (ls : Array Slot), zfix (fun (rc : (Zs × Int32 × Int32 × Int32) → Option (Int32 × Zs)) (u : (Zs × Int32 × Int32 × Int32)) => n_X3_countRepeated_41_b4_l F  (fun S x1 x2 x3 => rc (S, x1, x2, x3)) u.1 u.2.1 u.2.2.1 u.2.2.2) n (S, x1, x2, x3) = some q → zW (xG D cs ad) s S H locs → lv_has ls 4 [(0, .ref (ad 41)), (1, .int x1), (2, .int x2), (3, .int x3)] → W p l e (zR 1 22) s m args below meth c H locs 0 0 (zQi (xG D cs ad) q below args s) (F0 m 4 ls []) := by
  intro n
  induction n with
  | zero => intro S x1 x2 x3 H locs ls h; exact absurd h (fun h => by cases h)
  | succ n ih => intro S x1 x2 x3 H locs ls h hW hl; exact w_X3_countRepeated_41_b4_l (F := F) C (fun S x1 x2 x3 H locs ls h hW hl => ih S x1 x2 x3 H locs ls h hW hl) h hW hl
def n_X3_countRepeated_41_e (F : Nat)  (S : Zs) (x1 : Int32) : Option (Int32 × Zs) :=
  n_X3_countRepeated_41_b4 F  S x1 (0 : Int32) (0 : Int32)
set_option maxRecDepth 20000 in
set_option maxHeartbeats 4000000 in
theorem w_X3_countRepeated_41_e {F : Nat} {q : (Int32 × Zs)} {S : Zs}  {x1 : Int32} {ls : Array Slot} {H : Heap} {locs : List Loc} (C : zC p s m args meth c cX3_countRepeated 4 RX3 (some .int))  (h : n_X3_countRepeated_41_e F  S x1 = some q) (hW : zW (xG D cs ad) s S H locs) (hl : lv_has ls 4 [(0, .ref (ad 41)), (1, .int x1)]) : W p l e (zR 1 22) s m args below meth c H locs 0 0 (zQi (xG D cs ad) q below args s) (F0 m 0 ls []) := by
  unfold n_X3_countRepeated_41_e at h
  obtain ⟨hx, hb, hml, hown, hts, hret, hlk⟩ := id C
  refine lv_iconst (v := 0) hx hb dX3_countRepeated_0 (by decide) ?_
  refine lv_istore_n (lv' := [(2, .int (0 : Int32)), (0, .ref (ad 41)), (1, .int x1)]) hx hb dX3_countRepeated_1 rfl hl (by decide) rfl (fun ls hl => ?_)
  refine lv_iconst (v := 0) hx hb dX3_countRepeated_2 (by decide) ?_
  refine lv_istore_n (lv' := [(3, .int (0 : Int32)), (2, .int (0 : Int32)), (0, .ref (ad 41)), (1, .int x1)]) hx hb dX3_countRepeated_3 rfl hl (by decide) rfl (fun ls hl => ?_)
  exact w_X3_countRepeated_41_b4 (F := F) C F _ _ _ _ _ _ _ h hW (lv_sub hl [2, 3, 1, 0] rfl)
def n_X3_countRepeated_41 (F : Nat) (S : Zs) (x1 : Int32) : Option (Int32 × Zs) := n_X3_countRepeated_41_e F  S x1
theorem c_X3_countRepeated_41 {l : Launch} {D : va_G} {cs ad : Nat → Nat} {F : Nat} {S : Zs} {x1 : Int32} {q : (Int32 × Zs)} (h : n_X3_countRepeated_41 F S x1 = some q) : zMi l yX3_countRepeated cX3_countRepeated 4 (some .int) (zR 1 22) (xG D cs ad) [.ref (ad 41), .int x1] S q :=
  zz_enter (by decide) (Nat.le_of_ble_eq_true rfl) (fun p e s m below meth c ls C hW hl => w_X3_countRepeated_41_e (F := F) C h hW (lv_sub hl [0, 1] rfl))
def n_X11_marks_0_b9 (F : Nat)  (S : Zs)  : Option (Int32 × Zs) :=
  some ((-1 : Int32), S)
set_option maxRecDepth 20000 in
set_option maxHeartbeats 4000000 in
theorem w_X11_marks_0_b9 {F : Nat} {q : (Int32 × Zs)} {S : Zs}   {ls : Array Slot} {H : Heap} {locs : List Loc} (C : zC p s m args meth c cX11_marks 3 RX11 (some .int))  (h : n_X11_marks_0_b9 F  S  = some q) (hW : zW (xG D cs ad) s S H locs) (hl : lv_has ls 3 []) : W p l e (zR 3 65) s m args below meth c H locs 0 0 (zQi (xG D cs ad) q below args s) (F0 m 9 ls []) := by
  unfold n_X11_marks_0_b9 at h
  obtain ⟨hx, hb, hml, hown, hts, hret, hlk⟩ := id C
  refine lv_iconst (v := -1) hx hb dX11_marks_9 (by decide) ?_
  exact zz_iret C rfl h hW dX11_marks_10
def n_X11_marks_0_e (F : Nat)  (S : Zs) (x1 : Int32) : Option (Int32 × Zs) :=
  if x1 < 0 then (n_X11_marks_0_b9 F  S ) else (if x1 ≤ (3 : Int32) then (zcl (n_X3_standing_41 F S ) (fun v2 S1 => zcl (n_X3_stepsOf_41 F S1 x1) (fun v4 S3 => zlet (v2 &&& v4) (fun v5 => zcl (n_X3_countWanted_41 F S3 v5) (fun v7 S6 => zcl (n_X3_countRepeated_41 F S6 v5) (fun v9 S8 => zcl (n_X11_tellTwo_0 F S8 v7 v9) (fun v11 S10 => zcl (n_J6_bitCount_0f7a4_x F S10 v5) (fun v13 S12 => some (v13, S12))))))))) else (n_X11_marks_0_b9 F  S ))
set_option maxRecDepth 20000 in
set_option maxHeartbeats 4000000 in
theorem w_X11_marks_0_e {F : Nat} {q : (Int32 × Zs)} {S : Zs}  {x1 : Int32} {ls : Array Slot} {H : Heap} {locs : List Loc} (C : zC p s m args meth c cX11_marks 3 RX11 (some .int))  (h : n_X11_marks_0_e F  S x1 = some q) (hW : zW (xG D cs ad) s S H locs) (hl : lv_has ls 3 [(0, .ref (ad 0)), (1, .int x1)]) : W p l e (zR 3 65) s m args below meth c H locs 0 0 (zQi (xG D cs ad) q below args s) (F0 m 0 ls []) := by
  unfold n_X11_marks_0_e at h
  obtain ⟨hx, hb, hml, hown, hts, hret, hlk⟩ := id C
  refine lv_iload_n hx hb dX11_marks_0 rfl (lv_at hl 1 rfl) ?_
  refine zz_ilt (tgt := 9) C h dX11_marks_1 (by decide) (fun h => ?_) (fun h => ?_)
  · exact w_X11_marks_0_b9 (F := F) C h hW (lv_sub hl [] rfl)
  · refine lv_iload_n hx hb dX11_marks_4 rfl (lv_at hl 1 rfl) ?_
    refine lv_iconst (v := 3) hx hb dX11_marks_5 (by decide) ?_
    refine zz_cle (tgt := 11) C h dX11_marks_6 (by decide) (fun h => ?_) (fun h => ?_)
    · refine lv_aload_n hx hb dX11_marks_11 rfl (lv_at hl 0 rfl) ?_
      refine xg_0_8 C hW fl_X11_74 dX11_marks_12 ?_
      refine zz_callVi (As := []) C hW h (fun r hr => c_X3_standing_41 hr) lk_X11_295 (hW.recv xr_41) rfl hl.1 ⟨rfl, rfl⟩ ⟨Nat.le_of_ble_eq_true rfl, Nat.le_of_ble_eq_true rfl⟩ (Nat.le_of_ble_eq_true rfl) ⟨Nat.zero_le _, Nat.zero_le _⟩ rfl dX11_marks_15 (fun v2 S1 H locs h hW => ?_)
      refine lv_aload_n hx hb dX11_marks_18 rfl (lv_at hl 0 rfl) ?_
      refine xg_0_8 C hW fl_X11_74 dX11_marks_19 ?_
      refine lv_iload_n hx hb dX11_marks_22 rfl (lv_at hl 1 rfl) ?_
      refine zz_callVi (As := [.int x1]) C hW h (fun r hr => c_X3_stepsOf_41 hr) lk_X11_298 (hW.recv xr_41) rfl hl.1 ⟨rfl, rfl⟩ ⟨Nat.le_of_ble_eq_true rfl, Nat.le_of_ble_eq_true rfl⟩ (Nat.le_of_ble_eq_true rfl) ⟨Nat.zero_le _, Nat.zero_le _⟩ rfl dX11_marks_23 (fun v4 S3 H locs h hW => ?_)
      refine lv_iand hx hb dX11_marks_26 ?_
      refine zz_leti h (fun v5 h => ?_)
      refine lv_istore_n (lv' := [(2, .int v5), (0, .ref (ad 0)), (1, .int x1)]) hx hb dX11_marks_27 rfl hl (by decide) rfl (fun ls hl => ?_)
      refine lv_aload_n hx hb dX11_marks_28 rfl (lv_at hl 1 rfl) ?_
      refine lv_aload_n hx hb dX11_marks_29 rfl (lv_at hl 1 rfl) ?_
      refine xg_0_8 C hW fl_X11_74 dX11_marks_30 ?_
      refine lv_iload_n hx hb dX11_marks_33 rfl (lv_at hl 0 rfl) ?_
      refine zz_callVi (As := [.int v5]) C hW h (fun r hr => c_X3_countWanted_41 hr) lk_X11_301 (hW.recv xr_41) rfl hl.1 ⟨rfl, rfl⟩ ⟨Nat.le_of_ble_eq_true rfl, Nat.le_of_ble_eq_true rfl⟩ (Nat.le_of_ble_eq_true rfl) ⟨Nat.zero_le _, Nat.zero_le _⟩ rfl dX11_marks_34 (fun v7 S6 H locs h hW => ?_)
      refine lv_aload_n hx hb dX11_marks_37 rfl (lv_at hl 1 rfl) ?_
      refine xg_0_8 C hW fl_X11_74 dX11_marks_38 ?_
      refine lv_iload_n hx hb dX11_marks_41 rfl (lv_at hl 0 rfl) ?_
      refine zz_callVi (As := [.int v5]) C hW h (fun r hr => c_X3_countRepeated_41 hr) lk_X11_304 (hW.recv xr_41) rfl hl.1 ⟨rfl, rfl⟩ ⟨Nat.le_of_ble_eq_true rfl, Nat.le_of_ble_eq_true rfl⟩ (Nat.le_of_ble_eq_true rfl) ⟨Nat.zero_le _, Nat.zero_le _⟩ rfl dX11_marks_42 (fun v9 S8 H locs h hW => ?_)
      refine zz_callVv (As := [.int v7, .int v9]) C hW h (fun r hr => c_X11_tellTwo_0 hr) lk_X11_229 (hW.recv xr_0) rfl hl.1 ⟨rfl, rfl⟩ ⟨Nat.le_of_ble_eq_true rfl, Nat.le_of_ble_eq_true rfl⟩ (Nat.le_of_ble_eq_true rfl) ⟨Nat.zero_le _, Nat.zero_le _⟩ rfl dX11_marks_45 (fun v11 S10 H locs h hW => ?_)
      refine lv_iload_n hx hb dX11_marks_48 rfl (lv_at hl 0 rfl) ?_
      refine zz_callSi (As := [.int v5]) C hW h (fun r hr => c_J6_bitCount_0f7a4_x hr) lk_X11_139 rfl hl.1 ⟨rfl, rfl⟩ ⟨Nat.le_of_ble_eq_true rfl, Nat.le_of_ble_eq_true rfl⟩ (Nat.le_of_ble_eq_true rfl) ⟨Nat.zero_le _, Nat.zero_le _⟩ rfl dX11_marks_49 (fun v13 S12 H locs h hW => ?_)
      exact zz_iret C rfl h hW dX11_marks_52
    · exact w_X11_marks_0_b9 (F := F) C h hW (lv_sub hl [] rfl)
def n_X11_marks_0 (F : Nat) (S : Zs) (x1 : Int32) : Option (Int32 × Zs) := n_X11_marks_0_e F  S x1
theorem c_X11_marks_0 {l : Launch} {D : va_G} {cs ad : Nat → Nat} {F : Nat} {S : Zs} {x1 : Int32} {q : (Int32 × Zs)} (h : n_X11_marks_0 F S x1 = some q) : zMi l yX11_marks cX11_marks 3 (some .int) (zR 3 65) (xG D cs ad) [.ref (ad 0), .int x1] S q :=
  zz_enter (by decide) (Nat.le_of_ble_eq_true rfl) (fun p e s m below meth c ls C hW hl => w_X11_marks_0_e (F := F) C h hW (lv_sub hl [0, 1] rfl))
def n_X11_strike_0_e (F : Nat)  (S : Zs)  : Option (Int32 × Zs) :=
  zgf S 826 (fun v1 => if v1 = 0 then (some ((-1 : Int32), S)) else (zgf S 826 (fun v2 => zpf S 826 (v2 - (1 : Int32)) (fun S3 => zgf S3 826 (fun v4 => some (v4, S3))))))
set_option maxRecDepth 20000 in
set_option maxHeartbeats 4000000 in
theorem w_X11_strike_0_e {F : Nat} {q : (Int32 × Zs)} {S : Zs}   {ls : Array Slot} {H : Heap} {locs : List Loc} (C : zC p s m args meth c cX11_strike 1 RX11 (some .int))  (h : n_X11_strike_0_e F  S  = some q) (hW : zW (xG D cs ad) s S H locs) (hl : lv_has ls 1 [(0, .ref (ad 0))]) : W p l e (zR 0 0) s m args below meth c H locs 0 0 (zQi (xG D cs ad) q below args s) (F0 m 0 ls []) := by
  unfold n_X11_strike_0_e at h
  obtain ⟨hx, hb, hml, hown, hts, hret, hlk⟩ := id C
  refine lv_aload_n hx hb dX11_strike_0 rfl (lv_at hl 0 rfl) ?_
  refine xg_0_8 C hW fl_X11_74 dX11_strike_1 ?_
  refine xg_41_6 C hW h fl_X11_291 dX11_strike_4 (fun v1 h => ?_)
  refine zz_ine (tgt := 12) C h dX11_strike_7 (by decide) (fun h => ?_) (fun h => ?_)
  · refine lv_aload_n hx hb dX11_strike_12 rfl (lv_at hl 0 rfl) ?_
    refine xg_0_8 C hW fl_X11_74 dX11_strike_13 ?_
    refine lv_dup hx hb dX11_strike_16 rfl ?_
    refine xg_41_6 C hW h fl_X11_291 dX11_strike_17 (fun v2 h => ?_)
    refine lv_iconst (v := 1) hx hb dX11_strike_20 (by decide) ?_
    refine lv_isub hx hb dX11_strike_21 ?_
    refine xp_41_6 C hW h fl_X11_291 dX11_strike_22 (fun S3 H locs h hW => ?_)
    refine lv_aload_n hx hb dX11_strike_25 rfl (lv_at hl 0 rfl) ?_
    refine xg_0_8 C hW fl_X11_74 dX11_strike_26 ?_
    refine xg_41_6 C hW h fl_X11_291 dX11_strike_29 (fun v4 h => ?_)
    exact zz_iret C rfl h hW dX11_strike_32
  · refine lv_iconst (v := -1) hx hb dX11_strike_10 (by decide) ?_
    exact zz_iret C rfl h hW dX11_strike_11
def n_X11_strike_0 (F : Nat) (S : Zs)  : Option (Int32 × Zs) := n_X11_strike_0_e F  S 
theorem c_X11_strike_0 {l : Launch} {D : va_G} {cs ad : Nat → Nat} {F : Nat} {S : Zs}  {q : (Int32 × Zs)} (h : n_X11_strike_0 F S  = some q) : zMi l yX11_strike cX11_strike 1 (some .int) (zR 0 0) (xG D cs ad) [.ref (ad 0)] S q :=
  zz_enter (by decide) (Nat.le_of_ble_eq_true rfl) (fun p e s m below meth c ls C hW hl => w_X11_strike_0_e (F := F) C h hW (lv_sub hl [0] rfl))
def n_X2_store_3_b9 (F : Nat)  (S : Zs)  : Option (Int32 × Zs) :=
  zrb (0 : Int32) S
set_option maxRecDepth 20000 in
set_option maxHeartbeats 4000000 in
theorem w_X2_store_3_b9 {F : Nat} {q : (Int32 × Zs)} {S : Zs}   {ls : Array Slot} {H : Heap} {locs : List Loc} (C : zC p s m args meth c cX2_store 2 RX2 (some .boolean))  (h : n_X2_store_3_b9 F  S  = some q) (hW : zW (xG D cs ad) s S H locs) (hl : lv_has ls 2 []) : W p l e (zR 1 20) s m args below meth c H locs 0 0 (zQi (xG D cs ad) q below args s) (F0 m 9 ls []) := by
  unfold n_X2_store_3_b9 at h
  obtain ⟨hx, hb, hml, hown, hts, hret, hlk⟩ := id C
  refine lv_iconst (v := 0) hx hb dX2_store_9 (by decide) ?_
  exact zz_zret C rfl h hW dX2_store_10
def n_X2_store_3_e (F : Nat)  (S : Zs) (x1 : Int32) : Option (Int32 × Zs) :=
  if x1 < 0 then (n_X2_store_3_b9 F  S ) else (if x1 < (3 : Int32) then (zst S 7 3 x1 (vp_nar .boolean (1 : Int32)) (fun S1 => zcl (n_X2_everything_3 F S1 ) (fun v3 S2 => zst S2 8 3 x1 v3 (fun S4 => zgf S4 63 (fun v5 => zst S4 9 3 x1 v5 (fun S6 => zgf S6 64 (fun v7 => zst S6 10 3 x1 v7 (fun S8 => zgf S8 65 (fun v9 => zst S8 11 3 x1 v9 (fun S10 => zgf S10 66 (fun v11 => zst S10 12 3 x1 v11 (fun S12 => zrb (1 : Int32) S12)))))))))))) else (n_X2_store_3_b9 F  S ))
set_option maxRecDepth 20000 in
set_option maxHeartbeats 4000000 in
theorem w_X2_store_3_e {F : Nat} {q : (Int32 × Zs)} {S : Zs}  {x1 : Int32} {ls : Array Slot} {H : Heap} {locs : List Loc} (C : zC p s m args meth c cX2_store 2 RX2 (some .boolean))  (h : n_X2_store_3_e F  S x1 = some q) (hW : zW (xG D cs ad) s S H locs) (hl : lv_has ls 2 [(0, .ref (ad 3)), (1, .int x1)]) : W p l e (zR 1 20) s m args below meth c H locs 0 0 (zQi (xG D cs ad) q below args s) (F0 m 0 ls []) := by
  unfold n_X2_store_3_e at h
  obtain ⟨hx, hb, hml, hown, hts, hret, hlk⟩ := id C
  refine lv_iload_n hx hb dX2_store_0 rfl (lv_at hl 1 rfl) ?_
  refine zz_ilt (tgt := 9) C h dX2_store_1 (by decide) (fun h => ?_) (fun h => ?_)
  · exact w_X2_store_3_b9 (F := F) C h hW (lv_sub hl [] rfl)
  · refine lv_iload_n hx hb dX2_store_4 rfl (lv_at hl 1 rfl) ?_
    refine lv_iconst (v := 3) hx hb dX2_store_5 (by decide) ?_
    refine zz_clt (tgt := 11) C h dX2_store_6 (by decide) (fun h => ?_) (fun h => ?_)
    · refine lv_aload_n hx hb dX2_store_11 rfl (lv_at hl 0 rfl) ?_
      refine xg_3_9 C hW fl_X2_26 dX2_store_12 ?_
      refine lv_iload_n hx hb dX2_store_15 rfl (lv_at hl 1 rfl) ?_
      refine lv_iconst (v := 1) hx hb dX2_store_16 (by decide) ?_
      refine xs_7 C hW h dX2_store_17 (fun S1 H locs h hW => ?_)
      refine lv_aload_n hx hb dX2_store_18 rfl (lv_at hl 0 rfl) ?_
      refine xg_3_10 C hW fl_X2_30 dX2_store_19 ?_
      refine lv_iload_n hx hb dX2_store_22 rfl (lv_at hl 1 rfl) ?_
      refine lv_aload_n hx hb dX2_store_23 rfl (lv_at hl 0 rfl) ?_
      refine zz_callVi (As := []) C hW h (fun r hr => c_X2_everything_3 hr) lk_X2_84 (hW.recv xr_3) rfl hl.1 ⟨rfl, rfl⟩ ⟨Nat.le_of_ble_eq_true rfl, Nat.le_of_ble_eq_true rfl⟩ (Nat.le_of_ble_eq_true rfl) ⟨Nat.zero_le _, Nat.zero_le _⟩ rfl dX2_store_24 (fun v3 S2 H locs h hW => ?_)
      refine xs_8 C hW h dX2_store_27 (fun S4 H locs h hW => ?_)
      refine lv_aload_n hx hb dX2_store_28 rfl (lv_at hl 0 rfl) ?_
      refine xg_3_11 C hW fl_X2_33 dX2_store_29 ?_
      refine lv_iload_n hx hb dX2_store_32 rfl (lv_at hl 1 rfl) ?_
      refine lv_aload_n hx hb dX2_store_33 rfl (lv_at hl 0 rfl) ?_
      refine xg_3_3 C hW h fl_X2_78 dX2_store_34 (fun v5 h => ?_)
      refine xs_9 C hW h dX2_store_37 (fun S6 H locs h hW => ?_)
      refine lv_aload_n hx hb dX2_store_38 rfl (lv_at hl 0 rfl) ?_
      refine xg_3_12 C hW fl_X2_36 dX2_store_39 ?_
      refine lv_iload_n hx hb dX2_store_42 rfl (lv_at hl 1 rfl) ?_
      refine lv_aload_n hx hb dX2_store_43 rfl (lv_at hl 0 rfl) ?_
      refine xg_3_4 C hW h fl_X2_81 dX2_store_44 (fun v7 h => ?_)
      refine xs_10 C hW h dX2_store_47 (fun S8 H locs h hW => ?_)
      refine lv_aload_n hx hb dX2_store_48 rfl (lv_at hl 0 rfl) ?_
      refine xg_3_13 C hW fl_X2_39 dX2_store_49 ?_
      refine lv_iload_n hx hb dX2_store_52 rfl (lv_at hl 1 rfl) ?_
      refine lv_aload_n hx hb dX2_store_53 rfl (lv_at hl 0 rfl) ?_
      refine xg_3_5 C hW h fl_X2_93 dX2_store_54 (fun v9 h => ?_)
      refine xs_11 C hW h dX2_store_57 (fun S10 H locs h hW => ?_)
      refine lv_aload_n hx hb dX2_store_58 rfl (lv_at hl 0 rfl) ?_
      refine xg_3_14 C hW fl_X2_42 dX2_store_59 ?_
      refine lv_iload_n hx hb dX2_store_62 rfl (lv_at hl 1 rfl) ?_
      refine lv_aload_n hx hb dX2_store_63 rfl (lv_at hl 0 rfl) ?_
      refine xg_3_6 C hW h fl_X2_19 dX2_store_64 (fun v11 h => ?_)
      refine xs_12 C hW h dX2_store_67 (fun S12 H locs h hW => ?_)
      refine lv_iconst (v := 1) hx hb dX2_store_68 (by decide) ?_
      exact zz_zret C rfl h hW dX2_store_69
    · exact w_X2_store_3_b9 (F := F) C h hW (lv_sub hl [] rfl)
def n_X2_store_3 (F : Nat) (S : Zs) (x1 : Int32) : Option (Int32 × Zs) := n_X2_store_3_e F  S x1
theorem c_X2_store_3 {l : Launch} {D : va_G} {cs ad : Nat → Nat} {F : Nat} {S : Zs} {x1 : Int32} {q : (Int32 × Zs)} (h : n_X2_store_3 F S x1 = some q) : zMi l yX2_store cX2_store 2 (some .boolean) (zR 1 20) (xG D cs ad) [.ref (ad 3), .int x1] S q :=
  zz_enter (by decide) (Nat.le_of_ble_eq_true rfl) (fun p e s m below meth c ls C hW hl => w_X2_store_3_e (F := F) C h hW (lv_sub hl [0, 1] rfl))
def n_X11_keep_0_e (F : Nat)  (S : Zs) (x1 : Int32) : Option (Int32 × Zs) :=
  zcl (n_X2_store_3 F S x1) (fun v2 S1 => zrb v2 S1)
set_option maxRecDepth 20000 in
set_option maxHeartbeats 4000000 in
theorem w_X11_keep_0_e {F : Nat} {q : (Int32 × Zs)} {S : Zs}  {x1 : Int32} {ls : Array Slot} {H : Heap} {locs : List Loc} (C : zC p s m args meth c cX11_keep 2 RX11 (some .boolean))  (h : n_X11_keep_0_e F  S x1 = some q) (hW : zW (xG D cs ad) s S H locs) (hl : lv_has ls 2 [(0, .ref (ad 0)), (1, .int x1)]) : W p l e (zR 2 41) s m args below meth c H locs 0 0 (zQi (xG D cs ad) q below args s) (F0 m 0 ls []) := by
  unfold n_X11_keep_0_e at h
  obtain ⟨hx, hb, hml, hown, hts, hret, hlk⟩ := id C
  refine lv_aload_n hx hb dX11_keep_0 rfl (lv_at hl 0 rfl) ?_
  refine xg_0_1 C hW fl_X11_27 dX11_keep_1 ?_
  refine lv_iload_n hx hb dX11_keep_4 rfl (lv_at hl 1 rfl) ?_
  refine zz_callVi (As := [.int x1]) C hW h (fun r hr => c_X2_store_3 hr) lk_X11_307 (hW.recv xr_3) rfl hl.1 ⟨rfl, rfl⟩ ⟨Nat.le_of_ble_eq_true rfl, Nat.le_of_ble_eq_true rfl⟩ (Nat.le_of_ble_eq_true rfl) ⟨Nat.zero_le _, Nat.zero_le _⟩ rfl dX11_keep_5 (fun v2 S1 H locs h hW => ?_)
  exact zz_zret C rfl h hW dX11_keep_8
def n_X11_keep_0 (F : Nat) (S : Zs) (x1 : Int32) : Option (Int32 × Zs) := n_X11_keep_0_e F  S x1
theorem c_X11_keep_0 {l : Launch} {D : va_G} {cs ad : Nat → Nat} {F : Nat} {S : Zs} {x1 : Int32} {q : (Int32 × Zs)} (h : n_X11_keep_0 F S x1 = some q) : zMi l yX11_keep cX11_keep 2 (some .boolean) (zR 2 41) (xG D cs ad) [.ref (ad 0), .int x1] S q :=
  zz_enter (by decide) (Nat.le_of_ble_eq_true rfl) (fun p e s m below meth c ls C hW hl => w_X11_keep_0_e (F := F) C h hW (lv_sub hl [0, 1] rfl))
def n_X2_restore_3_b18 (F : Nat)  (S : Zs)  : Option (Int32 × Zs) :=
  zrb (0 : Int32) S
set_option maxRecDepth 20000 in
set_option maxHeartbeats 4000000 in
theorem w_X2_restore_3_b18 {F : Nat} {q : (Int32 × Zs)} {S : Zs}   {ls : Array Slot} {H : Heap} {locs : List Loc} (C : zC p s m args meth c cX2_restore 3 RX2 (some .boolean))  (h : n_X2_restore_3_b18 F  S  = some q) (hW : zW (xG D cs ad) s S H locs) (hl : lv_has ls 3 []) : W p l e (zR 0 0) s m args below meth c H locs 0 0 (zQi (xG D cs ad) q below args s) (F0 m 18 ls []) := by
  unfold n_X2_restore_3_b18 at h
  obtain ⟨hx, hb, hml, hown, hts, hret, hlk⟩ := id C
  refine lv_iconst (v := 0) hx hb dX2_restore_18 (by decide) ?_
  exact zz_zret C rfl h hW dX2_restore_19
def n_X2_restore_3_e (F : Nat)  (S : Zs) (x1 : Int32) : Option (Int32 × Zs) :=
  if x1 < 0 then (n_X2_restore_3_b18 F  S ) else (if (3 : Int32) ≤ x1 then (n_X2_restore_3_b18 F  S ) else (zld S 7 3 x1 (fun v1 => if v1 = 0 then (n_X2_restore_3_b18 F  S ) else (zld S 8 3 x1 (fun v2 => zlet (v2 ^^^ (-1 : Int32)) (fun v3 => zld S 9 3 x1 (fun v4 => zgf S 63 (fun v5 => zpf S 63 (v4 ||| (v5 &&& v3)) (fun S6 => zld S6 10 3 x1 (fun v7 => zgf S6 64 (fun v8 => zpf S6 64 (v7 ||| (v8 &&& v3)) (fun S9 => zld S9 11 3 x1 (fun v10 => zpf S9 65 v10 (fun S11 => zld S11 12 3 x1 (fun v12 => zpf S11 66 v12 (fun S13 => zrb (1 : Int32) S13))))))))))))))))
set_option maxRecDepth 20000 in
set_option maxHeartbeats 4000000 in
theorem w_X2_restore_3_e {F : Nat} {q : (Int32 × Zs)} {S : Zs}  {x1 : Int32} {ls : Array Slot} {H : Heap} {locs : List Loc} (C : zC p s m args meth c cX2_restore 3 RX2 (some .boolean))  (h : n_X2_restore_3_e F  S x1 = some q) (hW : zW (xG D cs ad) s S H locs) (hl : lv_has ls 3 [(0, .ref (ad 3)), (1, .int x1)]) : W p l e (zR 0 0) s m args below meth c H locs 0 0 (zQi (xG D cs ad) q below args s) (F0 m 0 ls []) := by
  unfold n_X2_restore_3_e at h
  obtain ⟨hx, hb, hml, hown, hts, hret, hlk⟩ := id C
  refine lv_iload_n hx hb dX2_restore_0 rfl (lv_at hl 1 rfl) ?_
  refine zz_ilt (tgt := 18) C h dX2_restore_1 (by decide) (fun h => ?_) (fun h => ?_)
  · exact w_X2_restore_3_b18 (F := F) C h hW (lv_sub hl [] rfl)
  · refine lv_iload_n hx hb dX2_restore_4 rfl (lv_at hl 1 rfl) ?_
    refine lv_iconst (v := 3) hx hb dX2_restore_5 (by decide) ?_
    refine zz_cge (tgt := 18) C h dX2_restore_6 (by decide) (fun h => ?_) (fun h => ?_)
    · exact w_X2_restore_3_b18 (F := F) C h hW (lv_sub hl [] rfl)
    · refine lv_aload_n hx hb dX2_restore_9 rfl (lv_at hl 0 rfl) ?_
      refine xg_3_9 C hW fl_X2_26 dX2_restore_10 ?_
      refine lv_iload_n hx hb dX2_restore_13 rfl (lv_at hl 1 rfl) ?_
      refine xl_7 C hW h dX2_restore_14 (fun v1 h => ?_)
      refine zz_ine (tgt := 20) C h dX2_restore_15 (by decide) (fun h => ?_) (fun h => ?_)
      · refine lv_aload_n hx hb dX2_restore_20 rfl (lv_at hl 0 rfl) ?_
        refine xg_3_10 C hW fl_X2_30 dX2_restore_21 ?_
        refine lv_iload_n hx hb dX2_restore_24 rfl (lv_at hl 1 rfl) ?_
        refine xl_8 C hW h dX2_restore_25 (fun v2 h => ?_)
        refine lv_iconst (v := -1) hx hb dX2_restore_26 (by decide) ?_
        refine lv_ixor hx hb dX2_restore_27 ?_
        refine zz_leti h (fun v3 h => ?_)
        refine lv_istore_n (lv' := [(2, .int v3), (0, .ref (ad 3)), (1, .int x1)]) hx hb dX2_restore_28 rfl hl (by decide) rfl (fun ls hl => ?_)
        refine lv_aload_n hx hb dX2_restore_29 rfl (lv_at hl 1 rfl) ?_
        refine lv_aload_n hx hb dX2_restore_30 rfl (lv_at hl 1 rfl) ?_
        refine xg_3_11 C hW fl_X2_33 dX2_restore_31 ?_
        refine lv_iload_n hx hb dX2_restore_34 rfl (lv_at hl 2 rfl) ?_
        refine xl_9 C hW h dX2_restore_35 (fun v4 h => ?_)
        refine lv_aload_n hx hb dX2_restore_36 rfl (lv_at hl 1 rfl) ?_
        refine xg_3_3 C hW h fl_X2_78 dX2_restore_37 (fun v5 h => ?_)
        refine lv_iload_n hx hb dX2_restore_40 rfl (lv_at hl 0 rfl) ?_
        refine lv_iand hx hb dX2_restore_41 ?_
        refine lv_ior hx hb dX2_restore_42 ?_
        refine xp_3_3 C hW h fl_X2_78 dX2_restore_43 (fun S6 H locs h hW => ?_)
        refine lv_aload_n hx hb dX2_restore_46 rfl (lv_at hl 1 rfl) ?_
        refine lv_aload_n hx hb dX2_restore_47 rfl (lv_at hl 1 rfl) ?_
        refine xg_3_12 C hW fl_X2_36 dX2_restore_48 ?_
        refine lv_iload_n hx hb dX2_restore_51 rfl (lv_at hl 2 rfl) ?_
        refine xl_10 C hW h dX2_restore_52 (fun v7 h => ?_)
        refine lv_aload_n hx hb dX2_restore_53 rfl (lv_at hl 1 rfl) ?_
        refine xg_3_4 C hW h fl_X2_81 dX2_restore_54 (fun v8 h => ?_)
        refine lv_iload_n hx hb dX2_restore_57 rfl (lv_at hl 0 rfl) ?_
        refine lv_iand hx hb dX2_restore_58 ?_
        refine lv_ior hx hb dX2_restore_59 ?_
        refine xp_3_4 C hW h fl_X2_81 dX2_restore_60 (fun S9 H locs h hW => ?_)
        refine lv_aload_n hx hb dX2_restore_63 rfl (lv_at hl 1 rfl) ?_
        refine lv_aload_n hx hb dX2_restore_64 rfl (lv_at hl 1 rfl) ?_
        refine xg_3_13 C hW fl_X2_39 dX2_restore_65 ?_
        refine lv_iload_n hx hb dX2_restore_68 rfl (lv_at hl 2 rfl) ?_
        refine xl_11 C hW h dX2_restore_69 (fun v10 h => ?_)
        refine xp_3_5 C hW h fl_X2_93 dX2_restore_70 (fun S11 H locs h hW => ?_)
        refine lv_aload_n hx hb dX2_restore_73 rfl (lv_at hl 1 rfl) ?_
        refine lv_aload_n hx hb dX2_restore_74 rfl (lv_at hl 1 rfl) ?_
        refine xg_3_14 C hW fl_X2_42 dX2_restore_75 ?_
        refine lv_iload_n hx hb dX2_restore_78 rfl (lv_at hl 2 rfl) ?_
        refine xl_12 C hW h dX2_restore_79 (fun v12 h => ?_)
        refine xp_3_6 C hW h fl_X2_19 dX2_restore_80 (fun S13 H locs h hW => ?_)
        refine lv_iconst (v := 1) hx hb dX2_restore_83 (by decide) ?_
        exact zz_zret C rfl h hW dX2_restore_84
      · exact w_X2_restore_3_b18 (F := F) C h hW (lv_sub hl [] rfl)
def n_X2_restore_3 (F : Nat) (S : Zs) (x1 : Int32) : Option (Int32 × Zs) := n_X2_restore_3_e F  S x1
theorem c_X2_restore_3 {l : Launch} {D : va_G} {cs ad : Nat → Nat} {F : Nat} {S : Zs} {x1 : Int32} {q : (Int32 × Zs)} (h : n_X2_restore_3 F S x1 = some q) : zMi l yX2_restore cX2_restore 3 (some .boolean) (zR 0 0) (xG D cs ad) [.ref (ad 3), .int x1] S q :=
  zz_enter (by decide) (Nat.le_of_ble_eq_true rfl) (fun p e s m below meth c ls C hW hl => w_X2_restore_3_e (F := F) C h hW (lv_sub hl [0, 1] rfl))
def n_X11_again_0_e (F : Nat)  (S : Zs) (x1 : Int32) : Option (Int32 × Zs) :=
  zcl (n_X2_restore_3 F S x1) (fun v2 S1 => zrb v2 S1)
set_option maxRecDepth 20000 in
set_option maxHeartbeats 4000000 in
theorem w_X11_again_0_e {F : Nat} {q : (Int32 × Zs)} {S : Zs}  {x1 : Int32} {ls : Array Slot} {H : Heap} {locs : List Loc} (C : zC p s m args meth c cX11_again 2 RX11 (some .boolean))  (h : n_X11_again_0_e F  S x1 = some q) (hW : zW (xG D cs ad) s S H locs) (hl : lv_has ls 2 [(0, .ref (ad 0)), (1, .int x1)]) : W p l e (zR 1 22) s m args below meth c H locs 0 0 (zQi (xG D cs ad) q below args s) (F0 m 0 ls []) := by
  unfold n_X11_again_0_e at h
  obtain ⟨hx, hb, hml, hown, hts, hret, hlk⟩ := id C
  refine lv_aload_n hx hb dX11_again_0 rfl (lv_at hl 0 rfl) ?_
  refine xg_0_1 C hW fl_X11_27 dX11_again_1 ?_
  refine lv_iload_n hx hb dX11_again_4 rfl (lv_at hl 1 rfl) ?_
  refine zz_callVi (As := [.int x1]) C hW h (fun r hr => c_X2_restore_3 hr) lk_X11_310 (hW.recv xr_3) rfl hl.1 ⟨rfl, rfl⟩ ⟨Nat.le_of_ble_eq_true rfl, Nat.le_of_ble_eq_true rfl⟩ (Nat.le_of_ble_eq_true rfl) ⟨Nat.zero_le _, Nat.zero_le _⟩ rfl dX11_again_5 (fun v2 S1 H locs h hW => ?_)
  exact zz_zret C rfl h hW dX11_again_8
def n_X11_again_0 (F : Nat) (S : Zs) (x1 : Int32) : Option (Int32 × Zs) := n_X11_again_0_e F  S x1
theorem c_X11_again_0 {l : Launch} {D : va_G} {cs ad : Nat → Nat} {F : Nat} {S : Zs} {x1 : Int32} {q : (Int32 × Zs)} (h : n_X11_again_0 F S x1 = some q) : zMi l yX11_again cX11_again 2 (some .boolean) (zR 1 22) (xG D cs ad) [.ref (ad 0), .int x1] S q :=
  zz_enter (by decide) (Nat.le_of_ble_eq_true rfl) (fun p e s m below meth c ls C hW hl => w_X11_again_0_e (F := F) C h hW (lv_sub hl [0, 1] rfl))
def n_X11_count_0_e (F : Nat)  (S : Zs) (x1 : Int32) : Option (Int32 × Zs) :=
  if x1 = (0 : Int32) then (zgf S 62 (fun v1 => some (v1, S))) else (if x1 = (1 : Int32) then (zgf S 68 (fun v2 => some (v2, S))) else (if x1 = (2 : Int32) then (zgf S 65 (fun v3 => some (v3, S))) else (if x1 = (3 : Int32) then (zgf S 66 (fun v4 => some (v4, S))) else (if x1 = (4 : Int32) then (zgf S 826 (fun v5 => some (v5, S))) else (if x1 = (5 : Int32) then (zcl (n_X2_active_3 F S ) (fun v7 S6 => some (v7, S6))) else (if x1 = (6 : Int32) then (zgf S 10 (fun v8 => some (v8, S))) else (if x1 = (7 : Int32) then (zgf S 21 (fun v9 => some (v9, S))) else (some ((-1 : Int32), S)))))))))
set_option maxRecDepth 20000 in
set_option maxHeartbeats 4000000 in
theorem w_X11_count_0_e {F : Nat} {q : (Int32 × Zs)} {S : Zs}  {x1 : Int32} {ls : Array Slot} {H : Heap} {locs : List Loc} (C : zC p s m args meth c cX11_count 2 RX11 (some .int))  (h : n_X11_count_0_e F  S x1 = some q) (hW : zW (xG D cs ad) s S H locs) (hl : lv_has ls 2 [(0, .ref (ad 0)), (1, .int x1)]) : W p l e (zR 2 40) s m args below meth c H locs 0 0 (zQi (xG D cs ad) q below args s) (F0 m 0 ls []) := by
  unfold n_X11_count_0_e at h
  obtain ⟨hx, hb, hml, hown, hts, hret, hlk⟩ := id C
  refine lv_iload_n hx hb dX11_count_0 rfl (lv_at hl 1 rfl) ?_
  by_cases e0 : x1 = (0 : Int32)
  · replace h := (zz_if h).1 e0
    refine lv_tableIn (off := 47) (tgt := 48) hx hb dX11_count_1 (by rw [e0]; decide) (by rw [e0]; decide) (by rw [e0]; rfl) (by decide) ?_
    refine lv_aload_n hx hb dX11_count_48 rfl (lv_at hl 0 rfl) ?_
    refine xg_0_1 C hW fl_X11_27 dX11_count_49 ?_
    refine xg_3_2 C hW h fl_X11_101 dX11_count_52 (fun v1 h => ?_)
    exact zz_iret C rfl h hW dX11_count_55
  · replace h := (zz_if h).2 e0
    by_cases e1 : x1 = (1 : Int32)
    · replace h := (zz_if h).1 e1
      refine lv_tableIn (off := 55) (tgt := 56) hx hb dX11_count_1 (by rw [e1]; decide) (by rw [e1]; decide) (by rw [e1]; rfl) (by decide) ?_
      refine lv_aload_n hx hb dX11_count_56 rfl (lv_at hl 0 rfl) ?_
      refine xg_0_1 C hW fl_X11_27 dX11_count_57 ?_
      refine xg_3_8 C hW h fl_X11_132 dX11_count_60 (fun v2 h => ?_)
      exact zz_iret C rfl h hW dX11_count_63
    · replace h := (zz_if h).2 e1
      by_cases e2 : x1 = (2 : Int32)
      · replace h := (zz_if h).1 e2
        refine lv_tableIn (off := 63) (tgt := 64) hx hb dX11_count_1 (by rw [e2]; decide) (by rw [e2]; decide) (by rw [e2]; rfl) (by decide) ?_
        refine lv_aload_n hx hb dX11_count_64 rfl (lv_at hl 0 rfl) ?_
        refine xg_0_1 C hW fl_X11_27 dX11_count_65 ?_
        refine xg_3_5 C hW h fl_X11_123 dX11_count_68 (fun v3 h => ?_)
        exact zz_iret C rfl h hW dX11_count_71
      · replace h := (zz_if h).2 e2
        by_cases e3 : x1 = (3 : Int32)
        · replace h := (zz_if h).1 e3
          refine lv_tableIn (off := 71) (tgt := 72) hx hb dX11_count_1 (by rw [e3]; decide) (by rw [e3]; decide) (by rw [e3]; rfl) (by decide) ?_
          refine lv_aload_n hx hb dX11_count_72 rfl (lv_at hl 0 rfl) ?_
          refine xg_0_1 C hW fl_X11_27 dX11_count_73 ?_
          refine xg_3_6 C hW h fl_X11_242 dX11_count_76 (fun v4 h => ?_)
          exact zz_iret C rfl h hW dX11_count_79
        · replace h := (zz_if h).2 e3
          by_cases e4 : x1 = (4 : Int32)
          · replace h := (zz_if h).1 e4
            refine lv_tableIn (off := 79) (tgt := 80) hx hb dX11_count_1 (by rw [e4]; decide) (by rw [e4]; decide) (by rw [e4]; rfl) (by decide) ?_
            refine lv_aload_n hx hb dX11_count_80 rfl (lv_at hl 0 rfl) ?_
            refine xg_0_8 C hW fl_X11_74 dX11_count_81 ?_
            refine xg_41_6 C hW h fl_X11_291 dX11_count_84 (fun v5 h => ?_)
            exact zz_iret C rfl h hW dX11_count_87
          · replace h := (zz_if h).2 e4
            by_cases e5 : x1 = (5 : Int32)
            · replace h := (zz_if h).1 e5
              refine lv_tableIn (off := 87) (tgt := 88) hx hb dX11_count_1 (by rw [e5]; decide) (by rw [e5]; decide) (by rw [e5]; rfl) (by decide) ?_
              refine lv_aload_n hx hb dX11_count_88 rfl (lv_at hl 0 rfl) ?_
              refine xg_0_1 C hW fl_X11_27 dX11_count_89 ?_
              refine zz_callVi (As := []) C hW h (fun r hr => c_X2_active_3 hr) lk_X11_144 (hW.recv xr_3) rfl hl.1 ⟨rfl, rfl⟩ ⟨Nat.le_of_ble_eq_true rfl, Nat.le_of_ble_eq_true rfl⟩ (Nat.le_of_ble_eq_true rfl) ⟨Nat.zero_le _, Nat.zero_le _⟩ rfl dX11_count_92 (fun v7 S6 H locs h hW => ?_)
              exact zz_iret C rfl h hW dX11_count_95
            · replace h := (zz_if h).2 e5
              by_cases e6 : x1 = (6 : Int32)
              · replace h := (zz_if h).1 e6
                refine lv_tableIn (off := 95) (tgt := 96) hx hb dX11_count_1 (by rw [e6]; decide) (by rw [e6]; decide) (by rw [e6]; rfl) (by decide) ?_
                refine lv_aload_n hx hb dX11_count_96 rfl (lv_at hl 0 rfl) ?_
                refine xg_0_10 C hW h fl_X11_82 dX11_count_97 (fun v8 h => ?_)
                exact zz_iret C rfl h hW dX11_count_100
              · replace h := (zz_if h).2 e6
                by_cases e7 : x1 = (7 : Int32)
                · replace h := (zz_if h).1 e7
                  refine lv_tableIn (off := 100) (tgt := 101) hx hb dX11_count_1 (by rw [e7]; decide) (by rw [e7]; decide) (by rw [e7]; rfl) (by decide) ?_
                  refine lv_aload_n hx hb dX11_count_101 rfl (lv_at hl 0 rfl) ?_
                  refine xg_0_0 C hW fl_X11_21 dX11_count_102 ?_
                  refine xg_1_1 C hW h fl_X11_313 dX11_count_105 (fun v9 h => ?_)
                  exact zz_iret C rfl h hW dX11_count_108
                · replace h := (zz_if h).2 e7
                  refine lv_tableOut (tgt := 109) hx hb dX11_count_1 (zsw_out (fun k h1 h2 => by rcases (show k = 0 ∨ k = 1 ∨ k = 2 ∨ k = 3 ∨ k = 4 ∨ k = 5 ∨ k = 6 ∨ k = 7 by omega) with rfl | rfl | rfl | rfl | rfl | rfl | rfl | rfl <;> first | exact e0 | exact e1 | exact e2 | exact e3 | exact e4 | exact e5 | exact e6 | exact e7)) (by decide) ?_
                  refine lv_iconst (v := -1) hx hb dX11_count_109 (by decide) ?_
                  exact zz_iret C rfl h hW dX11_count_110
def n_X11_count_0 (F : Nat) (S : Zs) (x1 : Int32) : Option (Int32 × Zs) := n_X11_count_0_e F  S x1
theorem c_X11_count_0 {l : Launch} {D : va_G} {cs ad : Nat → Nat} {F : Nat} {S : Zs} {x1 : Int32} {q : (Int32 × Zs)} (h : n_X11_count_0 F S x1 = some q) : zMi l yX11_count cX11_count 2 (some .int) (zR 2 40) (xG D cs ad) [.ref (ad 0), .int x1] S q :=
  zz_enter (by decide) (Nat.le_of_ble_eq_true rfl) (fun p e s m below meth c ls C hW hl => w_X11_count_0_e (F := F) C h hW (lv_sub hl [0, 1] rfl))
def n_X11_row_0_e (F : Nat)  (S : Zs) (x1 : Int32) : Option (Int32 × Zs) :=
  if x1 < 0 then (none) else (zgf S 10 (fun v1 => if x1 < v1 then (zld S 47 24 x1 (fun v2 => some (v2, S))) else (none)))
set_option maxRecDepth 20000 in
set_option maxHeartbeats 4000000 in
theorem w_X11_row_0_e {F : Nat} {q : (Int32 × Zs)} {S : Zs}  {x1 : Int32} {ls : Array Slot} {H : Heap} {locs : List Loc} (C : zC p s m args meth c cX11_row 2 RX11 (some .int))  (h : n_X11_row_0_e F  S x1 = some q) (hW : zW (xG D cs ad) s S H locs) (hl : lv_has ls 2 [(0, .ref (ad 0)), (1, .int x1)]) : W p l e (zR 0 0) s m args below meth c H locs 0 0 (zQi (xG D cs ad) q below args s) (F0 m 0 ls []) := by
  unfold n_X11_row_0_e at h
  obtain ⟨hx, hb, hml, hown, hts, hret, hlk⟩ := id C
  refine lv_iload_n hx hb dX11_row_0 rfl (lv_at hl 1 rfl) ?_
  refine zz_ilt (tgt := 12) C h dX11_row_1 (by decide) (fun h => ?_) (fun h => ?_)
  · cases h
  · refine lv_iload_n hx hb dX11_row_4 rfl (lv_at hl 1 rfl) ?_
    refine lv_aload_n hx hb dX11_row_5 rfl (lv_at hl 0 rfl) ?_
    refine xg_0_10 C hW h fl_X11_82 dX11_row_6 (fun v1 h => ?_)
    refine zz_clt (tgt := 20) C h dX11_row_9 (by decide) (fun h => ?_) (fun h => ?_)
    · refine lv_aload_n hx hb dX11_row_20 rfl (lv_at hl 0 rfl) ?_
      refine xg_0_9 C hW fl_X11_78 dX11_row_21 ?_
      refine lv_iload_n hx hb dX11_row_24 rfl (lv_at hl 1 rfl) ?_
      refine xl_47 C hW h dX11_row_25 (fun v2 h => ?_)
      exact zz_iret C rfl h hW dX11_row_26
    · cases h
def n_X11_row_0 (F : Nat) (S : Zs) (x1 : Int32) : Option (Int32 × Zs) := n_X11_row_0_e F  S x1
theorem c_X11_row_0 {l : Launch} {D : va_G} {cs ad : Nat → Nat} {F : Nat} {S : Zs} {x1 : Int32} {q : (Int32 × Zs)} (h : n_X11_row_0 F S x1 = some q) : zMi l yX11_row cX11_row 2 (some .int) (zR 0 0) (xG D cs ad) [.ref (ad 0), .int x1] S q :=
  zz_enter (by decide) (Nat.le_of_ble_eq_true rfl) (fun p e s m below meth c ls C hW hl => w_X11_row_0_e (F := F) C h hW (lv_sub hl [0, 1] rfl))
end ZM
