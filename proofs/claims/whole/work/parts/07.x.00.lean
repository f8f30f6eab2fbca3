section ZM
variable {p : Program} {l : Launch} {e : Env} {s : State} {m : MethodId} {args : Array Value} {below : List Frame} {meth : Method} {c : Code} {D : va_G} {cs ad : Nat → Nat}
def n_X8_write_1_b16_l (F : Nat) (rc16 : Zs → Int32 → Int32 → Option (Int32 × Zs)) (S : Zs) (x1 : Int32) (x2 : Int32) : Option (Int32 × Zs) :=
  if x2 < 0 then (zgf S 21 (fun v1 => some (v1, S))) else (zgf S 21 (fun v2 => zst S 2 80 v2 (vp_nar .char (((((x1.toUInt32 >>> (x2.toUInt32 &&& Int32.toUInt32 31)).toInt32) &&& (255 : Int32)).toUInt32 % 65536).toInt32)) (fun S3 => zgf S3 21 (fun v4 => zpf S3 21 (v4 + (1 : Int32)) (fun S5 => zlet (x2 + (-8 : Int32)) (fun v6 => rc16 S5 x1 v6))))))
set_option maxRecDepth 20000 in
set_option maxHeartbeats 4000000 in
theorem w_X8_write_1_b16_l {F : Nat} {q : (Int32 × Zs)} {S : Zs} {rc16 : Zs → Int32 → Int32 → Option (Int32 × Zs)} {x1 : Int32} {x2 : Int32} {ls : Array Slot} {H : Heap} {locs : List Loc} (C : zC p s m args meth c cX8_write 3 RX8 (some .int)) (hrc16 : ∀ (S : Zs) (x1 : Int32) (x2 : Int32) (H : Heap) (locs : List Loc) (ls : Array Slot), rc16 S x1 x2 = some q → zW (xG D cs ad) s S H locs → lv_has ls 3 [(0, .ref (ad 1)), (1, .int x1), (2, .int x2)] → W p l e (zR 0 0) s m args below meth c H locs 0 0 (zQi (xG D cs ad) q below args s) (F0 m 16 ls [])) (h : n_X8_write_1_b16_l F rc16 S x1 x2 = some q) (hW : zW (xG D cs ad) s S H locs) (hl : lv_has ls 3 [(0, .ref (ad 1)), (1, .int x1), (2, .int x2)]) : W p l e (zR 0 0) s m args below meth c H locs 0 0 (zQi (xG D cs ad) q below args s) (F0 m 16 ls []) := by
  unfold n_X8_write_1_b16_l at h
  obtain ⟨hx, hb, hml, hown, hts, hret, hlk⟩ := id C
  refine lv_iload_n hx hb dX8_write_16 rfl (lv_at hl 2 rfl) ?_
  refine zz_ilt (tgt := 53) C h dX8_write_17 (by decide) (fun h => ?_) (fun h => ?_)
  · refine lv_aload_n hx hb dX8_write_53 rfl (lv_at hl 0 rfl) ?_
    refine xg_1_1 C hW h fl_X8_15 dX8_write_54 (fun v1 h => ?_)
    exact zz_iret C rfl h hW dX8_write_57
  · refine lv_aload_n hx hb dX8_write_20 rfl (lv_at hl 0 rfl) ?_
    refine xg_1_0 C hW fl_X8_11 dX8_write_21 ?_
    refine lv_aload_n hx hb dX8_write_24 rfl (lv_at hl 0 rfl) ?_
    refine xg_1_1 C hW h fl_X8_15 dX8_write_25 (fun v2 h => ?_)
    refine lv_iload_n hx hb dX8_write_28 rfl (lv_at hl 1 rfl) ?_
    refine lv_iload_n hx hb dX8_write_29 rfl (lv_at hl 2 rfl) ?_
    refine lv_iushr hx hb dX8_write_30 rfl ?_
    refine lv_sipush (v := 255) hx hb dX8_write_31 (by decide) ?_
    refine lv_iand hx hb dX8_write_34 ?_
    refine lv_i2c hx hb dX8_write_35 rfl ?_
    refine xs_2 C hW h dX8_write_36 (fun S3 H locs h hW => ?_)
    refine lv_aload_n hx hb dX8_write_37 rfl (lv_at hl 0 rfl) ?_
    refine lv_dup hx hb dX8_write_38 rfl ?_
    refine xg_1_1 C hW h fl_X8_15 dX8_write_39 (fun v4 h => ?_)
    refine lv_iconst (v := 1) hx hb dX8_write_42 (by decide) ?_
    refine lv_iadd hx hb dX8_write_43 ?_
    refine xp_1_1 C hW h fl_X8_15 dX8_write_44 (fun S5 H locs h hW => ?_)
    obtain ⟨v6, ev6, h⟩ := zz_name h
    refine lv_iinc (v := v6) (lv' := [(2, .int v6), (0, .ref (ad 1)), (1, .int x1)]) hx hb dX8_write_47 hl (k := 2) rfl ev6.symm (by decide) rfl (fun ls hl => ?_)
    refine lv_goto (tgt := 16) hx hb dX8_write_50 (by decide) ?_
    exact hrc16 _ _ _ _ _ _ h hW (lv_sub hl [1, 2, 0] rfl)
def n_X8_write_1_b16 (F : Nat)  (S : Zs) (x1 : Int32) (x2 : Int32) : Option (Int32 × Zs) :=
  zfix (fun (rc : (Zs × Int32 × Int32) → Option (Int32 × Zs)) (u : (Zs × Int32 × Int32)) => n_X8_write_1_b16_l F  (fun S x1 x2 => rc (S, x1, x2)) u.1 u.2.1 u.2.2) F (S, x1, x2)
theorem w_X8_write_1_b16 {F : Nat} {q : (Int32 × Zs)}  (C : zC p s m args meth c cX8_write 3 RX8 (some .int))  : ∀ (n : Nat) (S : Zs) (x1 : Int32) (x2 : Int32) (H : Heap) (locs : List Loc) (ls : Array Slot), zfix (fun (rc : (Zs × Int32 × Int32) → Option (Int32 × Zs)) (u : (Zs × Int32 × Int32)) => n_X8_write_1_b16_l F  (fun S x1 x2 => rc (S, x1, x2)) u.1 u.2.1 u.2.2) n (S, x1, x2) = some q → zW (xG D cs ad) s S H locs → lv_has ls 3 [(0, .ref (ad 1)), (1, .int x1), (2, .int x2)] → W p l e (zR 0 0) s m args below meth c H locs 0 0 (zQi (xG D cs ad) q below args s) (F0 m 16 ls []) := by
  intro n
  induction n with
  | zero => intro S x1 x2 H locs ls h; exact absurd h (fun h => by cases h)
  | succ n ih => intro S x1 x2 H locs ls h hW hl; exact w_X8_write_1_b16_l (F := F) C (fun S x1 x2 H locs ls h hW hl => ih S x1 x2 H locs ls h hW hl) h hW hl
def n_X8_write_1_e (F : Nat)  (S : Zs) (x1 : Int32) : Option (Int32 × Zs) :=
  zgf S 21 (fun v1 => if (v1 + (4 : Int32)) ≤ (80 : Int32) then (n_X8_write_1_b16 F  S x1 (24 : Int32)) else (some ((-1 : Int32), S)))
set_option maxRecDepth 20000 in
set_option maxHeartbeats 4000000 in
theorem w_X8_write_1_e {F : Nat} {q : (Int32 × Zs)} {S : Zs}  {x1 : Int32} {ls : Array Slot} {H : Heap} {locs : List Loc} (C : zC p s m args meth c cX8_write 3 RX8 (some .int))  (h : n_X8_write_1_e F  S x1 = some q) (hW : zW (xG D cs ad) s S H locs) (hl : lv_has ls 3 [(0, .ref (ad 1)), (1, .int x1)]) : W p l e (zR 0 0) s m args below meth c H locs 0 0 (zQi (xG D cs ad) q below args s) (F0 m 0 ls []) := by
  unfold n_X8_write_1_e at h
  obtain ⟨hx, hb, hml, hown, hts, hret, hlk⟩ := id C
  refine lv_aload_n hx hb dX8_write_0 rfl (lv_at hl 0 rfl) ?_
  refine xg_1_1 C hW h fl_X8_15 dX8_write_1 (fun v1 h => ?_)
  refine lv_iconst (v := 4) hx hb dX8_write_4 (by decide) ?_
  refine lv_iadd hx hb dX8_write_5 ?_
  refine lv_bipush (v := 80) hx hb dX8_write_6 (by decide) ?_
  refine zz_cle (tgt := 13) C h dX8_write_8 (by decide) (fun h => ?_) (fun h => ?_)
  · refine lv_bipush (v := 24) hx hb dX8_write_13 (by decide) ?_
    refine lv_istore_n (lv' := [(2, .int (24 : Int32)), (0, .ref (ad 1)), (1, .int x1)]) hx hb dX8_write_15 rfl hl (by decide) rfl (fun ls hl => ?_)
    exact w_X8_write_1_b16 (F := F) C F _ _ _ _ _ _ h hW (lv_sub hl [1, 2, 0] rfl)
  · refine lv_iconst (v := -1) hx hb dX8_write_11 (by decide) ?_
    exact zz_iret C rfl h hW dX8_write_12
def n_X8_write_1 (F : Nat) (S : Zs) (x1 : Int32) : Option (Int32 × Zs) := n_X8_write_1_e F  S x1
theorem c_X8_write_1 {l : Launch} {D : va_G} {cs ad : Nat → Nat} {F : Nat} {S : Zs} {x1 : Int32} {q : (Int32 × Zs)} (h : n_X8_write_1 F S x1 = some q) : zMi l yX8_write cX8_write 3 (some .int) (zR 0 0) (xG D cs ad) [.ref (ad 1), .int x1] S q :=
  zz_enter (by decide) (Nat.le_of_ble_eq_true rfl) (fun p e s m below meth c ls C hW hl => w_X8_write_1_e (F := F) C h hW (lv_sub hl [0, 1] rfl))
def n_X11_sign_0_e (F : Nat)  (S : Zs) (x1 : Int32) : Option (Int32 × Zs) :=
  zcl (n_X8_write_1 F S x1) (fun v2 S1 => some (v2, S1))
set_option maxRecDepth 20000 in
set_option maxHeartbeats 4000000 in
theorem w_X11_sign_0_e {F : Nat} {q : (Int32 × Zs)} {S : Zs}  {x1 : Int32} {ls : Array Slot} {H : Heap} {locs : List Loc} (C : zC p s m args meth c cX11_sign 2 RX11 (some .int))  (h : n_X11_sign_0_e F  S x1 = some q) (hW : zW (xG D cs ad) s S H locs) (hl : lv_has ls 2 [(0, .ref (ad 0)), (1, .int x1)]) : W p l e (zR 1 22) s m args below meth c H locs 0 0 (zQi (xG D cs ad) q below args s) (F0 m 0 ls []) := by
  unfold n_X11_sign_0_e at h
  obtain ⟨hx, hb, hml, hown, hts, hret, hlk⟩ := id C
  refine lv_aload_n hx hb dX11_sign_0 rfl (lv_at hl 0 rfl) ?_
  refine xg_0_0 C hW fl_X11_21 dX11_sign_1 ?_
  refine lv_iload_n hx hb dX11_sign_4 rfl (lv_at hl 1 rfl) ?_
  refine zz_callVi (As := [.int x1]) C hW h (fun r hr => c_X8_write_1 hr) lk_X11_86 (hW.recv xr_1) rfl hl.1 ⟨rfl, rfl⟩ ⟨Nat.le_of_ble_eq_true rfl, Nat.le_of_ble_eq_true rfl⟩ (Nat.le_of_ble_eq_true rfl) ⟨Nat.zero_le _, Nat.zero_le _⟩ rfl dX11_sign_5 (fun v2 S1 H locs h hW => ?_)
  exact zz_iret C rfl h hW dX11_sign_8
def n_X11_sign_0 (F : Nat) (S : Zs) (x1 : Int32) : Option (Int32 × Zs) := n_X11_sign_0_e F  S x1
theorem c_X11_sign_0 {l : Launch} {D : va_G} {cs ad : Nat → Nat} {F : Nat} {S : Zs} {x1 : Int32} {q : (Int32 × Zs)} (h : n_X11_sign_0 F S x1 = some q) : zMi l yX11_sign cX11_sign 2 (some .int) (zR 1 22) (xG D cs ad) [.ref (ad 0), .int x1] S q :=
  zz_enter (by decide) (Nat.le_of_ble_eq_true rfl) (fun p e s m below meth c ls C hW hl => w_X11_sign_0_e (F := F) C h hW (lv_sub hl [0, 1] rfl))
def n_X8_cut_1_b12 (F : Nat)  (S : Zs)  : Option (Int32 × Zs) :=
  zrb (0 : Int32) S
set_option maxRecDepth 20000 in
set_option maxHeartbeats 4000000 in
theorem w_X8_cut_1_b12 {F : Nat} {q : (Int32 × Zs)} {S : Zs}   {ls : Array Slot} {H : Heap} {locs : List Loc} (C : zC p s m args meth c cX8_cut 2 RX8 (some .boolean))  (h : n_X8_cut_1_b12 F  S  = some q) (hW : zW (xG D cs ad) s S H locs) (hl : lv_has ls 2 []) : W p l e (zR 0 0) s m args below meth c H locs 0 0 (zQi (xG D cs ad) q below args s) (F0 m 12 ls []) := by
  unfold n_X8_cut_1_b12 at h
  obtain ⟨hx, hb, hml, hown, hts, hret, hlk⟩ := id C
  refine lv_iconst (v := 0) hx hb dX8_cut_12 (by decide) ?_
  exact zz_zret C rfl h hW dX8_cut_13
def n_X8_cut_1_e (F : Nat)  (S : Zs) (x1 : Int32) : Option (Int32 × Zs) :=
  if x1 < 0 then (n_X8_cut_1_b12 F  S ) else (zgf S 21 (fun v1 => if x1 ≤ v1 then (zpf S 21 x1 (fun S2 => zrb (1 : Int32) S2)) else (n_X8_cut_1_b12 F  S )))
set_option maxRecDepth 20000 in
set_option maxHeartbeats 4000000 in
theorem w_X8_cut_1_e {F : Nat} {q : (Int32 × Zs)} {S : Zs}  {x1 : Int32} {ls : Array Slot} {H : Heap} {locs : List Loc} (C : zC p s m args meth c cX8_cut 2 RX8 (some .boolean))  (h : n_X8_cut_1_e F  S x1 = some q) (hW : zW (xG D cs ad) s S H locs) (hl : lv_has ls 2 [(0, .ref (ad 1)), (1, .int x1)]) : W p l e (zR 0 0) s m args below meth c H locs 0 0 (zQi (xG D cs ad) q below args s) (F0 m 0 ls []) := by
  unfold n_X8_cut_1_e at h
  obtain ⟨hx, hb, hml, hown, hts, hret, hlk⟩ := id C
  refine lv_iload_n hx hb dX8_cut_0 rfl (lv_at hl 1 rfl) ?_
  refine zz_ilt (tgt := 12) C h dX8_cut_1 (by decide) (fun h => ?_) (fun h => ?_)
  · exact w_X8_cut_1_b12 (F := F) C h hW (lv_sub hl [] rfl)
  · refine lv_iload_n hx hb dX8_cut_4 rfl (lv_at hl 1 rfl) ?_
    refine lv_aload_n hx hb dX8_cut_5 rfl (lv_at hl 0 rfl) ?_
    refine xg_1_1 C hW h fl_X8_15 dX8_cut_6 (fun v1 h => ?_)
    refine zz_cle (tgt := 14) C h dX8_cut_9 (by decide) (fun h => ?_) (fun h => ?_)
    · refine lv_aload_n hx hb dX8_cut_14 rfl (lv_at hl 0 rfl) ?_
      refine lv_iload_n hx hb dX8_cut_15 rfl (lv_at hl 1 rfl) ?_
      refine xp_1_1 C hW h fl_X8_15 dX8_cut_16 (fun S2 H locs h hW => ?_)
      refine lv_iconst (v := 1) hx hb dX8_cut_19 (by decide) ?_
      exact zz_zret C rfl h hW dX8_cut_20
    · exact w_X8_cut_1_b12 (F := F) C h hW (lv_sub hl [] rfl)
def n_X8_cut_1 (F : Nat) (S : Zs) (x1 : Int32) : Option (Int32 × Zs) := n_X8_cut_1_e F  S x1
theorem c_X8_cut_1 {l : Launch} {D : va_G} {cs ad : Nat → Nat} {F : Nat} {S : Zs} {x1 : Int32} {q : (Int32 × Zs)} (h : n_X8_cut_1 F S x1 = some q) : zMi l yX8_cut cX8_cut 2 (some .boolean) (zR 0 0) (xG D cs ad) [.ref (ad 1), .int x1] S q :=
  zz_enter (by decide) (Nat.le_of_ble_eq_true rfl) (fun p e s m below meth c ls C hW hl => w_X8_cut_1_e (F := F) C h hW (lv_sub hl [0, 1] rfl))
def n_X11_end_0_e (F : Nat)  (S : Zs) (x1 : Int32) : Option (Int32 × Zs) :=
  zcl (n_X8_cut_1 F S x1) (fun v2 S1 => zrb v2 S1)
set_option maxRecDepth 20000 in
set_option maxHeartbeats 4000000 in
theorem w_X11_end_0_e {F : Nat} {q : (Int32 × Zs)} {S : Zs}  {x1 : Int32} {ls : Array Slot} {H : Heap} {locs : List Loc} (C : zC p s m args meth c cX11_end 2 RX11 (some .boolean))  (h : n_X11_end_0_e F  S x1 = some q) (hW : zW (xG D cs ad) s S H locs) (hl : lv_has ls 2 [(0, .ref (ad 0)), (1, .int x1)]) : W p l e (zR 1 21) s m args below meth c H locs 0 0 (zQi (xG D cs ad) q below args s) (F0 m 0 ls []) := by
  unfold n_X11_end_0_e at h
  obtain ⟨hx, hb, hml, hown, hts, hret, hlk⟩ := id C
  refine lv_aload_n hx hb dX11_end_0 rfl (lv_at hl 0 rfl) ?_
  refine xg_0_0 C hW fl_X11_21 dX11_end_1 ?_
  refine lv_iload_n hx hb dX11_end_4 rfl (lv_at hl 1 rfl) ?_
  refine zz_callVi (As := [.int x1]) C hW h (fun r hr => c_X8_cut_1 hr) lk_X11_90 (hW.recv xr_1) rfl hl.1 ⟨rfl, rfl⟩ ⟨Nat.le_of_ble_eq_true rfl, Nat.le_of_ble_eq_true rfl⟩ (Nat.le_of_ble_eq_true rfl) ⟨Nat.zero_le _, Nat.zero_le _⟩ rfl dX11_end_5 (fun v2 S1 H locs h hW => ?_)
  exact zz_zret C rfl h hW dX11_end_8
def n_X11_end_0 (F : Nat) (S : Zs) (x1 : Int32) : Option (Int32 × Zs) := n_X11_end_0_e F  S x1
theorem c_X11_end_0 {l : Launch} {D : va_G} {cs ad : Nat → Nat} {F : Nat} {S : Zs} {x1 : Int32} {q : (Int32 × Zs)} (h : n_X11_end_0 F S x1 = some q) : zMi l yX11_end cX11_end 2 (some .boolean) (zR 1 21) (xG D cs ad) [.ref (ad 0), .int x1] S q :=
  zz_enter (by decide) (Nat.le_of_ble_eq_true rfl) (fun p e s m below meth c ls C hW hl => w_X11_end_0_e (F := F) C h hW (lv_sub hl [0, 1] rfl))
def n_X8_open_1_e (F : Nat)  (S : Zs)  : Option (Int32 × Zs) :=
  zpf S 22 (0 : Int32) (fun S1 => some (0, S1))
set_option maxRecDepth 20000 in
set_option maxHeartbeats 4000000 in
theorem w_X8_open_1_e {F : Nat} {q : (Int32 × Zs)} {S : Zs}   {ls : Array Slot} {H : Heap} {locs : List Loc} (C : zC p s m args meth c cX8_open 1 RX8 none)  (h : n_X8_open_1_e F  S  = some q) (hW : zW (xG D cs ad) s S H locs) (hl : lv_has ls 1 [(0, .ref (ad 1))]) : W p l e (zR 0 0) s m args below meth c H locs 0 0 (zQv (xG D cs ad) q below args s) (F0 m 0 ls []) := by
  unfold n_X8_open_1_e at h
  obtain ⟨hx, hb, hml, hown, hts, hret, hlk⟩ := id C
  refine lv_aload_n hx hb dX8_open_0 rfl (lv_at hl 0 rfl) ?_
  refine lv_iconst (v := 0) hx hb dX8_open_1 (by decide) ?_
  refine xp_1_2 C hW h fl_X8_19 dX8_open_2 (fun S1 H locs h hW => ?_)
  exact zz_vret C rfl h hW dX8_open_5
def n_X8_open_1 (F : Nat) (S : Zs)  : Option (Int32 × Zs) := n_X8_open_1_e F  S 
theorem c_X8_open_1 {l : Launch} {D : va_G} {cs ad : Nat → Nat} {F : Nat} {S : Zs}  {q : (Int32 × Zs)} (h : n_X8_open_1 F S  = some q) : zMv l yX8_open cX8_open 1 none (zR 0 0) (xG D cs ad) [.ref (ad 1)] S q :=
  zz_enter (by decide) (Nat.le_of_ble_eq_true rfl) (fun p e s m below meth c ls C hW hl => w_X8_open_1_e (F := F) C h hW (lv_sub hl [0] rfl))
def n_X8_isRead_1_b16 (F : Nat)  (S : Zs) (t0 : Int32) : Option (Int32 × Zs) :=
  zrb t0 S
set_option maxRecDepth 20000 in
set_option maxHeartbeats 4000000 in
theorem w_X8_isRead_1_b16 {F : Nat} {q : (Int32 × Zs)} {S : Zs}  {t0 : Int32} {ls : Array Slot} {H : Heap} {locs : List Loc} (C : zC p s m args meth c cX8_isRead 1 RX8 (some .boolean))  (h : n_X8_isRead_1_b16 F  S t0 = some q) (hW : zW (xG D cs ad) s S H locs) (hl : lv_has ls 1 []) : W p l e (zR 0 0) s m args below meth c H locs 0 0 (zQi (xG D cs ad) q below args s) (F0 m 16 ls [.int t0]) := by
  unfold n_X8_isRead_1_b16 at h
  obtain ⟨hx, hb, hml, hown, hts, hret, hlk⟩ := id C
  exact zz_zret C rfl h hW dX8_isRead_16
def n_X8_isRead_1_e (F : Nat)  (S : Zs)  : Option (Int32 × Zs) :=
  zgf S 22 (fun v1 => zgf S 21 (fun v2 => if v1 = v2 then (n_X8_isRead_1_b16 F  S (1 : Int32)) else (n_X8_isRead_1_b16 F  S (0 : Int32))))
set_option maxRecDepth 20000 in
set_option maxHeartbeats 4000000 in
theorem w_X8_isRead_1_e {F : Nat} {q : (Int32 × Zs)} {S : Zs}   {ls : Array Slot} {H : Heap} {locs : List Loc} (C : zC p s m args meth c cX8_isRead 1 RX8 (some .boolean))  (h : n_X8_isRead_1_e F  S  = some q) (hW : zW (xG D cs ad) s S H locs) (hl : lv_has ls 1 [(0, .ref (ad 1))]) : W p l e (zR 0 0) s m args below meth c H locs 0 0 (zQi (xG D cs ad) q below args s) (F0 m 0 ls []) := by
  unfold n_X8_isRead_1_e at h
  obtain ⟨hx, hb, hml, hown, hts, hret, hlk⟩ := id C
  refine lv_aload_n hx hb dX8_isRead_0 rfl (lv_at hl 0 rfl) ?_
  refine xg_1_2 C hW h fl_X8_19 dX8_isRead_1 (fun v1 h => ?_)
  refine lv_aload_n hx hb dX8_isRead_4 rfl (lv_at hl 0 rfl) ?_
  refine xg_1_1 C hW h fl_X8_15 dX8_isRead_5 (fun v2 h => ?_)
  refine zz_cne (tgt := 15) C h dX8_isRead_8 (by decide) (fun h => ?_) (fun h => ?_)
  · refine lv_iconst (v := 0) hx hb dX8_isRead_15 (by decide) ?_
    exact w_X8_isRead_1_b16 (F := F) C h hW (lv_sub hl [] rfl)
  · refine lv_iconst (v := 1) hx hb dX8_isRead_11 (by decide) ?_
    refine lv_goto (tgt := 16) hx hb dX8_isRead_12 (by decide) ?_
    exact w_X8_isRead_1_b16 (F := F) C h hW (lv_sub hl [] rfl)
def n_X8_isRead_1 (F : Nat) (S : Zs)  : Option (Int32 × Zs) := n_X8_isRead_1_e F  S 
theorem c_X8_isRead_1 {l : Launch} {D : va_G} {cs ad : Nat → Nat} {F : Nat} {S : Zs}  {q : (Int32 × Zs)} (h : n_X8_isRead_1 F S  = some q) : zMi l yX8_isRead cX8_isRead 1 (some .boolean) (zR 0 0) (xG D cs ad) [.ref (ad 1)] S q :=
  zz_enter (by decide) (Nat.le_of_ble_eq_true rfl) (fun p e s m below meth c ls C hW hl => w_X8_isRead_1_e (F := F) C h hW (lv_sub hl [0] rfl))
def n_X8_wrong_1_e (F : Nat)  (S : Zs)  : Option (Int32 × Zs) :=
  zgf S 22 (fun v1 => some (((-1 : Int32) - v1), S))
set_option maxRecDepth 20000 in
set_option maxHeartbeats 4000000 in
theorem w_X8_wrong_1_e {F : Nat} {q : (Int32 × Zs)} {S : Zs}   {ls : Array Slot} {H : Heap} {locs : List Loc} (C : zC p s m args meth c cX8_wrong 1 RX8 (some .int))  (h : n_X8_wrong_1_e F  S  = some q) (hW : zW (xG D cs ad) s S H locs) (hl : lv_has ls 1 [(0, .ref (ad 1))]) : W p l e (zR 0 0) s m args below meth c H locs 0 0 (zQi (xG D cs ad) q below args s) (F0 m 0 ls []) := by
  unfold n_X8_wrong_1_e at h
  obtain ⟨hx, hb, hml, hown, hts, hret, hlk⟩ := id C
  refine lv_iconst (v := -1) hx hb dX8_wrong_0 (by decide) ?_
  refine lv_aload_n hx hb dX8_wrong_1 rfl (lv_at hl 0 rfl) ?_
  refine xg_1_2 C hW h fl_X8_19 dX8_wrong_2 (fun v1 h => ?_)
  refine lv_isub hx hb dX8_wrong_5 ?_
  exact zz_iret C rfl h hW dX8_wrong_6
def n_X8_wrong_1 (F : Nat) (S : Zs)  : Option (Int32 × Zs) := n_X8_wrong_1_e F  S 
theorem c_X8_wrong_1 {l : Launch} {D : va_G} {cs ad : Nat → Nat} {F : Nat} {S : Zs}  {q : (Int32 × Zs)} (h : n_X8_wrong_1 F S  = some q) : zMi l yX8_wrong cX8_wrong 1 (some .int) (zR 0 0) (xG D cs ad) [.ref (ad 1)] S q :=
  zz_enter (by decide) (Nat.le_of_ble_eq_true rfl) (fun p e s m below meth c ls C hW hl => w_X8_wrong_1_e (F := F) C h hW (lv_sub hl [0] rfl))
def n_X8_peek_1_b33 (F : Nat)  (S : Zs) (t0 : Int32) : Option (Int32 × Zs) :=
  some (t0, S)
set_option maxRecDepth 20000 in
set_option maxHeartbeats 4000000 in
theorem w_X8_peek_1_b33 {F : Nat} {q : (Int32 × Zs)} {S : Zs}  {t0 : Int32} {ls : Array Slot} {H : Heap} {locs : List Loc} (C : zC p s m args meth c cX8_peek 1 RX8 (some .int))  (h : n_X8_peek_1_b33 F  S t0 = some q) (hW : zW (xG D cs ad) s S H locs) (hl : lv_has ls 1 []) : W p l e (zR 0 0) s m args below meth c H locs 0 0 (zQi (xG D cs ad) q below args s) (F0 m 33 ls [.int t0]) := by
  unfold n_X8_peek_1_b33 at h
  obtain ⟨hx, hb, hml, hown, hts, hret, hlk⟩ := id C
  exact zz_iret C rfl h hW dX8_peek_33
def n_X8_peek_1_b32 (F : Nat)  (S : Zs)  : Option (Int32 × Zs) :=
  n_X8_peek_1_b33 F  S (-1 : Int32)
set_option maxRecDepth 20000 in
set_option maxHeartbeats 4000000 in
theorem w_X8_peek_1_b32 {F : Nat} {q : (Int32 × Zs)} {S : Zs}   {ls : Array Slot} {H : Heap} {locs : List Loc} (C : zC p s m args meth c cX8_peek 1 RX8 (some .int))  (h : n_X8_peek_1_b32 F  S  = some q) (hW : zW (xG D cs ad) s S H locs) (hl : lv_has ls 1 []) : W p l e (zR 0 0) s m args below meth c H locs 0 0 (zQi (xG D cs ad) q below args s) (F0 m 32 ls []) := by
  unfold n_X8_peek_1_b32 at h
  obtain ⟨hx, hb, hml, hown, hts, hret, hlk⟩ := id C
  refine lv_iconst (v := -1) hx hb dX8_peek_32 (by decide) ?_
  exact w_X8_peek_1_b33 (F := F) C h hW (lv_sub hl [] rfl)
def n_X8_peek_1_e (F : Nat)  (S : Zs)  : Option (Int32 × Zs) :=
  zgf S 22 (fun v1 => zgf S 21 (fun v2 => if v2 ≤ v1 then (n_X8_peek_1_b32 F  S ) else (zgf S 22 (fun v3 => if (76 : Int32) ≤ v3 then (n_X8_peek_1_b32 F  S ) else (zgf S 22 (fun v4 => zld S 2 80 v4 (fun v5 => n_X8_peek_1_b33 F  S v5)))))))
set_option maxRecDepth 20000 in
set_option maxHeartbeats 4000000 in
theorem w_X8_peek_1_e {F : Nat} {q : (Int32 × Zs)} {S : Zs}   {ls : Array Slot} {H : Heap} {locs : List Loc} (C : zC p s m args meth c cX8_peek 1 RX8 (some .int))  (h : n_X8_peek_1_e F  S  = some q) (hW : zW (xG D cs ad) s S H locs) (hl : lv_has ls 1 [(0, .ref (ad 1))]) : W p l e (zR 0 0) s m args below meth c H locs 0 0 (zQi (xG D cs ad) q below args s) (F0 m 0 ls []) := by
  unfold n_X8_peek_1_e at h
  obtain ⟨hx, hb, hml, hown, hts, hret, hlk⟩ := id C
  refine lv_aload_n hx hb dX8_peek_0 rfl (lv_at hl 0 rfl) ?_
  refine xg_1_2 C hW h fl_X8_19 dX8_peek_1 (fun v1 h => ?_)
  refine lv_aload_n hx hb dX8_peek_4 rfl (lv_at hl 0 rfl) ?_
  refine xg_1_1 C hW h fl_X8_15 dX8_peek_5 (fun v2 h => ?_)
  refine zz_cge (tgt := 32) C h dX8_peek_8 (by decide) (fun h => ?_) (fun h => ?_)
  · exact w_X8_peek_1_b32 (F := F) C h hW (lv_sub hl [] rfl)
  · refine lv_aload_n hx hb dX8_peek_11 rfl (lv_at hl 0 rfl) ?_
    refine xg_1_2 C hW h fl_X8_19 dX8_peek_12 (fun v3 h => ?_)
    refine lv_bipush (v := 76) hx hb dX8_peek_15 (by decide) ?_
    refine zz_cge (tgt := 32) C h dX8_peek_17 (by decide) (fun h => ?_) (fun h => ?_)
    · exact w_X8_peek_1_b32 (F := F) C h hW (lv_sub hl [] rfl)
    · refine lv_aload_n hx hb dX8_peek_20 rfl (lv_at hl 0 rfl) ?_
      refine xg_1_0 C hW fl_X8_11 dX8_peek_21 ?_
      refine lv_aload_n hx hb dX8_peek_24 rfl (lv_at hl 0 rfl) ?_
      refine xg_1_2 C hW h fl_X8_19 dX8_peek_25 (fun v4 h => ?_)
      refine xl_2 C hW h dX8_peek_28 (fun v5 h => ?_)
      refine lv_goto (tgt := 33) hx hb dX8_peek_29 (by decide) ?_
      exact w_X8_peek_1_b33 (F := F) C h hW (lv_sub hl [] rfl)
def n_X8_peek_1 (F : Nat) (S : Zs)  : Option (Int32 × Zs) := n_X8_peek_1_e F  S 
theorem c_X8_peek_1 {l : Launch} {D : va_G} {cs ad : Nat → Nat} {F : Nat} {S : Zs}  {q : (Int32 × Zs)} (h : n_X8_peek_1 F S  = some q) : zMi l yX8_peek cX8_peek 1 (some .int) (zR 0 0) (xG D cs ad) [.ref (ad 1)] S q :=
  zz_enter (by decide) (Nat.le_of_ble_eq_true rfl) (fun p e s m below meth c ls C hW hl => w_X8_peek_1_e (F := F) C h hW (lv_sub hl [0] rfl))
def n_X8_take_1_e (F : Nat)  (S : Zs) (x1 : Int32) : Option (Int32 × Zs) :=
  zcl (n_X8_peek_1 F S ) (fun v2 S1 => if v2 = x1 then (zgf S1 22 (fun v3 => zpf S1 22 (v3 + (1 : Int32)) (fun S4 => zrb (1 : Int32) S4))) else (zrb (0 : Int32) S1))
set_option maxRecDepth 20000 in
set_option maxHeartbeats 4000000 in
theorem w_X8_take_1_e {F : Nat} {q : (Int32 × Zs)} {S : Zs}  {x1 : Int32} {ls : Array Slot} {H : Heap} {locs : List Loc} (C : zC p s m args meth c cX8_take 2 RX8 (some .boolean))  (h : n_X8_take_1_e F  S x1 = some q) (hW : zW (xG D cs ad) s S H locs) (hl : lv_has ls 2 [(0, .ref (ad 1)), (1, .int x1)]) : W p l e (zR 1 20) s m args below meth c H locs 0 0 (zQi (xG D cs ad) q below args s) (F0 m 0 ls []) := by
  unfold n_X8_take_1_e at h
  obtain ⟨hx, hb, hml, hown, hts, hret, hlk⟩ := id C
  refine lv_aload_n hx hb dX8_take_0 rfl (lv_at hl 0 rfl) ?_
  refine zz_callVi (As := []) C hW h (fun r hr => c_X8_peek_1 hr) lk_X8_22 (hW.recv xr_1) rfl hl.1 ⟨rfl, rfl⟩ ⟨Nat.le_of_ble_eq_true rfl, Nat.le_of_ble_eq_true rfl⟩ (Nat.le_of_ble_eq_true rfl) ⟨Nat.zero_le _, Nat.zero_le _⟩ rfl dX8_take_1 (fun v2 S1 H locs h hW => ?_)
  refine lv_iload_n hx hb dX8_take_4 rfl (lv_at hl 1 rfl) ?_
  refine zz_ceq (tgt := 10) C h dX8_take_5 (by decide) (fun h => ?_) (fun h => ?_)
  · refine lv_aload_n hx hb dX8_take_10 rfl (lv_at hl 0 rfl) ?_
    refine lv_dup hx hb dX8_take_11 rfl ?_
    refine xg_1_2 C hW h fl_X8_19 dX8_take_12 (fun v3 h => ?_)
    refine lv_iconst (v := 1) hx hb dX8_take_15 (by decide) ?_
    refine lv_iadd hx hb dX8_take_16 ?_
    refine xp_1_2 C hW h fl_X8_19 dX8_take_17 (fun S4 H locs h hW => ?_)
    refine lv_iconst (v := 1) hx hb dX8_take_20 (by decide) ?_
    exact zz_zret C rfl h hW dX8_take_21
  · refine lv_iconst (v := 0) hx hb dX8_take_8 (by decide) ?_
    exact zz_zret C rfl h hW dX8_take_9
def n_X8_take_1 (F : Nat) (S : Zs) (x1 : Int32) : Option (Int32 × Zs) := n_X8_take_1_e F  S x1
theorem c_X8_take_1 {l : Launch} {D : va_G} {cs ad : Nat → Nat} {F : Nat} {S : Zs} {x1 : Int32} {q : (Int32 × Zs)} (h : n_X8_take_1 F S x1 = some q) : zMi l yX8_take cX8_take 2 (some .boolean) (zR 1 20) (xG D cs ad) [.ref (ad 1), .int x1] S q :=
  zz_enter (by decide) (Nat.le_of_ble_eq_true rfl) (fun p e s m below meth c ls C hW hl => w_X8_take_1_e (F := F) C h hW (lv_sub hl [0, 1] rfl))
def n_X8_takeForm_1_b47 (F : Nat)  (S : Zs) (t0 : Int32) : Option (Int32 × Zs) :=
  some (t0, S)
set_option maxRecDepth 20000 in
set_option maxHeartbeats 4000000 in
theorem w_X8_takeForm_1_b47 {F : Nat} {q : (Int32 × Zs)} {S : Zs}  {t0 : Int32} {ls : Array Slot} {H : Heap} {locs : List Loc} (C : zC p s m args meth c cX8_takeForm 1 RX8 (some .int))  (h : n_X8_takeForm_1_b47 F  S t0 = some q) (hW : zW (xG D cs ad) s S H locs) (hl : lv_has ls 1 []) : W p l e (zR 2 41) s m args below meth c H locs 0 0 (zQi (xG D cs ad) q below args s) (F0 m 47 ls [.int t0]) := by
  unfold n_X8_takeForm_1_b47 at h
  obtain ⟨hx, hb, hml, hown, hts, hret, hlk⟩ := id C
  exact zz_iret C rfl h hW dX8_takeForm_47
def n_X8_takeForm_1_e (F : Nat)  (S : Zs)  : Option (Int32 × Zs) :=
  zcl (n_X8_take_1 F S (65 : Int32)) (fun v2 S1 => if v2 = 0 then (zcl (n_X8_take_1 F S1 (69 : Int32)) (fun v4 S3 => if v4 = 0 then (zcl (n_X8_take_1 F S3 (73 : Int32)) (fun v6 S5 => if v6 = 0 then (zcl (n_X8_take_1 F S5 (79 : Int32)) (fun v8 S7 => if v8 = 0 then (n_X8_takeForm_1_b47 F  S7 (-1 : Int32)) else (n_X8_takeForm_1_b47 F  S7 (3 : Int32)))) else (some ((2 : Int32), S5)))) else (some ((1 : Int32), S3)))) else (some ((0 : Int32), S1)))
set_option maxRecDepth 20000 in
set_option maxHeartbeats 4000000 in
theorem w_X8_takeForm_1_e {F : Nat} {q : (Int32 × Zs)} {S : Zs}   {ls : Array Slot} {H : Heap} {locs : List Loc} (C : zC p s m args meth c cX8_takeForm 1 RX8 (some .int))  (h : n_X8_takeForm_1_e F  S  = some q) (hW : zW (xG D cs ad) s S H locs) (hl : lv_has ls 1 [(0, .ref (ad 1))]) : W p l e (zR 2 41) s m args below meth c H locs 0 0 (zQi (xG D cs ad) q below args s) (F0 m 0 ls []) := by
  unfold n_X8_takeForm_1_e at h
  obtain ⟨hx, hb, hml, hown, hts, hret, hlk⟩ := id C
  refine lv_aload_n hx hb dX8_takeForm_0 rfl (lv_at hl 0 rfl) ?_
  refine lv_bipush (v := 65) hx hb dX8_takeForm_1 (by decide) ?_
  refine zz_callVi (As := [.int (65 : Int32)]) C hW h (fun r hr => c_X8_take_1 hr) lk_X8_26 (hW.recv xr_1) rfl hl.1 ⟨rfl, rfl⟩ ⟨Nat.le_of_ble_eq_true rfl, Nat.le_of_ble_eq_true rfl⟩ (Nat.le_of_ble_eq_true rfl) ⟨Nat.zero_le _, Nat.zero_le _⟩ rfl dX8_takeForm_3 (fun v2 S1 H locs h hW => ?_)
  refine zz_ieq (tgt := 11) C h dX8_takeForm_6 (by decide) (fun h => ?_) (fun h => ?_)
  · refine lv_aload_n hx hb dX8_takeForm_11 rfl (lv_at hl 0 rfl) ?_
    refine lv_bipush (v := 69) hx hb dX8_takeForm_12 (by decide) ?_
    refine zz_callVi (As := [.int (69 : Int32)]) C hW h (fun r hr => c_X8_take_1 hr) lk_X8_26 (hW.recv xr_1) rfl hl.1 ⟨rfl, rfl⟩ ⟨Nat.le_of_ble_eq_true rfl, Nat.le_of_ble_eq_true rfl⟩ (Nat.le_of_ble_eq_true rfl) ⟨Nat.zero_le _, Nat.zero_le _⟩ rfl dX8_takeForm_14 (fun v4 S3 H locs h hW => ?_)
    refine zz_ieq (tgt := 22) C h dX8_takeForm_17 (by decide) (fun h => ?_) (fun h => ?_)
    · refine lv_aload_n hx hb dX8_takeForm_22 rfl (lv_at hl 0 rfl) ?_
      refine lv_bipush (v := 73) hx hb dX8_takeForm_23 (by decide) ?_
      refine zz_callVi (As := [.int (73 : Int32)]) C hW h (fun r hr => c_X8_take_1 hr) lk_X8_26 (hW.recv xr_1) rfl hl.1 ⟨rfl, rfl⟩ ⟨Nat.le_of_ble_eq_true rfl, Nat.le_of_ble_eq_true rfl⟩ (Nat.le_of_ble_eq_true rfl) ⟨Nat.zero_le _, Nat.zero_le _⟩ rfl dX8_takeForm_25 (fun v6 S5 H locs h hW => ?_)
      refine zz_ieq (tgt := 33) C h dX8_takeForm_28 (by decide) (fun h => ?_) (fun h => ?_)
      · refine lv_aload_n hx hb dX8_takeForm_33 rfl (lv_at hl 0 rfl) ?_
        refine lv_bipush (v := 79) hx hb dX8_takeForm_34 (by decide) ?_
        refine zz_callVi (As := [.int (79 : Int32)]) C hW h (fun r hr => c_X8_take_1 hr) lk_X8_26 (hW.recv xr_1) rfl hl.1 ⟨rfl, rfl⟩ ⟨Nat.le_of_ble_eq_true rfl, Nat.le_of_ble_eq_true rfl⟩ (Nat.le_of_ble_eq_true rfl) ⟨Nat.zero_le _, Nat.zero_le _⟩ rfl dX8_takeForm_36 (fun v8 S7 H locs h hW => ?_)
        refine zz_ieq (tgt := 46) C h dX8_takeForm_39 (by decide) (fun h => ?_) (fun h => ?_)
        · refine lv_iconst (v := -1) hx hb dX8_takeForm_46 (by decide) ?_
          exact w_X8_takeForm_1_b47 (F := F) C h hW (lv_sub hl [] rfl)
        · refine lv_iconst (v := 3) hx hb dX8_takeForm_42 (by decide) ?_
          refine lv_goto (tgt := 47) hx hb dX8_takeForm_43 (by decide) ?_
          exact w_X8_takeForm_1_b47 (F := F) C h hW (lv_sub hl [] rfl)
      · refine lv_iconst (v := 2) hx hb dX8_takeForm_31 (by decide) ?_
        exact zz_iret C rfl h hW dX8_takeForm_32
    · refine lv_iconst (v := 1) hx hb dX8_takeForm_20 (by decide) ?_
      exact zz_iret C rfl h hW dX8_takeForm_21
  · refine lv_iconst (v := 0) hx hb dX8_takeForm_9 (by decide) ?_
    exact zz_iret C rfl h hW dX8_takeForm_10
def n_X8_takeForm_1 (F : Nat) (S : Zs)  : Option (Int32 × Zs) := n_X8_takeForm_1_e F  S 
theorem c_X8_takeForm_1 {l : Launch} {D : va_G} {cs ad : Nat → Nat} {F : Nat} {S : Zs}  {q : (Int32 × Zs)} (h : n_X8_takeForm_1 F S  = some q) : zMi l yX8_takeForm cX8_takeForm 1 (some .int) (zR 2 41) (xG D cs ad) [.ref (ad 1)] S q :=
  zz_enter (by decide) (Nat.le_of_ble_eq_true rfl) (fun p e s m below meth c ls C hW hl => w_X8_takeForm_1_e (F := F) C h hW (lv_sub hl [0] rfl))
def n_X8_takeWithin_1_b15 (F : Nat)  (S : Zs)  : Option (Int32 × Zs) :=
  some ((-1 : Int32), S)
set_option maxRecDepth 20000 in
set_option maxHeartbeats 4000000 in
theorem w_X8_takeWithin_1_b15 {F : Nat} {q : (Int32 × Zs)} {S : Zs}   {ls : Array Slot} {H : Heap} {locs : List Loc} (C : zC p s m args meth c cX8_takeWithin 4 RX8 (some .int))  (h : n_X8_takeWithin_1_b15 F  S  = some q) (hW : zW (xG D cs ad) s S H locs) (hl : lv_has ls 4 []) : W p l e (zR 1 20) s m args below meth c H locs 0 0 (zQi (xG D cs ad) q below args s) (F0 m 15 ls []) := by
  unfold n_X8_takeWithin_1_b15 at h
  obtain ⟨hx, hb, hml, hown, hts, hret, hlk⟩ := id C
  refine lv_iconst (v := -1) hx hb dX8_takeWithin_15 (by decide) ?_
  exact zz_iret C rfl h hW dX8_takeWithin_16
def n_X8_takeWithin_1_e (F : Nat)  (S : Zs) (x1 : Int32) (x2 : Int32) : Option (Int32 × Zs) :=
  zcl (n_X8_peek_1 F S ) (fun v2 S1 => if v2 < x1 then (n_X8_takeWithin_1_b15 F  S1 ) else (if v2 ≤ x2 then (zgf S1 22 (fun v3 => zpf S1 22 (v3 + (1 : Int32)) (fun S4 => some ((v2 - x1), S4)))) else (n_X8_takeWithin_1_b15 F  S1 )))
set_option maxRecDepth 20000 in
set_option maxHeartbeats 4000000 in
theorem w_X8_takeWithin_1_e {F : Nat} {q : (Int32 × Zs)} {S : Zs}  {x1 : Int32} {x2 : Int32} {ls : Array Slot} {H : Heap} {locs : List Loc} (C : zC p s m args meth c cX8_takeWithin 4 RX8 (some .int))  (h : n_X8_takeWithin_1_e F  S x1 x2 = some q) (hW : zW (xG D cs ad) s S H locs) (hl : lv_has ls 4 [(0, .ref (ad 1)), (1, .int x1), (2, .int x2)]) : W p l e (zR 1 20) s m args below meth c H locs 0 0 (zQi (xG D cs ad) q below args s) (F0 m 0 ls []) := by
  unfold n_X8_takeWithin_1_e at h
  obtain ⟨hx, hb, hml, hown, hts, hret, hlk⟩ := id C
  refine lv_aload_n hx hb dX8_takeWithin_0 rfl (lv_at hl 0 rfl) ?_
  refine zz_callVi (As := []) C hW h (fun r hr => c_X8_peek_1 hr) lk_X8_22 (hW.recv xr_1) rfl hl.1 ⟨rfl, rfl⟩ ⟨Nat.le_of_ble_eq_true rfl, Nat.le_of_ble_eq_true rfl⟩ (Nat.le_of_ble_eq_true rfl) ⟨Nat.zero_le _, Nat.zero_le _⟩ rfl dX8_takeWithin_1 (fun v2 S1 H locs h hW => ?_)
  refine lv_istore_n (lv' := [(3, .int v2), (0, .ref (ad 1)), (1, .int x1), (2, .int x2)]) hx hb dX8_takeWithin_4 rfl hl (by decide) rfl (fun ls hl => ?_)
  refine lv_iload_n hx hb dX8_takeWithin_5 rfl (lv_at hl 0 rfl) ?_
  refine lv_iload_n hx hb dX8_takeWithin_6 rfl (lv_at hl 2 rfl) ?_
  refine zz_clt (tgt := 15) C h dX8_takeWithin_7 (by decide) (fun h => ?_) (fun h => ?_)
  · exact w_X8_takeWithin_1_b15 (F := F) C h hW (lv_sub hl [] rfl)
  · refine lv_iload_n hx hb dX8_takeWithin_10 rfl (lv_at hl 0 rfl) ?_
    refine lv_iload_n hx hb dX8_takeWithin_11 rfl (lv_at hl 3 rfl) ?_
    refine zz_cle (tgt := 17) C h dX8_takeWithin_12 (by decide) (fun h => ?_) (fun h => ?_)
    · refine lv_aload_n hx hb dX8_takeWithin_17 rfl (lv_at hl 1 rfl) ?_
      refine lv_dup hx hb dX8_takeWithin_18 rfl ?_
      refine xg_1_2 C hW h fl_X8_19 dX8_takeWithin_19 (fun v3 h => ?_)
      refine lv_iconst (v := 1) hx hb dX8_takeWithin_22 (by decide) ?_
      refine lv_iadd hx hb dX8_takeWithin_23 ?_
      refine xp_1_2 C hW h fl_X8_19 dX8_takeWithin_24 (fun S4 H locs h hW => ?_)
      refine lv_iload_n hx hb dX8_takeWithin_27 rfl (lv_at hl 0 rfl) ?_
      refine lv_iload_n hx hb dX8_takeWithin_28 rfl (lv_at hl 2 rfl) ?_
      refine lv_isub hx hb dX8_takeWithin_29 ?_
      exact zz_iret C rfl h hW dX8_takeWithin_30
    · exact w_X8_takeWithin_1_b15 (F := F) C h hW (lv_sub hl [] rfl)
def n_X8_takeWithin_1 (F : Nat) (S : Zs) (x1 : Int32) (x2 : Int32) : Option (Int32 × Zs) := n_X8_takeWithin_1_e F  S x1 x2
theorem c_X8_takeWithin_1 {l : Launch} {D : va_G} {cs ad : Nat → Nat} {F : Nat} {S : Zs} {x1 : Int32} {x2 : Int32} {q : (Int32 × Zs)} (h : n_X8_takeWithin_1 F S x1 x2 = some q) : zMi l yX8_takeWithin cX8_takeWithin 4 (some .int) (zR 1 20) (xG D cs ad) [.ref (ad 1), .int x1, .int x2] S q :=
  zz_enter (by decide) (Nat.le_of_ble_eq_true rfl) (fun p e s m below meth c ls C hW hl => w_X8_takeWithin_1_e (F := F) C h hW (lv_sub hl [0, 1, 2] rfl))
def n_X8_takeTerm_1_b38 (F : Nat)  (S : Zs) (t0 : Int32) : Option (Int32 × Zs) :=
  some (t0, S)
set_option maxRecDepth 20000 in
set_option maxHeartbeats 4000000 in
theorem w_X8_takeTerm_1_b38 {F : Nat} {q : (Int32 × Zs)} {S : Zs}  {t0 : Int32} {ls : Array Slot} {H : Heap} {locs : List Loc} (C : zC p s m args meth c cX8_takeTerm 3 RX8 (some .int))  (h : n_X8_takeTerm_1_b38 F  S t0 = some q) (hW : zW (xG D cs ad) s S H locs) (hl : lv_has ls 3 []) : W p l e (zR 2 43) s m args below meth c H locs 0 0 (zQi (xG D cs ad) q below args s) (F0 m 38 ls [.int t0]) := by
  unfold n_X8_takeTerm_1_b38 at h
  obtain ⟨hx, hb, hml, hown, hts, hret, hlk⟩ := id C
  exact zz_iret C rfl h hW dX8_takeTerm_38
def n_X8_takeTerm_1_b14 (F : Nat)  (S : Zs) (t0 : Int32) : Option (Int32 × Zs) :=
  zcl (n_X8_takeWithin_1 F S (97 : Int32) (108 : Int32)) (fun v2 S1 => if v2 = (-1 : Int32) then (n_X8_takeTerm_1_b38 F  S1 (-1 : Int32)) else (n_X8_takeTerm_1_b38 F  S1 (((2 : Int32) * v2) + t0)))
set_option maxRecDepth 20000 in
set_option maxHeartbeats 4000000 in
theorem w_X8_takeTerm_1_b14 {F : Nat} {q : (Int32 × Zs)} {S : Zs}  {t0 : Int32} {ls : Array Slot} {H : Heap} {locs : List Loc} (C : zC p s m args meth c cX8_takeTerm 3 RX8 (some .int))  (h : n_X8_takeTerm_1_b14 F  S t0 = some q) (hW : zW (xG D cs ad) s S H locs) (hl : lv_has ls 3 [(0, .ref (ad 1))]) : W p l e (zR 2 43) s m args below meth c H locs 0 0 (zQi (xG D cs ad) q below args s) (F0 m 14 ls [.int t0]) := by
  unfold n_X8_takeTerm_1_b14 at h
  obtain ⟨hx, hb, hml, hown, hts, hret, hlk⟩ := id C
  refine lv_istore_n (lv' := [(1, .int t0), (0, .ref (ad 1))]) hx hb dX8_takeTerm_14 rfl hl (by decide) rfl (fun ls hl => ?_)
  refine lv_aload_n hx hb dX8_takeTerm_15 rfl (lv_at hl 1 rfl) ?_
  refine lv_bipush (v := 97) hx hb dX8_takeTerm_16 (by decide) ?_
  refine lv_bipush (v := 108) hx hb dX8_takeTerm_18 (by decide) ?_
  refine zz_callVi (As := [.int (97 : Int32), .int (108 : Int32)]) C hW h (fun r hr => c_X8_takeWithin_1 hr) lk_X8_30 (hW.recv xr_1) rfl hl.1 ⟨rfl, rfl⟩ ⟨Nat.le_of_ble_eq_true rfl, Nat.le_of_ble_eq_true rfl⟩ (Nat.le_of_ble_eq_true rfl) ⟨Nat.zero_le _, Nat.zero_le _⟩ rfl dX8_takeTerm_20 (fun v2 S1 H locs h hW => ?_)
  refine lv_istore_n (lv' := [(2, .int v2), (1, .int t0), (0, .ref (ad 1))]) hx hb dX8_takeTerm_23 rfl hl (by decide) rfl (fun ls hl => ?_)
  refine lv_iload_n hx hb dX8_takeTerm_24 rfl (lv_at hl 0 rfl) ?_
  refine lv_iconst (v := -1) hx hb dX8_takeTerm_25 (by decide) ?_
  refine zz_cne (tgt := 33) C h dX8_takeTerm_26 (by decide) (fun h => ?_) (fun h => ?_)
  · refine lv_iconst (v := 2) hx hb dX8_takeTerm_33 (by decide) ?_
    refine lv_iload_n hx hb dX8_takeTerm_34 rfl (lv_at hl 0 rfl) ?_
    refine lv_imul hx hb dX8_takeTerm_35 ?_
    refine lv_iload_n hx hb dX8_takeTerm_36 rfl (lv_at hl 1 rfl) ?_
    refine lv_iadd hx hb dX8_takeTerm_37 ?_
    exact w_X8_takeTerm_1_b38 (F := F) C h hW (lv_sub hl [] rfl)
  · refine lv_iconst (v := -1) hx hb dX8_takeTerm_29 (by decide) ?_
    refine lv_goto (tgt := 38) hx hb dX8_takeTerm_30 (by decide) ?_
    exact w_X8_takeTerm_1_b38 (F := F) C h hW (lv_sub hl [] rfl)
def n_X8_takeTerm_1_e (F : Nat)  (S : Zs)  : Option (Int32 × Zs) :=
  zcl (n_X8_take_1 F S (45 : Int32)) (fun v2 S1 => if v2 = 0 then (n_X8_takeTerm_1_b14 F  S1 (0 : Int32)) else (n_X8_takeTerm_1_b14 F  S1 (1 : Int32)))
set_option maxRecDepth 20000 in
set_option maxHeartbeats 4000000 in
theorem w_X8_takeTerm_1_e {F : Nat} {q : (Int32 × Zs)} {S : Zs}   {ls : Array Slot} {H : Heap} {locs : List Loc} (C : zC p s m args meth c cX8_takeTerm 3 RX8 (some .int))  (h : n_X8_takeTerm_1_e F  S  = some q) (hW : zW (xG D cs ad) s S H locs) (hl : lv_has ls 3 [(0, .ref (ad 1))]) : W p l e (zR 2 43) s m args below meth c H locs 0 0 (zQi (xG D cs ad) q below args s) (F0 m 0 ls []) := by
  unfold n_X8_takeTerm_1_e at h
  obtain ⟨hx, hb, hml, hown, hts, hret, hlk⟩ := id C
  refine lv_aload_n hx hb dX8_takeTerm_0 rfl (lv_at hl 0 rfl) ?_
  refine lv_bipush (v := 45) hx hb dX8_takeTerm_1 (by decide) ?_
  refine zz_callVi (As := [.int (45 : Int32)]) C hW h (fun r hr => c_X8_take_1 hr) lk_X8_26 (hW.recv xr_1) rfl hl.1 ⟨rfl, rfl⟩ ⟨Nat.le_of_ble_eq_true rfl, Nat.le_of_ble_eq_true rfl⟩ (Nat.le_of_ble_eq_true rfl) ⟨Nat.zero_le _, Nat.zero_le _⟩ rfl dX8_takeTerm_3 (fun v2 S1 H locs h hW => ?_)
  refine zz_ieq (tgt := 13) C h dX8_takeTerm_6 (by decide) (fun h => ?_) (fun h => ?_)
  · refine lv_iconst (v := 0) hx hb dX8_takeTerm_13 (by decide) ?_
    exact w_X8_takeTerm_1_b14 (F := F) C h hW (lv_sub hl [0] rfl)
  · refine lv_iconst (v := 1) hx hb dX8_takeTerm_9 (by decide) ?_
    refine lv_goto (tgt := 14) hx hb dX8_takeTerm_10 (by decide) ?_
    exact w_X8_takeTerm_1_b14 (F := F) C h hW (lv_sub hl [0] rfl)
def n_X8_takeTerm_1 (F : Nat) (S : Zs)  : Option (Int32 × Zs) := n_X8_takeTerm_1_e F  S 
theorem c_X8_takeTerm_1 {l : Launch} {D : va_G} {cs ad : Nat → Nat} {F : Nat} {S : Zs}  {q : (Int32 × Zs)} (h : n_X8_takeTerm_1 F S  = some q) : zMi l yX8_takeTerm cX8_takeTerm 3 (some .int) (zR 2 43) (xG D cs ad) [.ref (ad 1)] S q :=
  zz_enter (by decide) (Nat.le_of_ble_eq_true rfl) (fun p e s m below meth c ls C hW hl => w_X8_takeTerm_1_e (F := F) C h hW (lv_sub hl [0] rfl))
def n_X0_make_e (F : Nat)  (S : Zs) (x0 : Int32) (x1 : Int32) (x2 : Int32) : Option (Int32 × Zs) :=
  some (((((576 : Int32) * x0) + ((24 : Int32) * x1)) + x2), S)
set_option maxRecDepth 20000 in
set_option maxHeartbeats 4000000 in
theorem w_X0_make_e {F : Nat} {q : (Int32 × Zs)} {S : Zs}  {x0 : Int32} {x1 : Int32} {x2 : Int32} {ls : Array Slot} {H : Heap} {locs : List Loc} (C : zC p s m args meth c cX0_make 3 RX0 (some .int))  (h : n_X0_make_e F  S x0 x1 x2 = some q) (hW : zW (xG D cs ad) s S H locs) (hl : lv_has ls 3 [(0, .int x0), (1, .int x1), (2, .int x2)]) : W p l e (zR 0 0) s m args below meth c H locs 0 0 (zQi (xG D cs ad) q below args s) (F0 m 0 ls []) := by
  unfold n_X0_make_e at h
  obtain ⟨hx, hb, hml, hown, hts, hret, hlk⟩ := id C
  refine lv_sipush (v := 576) hx hb dX0_make_0 (by decide) ?_
  refine lv_iload_n hx hb dX0_make_3 rfl (lv_at hl 0 rfl) ?_
  refine lv_imul hx hb dX0_make_4 ?_
  refine lv_bipush (v := 24) hx hb dX0_make_5 (by decide) ?_
  refine lv_iload_n hx hb dX0_make_7 rfl (lv_at hl 1 rfl) ?_
  refine lv_imul hx hb dX0_make_8 ?_
  refine lv_iadd hx hb dX0_make_9 ?_
  refine lv_iload_n hx hb dX0_make_10 rfl (lv_at hl 2 rfl) ?_
  refine lv_iadd hx hb dX0_make_11 ?_
  exact zz_iret C rfl h hW dX0_make_12
def n_X0_make (F : Nat) (S : Zs) (x0 : Int32) (x1 : Int32) (x2 : Int32) : Option (Int32 × Zs) := n_X0_make_e F  S x0 x1 x2
theorem c_X0_make {l : Launch} {D : va_G} {cs ad : Nat → Nat} {F : Nat} {S : Zs} {x0 : Int32} {x1 : Int32} {x2 : Int32} {q : (Int32 × Zs)} (h : n_X0_make F S x0 x1 x2 = some q) : zMi l yX0_make cX0_make 3 (some .int) (zR 0 0) (xG D cs ad) [.int x0, .int x1, .int x2] S q :=
  zz_enter (by decide) (Nat.le_of_ble_eq_true rfl) (fun p e s m below meth c ls C hW hl => w_X0_make_e (F := F) C h hW (lv_sub hl [0, 1, 2] rfl))
def n_X8_takeCode_1_b48 (F : Nat)  (S : Zs) (t0 : Int32) : Option (Int32 × Zs) :=
  some (t0, S)
set_option maxRecDepth 20000 in
set_option maxHeartbeats 4000000 in
theorem w_X8_takeCode_1_b48 {F : Nat} {q : (Int32 × Zs)} {S : Zs}  {t0 : Int32} {ls : Array Slot} {H : Heap} {locs : List Loc} (C : zC p s m args meth c cX8_takeCode 4 RX8 (some .int))  (h : n_X8_takeCode_1_b48 F  S t0 = some q) (hW : zW (xG D cs ad) s S H locs) (hl : lv_has ls 4 []) : W p l e (zR 3 65) s m args below meth c H locs 0 0 (zQi (xG D cs ad) q below args s) (F0 m 48 ls [.int t0]) := by
  unfold n_X8_takeCode_1_b48 at h
  obtain ⟨hx, hb, hml, hown, hts, hret, hlk⟩ := id C
  exact zz_iret C rfl h hW dX8_takeCode_48
def n_X8_takeCode_1_b32 (F : Nat)  (S : Zs) (x1 : Int32) (x2 : Int32) (t0 : Int32) : Option (Int32 × Zs) :=
  if t0 = (-1 : Int32) then (n_X8_takeCode_1_b48 F  S (-1 : Int32)) else (zcl (n_X0_make F S x1 x2 t0) (fun v2 S1 => n_X8_takeCode_1_b48 F  S1 v2))
set_option maxRecDepth 20000 in
set_option maxHeartbeats 4000000 in
theorem w_X8_takeCode_1_b32 {F : Nat} {q : (Int32 × Zs)} {S : Zs}  {x1 : Int32} {x2 : Int32} {t0 : Int32} {ls : Array Slot} {H : Heap} {locs : List Loc} (C : zC p s m args meth c cX8_takeCode 4 RX8 (some .int))  (h : n_X8_takeCode_1_b32 F  S x1 x2 t0 = some q) (hW : zW (xG D cs ad) s S H locs) (hl : lv_has ls 4 [(1, .int x1), (2, .int x2)]) : W p l e (zR 3 65) s m args below meth c H locs 0 0 (zQi (xG D cs ad) q below args s) (F0 m 32 ls [.int t0]) := by
  unfold n_X8_takeCode_1_b32 at h
  obtain ⟨hx, hb, hml, hown, hts, hret, hlk⟩ := id C
  refine lv_istore_n (lv' := [(3, .int t0), (1, .int x1), (2, .int x2)]) hx hb dX8_takeCode_32 rfl hl (by decide) rfl (fun ls hl => ?_)
  refine lv_iload_n hx hb dX8_takeCode_33 rfl (lv_at hl 0 rfl) ?_
  refine lv_iconst (v := -1) hx hb dX8_takeCode_34 (by decide) ?_
  refine zz_cne (tgt := 42) C h dX8_takeCode_35 (by decide) (fun h => ?_) (fun h => ?_)
  · refine lv_iload_n hx hb dX8_takeCode_42 rfl (lv_at hl 1 rfl) ?_
    refine lv_iload_n hx hb dX8_takeCode_43 rfl (lv_at hl 2 rfl) ?_
    refine lv_iload_n hx hb dX8_takeCode_44 rfl (lv_at hl 0 rfl) ?_
    refine zz_callSi (As := [.int x1, .int x2, .int t0]) C hW h (fun r hr => c_X0_make hr) lk_X8_40 rfl hl.1 ⟨rfl, rfl⟩ ⟨Nat.le_of_ble_eq_true rfl, Nat.le_of_ble_eq_true rfl⟩ (Nat.le_of_ble_eq_true rfl) ⟨Nat.zero_le _, Nat.zero_le _⟩ rfl dX8_takeCode_45 (fun v2 S1 H locs h hW => ?_)
    exact w_X8_takeCode_1_b48 (F := F) C h hW (lv_sub hl [] rfl)
  · refine lv_iconst (v := -1) hx hb dX8_takeCode_38 (by decide) ?_
    refine lv_goto (tgt := 48) hx hb dX8_takeCode_39 (by decide) ?_
    exact w_X8_takeCode_1_b48 (F := F) C h hW (lv_sub hl [] rfl)
def n_X8_takeCode_1_b18 (F : Nat)  (S : Zs) (x1 : Int32) (t0 : Int32) : Option (Int32 × Zs) :=
  if t0 = (-1 : Int32) then (n_X8_takeCode_1_b32 F  S x1 t0 (-1 : Int32)) else (zcl (n_X8_takeTerm_1 F S ) (fun v2 S1 => n_X8_takeCode_1_b32 F  S1 x1 t0 v2))
set_option maxRecDepth 20000 in
set_option maxHeartbeats 4000000 in
theorem w_X8_takeCode_1_b18 {F : Nat} {q : (Int32 × Zs)} {S : Zs}  {x1 : Int32} {t0 : Int32} {ls : Array Slot} {H : Heap} {locs : List Loc} (C : zC p s m args meth c cX8_takeCode 4 RX8 (some .int))  (h : n_X8_takeCode_1_b18 F  S x1 t0 = some q) (hW : zW (xG D cs ad) s S H locs) (hl : lv_has ls 4 [(0, .ref (ad 1)), (1, .int x1)]) : W p l e (zR 3 65) s m args below meth c H locs 0 0 (zQi (xG D cs ad) q below args s) (F0 m 18 ls [.int t0]) := by
  unfold n_X8_takeCode_1_b18 at h
  obtain ⟨hx, hb, hml, hown, hts, hret, hlk⟩ := id C
  refine lv_istore_n (lv' := [(2, .int t0), (0, .ref (ad 1)), (1, .int x1)]) hx hb dX8_takeCode_18 rfl hl (by decide) rfl (fun ls hl => ?_)
  refine lv_iload_n hx hb dX8_takeCode_19 rfl (lv_at hl 0 rfl) ?_
  refine lv_iconst (v := -1) hx hb dX8_takeCode_20 (by decide) ?_
  refine zz_cne (tgt := 28) C h dX8_takeCode_21 (by decide) (fun h => ?_) (fun h => ?_)
  · refine lv_aload_n hx hb dX8_takeCode_28 rfl (lv_at hl 1 rfl) ?_
    refine zz_callVi (As := []) C hW h (fun r hr => c_X8_takeTerm_1 hr) lk_X8_37 (hW.recv xr_1) rfl hl.1 ⟨rfl, rfl⟩ ⟨Nat.le_of_ble_eq_true rfl, Nat.le_of_ble_eq_true rfl⟩ (Nat.le_of_ble_eq_true rfl) ⟨Nat.zero_le _, Nat.zero_le _⟩ rfl dX8_takeCode_29 (fun v2 S1 H locs h hW => ?_)
    exact w_X8_takeCode_1_b32 (F := F) C h hW (lv_sub hl [2, 0] rfl)
  · refine lv_iconst (v := -1) hx hb dX8_takeCode_24 (by decide) ?_
    refine lv_goto (tgt := 32) hx hb dX8_takeCode_25 (by decide) ?_
    exact w_X8_takeCode_1_b32 (F := F) C h hW (lv_sub hl [2, 0] rfl)
def n_X8_takeCode_1_e (F : Nat)  (S : Zs)  : Option (Int32 × Zs) :=
  zcl (n_X8_takeForm_1 F S ) (fun v2 S1 => if v2 = (-1 : Int32) then (n_X8_takeCode_1_b18 F  S1 v2 (-1 : Int32)) else (zcl (n_X8_takeTerm_1 F S1 ) (fun v4 S3 => n_X8_takeCode_1_b18 F  S3 v2 v4)))
set_option maxRecDepth 20000 in
set_option maxHeartbeats 4000000 in
theorem w_X8_takeCode_1_e {F : Nat} {q : (Int32 × Zs)} {S : Zs}   {ls : Array Slot} {H : Heap} {locs : List Loc} (C : zC p s m args meth c cX8_takeCode 4 RX8 (some .int))  (h : n_X8_takeCode_1_e F  S  = some q) (hW : zW (xG D cs ad) s S H locs) (hl : lv_has ls 4 [(0, .ref (ad 1))]) : W p l e (zR 3 65) s m args below meth c H locs 0 0 (zQi (xG D cs ad) q below args s) (F0 m 0 ls []) := by
  unfold n_X8_takeCode_1_e at h
  obtain ⟨hx, hb, hml, hown, hts, hret, hlk⟩ := id C
  refine lv_aload_n hx hb dX8_takeCode_0 rfl (lv_at hl 0 rfl) ?_
  refine zz_callVi (As := []) C hW h (fun r hr => c_X8_takeForm_1 hr) lk_X8_34 (hW.recv xr_1) rfl hl.1 ⟨rfl, rfl⟩ ⟨Nat.le_of_ble_eq_true rfl, Nat.le_of_ble_eq_true rfl⟩ (Nat.le_of_ble_eq_true rfl) ⟨Nat.zero_le _, Nat.zero_le _⟩ rfl dX8_takeCode_1 (fun v2 S1 H locs h hW => ?_)
  refine lv_istore_n (lv' := [(1, .int v2), (0, .ref (ad 1))]) hx hb dX8_takeCode_4 rfl hl (by decide) rfl (fun ls hl => ?_)
  refine lv_iload_n hx hb dX8_takeCode_5 rfl (lv_at hl 0 rfl) ?_
  refine lv_iconst (v := -1) hx hb dX8_takeCode_6 (by decide) ?_
  refine zz_cne (tgt := 14) C h dX8_takeCode_7 (by decide) (fun h => ?_) (fun h => ?_)
  · refine lv_aload_n hx hb dX8_takeCode_14 rfl (lv_at hl 1 rfl) ?_
    refine zz_callVi (As := []) C hW h (fun r hr => c_X8_takeTerm_1 hr) lk_X8_37 (hW.recv xr_1) rfl hl.1 ⟨rfl, rfl⟩ ⟨Nat.le_of_ble_eq_true rfl, Nat.le_of_ble_eq_true rfl⟩ (Nat.le_of_ble_eq_true rfl) ⟨Nat.zero_le _, Nat.zero_le _⟩ rfl dX8_takeCode_15 (fun v4 S3 H locs h hW => ?_)
    exact w_X8_takeCode_1_b18 (F := F) C h hW (lv_sub hl [1, 0] rfl)
  · refine lv_iconst (v := -1) hx hb dX8_takeCode_10 (by decide) ?_
    refine lv_goto (tgt := 18) hx hb dX8_takeCode_11 (by decide) ?_
    exact w_X8_takeCode_1_b18 (F := F) C h hW (lv_sub hl [1, 0] rfl)
def n_X8_takeCode_1 (F : Nat) (S : Zs)  : Option (Int32 × Zs) := n_X8_takeCode_1_e F  S 
theorem c_X8_takeCode_1 {l : Launch} {D : va_G} {cs ad : Nat → Nat} {F : Nat} {S : Zs}  {q : (Int32 × Zs)} (h : n_X8_takeCode_1 F S  = some q) : zMi l yX8_takeCode cX8_takeCode 4 (some .int) (zR 3 65) (xG D cs ad) [.ref (ad 1)] S q :=
  zz_enter (by decide) (Nat.le_of_ble_eq_true rfl) (fun p e s m below meth c ls C hW hl => w_X8_takeCode_1_e (F := F) C h hW (lv_sub hl [0] rfl))
def n_X0_withBit_b19 (F : Nat)  (S : Zs) (t0 : Int32) : Option (Int32 × Zs) :=
  some (t0, S)
set_option maxRecDepth 20000 in
set_option maxHeartbeats 4000000 in
theorem w_X0_withBit_b19 {F : Nat} {q : (Int32 × Zs)} {S : Zs}  {t0 : Int32} {ls : Array Slot} {H : Heap} {locs : List Loc} (C : zC p s m args meth c cX0_withBit 3 RX0 (some .int))  (h : n_X0_withBit_b19 F  S t0 = some q) (hW : zW (xG D cs ad) s S H locs) (hl : lv_has ls 3 []) : W p l e (zR 0 0) s m args below meth c H locs 0 0 (zQi (xG D cs ad) q below args s) (F0 m 19 ls [.int t0]) := by
  unfold n_X0_withBit_b19 at h
  obtain ⟨hx, hb, hml, hown, hts, hret, hlk⟩ := id C
  exact zz_iret C rfl h hW dX0_withBit_19
def n_X0_withBit_e (F : Nat)  (S : Zs) (x0 : Int32) (x1 : Int32) (x2 : Int32) : Option (Int32 × Zs) :=
  if x2 = 0 then (n_X0_withBit_b19 F  S (x0 &&& (((1 : Int32) <<< (x1 &&& 31)) ^^^ (-1 : Int32)))) else (n_X0_withBit_b19 F  S (x0 ||| ((1 : Int32) <<< (x1 &&& 31))))
set_option maxRecDepth 20000 in
set_option maxHeartbeats 4000000 in
theorem w_X0_withBit_e {F : Nat} {q : (Int32 × Zs)} {S : Zs}  {x0 : Int32} {x1 : Int32} {x2 : Int32} {ls : Array Slot} {H : Heap} {locs : List Loc} (C : zC p s m args meth c cX0_withBit 3 RX0 (some .int))  (h : n_X0_withBit_e F  S x0 x1 x2 = some q) (hW : zW (xG D cs ad) s S H locs) (hl : lv_has ls 3 [(0, .int x0), (1, .int x1), (2, .int x2)]) : W p l e (zR 0 0) s m args below meth c H locs 0 0 (zQi (xG D cs ad) q below args s) (F0 m 0 ls []) := by
  unfold n_X0_withBit_e at h
  obtain ⟨hx, hb, hml, hown, hts, hret, hlk⟩ := id C
  refine lv_iload_n hx hb dX0_withBit_0 rfl (lv_at hl 2 rfl) ?_
  refine zz_ieq (tgt := 12) C h dX0_withBit_1 (by decide) (fun h => ?_) (fun h => ?_)
  · refine lv_iload_n hx hb dX0_withBit_12 rfl (lv_at hl 0 rfl) ?_
    refine lv_iconst (v := 1) hx hb dX0_withBit_13 (by decide) ?_
    refine lv_iload_n hx hb dX0_withBit_14 rfl (lv_at hl 1 rfl) ?_
    refine lv_ishl hx hb dX0_withBit_15 ?_
    refine lv_iconst (v := -1) hx hb dX0_withBit_16 (by decide) ?_
    refine lv_ixor hx hb dX0_withBit_17 ?_
    refine lv_iand hx hb dX0_withBit_18 ?_
    exact w_X0_withBit_b19 (F := F) C h hW (lv_sub hl [] rfl)
  · refine lv_iload_n hx hb dX0_withBit_4 rfl (lv_at hl 0 rfl) ?_
    refine lv_iconst (v := 1) hx hb dX0_withBit_5 (by decide) ?_
    refine lv_iload_n hx hb dX0_withBit_6 rfl (lv_at hl 1 rfl) ?_
    refine lv_ishl hx hb dX0_withBit_7 ?_
    refine lv_ior hx hb dX0_withBit_8 ?_
    refine lv_goto (tgt := 19) hx hb dX0_withBit_9 (by decide) ?_
    exact w_X0_withBit_b19 (F := F) C h hW (lv_sub hl [] rfl)
def n_X0_withBit (F : Nat) (S : Zs) (x0 : Int32) (x1 : Int32) (x2 : Int32) : Option (Int32 × Zs) := n_X0_withBit_e F  S x0 x1 x2
theorem c_X0_withBit {l : Launch} {D : va_G} {cs ad : Nat → Nat} {F : Nat} {S : Zs} {x0 : Int32} {x1 : Int32} {x2 : Int32} {q : (Int32 × Zs)} (h : n_X0_withBit F S x0 x1 x2 = some q) : zMi l yX0_withBit cX0_withBit 3 (some .int) (zR 0 0) (xG D cs ad) [.int x0, .int x1, .int x2] S q :=
  zz_enter (by decide) (Nat.le_of_ble_eq_true rfl) (fun p e s m below meth c ls C hW hl => w_X0_withBit_e (F := F) C h hW (lv_sub hl [0, 1, 2] rfl))
def n_X2_hear_3_1_b143 (F : Nat)  (S : Zs) (x2 : Int32) (x3 : Int32) : Option (Int32 × Zs) :=
  zcl (n_X8_isRead_1 F S ) (fun v2 S1 => if v2 = 0 then (zcl (n_X8_wrong_1 F S1 ) (fun v9 S8 => some (v9, S8))) else (zgf S1 62 (fun v3 => zlet (x2 - v3) (fun v4 => zgf S1 63 (fun v5 => zpf S1 63 (v5 ||| x3) (fun S6 => zpf S6 62 x2 (fun S7 => some (v4, S7))))))))
set_option maxRecDepth 20000 in
set_option maxHeartbeats 4000000 in
theorem w_X2_hear_3_1_b143 {F : Nat} {q : (Int32 × Zs)} {S : Zs}  {x2 : Int32} {x3 : Int32} {ls : Array Slot} {H : Heap} {locs : List Loc} (C : zC p s m args meth c cX2_hear 8 RX2 (some .int))  (h : n_X2_hear_3_1_b143 F  S x2 x3 = some q) (hW : zW (xG D cs ad) s S H locs) (hl : lv_has ls 8 [(0, .ref (ad 3)), (1, .ref (ad 1)), (2, .int x2), (3, .int x3)]) : W p l e (zR 4 88) s m args below meth c H locs 0 0 (zQi (xG D cs ad) q below args s) (F0 m 143 ls []) := by
  unfold n_X2_hear_3_1_b143 at h
  obtain ⟨hx, hb, hml, hown, hts, hret, hlk⟩ := id C
  refine lv_aload_n hx hb dX2_hear_143 rfl (lv_at hl 1 rfl) ?_
  refine zz_callVi (As := []) C hW h (fun r hr => c_X8_isRead_1 hr) lk_X2_53 (hW.recv xr_1) rfl hl.1 ⟨rfl, rfl⟩ ⟨Nat.le_of_ble_eq_true rfl, Nat.le_of_ble_eq_true rfl⟩ (Nat.le_of_ble_eq_true rfl) ⟨Nat.zero_le _, Nat.zero_le _⟩ rfl dX2_hear_144 (fun v2 S1 H locs h hW => ?_)
  refine zz_ine (tgt := 155) C h dX2_hear_147 (by decide) (fun h => ?_) (fun h => ?_)
  · refine lv_iload_n hx hb dX2_hear_155 rfl (lv_at hl 2 rfl) ?_
    refine lv_aload_n hx hb dX2_hear_156 rfl (lv_at hl 0 rfl) ?_
    refine xg_3_2 C hW h fl_X2_50 dX2_hear_157 (fun v3 h => ?_)
    refine lv_isub hx hb dX2_hear_160 ?_
    refine zz_leti h (fun v4 h => ?_)
    refine lv_istore (lv' := [(5, .int v4), (0, .ref (ad 3)), (1, .ref (ad 1)), (2, .int x2), (3, .int x3)]) hx hb dX2_hear_161 hl (by decide) rfl (fun ls hl => ?_)
    refine lv_aload_n hx hb dX2_hear_163 rfl (lv_at hl 1 rfl) ?_
    refine lv_dup hx hb dX2_hear_164 rfl ?_
    refine xg_3_3 C hW h fl_X2_78 dX2_hear_165 (fun v5 h => ?_)
    refine lv_iload_n hx hb dX2_hear_168 rfl (lv_at hl 4 rfl) ?_
    refine lv_ior hx hb dX2_hear_169 ?_
    refine xp_3_3 C hW h fl_X2_78 dX2_hear_170 (fun S6 H locs h hW => ?_)
    refine lv_aload_n hx hb dX2_hear_173 rfl (lv_at hl 1 rfl) ?_
    refine lv_iload_n hx hb dX2_hear_174 rfl (lv_at hl 3 rfl) ?_
    refine xp_3_2 C hW h fl_X2_50 dX2_hear_175 (fun S7 H locs h hW => ?_)
    refine lv_iload hx hb dX2_hear_178 (lv_at hl 0 rfl) ?_
    exact zz_iret C rfl h hW dX2_hear_180
  · refine lv_aload_n hx hb dX2_hear_150 rfl (lv_at hl 1 rfl) ?_
    refine zz_callVi (As := []) C hW h (fun r hr => c_X8_wrong_1 hr) lk_X2_57 (hW.recv xr_1) rfl hl.1 ⟨rfl, rfl⟩ ⟨Nat.le_of_ble_eq_true rfl, Nat.le_of_ble_eq_true rfl⟩ (Nat.le_of_ble_eq_true rfl) ⟨Nat.zero_le _, Nat.zero_le _⟩ rfl dX2_hear_151 (fun v9 S8 H locs h hW => ?_)
    exact zz_iret C rfl h hW dX2_hear_154
def n_X2_hear_3_1_b72 (F : Nat)  (S : Zs)  : Option (Int32 × Zs) :=
  zcl (n_X8_wrong_1 F S ) (fun v2 S1 => some (v2, S1))
set_option maxRecDepth 20000 in
set_option maxHeartbeats 4000000 in
theorem w_X2_hear_3_1_b72 {F : Nat} {q : (Int32 × Zs)} {S : Zs}   {ls : Array Slot} {H : Heap} {locs : List Loc} (C : zC p s m args meth c cX2_hear 8 RX2 (some .int))  (h : n_X2_hear_3_1_b72 F  S  = some q) (hW : zW (xG D cs ad) s S H locs) (hl : lv_has ls 8 [(1, .ref (ad 1))]) : W p l e (zR 4 88) s m args below meth c H locs 0 0 (zQi (xG D cs ad) q below args s) (F0 m 72 ls []) := by
  unfold n_X2_hear_3_1_b72 at h
  obtain ⟨hx, hb, hml, hown, hts, hret, hlk⟩ := id C
  refine lv_aload_n hx hb dX2_hear_72 rfl (lv_at hl 0 rfl) ?_
  refine zz_callVi (As := []) C hW h (fun r hr => c_X8_wrong_1 hr) lk_X2_57 (hW.recv xr_1) rfl hl.1 ⟨rfl, rfl⟩ ⟨Nat.le_of_ble_eq_true rfl, Nat.le_of_ble_eq_true rfl⟩ (Nat.le_of_ble_eq_true rfl) ⟨Nat.zero_le _, Nat.zero_le _⟩ rfl dX2_hear_73 (fun v2 S1 H locs h hW => ?_)
  exact zz_iret C rfl h hW dX2_hear_76
def n_X2_hear_3_1_b28_l (F : Nat) (rc28 : Zs → Int32 → Int32 → Int32 → Int32 → Option (Int32 × Zs)) (S : Zs) (x2 : Int32) (x3 : Int32) (x4 : Int32) (x5 : Int32) : Option (Int32 × Zs) :=
  if x4 = 0 then (n_X2_hear_3_1_b143 F  S x2 x3) else (if (16 : Int32) < x5 then (n_X2_hear_3_1_b143 F  S x2 x3) else (if x2 < (16 : Int32) then (zcl (n_X8_takeCode_1 F S ) (fun v2 S1 => if v2 = (-1 : Int32) then (n_X2_hear_3_1_b72 F  S1 ) else (zcl (n_X8_take_1 F S1 (64 : Int32)) (fun v4 S3 => if v4 = 0 then (n_X2_hear_3_1_b72 F  S3 ) else (zcl (n_X8_takeWithin_1 F S3 (48 : Int32) (55 : Int32)) (fun v6 S5 => if v6 = (-1 : Int32) then (zcl (n_X8_wrong_1 F S5 ) (fun v18 S17 => some (v18, S17))) else (zst S5 4 16 x2 v2 (fun S7 => zst S7 5 16 x2 v6 (fun S8 => zcl (n_X8_take_1 F S8 (63 : Int32)) (fun v10 S9 => zcl (n_X0_withBit F S9 x3 x2 v10) (fun v12 S11 => zlet (x2 + (1 : Int32)) (fun v13 => zcl (n_X8_take_1 F S11 (59 : Int32)) (fun v15 S14 => zlet (x5 + (1 : Int32)) (fun v16 => rc28 S14 v13 v12 v15 v16)))))))))))))) else (zcl (n_X8_wrong_1 F S ) (fun v20 S19 => some (v20, S19)))))
set_option maxRecDepth 20000 in
set_option maxHeartbeats 4000000 in
theorem w_X2_hear_3_1_b28_l {F : Nat} {q : (Int32 × Zs)} {S : Zs} {rc28 : Zs → Int32 → Int32 → Int32 → Int32 → Option (Int32 × Zs)} {x2 : Int32} {x3 : Int32} {x4 : Int32} {x5 : Int32} {ls : Array Slot} {H : Heap} {locs : List Loc} (C : zC p s m args meth c cX2_hear 8 RX2 (some .int)) (hrc28 : ∀ (S : Zs) (x2 : Int32) (x3 : Int32) (x4 : Int32) (x5 : Int32) (H : Heap) (locs : List Loc) (ls : Array Slot), rc28 S x2 x3 x4 x5 = some q → zW (xG D cs ad) s S H locs → lv_has ls 8 [(0, .ref (ad 3)), (1, .ref (ad 1)), (2, .int x2), (3, .int x3), (4, .int x4), (5, .int x5)] → W p l e (zR 4 88) s m args below meth c H locs 0 0 (zQi (xG D cs ad) q below args s) (F0 m 28 ls [])) (h : n_X2_hear_3_1_b28_l F rc28 S x2 x3 x4 x5 = some q) (hW : zW (xG D cs ad) s S H locs) (hl : lv_has ls 8 [(0, .ref (ad 3)), (1, .ref (ad 1)), (2, .int x2), (3, .int x3), (4, .int x4), (5, .int x5)]) : W p l e (zR 4 88) s m args below meth c H locs 0 0 (zQi (xG D cs ad) q below args s) (F0 m 28 ls []) := by
  unfold n_X2_hear_3_1_b28_l at h
  obtain ⟨hx, hb, hml, hown, hts, hret, hlk⟩ := id C
  refine lv_iload hx hb dX2_hear_28 (lv_at hl 4 rfl) ?_
  refine zz_ieq (tgt := 143) C h dX2_hear_30 (by decide) (fun h => ?_) (fun h => ?_)
  · exact w_X2_hear_3_1_b143 (F := F) C h hW (lv_sub hl [0, 1, 2, 3] rfl)
  · refine lv_iload hx hb dX2_hear_33 (lv_at hl 5 rfl) ?_
    refine lv_bipush (v := 16) hx hb dX2_hear_35 (by decide) ?_
    refine zz_cgt (tgt := 143) C h dX2_hear_37 (by decide) (fun h => ?_) (fun h => ?_)
    · exact w_X2_hear_3_1_b143 (F := F) C h hW (lv_sub hl [0, 1, 2, 3] rfl)
    · refine lv_iload_n hx hb dX2_hear_40 rfl (lv_at hl 2 rfl) ?_
      refine lv_bipush (v := 16) hx hb dX2_hear_41 (by decide) ?_
      refine zz_clt (tgt := 51) C h dX2_hear_43 (by decide) (fun h => ?_) (fun h => ?_)
      · refine lv_aload_n hx hb dX2_hear_51 rfl (lv_at hl 1 rfl) ?_
        refine zz_callVi (As := []) C hW h (fun r hr => c_X8_takeCode_1 hr) lk_X2_61 (hW.recv xr_1) rfl hl.1 ⟨rfl, rfl⟩ ⟨Nat.le_of_ble_eq_true rfl, Nat.le_of_ble_eq_true rfl⟩ (Nat.le_of_ble_eq_true rfl) ⟨Nat.zero_le _, Nat.zero_le _⟩ rfl dX2_hear_52 (fun v2 S1 H locs h hW => ?_)
        refine lv_istore (lv' := [(6, .int v2), (0, .ref (ad 3)), (1, .ref (ad 1)), (2, .int x2), (3, .int x3), (4, .int x4), (5, .int x5)]) hx hb dX2_hear_55 hl (by decide) rfl (fun ls hl => ?_)
        refine lv_iload hx hb dX2_hear_57 (lv_at hl 0 rfl) ?_
        refine lv_iconst (v := -1) hx hb dX2_hear_59 (by decide) ?_
        refine zz_ceq (tgt := 72) C h dX2_hear_60 (by decide) (fun h => ?_) (fun h => ?_)
        · exact w_X2_hear_3_1_b72 (F := F) C h hW (lv_sub hl [2] rfl)
        · refine lv_aload_n hx hb dX2_hear_63 rfl (lv_at hl 2 rfl) ?_
          refine lv_bipush (v := 64) hx hb dX2_hear_64 (by decide) ?_
          refine zz_callVi (As := [.int (64 : Int32)]) C hW h (fun r hr => c_X8_take_1 hr) lk_X2_64 (hW.recv xr_1) rfl hl.1 ⟨rfl, rfl⟩ ⟨Nat.le_of_ble_eq_true rfl, Nat.le_of_ble_eq_true rfl⟩ (Nat.le_of_ble_eq_true rfl) ⟨Nat.zero_le _, Nat.zero_le _⟩ rfl dX2_hear_66 (fun v4 S3 H locs h hW => ?_)
          refine zz_ine (tgt := 77) C h dX2_hear_69 (by decide) (fun h => ?_) (fun h => ?_)
          · refine lv_aload_n hx hb dX2_hear_77 rfl (lv_at hl 2 rfl) ?_
            refine lv_bipush (v := 48) hx hb dX2_hear_78 (by decide) ?_
            refine lv_bipush (v := 55) hx hb dX2_hear_80 (by decide) ?_
            refine zz_callVi (As := [.int (48 : Int32), .int (55 : Int32)]) C hW h (fun r hr => c_X8_takeWithin_1 hr) lk_X2_68 (hW.recv xr_1) rfl hl.1 ⟨rfl, rfl⟩ ⟨Nat.le_of_ble_eq_true rfl, Nat.le_of_ble_eq_true rfl⟩ (Nat.le_of_ble_eq_true rfl) ⟨Nat.zero_le _, Nat.zero_le _⟩ rfl dX2_hear_82 (fun v6 S5 H locs h hW => ?_)
            refine lv_istore (lv' := [(7, .int v6), (6, .int v2), (0, .ref (ad 3)), (1, .ref (ad 1)), (2, .int x2), (3, .int x3), (4, .int x4), (5, .int x5)]) hx hb dX2_hear_85 hl (by decide) rfl (fun ls hl => ?_)
            refine lv_iload hx hb dX2_hear_87 (lv_at hl 0 rfl) ?_
            refine lv_iconst (v := -1) hx hb dX2_hear_89 (by decide) ?_
            refine zz_cne (tgt := 98) C h dX2_hear_90 (by decide) (fun h => ?_) (fun h => ?_)
            · refine lv_aload_n hx hb dX2_hear_98 rfl (lv_at hl 2 rfl) ?_
              refine xg_3_0 C hW fl_X2_9 dX2_hear_99 ?_
              refine lv_iload_n hx hb dX2_hear_102 rfl (lv_at hl 4 rfl) ?_
              refine lv_iload hx hb dX2_hear_103 (lv_at hl 1 rfl) ?_
              refine xs_4 C hW h dX2_hear_105 (fun S7 H locs h hW => ?_)
              refine lv_aload_n hx hb dX2_hear_106 rfl (lv_at hl 2 rfl) ?_
              refine xg_3_1 C hW fl_X2_15 dX2_hear_107 ?_
              refine lv_iload_n hx hb dX2_hear_110 rfl (lv_at hl 4 rfl) ?_
              refine lv_iload hx hb dX2_hear_111 (lv_at hl 0 rfl) ?_
              refine xs_5 C hW h dX2_hear_113 (fun S8 H locs h hW => ?_)
              refine lv_iload_n hx hb dX2_hear_114 rfl (lv_at hl 5 rfl) ?_
              refine lv_iload_n hx hb dX2_hear_115 rfl (lv_at hl 4 rfl) ?_
              refine lv_aload_n hx hb dX2_hear_116 rfl (lv_at hl 3 rfl) ?_
              refine lv_bipush (v := 63) hx hb dX2_hear_117 (by decide) ?_
              refine zz_callVi (As := [.int (63 : Int32)]) C hW h (fun r hr => c_X8_take_1 hr) lk_X2_64 (hW.recv xr_1) rfl hl.1 ⟨rfl, rfl⟩ ⟨Nat.le_of_ble_eq_true rfl, Nat.le_of_ble_eq_true rfl⟩ (Nat.le_of_ble_eq_true rfl) ⟨Nat.zero_le _, Nat.zero_le _⟩ rfl dX2_hear_119 (fun v10 S9 H locs h hW => ?_)
              refine zz_callSi (As := [.int x3, .int x2, .int v10]) C hW h (fun r hr => c_X0_withBit hr) lk_X2_72 rfl hl.1 ⟨rfl, rfl⟩ ⟨Nat.le_of_ble_eq_true rfl, Nat.le_of_ble_eq_true rfl⟩ (Nat.le_of_ble_eq_true rfl) ⟨Nat.zero_le _, Nat.zero_le _⟩ rfl dX2_hear_122 (fun v12 S11 H locs h hW => ?_)
              refine lv_istore_n (lv' := [(3, .int v12), (7, .int v6), (6, .int v2), (0, .ref (ad 3)), (1, .ref (ad 1)), (2, .int x2), (4, .int x4), (5, .int x5)]) hx hb dX2_hear_125 rfl hl (by decide) rfl (fun ls hl => ?_)
              obtain ⟨v13, ev13, h⟩ := zz_name h
              refine lv_iinc (v := v13) (lv' := [(2, .int v13), (3, .int v12), (7, .int v6), (6, .int v2), (0, .ref (ad 3)), (1, .ref (ad 1)), (4, .int x4), (5, .int x5)]) hx hb dX2_hear_126 hl (k := 5) rfl ev13.symm (by decide) rfl (fun ls hl => ?_)
              refine lv_aload_n hx hb dX2_hear_129 rfl (lv_at hl 5 rfl) ?_
              refine lv_bipush (v := 59) hx hb dX2_hear_130 (by decide) ?_
              refine zz_callVi (As := [.int (59 : Int32)]) C hW h (fun r hr => c_X8_take_1 hr) lk_X2_64 (hW.recv xr_1) rfl hl.1 ⟨rfl, rfl⟩ ⟨Nat.le_of_ble_eq_true rfl, Nat.le_of_ble_eq_true rfl⟩ (Nat.le_of_ble_eq_true rfl) ⟨Nat.zero_le _, Nat.zero_le _⟩ rfl dX2_hear_132 (fun v15 S14 H locs h hW => ?_)
              refine lv_istore (lv' := [(4, .int v15), (2, .int v13), (3, .int v12), (7, .int v6), (6, .int v2), (0, .ref (ad 3)), (1, .ref (ad 1)), (5, .int x5)]) hx hb dX2_hear_135 hl (by decide) rfl (fun ls hl => ?_)
              obtain ⟨v16, ev16, h⟩ := zz_name h
              refine lv_iinc (v := v16) (lv' := [(5, .int v16), (4, .int v15), (2, .int v13), (3, .int v12), (7, .int v6), (6, .int v2), (0, .ref (ad 3)), (1, .ref (ad 1))]) hx hb dX2_hear_137 hl (k := 7) rfl ev16.symm (by decide) rfl (fun ls hl => ?_)
              refine lv_goto (tgt := 28) hx hb dX2_hear_140 (by decide) ?_
              exact hrc28 _ _ _ _ _ _ _ _ h hW (lv_sub hl [6, 7, 2, 3, 1, 0] rfl)
            · refine lv_aload_n hx hb dX2_hear_93 rfl (lv_at hl 3 rfl) ?_
              refine zz_callVi (As := []) C hW h (fun r hr => c_X8_wrong_1 hr) lk_X2_57 (hW.recv xr_1) rfl hl.1 ⟨rfl, rfl⟩ ⟨Nat.le_of_ble_eq_true rfl, Nat.le_of_ble_eq_true rfl⟩ (Nat.le_of_ble_eq_true rfl) ⟨Nat.zero_le _, Nat.zero_le _⟩ rfl dX2_hear_94 (fun v18 S17 H locs h hW => ?_)
              exact zz_iret C rfl h hW dX2_hear_97
          · exact w_X2_hear_3_1_b72 (F := F) C h hW (lv_sub hl [2] rfl)
      · refine lv_aload_n hx hb dX2_hear_46 rfl (lv_at hl 1 rfl) ?_
        refine zz_callVi (As := []) C hW h (fun r hr => c_X8_wrong_1 hr) lk_X2_57 (hW.recv xr_1) rfl hl.1 ⟨rfl, rfl⟩ ⟨Nat.le_of_ble_eq_true rfl, Nat.le_of_ble_eq_true rfl⟩ (Nat.le_of_ble_eq_true rfl) ⟨Nat.zero_le _, Nat.zero_le _⟩ rfl dX2_hear_47 (fun v20 S19 H locs h hW => ?_)
        exact zz_iret C rfl h hW dX2_hear_50
def n_X2_hear_3_1_b28 (F : Nat)  (S : Zs) (x2 : Int32) (x3 : Int32) (x4 : Int32) (x5 : Int32) : Option (Int32 × Zs) :=
  zfix (fun (rc : (Zs × Int32 × Int32 × Int32 × Int32) → Option (Int32 × Zs)) (u : (Zs × Int32 × Int32 × Int32 × Int32)) => n_X2_hear_3_1_b28_l F  (fun S x2 x3 x4 x5 => rc (S, x2, x3, x4, x5)) u.1 u.2.1 u.2.2.1 u.2.2.2.1 u.2.2.2.2) F (S, x2, x3, x4, x5)
theorem w_X2_hear_3_1_b28 {F : Nat} {q : (Int32 × Zs)}  (C : zC p s m args meth c cX2_hear 8 RX2 (some .int))  : ∀ (n : Nat) (S : Zs) (x2 : Int32) (x3 : Int32) (x4 : Int32) (x5 : Int32) (H : Heap) (locs : List Loc) (ls : Array Slot), zfix (fun (rc : (Zs × Int32 × Int32 × Int32 × Int32) → Option (Int32 × Zs)) (u : (Zs × Int32 × Int32 × Int32 × Int32)) => n_X2_hear_3_1_b28_l F  (fun S x2 x3 x4 x5 => rc (S, x2, x3, x4, x5)) u.1 u.2.1 u.2.2.1 u.2.2.2.1 u.2.2.2.2) n (S, x2, x3, x4, x5) = some q → zW (xG D cs ad) s S H locs → lv_has ls 8 [(0, .ref (ad 3)), (1, .ref (ad 1)), (2, .int x2), (3, .int x3), (4, .int x4), (5, .int x5)] → W p l e (zR 4 88) s m args below meth c H locs 0 0 (zQi (xG D cs ad) q below args s) (F0 m 28 ls []) := by
  intro n
  induction n with
  | zero => intro S x2 x3 x4 x5 H locs ls h; exact absurd h (fun h => by cases h)
  | succ n ih => intro S x2 x3 x4 x5 H locs ls h hW hl; exact w_X2_hear_3_1_b28_l (F := F) C (fun S x2 x3 x4 x5 H locs ls h hW hl => ih S x2 x3 x4 x5 H locs ls h hW hl) h hW hl
def n_X2_hear_3_1_b23 (F : Nat)  (S : Zs) (x2 : Int32) (x3 : Int32) (t0 : Int32) : Option (Int32 × Zs) :=
  n_X2_hear_3_1_b28 F  S x2 x3 t0 (0 : Int32)
set_option maxRecDepth 20000 in
set_option maxHeartbeats 4000000 in
theorem w_X2_hear_3_1_b23 {F : Nat} {q : (Int32 × Zs)} {S : Zs}  {x2 : Int32} {x3 : Int32} {t0 : Int32} {ls : Array Slot} {H : Heap} {locs : List Loc} (C : zC p s m args meth c cX2_hear 8 RX2 (some .int))  (h : n_X2_hear_3_1_b23 F  S x2 x3 t0 = some q) (hW : zW (xG D cs ad) s S H locs) (hl : lv_has ls 8 [(0, .ref (ad 3)), (1, .ref (ad 1)), (2, .int x2), (3, .int x3)]) : W p l e (zR 4 88) s m args below meth c H locs 0 0 (zQi (xG D cs ad) q below args s) (F0 m 23 ls [.int t0]) := by
  unfold n_X2_hear_3_1_b23 at h
  obtain ⟨hx, hb, hml, hown, hts, hret, hlk⟩ := id C
  refine lv_istore (lv' := [(4, .int t0), (0, .ref (ad 3)), (1, .ref (ad 1)), (2, .int x2), (3, .int x3)]) hx hb dX2_hear_23 hl (by decide) rfl (fun ls hl => ?_)
  refine lv_iconst (v := 0) hx hb dX2_hear_25 (by decide) ?_
  refine lv_istore (lv' := [(5, .int (0 : Int32)), (4, .int t0), (0, .ref (ad 3)), (1, .ref (ad 1)), (2, .int x2), (3, .int x3)]) hx hb dX2_hear_26 hl (by decide) rfl (fun ls hl => ?_)
  exact w_X2_hear_3_1_b28 (F := F) C F _ _ _ _ _ _ _ _ h hW (lv_sub hl [2, 3, 4, 5, 1, 0] rfl)
def n_X2_hear_3_1_e (F : Nat)  (S : Zs)  : Option (Int32 × Zs) :=
  zcl (n_X8_open_1 F S ) (fun v2 S1 => zgf S1 62 (fun v3 => zcl (n_X8_isRead_1 F S1 ) (fun v5 S4 => if v5 = 0 then (n_X2_hear_3_1_b23 F  S4 v3 (0 : Int32) (1 : Int32)) else (n_X2_hear_3_1_b23 F  S4 v3 (0 : Int32) (0 : Int32)))))
set_option maxRecDepth 20000 in
set_option maxHeartbeats 4000000 in
theorem w_X2_hear_3_1_e {F : Nat} {q : (Int32 × Zs)} {S : Zs}   {ls : Array Slot} {H : Heap} {locs : List Loc} (C : zC p s m args meth c cX2_hear 8 RX2 (some .int))  (h : n_X2_hear_3_1_e F  S  = some q) (hW : zW (xG D cs ad) s S H locs) (hl : lv_has ls 8 [(0, .ref (ad 3)), (1, .ref (ad 1))]) : W p l e (zR 4 88) s m args below meth c H locs 0 0 (zQi (xG D cs ad) q below args s) (F0 m 0 ls []) := by
  unfold n_X2_hear_3_1_e at h
  obtain ⟨hx, hb, hml, hown, hts, hret, hlk⟩ := id C
  refine lv_aload_n hx hb dX2_hear_0 rfl (lv_at hl 1 rfl) ?_
  refine zz_callVv (As := []) C hW h (fun r hr => c_X8_open_1 hr) lk_X2_45 (hW.recv xr_1) rfl hl.1 ⟨rfl, rfl⟩ ⟨Nat.le_of_ble_eq_true rfl, Nat.le_of_ble_eq_true rfl⟩ (Nat.le_of_ble_eq_true rfl) ⟨Nat.zero_le _, Nat.zero_le _⟩ rfl dX2_hear_1 (fun v2 S1 H locs h hW => ?_)
  refine lv_aload_n hx hb dX2_hear_4 rfl (lv_at hl 0 rfl) ?_
  refine xg_3_2 C hW h fl_X2_50 dX2_hear_5 (fun v3 h => ?_)
  refine lv_istore_n (lv' := [(2, .int v3), (0, .ref (ad 3)), (1, .ref (ad 1))]) hx hb dX2_hear_8 rfl hl (by decide) rfl (fun ls hl => ?_)
  refine lv_iconst (v := 0) hx hb dX2_hear_9 (by decide) ?_
  refine lv_istore_n (lv' := [(3, .int (0 : Int32)), (2, .int v3), (0, .ref (ad 3)), (1, .ref (ad 1))]) hx hb dX2_hear_10 rfl hl (by decide) rfl (fun ls hl => ?_)
  refine lv_aload_n hx hb dX2_hear_11 rfl (lv_at hl 3 rfl) ?_
  refine zz_callVi (As := []) C hW h (fun r hr => c_X8_isRead_1 hr) lk_X2_53 (hW.recv xr_1) rfl hl.1 ⟨rfl, rfl⟩ ⟨Nat.le_of_ble_eq_true rfl, Nat.le_of_ble_eq_true rfl⟩ (Nat.le_of_ble_eq_true rfl) ⟨Nat.zero_le _, Nat.zero_le _⟩ rfl dX2_hear_12 (fun v5 S4 H locs h hW => ?_)
  refine zz_ine (tgt := 22) C h dX2_hear_15 (by decide) (fun h => ?_) (fun h => ?_)
  · refine lv_iconst (v := 0) hx hb dX2_hear_22 (by decide) ?_
    exact w_X2_hear_3_1_b23 (F := F) C h hW (lv_sub hl [2, 3, 1, 0] rfl)
  · refine lv_iconst (v := 1) hx hb dX2_hear_18 (by decide) ?_
    refine lv_goto (tgt := 23) hx hb dX2_hear_19 (by decide) ?_
    exact w_X2_hear_3_1_b23 (F := F) C h hW (lv_sub hl [2, 3, 1, 0] rfl)
def n_X2_hear_3_1 (F : Nat) (S : Zs)  : Option (Int32 × Zs) := n_X2_hear_3_1_e F  S 
theorem c_X2_hear_3_1 {l : Launch} {D : va_G} {cs ad : Nat → Nat} {F : Nat} {S : Zs}  {q : (Int32 × Zs)} (h : n_X2_hear_3_1 F S  = some q) : zMi l yX2_hear cX2_hear 8 (some .int) (zR 4 88) (xG D cs ad) [.ref (ad 3), .ref (ad 1)] S q :=
  zz_enter (by decide) (Nat.le_of_ble_eq_true rfl) (fun p e s m below meth c ls C hW hl => w_X2_hear_3_1_e (F := F) C h hW (lv_sub hl [0, 1] rfl))
def n_X8_wipe_1_e (F : Nat)  (S : Zs)  : Option (Int32 × Zs) :=
  zpf S 21 (0 : Int32) (fun S1 => some (0, S1))
set_option maxRecDepth 20000 in
set_option maxHeartbeats 4000000 in
theorem w_X8_wipe_1_e {F : Nat} {q : (Int32 × Zs)} {S : Zs}   {ls : Array Slot} {H : Heap} {locs : List Loc} (C : zC p s m args meth c cX8_wipe 1 RX8 none)  (h : n_X8_wipe_1_e F  S  = some q) (hW : zW (xG D cs ad) s S H locs) (hl : lv_has ls 1 [(0, .ref (ad 1))]) : W p l e (zR 0 0) s m args below meth c H locs 0 0 (zQv (xG D cs ad) q below args s) (F0 m 0 ls []) := by
  unfold n_X8_wipe_1_e at h
  obtain ⟨hx, hb, hml, hown, hts, hret, hlk⟩ := id C
  refine lv_aload_n hx hb dX8_wipe_0 rfl (lv_at hl 0 rfl) ?_
  refine lv_iconst (v := 0) hx hb dX8_wipe_1 (by decide) ?_
  refine xp_1_1 C hW h fl_X8_15 dX8_wipe_2 (fun S1 H locs h hW => ?_)
  exact zz_vret C rfl h hW dX8_wipe_5
def n_X8_wipe_1 (F : Nat) (S : Zs)  : Option (Int32 × Zs) := n_X8_wipe_1_e F  S 
theorem c_X8_wipe_1 {l : Launch} {D : va_G} {cs ad : Nat → Nat} {F : Nat} {S : Zs}  {q : (Int32 × Zs)} (h : n_X8_wipe_1 F S  = some q) : zMv l yX8_wipe cX8_wipe 1 none (zR 0 0) (xG D cs ad) [.ref (ad 1)] S q :=
  zz_enter (by decide) (Nat.le_of_ble_eq_true rfl) (fun p e s m below meth c ls C hW hl => w_X8_wipe_1_e (F := F) C h hW (lv_sub hl [0] rfl))
def n_X11_told_0_e (F : Nat)  (S : Zs)  : Option (Int32 × Zs) :=
  zcl (n_X2_hear_3_1 F S ) (fun v2 S1 => zcl (n_X8_wipe_1 F S1 ) (fun v4 S3 => some (v2, S3)))
set_option maxRecDepth 20000 in
set_option maxHeartbeats 4000000 in
theorem w_X11_told_0_e {F : Nat} {q : (Int32 × Zs)} {S : Zs}   {ls : Array Slot} {H : Heap} {locs : List Loc} (C : zC p s m args meth c cX11_told 2 RX11 (some .int))  (h : n_X11_told_0_e F  S  = some q) (hW : zW (xG D cs ad) s S H locs) (hl : lv_has ls 2 [(0, .ref (ad 0))]) : W p l e (zR 5 115) s m args below meth c H locs 0 0 (zQi (xG D cs ad) q below args s) (F0 m 0 ls []) := by
  unfold n_X11_told_0_e at h
  obtain ⟨hx, hb, hml, hown, hts, hret, hlk⟩ := id C
  refine lv_aload_n hx hb dX11_told_0 rfl (lv_at hl 0 rfl) ?_
  refine xg_0_1 C hW fl_X11_27 dX11_told_1 ?_
  refine lv_aload_n hx hb dX11_told_4 rfl (lv_at hl 0 rfl) ?_
  refine xg_0_0 C hW fl_X11_21 dX11_told_5 ?_
  refine zz_callVi (As := [.ref (ad 1)]) C hW h (fun r hr => c_X2_hear_3_1 hr) lk_X11_94 (hW.recv xr_3) rfl hl.1 ⟨rfl, rfl⟩ ⟨Nat.le_of_ble_eq_true rfl, Nat.le_of_ble_eq_true rfl⟩ (Nat.le_of_ble_eq_true rfl) ⟨Nat.zero_le _, Nat.zero_le _⟩ rfl dX11_told_8 (fun v2 S1 H locs h hW => ?_)
  refine lv_istore_n (lv' := [(1, .int v2), (0, .ref (ad 0))]) hx hb dX11_told_11 rfl hl (by decide) rfl (fun ls hl => ?_)
  refine lv_aload_n hx hb dX11_told_12 rfl (lv_at hl 1 rfl) ?_
  refine xg_0_0 C hW fl_X11_21 dX11_told_13 ?_
  refine zz_callVv (As := []) C hW h (fun r hr => c_X8_wipe_1 hr) lk_X11_98 (hW.recv xr_1) rfl hl.1 ⟨rfl, rfl⟩ ⟨Nat.le_of_ble_eq_true rfl, Nat.le_of_ble_eq_true rfl⟩ (Nat.le_of_ble_eq_true rfl) ⟨Nat.zero_le _, Nat.zero_le _⟩ rfl dX11_told_16 (fun v4 S3 H locs h hW => ?_)
  refine lv_iload_n hx hb dX11_told_19 rfl (lv_at hl 0 rfl) ?_
  exact zz_iret C rfl h hW dX11_told_20
def n_X11_told_0 (F : Nat) (S : Zs)  : Option (Int32 × Zs) := n_X11_told_0_e F  S 
theorem c_X11_told_0 {l : Launch} {D : va_G} {cs ad : Nat → Nat} {F : Nat} {S : Zs}  {q : (Int32 × Zs)} (h : n_X11_told_0 F S  = some q) : zMi l yX11_told cX11_told 2 (some .int) (zR 5 115) (xG D cs ad) [.ref (ad 0)] S q :=
  zz_enter (by decide) (Nat.le_of_ble_eq_true rfl) (fun p e s m below meth c ls C hW hl => w_X11_told_0_e (F := F) C h hW (lv_sub hl [0] rfl))
def n_X2_tellOf_3_e (F : Nat)  (S : Zs) (x1 : Int32) (x2 : Int32) : Option (Int32 × Zs) :=
  if x2 = (0 : Int32) then (zld S 4 16 x1 (fun v1 => some (v1, S))) else (if x2 = (1 : Int32) then (zld S 5 16 x1 (fun v2 => some (v2, S))) else (if x2 = (2 : Int32) then (zgf S 63 (fun v3 => some (((v3 >>> (x1 &&& 31)) &&& (1 : Int32)), S))) else (zgf S 64 (fun v4 => some (((v4 >>> (x1 &&& 31)) &&& (1 : Int32)), S)))))
set_option maxRecDepth 20000 in
set_option maxHeartbeats 4000000 in
theorem w_X2_tellOf_3_e {F : Nat} {q : (Int32 × Zs)} {S : Zs}  {x1 : Int32} {x2 : Int32} {ls : Array Slot} {H : Heap} {locs : List Loc} (C : zC p s m args meth c cX2_tellOf 3 RX2 (some .int))  (h : n_X2_tellOf_3_e F  S x1 x2 = some q) (hW : zW (xG D cs ad) s S H locs) (hl : lv_has ls 3 [(0, .ref (ad 3)), (1, .int x1), (2, .int x2)]) : W p l e (zR 0 0) s m args below meth c H locs 0 0 (zQi (xG D cs ad) q below args s) (F0 m 0 ls []) := by
  unfold n_X2_tellOf_3_e at h
  obtain ⟨hx, hb, hml, hown, hts, hret, hlk⟩ := id C
  refine lv_iload_n hx hb dX2_tellOf_0 rfl (lv_at hl 2 rfl) ?_
  by_cases e0 : x2 = (0 : Int32)
  · replace h := (zz_if h).1 e0
    refine lv_tableIn (off := 27) (tgt := 28) hx hb dX2_tellOf_1 (by rw [e0]; decide) (by rw [e0]; decide) (by rw [e0]; rfl) (by decide) ?_
    refine lv_aload_n hx hb dX2_tellOf_28 rfl (lv_at hl 0 rfl) ?_
    refine xg_3_0 C hW fl_X2_9 dX2_tellOf_29 ?_
    refine lv_iload_n hx hb dX2_tellOf_32 rfl (lv_at hl 1 rfl) ?_
    refine xl_4 C hW h dX2_tellOf_33 (fun v1 h => ?_)
    exact zz_iret C rfl h hW dX2_tellOf_34
  · replace h := (zz_if h).2 e0
    by_cases e1 : x2 = (1 : Int32)
    · replace h := (zz_if h).1 e1
      refine lv_tableIn (off := 34) (tgt := 35) hx hb dX2_tellOf_1 (by rw [e1]; decide) (by rw [e1]; decide) (by rw [e1]; rfl) (by decide) ?_
      refine lv_aload_n hx hb dX2_tellOf_35 rfl (lv_at hl 0 rfl) ?_
      refine xg_3_1 C hW fl_X2_15 dX2_tellOf_36 ?_
      refine lv_iload_n hx hb dX2_tellOf_39 rfl (lv_at hl 1 rfl) ?_
      refine xl_5 C hW h dX2_tellOf_40 (fun v2 h => ?_)
      exact zz_iret C rfl h hW dX2_tellOf_41
    · replace h := (zz_if h).2 e1
      by_cases e2 : x2 = (2 : Int32)
      · replace h := (zz_if h).1 e2
        refine lv_tableIn (off := 41) (tgt := 42) hx hb dX2_tellOf_1 (by rw [e2]; decide) (by rw [e2]; decide) (by rw [e2]; rfl) (by decide) ?_
        refine lv_aload_n hx hb dX2_tellOf_42 rfl (lv_at hl 0 rfl) ?_
        refine xg_3_3 C hW h fl_X2_78 dX2_tellOf_43 (fun v3 h => ?_)
        refine lv_iload_n hx hb dX2_tellOf_46 rfl (lv_at hl 1 rfl) ?_
        refine lv_ishr hx hb dX2_tellOf_47 ?_
        refine lv_iconst (v := 1) hx hb dX2_tellOf_48 (by decide) ?_
        refine lv_iand hx hb dX2_tellOf_49 ?_
        exact zz_iret C rfl h hW dX2_tellOf_50
      · replace h := (zz_if h).2 e2
        refine lv_tableOut (tgt := 51) hx hb dX2_tellOf_1 (zsw_out (fun k h1 h2 => by rcases (show k = 0 ∨ k = 1 ∨ k = 2 by omega) with rfl | rfl | rfl <;> first | exact e0 | exact e1 | exact e2)) (by decide) ?_
        refine lv_aload_n hx hb dX2_tellOf_51 rfl (lv_at hl 0 rfl) ?_
        refine xg_3_4 C hW h fl_X2_81 dX2_tellOf_52 (fun v4 h => ?_)
        refine lv_iload_n hx hb dX2_tellOf_55 rfl (lv_at hl 1 rfl) ?_
        refine lv_ishr hx hb dX2_tellOf_56 ?_
        refine lv_iconst (v := 1) hx hb dX2_tellOf_57 (by decide) ?_
        refine lv_iand hx hb dX2_tellOf_58 ?_
        exact zz_iret C rfl h hW dX2_tellOf_59
def n_X2_tellOf_3 (F : Nat) (S : Zs) (x1 : Int32) (x2 : Int32) : Option (Int32 × Zs) := n_X2_tellOf_3_e F  S x1 x2
theorem c_X2_tellOf_3 {l : Launch} {D : va_G} {cs ad : Nat → Nat} {F : Nat} {S : Zs} {x1 : Int32} {x2 : Int32} {q : (Int32 × Zs)} (h : n_X2_tellOf_3 F S x1 x2 = some q) : zMi l yX2_tellOf cX2_tellOf 3 (some .int) (zR 0 0) (xG D cs ad) [.ref (ad 3), .int x1, .int x2] S q :=
  zz_enter (by decide) (Nat.le_of_ble_eq_true rfl) (fun p e s m below meth c ls C hW hl => w_X2_tellOf_3_e (F := F) C h hW (lv_sub hl [0, 1, 2] rfl))
def n_X11_saying_0_e (F : Nat)  (S : Zs) (x1 : Int32) (x2 : Int32) : Option (Int32 × Zs) :=
  if x1 < 0 then (none) else (zgf S 62 (fun v1 => if v1 ≤ x1 then (none) else (if x2 < 0 then (none) else (if x2 ≤ (3 : Int32) then (zcl (n_X2_tellOf_3 F S x1 x2) (fun v3 S2 => some (v3, S2))) else (none)))))
set_option maxRecDepth 20000 in
set_option maxHeartbeats 4000000 in
theorem w_X11_saying_0_e {F : Nat} {q : (Int32 × Zs)} {S : Zs}  {x1 : Int32} {x2 : Int32} {ls : Array Slot} {H : Heap} {locs : List Loc} (C : zC p s m args meth c cX11_saying 3 RX11 (some .int))  (h : n_X11_saying_0_e F  S x1 x2 = some q) (hW : zW (xG D cs ad) s S H locs) (hl : lv_has ls 3 [(0, .ref (ad 0)), (1, .int x1), (2, .int x2)]) : W p l e (zR 1 22) s m args below meth c H locs 0 0 (zQi (xG D cs ad) q below args s) (F0 m 0 ls []) := by
  unfold n_X11_saying_0_e at h
  obtain ⟨hx, hb, hml, hown, hts, hret, hlk⟩ := id C
  refine lv_iload_n hx hb dX11_saying_0 rfl (lv_at hl 1 rfl) ?_
  refine zz_ilt (tgt := 24) C h dX11_saying_1 (by decide) (fun h => ?_) (fun h => ?_)
  · cases h
  · refine lv_iload_n hx hb dX11_saying_4 rfl (lv_at hl 1 rfl) ?_
    refine lv_aload_n hx hb dX11_saying_5 rfl (lv_at hl 0 rfl) ?_
    refine xg_0_1 C hW fl_X11_27 dX11_saying_6 ?_
    refine xg_3_2 C hW h fl_X11_101 dX11_saying_9 (fun v1 h => ?_)
    refine zz_cge (tgt := 24) C h dX11_saying_12 (by decide) (fun h => ?_) (fun h => ?_)
    · cases h
    · refine lv_iload_n hx hb dX11_saying_15 rfl (lv_at hl 2 rfl) ?_
      refine zz_ilt (tgt := 24) C h dX11_saying_16 (by decide) (fun h => ?_) (fun h => ?_)
      · cases h
      · refine lv_iload_n hx hb dX11_saying_19 rfl (lv_at hl 2 rfl) ?_
        refine lv_iconst (v := 3) hx hb dX11_saying_20 (by decide) ?_
        refine zz_cle (tgt := 32) C h dX11_saying_21 (by decide) (fun h => ?_) (fun h => ?_)
        · refine lv_aload_n hx hb dX11_saying_32 rfl (lv_at hl 0 rfl) ?_
          refine xg_0_1 C hW fl_X11_27 dX11_saying_33 ?_
          refine lv_iload_n hx hb dX11_saying_36 rfl (lv_at hl 1 rfl) ?_
          refine lv_iload_n hx hb dX11_saying_37 rfl (lv_at hl 2 rfl) ?_
          refine zz_callVi (As := [.int x1, .int x2]) C hW h (fun r hr => c_X2_tellOf_3 hr) lk_X11_107 (hW.recv xr_3) rfl hl.1 ⟨rfl, rfl⟩ ⟨Nat.le_of_ble_eq_true rfl, Nat.le_of_ble_eq_true rfl⟩ (Nat.le_of_ble_eq_true rfl) ⟨Nat.zero_le _, Nat.zero_le _⟩ rfl dX11_saying_38 (fun v3 S2 H locs h hW => ?_)
          exact zz_iret C rfl h hW dX11_saying_41
        · cases h
def n_X11_saying_0 (F : Nat) (S : Zs) (x1 : Int32) (x2 : Int32) : Option (Int32 × Zs) := n_X11_saying_0_e F  S x1 x2
theorem c_X11_saying_0 {l : Launch} {D : va_G} {cs ad : Nat → Nat} {F : Nat} {S : Zs} {x1 : Int32} {x2 : Int32} {q : (Int32 × Zs)} (h : n_X11_saying_0 F S x1 x2 = some q) : zMi l yX11_saying cX11_saying 3 (some .int) (zR 1 22) (xG D cs ad) [.ref (ad 0), .int x1, .int x2] S q :=
  zz_enter (by decide) (Nat.le_of_ble_eq_true rfl) (fun p e s m below meth c ls C hW hl => w_X11_saying_0_e (F := F) C h hW (lv_sub hl [0, 1, 2] rfl))
def n_X11_mark_0_b24 (F : Nat)  (S : Zs)  : Option (Int32 × Zs) :=
  zrb (0 : Int32) S
set_option maxRecDepth 20000 in
set_option maxHeartbeats 4000000 in
theorem w_X11_mark_0_b24 {F : Nat} {q : (Int32 × Zs)} {S : Zs}   {ls : Array Slot} {H : Heap} {locs : List Loc} (C : zC p s m args meth c cX11_mark 4 RX11 (some .boolean))  (h : n_X11_mark_0_b24 F  S  = some q) (hW : zW (xG D cs ad) s S H locs) (hl : lv_has ls 4 []) : W p l e (zR 1 22) s m args below meth c H locs 0 0 (zQi (xG D cs ad) q below args s) (F0 m 24 ls []) := by
  unfold n_X11_mark_0_b24 at h
  obtain ⟨hx, hb, hml, hown, hts, hret, hlk⟩ := id C
  refine lv_iconst (v := 0) hx hb dX11_mark_24 (by decide) ?_
  exact zz_zret C rfl h hW dX11_mark_25
def n_X11_mark_0_b71 (F : Nat)  (S : Zs)  : Option (Int32 × Zs) :=
  zrb (1 : Int32) S
set_option maxRecDepth 20000 in
set_option maxHeartbeats 4000000 in
theorem w_X11_mark_0_b71 {F : Nat} {q : (Int32 × Zs)} {S : Zs}   {ls : Array Slot} {H : Heap} {locs : List Loc} (C : zC p s m args meth c cX11_mark 4 RX11 (some .boolean))  (h : n_X11_mark_0_b71 F  S  = some q) (hW : zW (xG D cs ad) s S H locs) (hl : lv_has ls 4 []) : W p l e (zR 1 22) s m args below meth c H locs 0 0 (zQi (xG D cs ad) q below args s) (F0 m 71 ls []) := by
  unfold n_X11_mark_0_b71 at h
  obtain ⟨hx, hb, hml, hown, hts, hret, hlk⟩ := id C
  refine lv_iconst (v := 1) hx hb dX11_mark_71 (by decide) ?_
  exact zz_zret C rfl h hW dX11_mark_72
def n_X11_mark_0_e (F : Nat)  (S : Zs) (x1 : Int32) (x2 : Int32) (x3 : Int32) : Option (Int32 × Zs) :=
  if x1 < 0 then (n_X11_mark_0_b24 F  S ) else (zgf S 62 (fun v1 => if v1 ≤ x1 then (n_X11_mark_0_b24 F  S ) else (if x2 < 0 then (n_X11_mark_0_b24 F  S ) else (if x2 ≤ (1 : Int32) then (if x2 = 0 then (zgf S 63 (fun v6 => zcl (n_X0_withBit F S v6 x1 x3) (fun v8 S7 => zpf S7 63 v8 (fun S9 => n_X11_mark_0_b71 F  S9 )))) else (zgf S 64 (fun v2 => zcl (n_X0_withBit F S v2 x1 x3) (fun v4 S3 => zpf S3 64 v4 (fun S5 => n_X11_mark_0_b71 F  S5 ))))) else (n_X11_mark_0_b24 F  S )))))
set_option maxRecDepth 20000 in
set_option maxHeartbeats 4000000 in
theorem w_X11_mark_0_e {F : Nat} {q : (Int32 × Zs)} {S : Zs}  {x1 : Int32} {x2 : Int32} {x3 : Int32} {ls : Array Slot} {H : Heap} {locs : List Loc} (C : zC p s m args meth c cX11_mark 4 RX11 (some .boolean))  (h : n_X11_mark_0_e F  S x1 x2 x3 = some q) (hW : zW (xG D cs ad) s S H locs) (hl : lv_has ls 4 [(0, .ref (ad 0)), (1, .int x1), (2, .int x2), (3, .int x3)]) : W p l e (zR 1 22) s m args below meth c H locs 0 0 (zQi (xG D cs ad) q below args s) (F0 m 0 ls []) := by
  unfold n_X11_mark_0_e at h
  obtain ⟨hx, hb, hml, hown, hts, hret, hlk⟩ := id C
  refine lv_iload_n hx hb dX11_mark_0 rfl (lv_at hl 1 rfl) ?_
  refine zz_ilt (tgt := 24) C h dX11_mark_1 (by decide) (fun h => ?_) (fun h => ?_)
  · exact w_X11_mark_0_b24 (F := F) C h hW (lv_sub hl [] rfl)
  · refine lv_iload_n hx hb dX11_mark_4 rfl (lv_at hl 1 rfl) ?_
    refine lv_aload_n hx hb dX11_mark_5 rfl (lv_at hl 0 rfl) ?_
    refine xg_0_1 C hW fl_X11_27 dX11_mark_6 ?_
    refine xg_3_2 C hW h fl_X11_101 dX11_mark_9 (fun v1 h => ?_)
    refine zz_cge (tgt := 24) C h dX11_mark_12 (by decide) (fun h => ?_) (fun h => ?_)
    · exact w_X11_mark_0_b24 (F := F) C h hW (lv_sub hl [] rfl)
    · refine lv_iload_n hx hb dX11_mark_15 rfl (lv_at hl 2 rfl) ?_
      refine zz_ilt (tgt := 24) C h dX11_mark_16 (by decide) (fun h => ?_) (fun h => ?_)
      · exact w_X11_mark_0_b24 (F := F) C h hW (lv_sub hl [] rfl)
      · refine lv_iload_n hx hb dX11_mark_19 rfl (lv_at hl 2 rfl) ?_
        refine lv_iconst (v := 1) hx hb dX11_mark_20 (by decide) ?_
        refine zz_cle (tgt := 26) C h dX11_mark_21 (by decide) (fun h => ?_) (fun h => ?_)
        · refine lv_iload_n hx hb dX11_mark_26 rfl (lv_at hl 2 rfl) ?_
          refine zz_ine (tgt := 52) C h dX11_mark_27 (by decide) (fun h => ?_) (fun h => ?_)
          · refine lv_aload_n hx hb dX11_mark_52 rfl (lv_at hl 0 rfl) ?_
            refine xg_0_1 C hW fl_X11_27 dX11_mark_53 ?_
            refine lv_aload_n hx hb dX11_mark_56 rfl (lv_at hl 0 rfl) ?_
            refine xg_0_1 C hW fl_X11_27 dX11_mark_57 ?_
            refine xg_3_4 C hW h fl_X11_120 dX11_mark_60 (fun v2 h => ?_)
            refine lv_iload_n hx hb dX11_mark_63 rfl (lv_at hl 1 rfl) ?_
            refine lv_iload_n hx hb dX11_mark_64 rfl (lv_at hl 3 rfl) ?_
            refine zz_callSi (As := [.int v2, .int x1, .int x3]) C hW h (fun r hr => c_X0_withBit hr) lk_X11_114 rfl hl.1 ⟨rfl, rfl⟩ ⟨Nat.le_of_ble_eq_true rfl, Nat.le_of_ble_eq_true rfl⟩ (Nat.le_of_ble_eq_true rfl) ⟨Nat.zero_le _, Nat.zero_le _⟩ rfl dX11_mark_65 (fun v4 S3 H locs h hW => ?_)
            refine xp_3_4 C hW h fl_X11_120 dX11_mark_68 (fun S5 H locs h hW => ?_)
            exact w_X11_mark_0_b71 (F := F) C h hW (lv_sub hl [] rfl)
          · refine lv_aload_n hx hb dX11_mark_30 rfl (lv_at hl 0 rfl) ?_
            refine xg_0_1 C hW fl_X11_27 dX11_mark_31 ?_
            refine lv_aload_n hx hb dX11_mark_34 rfl (lv_at hl 0 rfl) ?_
            refine xg_0_1 C hW fl_X11_27 dX11_mark_35 ?_
            refine xg_3_3 C hW h fl_X11_111 dX11_mark_38 (fun v6 h => ?_)
            refine lv_iload_n hx hb dX11_mark_41 rfl (lv_at hl 1 rfl) ?_
            refine lv_iload_n hx hb dX11_mark_42 rfl (lv_at hl 3 rfl) ?_
            refine zz_callSi (As := [.int v6, .int x1, .int x3]) C hW h (fun r hr => c_X0_withBit hr) lk_X11_114 rfl hl.1 ⟨rfl, rfl⟩ ⟨Nat.le_of_ble_eq_true rfl, Nat.le_of_ble_eq_true rfl⟩ (Nat.le_of_ble_eq_true rfl) ⟨Nat.zero_le _, Nat.zero_le _⟩ rfl dX11_mark_43 (fun v8 S7 H locs h hW => ?_)
            refine xp_3_3 C hW h fl_X11_111 dX11_mark_46 (fun S9 H locs h hW => ?_)
            refine lv_goto (tgt := 71) hx hb dX11_mark_49 (by decide) ?_
            exact w_X11_mark_0_b71 (F := F) C h hW (lv_sub hl [] rfl)
        · exact w_X11_mark_0_b24 (F := F) C h hW (lv_sub hl [] rfl)
def n_X11_mark_0 (F : Nat) (S : Zs) (x1 : Int32) (x2 : Int32) (x3 : Int32) : Option (Int32 × Zs) := n_X11_mark_0_e F  S x1 x2 x3
theorem c_X11_mark_0 {l : Launch} {D : va_G} {cs ad : Nat → Nat} {F : Nat} {S : Zs} {x1 : Int32} {x2 : Int32} {x3 : Int32} {q : (Int32 × Zs)} (h : n_X11_mark_0 F S x1 x2 x3 = some q) : zMi l yX11_mark cX11_mark 4 (some .boolean) (zR 1 22) (xG D cs ad) [.ref (ad 0), .int x1, .int x2, .int x3] S q :=
  zz_enter (by decide) (Nat.le_of_ble_eq_true rfl) (fun p e s m below meth c ls C hW hl => w_X11_mark_0_e (F := F) C h hW (lv_sub hl [0, 1, 2, 3] rfl))
def n_X11_lives_0_b10 (F : Nat)  (S : Zs)  : Option (Int32 × Zs) :=
  zrb (0 : Int32) S
set_option maxRecDepth 20000 in
set_option maxHeartbeats 4000000 in
theorem w_X11_lives_0_b10 {F : Nat} {q : (Int32 × Zs)} {S : Zs}   {ls : Array Slot} {H : Heap} {locs : List Loc} (C : zC p s m args meth c cX11_lives 3 RX11 (some .boolean))  (h : n_X11_lives_0_b10 F  S  = some q) (hW : zW (xG D cs ad) s S H locs) (hl : lv_has ls 3 []) : W p l e (zR 1 22) s m args below meth c H locs 0 0 (zQi (xG D cs ad) q below args s) (F0 m 10 ls []) := by
  unfold n_X11_lives_0_b10 at h
  obtain ⟨hx, hb, hml, hown, hts, hret, hlk⟩ := id C
  refine lv_iconst (v := 0) hx hb dX11_lives_10 (by decide) ?_
  exact zz_zret C rfl h hW dX11_lives_11
def n_X11_lives_0_e (F : Nat)  (S : Zs) (x1 : Int32) (x2 : Int32) : Option (Int32 × Zs) :=
  if x1 < 0 then (n_X11_lives_0_b10 F  S ) else (if x1 < (12 : Int32) then (zgf S 65 (fun v1 => zcl (n_X0_withBit F S v1 x1 x2) (fun v3 S2 => zpf S2 65 v3 (fun S4 => zrb (1 : Int32) S4)))) else (n_X11_lives_0_b10 F  S ))
set_option maxRecDepth 20000 in
set_option maxHeartbeats 4000000 in
theorem w_X11_lives_0_e {F : Nat} {q : (Int32 × Zs)} {S : Zs}  {x1 : Int32} {x2 : Int32} {ls : Array Slot} {H : Heap} {locs : List Loc} (C : zC p s m args meth c cX11_lives 3 RX11 (some .boolean))  (h : n_X11_lives_0_e F  S x1 x2 = some q) (hW : zW (xG D cs ad) s S H locs) (hl : lv_has ls 3 [(0, .ref (ad 0)), (1, .int x1), (2, .int x2)]) : W p l e (zR 1 22) s m args below meth c H locs 0 0 (zQi (xG D cs ad) q below args s) (F0 m 0 ls []) := by
  unfold n_X11_lives_0_e at h
  obtain ⟨hx, hb, hml, hown, hts, hret, hlk⟩ := id C
  refine lv_iload_n hx hb dX11_lives_0 rfl (lv_at hl 1 rfl) ?_
  refine zz_ilt (tgt := 10) C h dX11_lives_1 (by decide) (fun h => ?_) (fun h => ?_)
  · exact w_X11_lives_0_b10 (F := F) C h hW (lv_sub hl [] rfl)
  · refine lv_iload_n hx hb dX11_lives_4 rfl (lv_at hl 1 rfl) ?_
    refine lv_bipush (v := 12) hx hb dX11_lives_5 (by decide) ?_
    refine zz_clt (tgt := 12) C h dX11_lives_7 (by decide) (fun h => ?_) (fun h => ?_)
    · refine lv_aload_n hx hb dX11_lives_12 rfl (lv_at hl 0 rfl) ?_
      refine xg_0_1 C hW fl_X11_27 dX11_lives_13 ?_
      refine lv_aload_n hx hb dX11_lives_16 rfl (lv_at hl 0 rfl) ?_
      refine xg_0_1 C hW fl_X11_27 dX11_lives_17 ?_
      refine xg_3_5 C hW h fl_X11_123 dX11_lives_20 (fun v1 h => ?_)
      refine lv_iload_n hx hb dX11_lives_23 rfl (lv_at hl 1 rfl) ?_
      refine lv_iload_n hx hb dX11_lives_24 rfl (lv_at hl 2 rfl) ?_
      refine zz_callSi (As := [.int v1, .int x1, .int x2]) C hW h (fun r hr => c_X0_withBit hr) lk_X11_114 rfl hl.1 ⟨rfl, rfl⟩ ⟨Nat.le_of_ble_eq_true rfl, Nat.le_of_ble_eq_true rfl⟩ (Nat.le_of_ble_eq_true rfl) ⟨Nat.zero_le _, Nat.zero_le _⟩ rfl dX11_lives_25 (fun v3 S2 H locs h hW => ?_)
      refine xp_3_5 C hW h fl_X11_123 dX11_lives_28 (fun S4 H locs h hW => ?_)
      refine lv_iconst (v := 1) hx hb dX11_lives_31 (by decide) ?_
      exact zz_zret C rfl h hW dX11_lives_32
    · exact w_X11_lives_0_b10 (F := F) C h hW (lv_sub hl [] rfl)
def n_X11_lives_0 (F : Nat) (S : Zs) (x1 : Int32) (x2 : Int32) : Option (Int32 × Zs) := n_X11_lives_0_e F  S x1 x2
theorem c_X11_lives_0 {l : Launch} {D : va_G} {cs ad : Nat → Nat} {F : Nat} {S : Zs} {x1 : Int32} {x2 : Int32} {q : (Int32 × Zs)} (h : n_X11_lives_0 F S x1 x2 = some q) : zMi l yX11_lives cX11_lives 3 (some .boolean) (zR 1 22) (xG D cs ad) [.ref (ad 0), .int x1, .int x2] S q :=
  zz_enter (by decide) (Nat.le_of_ble_eq_true rfl) (fun p e s m below meth c ls C hW hl => w_X11_lives_0_e (F := F) C h hW (lv_sub hl [0, 1, 2] rfl))
def n_X0_isCode_b16 (F : Nat)  (S : Zs) (t0 : Int32) : Option (Int32 × Zs) :=
  zrb t0 S
set_option maxRecDepth 20000 in
set_option maxHeartbeats 4000000 in
theorem w_X0_isCode_b16 {F : Nat} {q : (Int32 × Zs)} {S : Zs}  {t0 : Int32} {ls : Array Slot} {H : Heap} {locs : List Loc} (C : zC p s m args meth c cX0_isCode 1 RX0 (some .boolean))  (h : n_X0_isCode_b16 F  S t0 = some q) (hW : zW (xG D cs ad) s S H locs) (hl : lv_has ls 1 []) : W p l e (zR 0 0) s m args below meth c H locs 0 0 (zQi (xG D cs ad) q below args s) (F0 m 16 ls [.int t0]) := by
  unfold n_X0_isCode_b16 at h
  obtain ⟨hx, hb, hml, hown, hts, hret, hlk⟩ := id C
  exact zz_zret C rfl h hW dX0_isCode_16
def n_X0_isCode_b15 (F : Nat)  (S : Zs)  : Option (Int32 × Zs) :=
  n_X0_isCode_b16 F  S (0 : Int32)
set_option maxRecDepth 20000 in
set_option maxHeartbeats 4000000 in
theorem w_X0_isCode_b15 {F : Nat} {q : (Int32 × Zs)} {S : Zs}   {ls : Array Slot} {H : Heap} {locs : List Loc} (C : zC p s m args meth c cX0_isCode 1 RX0 (some .boolean))  (h : n_X0_isCode_b15 F  S  = some q) (hW : zW (xG D cs ad) s S H locs) (hl : lv_has ls 1 []) : W p l e (zR 0 0) s m args below meth c H locs 0 0 (zQi (xG D cs ad) q below args s) (F0 m 15 ls []) := by
  unfold n_X0_isCode_b15 at h
  obtain ⟨hx, hb, hml, hown, hts, hret, hlk⟩ := id C
  refine lv_iconst (v := 0) hx hb dX0_isCode_15 (by decide) ?_
  exact w_X0_isCode_b16 (F := F) C h hW (lv_sub hl [] rfl)
def n_X0_isCode_e (F : Nat)  (S : Zs) (x0 : Int32) : Option (Int32 × Zs) :=
  if x0 < 0 then (n_X0_isCode_b15 F  S ) else (if (2304 : Int32) ≤ x0 then (n_X0_isCode_b15 F  S ) else (n_X0_isCode_b16 F  S (1 : Int32)))
set_option maxRecDepth 20000 in
set_option maxHeartbeats 4000000 in
theorem w_X0_isCode_e {F : Nat} {q : (Int32 × Zs)} {S : Zs}  {x0 : Int32} {ls : Array Slot} {H : Heap} {locs : List Loc} (C : zC p s m args meth c cX0_isCode 1 RX0 (some .boolean))  (h : n_X0_isCode_e F  S x0 = some q) (hW : zW (xG D cs ad) s S H locs) (hl : lv_has ls 1 [(0, .int x0)]) : W p l e (zR 0 0) s m args below meth c H locs 0 0 (zQi (xG D cs ad) q below args s) (F0 m 0 ls []) := by
  unfold n_X0_isCode_e at h
  obtain ⟨hx, hb, hml, hown, hts, hret, hlk⟩ := id C
  refine lv_iload_n hx hb dX0_isCode_0 rfl (lv_at hl 0 rfl) ?_
  refine zz_ilt (tgt := 15) C h dX0_isCode_1 (by decide) (fun h => ?_) (fun h => ?_)
  · exact w_X0_isCode_b15 (F := F) C h hW (lv_sub hl [] rfl)
  · refine lv_iload_n hx hb dX0_isCode_4 rfl (lv_at hl 0 rfl) ?_
    refine lv_sipush (v := 2304) hx hb dX0_isCode_5 (by decide) ?_
    refine zz_cge (tgt := 15) C h dX0_isCode_8 (by decide) (fun h => ?_) (fun h => ?_)
    · exact w_X0_isCode_b15 (F := F) C h hW (lv_sub hl [] rfl)
    · refine lv_iconst (v := 1) hx hb dX0_isCode_11 (by decide) ?_
      refine lv_goto (tgt := 16) hx hb dX0_isCode_12 (by decide) ?_
      exact w_X0_isCode_b16 (F := F) C h hW (lv_sub hl [] rfl)
def n_X0_isCode (F : Nat) (S : Zs) (x0 : Int32) : Option (Int32 × Zs) := n_X0_isCode_e F  S x0
theorem c_X0_isCode {l : Launch} {D : va_G} {cs ad : Nat → Nat} {F : Nat} {S : Zs} {x0 : Int32} {q : (Int32 × Zs)} (h : n_X0_isCode F S x0 = some q) : zMi l yX0_isCode cX0_isCode 1 (some .boolean) (zR 0 0) (xG D cs ad) [.int x0] S q :=
  zz_enter (by decide) (Nat.le_of_ble_eq_true rfl) (fun p e s m below meth c ls C hW hl => w_X0_isCode_e (F := F) C h hW (lv_sub hl [0] rfl))
def n_X2_wish_3_e (F : Nat)  (S : Zs) (x1 : Int32) : Option (Int32 × Zs) :=
  zgf S 68 (fun v1 => if v1 < (6 : Int32) then (zgf S 68 (fun v2 => zst S 6 6 v2 x1 (fun S3 => zgf S3 68 (fun v4 => zpf S3 68 (v4 + (1 : Int32)) (fun S5 => zgf S5 68 (fun v6 => some (v6, S5))))))) else (some ((-1 : Int32), S)))
set_option maxRecDepth 20000 in
set_option maxHeartbeats 4000000 in
theorem w_X2_wish_3_e {F : Nat} {q : (Int32 × Zs)} {S : Zs}  {x1 : Int32} {ls : Array Slot} {H : Heap} {locs : List Loc} (C : zC p s m args meth c cX2_wish 2 RX2 (some .int))  (h : n_X2_wish_3_e F  S x1 = some q) (hW : zW (xG D cs ad) s S H locs) (hl : lv_has ls 2 [(0, .ref (ad 3)), (1, .int x1)]) : W p l e (zR 0 0) s m args below meth c H locs 0 0 (zQi (xG D cs ad) q below args s) (F0 m 0 ls []) := by
  unfold n_X2_wish_3_e at h
  obtain ⟨hx, hb, hml, hown, hts, hret, hlk⟩ := id C
  refine lv_aload_n hx hb dX2_wish_0 rfl (lv_at hl 0 rfl) ?_
  refine xg_3_8 C hW h fl_X2_90 dX2_wish_1 (fun v1 h => ?_)
  refine lv_bipush (v := 6) hx hb dX2_wish_4 (by decide) ?_
  refine zz_clt (tgt := 11) C h dX2_wish_6 (by decide) (fun h => ?_) (fun h => ?_)
  · refine lv_aload_n hx hb dX2_wish_11 rfl (lv_at hl 0 rfl) ?_
    refine xg_3_7 C hW fl_X2_23 dX2_wish_12 ?_
    refine lv_aload_n hx hb dX2_wish_15 rfl (lv_at hl 0 rfl) ?_
    refine xg_3_8 C hW h fl_X2_90 dX2_wish_16 (fun v2 h => ?_)
    refine lv_iload_n hx hb dX2_wish_19 rfl (lv_at hl 1 rfl) ?_
    refine xs_6 C hW h dX2_wish_20 (fun S3 H locs h hW => ?_)
    refine lv_aload_n hx hb dX2_wish_21 rfl (lv_at hl 0 rfl) ?_
    refine lv_dup hx hb dX2_wish_22 rfl ?_
    refine xg_3_8 C hW h fl_X2_90 dX2_wish_23 (fun v4 h => ?_)
    refine lv_iconst (v := 1) hx hb dX2_wish_26 (by decide) ?_
    refine lv_iadd hx hb dX2_wish_27 ?_
    refine xp_3_8 C hW h fl_X2_90 dX2_wish_28 (fun S5 H locs h hW => ?_)
    refine lv_aload_n hx hb dX2_wish_31 rfl (lv_at hl 0 rfl) ?_
    refine xg_3_8 C hW h fl_X2_90 dX2_wish_32 (fun v6 h => ?_)
    exact zz_iret C rfl h hW dX2_wish_35
  · refine lv_iconst (v := -1) hx hb dX2_wish_9 (by decide) ?_
    exact zz_iret C rfl h hW dX2_wish_10
def n_X2_wish_3 (F : Nat) (S : Zs) (x1 : Int32) : Option (Int32 × Zs) := n_X2_wish_3_e F  S x1
theorem c_X2_wish_3 {l : Launch} {D : va_G} {cs ad : Nat → Nat} {F : Nat} {S : Zs} {x1 : Int32} {q : (Int32 × Zs)} (h : n_X2_wish_3 F S x1 = some q) : zMi l yX2_wish cX2_wish 2 (some .int) (zR 0 0) (xG D cs ad) [.ref (ad 3), .int x1] S q :=
  zz_enter (by decide) (Nat.le_of_ble_eq_true rfl) (fun p e s m below meth c ls C hW hl => w_X2_wish_3_e (F := F) C h hW (lv_sub hl [0, 1] rfl))
def n_X11_want_0_b19 (F : Nat)  (S : Zs) (t0 : Int32) : Option (Int32 × Zs) :=
  some (t0, S)
set_option maxRecDepth 20000 in
set_option maxHeartbeats 4000000 in
theorem w_X11_want_0_b19 {F : Nat} {q : (Int32 × Zs)} {S : Zs}  {t0 : Int32} {ls : Array Slot} {H : Heap} {locs : List Loc} (C : zC p s m args meth c cX11_want 2 RX11 (some .int))  (h : n_X11_want_0_b19 F  S t0 = some q) (hW : zW (xG D cs ad) s S H locs) (hl : lv_has ls 2 []) : W p l e (zR 1 21) s m args below meth c H locs 0 0 (zQi (xG D cs ad) q below args s) (F0 m 19 ls [.int t0]) := by
  unfold n_X11_want_0_b19 at h
  obtain ⟨hx, hb, hml, hown, hts, hret, hlk⟩ := id C
  exact zz_iret C rfl h hW dX11_want_19
def n_X11_want_0_e (F : Nat)  (S : Zs) (x1 : Int32) : Option (Int32 × Zs) :=
  zcl (n_X0_isCode F S x1) (fun v2 S1 => if v2 = 0 then (n_X11_want_0_b19 F  S1 (-1 : Int32)) else (zcl (n_X2_wish_3 F S1 x1) (fun v4 S3 => n_X11_want_0_b19 F  S3 v4)))
set_option maxRecDepth 20000 in
set_option maxHeartbeats 4000000 in
theorem w_X11_want_0_e {F : Nat} {q : (Int32 × Zs)} {S : Zs}  {x1 : Int32} {ls : Array Slot} {H : Heap} {locs : List Loc} (C : zC p s m args meth c cX11_want 2 RX11 (some .int))  (h : n_X11_want_0_e F  S x1 = some q) (hW : zW (xG D cs ad) s S H locs) (hl : lv_has ls 2 [(0, .ref (ad 0)), (1, .int x1)]) : W p l e (zR 1 21) s m args below meth c H locs 0 0 (zQi (xG D cs ad) q below args s) (F0 m 0 ls []) := by
  unfold n_X11_want_0_e at h
  obtain ⟨hx, hb, hml, hown, hts, hret, hlk⟩ := id C
  refine lv_iload_n hx hb dX11_want_0 rfl (lv_at hl 1 rfl) ?_
  refine zz_callSi (As := [.int x1]) C hW h (fun r hr => c_X0_isCode hr) lk_X11_126 rfl hl.1 ⟨rfl, rfl⟩ ⟨Nat.le_of_ble_eq_true rfl, Nat.le_of_ble_eq_true rfl⟩ (Nat.le_of_ble_eq_true rfl) ⟨Nat.zero_le _, Nat.zero_le _⟩ rfl dX11_want_1 (fun v2 S1 H locs h hW => ?_)
  refine zz_ieq (tgt := 18) C h dX11_want_4 (by decide) (fun h => ?_) (fun h => ?_)
  · refine lv_iconst (v := -1) hx hb dX11_want_18 (by decide) ?_
    exact w_X11_want_0_b19 (F := F) C h hW (lv_sub hl [] rfl)
  · refine lv_aload_n hx hb dX11_want_7 rfl (lv_at hl 0 rfl) ?_
    refine xg_0_1 C hW fl_X11_27 dX11_want_8 ?_
    refine lv_iload_n hx hb dX11_want_11 rfl (lv_at hl 1 rfl) ?_
    refine zz_callVi (As := [.int x1]) C hW h (fun r hr => c_X2_wish_3 hr) lk_X11_129 (hW.recv xr_3) rfl hl.1 ⟨rfl, rfl⟩ ⟨Nat.le_of_ble_eq_true rfl, Nat.le_of_ble_eq_true rfl⟩ (Nat.le_of_ble_eq_true rfl) ⟨Nat.zero_le _, Nat.zero_le _⟩ rfl dX11_want_12 (fun v4 S3 H locs h hW => ?_)
    refine lv_goto (tgt := 19) hx hb dX11_want_15 (by decide) ?_
    exact w_X11_want_0_b19 (F := F) C h hW (lv_sub hl [] rfl)
def n_X11_want_0 (F : Nat) (S : Zs) (x1 : Int32) : Option (Int32 × Zs) := n_X11_want_0_e F  S x1
theorem c_X11_want_0 {l : Launch} {D : va_G} {cs ad : Nat → Nat} {F : Nat} {S : Zs} {x1 : Int32} {q : (Int32 × Zs)} (h : n_X11_want_0 F S x1 = some q) : zMi l yX11_want cX11_want 2 (some .int) (zR 1 21) (xG D cs ad) [.ref (ad 0), .int x1] S q :=
  zz_enter (by decide) (Nat.le_of_ble_eq_true rfl) (fun p e s m below meth c ls C hW hl => w_X11_want_0_e (F := F) C h hW (lv_sub hl [0, 1] rfl))
def n_X11_forget_0_e (F : Nat)  (S : Zs)  : Option (Int32 × Zs) :=
  zgf S 68 (fun v1 => zpf S 68 (0 : Int32) (fun S2 => some (v1, S2)))
set_option maxRecDepth 20000 in
set_option maxHeartbeats 4000000 in
theorem w_X11_forget_0_e {F : Nat} {q : (Int32 × Zs)} {S : Zs}   {ls : Array Slot} {H : Heap} {locs : List Loc} (C : zC p s m args meth c cX11_forget 2 RX11 (some .int))  (h : n_X11_forget_0_e F  S  = some q) (hW : zW (xG D cs ad) s S H locs) (hl : lv_has ls 2 [(0, .ref (ad 0))]) : W p l e (zR 0 0) s m args below meth c H locs 0 0 (zQi (xG D cs ad) q below args s) (F0 m 0 ls []) := by
  unfold n_X11_forget_0_e at h
  obtain ⟨hx, hb, hml, hown, hts, hret, hlk⟩ := id C
  refine lv_aload_n hx hb dX11_forget_0 rfl (lv_at hl 0 rfl) ?_
  refine xg_0_1 C hW fl_X11_27 dX11_forget_1 ?_
  refine xg_3_8 C hW h fl_X11_132 dX11_forget_4 (fun v1 h => ?_)
  refine lv_istore_n (lv' := [(1, .int v1), (0, .ref (ad 0))]) hx hb dX11_forget_7 rfl hl (by decide) rfl (fun ls hl => ?_)
  refine lv_aload_n hx hb dX11_forget_8 rfl (lv_at hl 1 rfl) ?_
  refine xg_0_1 C hW fl_X11_27 dX11_forget_9 ?_
  refine lv_iconst (v := 0) hx hb dX11_forget_12 (by decide) ?_
  refine xp_3_8 C hW h fl_X11_132 dX11_forget_13 (fun S2 H locs h hW => ?_)
  refine lv_iload_n hx hb dX11_forget_16 rfl (lv_at hl 0 rfl) ?_
  exact zz_iret C rfl h hW dX11_forget_17
def n_X11_forget_0 (F : Nat) (S : Zs)  : Option (Int32 × Zs) := n_X11_forget_0_e F  S 
theorem c_X11_forget_0 {l : Launch} {D : va_G} {cs ad : Nat → Nat} {F : Nat} {S : Zs}  {q : (Int32 × Zs)} (h : n_X11_forget_0 F S  = some q) : zMi l yX11_forget cX11_forget 2 (some .int) (zR 0 0) (xG D cs ad) [.ref (ad 0)] S q :=
  zz_enter (by decide) (Nat.le_of_ble_eq_true rfl) (fun p e s m below meth c ls C hW hl => w_X11_forget_0_e (F := F) C h hW (lv_sub hl [0] rfl))
def n_X0_positiveEntries_b54 (F : Nat) (rc9 : Zs → Int32 → Int32 → Int32 → Int32 → Int32 → Int32 → Option (Int32 × Zs)) (S : Zs) (x0 : Int32) (x1 : Int32) (x3 : Int32) (x4 : Int32) (x5 : Int32) (x6 : Int32) : Option (Int32 × Zs) :=
  zlet (x5 + x3) (fun v1 => zlet (x6 + (1 : Int32)) (fun v2 => rc9 S x0 x1 x3 x4 v1 v2))
set_option maxRecDepth 20000 in
set_option maxHeartbeats 4000000 in
theorem w_X0_positiveEntries_b54 {F : Nat} {q : (Int32 × Zs)} {S : Zs} {rc9 : Zs → Int32 → Int32 → Int32 → Int32 → Int32 → Int32 → Option (Int32 × Zs)} {x0 : Int32} {x1 : Int32} {x3 : Int32} {x4 : Int32} {x5 : Int32} {x6 : Int32} {ls : Array Slot} {H : Heap} {locs : List Loc} (C : zC p s m args meth c cX0_positiveEntries 8 RX0 (some .int)) (hrc9 : ∀ (S : Zs) (x0 : Int32) (x1 : Int32) (x3 : Int32) (x4 : Int32) (x5 : Int32) (x6 : Int32) (H : Heap) (locs : List Loc) (ls : Array Slot), rc9 S x0 x1 x3 x4 x5 x6 = some q → zW (xG D cs ad) s S H locs → lv_has ls 8 [(0, .int x0), (1, .int x1), (3, .int x3), (4, .int x4), (5, .int x5), (6, .int x6)] → W p l e (zR 0 0) s m args below meth c H locs 0 0 (zQi (xG D cs ad) q below args s) (F0 m 9 ls [])) (h : n_X0_positiveEntries_b54 F rc9 S x0 x1 x3 x4 x5 x6 = some q) (hW : zW (xG D cs ad) s S H locs) (hl : lv_has ls 8 [(0, .int x0), (1, .int x1), (3, .int x3), (4, .int x4), (5, .int x5), (6, .int x6)]) : W p l e (zR 0 0) s m args below meth c H locs 0 0 (zQi (xG D cs ad) q below args s) (F0 m 54 ls []) := by
  unfold n_X0_positiveEntries_b54 at h
  obtain ⟨hx, hb, hml, hown, hts, hret, hlk⟩ := id C
  refine lv_iload hx hb dX0_positiveEntries_54 (lv_at hl 4 rfl) ?_
  refine lv_iload_n hx hb dX0_positiveEntries_56 rfl (lv_at hl 2 rfl) ?_
  refine lv_iadd hx hb dX0_positiveEntries_57 ?_
  refine zz_leti h (fun v1 h => ?_)
  refine lv_istore (lv' := [(5, .int v1), (0, .int x0), (1, .int x1), (3, .int x3), (4, .int x4), (6, .int x6)]) hx hb dX0_positiveEntries_58 hl (by decide) rfl (fun ls hl => ?_)
  obtain ⟨v2, ev2, h⟩ := zz_name h
  refine lv_iinc (v := v2) (lv' := [(6, .int v2), (5, .int v1), (0, .int x0), (1, .int x1), (3, .int x3), (4, .int x4)]) hx hb dX0_positiveEntries_60 hl (k := 5) rfl ev2.symm (by decide) rfl (fun ls hl => ?_)
  refine lv_goto (tgt := 9) hx hb dX0_positiveEntries_63 (by decide) ?_
  exact hrc9 _ _ _ _ _ _ _ _ _ _ h hW (lv_sub hl [2, 3, 4, 5, 1, 0] rfl)
def n_X0_positiveEntries_b38 (F : Nat) (rc9 : Zs → Int32 → Int32 → Int32 → Int32 → Int32 → Int32 → Option (Int32 × Zs)) (S : Zs) (x0 : Int32) (x1 : Int32) (x3 : Int32) (x4 : Int32) (x5 : Int32) (x6 : Int32) (t0 : Int32) : Option (Int32 × Zs) :=
  if t0 ≤ 0 then (n_X0_positiveEntries_b54 F rc9 S x0 x1 x3 x4 x5 x6) else (zlet (x4 ||| ((1 : Int32) <<< (x6 &&& 31))) (fun v1 => n_X0_positiveEntries_b54 F rc9 S x0 x1 x3 v1 x5 x6))
set_option maxRecDepth 20000 in
set_option maxHeartbeats 4000000 in
theorem w_X0_positiveEntries_b38 {F : Nat} {q : (Int32 × Zs)} {S : Zs} {rc9 : Zs → Int32 → Int32 → Int32 → Int32 → Int32 → Int32 → Option (Int32 × Zs)} {x0 : Int32} {x1 : Int32} {x3 : Int32} {x4 : Int32} {x5 : Int32} {x6 : Int32} {t0 : Int32} {ls : Array Slot} {H : Heap} {locs : List Loc} (C : zC p s m args meth c cX0_positiveEntries 8 RX0 (some .int)) (hrc9 : ∀ (S : Zs) (x0 : Int32) (x1 : Int32) (x3 : Int32) (x4 : Int32) (x5 : Int32) (x6 : Int32) (H : Heap) (locs : List Loc) (ls : Array Slot), rc9 S x0 x1 x3 x4 x5 x6 = some q → zW (xG D cs ad) s S H locs → lv_has ls 8 [(0, .int x0), (1, .int x1), (3, .int x3), (4, .int x4), (5, .int x5), (6, .int x6)] → W p l e (zR 0 0) s m args below meth c H locs 0 0 (zQi (xG D cs ad) q below args s) (F0 m 9 ls [])) (h : n_X0_positiveEntries_b38 F rc9 S x0 x1 x3 x4 x5 x6 t0 = some q) (hW : zW (xG D cs ad) s S H locs) (hl : lv_has ls 8 [(0, .int x0), (1, .int x1), (3, .int x3), (4, .int x4), (5, .int x5), (6, .int x6)]) : W p l e (zR 0 0) s m args below meth c H locs 0 0 (zQi (xG D cs ad) q below args s) (F0 m 38 ls [.int t0]) := by
  unfold n_X0_positiveEntries_b38 at h
  obtain ⟨hx, hb, hml, hown, hts, hret, hlk⟩ := id C
  refine lv_istore (lv' := [(7, .int t0), (0, .int x0), (1, .int x1), (3, .int x3), (4, .int x4), (5, .int x5), (6, .int x6)]) hx hb dX0_positiveEntries_38 hl (by decide) rfl (fun ls hl => ?_)
  refine lv_iload hx hb dX0_positiveEntries_40 (lv_at hl 0 rfl) ?_
  refine zz_ile (tgt := 54) C h dX0_positiveEntries_42 (by decide) (fun h => ?_) (fun h => ?_)
  · exact w_X0_positiveEntries_b54 (F := F) C hrc9 h hW (lv_sub hl [1, 2, 3, 4, 5, 6] rfl)
  · refine lv_iload hx hb dX0_positiveEntries_45 (lv_at hl 4 rfl) ?_
    refine lv_iconst (v := 1) hx hb dX0_positiveEntries_47 (by decide) ?_
    refine lv_iload hx hb dX0_positiveEntries_48 (lv_at hl 6 rfl) ?_
    refine lv_ishl hx hb dX0_positiveEntries_50 ?_
    refine lv_ior hx hb dX0_positiveEntries_51 ?_
    refine zz_leti h (fun v1 h => ?_)
    refine lv_istore (lv' := [(4, .int v1), (7, .int t0), (0, .int x0), (1, .int x1), (3, .int x3), (5, .int x5), (6, .int x6)]) hx hb dX0_positiveEntries_52 hl (by decide) rfl (fun ls hl => ?_)
    exact w_X0_positiveEntries_b54 (F := F) C hrc9 h hW (lv_sub hl [2, 3, 4, 0, 5, 6] rfl)
def n_X0_positiveEntries_b9_l (F : Nat) (rc9 : Zs → Int32 → Int32 → Int32 → Int32 → Int32 → Int32 → Option (Int32 × Zs)) (S : Zs) (x0 : Int32) (x1 : Int32) (x3 : Int32) (x4 : Int32) (x5 : Int32) (x6 : Int32) : Option (Int32 × Zs) :=
  if x1 ≤ x6 then (some (x4, S)) else (if x0 = 0 then (n_X0_positiveEntries_b38 F rc9 S x0 x1 x3 x4 x5 x6 (x5.toInt8.toInt32)) else (if x0 = (1 : Int32) then (n_X0_positiveEntries_b38 F rc9 S x0 x1 x3 x4 x5 x6 (x5.toInt16.toInt32)) else (n_X0_positiveEntries_b38 F rc9 S x0 x1 x3 x4 x5 x6 x5)))
set_option maxRecDepth 20000 in
set_option maxHeartbeats 4000000 in
theorem w_X0_positiveEntries_b9_l {F : Nat} {q : (Int32 × Zs)} {S : Zs} {rc9 : Zs → Int32 → Int32 → Int32 → Int32 → Int32 → Int32 → Option (Int32 × Zs)} {x0 : Int32} {x1 : Int32} {x3 : Int32} {x4 : Int32} {x5 : Int32} {x6 : Int32} {ls : Array Slot} {H : Heap} {locs : List Loc} (C : zC p s m args meth c cX0_positiveEntries 8 RX0 (some .int)) (hrc9 : ∀ (S : Zs) (x0 : Int32) (x1 : Int32) (x3 : Int32) (x4 : Int32) (x5 : Int32) (x6 : Int32) (H : Heap) (locs : List Loc) (ls : Array Slot), rc9 S x0 x1 x3 x4 x5 x6 = some q → zW (xG D cs ad) s S H locs → lv_has ls 8 [(0, .int x0), (1, .int x1), (3, .int x3), (4, .int x4), (5, .int x5), (6, .int x6)] → W p l e (zR 0 0) s m args below meth c H locs 0 0 (zQi (xG D cs ad) q below args s) (F0 m 9 ls [])) (h : n_X0_positiveEntries_b9_l F rc9 S x0 x1 x3 x4 x5 x6 = some q) (hW : zW (xG D cs ad) s S H locs) (hl : lv_has ls 8 [(0, .int x0), (1, .int x1), (3, .int x3), (4, .int x4), (5, .int x5), (6, .int x6)]) : W p l e (zR 0 0) s m args below meth c H locs 0 0 (zQi (xG D cs ad) q below args s) (F0 m 9 ls []) := by
  unfold n_X0_positiveEntries_b9_l at h
  obtain ⟨hx, hb, hml, hown, hts, hret, hlk⟩ := id C
  refine lv_iload hx hb dX0_positiveEntries_9 (lv_at hl 5 rfl) ?_
  refine lv_iload_n hx hb dX0_positiveEntries_11 rfl (lv_at hl 1 rfl) ?_
  refine zz_cge (tgt := 66) C h dX0_positiveEntries_12 (by decide) (fun h => ?_) (fun h => ?_)
  · refine lv_iload hx hb dX0_positiveEntries_66 (lv_at hl 3 rfl) ?_
    exact zz_iret C rfl h hW dX0_positiveEntries_68
  · refine lv_iload_n hx hb dX0_positiveEntries_15 rfl (lv_at hl 0 rfl) ?_
    refine zz_ine (tgt := 25) C h dX0_positiveEntries_16 (by decide) (fun h => ?_) (fun h => ?_)
    · refine lv_iload_n hx hb dX0_positiveEntries_25 rfl (lv_at hl 0 rfl) ?_
      refine lv_iconst (v := 1) hx hb dX0_positiveEntries_26 (by decide) ?_
      refine zz_cne (tgt := 36) C h dX0_positiveEntries_27 (by decide) (fun h => ?_) (fun h => ?_)
      · refine lv_iload hx hb dX0_positiveEntries_36 (lv_at hl 4 rfl) ?_
        exact w_X0_positiveEntries_b38 (F := F) C hrc9 h hW (lv_sub hl [0, 1, 2, 3, 4, 5] rfl)
      · refine lv_iload hx hb dX0_positiveEntries_30 (lv_at hl 4 rfl) ?_
        refine lv_i2s hx hb dX0_positiveEntries_32 rfl ?_
        refine lv_goto (tgt := 38) hx hb dX0_positiveEntries_33 (by decide) ?_
        exact w_X0_positiveEntries_b38 (F := F) C hrc9 h hW (lv_sub hl [0, 1, 2, 3, 4, 5] rfl)
    · refine lv_iload hx hb dX0_positiveEntries_19 (lv_at hl 4 rfl) ?_
      refine lv_i2b hx hb dX0_positiveEntries_21 rfl ?_
      refine lv_goto (tgt := 38) hx hb dX0_positiveEntries_22 (by decide) ?_
      exact w_X0_positiveEntries_b38 (F := F) C hrc9 h hW (lv_sub hl [0, 1, 2, 3, 4, 5] rfl)
def n_X0_positiveEntries_b9 (F : Nat)  (S : Zs) (x0 : Int32) (x1 : Int32) (x3 : Int32) (x4 : Int32) (x5 : Int32) (x6 : Int32) : Option (Int32 × Zs) :=
  zfix (fun (rc : (Zs × Int32 × Int32 × Int32 × Int32 × Int32 × Int32) → Option (Int32 × Zs)) (u : (Zs × Int32 × Int32 × Int32 × Int32 × Int32 × Int32)) => n_X0_positiveEntries_b9_l F  (fun S x0 x1 x3 x4 x5 x6 => rc (S, x0, x1, x3, x4, x5, x6)) u.1 u.2.1 u.2.2.1 u.2.2.2.1 u.2.2.2.2.1 u.2.2.2.2.2.1 u.2.2.2.2.2.2) F (S, x0, x1, x3, x4, x5, x6)
theorem w_X0_positiveEntries_b9 {F : Nat} {q : (Int32 × Zs)}  (C : zC p s m args meth c cX0_positiveEntries 8 RX0 (some .int))  : ∀ (n : Nat) (S : Zs) (x0 : Int32) (x1 : Int32) (x3 : Int32) (x4 : Int32) (x5 : Int32) (x6 : Int32) (H : Heap) (locs : List Loc) (ls : Array Slot), zfix (fun (rc : (Zs × Int32 × Int32 × Int32 × Int32 × Int32 × Int32) → Option (Int32 × Zs)) (u : (Zs × Int32 × Int32 × Int32 × Int32 × Int32 × Int32)) => n_X0_positiveEntries_b9_l F  (fun S x0 x1 x3 x4 x5 x6 => rc (S, x0, x1, x3, x4, x5, x6)) u.1 u.2.1 u.2.2.1 u.2.2.2.1 u.2.2.2.2.1 u.2.2.2.2.2.1 u.2.2.2.2.2.2) n (S, x0, x1, x3, x4, x5, x6) = some q → zW (xG D cs ad) s S H locs → lv_has ls 8 [(0, .int x0), (1, .int x1), (3, .int x3), (4, .int x4), (5, .int x5), (6, .int x6)] → W p l e (zR 0 0) s m args below meth c H locs 0 0 (zQi (xG D cs ad) q below args s) (F0 m 9 ls []) := by
  intro n
  induction n with
  | zero => intro S x0 x1 x3 x4 x5 x6 H locs ls h; exact absurd h (fun h => by cases h)
  | succ n ih => intro S x0 x1 x3 x4 x5 x6 H locs ls h hW hl; exact w_X0_positiveEntries_b9_l (F := F) C (fun S x0 x1 x3 x4 x5 x6 H locs ls h hW hl => ih S x0 x1 x3 x4 x5 x6 H locs ls h hW hl) h hW hl
def n_X0_positiveEntries_e (F : Nat)  (S : Zs) (x0 : Int32) (x1 : Int32) (x2 : Int32) (x3 : Int32) : Option (Int32 × Zs) :=
  n_X0_positiveEntries_b9 F  S x0 x1 x3 (0 : Int32) x2 (0 : Int32)
set_option maxRecDepth 20000 in
set_option maxHeartbeats 4000000 in
theorem w_X0_positiveEntries_e {F : Nat} {q : (Int32 × Zs)} {S : Zs}  {x0 : Int32} {x1 : Int32} {x2 : Int32} {x3 : Int32} {ls : Array Slot} {H : Heap} {locs : List Loc} (C : zC p s m args meth c cX0_positiveEntries 8 RX0 (some .int))  (h : n_X0_positiveEntries_e F  S x0 x1 x2 x3 = some q) (hW : zW (xG D cs ad) s S H locs) (hl : lv_has ls 8 [(0, .int x0), (1, .int x1), (2, .int x2), (3, .int x3)]) : W p l e (zR 0 0) s m args below meth c H locs 0 0 (zQi (xG D cs ad) q below args s) (F0 m 0 ls []) := by
  unfold n_X0_positiveEntries_e at h
  obtain ⟨hx, hb, hml, hown, hts, hret, hlk⟩ := id C
  refine lv_iconst (v := 0) hx hb dX0_positiveEntries_0 (by decide) ?_
  refine lv_istore (lv' := [(4, .int (0 : Int32)), (0, .int x0), (1, .int x1), (2, .int x2), (3, .int x3)]) hx hb dX0_positiveEntries_1 hl (by decide) rfl (fun ls hl => ?_)
  refine lv_iload_n hx hb dX0_positiveEntries_3 rfl (lv_at hl 3 rfl) ?_
  refine lv_istore (lv' := [(5, .int x2), (4, .int (0 : Int32)), (0, .int x0), (1, .int x1), (2, .int x2), (3, .int x3)]) hx hb dX0_positiveEntries_4 hl (by decide) rfl (fun ls hl => ?_)
  refine lv_iconst (v := 0) hx hb dX0_positiveEntries_6 (by decide) ?_
  refine lv_istore (lv' := [(6, .int (0 : Int32)), (5, .int x2), (4, .int (0 : Int32)), (0, .int x0), (1, .int x1), (2, .int x2), (3, .int x3)]) hx hb dX0_positiveEntries_7 hl (by decide) rfl (fun ls hl => ?_)
  exact w_X0_positiveEntries_b9 (F := F) C F _ _ _ _ _ _ _ _ _ _ h hW (lv_sub hl [3, 4, 6, 2, 1, 0] rfl)
def n_X0_positiveEntries (F : Nat) (S : Zs) (x0 : Int32) (x1 : Int32) (x2 : Int32) (x3 : Int32) : Option (Int32 × Zs) := n_X0_positiveEntries_e F  S x0 x1 x2 x3
theorem c_X0_positiveEntries {l : Launch} {D : va_G} {cs ad : Nat → Nat} {F : Nat} {S : Zs} {x0 : Int32} {x1 : Int32} {x2 : Int32} {x3 : Int32} {q : (Int32 × Zs)} (h : n_X0_positiveEntries F S x0 x1 x2 x3 = some q) : zMi l yX0_positiveEntries cX0_positiveEntries 8 (some .int) (zR 0 0) (xG D cs ad) [.int x0, .int x1, .int x2, .int x3] S q :=
  zz_enter (by decide) (Nat.le_of_ble_eq_true rfl) (fun p e s m below meth c ls C hW hl => w_X0_positiveEntries_e (F := F) C h hW (lv_sub hl [0, 1, 2, 3] rfl))
def n_J6_bitCount_0f7a4_x_e (F : Nat)  (S : Zs) (x0 : Int32) : Option (Int32 × Zs) :=
  zlet (x0 - (((x0.toUInt32 >>> ((1 : Int32).toUInt32 &&& Int32.toUInt32 31)).toInt32) &&& (1431655765 : Int32))) (fun v1 => zlet ((v1 &&& (858993459 : Int32)) + (((v1.toUInt32 >>> ((2 : Int32).toUInt32 &&& Int32.toUInt32 31)).toInt32) &&& (858993459 : Int32))) (fun v2 => zlet ((v2 + ((v2.toUInt32 >>> ((4 : Int32).toUInt32 &&& Int32.toUInt32 31)).toInt32)) &&& (252645135 : Int32)) (fun v3 => zlet (v3 + ((v3.toUInt32 >>> ((8 : Int32).toUInt32 &&& Int32.toUInt32 31)).toInt32)) (fun v4 => zlet (v4 + ((v4.toUInt32 >>> ((16 : Int32).toUInt32 &&& Int32.toUInt32 31)).toInt32)) (fun v5 => some ((v5 &&& (63 : Int32)), S))))))
set_option maxRecDepth 20000 in
set_option maxHeartbeats 4000000 in
theorem w_J6_bitCount_0f7a4_x_e {F : Nat} {q : (Int32 × Zs)} {S : Zs}  {x0 : Int32} {ls : Array Slot} {H : Heap} {locs : List Loc} (C : zC p s m args meth c cJ6_bitCount_0f7a4 1 RJ6 (some .int))  (h : n_J6_bitCount_0f7a4_x_e F  S x0 = some q) (hW : zW (xG D cs ad) s S H locs) (hl : lv_has ls 1 [(0, .int x0)]) : W p l e (zR 0 0) s m args below meth c H locs 0 0 (zQi (xG D cs ad) q below args s) (F0 m 0 ls []) := by
  unfold n_J6_bitCount_0f7a4_x_e at h
  obtain ⟨hx, hb, hml, hown, hts, hret, hlk⟩ := id C
  refine lv_iload_n hx hb dJ6_bitCount_0f7a4_0 rfl (lv_at hl 0 rfl) ?_
  refine lv_iload_n hx hb dJ6_bitCount_0f7a4_1 rfl (lv_at hl 0 rfl) ?_
  refine lv_iconst (v := 1) hx hb dJ6_bitCount_0f7a4_2 (by decide) ?_
  refine lv_iushr hx hb dJ6_bitCount_0f7a4_3 rfl ?_
  refine lv_ldcw (v := 1431655765) hx hb hown (hts _ ct_J6_265) dJ6_bitCount_0f7a4_4 ?_
  refine lv_iand hx hb dJ6_bitCount_0f7a4_7 ?_
  refine lv_isub hx hb dJ6_bitCount_0f7a4_8 ?_
  refine zz_leti h (fun v1 h => ?_)
  refine lv_istore_n (lv' := [(0, .int v1)]) hx hb dJ6_bitCount_0f7a4_9 rfl hl (by decide) rfl (fun ls hl => ?_)
  refine lv_iload_n hx hb dJ6_bitCount_0f7a4_10 rfl (lv_at hl 0 rfl) ?_
  refine lv_ldcw (v := 858993459) hx hb hown (hts _ ct_J6_266) dJ6_bitCount_0f7a4_11 ?_
  refine lv_iand hx hb dJ6_bitCount_0f7a4_14 ?_
  refine lv_iload_n hx hb dJ6_bitCount_0f7a4_15 rfl (lv_at hl 0 rfl) ?_
  refine lv_iconst (v := 2) hx hb dJ6_bitCount_0f7a4_16 (by decide) ?_
  refine lv_iushr hx hb dJ6_bitCount_0f7a4_17 rfl ?_
  refine lv_ldcw (v := 858993459) hx hb hown (hts _ ct_J6_266) dJ6_bitCount_0f7a4_18 ?_
  refine lv_iand hx hb dJ6_bitCount_0f7a4_21 ?_
  refine lv_iadd hx hb dJ6_bitCount_0f7a4_22 ?_
  refine zz_leti h (fun v2 h => ?_)
  refine lv_istore_n (lv' := [(0, .int v2)]) hx hb dJ6_bitCount_0f7a4_23 rfl hl (by decide) rfl (fun ls hl => ?_)
  refine lv_iload_n hx hb dJ6_bitCount_0f7a4_24 rfl (lv_at hl 0 rfl) ?_
  refine lv_iload_n hx hb dJ6_bitCount_0f7a4_25 rfl (lv_at hl 0 rfl) ?_
  refine lv_iconst (v := 4) hx hb dJ6_bitCount_0f7a4_26 (by decide) ?_
  refine lv_iushr hx hb dJ6_bitCount_0f7a4_27 rfl ?_
  refine lv_iadd hx hb dJ6_bitCount_0f7a4_28 ?_
  refine lv_ldcw (v := 252645135) hx hb hown (hts _ ct_J6_267) dJ6_bitCount_0f7a4_29 ?_
  refine lv_iand hx hb dJ6_bitCount_0f7a4_32 ?_
  refine zz_leti h (fun v3 h => ?_)
  refine lv_istore_n (lv' := [(0, .int v3)]) hx hb dJ6_bitCount_0f7a4_33 rfl hl (by decide) rfl (fun ls hl => ?_)
  refine lv_iload_n hx hb dJ6_bitCount_0f7a4_34 rfl (lv_at hl 0 rfl) ?_
  refine lv_iload_n hx hb dJ6_bitCount_0f7a4_35 rfl (lv_at hl 0 rfl) ?_
  refine lv_bipush (v := 8) hx hb dJ6_bitCount_0f7a4_36 (by decide) ?_
  refine lv_iushr hx hb dJ6_bitCount_0f7a4_38 rfl ?_
  refine lv_iadd hx hb dJ6_bitCount_0f7a4_39 ?_
  refine zz_leti h (fun v4 h => ?_)
  refine lv_istore_n (lv' := [(0, .int v4)]) hx hb dJ6_bitCount_0f7a4_40 rfl hl (by decide) rfl (fun ls hl => ?_)
  refine lv_iload_n hx hb dJ6_bitCount_0f7a4_41 rfl (lv_at hl 0 rfl) ?_
  refine lv_iload_n hx hb dJ6_bitCount_0f7a4_42 rfl (lv_at hl 0 rfl) ?_
  refine lv_bipush (v := 16) hx hb dJ6_bitCount_0f7a4_43 (by decide) ?_
  refine lv_iushr hx hb dJ6_bitCount_0f7a4_45 rfl ?_
  refine lv_iadd hx hb dJ6_bitCount_0f7a4_46 ?_
  refine zz_leti h (fun v5 h => ?_)
  refine lv_istore_n (lv' := [(0, .int v5)]) hx hb dJ6_bitCount_0f7a4_47 rfl hl (by decide) rfl (fun ls hl => ?_)
  refine lv_iload_n hx hb dJ6_bitCount_0f7a4_48 rfl (lv_at hl 0 rfl) ?_
  refine lv_bipush (v := 63) hx hb dJ6_bitCount_0f7a4_49 (by decide) ?_
  refine lv_iand hx hb dJ6_bitCount_0f7a4_51 ?_
  exact zz_iret C rfl h hW dJ6_bitCount_0f7a4_52
def n_J6_bitCount_0f7a4_x (F : Nat) (S : Zs) (x0 : Int32) : Option (Int32 × Zs) := n_J6_bitCount_0f7a4_x_e F  S x0
theorem c_J6_bitCount_0f7a4_x {l : Launch} {D : va_G} {cs ad : Nat → Nat} {F : Nat} {S : Zs} {x0 : Int32} {q : (Int32 × Zs)} (h : n_J6_bitCount_0f7a4_x F S x0 = some q) : zMi l yJ6_bitCount_0f7a4 cJ6_bitCount_0f7a4 1 (some .int) (zR 0 0) (xG D cs ad) [.int x0] S q :=
  zz_enter (by decide) (Nat.le_of_ble_eq_true rfl) (fun p e s m below meth c ls C hW hl => w_J6_bitCount_0f7a4_x_e (F := F) C h hW (lv_sub hl [0] rfl))
def n_X11_sheet_0_b15 (F : Nat)  (S : Zs)  : Option (Int32 × Zs) :=
  some ((-1 : Int32), S)
set_option maxRecDepth 20000 in
set_option maxHeartbeats 4000000 in
theorem w_X11_sheet_0_b15 {F : Nat} {q : (Int32 × Zs)} {S : Zs}   {ls : Array Slot} {H : Heap} {locs : List Loc} (C : zC p s m args meth c cX11_sheet 5 RX11 (some .int))  (h : n_X11_sheet_0_b15 F  S  = some q) (hW : zW (xG D cs ad) s S H locs) (hl : lv_has ls 5 []) : W p l e (zR 1 27) s m args below meth c H locs 0 0 (zQi (xG D cs ad) q below args s) (F0 m 15 ls []) := by
  unfold n_X11_sheet_0_b15 at h
  obtain ⟨hx, hb, hml, hown, hts, hret, hlk⟩ := id C
  refine lv_iconst (v := -1) hx hb dX11_sheet_15 (by decide) ?_
  exact zz_iret C rfl h hW dX11_sheet_16
def n_X11_sheet_0_e (F : Nat)  (S : Zs) (x1 : Int32) (x2 : Int32) (x3 : Int32) (x4 : Int32) : Option (Int32 × Zs) :=
  if x1 < 0 then (n_X11_sheet_0_b15 F  S ) else (if (3 : Int32) < x1 then (n_X11_sheet_0_b15 F  S ) else (if x2 ≤ (12 : Int32) then (if x1 = (3 : Int32) then (zpf S 65 (0 : Int32) (fun S7 => some ((-3 : Int32), S7))) else (if 0 ≤ x2 then (zcl (n_X0_positiveEntries F S x1 x2 x3 x4) (fun v2 S1 => zpf S1 65 v2 (fun S3 => zgf S3 65 (fun v4 => zcl (n_J6_bitCount_0f7a4_x F S3 v4) (fun v6 S5 => some (v6, S5)))))) else (some ((-2 : Int32), S)))) else (n_X11_sheet_0_b15 F  S )))
set_option maxRecDepth 20000 in
set_option maxHeartbeats 4000000 in
theorem w_X11_sheet_0_e {F : Nat} {q : (Int32 × Zs)} {S : Zs}  {x1 : Int32} {x2 : Int32} {x3 : Int32} {x4 : Int32} {ls : Array Slot} {H : Heap} {locs : List Loc} (C : zC p s m args meth c cX11_sheet 5 RX11 (some .int))  (h : n_X11_sheet_0_e F  S x1 x2 x3 x4 = some q) (hW : zW (xG D cs ad) s S H locs) (hl : lv_has ls 5 [(0, .ref (ad 0)), (1, .int x1), (2, .int x2), (3, .int x3), (4, .int x4)]) : W p l e (zR 1 27) s m args below meth c H locs 0 0 (zQi (xG D cs ad) q below args s) (F0 m 0 ls []) := by
  unfold n_X11_sheet_0_e at h
  obtain ⟨hx, hb, hml, hown, hts, hret, hlk⟩ := id C
  refine lv_iload_n hx hb dX11_sheet_0 rfl (lv_at hl 1 rfl) ?_
  refine zz_ilt (tgt := 15) C h dX11_sheet_1 (by decide) (fun h => ?_) (fun h => ?_)
  · exact w_X11_sheet_0_b15 (F := F) C h hW (lv_sub hl [] rfl)
  · refine lv_iload_n hx hb dX11_sheet_4 rfl (lv_at hl 1 rfl) ?_
    refine lv_iconst (v := 3) hx hb dX11_sheet_5 (by decide) ?_
    refine zz_cgt (tgt := 15) C h dX11_sheet_6 (by decide) (fun h => ?_) (fun h => ?_)
    · exact w_X11_sheet_0_b15 (F := F) C h hW (lv_sub hl [] rfl)
    · refine lv_iload_n hx hb dX11_sheet_9 rfl (lv_at hl 2 rfl) ?_
      refine lv_bipush (v := 12) hx hb dX11_sheet_10 (by decide) ?_
      refine zz_cle (tgt := 17) C h dX11_sheet_12 (by decide) (fun h => ?_) (fun h => ?_)
      · refine lv_iload_n hx hb dX11_sheet_17 rfl (lv_at hl 1 rfl) ?_
        refine lv_iconst (v := 3) hx hb dX11_sheet_18 (by decide) ?_
        refine zz_cne (tgt := 33) C h dX11_sheet_19 (by decide) (fun h => ?_) (fun h => ?_)
        · refine lv_iload_n hx hb dX11_sheet_33 rfl (lv_at hl 2 rfl) ?_
          refine zz_ige (tgt := 40) C h dX11_sheet_34 (by decide) (fun h => ?_) (fun h => ?_)
          · refine lv_aload_n hx hb dX11_sheet_40 rfl (lv_at hl 0 rfl) ?_
            refine xg_0_1 C hW fl_X11_27 dX11_sheet_41 ?_
            refine lv_iload_n hx hb dX11_sheet_44 rfl (lv_at hl 1 rfl) ?_
            refine lv_iload_n hx hb dX11_sheet_45 rfl (lv_at hl 2 rfl) ?_
            refine lv_iload_n hx hb dX11_sheet_46 rfl (lv_at hl 3 rfl) ?_
            refine lv_iload hx hb dX11_sheet_47 (lv_at hl 4 rfl) ?_
            refine zz_callSi (As := [.int x1, .int x2, .int x3, .int x4]) C hW h (fun r hr => c_X0_positiveEntries hr) lk_X11_135 rfl hl.1 ⟨rfl, rfl⟩ ⟨Nat.le_of_ble_eq_true rfl, Nat.le_of_ble_eq_true rfl⟩ (Nat.le_of_ble_eq_true rfl) ⟨Nat.zero_le _, Nat.zero_le _⟩ rfl dX11_sheet_49 (fun v2 S1 H locs h hW => ?_)
            refine xp_3_5 C hW h fl_X11_123 dX11_sheet_52 (fun S3 H locs h hW => ?_)
            refine lv_aload_n hx hb dX11_sheet_55 rfl (lv_at hl 0 rfl) ?_
            refine xg_0_1 C hW fl_X11_27 dX11_sheet_56 ?_
            refine xg_3_5 C hW h fl_X11_123 dX11_sheet_59 (fun v4 h => ?_)
            refine zz_callSi (As := [.int v4]) C hW h (fun r hr => c_J6_bitCount_0f7a4_x hr) lk_X11_139 rfl hl.1 ⟨rfl, rfl⟩ ⟨Nat.le_of_ble_eq_true rfl, Nat.le_of_ble_eq_true rfl⟩ (Nat.le_of_ble_eq_true rfl) ⟨Nat.zero_le _, Nat.zero_le _⟩ rfl dX11_sheet_62 (fun v6 S5 H locs h hW => ?_)
            exact zz_iret C rfl h hW dX11_sheet_65
          · refine lv_bipush (v := -2) hx hb dX11_sheet_37 (by decide) ?_
            exact zz_iret C rfl h hW dX11_sheet_39
        · refine lv_aload_n hx hb dX11_sheet_22 rfl (lv_at hl 0 rfl) ?_
          refine xg_0_1 C hW fl_X11_27 dX11_sheet_23 ?_
          refine lv_iconst (v := 0) hx hb dX11_sheet_26 (by decide) ?_
          refine xp_3_5 C hW h fl_X11_123 dX11_sheet_27 (fun S7 H locs h hW => ?_)
          refine lv_bipush (v := -3) hx hb dX11_sheet_30 (by decide) ?_
          exact zz_iret C rfl h hW dX11_sheet_32
      · exact w_X11_sheet_0_b15 (F := F) C h hW (lv_sub hl [] rfl)
def n_X11_sheet_0 (F : Nat) (S : Zs) (x1 : Int32) (x2 : Int32) (x3 : Int32) (x4 : Int32) : Option (Int32 × Zs) := n_X11_sheet_0_e F  S x1 x2 x3 x4
theorem c_X11_sheet_0 {l : Launch} {D : va_G} {cs ad : Nat → Nat} {F : Nat} {S : Zs} {x1 : Int32} {x2 : Int32} {x3 : Int32} {x4 : Int32} {q : (Int32 × Zs)} (h : n_X11_sheet_0 F S x1 x2 x3 x4 = some q) : zMi l yX11_sheet cX11_sheet 5 (some .int) (zR 1 27) (xG D cs ad) [.ref (ad 0), .int x1, .int x2, .int x3, .int x4] S q :=
  zz_enter (by decide) (Nat.le_of_ble_eq_true rfl) (fun p e s m below meth c ls C hW hl => w_X11_sheet_0_e (F := F) C h hW (lv_sub hl [0, 1, 2, 3, 4] rfl))
def n_X2_everything_3_e (F : Nat)  (S : Zs)  : Option (Int32 × Zs) :=
  zgf S 62 (fun v1 => some ((((1 : Int32) <<< (v1 &&& 31)) - (1 : Int32)), S))
set_option maxRecDepth 20000 in
set_option maxHeartbeats 4000000 in
theorem w_X2_everything_3_e {F : Nat} {q : (Int32 × Zs)} {S : Zs}   {ls : Array Slot} {H : Heap} {locs : List Loc} (C : zC p s m args meth c cX2_everything 1 RX2 (some .int))  (h : n_X2_everything_3_e F  S  = some q) (hW : zW (xG D cs ad) s S H locs) (hl : lv_has ls 1 [(0, .ref (ad 3))]) : W p l e (zR 0 0) s m args below meth c H locs 0 0 (zQi (xG D cs ad) q below args s) (F0 m 0 ls []) := by
  unfold n_X2_everything_3_e at h
  obtain ⟨hx, hb, hml, hown, hts, hret, hlk⟩ := id C
  refine lv_iconst (v := 1) hx hb dX2_everything_0 (by decide) ?_
  refine lv_aload_n hx hb dX2_everything_1 rfl (lv_at hl 0 rfl) ?_
  refine xg_3_2 C hW h fl_X2_50 dX2_everything_2 (fun v1 h => ?_)
  refine lv_ishl hx hb dX2_everything_5 ?_
  refine lv_iconst (v := 1) hx hb dX2_everything_6 (by decide) ?_
  refine lv_isub hx hb dX2_everything_7 ?_
  exact zz_iret C rfl h hW dX2_everything_8
def n_X2_everything_3 (F : Nat) (S : Zs)  : Option (Int32 × Zs) := n_X2_everything_3_e F  S 
theorem c_X2_everything_3 {l : Launch} {D : va_G} {cs ad : Nat → Nat} {F : Nat} {S : Zs}  {q : (Int32 × Zs)} (h : n_X2_everything_3 F S  = some q) : zMi l yX2_everything cX2_everything 1 (some .int) (zR 0 0) (xG D cs ad) [.ref (ad 3)] S q :=
  zz_enter (by decide) (Nat.le_of_ble_eq_true rfl) (fun p e s m below meth c ls C hW hl => w_X2_everything_3_e (F := F) C h hW (lv_sub hl [0] rfl))
def n_X2_active_3_e (F : Nat)  (S : Zs)  : Option (Int32 × Zs) :=
  zcl (n_X2_everything_3 F S ) (fun v2 S1 => zgf S1 64 (fun v3 => some ((v2 &&& (v3 ^^^ (-1 : Int32))), S1)))
set_option maxRecDepth 20000 in
set_option maxHeartbeats 4000000 in
theorem w_X2_active_3_e {F : Nat} {q : (Int32 × Zs)} {S : Zs}   {ls : Array Slot} {H : Heap} {locs : List Loc} (C : zC p s m args meth c cX2_active 1 RX2 (some .int))  (h : n_X2_active_3_e F  S  = some q) (hW : zW (xG D cs ad) s S H locs) (hl : lv_has ls 1 [(0, .ref (ad 3))]) : W p l e (zR 1 20) s m args below meth c H locs 0 0 (zQi (xG D cs ad) q below args s) (F0 m 0 ls []) := by
  unfold n_X2_active_3_e at h
  obtain ⟨hx, hb, hml, hown, hts, hret, hlk⟩ := id C
  refine lv_aload_n hx hb dX2_active_0 rfl (lv_at hl 0 rfl) ?_
  refine zz_callVi (As := []) C hW h (fun r hr => c_X2_everything_3 hr) lk_X2_84 (hW.recv xr_3) rfl hl.1 ⟨rfl, rfl⟩ ⟨Nat.le_of_ble_eq_true rfl, Nat.le_of_ble_eq_true rfl⟩ (Nat.le_of_ble_eq_true rfl) ⟨Nat.zero_le _, Nat.zero_le _⟩ rfl dX2_active_1 (fun v2 S1 H locs h hW => ?_)
  refine lv_aload_n hx hb dX2_active_4 rfl (lv_at hl 0 rfl) ?_
  refine xg_3_4 C hW h fl_X2_81 dX2_active_5 (fun v3 h => ?_)
  refine lv_iconst (v := -1) hx hb dX2_active_8 (by decide) ?_
  refine lv_ixor hx hb dX2_active_9 ?_
  refine lv_iand hx hb dX2_active_10 ?_
  exact zz_iret C rfl h hW dX2_active_11
def n_X2_active_3 (F : Nat) (S : Zs)  : Option (Int32 × Zs) := n_X2_active_3_e F  S 
theorem c_X2_active_3 {l : Launch} {D : va_G} {cs ad : Nat → Nat} {F : Nat} {S : Zs}  {q : (Int32 × Zs)} (h : n_X2_active_3 F S  = some q) : zMi l yX2_active cX2_active 1 (some .int) (zR 1 20) (xG D cs ad) [.ref (ad 3)] S q :=
  zz_enter (by decide) (Nat.le_of_ble_eq_true rfl) (fun p e s m below meth c ls C hW hl => w_X2_active_3_e (F := F) C h hW (lv_sub hl [0] rfl))
def n_X9_clear_14_b2_l (F : Nat) (rc2 : Zs → Int32 → Option (Int32 × Zs)) (S : Zs) (x1 : Int32) : Option (Int32 × Zs) :=
  if (24 : Int32) ≤ x1 then (zpf S 283 (0 : Int32) (fun S1 => zpb S1 284 (0 : Int32) (fun S2 => some (0, S2)))) else (zst S 15 24 x1 ((1 : Int32) <<< (x1 &&& 31)) (fun S3 => zlet (x1 + (1 : Int32)) (fun v4 => rc2 S3 v4)))
set_option maxRecDepth 20000 in
set_option maxHeartbeats 4000000 in
theorem w_X9_clear_14_b2_l {F : Nat} {q : (Int32 × Zs)} {S : Zs} {rc2 : Zs → Int32 → Option (Int32 × Zs)} {x1 : Int32} {ls : Array Slot} {H : Heap} {locs : List Loc} (C : zC p s m args meth c cX9_clear 2 RX9 none) (hrc2 : ∀ (S : Zs) (x1 : Int32) (H : Heap) (locs : List Loc) (ls : Array Slot), rc2 S x1 = some q → zW (xG D cs ad) s S H locs → lv_has ls 2 [(0, .ref (ad 14)), (1, .int x1)] → W p l e (zR 0 0) s m args below meth c H locs 0 0 (zQv (xG D cs ad) q below args s) (F0 m 2 ls [])) (h : n_X9_clear_14_b2_l F rc2 S x1 = some q) (hW : zW (xG D cs ad) s S H locs) (hl : lv_has ls 2 [(0, .ref (ad 14)), (1, .int x1)]) : W p l e (zR 0 0) s m args below meth c H locs 0 0 (zQv (xG D cs ad) q below args s) (F0 m 2 ls []) := by
  unfold n_X9_clear_14_b2_l at h
  obtain ⟨hx, hb, hml, hown, hts, hret, hlk⟩ := id C
  refine lv_iload_n hx hb dX9_clear_2 rfl (lv_at hl 1 rfl) ?_
  refine lv_bipush (v := 24) hx hb dX9_clear_3 (by decide) ?_
  refine zz_cge (tgt := 23) C h dX9_clear_5 (by decide) (fun h => ?_) (fun h => ?_)
  · refine lv_aload_n hx hb dX9_clear_23 rfl (lv_at hl 0 rfl) ?_
    refine lv_iconst (v := 0) hx hb dX9_clear_24 (by decide) ?_
    refine xp_14_3 C hW h fl_X9_21 dX9_clear_25 (fun S1 H locs h hW => ?_)
    refine lv_aload_n hx hb dX9_clear_28 rfl (lv_at hl 0 rfl) ?_
    refine lv_iconst (v := 0) hx hb dX9_clear_29 (by decide) ?_
    refine xp_14_4 C hW h fl_X9_25 dX9_clear_30 (fun S2 H locs h hW => ?_)
    exact zz_vret C rfl h hW dX9_clear_33
  · refine lv_aload_n hx hb dX9_clear_8 rfl (lv_at hl 0 rfl) ?_
    refine xg_14_0 C hW fl_X9_9 dX9_clear_9 ?_
    refine lv_iload_n hx hb dX9_clear_12 rfl (lv_at hl 1 rfl) ?_
    refine lv_iconst (v := 1) hx hb dX9_clear_13 (by decide) ?_
    refine lv_iload_n hx hb dX9_clear_14 rfl (lv_at hl 1 rfl) ?_
    refine lv_ishl hx hb dX9_clear_15 ?_
    refine xs_15 C hW h dX9_clear_16 (fun S3 H locs h hW => ?_)
    obtain ⟨v4, ev4, h⟩ := zz_name h
    refine lv_iinc (v := v4) (lv' := [(1, .int v4), (0, .ref (ad 14))]) hx hb dX9_clear_17 hl (k := 1) rfl ev4.symm (by decide) rfl (fun ls hl => ?_)
    refine lv_goto (tgt := 2) hx hb dX9_clear_20 (by decide) ?_
    exact hrc2 _ _ _ _ _ h hW (lv_sub hl [1, 0] rfl)
def n_X9_clear_14_b2 (F : Nat)  (S : Zs) (x1 : Int32) : Option (Int32 × Zs) :=
  zfix (fun (rc : (Zs × Int32) → Option (Int32 × Zs)) (u : (Zs × Int32)) => n_X9_clear_14_b2_l F  (fun S x1 => rc (S, x1)) u.1 u.2) F (S, x1)
theorem w_X9_clear_14_b2 {F : Nat} {q : (Int32 × Zs)}  (C : zC p s m args meth c cX9_clear 2 RX9 none)  : ∀ (n : Nat) (S : Zs) (x1 : Int32) (H : Heap) (locs : List Loc) (ls : Array Slot), zfix (fun (rc : (Zs × Int32) → Option (Int32 × Zs)) (u : (Zs × Int32)) => n_X9_clear_14_b2_l F  (fun S x1 => rc (S, x1)) u.1 u.2) n (S, x1) = some q → zW (xG D cs ad) s S H locs → lv_has ls 2 [(0, .ref (ad 14)), (1, .int x1)] → W p l e (zR 0 0) s m args below meth c H locs 0 0 (zQv (xG D cs ad) q below args s) (F0 m 2 ls []) := by
  intro n
  induction n with
  | zero => intro S x1 H locs ls h; exact absurd h (fun h => by cases h)
  | succ n ih => intro S x1 H locs ls h hW hl; exact w_X9_clear_14_b2_l (F := F) C (fun S x1 H locs ls h hW hl => ih S x1 H locs ls h hW hl) h hW hl
def n_X9_clear_14_e (F : Nat)  (S : Zs)  : Option (Int32 × Zs) :=
  n_X9_clear_14_b2 F  S (0 : Int32)
set_option maxRecDepth 20000 in
set_option maxHeartbeats 4000000 in
theorem w_X9_clear_14_e {F : Nat} {q : (Int32 × Zs)} {S : Zs}   {ls : Array Slot} {H : Heap} {locs : List Loc} (C : zC p s m args meth c cX9_clear 2 RX9 none)  (h : n_X9_clear_14_e F  S  = some q) (hW : zW (xG D cs ad) s S H locs) (hl : lv_has ls 2 [(0, .ref (ad 14))]) : W p l e (zR 0 0) s m args below meth c H locs 0 0 (zQv (xG D cs ad) q below args s) (F0 m 0 ls []) := by
  unfold n_X9_clear_14_e at h
  obtain ⟨hx, hb, hml, hown, hts, hret, hlk⟩ := id C
  refine lv_iconst (v := 0) hx hb dX9_clear_0 (by decide) ?_
  refine lv_istore_n (lv' := [(1, .int (0 : Int32)), (0, .ref (ad 14))]) hx hb dX9_clear_1 rfl hl (by decide) rfl (fun ls hl => ?_)
  exact w_X9_clear_14_b2 (F := F) C F _ _ _ _ _ h hW (lv_sub hl [1, 0] rfl)
def n_X9_clear_14 (F : Nat) (S : Zs)  : Option (Int32 × Zs) := n_X9_clear_14_e F  S 
theorem c_X9_clear_14 {l : Launch} {D : va_G} {cs ad : Nat → Nat} {F : Nat} {S : Zs}  {q : (Int32 × Zs)} (h : n_X9_clear_14 F S  = some q) : zMv l yX9_clear cX9_clear 2 none (zR 0 0) (xG D cs ad) [.ref (ad 14)] S q :=
  zz_enter (by decide) (Nat.le_of_ble_eq_true rfl) (fun p e s m below meth c ls C hW hl => w_X9_clear_14_e (F := F) C h hW (lv_sub hl [0] rfl))
def n_X9_addLiving_14_b59 (F : Nat) (rc2 : Zs → Int32 → Int32 → Option (Int32 × Zs)) (S : Zs) (x1 : Int32) (x2 : Int32) : Option (Int32 × Zs) :=
  zlet (x2 + (1 : Int32)) (fun v1 => rc2 S x1 v1)
set_option maxRecDepth 20000 in
set_option maxHeartbeats 4000000 in
theorem w_X9_addLiving_14_b59 {F : Nat} {q : (Int32 × Zs)} {S : Zs} {rc2 : Zs → Int32 → Int32 → Option (Int32 × Zs)} {x1 : Int32} {x2 : Int32} {ls : Array Slot} {H : Heap} {locs : List Loc} (C : zC p s m args meth c cX9_addLiving 3 RX9 none) (hrc2 : ∀ (S : Zs) (x1 : Int32) (x2 : Int32) (H : Heap) (locs : List Loc) (ls : Array Slot), rc2 S x1 x2 = some q → zW (xG D cs ad) s S H locs → lv_has ls 3 [(0, .ref (ad 14)), (1, .int x1), (2, .int x2)] → W p l e (zR 0 0) s m args below meth c H locs 0 0 (zQv (xG D cs ad) q below args s) (F0 m 2 ls [])) (h : n_X9_addLiving_14_b59 F rc2 S x1 x2 = some q) (hW : zW (xG D cs ad) s S H locs) (hl : lv_has ls 3 [(0, .ref (ad 14)), (1, .int x1), (2, .int x2)]) : W p l e (zR 0 0) s m args below meth c H locs 0 0 (zQv (xG D cs ad) q below args s) (F0 m 59 ls []) := by
  unfold n_X9_addLiving_14_b59 at h
  obtain ⟨hx, hb, hml, hown, hts, hret, hlk⟩ := id C
  obtain ⟨v1, ev1, h⟩ := zz_name h
  refine lv_iinc (v := v1) (lv' := [(2, .int v1), (0, .ref (ad 14)), (1, .int x1)]) hx hb dX9_addLiving_59 hl (k := 2) rfl ev1.symm (by decide) rfl (fun ls hl => ?_)
  refine lv_goto (tgt := 2) hx hb dX9_addLiving_62 (by decide) ?_
  exact hrc2 _ _ _ _ _ _ h hW (lv_sub hl [1, 2, 0] rfl)
def n_X9_addLiving_14_b2_l (F : Nat) (rc2 : Zs → Int32 → Int32 → Option (Int32 × Zs)) (S : Zs) (x1 : Int32) (x2 : Int32) : Option (Int32 × Zs) :=
  if (12 : Int32) ≤ x2 then (some (0, S)) else (if ((x1 >>> (x2 &&& 31)) &&& (1 : Int32)) = 0 then (n_X9_addLiving_14_b59 F rc2 S x1 x2) else (zgf S 283 (fun v1 => if (29 : Int32) ≤ v1 then (n_X9_addLiving_14_b59 F rc2 S x1 x2) else (zgf S 283 (fun v2 => zst S 16 29 v2 ((2 : Int32) * x2) (fun S3 => zgf S3 283 (fun v4 => zst S3 17 29 v4 ((2 : Int32) * x2) (fun S5 => zgf S5 283 (fun v6 => zpf S5 283 (v6 + (1 : Int32)) (fun S7 => n_X9_addLiving_14_b59 F rc2 S7 x1 x2))))))))))
set_option maxRecDepth 20000 in
set_option maxHeartbeats 4000000 in
theorem w_X9_addLiving_14_b2_l {F : Nat} {q : (Int32 × Zs)} {S : Zs} {rc2 : Zs → Int32 → Int32 → Option (Int32 × Zs)} {x1 : Int32} {x2 : Int32} {ls : Array Slot} {H : Heap} {locs : List Loc} (C : zC p s m args meth c cX9_addLiving 3 RX9 none) (hrc2 : ∀ (S : Zs) (x1 : Int32) (x2 : Int32) (H : Heap) (locs : List Loc) (ls : Array Slot), rc2 S x1 x2 = some q → zW (xG D cs ad) s S H locs → lv_has ls 3 [(0, .ref (ad 14)), (1, .int x1), (2, .int x2)] → W p l e (zR 0 0) s m args below meth c H locs 0 0 (zQv (xG D cs ad) q below args s) (F0 m 2 ls [])) (h : n_X9_addLiving_14_b2_l F rc2 S x1 x2 = some q) (hW : zW (xG D cs ad) s S H locs) (hl : lv_has ls 3 [(0, .ref (ad 14)), (1, .int x1), (2, .int x2)]) : W p l e (zR 0 0) s m args below meth c H locs 0 0 (zQv (xG D cs ad) q below args s) (F0 m 2 ls []) := by
  unfold n_X9_addLiving_14_b2_l at h
  obtain ⟨hx, hb, hml, hown, hts, hret, hlk⟩ := id C
  refine lv_iload_n hx hb dX9_addLiving_2 rfl (lv_at hl 2 rfl) ?_
  refine lv_bipush (v := 12) hx hb dX9_addLiving_3 (by decide) ?_
  refine zz_cge (tgt := 65) C h dX9_addLiving_5 (by decide) (fun h => ?_) (fun h => ?_)
  · exact zz_vret C rfl h hW dX9_addLiving_65
  · refine lv_iload_n hx hb dX9_addLiving_8 rfl (lv_at hl 1 rfl) ?_
    refine lv_iload_n hx hb dX9_addLiving_9 rfl (lv_at hl 2 rfl) ?_
    refine lv_ishr hx hb dX9_addLiving_10 ?_
    refine lv_iconst (v := 1) hx hb dX9_addLiving_11 (by decide) ?_
    refine lv_iand hx hb dX9_addLiving_12 ?_
    refine zz_ieq (tgt := 59) C h dX9_addLiving_13 (by decide) (fun h => ?_) (fun h => ?_)
    · exact w_X9_addLiving_14_b59 (F := F) C hrc2 h hW (lv_sub hl [0, 1, 2] rfl)
    · refine lv_aload_n hx hb dX9_addLiving_16 rfl (lv_at hl 0 rfl) ?_
      refine xg_14_3 C hW h fl_X9_21 dX9_addLiving_17 (fun v1 h => ?_)
      refine lv_bipush (v := 29) hx hb dX9_addLiving_20 (by decide) ?_
      refine zz_cge (tgt := 59) C h dX9_addLiving_22 (by decide) (fun h => ?_) (fun h => ?_)
      · exact w_X9_addLiving_14_b59 (F := F) C hrc2 h hW (lv_sub hl [0, 1, 2] rfl)
      · refine lv_aload_n hx hb dX9_addLiving_25 rfl (lv_at hl 0 rfl) ?_
        refine xg_14_1 C hW fl_X9_15 dX9_addLiving_26 ?_
        refine lv_aload_n hx hb dX9_addLiving_29 rfl (lv_at hl 0 rfl) ?_
        refine xg_14_3 C hW h fl_X9_21 dX9_addLiving_30 (fun v2 h => ?_)
        refine lv_iconst (v := 2) hx hb dX9_addLiving_33 (by decide) ?_
        refine lv_iload_n hx hb dX9_addLiving_34 rfl (lv_at hl 2 rfl) ?_
        refine lv_imul hx hb dX9_addLiving_35 ?_
        refine xs_16 C hW h dX9_addLiving_36 (fun S3 H locs h hW => ?_)
        refine lv_aload_n hx hb dX9_addLiving_37 rfl (lv_at hl 0 rfl) ?_
        refine xg_14_2 C hW fl_X9_18 dX9_addLiving_38 ?_
        refine lv_aload_n hx hb dX9_addLiving_41 rfl (lv_at hl 0 rfl) ?_
        refine xg_14_3 C hW h fl_X9_21 dX9_addLiving_42 (fun v4 h => ?_)
        refine lv_iconst (v := 2) hx hb dX9_addLiving_45 (by decide) ?_
        refine lv_iload_n hx hb dX9_addLiving_46 rfl (lv_at hl 2 rfl) ?_
        refine lv_imul hx hb dX9_addLiving_47 ?_
        refine xs_17 C hW h dX9_addLiving_48 (fun S5 H locs h hW => ?_)
        refine lv_aload_n hx hb dX9_addLiving_49 rfl (lv_at hl 0 rfl) ?_
        refine lv_dup hx hb dX9_addLiving_50 rfl ?_
        refine xg_14_3 C hW h fl_X9_21 dX9_addLiving_51 (fun v6 h => ?_)
        refine lv_iconst (v := 1) hx hb dX9_addLiving_54 (by decide) ?_
        refine lv_iadd hx hb dX9_addLiving_55 ?_
        refine xp_14_3 C hW h fl_X9_21 dX9_addLiving_56 (fun S7 H locs h hW => ?_)
        exact w_X9_addLiving_14_b59 (F := F) C hrc2 h hW (lv_sub hl [0, 1, 2] rfl)
def n_X9_addLiving_14_b2 (F : Nat)  (S : Zs) (x1 : Int32) (x2 : Int32) : Option (Int32 × Zs) :=
  zfix (fun (rc : (Zs × Int32 × Int32) → Option (Int32 × Zs)) (u : (Zs × Int32 × Int32)) => n_X9_addLiving_14_b2_l F  (fun S x1 x2 => rc (S, x1, x2)) u.1 u.2.1 u.2.2) F (S, x1, x2)
theorem w_X9_addLiving_14_b2 {F : Nat} {q : (Int32 × Zs)}  (C : zC p s m args meth c cX9_addLiving 3 RX9 none)  : ∀ (n : Nat) (S : Zs) (x1 : Int32) (x2 : Int32) (H : Heap) (locs : List Loc) (ls : Array Slot), zfix (fun (rc : (Zs × Int32 × Int32) → Option (Int32 × Zs)) (u : (Zs × Int32 × Int32)) => n_X9_addLiving_14_b2_l F  (fun S x1 x2 => rc (S, x1, x2)) u.1 u.2.1 u.2.2) n (S, x1, x2) = some q → zW (xG D cs ad) s S H locs → lv_has ls 3 [(0, .ref (ad 14)), (1, .int x1), (2, .int x2)] → W p l e (zR 0 0) s m args below meth c H locs 0 0 (zQv (xG D cs ad) q below args s) (F0 m 2 ls []) := by
  intro n
  induction n with
  | zero => intro S x1 x2 H locs ls h; exact absurd h (fun h => by cases h)
  | succ n ih => intro S x1 x2 H locs ls h hW hl; exact w_X9_addLiving_14_b2_l (F := F) C (fun S x1 x2 H locs ls h hW hl => ih S x1 x2 H locs ls h hW hl) h hW hl
def n_X9_addLiving_14_e (F : Nat)  (S : Zs) (x1 : Int32) : Option (Int32 × Zs) :=
  n_X9_addLiving_14_b2 F  S x1 (0 : Int32)
set_option maxRecDepth 20000 in
set_option maxHeartbeats 4000000 in
theorem w_X9_addLiving_14_e {F : Nat} {q : (Int32 × Zs)} {S : Zs}  {x1 : Int32} {ls : Array Slot} {H : Heap} {locs : List Loc} (C : zC p s m args meth c cX9_addLiving 3 RX9 none)  (h : n_X9_addLiving_14_e F  S x1 = some q) (hW : zW (xG D cs ad) s S H locs) (hl : lv_has ls 3 [(0, .ref (ad 14)), (1, .int x1)]) : W p l e (zR 0 0) s m args below meth c H locs 0 0 (zQv (xG D cs ad) q below args s) (F0 m 0 ls []) := by
  unfold n_X9_addLiving_14_e at h
  obtain ⟨hx, hb, hml, hown, hts, hret, hlk⟩ := id C
  refine lv_iconst (v := 0) hx hb dX9_addLiving_0 (by decide) ?_
  refine lv_istore_n (lv' := [(2, .int (0 : Int32)), (0, .ref (ad 14)), (1, .int x1)]) hx hb dX9_addLiving_1 rfl hl (by decide) rfl (fun ls hl => ?_)
  exact w_X9_addLiving_14_b2 (F := F) C F _ _ _ _ _ _ h hW (lv_sub hl [1, 2, 0] rfl)
def n_X9_addLiving_14 (F : Nat) (S : Zs) (x1 : Int32) : Option (Int32 × Zs) := n_X9_addLiving_14_e F  S x1
theorem c_X9_addLiving_14 {l : Launch} {D : va_G} {cs ad : Nat → Nat} {F : Nat} {S : Zs} {x1 : Int32} {q : (Int32 × Zs)} (h : n_X9_addLiving_14 F S x1 = some q) : zMv l yX9_addLiving cX9_addLiving 3 none (zR 0 0) (xG D cs ad) [.ref (ad 14), .int x1] S q :=
  zz_enter (by decide) (Nat.le_of_ble_eq_true rfl) (fun p e s m below meth c ls C hW hl => w_X9_addLiving_14_e (F := F) C h hW (lv_sub hl [0, 1] rfl))
def n_X0_isUniversal_b12 (F : Nat)  (S : Zs) (t0 : Int32) : Option (Int32 × Zs) :=
  zrb t0 S
set_option maxRecDepth 20000 in
set_option maxHeartbeats 4000000 in
theorem w_X0_isUniversal_b12 {F : Nat} {q : (Int32 × Zs)} {S : Zs}  {t0 : Int32} {ls : Array Slot} {H : Heap} {locs : List Loc} (C : zC p s m args meth c cX0_isUniversal 1 RX0 (some .boolean))  (h : n_X0_isUniversal_b12 F  S t0 = some q) (hW : zW (xG D cs ad) s S H locs) (hl : lv_has ls 1 []) : W p l e (zR 0 0) s m args below meth c H locs 0 0 (zQi (xG D cs ad) q below args s) (F0 m 12 ls [.int t0]) := by
  unfold n_X0_isUniversal_b12 at h
  obtain ⟨hx, hb, hml, hown, hts, hret, hlk⟩ := id C
  exact zz_zret C rfl h hW dX0_isUniversal_12
def n_X0_isUniversal_e (F : Nat)  (S : Zs) (x0 : Int32) : Option (Int32 × Zs) :=
  if (1152 : Int32) ≤ x0 then (n_X0_isUniversal_b12 F  S (0 : Int32)) else (n_X0_isUniversal_b12 F  S (1 : Int32))
set_option maxRecDepth 20000 in
set_option maxHeartbeats 4000000 in
theorem w_X0_isUniversal_e {F : Nat} {q : (Int32 × Zs)} {S : Zs}  {x0 : Int32} {ls : Array Slot} {H : Heap} {locs : List Loc} (C : zC p s m args meth c cX0_isUniversal 1 RX0 (some .boolean))  (h : n_X0_isUniversal_e F  S x0 = some q) (hW : zW (xG D cs ad) s S H locs) (hl : lv_has ls 1 [(0, .int x0)]) : W p l e (zR 0 0) s m args below meth c H locs 0 0 (zQi (xG D cs ad) q below args s) (F0 m 0 ls []) := by
  unfold n_X0_isUniversal_e at h
  obtain ⟨hx, hb, hml, hown, hts, hret, hlk⟩ := id C
  refine lv_iload_n hx hb dX0_isUniversal_0 rfl (lv_at hl 0 rfl) ?_
  refine lv_sipush (v := 1152) hx hb dX0_isUniversal_1 (by decide) ?_
  refine zz_cge (tgt := 11) C h dX0_isUniversal_4 (by decide) (fun h => ?_) (fun h => ?_)
  · refine lv_iconst (v := 0) hx hb dX0_isUniversal_11 (by decide) ?_
    exact w_X0_isUniversal_b12 (F := F) C h hW (lv_sub hl [] rfl)
  · refine lv_iconst (v := 1) hx hb dX0_isUniversal_7 (by decide) ?_
    refine lv_goto (tgt := 12) hx hb dX0_isUniversal_8 (by decide) ?_
    exact w_X0_isUniversal_b12 (F := F) C h hW (lv_sub hl [] rfl)
def n_X0_isUniversal (F : Nat) (S : Zs) (x0 : Int32) : Option (Int32 × Zs) := n_X0_isUniversal_e F  S x0
theorem c_X0_isUniversal {l : Launch} {D : va_G} {cs ad : Nat → Nat} {F : Nat} {S : Zs} {x0 : Int32} {q : (Int32 × Zs)} (h : n_X0_isUniversal F S x0 = some q) : zMi l yX0_isUniversal cX0_isUniversal 1 (some .boolean) (zR 0 0) (xG D cs ad) [.int x0] S q :=
  zz_enter (by decide) (Nat.le_of_ble_eq_true rfl) (fun p e s m below meth c ls C hW hl => w_X0_isUniversal_e (F := F) C h hW (lv_sub hl [0] rfl))
def n_X0_subject_e (F : Nat)  (S : Zs) (x0 : Int32) : Option (Int32 × Zs) :=
  some (((x0 / (24 : Int32)) - (x0 / (24 : Int32)) / (24 : Int32) * (24 : Int32)), S)
set_option maxRecDepth 20000 in
set_option maxHeartbeats 4000000 in
theorem w_X0_subject_e {F : Nat} {q : (Int32 × Zs)} {S : Zs}  {x0 : Int32} {ls : Array Slot} {H : Heap} {locs : List Loc} (C : zC p s m args meth c cX0_subject 1 RX0 (some .int))  (h : n_X0_subject_e F  S x0 = some q) (hW : zW (xG D cs ad) s S H locs) (hl : lv_has ls 1 [(0, .int x0)]) : W p l e (zR 0 0) s m args below meth c H locs 0 0 (zQi (xG D cs ad) q below args s) (F0 m 0 ls []) := by
  unfold n_X0_subject_e at h
  obtain ⟨hx, hb, hml, hown, hts, hret, hlk⟩ := id C
  refine lv_iload_n hx hb dX0_subject_0 rfl (lv_at hl 0 rfl) ?_
  refine lv_bipush (v := 24) hx hb dX0_subject_1 (by decide) ?_
  refine lv_idiv hx hb dX0_subject_3 (by decide) ?_
  refine lv_bipush (v := 24) hx hb dX0_subject_4 (by decide) ?_
  refine lv_irem hx hb dX0_subject_6 (by decide) ?_
  exact zz_iret C rfl h hW dX0_subject_7
def n_X0_subject (F : Nat) (S : Zs) (x0 : Int32) : Option (Int32 × Zs) := n_X0_subject_e F  S x0
theorem c_X0_subject {l : Launch} {D : va_G} {cs ad : Nat → Nat} {F : Nat} {S : Zs} {x0 : Int32} {q : (Int32 × Zs)} (h : n_X0_subject F S x0 = some q) : zMi l yX0_subject cX0_subject 1 (some .int) (zR 0 0) (xG D cs ad) [.int x0] S q :=
  zz_enter (by decide) (Nat.le_of_ble_eq_true rfl) (fun p e s m below meth c ls C hW hl => w_X0_subject_e (F := F) C h hW (lv_sub hl [0] rfl))
def n_X0_target_e (F : Nat)  (S : Zs) (x0 : Int32) : Option (Int32 × Zs) :=
  some (((x0 - x0 / (24 : Int32) * (24 : Int32)) ^^^ ((x0 / (576 : Int32)) &&& (1 : Int32))), S)
set_option maxRecDepth 20000 in
set_option maxHeartbeats 4000000 in
theorem w_X0_target_e {F : Nat} {q : (Int32 × Zs)} {S : Zs}  {x0 : Int32} {ls : Array Slot} {H : Heap} {locs : List Loc} (C : zC p s m args meth c cX0_target 1 RX0 (some .int))  (h : n_X0_target_e F  S x0 = some q) (hW : zW (xG D cs ad) s S H locs) (hl : lv_has ls 1 [(0, .int x0)]) : W p l e (zR 0 0) s m args below meth c H locs 0 0 (zQi (xG D cs ad) q below args s) (F0 m 0 ls []) := by
  unfold n_X0_target_e at h
  obtain ⟨hx, hb, hml, hown, hts, hret, hlk⟩ := id C
  refine lv_iload_n hx hb dX0_target_0 rfl (lv_at hl 0 rfl) ?_
  refine lv_bipush (v := 24) hx hb dX0_target_1 (by decide) ?_
  refine lv_irem hx hb dX0_target_3 (by decide) ?_
  refine lv_iload_n hx hb dX0_target_4 rfl (lv_at hl 0 rfl) ?_
  refine lv_sipush (v := 576) hx hb dX0_target_5 (by decide) ?_
  refine lv_idiv hx hb dX0_target_8 (by decide) ?_
  refine lv_iconst (v := 1) hx hb dX0_target_9 (by decide) ?_
  refine lv_iand hx hb dX0_target_10 ?_
  refine lv_ixor hx hb dX0_target_11 ?_
  exact zz_iret C rfl h hW dX0_target_12
def n_X0_target (F : Nat) (S : Zs) (x0 : Int32) : Option (Int32 × Zs) := n_X0_target_e F  S x0
theorem c_X0_target {l : Launch} {D : va_G} {cs ad : Nat → Nat} {F : Nat} {S : Zs} {x0 : Int32} {q : (Int32 × Zs)} (h : n_X0_target F S x0 = some q) : zMi l yX0_target cX0_target 1 (some .int) (zR 0 0) (xG D cs ad) [.int x0] S q :=
  zz_enter (by decide) (Nat.le_of_ble_eq_true rfl) (fun p e s m below meth c ls C hW hl => w_X0_target_e (F := F) C h hW (lv_sub hl [0] rfl))
def n_X9_require_14_b39 (F : Nat)  (S : Zs)  : Option (Int32 × Zs) :=
  some (0, S)
set_option maxRecDepth 20000 in
set_option maxHeartbeats 4000000 in
theorem w_X9_require_14_b39 {F : Nat} {q : (Int32 × Zs)} {S : Zs}   {ls : Array Slot} {H : Heap} {locs : List Loc} (C : zC p s m args meth c cX9_require 3 RX9 none)  (h : n_X9_require_14_b39 F  S  = some q) (hW : zW (xG D cs ad) s S H locs) (hl : lv_has ls 3 []) : W p l e (zR 0 0) s m args below meth c H locs 0 0 (zQv (xG D cs ad) q below args s) (F0 m 39 ls []) := by
  unfold n_X9_require_14_b39 at h
  obtain ⟨hx, hb, hml, hown, hts, hret, hlk⟩ := id C
  exact zz_vret C rfl h hW dX9_require_39
def n_X9_require_14_e (F : Nat)  (S : Zs) (x1 : Int32) (x2 : Int32) : Option (Int32 × Zs) :=
  zgf S 283 (fun v1 => if (29 : Int32) ≤ v1 then (n_X9_require_14_b39 F  S ) else (zgf S 283 (fun v2 => zst S 16 29 v2 x1 (fun S3 => zgf S3 283 (fun v4 => zst S3 17 29 v4 x2 (fun S5 => zgf S5 283 (fun v6 => zpf S5 283 (v6 + (1 : Int32)) (fun S7 => n_X9_require_14_b39 F  S7 ))))))))
set_option maxRecDepth 20000 in
set_option maxHeartbeats 4000000 in
theorem w_X9_require_14_e {F : Nat} {q : (Int32 × Zs)} {S : Zs}  {x1 : Int32} {x2 : Int32} {ls : Array Slot} {H : Heap} {locs : List Loc} (C : zC p s m args meth c cX9_require 3 RX9 none)  (h : n_X9_require_14_e F  S x1 x2 = some q) (hW : zW (xG D cs ad) s S H locs) (hl : lv_has ls 3 [(0, .ref (ad 14)), (1, .int x1), (2, .int x2)]) : W p l e (zR 0 0) s m args below meth c H locs 0 0 (zQv (xG D cs ad) q below args s) (F0 m 0 ls []) := by
  unfold n_X9_require_14_e at h
  obtain ⟨hx, hb, hml, hown, hts, hret, hlk⟩ := id C
  refine lv_aload_n hx hb dX9_require_0 rfl (lv_at hl 0 rfl) ?_
  refine xg_14_3 C hW h fl_X9_21 dX9_require_1 (fun v1 h => ?_)
  refine lv_bipush (v := 29) hx hb dX9_require_4 (by decide) ?_
  refine zz_cge (tgt := 39) C h dX9_require_6 (by decide) (fun h => ?_) (fun h => ?_)
  · exact w_X9_require_14_b39 (F := F) C h hW (lv_sub hl [] rfl)
  · refine lv_aload_n hx hb dX9_require_9 rfl (lv_at hl 0 rfl) ?_
    refine xg_14_1 C hW fl_X9_15 dX9_require_10 ?_
    refine lv_aload_n hx hb dX9_require_13 rfl (lv_at hl 0 rfl) ?_
    refine xg_14_3 C hW h fl_X9_21 dX9_require_14 (fun v2 h => ?_)
    refine lv_iload_n hx hb dX9_require_17 rfl (lv_at hl 1 rfl) ?_
    refine xs_16 C hW h dX9_require_18 (fun S3 H locs h hW => ?_)
    refine lv_aload_n hx hb dX9_require_19 rfl (lv_at hl 0 rfl) ?_
    refine xg_14_2 C hW fl_X9_18 dX9_require_20 ?_
    refine lv_aload_n hx hb dX9_require_23 rfl (lv_at hl 0 rfl) ?_
    refine xg_14_3 C hW h fl_X9_21 dX9_require_24 (fun v4 h => ?_)
    refine lv_iload_n hx hb dX9_require_27 rfl (lv_at hl 2 rfl) ?_
    refine xs_17 C hW h dX9_require_28 (fun S5 H locs h hW => ?_)
    refine lv_aload_n hx hb dX9_require_29 rfl (lv_at hl 0 rfl) ?_
    refine lv_dup hx hb dX9_require_30 rfl ?_
    refine xg_14_3 C hW h fl_X9_21 dX9_require_31 (fun v6 h => ?_)
    refine lv_iconst (v := 1) hx hb dX9_require_34 (by decide) ?_
    refine lv_iadd hx hb dX9_require_35 ?_
    refine xp_14_3 C hW h fl_X9_21 dX9_require_36 (fun S7 H locs h hW => ?_)
    exact w_X9_require_14_b39 (F := F) C h hW (lv_sub hl [] rfl)
def n_X9_require_14 (F : Nat) (S : Zs) (x1 : Int32) (x2 : Int32) : Option (Int32 × Zs) := n_X9_require_14_e F  S x1 x2
theorem c_X9_require_14 {l : Launch} {D : va_G} {cs ad : Nat → Nat} {F : Nat} {S : Zs} {x1 : Int32} {x2 : Int32} {q : (Int32 × Zs)} (h : n_X9_require_14 F S x1 x2 = some q) : zMv l yX9_require cX9_require 3 none (zR 0 0) (xG D cs ad) [.ref (ad 14), .int x1, .int x2] S q :=
  zz_enter (by decide) (Nat.le_of_ble_eq_true rfl) (fun p e s m below meth c ls C hW hl => w_X9_require_14_e (F := F) C h hW (lv_sub hl [0, 1, 2] rfl))
def n_X9_imply_14_b137 (F : Nat)  (S : Zs)  : Option (Int32 × Zs) :=
  some (0, S)
set_option maxRecDepth 20000 in
set_option maxHeartbeats 4000000 in
theorem w_X9_imply_14_b137 {F : Nat} {q : (Int32 × Zs)} {S : Zs}   {ls : Array Slot} {H : Heap} {locs : List Loc} (C : zC p s m args meth c cX9_imply 4 RX9 none)  (h : n_X9_imply_14_b137 F  S  = some q) (hW : zW (xG D cs ad) s S H locs) (hl : lv_has ls 4 []) : W p l e (zR 0 0) s m args below meth c H locs 0 0 (zQv (xG D cs ad) q below args s) (F0 m 137 ls []) := by
  unfold n_X9_imply_14_b137 at h
  obtain ⟨hx, hb, hml, hown, hts, hret, hlk⟩ := id C
  exact zz_vret C rfl h hW dX9_imply_137
def n_X9_imply_14_b96 (F : Nat) (rc58 : Zs → Int32 → Int32 → Int32 → Option (Int32 × Zs)) (S : Zs) (x1 : Int32) (x2 : Int32) (x3 : Int32) : Option (Int32 × Zs) :=
  zlet (x3 + (1 : Int32)) (fun v1 => rc58 S x1 x2 v1)
set_option maxRecDepth 20000 in
set_option maxHeartbeats 4000000 in
theorem w_X9_imply_14_b96 {F : Nat} {q : (Int32 × Zs)} {S : Zs} {rc58 : Zs → Int32 → Int32 → Int32 → Option (Int32 × Zs)} {x1 : Int32} {x2 : Int32} {x3 : Int32} {ls : Array Slot} {H : Heap} {locs : List Loc} (C : zC p s m args meth c cX9_imply 4 RX9 none) (hrc58 : ∀ (S : Zs) (x1 : Int32) (x2 : Int32) (x3 : Int32) (H : Heap) (locs : List Loc) (ls : Array Slot), rc58 S x1 x2 x3 = some q → zW (xG D cs ad) s S H locs → lv_has ls 4 [(0, .ref (ad 14)), (1, .int x1), (2, .int x2), (3, .int x3)] → W p l e (zR 0 0) s m args below meth c H locs 0 0 (zQv (xG D cs ad) q below args s) (F0 m 58 ls [])) (h : n_X9_imply_14_b96 F rc58 S x1 x2 x3 = some q) (hW : zW (xG D cs ad) s S H locs) (hl : lv_has ls 4 [(0, .ref (ad 14)), (1, .int x1), (2, .int x2), (3, .int x3)]) : W p l e (zR 0 0) s m args below meth c H locs 0 0 (zQv (xG D cs ad) q below args s) (F0 m 96 ls []) := by
  unfold n_X9_imply_14_b96 at h
  obtain ⟨hx, hb, hml, hown, hts, hret, hlk⟩ := id C
  obtain ⟨v1, ev1, h⟩ := zz_name h
  refine lv_iinc (v := v1) (lv' := [(3, .int v1), (0, .ref (ad 14)), (1, .int x1), (2, .int x2)]) hx hb dX9_imply_96 hl (k := 3) rfl ev1.symm (by decide) rfl (fun ls hl => ?_)
  refine lv_goto (tgt := 58) hx hb dX9_imply_99 (by decide) ?_
  exact hrc58 _ _ _ _ _ _ _ h hW (lv_sub hl [1, 2, 3, 0] rfl)
def n_X9_imply_14_b58_l (F : Nat) (rc58 : Zs → Int32 → Int32 → Int32 → Option (Int32 × Zs)) (S : Zs) (x1 : Int32) (x2 : Int32) (x3 : Int32) : Option (Int32 × Zs) :=
  if (24 : Int32) ≤ x3 then (zld S 15 24 x1 (fun v1 => if ((v1 >>> ((x1 ^^^ (1 : Int32)) &&& 31)) &&& (1 : Int32)) = 0 then (n_X9_imply_14_b137 F  S ) else (zld S 15 24 (x1 ^^^ (1 : Int32)) (fun v2 => if ((v2 >>> (x1 &&& 31)) &&& (1 : Int32)) = 0 then (n_X9_imply_14_b137 F  S ) else (zpb S 284 (1 : Int32) (fun S3 => n_X9_imply_14_b137 F  S3 )))))) else (zld S 15 24 x3 (fun v4 => if ((v4 >>> ((x2 ^^^ (1 : Int32)) &&& 31)) &&& (1 : Int32)) = 0 then (n_X9_imply_14_b96 F rc58 S x1 x2 x3) else (zld S 15 24 x3 (fun v5 => zld S 15 24 (x1 ^^^ (1 : Int32)) (fun v6 => zst S 15 24 x3 (v5 ||| v6) (fun S7 => n_X9_imply_14_b96 F rc58 S7 x1 x2 x3))))))
set_option maxRecDepth 20000 in
set_option maxHeartbeats 4000000 in
theorem w_X9_imply_14_b58_l {F : Nat} {q : (Int32 × Zs)} {S : Zs} {rc58 : Zs → Int32 → Int32 → Int32 → Option (Int32 × Zs)} {x1 : Int32} {x2 : Int32} {x3 : Int32} {ls : Array Slot} {H : Heap} {locs : List Loc} (C : zC p s m args meth c cX9_imply 4 RX9 none) (hrc58 : ∀ (S : Zs) (x1 : Int32) (x2 : Int32) (x3 : Int32) (H : Heap) (locs : List Loc) (ls : Array Slot), rc58 S x1 x2 x3 = some q → zW (xG D cs ad) s S H locs → lv_has ls 4 [(0, .ref (ad 14)), (1, .int x1), (2, .int x2), (3, .int x3)] → W p l e (zR 0 0) s m args below meth c H locs 0 0 (zQv (xG D cs ad) q below args s) (F0 m 58 ls [])) (h : n_X9_imply_14_b58_l F rc58 S x1 x2 x3 = some q) (hW : zW (xG D cs ad) s S H locs) (hl : lv_has ls 4 [(0, .ref (ad 14)), (1, .int x1), (2, .int x2), (3, .int x3)]) : W p l e (zR 0 0) s m args below meth c H locs 0 0 (zQv (xG D cs ad) q below args s) (F0 m 58 ls []) := by
  unfold n_X9_imply_14_b58_l at h
  obtain ⟨hx, hb, hml, hown, hts, hret, hlk⟩ := id C
  refine lv_iload_n hx hb dX9_imply_58 rfl (lv_at hl 3 rfl) ?_
  refine lv_bipush (v := 24) hx hb dX9_imply_59 (by decide) ?_
  refine zz_cge (tgt := 102) C h dX9_imply_61 (by decide) (fun h => ?_) (fun h => ?_)
  · refine lv_aload_n hx hb dX9_imply_102 rfl (lv_at hl 0 rfl) ?_
    refine xg_14_0 C hW fl_X9_9 dX9_imply_103 ?_
    refine lv_iload_n hx hb dX9_imply_106 rfl (lv_at hl 1 rfl) ?_
    refine xl_15 C hW h dX9_imply_107 (fun v1 h => ?_)
    refine lv_iload_n hx hb dX9_imply_108 rfl (lv_at hl 1 rfl) ?_
    refine lv_iconst (v := 1) hx hb dX9_imply_109 (by decide) ?_
    refine lv_ixor hx hb dX9_imply_110 ?_
    refine lv_ishr hx hb dX9_imply_111 ?_
    refine lv_iconst (v := 1) hx hb dX9_imply_112 (by decide) ?_
    refine lv_iand hx hb dX9_imply_113 ?_
    refine zz_ieq (tgt := 137) C h dX9_imply_114 (by decide) (fun h => ?_) (fun h => ?_)
    · exact w_X9_imply_14_b137 (F := F) C h hW (lv_sub hl [] rfl)
    · refine lv_aload_n hx hb dX9_imply_117 rfl (lv_at hl 0 rfl) ?_
      refine xg_14_0 C hW fl_X9_9 dX9_imply_118 ?_
      refine lv_iload_n hx hb dX9_imply_121 rfl (lv_at hl 1 rfl) ?_
      refine lv_iconst (v := 1) hx hb dX9_imply_122 (by decide) ?_
      refine lv_ixor hx hb dX9_imply_123 ?_
      refine xl_15 C hW h dX9_imply_124 (fun v2 h => ?_)
      refine lv_iload_n hx hb dX9_imply_125 rfl (lv_at hl 1 rfl) ?_
      refine lv_ishr hx hb dX9_imply_126 ?_
      refine lv_iconst (v := 1) hx hb dX9_imply_127 (by decide) ?_
      refine lv_iand hx hb dX9_imply_128 ?_
      refine zz_ieq (tgt := 137) C h dX9_imply_129 (by decide) (fun h => ?_) (fun h => ?_)
      · exact w_X9_imply_14_b137 (F := F) C h hW (lv_sub hl [] rfl)
      · refine lv_aload_n hx hb dX9_imply_132 rfl (lv_at hl 0 rfl) ?_
        refine lv_iconst (v := 1) hx hb dX9_imply_133 (by decide) ?_
        refine xp_14_4 C hW h fl_X9_25 dX9_imply_134 (fun S3 H locs h hW => ?_)
        exact w_X9_imply_14_b137 (F := F) C h hW (lv_sub hl [] rfl)
  · refine lv_aload_n hx hb dX9_imply_64 rfl (lv_at hl 0 rfl) ?_
    refine xg_14_0 C hW fl_X9_9 dX9_imply_65 ?_
    refine lv_iload_n hx hb dX9_imply_68 rfl (lv_at hl 3 rfl) ?_
    refine xl_15 C hW h dX9_imply_69 (fun v4 h => ?_)
    refine lv_iload_n hx hb dX9_imply_70 rfl (lv_at hl 2 rfl) ?_
    refine lv_iconst (v := 1) hx hb dX9_imply_71 (by decide) ?_
    refine lv_ixor hx hb dX9_imply_72 ?_
    refine lv_ishr hx hb dX9_imply_73 ?_
    refine lv_iconst (v := 1) hx hb dX9_imply_74 (by decide) ?_
    refine lv_iand hx hb dX9_imply_75 ?_
    refine zz_ieq (tgt := 96) C h dX9_imply_76 (by decide) (fun h => ?_) (fun h => ?_)
    · exact w_X9_imply_14_b96 (F := F) C hrc58 h hW (lv_sub hl [0, 1, 2, 3] rfl)
    · refine lv_aload_n hx hb dX9_imply_79 rfl (lv_at hl 0 rfl) ?_
      refine xg_14_0 C hW fl_X9_9 dX9_imply_80 ?_
      refine lv_iload_n hx hb dX9_imply_83 rfl (lv_at hl 3 rfl) ?_
      refine lv_dup2_11 hx hb dX9_imply_84 rfl rfl ?_
      refine xl_15 C hW h dX9_imply_85 (fun v5 h => ?_)
      refine lv_aload_n hx hb dX9_imply_86 rfl (lv_at hl 0 rfl) ?_
      refine xg_14_0 C hW fl_X9_9 dX9_imply_87 ?_
      refine lv_iload_n hx hb dX9_imply_90 rfl (lv_at hl 1 rfl) ?_
      refine lv_iconst (v := 1) hx hb dX9_imply_91 (by decide) ?_
      refine lv_ixor hx hb dX9_imply_92 ?_
      refine xl_15 C hW h dX9_imply_93 (fun v6 h => ?_)
      refine lv_ior hx hb dX9_imply_94 ?_
      refine xs_15 C hW h dX9_imply_95 (fun S7 H locs h hW => ?_)
      exact w_X9_imply_14_b96 (F := F) C hrc58 h hW (lv_sub hl [0, 1, 2, 3] rfl)
def n_X9_imply_14_b58 (F : Nat)  (S : Zs) (x1 : Int32) (x2 : Int32) (x3 : Int32) : Option (Int32 × Zs) :=
  zfix (fun (rc : (Zs × Int32 × Int32 × Int32) → Option (Int32 × Zs)) (u : (Zs × Int32 × Int32 × Int32)) => n_X9_imply_14_b58_l F  (fun S x1 x2 x3 => rc (S, x1, x2, x3)) u.1 u.2.1 u.2.2.1 u.2.2.2) F (S, x1, x2, x3)
theorem w_X9_imply_14_b58 {F : Nat} {q : (Int32 × Zs)}  (C : zC p s m args meth c cX9_imply 4 RX9 none)  : ∀ (n : Nat) (S : Zs) (x1 : Int32) (x2 : Int32) (x3 : Int32) (H : Heap) (locs : List Loc) (ls : Array Slot), zfix (fun (rc : (Zs × Int32 × Int32 × Int32) → Option (Int32 × Zs)) (u : (Zs × Int32 × Int32 × Int32)) => n_X9_imply_14_b58_l F  (fun S x1 x2 x3 => rc (S, x1, x2, x3)) u.1 u.2.1 u.2.2.1 u.2.2.2) n (S, x1, x2, x3) = some q → zW (xG D cs ad) s S H locs → lv_has ls 4 [(0, .ref (ad 14)), (1, .int x1), (2, .int x2), (3, .int x3)] → W p l e (zR 0 0) s m args below meth c H locs 0 0 (zQv (xG D cs ad) q below args s) (F0 m 58 ls []) := by
  intro n
  induction n with
  | zero => intro S x1 x2 x3 H locs ls h; exact absurd h (fun h => by cases h)
  | succ n ih => intro S x1 x2 x3 H locs ls h hW hl; exact w_X9_imply_14_b58_l (F := F) C (fun S x1 x2 x3 H locs ls h hW hl => ih S x1 x2 x3 H locs ls h hW hl) h hW hl
def n_X9_imply_14_b50 (F : Nat) (rc16 : Zs → Int32 → Int32 → Int32 → Option (Int32 × Zs)) (S : Zs) (x1 : Int32) (x2 : Int32) (x3 : Int32) : Option (Int32 × Zs) :=
  zlet (x3 + (1 : Int32)) (fun v1 => rc16 S x1 x2 v1)
set_option maxRecDepth 20000 in
set_option maxHeartbeats 4000000 in
theorem w_X9_imply_14_b50 {F : Nat} {q : (Int32 × Zs)} {S : Zs} {rc16 : Zs → Int32 → Int32 → Int32 → Option (Int32 × Zs)} {x1 : Int32} {x2 : Int32} {x3 : Int32} {ls : Array Slot} {H : Heap} {locs : List Loc} (C : zC p s m args meth c cX9_imply 4 RX9 none) (hrc16 : ∀ (S : Zs) (x1 : Int32) (x2 : Int32) (x3 : Int32) (H : Heap) (locs : List Loc) (ls : Array Slot), rc16 S x1 x2 x3 = some q → zW (xG D cs ad) s S H locs → lv_has ls 4 [(0, .ref (ad 14)), (1, .int x1), (2, .int x2), (3, .int x3)] → W p l e (zR 0 0) s m args below meth c H locs 0 0 (zQv (xG D cs ad) q below args s) (F0 m 16 ls [])) (h : n_X9_imply_14_b50 F rc16 S x1 x2 x3 = some q) (hW : zW (xG D cs ad) s S H locs) (hl : lv_has ls 4 [(0, .ref (ad 14)), (1, .int x1), (2, .int x2), (3, .int x3)]) : W p l e (zR 0 0) s m args below meth c H locs 0 0 (zQv (xG D cs ad) q below args s) (F0 m 50 ls []) := by
  unfold n_X9_imply_14_b50 at h
  obtain ⟨hx, hb, hml, hown, hts, hret, hlk⟩ := id C
  obtain ⟨v1, ev1, h⟩ := zz_name h
  refine lv_iinc (v := v1) (lv' := [(3, .int v1), (0, .ref (ad 14)), (1, .int x1), (2, .int x2)]) hx hb dX9_imply_50 hl (k := 3) rfl ev1.symm (by decide) rfl (fun ls hl => ?_)
  refine lv_goto (tgt := 16) hx hb dX9_imply_53 (by decide) ?_
  exact hrc16 _ _ _ _ _ _ _ h hW (lv_sub hl [1, 2, 3, 0] rfl)
def n_X9_imply_14_b16_l (F : Nat) (rc16 : Zs → Int32 → Int32 → Int32 → Option (Int32 × Zs)) (S : Zs) (x1 : Int32) (x2 : Int32) (x3 : Int32) : Option (Int32 × Zs) :=
  if (24 : Int32) ≤ x3 then (n_X9_imply_14_b58 F  S x1 x2 (0 : Int32)) else (zld S 15 24 x3 (fun v1 => if ((v1 >>> (x1 &&& 31)) &&& (1 : Int32)) = 0 then (n_X9_imply_14_b50 F rc16 S x1 x2 x3) else (zld S 15 24 x3 (fun v2 => zld S 15 24 x2 (fun v3 => zst S 15 24 x3 (v2 ||| v3) (fun S4 => n_X9_imply_14_b50 F rc16 S4 x1 x2 x3))))))
set_option maxRecDepth 20000 in
set_option maxHeartbeats 4000000 in
theorem w_X9_imply_14_b16_l {F : Nat} {q : (Int32 × Zs)} {S : Zs} {rc16 : Zs → Int32 → Int32 → Int32 → Option (Int32 × Zs)} {x1 : Int32} {x2 : Int32} {x3 : Int32} {ls : Array Slot} {H : Heap} {locs : List Loc} (C : zC p s m args meth c cX9_imply 4 RX9 none) (hrc16 : ∀ (S : Zs) (x1 : Int32) (x2 : Int32) (x3 : Int32) (H : Heap) (locs : List Loc) (ls : Array Slot), rc16 S x1 x2 x3 = some q → zW (xG D cs ad) s S H locs → lv_has ls 4 [(0, .ref (ad 14)), (1, .int x1), (2, .int x2), (3, .int x3)] → W p l e (zR 0 0) s m args below meth c H locs 0 0 (zQv (xG D cs ad) q below args s) (F0 m 16 ls [])) (h : n_X9_imply_14_b16_l F rc16 S x1 x2 x3 = some q) (hW : zW (xG D cs ad) s S H locs) (hl : lv_has ls 4 [(0, .ref (ad 14)), (1, .int x1), (2, .int x2), (3, .int x3)]) : W p l e (zR 0 0) s m args below meth c H locs 0 0 (zQv (xG D cs ad) q below args s) (F0 m 16 ls []) := by
  unfold n_X9_imply_14_b16_l at h
  obtain ⟨hx, hb, hml, hown, hts, hret, hlk⟩ := id C
  refine lv_iload_n hx hb dX9_imply_16 rfl (lv_at hl 3 rfl) ?_
  refine lv_bipush (v := 24) hx hb dX9_imply_17 (by decide) ?_
  refine zz_cge (tgt := 56) C h dX9_imply_19 (by decide) (fun h => ?_) (fun h => ?_)
  · refine lv_iconst (v := 0) hx hb dX9_imply_56 (by decide) ?_
    refine lv_istore_n (lv' := [(3, .int (0 : Int32)), (0, .ref (ad 14)), (1, .int x1), (2, .int x2)]) hx hb dX9_imply_57 rfl hl (by decide) rfl (fun ls hl => ?_)
    exact w_X9_imply_14_b58 (F := F) C F _ _ _ _ _ _ _ h hW (lv_sub hl [1, 2, 3, 0] rfl)
  · refine lv_aload_n hx hb dX9_imply_22 rfl (lv_at hl 0 rfl) ?_
    refine xg_14_0 C hW fl_X9_9 dX9_imply_23 ?_
    refine lv_iload_n hx hb dX9_imply_26 rfl (lv_at hl 3 rfl) ?_
    refine xl_15 C hW h dX9_imply_27 (fun v1 h => ?_)
    refine lv_iload_n hx hb dX9_imply_28 rfl (lv_at hl 1 rfl) ?_
    refine lv_ishr hx hb dX9_imply_29 ?_
    refine lv_iconst (v := 1) hx hb dX9_imply_30 (by decide) ?_
    refine lv_iand hx hb dX9_imply_31 ?_
    refine zz_ieq (tgt := 50) C h dX9_imply_32 (by decide) (fun h => ?_) (fun h => ?_)
    · exact w_X9_imply_14_b50 (F := F) C hrc16 h hW (lv_sub hl [0, 1, 2, 3] rfl)
    · refine lv_aload_n hx hb dX9_imply_35 rfl (lv_at hl 0 rfl) ?_
      refine xg_14_0 C hW fl_X9_9 dX9_imply_36 ?_
      refine lv_iload_n hx hb dX9_imply_39 rfl (lv_at hl 3 rfl) ?_
      refine lv_dup2_11 hx hb dX9_imply_40 rfl rfl ?_
      refine xl_15 C hW h dX9_imply_41 (fun v2 h => ?_)
      refine lv_aload_n hx hb dX9_imply_42 rfl (lv_at hl 0 rfl) ?_
      refine xg_14_0 C hW fl_X9_9 dX9_imply_43 ?_
      refine lv_iload_n hx hb dX9_imply_46 rfl (lv_at hl 2 rfl) ?_
      refine xl_15 C hW h dX9_imply_47 (fun v3 h => ?_)
      refine lv_ior hx hb dX9_imply_48 ?_
      refine xs_15 C hW h dX9_imply_49 (fun S4 H locs h hW => ?_)
      exact w_X9_imply_14_b50 (F := F) C hrc16 h hW (lv_sub hl [0, 1, 2, 3] rfl)
def n_X9_imply_14_b16 (F : Nat)  (S : Zs) (x1 : Int32) (x2 : Int32) (x3 : Int32) : Option (Int32 × Zs) :=
  zfix (fun (rc : (Zs × Int32 × Int32 × Int32) → Option (Int32 × Zs)) (u : (Zs × Int32 × Int32 × Int32)) => n_X9_imply_14_b16_l F  (fun S x1 x2 x3 => rc (S, x1, x2, x3)) u.1 u.2.1 u.2.2.1 u.2.2.2) F (S, x1, x2, x3)
theorem w_X9_imply_14_b16 {F : Nat} {q : (Int32 × Zs)}  (C : zC p s m args meth c cX9_imply 4 RX9 none)  : ∀ (n : Nat) (S : Zs) (x1 : Int32) (x2 : Int32) (x3 : Int32) (H : Heap) (locs : List Loc) (ls : Array Slot), zfix (fun (rc : (Zs × Int32 × Int32 × Int32) → Option (Int32 × Zs)) (u : (Zs × Int32 × Int32 × Int32)) => n_X9_imply_14_b16_l F  (fun S x1 x2 x3 => rc (S, x1, x2, x3)) u.1 u.2.1 u.2.2.1 u.2.2.2) n (S, x1, x2, x3) = some q → zW (xG D cs ad) s S H locs → lv_has ls 4 [(0, .ref (ad 14)), (1, .int x1), (2, .int x2), (3, .int x3)] → W p l e (zR 0 0) s m args below meth c H locs 0 0 (zQv (xG D cs ad) q below args s) (F0 m 16 ls []) := by
  intro n
  induction n with
  | zero => intro S x1 x2 x3 H locs ls h; exact absurd h (fun h => by cases h)
  | succ n ih => intro S x1 x2 x3 H locs ls h hW hl; exact w_X9_imply_14_b16_l (F := F) C (fun S x1 x2 x3 H locs ls h hW hl => ih S x1 x2 x3 H locs ls h hW hl) h hW hl
def n_X9_imply_14_e (F : Nat)  (S : Zs) (x1 : Int32) (x2 : Int32) : Option (Int32 × Zs) :=
  zld S 15 24 x1 (fun v1 => if ((v1 >>> (x2 &&& 31)) &&& (1 : Int32)) = 0 then (n_X9_imply_14_b16 F  S x1 x2 (0 : Int32)) else (some (0, S)))
set_option maxRecDepth 20000 in
set_option maxHeartbeats 4000000 in
theorem w_X9_imply_14_e {F : Nat} {q : (Int32 × Zs)} {S : Zs}  {x1 : Int32} {x2 : Int32} {ls : Array Slot} {H : Heap} {locs : List Loc} (C : zC p s m args meth c cX9_imply 4 RX9 none)  (h : n_X9_imply_14_e F  S x1 x2 = some q) (hW : zW (xG D cs ad) s S H locs) (hl : lv_has ls 4 [(0, .ref (ad 14)), (1, .int x1), (2, .int x2)]) : W p l e (zR 0 0) s m args below meth c H locs 0 0 (zQv (xG D cs ad) q below args s) (F0 m 0 ls []) := by
  unfold n_X9_imply_14_e at h
  obtain ⟨hx, hb, hml, hown, hts, hret, hlk⟩ := id C
  refine lv_aload_n hx hb dX9_imply_0 rfl (lv_at hl 0 rfl) ?_
  refine xg_14_0 C hW fl_X9_9 dX9_imply_1 ?_
  refine lv_iload_n hx hb dX9_imply_4 rfl (lv_at hl 1 rfl) ?_
  refine xl_15 C hW h dX9_imply_5 (fun v1 h => ?_)
  refine lv_iload_n hx hb dX9_imply_6 rfl (lv_at hl 2 rfl) ?_
  refine lv_ishr hx hb dX9_imply_7 ?_
  refine lv_iconst (v := 1) hx hb dX9_imply_8 (by decide) ?_
  refine lv_iand hx hb dX9_imply_9 ?_
  refine zz_ieq (tgt := 14) C h dX9_imply_10 (by decide) (fun h => ?_) (fun h => ?_)
  · refine lv_iconst (v := 0) hx hb dX9_imply_14 (by decide) ?_
    refine lv_istore_n (lv' := [(3, .int (0 : Int32)), (0, .ref (ad 14)), (1, .int x1), (2, .int x2)]) hx hb dX9_imply_15 rfl hl (by decide) rfl (fun ls hl => ?_)
    exact w_X9_imply_14_b16 (F := F) C F _ _ _ _ _ _ _ h hW (lv_sub hl [1, 2, 3, 0] rfl)
  · exact zz_vret C rfl h hW dX9_imply_13
def n_X9_imply_14 (F : Nat) (S : Zs) (x1 : Int32) (x2 : Int32) : Option (Int32 × Zs) := n_X9_imply_14_e F  S x1 x2
theorem c_X9_imply_14 {l : Launch} {D : va_G} {cs ad : Nat → Nat} {F : Nat} {S : Zs} {x1 : Int32} {x2 : Int32} {q : (Int32 × Zs)} (h : n_X9_imply_14 F S x1 x2 = some q) : zMv l yX9_imply cX9_imply 4 none (zR 0 0) (xG D cs ad) [.ref (ad 14), .int x1, .int x2] S q :=
  zz_enter (by decide) (Nat.le_of_ble_eq_true rfl) (fun p e s m below meth c ls C hW hl => w_X9_imply_14_e (F := F) C h hW (lv_sub hl [0, 1, 2] rfl))
def n_X1_prepare_13_b122 (F : Nat) (rc50 : Zs → Int32 → Int32 → Option (Int32 × Zs)) (S : Zs) (x1 : Int32) (x2 : Int32) : Option (Int32 × Zs) :=
  zlet (x2 + (1 : Int32)) (fun v1 => rc50 S x1 v1)
set_option maxRecDepth 20000 in
set_option maxHeartbeats 4000000 in
theorem w_X1_prepare_13_b122 {F : Nat} {q : (Int32 × Zs)} {S : Zs} {rc50 : Zs → Int32 → Int32 → Option (Int32 × Zs)} {x1 : Int32} {x2 : Int32} {ls : Array Slot} {H : Heap} {locs : List Loc} (C : zC p s m args meth c cX1_prepare 4 RX1 (some (.object "SomeAreNoneIs$Theory"))) (hrc50 : ∀ (S : Zs) (x1 : Int32) (x2 : Int32) (H : Heap) (locs : List Loc) (ls : Array Slot), rc50 S x1 x2 = some q → zW (xG D cs ad) s S H locs → lv_has ls 4 [(0, .ref (ad 13)), (1, .int x1), (2, .int x2)] → W p l e (zR 1 23) s m args below meth c H locs 0 0 (zQr (xG D cs ad) (ad 14) q below args s) (F0 m 50 ls [])) (h : n_X1_prepare_13_b122 F rc50 S x1 x2 = some q) (hW : zW (xG D cs ad) s S H locs) (hl : lv_has ls 4 [(0, .ref (ad 13)), (1, .int x1), (2, .int x2)]) : W p l e (zR 1 23) s m args below meth c H locs 0 0 (zQr (xG D cs ad) (ad 14) q below args s) (F0 m 122 ls []) := by
  unfold n_X1_prepare_13_b122 at h
  obtain ⟨hx, hb, hml, hown, hts, hret, hlk⟩ := id C
  obtain ⟨v1, ev1, h⟩ := zz_name h
  refine lv_iinc (v := v1) (lv' := [(2, .int v1), (0, .ref (ad 13)), (1, .int x1)]) hx hb dX1_prepare_122 hl (k := 2) rfl ev1.symm (by decide) rfl (fun ls hl => ?_)
  refine lv_goto (tgt := 50) hx hb dX1_prepare_125 (by decide) ?_
  exact hrc50 _ _ _ _ _ _ h hW (lv_sub hl [1, 2, 0] rfl)
def n_X1_prepare_13_b50_l (F : Nat) (rc50 : Zs → Int32 → Int32 → Option (Int32 × Zs)) (S : Zs) (x1 : Int32) (x2 : Int32) : Option (Int32 × Zs) :=
  zgf S 62 (fun v1 => if v1 ≤ x2 then (zpf S 264 x1 (fun S2 => zgf S2 65 (fun v3 => zpf S2 265 v3 (fun S4 => some (0, S4))))) else (zld S 4 16 x2 (fun v5 => if ((x1 >>> (x2 &&& 31)) &&& (1 : Int32)) = 0 then (n_X1_prepare_13_b122 F rc50 S x1 x2) else (zcl (n_X0_isUniversal F S v5) (fun v7 S6 => if v7 = 0 then (zcl (n_X0_subject F S6 v5) (fun v9 S8 => zcl (n_X0_target F S8 v5) (fun v11 S10 => zcl (n_X9_require_14 F S10 v9 v11) (fun v13 S12 => n_X1_prepare_13_b122 F rc50 S12 x1 x2)))) else (zcl (n_X0_subject F S6 v5) (fun v15 S14 => zcl (n_X0_target F S14 v5) (fun v17 S16 => zcl (n_X9_imply_14 F S16 v15 v17) (fun v19 S18 => n_X1_prepare_13_b122 F rc50 S18 x1 x2)))))))))
set_option maxRecDepth 20000 in
set_option maxHeartbeats 4000000 in
theorem w_X1_prepare_13_b50_l {F : Nat} {q : (Int32 × Zs)} {S : Zs} {rc50 : Zs → Int32 → Int32 → Option (Int32 × Zs)} {x1 : Int32} {x2 : Int32} {ls : Array Slot} {H : Heap} {locs : List Loc} (C : zC p s m args meth c cX1_prepare 4 RX1 (some (.object "SomeAreNoneIs$Theory"))) (hrc50 : ∀ (S : Zs) (x1 : Int32) (x2 : Int32) (H : Heap) (locs : List Loc) (ls : Array Slot), rc50 S x1 x2 = some q → zW (xG D cs ad) s S H locs → lv_has ls 4 [(0, .ref (ad 13)), (1, .int x1), (2, .int x2)] → W p l e (zR 1 23) s m args below meth c H locs 0 0 (zQr (xG D cs ad) (ad 14) q below args s) (F0 m 50 ls [])) (h : n_X1_prepare_13_b50_l F rc50 S x1 x2 = some q) (hW : zW (xG D cs ad) s S H locs) (hl : lv_has ls 4 [(0, .ref (ad 13)), (1, .int x1), (2, .int x2)]) : W p l e (zR 1 23) s m args below meth c H locs 0 0 (zQr (xG D cs ad) (ad 14) q below args s) (F0 m 50 ls []) := by
  unfold n_X1_prepare_13_b50_l at h
  obtain ⟨hx, hb, hml, hown, hts, hret, hlk⟩ := id C
  refine lv_iload_n hx hb dX1_prepare_50 rfl (lv_at hl 2 rfl) ?_
  refine lv_aload_n hx hb dX1_prepare_51 rfl (lv_at hl 0 rfl) ?_
  refine xg_13_0 C hW fl_X1_32 dX1_prepare_52 ?_
  refine xg_3_2 C hW h fl_X1_48 dX1_prepare_55 (fun v1 h => ?_)
  refine zz_cge (tgt := 128) C h dX1_prepare_58 (by decide) (fun h => ?_) (fun h => ?_)
  · refine lv_aload_n hx hb dX1_prepare_128 rfl (lv_at hl 0 rfl) ?_
    refine lv_iload_n hx hb dX1_prepare_129 rfl (lv_at hl 1 rfl) ?_
    refine xp_13_4 C hW h fl_X1_25 dX1_prepare_130 (fun S2 H locs h hW => ?_)
    refine lv_aload_n hx hb dX1_prepare_133 rfl (lv_at hl 0 rfl) ?_
    refine lv_aload_n hx hb dX1_prepare_134 rfl (lv_at hl 0 rfl) ?_
    refine xg_13_0 C hW fl_X1_32 dX1_prepare_135 ?_
    refine xg_3_5 C hW h fl_X1_36 dX1_prepare_138 (fun v3 h => ?_)
    refine xp_13_5 C hW h fl_X1_29 dX1_prepare_141 (fun S4 H locs h hW => ?_)
    refine lv_aload_n hx hb dX1_prepare_144 rfl (lv_at hl 0 rfl) ?_
    refine xg_13_1 C hW fl_X1_12 dX1_prepare_145 ?_
    exact zz_aret C rfl h hW dX1_prepare_148
  · refine lv_aload_n hx hb dX1_prepare_61 rfl (lv_at hl 0 rfl) ?_
    refine xg_13_0 C hW fl_X1_32 dX1_prepare_62 ?_
    refine xg_3_0 C hW fl_X1_51 dX1_prepare_65 ?_
    refine lv_iload_n hx hb dX1_prepare_68 rfl (lv_at hl 2 rfl) ?_
    refine xl_4 C hW h dX1_prepare_69 (fun v5 h => ?_)
    refine lv_istore_n (lv' := [(3, .int v5), (0, .ref (ad 13)), (1, .int x1), (2, .int x2)]) hx hb dX1_prepare_70 rfl hl (by decide) rfl (fun ls hl => ?_)
    refine lv_iload_n hx hb dX1_prepare_71 rfl (lv_at hl 2 rfl) ?_
    refine lv_iload_n hx hb dX1_prepare_72 rfl (lv_at hl 3 rfl) ?_
    refine lv_ishr hx hb dX1_prepare_73 ?_
    refine lv_iconst (v := 1) hx hb dX1_prepare_74 (by decide) ?_
    refine lv_iand hx hb dX1_prepare_75 ?_
    refine zz_ine (tgt := 82) C h dX1_prepare_76 (by decide) (fun h => ?_) (fun h => ?_)
    · refine lv_iload_n hx hb dX1_prepare_82 rfl (lv_at hl 0 rfl) ?_
      refine zz_callSi (As := [.int v5]) C hW h (fun r hr => c_X0_isUniversal hr) lk_X1_54 rfl hl.1 ⟨rfl, rfl⟩ ⟨Nat.le_of_ble_eq_true rfl, Nat.le_of_ble_eq_true rfl⟩ (Nat.le_of_ble_eq_true rfl) ⟨Nat.zero_le _, Nat.zero_le _⟩ rfl dX1_prepare_83 (fun v7 S6 H locs h hW => ?_)
      refine zz_ieq (tgt := 107) C h dX1_prepare_86 (by decide) (fun h => ?_) (fun h => ?_)
      · refine lv_aload_n hx hb dX1_prepare_107 rfl (lv_at hl 1 rfl) ?_
        refine xg_13_1 C hW fl_X1_12 dX1_prepare_108 ?_
        refine lv_iload_n hx hb dX1_prepare_111 rfl (lv_at hl 0 rfl) ?_
        refine zz_callSi (As := [.int v5]) C hW h (fun r hr => c_X0_subject hr) lk_X1_60 rfl hl.1 ⟨rfl, rfl⟩ ⟨Nat.le_of_ble_eq_true rfl, Nat.le_of_ble_eq_true rfl⟩ (Nat.le_of_ble_eq_true rfl) ⟨Nat.zero_le _, Nat.zero_le _⟩ rfl dX1_prepare_112 (fun v9 S8 H locs h hW => ?_)
        refine lv_iload_n hx hb dX1_prepare_115 rfl (lv_at hl 0 rfl) ?_
        refine zz_callSi (As := [.int v5]) C hW h (fun r hr => c_X0_target hr) lk_X1_64 rfl hl.1 ⟨rfl, rfl⟩ ⟨Nat.le_of_ble_eq_true rfl, Nat.le_of_ble_eq_true rfl⟩ (Nat.le_of_ble_eq_true rfl) ⟨Nat.zero_le _, Nat.zero_le _⟩ rfl dX1_prepare_116 (fun v11 S10 H locs h hW => ?_)
        refine zz_callVv (As := [.int v9, .int v11]) C hW h (fun r hr => c_X9_require_14 hr) lk_X1_71 (hW.recv xr_14) rfl hl.1 ⟨rfl, rfl⟩ ⟨Nat.le_of_ble_eq_true rfl, Nat.le_of_ble_eq_true rfl⟩ (Nat.le_of_ble_eq_true rfl) ⟨Nat.zero_le _, Nat.zero_le _⟩ rfl dX1_prepare_119 (fun v13 S12 H locs h hW => ?_)
        exact w_X1_prepare_13_b122 (F := F) C hrc50 h hW (lv_sub hl [1, 2, 3] rfl)
      · refine lv_aload_n hx hb dX1_prepare_89 rfl (lv_at hl 1 rfl) ?_
        refine xg_13_1 C hW fl_X1_12 dX1_prepare_90 ?_
        refine lv_iload_n hx hb dX1_prepare_93 rfl (lv_at hl 0 rfl) ?_
        refine zz_callSi (As := [.int v5]) C hW h (fun r hr => c_X0_subject hr) lk_X1_60 rfl hl.1 ⟨rfl, rfl⟩ ⟨Nat.le_of_ble_eq_true rfl, Nat.le_of_ble_eq_true rfl⟩ (Nat.le_of_ble_eq_true rfl) ⟨Nat.zero_le _, Nat.zero_le _⟩ rfl dX1_prepare_94 (fun v15 S14 H locs h hW => ?_)
        refine lv_iload_n hx hb dX1_prepare_97 rfl (lv_at hl 0 rfl) ?_
        refine zz_callSi (As := [.int v5]) C hW h (fun r hr => c_X0_target hr) lk_X1_64 rfl hl.1 ⟨rfl, rfl⟩ ⟨Nat.le_of_ble_eq_true rfl, Nat.le_of_ble_eq_true rfl⟩ (Nat.le_of_ble_eq_true rfl) ⟨Nat.zero_le _, Nat.zero_le _⟩ rfl dX1_prepare_98 (fun v17 S16 H locs h hW => ?_)
        refine zz_callVv (As := [.int v15, .int v17]) C hW h (fun r hr => c_X9_imply_14 hr) lk_X1_67 (hW.recv xr_14) rfl hl.1 ⟨rfl, rfl⟩ ⟨Nat.le_of_ble_eq_true rfl, Nat.le_of_ble_eq_true rfl⟩ (Nat.le_of_ble_eq_true rfl) ⟨Nat.zero_le _, Nat.zero_le _⟩ rfl dX1_prepare_101 (fun v19 S18 H locs h hW => ?_)
        refine lv_goto (tgt := 122) hx hb dX1_prepare_104 (by decide) ?_
        exact w_X1_prepare_13_b122 (F := F) C hrc50 h hW (lv_sub hl [1, 2, 3] rfl)
    · refine lv_goto (tgt := 122) hx hb dX1_prepare_79 (by decide) ?_
      exact w_X1_prepare_13_b122 (F := F) C hrc50 h hW (lv_sub hl [1, 2, 3] rfl)
def n_X1_prepare_13_b50 (F : Nat)  (S : Zs) (x1 : Int32) (x2 : Int32) : Option (Int32 × Zs) :=
  zfix (fun (rc : (Zs × Int32 × Int32) → Option (Int32 × Zs)) (u : (Zs × Int32 × Int32)) => n_X1_prepare_13_b50_l F  (fun S x1 x2 => rc (S, x1, x2)) u.1 u.2.1 u.2.2) F (S, x1, x2)
theorem w_X1_prepare_13_b50 {F : Nat} {q : (Int32 × Zs)}  (C : zC p s m args meth c cX1_prepare 4 RX1 (some (.object "SomeAreNoneIs$Theory")))  : ∀ (n : Nat) (S : Zs) (x1 : Int32) (x2 : Int32) (H : Heap) (locs : List Loc) (ls : Array Slot), zfix (fun (rc : (Zs × Int32 × Int32) → Option (Int32 × Zs)) (u : (Zs × Int32 × Int32)) => n_X1_prepare_13_b50_l F  (fun S x1 x2 => rc (S, x1, x2)) u.1 u.2.1 u.2.2) n (S, x1, x2) = some q → zW (xG D cs ad) s S H locs → lv_has ls 4 [(0, .ref (ad 13)), (1, .int x1), (2, .int x2)] → W p l e (zR 1 23) s m args below meth c H locs 0 0 (zQr (xG D cs ad) (ad 14) q below args s) (F0 m 50 ls []) := by
  intro n
  induction n with
  | zero => intro S x1 x2 H locs ls h; exact absurd h (fun h => by cases h)
  | succ n ih => intro S x1 x2 H locs ls h hW hl; exact w_X1_prepare_13_b50_l (F := F) C (fun S x1 x2 H locs ls h hW hl => ih S x1 x2 H locs ls h hW hl) h hW hl
def n_X1_prepare_13_b27 (F : Nat)  (S : Zs) (x1 : Int32) : Option (Int32 × Zs) :=
  zcl (n_X9_clear_14 F S ) (fun v2 S1 => zgf S1 65 (fun v3 => zcl (n_X9_addLiving_14 F S1 v3) (fun v5 S4 => n_X1_prepare_13_b50 F  S4 x1 (0 : Int32))))
set_option maxRecDepth 20000 in
set_option maxHeartbeats 4000000 in
theorem w_X1_prepare_13_b27 {F : Nat} {q : (Int32 × Zs)} {S : Zs}  {x1 : Int32} {ls : Array Slot} {H : Heap} {locs : List Loc} (C : zC p s m args meth c cX1_prepare 4 RX1 (some (.object "SomeAreNoneIs$Theory")))  (h : n_X1_prepare_13_b27 F  S x1 = some q) (hW : zW (xG D cs ad) s S H locs) (hl : lv_has ls 4 [(0, .ref (ad 13)), (1, .int x1)]) : W p l e (zR 1 23) s m args below meth c H locs 0 0 (zQr (xG D cs ad) (ad 14) q below args s) (F0 m 27 ls []) := by
  unfold n_X1_prepare_13_b27 at h
  obtain ⟨hx, hb, hml, hown, hts, hret, hlk⟩ := id C
  refine lv_aload_n hx hb dX1_prepare_27 rfl (lv_at hl 0 rfl) ?_
  refine xg_13_1 C hW fl_X1_12 dX1_prepare_28 ?_
  refine zz_callVv (As := []) C hW h (fun r hr => c_X9_clear_14 hr) lk_X1_41 (hW.recv xr_14) rfl hl.1 ⟨rfl, rfl⟩ ⟨Nat.le_of_ble_eq_true rfl, Nat.le_of_ble_eq_true rfl⟩ (Nat.le_of_ble_eq_true rfl) ⟨Nat.zero_le _, Nat.zero_le _⟩ rfl dX1_prepare_31 (fun v2 S1 H locs h hW => ?_)
  refine lv_aload_n hx hb dX1_prepare_34 rfl (lv_at hl 0 rfl) ?_
  refine xg_13_1 C hW fl_X1_12 dX1_prepare_35 ?_
  refine lv_aload_n hx hb dX1_prepare_38 rfl (lv_at hl 0 rfl) ?_
  refine xg_13_0 C hW fl_X1_32 dX1_prepare_39 ?_
  refine xg_3_5 C hW h fl_X1_36 dX1_prepare_42 (fun v3 h => ?_)
  refine zz_callVv (As := [.int v3]) C hW h (fun r hr => c_X9_addLiving_14 hr) lk_X1_44 (hW.recv xr_14) rfl hl.1 ⟨rfl, rfl⟩ ⟨Nat.le_of_ble_eq_true rfl, Nat.le_of_ble_eq_true rfl⟩ (Nat.le_of_ble_eq_true rfl) ⟨Nat.zero_le _, Nat.zero_le _⟩ rfl dX1_prepare_45 (fun v5 S4 H locs h hW => ?_)
  refine lv_iconst (v := 0) hx hb dX1_prepare_48 (by decide) ?_
  refine lv_istore_n (lv' := [(2, .int (0 : Int32)), (0, .ref (ad 13)), (1, .int x1)]) hx hb dX1_prepare_49 rfl hl (by decide) rfl (fun ls hl => ?_)
  exact w_X1_prepare_13_b50 (F := F) C F _ _ _ _ _ _ h hW (lv_sub hl [1, 2, 0] rfl)
def n_X1_prepare_13_e (F : Nat)  (S : Zs) (x1 : Int32) : Option (Int32 × Zs) :=
  zgf S 264 (fun v1 => if v1 = x1 then (zgf S 265 (fun v2 => zgf S 65 (fun v3 => if v2 = v3 then (some (0, S)) else (n_X1_prepare_13_b27 F  S x1)))) else (n_X1_prepare_13_b27 F  S x1))
set_option maxRecDepth 20000 in
set_option maxHeartbeats 4000000 in
theorem w_X1_prepare_13_e {F : Nat} {q : (Int32 × Zs)} {S : Zs}  {x1 : Int32} {ls : Array Slot} {H : Heap} {locs : List Loc} (C : zC p s m args meth c cX1_prepare 4 RX1 (some (.object "SomeAreNoneIs$Theory")))  (h : n_X1_prepare_13_e F  S x1 = some q) (hW : zW (xG D cs ad) s S H locs) (hl : lv_has ls 4 [(0, .ref (ad 13)), (1, .int x1)]) : W p l e (zR 1 23) s m args below meth c H locs 0 0 (zQr (xG D cs ad) (ad 14) q below args s) (F0 m 0 ls []) := by
  unfold n_X1_prepare_13_e at h
  obtain ⟨hx, hb, hml, hown, hts, hret, hlk⟩ := id C
  refine lv_aload_n hx hb dX1_prepare_0 rfl (lv_at hl 0 rfl) ?_
  refine xg_13_4 C hW h fl_X1_25 dX1_prepare_1 (fun v1 h => ?_)
  refine lv_iload_n hx hb dX1_prepare_4 rfl (lv_at hl 1 rfl) ?_
  refine zz_cne (tgt := 27) C h dX1_prepare_5 (by decide) (fun h => ?_) (fun h => ?_)
  · exact w_X1_prepare_13_b27 (F := F) C h hW (lv_sub hl [0, 1] rfl)
  · refine lv_aload_n hx hb dX1_prepare_8 rfl (lv_at hl 0 rfl) ?_
    refine xg_13_5 C hW h fl_X1_29 dX1_prepare_9 (fun v2 h => ?_)
    refine lv_aload_n hx hb dX1_prepare_12 rfl (lv_at hl 0 rfl) ?_
    refine xg_13_0 C hW fl_X1_32 dX1_prepare_13 ?_
    refine xg_3_5 C hW h fl_X1_36 dX1_prepare_16 (fun v3 h => ?_)
    refine zz_cne (tgt := 27) C h dX1_prepare_19 (by decide) (fun h => ?_) (fun h => ?_)
    · exact w_X1_prepare_13_b27 (F := F) C h hW (lv_sub hl [0, 1] rfl)
    · refine lv_aload_n hx hb dX1_prepare_22 rfl (lv_at hl 0 rfl) ?_
      refine xg_13_1 C hW fl_X1_12 dX1_prepare_23 ?_
      exact zz_aret C rfl h hW dX1_prepare_26
def n_X1_prepare_13 (F : Nat) (S : Zs) (x1 : Int32) : Option (Int32 × Zs) := n_X1_prepare_13_e F  S x1
theorem c_X1_prepare_13 {l : Launch} {D : va_G} {cs ad : Nat → Nat} {F : Nat} {S : Zs} {x1 : Int32} {q : (Int32 × Zs)} (h : n_X1_prepare_13 F S x1 = some q) : zMr l yX1_prepare cX1_prepare 4 (some (.object "SomeAreNoneIs$Theory")) (zR 1 23) (xG D cs ad) [.ref (ad 13), .int x1] (ad 14) S q :=
  zz_enter (by decide) (Nat.le_of_ble_eq_true rfl) (fun p e s m below meth c ls C hW hl => w_X1_prepare_13_e (F := F) C h hW (lv_sub hl [0, 1] rfl))
def n_X9_consistent_14_b52 (F : Nat)  (S : Zs)  : Option (Int32 × Zs) :=
  zrb (0 : Int32) S
set_option maxRecDepth 20000 in
set_option maxHeartbeats 4000000 in
theorem w_X9_consistent_14_b52 {F : Nat} {q : (Int32 × Zs)} {S : Zs}   {ls : Array Slot} {H : Heap} {locs : List Loc} (C : zC p s m args meth c cX9_consistent 3 RX9 (some .boolean))  (h : n_X9_consistent_14_b52 F  S  = some q) (hW : zW (xG D cs ad) s S H locs) (hl : lv_has ls 3 []) : W p l e (zR 0 0) s m args below meth c H locs 0 0 (zQi (xG D cs ad) q below args s) (F0 m 52 ls []) := by
  unfold n_X9_consistent_14_b52 at h
  obtain ⟨hx, hb, hml, hown, hts, hret, hlk⟩ := id C
  refine lv_iconst (v := 0) hx hb dX9_consistent_52 (by decide) ?_
  exact zz_zret C rfl h hW dX9_consistent_53
def n_X9_consistent_14_b2_l (F : Nat) (rc2 : Zs → Int32 → Option (Int32 × Zs)) (S : Zs) (x1 : Int32) : Option (Int32 × Zs) :=
  zgf S 283 (fun v1 => if v1 ≤ x1 then (zrb (1 : Int32) S) else (zld S 16 29 x1 (fun v2 => zld S 15 24 v2 (fun v3 => zld S 17 29 x1 (fun v4 => zld S 15 24 v4 (fun v5 => zlet (v3 ||| v5) (fun v6 => zgf S 284 (fun v7 => if v7 = 0 then (if ((v6 &&& ((v6.toUInt32 >>> ((1 : Int32).toUInt32 &&& Int32.toUInt32 31)).toInt32)) &&& (5592405 : Int32)) = 0 then (zlet (x1 + (1 : Int32)) (fun v8 => rc2 S v8)) else (n_X9_consistent_14_b52 F  S )) else (n_X9_consistent_14_b52 F  S )))))))))
set_option maxRecDepth 20000 in
set_option maxHeartbeats 4000000 in
theorem w_X9_consistent_14_b2_l {F : Nat} {q : (Int32 × Zs)} {S : Zs} {rc2 : Zs → Int32 → Option (Int32 × Zs)} {x1 : Int32} {ls : Array Slot} {H : Heap} {locs : List Loc} (C : zC p s m args meth c cX9_consistent 3 RX9 (some .boolean)) (hrc2 : ∀ (S : Zs) (x1 : Int32) (H : Heap) (locs : List Loc) (ls : Array Slot), rc2 S x1 = some q → zW (xG D cs ad) s S H locs → lv_has ls 3 [(0, .ref (ad 14)), (1, .int x1)] → W p l e (zR 0 0) s m args below meth c H locs 0 0 (zQi (xG D cs ad) q below args s) (F0 m 2 ls [])) (h : n_X9_consistent_14_b2_l F rc2 S x1 = some q) (hW : zW (xG D cs ad) s S H locs) (hl : lv_has ls 3 [(0, .ref (ad 14)), (1, .int x1)]) : W p l e (zR 0 0) s m args below meth c H locs 0 0 (zQi (xG D cs ad) q below args s) (F0 m 2 ls []) := by
  unfold n_X9_consistent_14_b2_l at h
  obtain ⟨hx, hb, hml, hown, hts, hret, hlk⟩ := id C
  refine lv_iload_n hx hb dX9_consistent_2 rfl (lv_at hl 1 rfl) ?_
  refine lv_aload_n hx hb dX9_consistent_3 rfl (lv_at hl 0 rfl) ?_
  refine xg_14_3 C hW h fl_X9_21 dX9_consistent_4 (fun v1 h => ?_)
  refine zz_cge (tgt := 60) C h dX9_consistent_7 (by decide) (fun h => ?_) (fun h => ?_)
  · refine lv_iconst (v := 1) hx hb dX9_consistent_60 (by decide) ?_
    exact zz_zret C rfl h hW dX9_consistent_61
  · refine lv_aload_n hx hb dX9_consistent_10 rfl (lv_at hl 0 rfl) ?_
    refine xg_14_0 C hW fl_X9_9 dX9_consistent_11 ?_
    refine lv_aload_n hx hb dX9_consistent_14 rfl (lv_at hl 0 rfl) ?_
    refine xg_14_1 C hW fl_X9_15 dX9_consistent_15 ?_
    refine lv_iload_n hx hb dX9_consistent_18 rfl (lv_at hl 1 rfl) ?_
    refine xl_16 C hW h dX9_consistent_19 (fun v2 h => ?_)
    refine xl_15 C hW h dX9_consistent_20 (fun v3 h => ?_)
    refine lv_aload_n hx hb dX9_consistent_21 rfl (lv_at hl 0 rfl) ?_
    refine xg_14_0 C hW fl_X9_9 dX9_consistent_22 ?_
    refine lv_aload_n hx hb dX9_consistent_25 rfl (lv_at hl 0 rfl) ?_
    refine xg_14_2 C hW fl_X9_18 dX9_consistent_26 ?_
    refine lv_iload_n hx hb dX9_consistent_29 rfl (lv_at hl 1 rfl) ?_
    refine xl_17 C hW h dX9_consistent_30 (fun v4 h => ?_)
    refine xl_15 C hW h dX9_consistent_31 (fun v5 h => ?_)
    refine lv_ior hx hb dX9_consistent_32 ?_
    refine zz_leti h (fun v6 h => ?_)
    refine lv_istore_n (lv' := [(2, .int v6), (0, .ref (ad 14)), (1, .int x1)]) hx hb dX9_consistent_33 rfl hl (by decide) rfl (fun ls hl => ?_)
    refine lv_aload_n hx hb dX9_consistent_34 rfl (lv_at hl 1 rfl) ?_
    refine xg_14_4 C hW h fl_X9_25 dX9_consistent_35 (fun v7 h => ?_)
    refine zz_ine (tgt := 52) C h dX9_consistent_38 (by decide) (fun h => ?_) (fun h => ?_)
    · exact w_X9_consistent_14_b52 (F := F) C h hW (lv_sub hl [] rfl)
    · refine lv_iload_n hx hb dX9_consistent_41 rfl (lv_at hl 0 rfl) ?_
      refine lv_iload_n hx hb dX9_consistent_42 rfl (lv_at hl 0 rfl) ?_
      refine lv_iconst (v := 1) hx hb dX9_consistent_43 (by decide) ?_
      refine lv_iushr hx hb dX9_consistent_44 rfl ?_
      refine lv_iand hx hb dX9_consistent_45 ?_
      refine lv_ldc (v := 5592405) hx hb hown (hts _ ct_X9_49) dX9_consistent_46 ?_
      refine lv_iand hx hb dX9_consistent_48 ?_
      refine zz_ieq (tgt := 54) C h dX9_consistent_49 (by decide) (fun h => ?_) (fun h => ?_)
      · obtain ⟨v8, ev8, h⟩ := zz_name h
        refine lv_iinc (v := v8) (lv' := [(1, .int v8), (2, .int v6), (0, .ref (ad 14))]) hx hb dX9_consistent_54 hl (k := 2) rfl ev8.symm (by decide) rfl (fun ls hl => ?_)
        refine lv_goto (tgt := 2) hx hb dX9_consistent_57 (by decide) ?_
        exact hrc2 _ _ _ _ _ h hW (lv_sub hl [2, 0] rfl)
      · exact w_X9_consistent_14_b52 (F := F) C h hW (lv_sub hl [] rfl)
def n_X9_consistent_14_b2 (F : Nat)  (S : Zs) (x1 : Int32) : Option (Int32 × Zs) :=
  zfix (fun (rc : (Zs × Int32) → Option (Int32 × Zs)) (u : (Zs × Int32)) => n_X9_consistent_14_b2_l F  (fun S x1 => rc (S, x1)) u.1 u.2) F (S, x1)
theorem w_X9_consistent_14_b2 {F : Nat} {q : (Int32 × Zs)}  (C : zC p s m args meth c cX9_consistent 3 RX9 (some .boolean))  : ∀ (n : Nat) (S : Zs) (x1 : Int32) (H : Heap) (locs : List Loc) (ls : Array Slot), zfix (fun (rc : (Zs × Int32) → Option (Int32 × Zs)) (u : (Zs × Int32)) => n_X9_consistent_14_b2_l F  (fun S x1 => rc (S, x1)) u.1 u.2) n (S, x1) = some q → zW (xG D cs ad) s S H locs → lv_has ls 3 [(0, .ref (ad 14)), (1, .int x1)] → W p l e (zR 0 0) s m args below meth c H locs 0 0 (zQi (xG D cs ad) q below args s) (F0 m 2 ls []) := by
  intro n
  induction n with
  | zero => intro S x1 H locs ls h; exact absurd h (fun h => by cases h)
  | succ n ih => intro S x1 H locs ls h hW hl; exact w_X9_consistent_14_b2_l (F := F) C (fun S x1 H locs ls h hW hl => ih S x1 H locs ls h hW hl) h hW hl
def n_X9_consistent_14_e (F : Nat)  (S : Zs)  : Option (Int32 × Zs) :=
  n_X9_consistent_14_b2 F  S (0 : Int32)
set_option maxRecDepth 20000 in
set_option maxHeartbeats 4000000 in
theorem w_X9_consistent_14_e {F : Nat} {q : (Int32 × Zs)} {S : Zs}   {ls : Array Slot} {H : Heap} {locs : List Loc} (C : zC p s m args meth c cX9_consistent 3 RX9 (some .boolean))  (h : n_X9_consistent_14_e F  S  = some q) (hW : zW (xG D cs ad) s S H locs) (hl : lv_has ls 3 [(0, .ref (ad 14))]) : W p l e (zR 0 0) s m args below meth c H locs 0 0 (zQi (xG D cs ad) q below args s) (F0 m 0 ls []) := by
  unfold n_X9_consistent_14_e at h
  obtain ⟨hx, hb, hml, hown, hts, hret, hlk⟩ := id C
  refine lv_iconst (v := 0) hx hb dX9_consistent_0 (by decide) ?_
  refine lv_istore_n (lv' := [(1, .int (0 : Int32)), (0, .ref (ad 14))]) hx hb dX9_consistent_1 rfl hl (by decide) rfl (fun ls hl => ?_)
  exact w_X9_consistent_14_b2 (F := F) C F _ _ _ _ _ h hW (lv_sub hl [1, 0] rfl)
def n_X9_consistent_14 (F : Nat) (S : Zs)  : Option (Int32 × Zs) := n_X9_consistent_14_e F  S 
theorem c_X9_consistent_14 {l : Launch} {D : va_G} {cs ad : Nat → Nat} {F : Nat} {S : Zs}  {q : (Int32 × Zs)} (h : n_X9_consistent_14 F S  = some q) : zMi l yX9_consistent cX9_consistent 3 (some .boolean) (zR 0 0) (xG D cs ad) [.ref (ad 14)] S q :=
  zz_enter (by decide) (Nat.le_of_ble_eq_true rfl) (fun p e s m below meth c ls C hW hl => w_X9_consistent_14_e (F := F) C h hW (lv_sub hl [0] rfl))
def n_X1_consistent_13_e (F : Nat)  (S : Zs) (x1 : Int32) : Option (Int32 × Zs) :=
  zcl (n_X1_prepare_13 F S x1) (fun v2 S1 => zcl (n_X9_consistent_14 F S1 ) (fun v4 S3 => zrb v4 S3))
set_option maxRecDepth 20000 in
set_option maxHeartbeats 4000000 in
theorem w_X1_consistent_13_e {F : Nat} {q : (Int32 × Zs)} {S : Zs}  {x1 : Int32} {ls : Array Slot} {H : Heap} {locs : List Loc} (C : zC p s m args meth c cX1_consistent 2 RX1 (some .boolean))  (h : n_X1_consistent_13_e F  S x1 = some q) (hW : zW (xG D cs ad) s S H locs) (hl : lv_has ls 2 [(0, .ref (ad 13)), (1, .int x1)]) : W p l e (zR 2 46) s m args below meth c H locs 0 0 (zQi (xG D cs ad) q below args s) (F0 m 0 ls []) := by
  unfold n_X1_consistent_13_e at h
  obtain ⟨hx, hb, hml, hown, hts, hret, hlk⟩ := id C
  refine lv_aload_n hx hb dX1_consistent_0 rfl (lv_at hl 0 rfl) ?_
  refine lv_iload_n hx hb dX1_consistent_1 rfl (lv_at hl 1 rfl) ?_
  refine zz_callVr (As := [.int x1]) C hW h (fun r hr => c_X1_prepare_13 hr) lk_X1_78 (hW.recv xr_13) rfl hl.1 ⟨rfl, rfl⟩ ⟨Nat.le_of_ble_eq_true rfl, Nat.le_of_ble_eq_true rfl⟩ (Nat.le_of_ble_eq_true rfl) ⟨Nat.zero_le _, Nat.zero_le _⟩ rfl dX1_consistent_2 (fun v2 S1 H locs h hW => ?_)
  refine zz_callVi (As := []) C hW h (fun r hr => c_X9_consistent_14 hr) lk_X1_82 (hW.recv xr_14) rfl hl.1 ⟨rfl, rfl⟩ ⟨Nat.le_of_ble_eq_true rfl, Nat.le_of_ble_eq_true rfl⟩ (Nat.le_of_ble_eq_true rfl) ⟨Nat.zero_le _, Nat.zero_le _⟩ rfl dX1_consistent_5 (fun v4 S3 H locs h hW => ?_)
  exact zz_zret C rfl h hW dX1_consistent_8
def n_X1_consistent_13 (F : Nat) (S : Zs) (x1 : Int32) : Option (Int32 × Zs) := n_X1_consistent_13_e F  S x1
theorem c_X1_consistent_13 {l : Launch} {D : va_G} {cs ad : Nat → Nat} {F : Nat} {S : Zs} {x1 : Int32} {q : (Int32 × Zs)} (h : n_X1_consistent_13 F S x1 = some q) : zMi l yX1_consistent cX1_consistent 2 (some .boolean) (zR 2 46) (xG D cs ad) [.ref (ad 13), .int x1] S q :=
  zz_enter (by decide) (Nat.le_of_ble_eq_true rfl) (fun p e s m below meth c ls C hW hl => w_X1_consistent_13_e (F := F) C h hW (lv_sub hl [0, 1] rfl))
def n_X11_holds_0_b22 (F : Nat)  (S : Zs) (t0 : Int32) : Option (Int32 × Zs) :=
  some (t0, S)
set_option maxRecDepth 20000 in
set_option maxHeartbeats 4000000 in
theorem w_X11_holds_0_b22 {F : Nat} {q : (Int32 × Zs)} {S : Zs}  {t0 : Int32} {ls : Array Slot} {H : Heap} {locs : List Loc} (C : zC p s m args meth c cX11_holds 1 RX11 (some .int))  (h : n_X11_holds_0_b22 F  S t0 = some q) (hW : zW (xG D cs ad) s S H locs) (hl : lv_has ls 1 []) : W p l e (zR 3 67) s m args below meth c H locs 0 0 (zQi (xG D cs ad) q below args s) (F0 m 22 ls [.int t0]) := by
  unfold n_X11_holds_0_b22 at h
  obtain ⟨hx, hb, hml, hown, hts, hret, hlk⟩ := id C
  exact zz_iret C rfl h hW dX11_holds_22
def n_X11_holds_0_e (F : Nat)  (S : Zs)  : Option (Int32 × Zs) :=
  zcl (n_X2_active_3 F S ) (fun v2 S1 => zcl (n_X1_consistent_13 F S1 v2) (fun v4 S3 => if v4 = 0 then (n_X11_holds_0_b22 F  S3 (0 : Int32)) else (n_X11_holds_0_b22 F  S3 (1 : Int32))))
set_option maxRecDepth 20000 in
set_option maxHeartbeats 4000000 in
theorem w_X11_holds_0_e {F : Nat} {q : (Int32 × Zs)} {S : Zs}   {ls : Array Slot} {H : Heap} {locs : List Loc} (C : zC p s m args meth c cX11_holds 1 RX11 (some .int))  (h : n_X11_holds_0_e F  S  = some q) (hW : zW (xG D cs ad) s S H locs) (hl : lv_has ls 1 [(0, .ref (ad 0))]) : W p l e (zR 3 67) s m args below meth c H locs 0 0 (zQi (xG D cs ad) q below args s) (F0 m 0 ls []) := by
  unfold n_X11_holds_0_e at h
  obtain ⟨hx, hb, hml, hown, hts, hret, hlk⟩ := id C
  refine lv_aload_n hx hb dX11_holds_0 rfl (lv_at hl 0 rfl) ?_
  refine xg_0_2 C hW fl_X11_31 dX11_holds_1 ?_
  refine lv_aload_n hx hb dX11_holds_4 rfl (lv_at hl 0 rfl) ?_
  refine xg_0_1 C hW fl_X11_27 dX11_holds_5 ?_
  refine zz_callVi (As := []) C hW h (fun r hr => c_X2_active_3 hr) lk_X11_144 (hW.recv xr_3) rfl hl.1 ⟨rfl, rfl⟩ ⟨Nat.le_of_ble_eq_true rfl, Nat.le_of_ble_eq_true rfl⟩ (Nat.le_of_ble_eq_true rfl) ⟨Nat.zero_le _, Nat.zero_le _⟩ rfl dX11_holds_8 (fun v2 S1 H locs h hW => ?_)
  refine zz_callVi (As := [.int v2]) C hW h (fun r hr => c_X1_consistent_13 hr) lk_X11_148 (hW.recv xr_13) rfl hl.1 ⟨rfl, rfl⟩ ⟨Nat.le_of_ble_eq_true rfl, Nat.le_of_ble_eq_true rfl⟩ (Nat.le_of_ble_eq_true rfl) ⟨Nat.zero_le _, Nat.zero_le _⟩ rfl dX11_holds_11 (fun v4 S3 H locs h hW => ?_)
  refine zz_ieq (tgt := 21) C h dX11_holds_14 (by decide) (fun h => ?_) (fun h => ?_)
  · refine lv_iconst (v := 0) hx hb dX11_holds_21 (by decide) ?_
    exact w_X11_holds_0_b22 (F := F) C h hW (lv_sub hl [] rfl)
  · refine lv_iconst (v := 1) hx hb dX11_holds_17 (by decide) ?_
    refine lv_goto (tgt := 22) hx hb dX11_holds_18 (by decide) ?_
    exact w_X11_holds_0_b22 (F := F) C h hW (lv_sub hl [] rfl)
def n_X11_holds_0 (F : Nat) (S : Zs)  : Option (Int32 × Zs) := n_X11_holds_0_e F  S 
theorem c_X11_holds_0 {l : Launch} {D : va_G} {cs ad : Nat → Nat} {F : Nat} {S : Zs}  {q : (Int32 × Zs)} (h : n_X11_holds_0 F S  = some q) : zMi l yX11_holds cX11_holds 1 (some .int) (zR 3 67) (xG D cs ad) [.ref (ad 0)] S q :=
  zz_enter (by decide) (Nat.le_of_ble_eq_true rfl) (fun p e s m below meth c ls C hW hl => w_X11_holds_0_e (F := F) C h hW (lv_sub hl [0] rfl))
def n_X0_form_e (F : Nat)  (S : Zs) (x0 : Int32) : Option (Int32 × Zs) :=
  some ((x0 / (576 : Int32)), S)
set_option maxRecDepth 20000 in
set_option maxHeartbeats 4000000 in
theorem w_X0_form_e {F : Nat} {q : (Int32 × Zs)} {S : Zs}  {x0 : Int32} {ls : Array Slot} {H : Heap} {locs : List Loc} (C : zC p s m args meth c cX0_form 1 RX0 (some .int))  (h : n_X0_form_e F  S x0 = some q) (hW : zW (xG D cs ad) s S H locs) (hl : lv_has ls 1 [(0, .int x0)]) : W p l e (zR 0 0) s m args below meth c H locs 0 0 (zQi (xG D cs ad) q below args s) (F0 m 0 ls []) := by
  unfold n_X0_form_e at h
  obtain ⟨hx, hb, hml, hown, hts, hret, hlk⟩ := id C
  refine lv_iload_n hx hb dX0_form_0 rfl (lv_at hl 0 rfl) ?_
  refine lv_sipush (v := 576) hx hb dX0_form_1 (by decide) ?_
  refine lv_idiv hx hb dX0_form_4 (by decide) ?_
  exact zz_iret C rfl h hW dX0_form_5
def n_X0_form (F : Nat) (S : Zs) (x0 : Int32) : Option (Int32 × Zs) := n_X0_form_e F  S x0
theorem c_X0_form {l : Launch} {D : va_G} {cs ad : Nat → Nat} {F : Nat} {S : Zs} {x0 : Int32} {q : (Int32 × Zs)} (h : n_X0_form F S x0 = some q) : zMi l yX0_form cX0_form 1 (some .int) (zR 0 0) (xG D cs ad) [.int x0] S q :=
  zz_enter (by decide) (Nat.le_of_ble_eq_true rfl) (fun p e s m below meth c ls C hW hl => w_X0_form_e (F := F) C h hW (lv_sub hl [0] rfl))
def n_X0_predicate_e (F : Nat)  (S : Zs) (x0 : Int32) : Option (Int32 × Zs) :=
  some ((x0 - x0 / (24 : Int32) * (24 : Int32)), S)
set_option maxRecDepth 20000 in
set_option maxHeartbeats 4000000 in
theorem w_X0_predicate_e {F : Nat} {q : (Int32 × Zs)} {S : Zs}  {x0 : Int32} {ls : Array Slot} {H : Heap} {locs : List Loc} (C : zC p s m args meth c cX0_predicate 1 RX0 (some .int))  (h : n_X0_predicate_e F  S x0 = some q) (hW : zW (xG D cs ad) s S H locs) (hl : lv_has ls 1 [(0, .int x0)]) : W p l e (zR 0 0) s m args below meth c H locs 0 0 (zQi (xG D cs ad) q below args s) (F0 m 0 ls []) := by
  unfold n_X0_predicate_e at h
  obtain ⟨hx, hb, hml, hown, hts, hret, hlk⟩ := id C
  refine lv_iload_n hx hb dX0_predicate_0 rfl (lv_at hl 0 rfl) ?_
  refine lv_bipush (v := 24) hx hb dX0_predicate_1 (by decide) ?_
  refine lv_irem hx hb dX0_predicate_3 (by decide) ?_
  exact zz_iret C rfl h hW dX0_predicate_4
def n_X0_predicate (F : Nat) (S : Zs) (x0 : Int32) : Option (Int32 × Zs) := n_X0_predicate_e F  S x0
theorem c_X0_predicate {l : Launch} {D : va_G} {cs ad : Nat → Nat} {F : Nat} {S : Zs} {x0 : Int32} {q : (Int32 × Zs)} (h : n_X0_predicate F S x0 = some q) : zMi l yX0_predicate cX0_predicate 1 (some .int) (zR 0 0) (xG D cs ad) [.int x0] S q :=
  zz_enter (by decide) (Nat.le_of_ble_eq_true rfl) (fun p e s m below meth c ls C hW hl => w_X0_predicate_e (F := F) C h hW (lv_sub hl [0] rfl))
def n_X0_contrary_e (F : Nat)  (S : Zs) (x0 : Int32) : Option (Int32 × Zs) :=
  zcl (n_X0_form F S x0) (fun v2 S1 => zcl (n_X0_subject F S1 x0) (fun v4 S3 => zcl (n_X0_predicate F S3 x0) (fun v6 S5 => zcl (n_X0_make F S5 ((3 : Int32) - v2) v4 v6) (fun v8 S7 => some (v8, S7)))))
set_option maxRecDepth 20000 in
set_option maxHeartbeats 4000000 in
theorem w_X0_contrary_e {F : Nat} {q : (Int32 × Zs)} {S : Zs}  {x0 : Int32} {ls : Array Slot} {H : Heap} {locs : List Loc} (C : zC p s m args meth c cX0_contrary 1 RX0 (some .int))  (h : n_X0_contrary_e F  S x0 = some q) (hW : zW (xG D cs ad) s S H locs) (hl : lv_has ls 1 [(0, .int x0)]) : W p l e (zR 1 22) s m args below meth c H locs 0 0 (zQi (xG D cs ad) q below args s) (F0 m 0 ls []) := by
  unfold n_X0_contrary_e at h
  obtain ⟨hx, hb, hml, hown, hts, hret, hlk⟩ := id C
  refine lv_iconst (v := 3) hx hb dX0_contrary_0 (by decide) ?_
  refine lv_iload_n hx hb dX0_contrary_1 rfl (lv_at hl 0 rfl) ?_
  refine zz_callSi (As := [.int x0]) C hW h (fun r hr => c_X0_form hr) lk_X0_9 rfl hl.1 ⟨rfl, rfl⟩ ⟨Nat.le_of_ble_eq_true rfl, Nat.le_of_ble_eq_true rfl⟩ (Nat.le_of_ble_eq_true rfl) ⟨Nat.zero_le _, Nat.zero_le _⟩ rfl dX0_contrary_2 (fun v2 S1 H locs h hW => ?_)
  refine lv_isub hx hb dX0_contrary_5 ?_
  refine lv_iload_n hx hb dX0_contrary_6 rfl (lv_at hl 0 rfl) ?_
  refine zz_callSi (As := [.int x0]) C hW h (fun r hr => c_X0_subject hr) lk_X0_15 rfl hl.1 ⟨rfl, rfl⟩ ⟨Nat.le_of_ble_eq_true rfl, Nat.le_of_ble_eq_true rfl⟩ (Nat.le_of_ble_eq_true rfl) ⟨Nat.zero_le _, Nat.zero_le _⟩ rfl dX0_contrary_7 (fun v4 S3 H locs h hW => ?_)
  refine lv_iload_n hx hb dX0_contrary_10 rfl (lv_at hl 0 rfl) ?_
  refine zz_callSi (As := [.int x0]) C hW h (fun r hr => c_X0_predicate hr) lk_X0_18 rfl hl.1 ⟨rfl, rfl⟩ ⟨Nat.le_of_ble_eq_true rfl, Nat.le_of_ble_eq_true rfl⟩ (Nat.le_of_ble_eq_true rfl) ⟨Nat.zero_le _, Nat.zero_le _⟩ rfl dX0_contrary_11 (fun v6 S5 H locs h hW => ?_)
  refine zz_callSi (As := [.int ((3 : Int32) - v2), .int v4, .int v6]) C hW h (fun r hr => c_X0_make hr) lk_X0_21 rfl hl.1 ⟨rfl, rfl⟩ ⟨Nat.le_of_ble_eq_true rfl, Nat.le_of_ble_eq_true rfl⟩ (Nat.le_of_ble_eq_true rfl) ⟨Nat.zero_le _, Nat.zero_le _⟩ rfl dX0_contrary_14 (fun v8 S7 H locs h hW => ?_)
  exact zz_iret C rfl h hW dX0_contrary_17
def n_X0_contrary (F : Nat) (S : Zs) (x0 : Int32) : Option (Int32 × Zs) := n_X0_contrary_e F  S x0
theorem c_X0_contrary {l : Launch} {D : va_G} {cs ad : Nat → Nat} {F : Nat} {S : Zs} {x0 : Int32} {q : (Int32 × Zs)} (h : n_X0_contrary F S x0 = some q) : zMi l yX0_contrary cX0_contrary 1 (some .int) (zR 1 22) (xG D cs ad) [.int x0] S q :=
  zz_enter (by decide) (Nat.le_of_ble_eq_true rfl) (fun p e s m below meth c ls C hW hl => w_X0_contrary_e (F := F) C h hW (lv_sub hl [0] rfl))
def n_X9_copyFrom_18_14_b28_l (F : Nat) (rc28 : Zs → Int32 → Option (Int32 × Zs)) (S : Zs) (x2 : Int32) : Option (Int32 × Zs) :=
  zgf S 283 (fun v1 => if v1 ≤ x2 then (zgf S 283 (fun v2 => zpf S 363 v2 (fun S3 => zgf S3 284 (fun v4 => zpb S3 364 v4 (fun S5 => some (0, S5)))))) else (zld S 16 29 x2 (fun v6 => zst S 20 29 x2 v6 (fun S7 => zld S7 17 29 x2 (fun v8 => zst S7 21 29 x2 v8 (fun S9 => zlet (x2 + (1 : Int32)) (fun v10 => rc28 S9 v10)))))))
set_option maxRecDepth 20000 in
set_option maxHeartbeats 4000000 in
theorem w_X9_copyFrom_18_14_b28_l {F : Nat} {q : (Int32 × Zs)} {S : Zs} {rc28 : Zs → Int32 → Option (Int32 × Zs)} {x2 : Int32} {ls : Array Slot} {H : Heap} {locs : List Loc} (C : zC p s m args meth c cX9_copyFrom 3 RX9 none) (hrc28 : ∀ (S : Zs) (x2 : Int32) (H : Heap) (locs : List Loc) (ls : Array Slot), rc28 S x2 = some q → zW (xG D cs ad) s S H locs → lv_has ls 3 [(0, .ref (ad 18)), (1, .ref (ad 14)), (2, .int x2)] → W p l e (zR 0 0) s m args below meth c H locs 0 0 (zQv (xG D cs ad) q below args s) (F0 m 28 ls [])) (h : n_X9_copyFrom_18_14_b28_l F rc28 S x2 = some q) (hW : zW (xG D cs ad) s S H locs) (hl : lv_has ls 3 [(0, .ref (ad 18)), (1, .ref (ad 14)), (2, .int x2)]) : W p l e (zR 0 0) s m args below meth c H locs 0 0 (zQv (xG D cs ad) q below args s) (F0 m 28 ls []) := by
  unfold n_X9_copyFrom_18_14_b28_l at h
  obtain ⟨hx, hb, hml, hown, hts, hret, hlk⟩ := id C
  refine lv_iload_n hx hb dX9_copyFrom_28 rfl (lv_at hl 2 rfl) ?_
  refine lv_aload_n hx hb dX9_copyFrom_29 rfl (lv_at hl 1 rfl) ?_
  refine xg_14_3 C hW h fl_X9_21 dX9_copyFrom_30 (fun v1 h => ?_)
  refine zz_cge (tgt := 66) C h dX9_copyFrom_33 (by decide) (fun h => ?_) (fun h => ?_)
  · refine lv_aload_n hx hb dX9_copyFrom_66 rfl (lv_at hl 0 rfl) ?_
    refine lv_aload_n hx hb dX9_copyFrom_67 rfl (lv_at hl 1 rfl) ?_
    refine xg_14_3 C hW h fl_X9_21 dX9_copyFrom_68 (fun v2 h => ?_)
    refine xp_18_3 C hW h fl_X9_21 dX9_copyFrom_71 (fun S3 H locs h hW => ?_)
    refine lv_aload_n hx hb dX9_copyFrom_74 rfl (lv_at hl 0 rfl) ?_
    refine lv_aload_n hx hb dX9_copyFrom_75 rfl (lv_at hl 1 rfl) ?_
    refine xg_14_4 C hW h fl_X9_25 dX9_copyFrom_76 (fun v4 h => ?_)
    refine xp_18_4 C hW h fl_X9_25 dX9_copyFrom_79 (fun S5 H locs h hW => ?_)
    exact zz_vret C rfl h hW dX9_copyFrom_82
  · refine lv_aload_n hx hb dX9_copyFrom_36 rfl (lv_at hl 0 rfl) ?_
    refine xg_18_1 C hW fl_X9_15 dX9_copyFrom_37 ?_
    refine lv_iload_n hx hb dX9_copyFrom_40 rfl (lv_at hl 2 rfl) ?_
    refine lv_aload_n hx hb dX9_copyFrom_41 rfl (lv_at hl 1 rfl) ?_
    refine xg_14_1 C hW fl_X9_15 dX9_copyFrom_42 ?_
    refine lv_iload_n hx hb dX9_copyFrom_45 rfl (lv_at hl 2 rfl) ?_
    refine xl_16 C hW h dX9_copyFrom_46 (fun v6 h => ?_)
    refine xs_20 C hW h dX9_copyFrom_47 (fun S7 H locs h hW => ?_)
    refine lv_aload_n hx hb dX9_copyFrom_48 rfl (lv_at hl 0 rfl) ?_
    refine xg_18_2 C hW fl_X9_18 dX9_copyFrom_49 ?_
    refine lv_iload_n hx hb dX9_copyFrom_52 rfl (lv_at hl 2 rfl) ?_
    refine lv_aload_n hx hb dX9_copyFrom_53 rfl (lv_at hl 1 rfl) ?_
    refine xg_14_2 C hW fl_X9_18 dX9_copyFrom_54 ?_
    refine lv_iload_n hx hb dX9_copyFrom_57 rfl (lv_at hl 2 rfl) ?_
    refine xl_17 C hW h dX9_copyFrom_58 (fun v8 h => ?_)
    refine xs_21 C hW h dX9_copyFrom_59 (fun S9 H locs h hW => ?_)
    obtain ⟨v10, ev10, h⟩ := zz_name h
    refine lv_iinc (v := v10) (lv' := [(2, .int v10), (0, .ref (ad 18)), (1, .ref (ad 14))]) hx hb dX9_copyFrom_60 hl (k := 2) rfl ev10.symm (by decide) rfl (fun ls hl => ?_)
    refine lv_goto (tgt := 28) hx hb dX9_copyFrom_63 (by decide) ?_
    exact hrc28 _ _ _ _ _ h hW (lv_sub hl [1, 2, 0] rfl)
def n_X9_copyFrom_18_14_b28 (F : Nat)  (S : Zs) (x2 : Int32) : Option (Int32 × Zs) :=
  zfix (fun (rc : (Zs × Int32) → Option (Int32 × Zs)) (u : (Zs × Int32)) => n_X9_copyFrom_18_14_b28_l F  (fun S x2 => rc (S, x2)) u.1 u.2) F (S, x2)
theorem w_X9_copyFrom_18_14_b28 {F : Nat} {q : (Int32 × Zs)}  (C : zC p s m args meth c cX9_copyFrom 3 RX9 none)  : ∀ (n : Nat) (S : Zs) (x2 : Int32) (H : Heap) (locs : List Loc) (ls : Array Slot), zfix (fun (rc : (Zs × Int32) → Option (Int32 × Zs)) (u : (Zs × Int32)) => n_X9_copyFrom_18_14_b28_l F  (fun S x2 => rc (S, x2)) u.1 u.2) n (S, x2) = some q → zW (xG D cs ad) s S H locs → lv_has ls 3 [(0, .ref (ad 18)), (1, .ref (ad 14)), (2, .int x2)] → W p l e (zR 0 0) s m args below meth c H locs 0 0 (zQv (xG D cs ad) q below args s) (F0 m 28 ls []) := by
  intro n
  induction n with
  | zero => intro S x2 H locs ls h; exact absurd h (fun h => by cases h)
  | succ n ih => intro S x2 H locs ls h hW hl; exact w_X9_copyFrom_18_14_b28_l (F := F) C (fun S x2 H locs ls h hW hl => ih S x2 H locs ls h hW hl) h hW hl
def n_X9_copyFrom_18_14_b2_l (F : Nat) (rc2 : Zs → Int32 → Option (Int32 × Zs)) (S : Zs) (x2 : Int32) : Option (Int32 × Zs) :=
  if (24 : Int32) ≤ x2 then (n_X9_copyFrom_18_14_b28 F  S (0 : Int32)) else (zld S 15 24 x2 (fun v1 => zst S 19 24 x2 v1 (fun S2 => zlet (x2 + (1 : Int32)) (fun v3 => rc2 S2 v3))))
set_option maxRecDepth 20000 in
set_option maxHeartbeats 4000000 in
theorem w_X9_copyFrom_18_14_b2_l {F : Nat} {q : (Int32 × Zs)} {S : Zs} {rc2 : Zs → Int32 → Option (Int32 × Zs)} {x2 : Int32} {ls : Array Slot} {H : Heap} {locs : List Loc} (C : zC p s m args meth c cX9_copyFrom 3 RX9 none) (hrc2 : ∀ (S : Zs) (x2 : Int32) (H : Heap) (locs : List Loc) (ls : Array Slot), rc2 S x2 = some q → zW (xG D cs ad) s S H locs → lv_has ls 3 [(0, .ref (ad 18)), (1, .ref (ad 14)), (2, .int x2)] → W p l e (zR 0 0) s m args below meth c H locs 0 0 (zQv (xG D cs ad) q below args s) (F0 m 2 ls [])) (h : n_X9_copyFrom_18_14_b2_l F rc2 S x2 = some q) (hW : zW (xG D cs ad) s S H locs) (hl : lv_has ls 3 [(0, .ref (ad 18)), (1, .ref (ad 14)), (2, .int x2)]) : W p l e (zR 0 0) s m args below meth c H locs 0 0 (zQv (xG D cs ad) q below args s) (F0 m 2 ls []) := by
  unfold n_X9_copyFrom_18_14_b2_l at h
  obtain ⟨hx, hb, hml, hown, hts, hret, hlk⟩ := id C
  refine lv_iload_n hx hb dX9_copyFrom_2 rfl (lv_at hl 2 rfl) ?_
  refine lv_bipush (v := 24) hx hb dX9_copyFrom_3 (by decide) ?_
  refine zz_cge (tgt := 26) C h dX9_copyFrom_5 (by decide) (fun h => ?_) (fun h => ?_)
  · refine lv_iconst (v := 0) hx hb dX9_copyFrom_26 (by decide) ?_
    refine lv_istore_n (lv' := [(2, .int (0 : Int32)), (0, .ref (ad 18)), (1, .ref (ad 14))]) hx hb dX9_copyFrom_27 rfl hl (by decide) rfl (fun ls hl => ?_)
    exact w_X9_copyFrom_18_14_b28 (F := F) C F _ _ _ _ _ h hW (lv_sub hl [1, 2, 0] rfl)
  · refine lv_aload_n hx hb dX9_copyFrom_8 rfl (lv_at hl 0 rfl) ?_
    refine xg_18_0 C hW fl_X9_9 dX9_copyFrom_9 ?_
    refine lv_iload_n hx hb dX9_copyFrom_12 rfl (lv_at hl 2 rfl) ?_
    refine lv_aload_n hx hb dX9_copyFrom_13 rfl (lv_at hl 1 rfl) ?_
    refine xg_14_0 C hW fl_X9_9 dX9_copyFrom_14 ?_
    refine lv_iload_n hx hb dX9_copyFrom_17 rfl (lv_at hl 2 rfl) ?_
    refine xl_15 C hW h dX9_copyFrom_18 (fun v1 h => ?_)
    refine xs_19 C hW h dX9_copyFrom_19 (fun S2 H locs h hW => ?_)
    obtain ⟨v3, ev3, h⟩ := zz_name h
    refine lv_iinc (v := v3) (lv' := [(2, .int v3), (0, .ref (ad 18)), (1, .ref (ad 14))]) hx hb dX9_copyFrom_20 hl (k := 2) rfl ev3.symm (by decide) rfl (fun ls hl => ?_)
    refine lv_goto (tgt := 2) hx hb dX9_copyFrom_23 (by decide) ?_
    exact hrc2 _ _ _ _ _ h hW (lv_sub hl [1, 2, 0] rfl)
def n_X9_copyFrom_18_14_b2 (F : Nat)  (S : Zs) (x2 : Int32) : Option (Int32 × Zs) :=
  zfix (fun (rc : (Zs × Int32) → Option (Int32 × Zs)) (u : (Zs × Int32)) => n_X9_copyFrom_18_14_b2_l F  (fun S x2 => rc (S, x2)) u.1 u.2) F (S, x2)
theorem w_X9_copyFrom_18_14_b2 {F : Nat} {q : (Int32 × Zs)}  (C : zC p s m args meth c cX9_copyFrom 3 RX9 none)  : ∀ (n : Nat) (S : Zs) (x2 : Int32) (H : Heap) (locs : List Loc) (ls : Array Slot), zfix (fun (rc : (Zs × Int32) → Option (Int32 × Zs)) (u : (Zs × Int32)) => n_X9_copyFrom_18_14_b2_l F  (fun S x2 => rc (S, x2)) u.1 u.2) n (S, x2) = some q → zW (xG D cs ad) s S H locs → lv_has ls 3 [(0, .ref (ad 18)), (1, .ref (ad 14)), (2, .int x2)] → W p l e (zR 0 0) s m args below meth c H locs 0 0 (zQv (xG D cs ad) q below args s) (F0 m 2 ls []) := by
  intro n
  induction n with
  | zero => intro S x2 H locs ls h; exact absurd h (fun h => by cases h)
  | succ n ih => intro S x2 H locs ls h hW hl; exact w_X9_copyFrom_18_14_b2_l (F := F) C (fun S x2 H locs ls h hW hl => ih S x2 H locs ls h hW hl) h hW hl
def n_X9_copyFrom_18_14_e (F : Nat)  (S : Zs)  : Option (Int32 × Zs) :=
  n_X9_copyFrom_18_14_b2 F  S (0 : Int32)
set_option maxRecDepth 20000 in
set_option maxHeartbeats 4000000 in
theorem w_X9_copyFrom_18_14_e {F : Nat} {q : (Int32 × Zs)} {S : Zs}   {ls : Array Slot} {H : Heap} {locs : List Loc} (C : zC p s m args meth c cX9_copyFrom 3 RX9 none)  (h : n_X9_copyFrom_18_14_e F  S  = some q) (hW : zW (xG D cs ad) s S H locs) (hl : lv_has ls 3 [(0, .ref (ad 18)), (1, .ref (ad 14))]) : W p l e (zR 0 0) s m args below meth c H locs 0 0 (zQv (xG D cs ad) q below args s) (F0 m 0 ls []) := by
  unfold n_X9_copyFrom_18_14_e at h
  obtain ⟨hx, hb, hml, hown, hts, hret, hlk⟩ := id C
  refine lv_iconst (v := 0) hx hb dX9_copyFrom_0 (by decide) ?_
  refine lv_istore_n (lv' := [(2, .int (0 : Int32)), (0, .ref (ad 18)), (1, .ref (ad 14))]) hx hb dX9_copyFrom_1 rfl hl (by decide) rfl (fun ls hl => ?_)
  exact w_X9_copyFrom_18_14_b2 (F := F) C F _ _ _ _ _ h hW (lv_sub hl [1, 2, 0] rfl)
def n_X9_copyFrom_18_14 (F : Nat) (S : Zs)  : Option (Int32 × Zs) := n_X9_copyFrom_18_14_e F  S 
theorem c_X9_copyFrom_18_14 {l : Launch} {D : va_G} {cs ad : Nat → Nat} {F : Nat} {S : Zs}  {q : (Int32 × Zs)} (h : n_X9_copyFrom_18_14 F S  = some q) : zMv l yX9_copyFrom cX9_copyFrom 3 none (zR 0 0) (xG D cs ad) [.ref (ad 18), .ref (ad 14)] S q :=
  zz_enter (by decide) (Nat.le_of_ble_eq_true rfl) (fun p e s m below meth c ls C hW hl => w_X9_copyFrom_18_14_e (F := F) C h hW (lv_sub hl [0, 1] rfl))
end ZM
