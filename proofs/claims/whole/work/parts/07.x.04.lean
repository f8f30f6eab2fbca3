section ZM
variable {p : Program} {l : Launch} {e : Env} {s : State} {m : MethodId} {args : Array Value} {below : List Frame} {meth : Method} {c : Code} {D : va_G} {cs ad : Nat → Nat}
def n_X4_broken_b117 (F : Nat)  (S : Zs) (t0 : Int32) : Option (Int32 × Zs) :=
  some (t0, S)
set_option maxRecDepth 20000 in
set_option maxHeartbeats 4000000 in
theorem w_X4_broken_b117 {F : Nat} {q : (Int32 × Zs)} {S : Zs}  {t0 : Int32} {ls : Array Slot} {H : Heap} {locs : List Loc} (C : zC p s m args meth c cX4_broken 8 RX4 (some .int))  (h : n_X4_broken_b117 F  S t0 = some q) (hW : zW (xG D cs ad) s S H locs) (hl : lv_has ls 8 []) : W p l e (zR 2 45) s m args below meth c H locs 0 0 (zQi (xG D cs ad) q below args s) (F0 m 117 ls [.int t0]) := by
  unfold n_X4_broken_b117 at h
  obtain ⟨hx, hb, hml, hown, hts, hret, hlk⟩ := id C
  exact zz_iret C rfl h hW dX4_broken_117
def n_X4_broken_b86 (F : Nat)  (S : Zs) (x0 : Int32) (x1 : Int32) (x2 : Int32) : Option (Int32 × Zs) :=
  zlet ((x0 &&& (1 : Int32)) + (x1 &&& (1 : Int32))) (fun v1 => if v1 = (2 : Int32) then (some ((4 : Int32), S)) else (if v1 = (x2 &&& (1 : Int32)) then (n_X4_broken_b117 F  S (6 : Int32)) else (n_X4_broken_b117 F  S (5 : Int32))))
set_option maxRecDepth 20000 in
set_option maxHeartbeats 4000000 in
theorem w_X4_broken_b86 {F : Nat} {q : (Int32 × Zs)} {S : Zs}  {x0 : Int32} {x1 : Int32} {x2 : Int32} {ls : Array Slot} {H : Heap} {locs : List Loc} (C : zC p s m args meth c cX4_broken 8 RX4 (some .int))  (h : n_X4_broken_b86 F  S x0 x1 x2 = some q) (hW : zW (xG D cs ad) s S H locs) (hl : lv_has ls 8 [(0, .int x0), (1, .int x1), (2, .int x2)]) : W p l e (zR 2 45) s m args below meth c H locs 0 0 (zQi (xG D cs ad) q below args s) (F0 m 86 ls []) := by
  unfold n_X4_broken_b86 at h
  obtain ⟨hx, hb, hml, hown, hts, hret, hlk⟩ := id C
  refine lv_iload_n hx hb dX4_broken_86 rfl (lv_at hl 0 rfl) ?_
  refine lv_iconst (v := 1) hx hb dX4_broken_87 (by decide) ?_
  refine lv_iand hx hb dX4_broken_88 ?_
  refine lv_iload_n hx hb dX4_broken_89 rfl (lv_at hl 1 rfl) ?_
  refine lv_iconst (v := 1) hx hb dX4_broken_90 (by decide) ?_
  refine lv_iand hx hb dX4_broken_91 ?_
  refine lv_iadd hx hb dX4_broken_92 ?_
  refine zz_leti h (fun v1 h => ?_)
  refine lv_istore (lv' := [(7, .int v1), (0, .int x0), (1, .int x1), (2, .int x2)]) hx hb dX4_broken_93 hl (by decide) rfl (fun ls hl => ?_)
  refine lv_iload hx hb dX4_broken_95 (lv_at hl 0 rfl) ?_
  refine lv_iconst (v := 2) hx hb dX4_broken_97 (by decide) ?_
  refine zz_cne (tgt := 103) C h dX4_broken_98 (by decide) (fun h => ?_) (fun h => ?_)
  · refine lv_iload hx hb dX4_broken_103 (lv_at hl 0 rfl) ?_
    refine lv_iload_n hx hb dX4_broken_105 rfl (lv_at hl 3 rfl) ?_
    refine lv_iconst (v := 1) hx hb dX4_broken_106 (by decide) ?_
    refine lv_iand hx hb dX4_broken_107 ?_
    refine zz_ceq (tgt := 115) C h dX4_broken_108 (by decide) (fun h => ?_) (fun h => ?_)
    · refine lv_bipush (v := 6) hx hb dX4_broken_115 (by decide) ?_
      exact w_X4_broken_b117 (F := F) C h hW (lv_sub hl [] rfl)
    · refine lv_iconst (v := 5) hx hb dX4_broken_111 (by decide) ?_
      refine lv_goto (tgt := 117) hx hb dX4_broken_112 (by decide) ?_
      exact w_X4_broken_b117 (F := F) C h hW (lv_sub hl [] rfl)
  · refine lv_iconst (v := 4) hx hb dX4_broken_101 (by decide) ?_
    exact zz_iret C rfl h hW dX4_broken_102
def n_X4_broken_b66 (F : Nat)  (S : Zs) (x0 : Int32) (x1 : Int32) (x2 : Int32) (x5 : Int32) (x6 : Int32) : Option (Int32 × Zs) :=
  zcl (n_X4_isOfAll F S x6 (0 : Int32)) (fun v2 S1 => if v2 = 0 then (n_X4_broken_b86 F  S1 x0 x1 x2) else (zcl (n_X4_isOfAll F S1 x5 (0 : Int32)) (fun v4 S3 => if v4 = 0 then (some ((3 : Int32), S3)) else (n_X4_broken_b86 F  S3 x0 x1 x2))))
set_option maxRecDepth 20000 in
set_option maxHeartbeats 4000000 in
theorem w_X4_broken_b66 {F : Nat} {q : (Int32 × Zs)} {S : Zs}  {x0 : Int32} {x1 : Int32} {x2 : Int32} {x5 : Int32} {x6 : Int32} {ls : Array Slot} {H : Heap} {locs : List Loc} (C : zC p s m args meth c cX4_broken 8 RX4 (some .int))  (h : n_X4_broken_b66 F  S x0 x1 x2 x5 x6 = some q) (hW : zW (xG D cs ad) s S H locs) (hl : lv_has ls 8 [(0, .int x0), (1, .int x1), (2, .int x2), (5, .int x5), (6, .int x6)]) : W p l e (zR 2 45) s m args below meth c H locs 0 0 (zQi (xG D cs ad) q below args s) (F0 m 66 ls []) := by
  unfold n_X4_broken_b66 at h
  obtain ⟨hx, hb, hml, hown, hts, hret, hlk⟩ := id C
  refine lv_iload hx hb dX4_broken_66 (lv_at hl 4 rfl) ?_
  refine lv_iconst (v := 0) hx hb dX4_broken_68 (by decide) ?_
  refine zz_callSi (As := [.int x6, .int (0 : Int32)]) C hW h (fun r hr => c_X4_isOfAll hr) lk_X4_98 rfl hl.1 ⟨rfl, rfl⟩ ⟨Nat.le_of_ble_eq_true rfl, Nat.le_of_ble_eq_true rfl⟩ (Nat.le_of_ble_eq_true rfl) ⟨Nat.zero_le _, Nat.zero_le _⟩ rfl dX4_broken_69 (fun v2 S1 H locs h hW => ?_)
  refine zz_ieq (tgt := 86) C h dX4_broken_72 (by decide) (fun h => ?_) (fun h => ?_)
  · exact w_X4_broken_b86 (F := F) C h hW (lv_sub hl [0, 1, 2] rfl)
  · refine lv_iload hx hb dX4_broken_75 (lv_at hl 3 rfl) ?_
    refine lv_iconst (v := 0) hx hb dX4_broken_77 (by decide) ?_
    refine zz_callSi (As := [.int x5, .int (0 : Int32)]) C hW h (fun r hr => c_X4_isOfAll hr) lk_X4_98 rfl hl.1 ⟨rfl, rfl⟩ ⟨Nat.le_of_ble_eq_true rfl, Nat.le_of_ble_eq_true rfl⟩ (Nat.le_of_ble_eq_true rfl) ⟨Nat.zero_le _, Nat.zero_le _⟩ rfl dX4_broken_78 (fun v4 S3 H locs h hW => ?_)
    refine zz_ine (tgt := 86) C h dX4_broken_81 (by decide) (fun h => ?_) (fun h => ?_)
    · exact w_X4_broken_b86 (F := F) C h hW (lv_sub hl [0, 1, 2] rfl)
    · refine lv_iconst (v := 3) hx hb dX4_broken_84 (by decide) ?_
      exact zz_iret C rfl h hW dX4_broken_85
def n_X4_broken_b46 (F : Nat)  (S : Zs) (x0 : Int32) (x1 : Int32) (x2 : Int32) (x4 : Int32) (x5 : Int32) (x6 : Int32) : Option (Int32 × Zs) :=
  zcl (n_X4_isOfAll F S x6 (4 : Int32)) (fun v2 S1 => if v2 = 0 then (n_X4_broken_b66 F  S1 x0 x1 x2 x5 x6) else (zcl (n_X4_isOfAll F S1 x4 (4 : Int32)) (fun v4 S3 => if v4 = 0 then (some ((2 : Int32), S3)) else (n_X4_broken_b66 F  S3 x0 x1 x2 x5 x6))))
set_option maxRecDepth 20000 in
set_option maxHeartbeats 4000000 in
theorem w_X4_broken_b46 {F : Nat} {q : (Int32 × Zs)} {S : Zs}  {x0 : Int32} {x1 : Int32} {x2 : Int32} {x4 : Int32} {x5 : Int32} {x6 : Int32} {ls : Array Slot} {H : Heap} {locs : List Loc} (C : zC p s m args meth c cX4_broken 8 RX4 (some .int))  (h : n_X4_broken_b46 F  S x0 x1 x2 x4 x5 x6 = some q) (hW : zW (xG D cs ad) s S H locs) (hl : lv_has ls 8 [(0, .int x0), (1, .int x1), (2, .int x2), (4, .int x4), (5, .int x5), (6, .int x6)]) : W p l e (zR 2 45) s m args below meth c H locs 0 0 (zQi (xG D cs ad) q below args s) (F0 m 46 ls []) := by
  unfold n_X4_broken_b46 at h
  obtain ⟨hx, hb, hml, hown, hts, hret, hlk⟩ := id C
  refine lv_iload hx hb dX4_broken_46 (lv_at hl 5 rfl) ?_
  refine lv_iconst (v := 4) hx hb dX4_broken_48 (by decide) ?_
  refine zz_callSi (As := [.int x6, .int (4 : Int32)]) C hW h (fun r hr => c_X4_isOfAll hr) lk_X4_98 rfl hl.1 ⟨rfl, rfl⟩ ⟨Nat.le_of_ble_eq_true rfl, Nat.le_of_ble_eq_true rfl⟩ (Nat.le_of_ble_eq_true rfl) ⟨Nat.zero_le _, Nat.zero_le _⟩ rfl dX4_broken_49 (fun v2 S1 H locs h hW => ?_)
  refine zz_ieq (tgt := 66) C h dX4_broken_52 (by decide) (fun h => ?_) (fun h => ?_)
  · exact w_X4_broken_b66 (F := F) C h hW (lv_sub hl [0, 1, 2, 4, 5] rfl)
  · refine lv_iload hx hb dX4_broken_55 (lv_at hl 3 rfl) ?_
    refine lv_iconst (v := 4) hx hb dX4_broken_57 (by decide) ?_
    refine zz_callSi (As := [.int x4, .int (4 : Int32)]) C hW h (fun r hr => c_X4_isOfAll hr) lk_X4_98 rfl hl.1 ⟨rfl, rfl⟩ ⟨Nat.le_of_ble_eq_true rfl, Nat.le_of_ble_eq_true rfl⟩ (Nat.le_of_ble_eq_true rfl) ⟨Nat.zero_le _, Nat.zero_le _⟩ rfl dX4_broken_58 (fun v4 S3 H locs h hW => ?_)
    refine zz_ine (tgt := 66) C h dX4_broken_61 (by decide) (fun h => ?_) (fun h => ?_)
    · exact w_X4_broken_b66 (F := F) C h hW (lv_sub hl [0, 1, 2, 4, 5] rfl)
    · refine lv_iconst (v := 2) hx hb dX4_broken_64 (by decide) ?_
      exact zz_iret C rfl h hW dX4_broken_65
def n_X4_broken_e (F : Nat)  (S : Zs) (x0 : Int32) (x1 : Int32) (x2 : Int32) (x3 : Int32) : Option (Int32 × Zs) :=
  zcl (n_X4_firstPremise F S x3 x0 (2 : Int32) (4 : Int32)) (fun v2 S1 => zcl (n_X4_secondPremise F S1 x3 x1 (2 : Int32) (0 : Int32)) (fun v4 S3 => zcl (n_X0_make F S3 x2 (0 : Int32) (4 : Int32)) (fun v6 S5 => zcl (n_X4_isOfAll F S5 v2 (2 : Int32)) (fun v8 S7 => if v8 = 0 then (zcl (n_X4_isOfAll F S7 v4 (2 : Int32)) (fun v10 S9 => if v10 = 0 then (some ((1 : Int32), S9)) else (n_X4_broken_b46 F  S9 x0 x1 x2 v2 v4 v6))) else (n_X4_broken_b46 F  S7 x0 x1 x2 v2 v4 v6)))))
set_option maxRecDepth 20000 in
set_option maxHeartbeats 4000000 in
theorem w_X4_broken_e {F : Nat} {q : (Int32 × Zs)} {S : Zs}  {x0 : Int32} {x1 : Int32} {x2 : Int32} {x3 : Int32} {ls : Array Slot} {H : Heap} {locs : List Loc} (C : zC p s m args meth c cX4_broken 8 RX4 (some .int))  (h : n_X4_broken_e F  S x0 x1 x2 x3 = some q) (hW : zW (xG D cs ad) s S H locs) (hl : lv_has ls 8 [(0, .int x0), (1, .int x1), (2, .int x2), (3, .int x3)]) : W p l e (zR 2 45) s m args below meth c H locs 0 0 (zQi (xG D cs ad) q below args s) (F0 m 0 ls []) := by
  unfold n_X4_broken_e at h
  obtain ⟨hx, hb, hml, hown, hts, hret, hlk⟩ := id C
  refine lv_iload_n hx hb dX4_broken_0 rfl (lv_at hl 3 rfl) ?_
  refine lv_iload_n hx hb dX4_broken_1 rfl (lv_at hl 0 rfl) ?_
  refine lv_iconst (v := 2) hx hb dX4_broken_2 (by decide) ?_
  refine lv_iconst (v := 4) hx hb dX4_broken_3 (by decide) ?_
  refine zz_callSi (As := [.int x3, .int x0, .int (2 : Int32), .int (4 : Int32)]) C hW h (fun r hr => c_X4_firstPremise hr) lk_X4_67 rfl hl.1 ⟨rfl, rfl⟩ ⟨Nat.le_of_ble_eq_true rfl, Nat.le_of_ble_eq_true rfl⟩ (Nat.le_of_ble_eq_true rfl) ⟨Nat.zero_le _, Nat.zero_le _⟩ rfl dX4_broken_4 (fun v2 S1 H locs h hW => ?_)
  refine lv_istore (lv' := [(4, .int v2), (0, .int x0), (1, .int x1), (2, .int x2), (3, .int x3)]) hx hb dX4_broken_7 hl (by decide) rfl (fun ls hl => ?_)
  refine lv_iload_n hx hb dX4_broken_9 rfl (lv_at hl 4 rfl) ?_
  refine lv_iload_n hx hb dX4_broken_10 rfl (lv_at hl 2 rfl) ?_
  refine lv_iconst (v := 2) hx hb dX4_broken_11 (by decide) ?_
  refine lv_iconst (v := 0) hx hb dX4_broken_12 (by decide) ?_
  refine zz_callSi (As := [.int x3, .int x1, .int (2 : Int32), .int (0 : Int32)]) C hW h (fun r hr => c_X4_secondPremise hr) lk_X4_71 rfl hl.1 ⟨rfl, rfl⟩ ⟨Nat.le_of_ble_eq_true rfl, Nat.le_of_ble_eq_true rfl⟩ (Nat.le_of_ble_eq_true rfl) ⟨Nat.zero_le _, Nat.zero_le _⟩ rfl dX4_broken_13 (fun v4 S3 H locs h hW => ?_)
  refine lv_istore (lv' := [(5, .int v4), (4, .int v2), (0, .int x0), (1, .int x1), (2, .int x2), (3, .int x3)]) hx hb dX4_broken_16 hl (by decide) rfl (fun ls hl => ?_)
  refine lv_iload_n hx hb dX4_broken_18 rfl (lv_at hl 4 rfl) ?_
  refine lv_iconst (v := 0) hx hb dX4_broken_19 (by decide) ?_
  refine lv_iconst (v := 4) hx hb dX4_broken_20 (by decide) ?_
  refine zz_callSi (As := [.int x2, .int (0 : Int32), .int (4 : Int32)]) C hW h (fun r hr => c_X0_make hr) lk_X4_18 rfl hl.1 ⟨rfl, rfl⟩ ⟨Nat.le_of_ble_eq_true rfl, Nat.le_of_ble_eq_true rfl⟩ (Nat.le_of_ble_eq_true rfl) ⟨Nat.zero_le _, Nat.zero_le _⟩ rfl dX4_broken_21 (fun v6 S5 H locs h hW => ?_)
  refine lv_istore (lv' := [(6, .int v6), (5, .int v4), (4, .int v2), (0, .int x0), (1, .int x1), (2, .int x2), (3, .int x3)]) hx hb dX4_broken_24 hl (by decide) rfl (fun ls hl => ?_)
  refine lv_iload hx hb dX4_broken_26 (lv_at hl 2 rfl) ?_
  refine lv_iconst (v := 2) hx hb dX4_broken_28 (by decide) ?_
  refine zz_callSi (As := [.int v2, .int (2 : Int32)]) C hW h (fun r hr => c_X4_isOfAll hr) lk_X4_98 rfl hl.1 ⟨rfl, rfl⟩ ⟨Nat.le_of_ble_eq_true rfl, Nat.le_of_ble_eq_true rfl⟩ (Nat.le_of_ble_eq_true rfl) ⟨Nat.zero_le _, Nat.zero_le _⟩ rfl dX4_broken_29 (fun v8 S7 H locs h hW => ?_)
  refine zz_ine (tgt := 46) C h dX4_broken_32 (by decide) (fun h => ?_) (fun h => ?_)
  · exact w_X4_broken_b46 (F := F) C h hW (lv_sub hl [3, 4, 5, 2, 1, 0] rfl)
  · refine lv_iload hx hb dX4_broken_35 (lv_at hl 1 rfl) ?_
    refine lv_iconst (v := 2) hx hb dX4_broken_37 (by decide) ?_
    refine zz_callSi (As := [.int v4, .int (2 : Int32)]) C hW h (fun r hr => c_X4_isOfAll hr) lk_X4_98 rfl hl.1 ⟨rfl, rfl⟩ ⟨Nat.le_of_ble_eq_true rfl, Nat.le_of_ble_eq_true rfl⟩ (Nat.le_of_ble_eq_true rfl) ⟨Nat.zero_le _, Nat.zero_le _⟩ rfl dX4_broken_38 (fun v10 S9 H locs h hW => ?_)
    refine zz_ine (tgt := 46) C h dX4_broken_41 (by decide) (fun h => ?_) (fun h => ?_)
    · exact w_X4_broken_b46 (F := F) C h hW (lv_sub hl [3, 4, 5, 2, 1, 0] rfl)
    · refine lv_iconst (v := 1) hx hb dX4_broken_44 (by decide) ?_
      exact zz_iret C rfl h hW dX4_broken_45
def n_X4_broken (F : Nat) (S : Zs) (x0 : Int32) (x1 : Int32) (x2 : Int32) (x3 : Int32) : Option (Int32 × Zs) := n_X4_broken_e F  S x0 x1 x2 x3
theorem c_X4_broken {l : Launch} {D : va_G} {cs ad : Nat → Nat} {F : Nat} {S : Zs} {x0 : Int32} {x1 : Int32} {x2 : Int32} {x3 : Int32} {q : (Int32 × Zs)} (h : n_X4_broken F S x0 x1 x2 x3 = some q) : zMi l yX4_broken cX4_broken 8 (some .int) (zR 2 45) (xG D cs ad) [.int x0, .int x1, .int x2, .int x3] S q :=
  zz_enter (by decide) (Nat.le_of_ble_eq_true rfl) (fun p e s m below meth c ls C hW hl => w_X4_broken_e (F := F) C h hW (lv_sub hl [0, 1, 2, 3] rfl))
def n_X11_mood_0_b33 (F : Nat)  (S : Zs)  : Option (Int32 × Zs) :=
  some ((-1 : Int32), S)
set_option maxRecDepth 20000 in
set_option maxHeartbeats 4000000 in
theorem w_X11_mood_0_b33 {F : Nat} {q : (Int32 × Zs)} {S : Zs}   {ls : Array Slot} {H : Heap} {locs : List Loc} (C : zC p s m args meth c cX11_mood 6 RX11 (some .int))  (h : n_X11_mood_0_b33 F  S  = some q) (hW : zW (xG D cs ad) s S H locs) (hl : lv_has ls 6 []) : W p l e (zR 4 96) s m args below meth c H locs 0 0 (zQi (xG D cs ad) q below args s) (F0 m 33 ls []) := by
  unfold n_X11_mood_0_b33 at h
  obtain ⟨hx, hb, hml, hown, hts, hret, hlk⟩ := id C
  refine lv_iconst (v := -1) hx hb dX11_mood_33 (by decide) ?_
  exact zz_iret C rfl h hW dX11_mood_34
def n_X11_mood_0_b93 (F : Nat)  (S : Zs) (t0 : Int32) : Option (Int32 × Zs) :=
  some (t0, S)
set_option maxRecDepth 20000 in
set_option maxHeartbeats 4000000 in
theorem w_X11_mood_0_b93 {F : Nat} {q : (Int32 × Zs)} {S : Zs}  {t0 : Int32} {ls : Array Slot} {H : Heap} {locs : List Loc} (C : zC p s m args meth c cX11_mood 6 RX11 (some .int))  (h : n_X11_mood_0_b93 F  S t0 = some q) (hW : zW (xG D cs ad) s S H locs) (hl : lv_has ls 6 []) : W p l e (zR 4 96) s m args below meth c H locs 0 0 (zQi (xG D cs ad) q below args s) (F0 m 93 ls [.int t0]) := by
  unfold n_X11_mood_0_b93 at h
  obtain ⟨hx, hb, hml, hown, hts, hret, hlk⟩ := id C
  exact zz_iret C rfl h hW dX11_mood_93
def n_X11_mood_0_b80 (F : Nat)  (S : Zs) (x5 : Int32) (t0 : Int32) : Option (Int32 × Zs) :=
  zcl (n_X11_tellOne_0 F S t0) (fun v2 S1 => if x5 ≤ 0 then (n_X11_mood_0_b93 F  S1 (0 : Int32)) else (n_X11_mood_0_b93 F  S1 (1 : Int32)))
set_option maxRecDepth 20000 in
set_option maxHeartbeats 4000000 in
theorem w_X11_mood_0_b80 {F : Nat} {q : (Int32 × Zs)} {S : Zs}  {x5 : Int32} {t0 : Int32} {ls : Array Slot} {H : Heap} {locs : List Loc} (C : zC p s m args meth c cX11_mood 6 RX11 (some .int))  (h : n_X11_mood_0_b80 F  S x5 t0 = some q) (hW : zW (xG D cs ad) s S H locs) (hl : lv_has ls 6 [(5, .int x5)]) : W p l e (zR 4 96) s m args below meth c H locs 0 0 (zQi (xG D cs ad) q below args s) (F0 m 80 ls [.int t0, .ref (ad 0)]) := by
  unfold n_X11_mood_0_b80 at h
  obtain ⟨hx, hb, hml, hown, hts, hret, hlk⟩ := id C
  refine zz_callVv (As := [.int t0]) C hW h (fun r hr => c_X11_tellOne_0 hr) lk_X11_182 (hW.recv xr_0) rfl hl.1 ⟨rfl, rfl⟩ ⟨Nat.le_of_ble_eq_true rfl, Nat.le_of_ble_eq_true rfl⟩ (Nat.le_of_ble_eq_true rfl) ⟨Nat.zero_le _, Nat.zero_le _⟩ rfl dX11_mood_80 (fun v2 S1 H locs h hW => ?_)
  refine lv_iload hx hb dX11_mood_83 (lv_at hl 0 rfl) ?_
  refine zz_ile (tgt := 92) C h dX11_mood_85 (by decide) (fun h => ?_) (fun h => ?_)
  · refine lv_iconst (v := 0) hx hb dX11_mood_92 (by decide) ?_
    exact w_X11_mood_0_b93 (F := F) C h hW (lv_sub hl [] rfl)
  · refine lv_iconst (v := 1) hx hb dX11_mood_88 (by decide) ?_
    refine lv_goto (tgt := 93) hx hb dX11_mood_89 (by decide) ?_
    exact w_X11_mood_0_b93 (F := F) C h hW (lv_sub hl [] rfl)
def n_X11_mood_0_e (F : Nat)  (S : Zs) (x1 : Int32) (x2 : Int32) (x3 : Int32) (x4 : Int32) : Option (Int32 × Zs) :=
  zcl (n_X0_isForm F S x1) (fun v2 S1 => if v2 = 0 then (n_X11_mood_0_b33 F  S1 ) else (zcl (n_X0_isForm F S1 x2) (fun v4 S3 => if v4 = 0 then (n_X11_mood_0_b33 F  S3 ) else (zcl (n_X0_isForm F S3 x3) (fun v6 S5 => if v6 = 0 then (n_X11_mood_0_b33 F  S5 ) else (if x4 < (1 : Int32) then (n_X11_mood_0_b33 F  S5 ) else (if x4 ≤ (4 : Int32) then (zcl (n_X4_mustLive_30 F S5 x1 x2 x3 x4) (fun v8 S7 => if v8 = 0 then (zpf S7 10 (0 : Int32) (fun S11 => some ((2 : Int32), S11))) else (if v8 ≤ 0 then (zcl (n_X4_broken F S7 x1 x2 x3 x4) (fun v10 S9 => n_X11_mood_0_b80 F  S9 v8 v10)) else (n_X11_mood_0_b80 F  S7 v8 v8)))) else (n_X11_mood_0_b33 F  S5 ))))))))
set_option maxRecDepth 20000 in
set_option maxHeartbeats 4000000 in
theorem w_X11_mood_0_e {F : Nat} {q : (Int32 × Zs)} {S : Zs}  {x1 : Int32} {x2 : Int32} {x3 : Int32} {x4 : Int32} {ls : Array Slot} {H : Heap} {locs : List Loc} (C : zC p s m args meth c cX11_mood 6 RX11 (some .int))  (h : n_X11_mood_0_e F  S x1 x2 x3 x4 = some q) (hW : zW (xG D cs ad) s S H locs) (hl : lv_has ls 6 [(0, .ref (ad 0)), (1, .int x1), (2, .int x2), (3, .int x3), (4, .int x4)]) : W p l e (zR 4 96) s m args below meth c H locs 0 0 (zQi (xG D cs ad) q below args s) (F0 m 0 ls []) := by
  unfold n_X11_mood_0_e at h
  obtain ⟨hx, hb, hml, hown, hts, hret, hlk⟩ := id C
  refine lv_iload_n hx hb dX11_mood_0 rfl (lv_at hl 1 rfl) ?_
  refine zz_callSi (As := [.int x1]) C hW h (fun r hr => c_X0_isForm hr) lk_X11_232 rfl hl.1 ⟨rfl, rfl⟩ ⟨Nat.le_of_ble_eq_true rfl, Nat.le_of_ble_eq_true rfl⟩ (Nat.le_of_ble_eq_true rfl) ⟨Nat.zero_le _, Nat.zero_le _⟩ rfl dX11_mood_1 (fun v2 S1 H locs h hW => ?_)
  refine zz_ieq (tgt := 33) C h dX11_mood_4 (by decide) (fun h => ?_) (fun h => ?_)
  · exact w_X11_mood_0_b33 (F := F) C h hW (lv_sub hl [] rfl)
  · refine lv_iload_n hx hb dX11_mood_7 rfl (lv_at hl 2 rfl) ?_
    refine zz_callSi (As := [.int x2]) C hW h (fun r hr => c_X0_isForm hr) lk_X11_232 rfl hl.1 ⟨rfl, rfl⟩ ⟨Nat.le_of_ble_eq_true rfl, Nat.le_of_ble_eq_true rfl⟩ (Nat.le_of_ble_eq_true rfl) ⟨Nat.zero_le _, Nat.zero_le _⟩ rfl dX11_mood_8 (fun v4 S3 H locs h hW => ?_)
    refine zz_ieq (tgt := 33) C h dX11_mood_11 (by decide) (fun h => ?_) (fun h => ?_)
    · exact w_X11_mood_0_b33 (F := F) C h hW (lv_sub hl [] rfl)
    · refine lv_iload_n hx hb dX11_mood_14 rfl (lv_at hl 3 rfl) ?_
      refine zz_callSi (As := [.int x3]) C hW h (fun r hr => c_X0_isForm hr) lk_X11_232 rfl hl.1 ⟨rfl, rfl⟩ ⟨Nat.le_of_ble_eq_true rfl, Nat.le_of_ble_eq_true rfl⟩ (Nat.le_of_ble_eq_true rfl) ⟨Nat.zero_le _, Nat.zero_le _⟩ rfl dX11_mood_15 (fun v6 S5 H locs h hW => ?_)
      refine zz_ieq (tgt := 33) C h dX11_mood_18 (by decide) (fun h => ?_) (fun h => ?_)
      · exact w_X11_mood_0_b33 (F := F) C h hW (lv_sub hl [] rfl)
      · refine lv_iload hx hb dX11_mood_21 (lv_at hl 4 rfl) ?_
        refine lv_iconst (v := 1) hx hb dX11_mood_23 (by decide) ?_
        refine zz_clt (tgt := 33) C h dX11_mood_24 (by decide) (fun h => ?_) (fun h => ?_)
        · exact w_X11_mood_0_b33 (F := F) C h hW (lv_sub hl [] rfl)
        · refine lv_iload hx hb dX11_mood_27 (lv_at hl 4 rfl) ?_
          refine lv_iconst (v := 4) hx hb dX11_mood_29 (by decide) ?_
          refine zz_cle (tgt := 35) C h dX11_mood_30 (by decide) (fun h => ?_) (fun h => ?_)
          · refine lv_aload_n hx hb dX11_mood_35 rfl (lv_at hl 0 rfl) ?_
            refine xg_0_6 C hW fl_X11_60 dX11_mood_36 ?_
            refine lv_iload_n hx hb dX11_mood_39 rfl (lv_at hl 1 rfl) ?_
            refine lv_iload_n hx hb dX11_mood_40 rfl (lv_at hl 2 rfl) ?_
            refine lv_iload_n hx hb dX11_mood_41 rfl (lv_at hl 3 rfl) ?_
            refine lv_iload hx hb dX11_mood_42 (lv_at hl 4 rfl) ?_
            refine zz_callVi (As := [.int x1, .int x2, .int x3, .int x4]) C hW h (fun r hr => c_X4_mustLive_30 hr) lk_X11_235 (hW.recv xr_30) rfl hl.1 ⟨rfl, rfl⟩ ⟨Nat.le_of_ble_eq_true rfl, Nat.le_of_ble_eq_true rfl⟩ (Nat.le_of_ble_eq_true rfl) ⟨Nat.zero_le _, Nat.zero_le _⟩ rfl dX11_mood_44 (fun v8 S7 H locs h hW => ?_)
            refine lv_istore (lv' := [(5, .int v8), (0, .ref (ad 0)), (1, .int x1), (2, .int x2), (3, .int x3), (4, .int x4)]) hx hb dX11_mood_47 hl (by decide) rfl (fun ls hl => ?_)
            refine lv_iload hx hb dX11_mood_49 (lv_at hl 0 rfl) ?_
            refine zz_ine (tgt := 61) C h dX11_mood_51 (by decide) (fun h => ?_) (fun h => ?_)
            · refine lv_aload_n hx hb dX11_mood_61 rfl (lv_at hl 1 rfl) ?_
              refine lv_iload hx hb dX11_mood_62 (lv_at hl 0 rfl) ?_
              refine zz_ile (tgt := 72) C h dX11_mood_64 (by decide) (fun h => ?_) (fun h => ?_)
              · refine lv_iload_n hx hb dX11_mood_72 rfl (lv_at hl 2 rfl) ?_
                refine lv_iload_n hx hb dX11_mood_73 rfl (lv_at hl 3 rfl) ?_
                refine lv_iload_n hx hb dX11_mood_74 rfl (lv_at hl 4 rfl) ?_
                refine lv_iload hx hb dX11_mood_75 (lv_at hl 5 rfl) ?_
                refine zz_callSi (As := [.int x1, .int x2, .int x3, .int x4]) C hW h (fun r hr => c_X4_broken hr) lk_X11_238 rfl hl.1 ⟨rfl, rfl⟩ ⟨Nat.le_of_ble_eq_true rfl, Nat.le_of_ble_eq_true rfl⟩ (Nat.le_of_ble_eq_true rfl) ⟨Nat.zero_le _, Nat.zero_le _⟩ rfl dX11_mood_77 (fun v10 S9 H locs h hW => ?_)
                exact w_X11_mood_0_b80 (F := F) C h hW (lv_sub hl [0] rfl)
              · refine lv_iload hx hb dX11_mood_67 (lv_at hl 0 rfl) ?_
                refine lv_goto (tgt := 80) hx hb dX11_mood_69 (by decide) ?_
                exact w_X11_mood_0_b80 (F := F) C h hW (lv_sub hl [0] rfl)
            · refine lv_aload_n hx hb dX11_mood_54 rfl (lv_at hl 1 rfl) ?_
              refine lv_iconst (v := 0) hx hb dX11_mood_55 (by decide) ?_
              refine xp_0_10 C hW h fl_X11_82 dX11_mood_56 (fun S11 H locs h hW => ?_)
              refine lv_iconst (v := 2) hx hb dX11_mood_59 (by decide) ?_
              exact zz_iret C rfl h hW dX11_mood_60
          · exact w_X11_mood_0_b33 (F := F) C h hW (lv_sub hl [] rfl)
def n_X11_mood_0 (F : Nat) (S : Zs) (x1 : Int32) (x2 : Int32) (x3 : Int32) (x4 : Int32) : Option (Int32 × Zs) := n_X11_mood_0_e F  S x1 x2 x3 x4
theorem c_X11_mood_0 {l : Launch} {D : va_G} {cs ad : Nat → Nat} {F : Nat} {S : Zs} {x1 : Int32} {x2 : Int32} {x3 : Int32} {x4 : Int32} {q : (Int32 × Zs)} (h : n_X11_mood_0 F S x1 x2 x3 x4 = some q) : zMi l yX11_mood cX11_mood 6 (some .int) (zR 4 96) (xG D cs ad) [.ref (ad 0), .int x1, .int x2, .int x3, .int x4] S q :=
  zz_enter (by decide) (Nat.le_of_ble_eq_true rfl) (fun p e s m below meth c ls C hW hl => w_X11_mood_0_e (F := F) C h hW (lv_sub hl [0, 1, 2, 3, 4] rfl))
def n_X11_figure_0_b10 (F : Nat)  (S : Zs)  : Option (Int32 × Zs) :=
  some ((-1 : Int32), S)
set_option maxRecDepth 20000 in
set_option maxHeartbeats 4000000 in
theorem w_X11_figure_0_b10 {F : Nat} {q : (Int32 × Zs)} {S : Zs}   {ls : Array Slot} {H : Heap} {locs : List Loc} (C : zC p s m args meth c cX11_figure 6 RX11 (some .int))  (h : n_X11_figure_0_b10 F  S  = some q) (hW : zW (xG D cs ad) s S H locs) (hl : lv_has ls 6 []) : W p l e (zR 4 96) s m args below meth c H locs 0 0 (zQi (xG D cs ad) q below args s) (F0 m 10 ls []) := by
  unfold n_X11_figure_0_b10 at h
  obtain ⟨hx, hb, hml, hown, hts, hret, hlk⟩ := id C
  refine lv_iconst (v := -1) hx hb dX11_figure_10 (by decide) ?_
  exact zz_iret C rfl h hW dX11_figure_11
def n_X11_figure_0_b74 (F : Nat) (rc19 : Zs → Int32 → Int32 → Int32 → Int32 → Option (Int32 × Zs)) (S : Zs) (x1 : Int32) (x2 : Int32) (x4 : Int32) (t0 : Int32) (t1 : Int32) : Option (Int32 × Zs) :=
  zlet (t1 + t0) (fun v1 => zlet (x4 + (1 : Int32)) (fun v2 => rc19 S x1 x2 v1 v2))
set_option maxRecDepth 20000 in
set_option maxHeartbeats 4000000 in
theorem w_X11_figure_0_b74 {F : Nat} {q : (Int32 × Zs)} {S : Zs} {rc19 : Zs → Int32 → Int32 → Int32 → Int32 → Option (Int32 × Zs)} {x1 : Int32} {x2 : Int32} {x4 : Int32} {t0 : Int32} {t1 : Int32} {ls : Array Slot} {H : Heap} {locs : List Loc} (C : zC p s m args meth c cX11_figure 6 RX11 (some .int)) (hrc19 : ∀ (S : Zs) (x1 : Int32) (x2 : Int32) (x3 : Int32) (x4 : Int32) (H : Heap) (locs : List Loc) (ls : Array Slot), rc19 S x1 x2 x3 x4 = some q → zW (xG D cs ad) s S H locs → lv_has ls 6 [(0, .ref (ad 0)), (1, .int x1), (2, .int x2), (3, .int x3), (4, .int x4)] → W p l e (zR 4 96) s m args below meth c H locs 0 0 (zQi (xG D cs ad) q below args s) (F0 m 19 ls [])) (h : n_X11_figure_0_b74 F rc19 S x1 x2 x4 t0 t1 = some q) (hW : zW (xG D cs ad) s S H locs) (hl : lv_has ls 6 [(0, .ref (ad 0)), (1, .int x1), (2, .int x2), (4, .int x4)]) : W p l e (zR 4 96) s m args below meth c H locs 0 0 (zQi (xG D cs ad) q below args s) (F0 m 74 ls [.int t0, .int t1]) := by
  unfold n_X11_figure_0_b74 at h
  obtain ⟨hx, hb, hml, hown, hts, hret, hlk⟩ := id C
  refine lv_iadd hx hb dX11_figure_74 ?_
  refine zz_leti h (fun v1 h => ?_)
  refine lv_istore_n (lv' := [(3, .int v1), (0, .ref (ad 0)), (1, .int x1), (2, .int x2), (4, .int x4)]) hx hb dX11_figure_75 rfl hl (by decide) rfl (fun ls hl => ?_)
  obtain ⟨v2, ev2, h⟩ := zz_name h
  refine lv_iinc (v := v2) (lv' := [(4, .int v2), (3, .int v1), (0, .ref (ad 0)), (1, .int x1), (2, .int x2)]) hx hb dX11_figure_76 hl (k := 4) rfl ev2.symm (by decide) rfl (fun ls hl => ?_)
  refine lv_goto (tgt := 19) hx hb dX11_figure_79 (by decide) ?_
  exact hrc19 _ _ _ _ _ _ _ _ h hW (lv_sub hl [2, 3, 4, 1, 0] rfl)
def n_X11_figure_0_b61 (F : Nat) (rc19 : Zs → Int32 → Int32 → Int32 → Int32 → Option (Int32 × Zs)) (S : Zs) (x1 : Int32) (x3 : Int32) (x4 : Int32) (x5 : Int32) (t0 : Int32) (t1 : Int32) : Option (Int32 × Zs) :=
  zlet (t1 + t0) (fun v1 => if x5 ≤ 0 then (n_X11_figure_0_b74 F rc19 S x1 v1 x4 (0 : Int32) x3) else (n_X11_figure_0_b74 F rc19 S x1 v1 x4 (1 : Int32) x3))
set_option maxRecDepth 20000 in
set_option maxHeartbeats 4000000 in
theorem w_X11_figure_0_b61 {F : Nat} {q : (Int32 × Zs)} {S : Zs} {rc19 : Zs → Int32 → Int32 → Int32 → Int32 → Option (Int32 × Zs)} {x1 : Int32} {x3 : Int32} {x4 : Int32} {x5 : Int32} {t0 : Int32} {t1 : Int32} {ls : Array Slot} {H : Heap} {locs : List Loc} (C : zC p s m args meth c cX11_figure 6 RX11 (some .int)) (hrc19 : ∀ (S : Zs) (x1 : Int32) (x2 : Int32) (x3 : Int32) (x4 : Int32) (H : Heap) (locs : List Loc) (ls : Array Slot), rc19 S x1 x2 x3 x4 = some q → zW (xG D cs ad) s S H locs → lv_has ls 6 [(0, .ref (ad 0)), (1, .int x1), (2, .int x2), (3, .int x3), (4, .int x4)] → W p l e (zR 4 96) s m args below meth c H locs 0 0 (zQi (xG D cs ad) q below args s) (F0 m 19 ls [])) (h : n_X11_figure_0_b61 F rc19 S x1 x3 x4 x5 t0 t1 = some q) (hW : zW (xG D cs ad) s S H locs) (hl : lv_has ls 6 [(0, .ref (ad 0)), (1, .int x1), (3, .int x3), (4, .int x4), (5, .int x5)]) : W p l e (zR 4 96) s m args below meth c H locs 0 0 (zQi (xG D cs ad) q below args s) (F0 m 61 ls [.int t0, .int t1]) := by
  unfold n_X11_figure_0_b61 at h
  obtain ⟨hx, hb, hml, hown, hts, hret, hlk⟩ := id C
  refine lv_iadd hx hb dX11_figure_61 ?_
  refine zz_leti h (fun v1 h => ?_)
  refine lv_istore_n (lv' := [(2, .int v1), (0, .ref (ad 0)), (1, .int x1), (3, .int x3), (4, .int x4), (5, .int x5)]) hx hb dX11_figure_62 rfl hl (by decide) rfl (fun ls hl => ?_)
  refine lv_iload_n hx hb dX11_figure_63 rfl (lv_at hl 3 rfl) ?_
  refine lv_iload hx hb dX11_figure_64 (lv_at hl 5 rfl) ?_
  refine zz_ile (tgt := 73) C h dX11_figure_66 (by decide) (fun h => ?_) (fun h => ?_)
  · refine lv_iconst (v := 0) hx hb dX11_figure_73 (by decide) ?_
    exact w_X11_figure_0_b74 (F := F) C hrc19 h hW (lv_sub hl [1, 2, 0, 4] rfl)
  · refine lv_iconst (v := 1) hx hb dX11_figure_69 (by decide) ?_
    refine lv_goto (tgt := 74) hx hb dX11_figure_70 (by decide) ?_
    exact w_X11_figure_0_b74 (F := F) C hrc19 h hW (lv_sub hl [1, 2, 0, 4] rfl)
def n_X11_figure_0_b19_l (F : Nat) (rc19 : Zs → Int32 → Int32 → Int32 → Int32 → Option (Int32 × Zs)) (S : Zs) (x1 : Int32) (x2 : Int32) (x3 : Int32) (x4 : Int32) : Option (Int32 × Zs) :=
  if (64 : Int32) ≤ x4 then (zcl (n_X11_tellOne_0 F S x3) (fun v2 S1 => some (x2, S1))) else (zcl (n_X4_mustLive_30 F S (x4 >>> ((4 : Int32) &&& 31)) ((x4 >>> ((2 : Int32) &&& 31)) &&& (3 : Int32)) (x4 &&& (3 : Int32)) x1) (fun v4 S3 => if v4 = 0 then (n_X11_figure_0_b61 F rc19 S3 x1 x3 x4 v4 (1 : Int32) x2) else (n_X11_figure_0_b61 F rc19 S3 x1 x3 x4 v4 (0 : Int32) x2)))
set_option maxRecDepth 20000 in
set_option maxHeartbeats 4000000 in
theorem w_X11_figure_0_b19_l {F : Nat} {q : (Int32 × Zs)} {S : Zs} {rc19 : Zs → Int32 → Int32 → Int32 → Int32 → Option (Int32 × Zs)} {x1 : Int32} {x2 : Int32} {x3 : Int32} {x4 : Int32} {ls : Array Slot} {H : Heap} {locs : List Loc} (C : zC p s m args meth c cX11_figure 6 RX11 (some .int)) (hrc19 : ∀ (S : Zs) (x1 : Int32) (x2 : Int32) (x3 : Int32) (x4 : Int32) (H : Heap) (locs : List Loc) (ls : Array Slot), rc19 S x1 x2 x3 x4 = some q → zW (xG D cs ad) s S H locs → lv_has ls 6 [(0, .ref (ad 0)), (1, .int x1), (2, .int x2), (3, .int x3), (4, .int x4)] → W p l e (zR 4 96) s m args below meth c H locs 0 0 (zQi (xG D cs ad) q below args s) (F0 m 19 ls [])) (h : n_X11_figure_0_b19_l F rc19 S x1 x2 x3 x4 = some q) (hW : zW (xG D cs ad) s S H locs) (hl : lv_has ls 6 [(0, .ref (ad 0)), (1, .int x1), (2, .int x2), (3, .int x3), (4, .int x4)]) : W p l e (zR 4 96) s m args below meth c H locs 0 0 (zQi (xG D cs ad) q below args s) (F0 m 19 ls []) := by
  unfold n_X11_figure_0_b19_l at h
  obtain ⟨hx, hb, hml, hown, hts, hret, hlk⟩ := id C
  refine lv_iload hx hb dX11_figure_19 (lv_at hl 4 rfl) ?_
  refine lv_bipush (v := 64) hx hb dX11_figure_21 (by decide) ?_
  refine zz_cge (tgt := 82) C h dX11_figure_23 (by decide) (fun h => ?_) (fun h => ?_)
  · refine lv_aload_n hx hb dX11_figure_82 rfl (lv_at hl 0 rfl) ?_
    refine lv_iload_n hx hb dX11_figure_83 rfl (lv_at hl 3 rfl) ?_
    refine zz_callVv (As := [.int x3]) C hW h (fun r hr => c_X11_tellOne_0 hr) lk_X11_182 (hW.recv xr_0) rfl hl.1 ⟨rfl, rfl⟩ ⟨Nat.le_of_ble_eq_true rfl, Nat.le_of_ble_eq_true rfl⟩ (Nat.le_of_ble_eq_true rfl) ⟨Nat.zero_le _, Nat.zero_le _⟩ rfl dX11_figure_84 (fun v2 S1 H locs h hW => ?_)
    refine lv_iload_n hx hb dX11_figure_87 rfl (lv_at hl 2 rfl) ?_
    exact zz_iret C rfl h hW dX11_figure_88
  · refine lv_aload_n hx hb dX11_figure_26 rfl (lv_at hl 0 rfl) ?_
    refine xg_0_6 C hW fl_X11_60 dX11_figure_27 ?_
    refine lv_iload hx hb dX11_figure_30 (lv_at hl 4 rfl) ?_
    refine lv_iconst (v := 4) hx hb dX11_figure_32 (by decide) ?_
    refine lv_ishr hx hb dX11_figure_33 ?_
    refine lv_iload hx hb dX11_figure_34 (lv_at hl 4 rfl) ?_
    refine lv_iconst (v := 2) hx hb dX11_figure_36 (by decide) ?_
    refine lv_ishr hx hb dX11_figure_37 ?_
    refine lv_iconst (v := 3) hx hb dX11_figure_38 (by decide) ?_
    refine lv_iand hx hb dX11_figure_39 ?_
    refine lv_iload hx hb dX11_figure_40 (lv_at hl 4 rfl) ?_
    refine lv_iconst (v := 3) hx hb dX11_figure_42 (by decide) ?_
    refine lv_iand hx hb dX11_figure_43 ?_
    refine lv_iload_n hx hb dX11_figure_44 rfl (lv_at hl 1 rfl) ?_
    refine zz_callVi (As := [.int (x4 >>> ((4 : Int32) &&& 31)), .int ((x4 >>> ((2 : Int32) &&& 31)) &&& (3 : Int32)), .int (x4 &&& (3 : Int32)), .int x1]) C hW h (fun r hr => c_X4_mustLive_30 hr) lk_X11_235 (hW.recv xr_30) rfl hl.1 ⟨rfl, rfl⟩ ⟨Nat.le_of_ble_eq_true rfl, Nat.le_of_ble_eq_true rfl⟩ (Nat.le_of_ble_eq_true rfl) ⟨Nat.zero_le _, Nat.zero_le _⟩ rfl dX11_figure_45 (fun v4 S3 H locs h hW => ?_)
    refine lv_istore (lv' := [(5, .int v4), (0, .ref (ad 0)), (1, .int x1), (2, .int x2), (3, .int x3), (4, .int x4)]) hx hb dX11_figure_48 hl (by decide) rfl (fun ls hl => ?_)
    refine lv_iload_n hx hb dX11_figure_50 rfl (lv_at hl 3 rfl) ?_
    refine lv_iload hx hb dX11_figure_51 (lv_at hl 0 rfl) ?_
    refine zz_ine (tgt := 60) C h dX11_figure_53 (by decide) (fun h => ?_) (fun h => ?_)
    · refine lv_iconst (v := 0) hx hb dX11_figure_60 (by decide) ?_
      exact w_X11_figure_0_b61 (F := F) C hrc19 h hW (lv_sub hl [1, 2, 4, 5, 0] rfl)
    · refine lv_iconst (v := 1) hx hb dX11_figure_56 (by decide) ?_
      refine lv_goto (tgt := 61) hx hb dX11_figure_57 (by decide) ?_
      exact w_X11_figure_0_b61 (F := F) C hrc19 h hW (lv_sub hl [1, 2, 4, 5, 0] rfl)
def n_X11_figure_0_b19 (F : Nat)  (S : Zs) (x1 : Int32) (x2 : Int32) (x3 : Int32) (x4 : Int32) : Option (Int32 × Zs) :=
  zfix (fun (rc : (Zs × Int32 × Int32 × Int32 × Int32) → Option (Int32 × Zs)) (u : (Zs × Int32 × Int32 × Int32 × Int32)) => n_X11_figure_0_b19_l F  (fun S x1 x2 x3 x4 => rc (S, x1, x2, x3, x4)) u.1 u.2.1 u.2.2.1 u.2.2.2.1 u.2.2.2.2) F (S, x1, x2, x3, x4)
theorem w_X11_figure_0_b19 {F : Nat} {q : (Int32 × Zs)}  (C : zC p s m args meth c cX11_figure 6 RX11 (some .int))  : ∀ (n : Nat) (S : Zs) (x1 : Int32) (x2 : Int32) (x3 : Int32) (x4 : Int32) (H : Heap) (locs : List Loc) (ls : Array Slot), zfix (fun (rc : (Zs × Int32 × Int32 × Int32 × Int32) → Option (Int32 × Zs)) (u : (Zs × Int32 × Int32 × Int32 × Int32)) => n_X11_figure_0_b19_l F  (fun S x1 x2 x3 x4 => rc (S, x1, x2, x3, x4)) u.1 u.2.1 u.2.2.1 u.2.2.2.1 u.2.2.2.2) n (S, x1, x2, x3, x4) = some q → zW (xG D cs ad) s S H locs → lv_has ls 6 [(0, .ref (ad 0)), (1, .int x1), (2, .int x2), (3, .int x3), (4, .int x4)] → W p l e (zR 4 96) s m args below meth c H locs 0 0 (zQi (xG D cs ad) q below args s) (F0 m 19 ls []) := by
  intro n
  induction n with
  | zero => intro S x1 x2 x3 x4 H locs ls h; exact absurd h (fun h => by cases h)
  | succ n ih => intro S x1 x2 x3 x4 H locs ls h hW hl; exact w_X11_figure_0_b19_l (F := F) C (fun S x1 x2 x3 x4 H locs ls h hW hl => ih S x1 x2 x3 x4 H locs ls h hW hl) h hW hl
def n_X11_figure_0_e (F : Nat)  (S : Zs) (x1 : Int32) : Option (Int32 × Zs) :=
  if x1 < (1 : Int32) then (n_X11_figure_0_b10 F  S ) else (if x1 ≤ (4 : Int32) then (n_X11_figure_0_b19 F  S x1 (0 : Int32) (0 : Int32) (0 : Int32)) else (n_X11_figure_0_b10 F  S ))
set_option maxRecDepth 20000 in
set_option maxHeartbeats 4000000 in
theorem w_X11_figure_0_e {F : Nat} {q : (Int32 × Zs)} {S : Zs}  {x1 : Int32} {ls : Array Slot} {H : Heap} {locs : List Loc} (C : zC p s m args meth c cX11_figure 6 RX11 (some .int))  (h : n_X11_figure_0_e F  S x1 = some q) (hW : zW (xG D cs ad) s S H locs) (hl : lv_has ls 6 [(0, .ref (ad 0)), (1, .int x1)]) : W p l e (zR 4 96) s m args below meth c H locs 0 0 (zQi (xG D cs ad) q below args s) (F0 m 0 ls []) := by
  unfold n_X11_figure_0_e at h
  obtain ⟨hx, hb, hml, hown, hts, hret, hlk⟩ := id C
  refine lv_iload_n hx hb dX11_figure_0 rfl (lv_at hl 1 rfl) ?_
  refine lv_iconst (v := 1) hx hb dX11_figure_1 (by decide) ?_
  refine zz_clt (tgt := 10) C h dX11_figure_2 (by decide) (fun h => ?_) (fun h => ?_)
  · exact w_X11_figure_0_b10 (F := F) C h hW (lv_sub hl [] rfl)
  · refine lv_iload_n hx hb dX11_figure_5 rfl (lv_at hl 1 rfl) ?_
    refine lv_iconst (v := 4) hx hb dX11_figure_6 (by decide) ?_
    refine zz_cle (tgt := 12) C h dX11_figure_7 (by decide) (fun h => ?_) (fun h => ?_)
    · refine lv_iconst (v := 0) hx hb dX11_figure_12 (by decide) ?_
      refine lv_istore_n (lv' := [(2, .int (0 : Int32)), (0, .ref (ad 0)), (1, .int x1)]) hx hb dX11_figure_13 rfl hl (by decide) rfl (fun ls hl => ?_)
      refine lv_iconst (v := 0) hx hb dX11_figure_14 (by decide) ?_
      refine lv_istore_n (lv' := [(3, .int (0 : Int32)), (2, .int (0 : Int32)), (0, .ref (ad 0)), (1, .int x1)]) hx hb dX11_figure_15 rfl hl (by decide) rfl (fun ls hl => ?_)
      refine lv_iconst (v := 0) hx hb dX11_figure_16 (by decide) ?_
      refine lv_istore (lv' := [(4, .int (0 : Int32)), (3, .int (0 : Int32)), (2, .int (0 : Int32)), (0, .ref (ad 0)), (1, .int x1)]) hx hb dX11_figure_17 hl (by decide) rfl (fun ls hl => ?_)
      exact w_X11_figure_0_b19 (F := F) C F _ _ _ _ _ _ _ _ h hW (lv_sub hl [3, 4, 2, 1, 0] rfl)
    · exact w_X11_figure_0_b10 (F := F) C h hW (lv_sub hl [] rfl)
def n_X11_figure_0 (F : Nat) (S : Zs) (x1 : Int32) : Option (Int32 × Zs) := n_X11_figure_0_e F  S x1
theorem c_X11_figure_0 {l : Launch} {D : va_G} {cs ad : Nat → Nat} {F : Nat} {S : Zs} {x1 : Int32} {q : (Int32 × Zs)} (h : n_X11_figure_0 F S x1 = some q) : zMi l yX11_figure cX11_figure 6 (some .int) (zR 4 96) (xG D cs ad) [.ref (ad 0), .int x1] S q :=
  zz_enter (by decide) (Nat.le_of_ble_eq_true rfl) (fun p e s m below meth c ls C hW hl => w_X11_figure_0_e (F := F) C h hW (lv_sub hl [0, 1] rfl))
def n_X11_forms_0_b14 (F : Nat)  (S : Zs)  : Option (Int32 × Zs) :=
  some ((-1 : Int32), S)
set_option maxRecDepth 20000 in
set_option maxHeartbeats 4000000 in
theorem w_X11_forms_0_b14 {F : Nat} {q : (Int32 × Zs)} {S : Zs}   {ls : Array Slot} {H : Heap} {locs : List Loc} (C : zC p s m args meth c cX11_forms 5 RX11 (some .int))  (h : n_X11_forms_0_b14 F  S  = some q) (hW : zW (xG D cs ad) s S H locs) (hl : lv_has ls 5 []) : W p l e (zR 3 71) s m args below meth c H locs 0 0 (zQi (xG D cs ad) q below args s) (F0 m 14 ls []) := by
  unfold n_X11_forms_0_b14 at h
  obtain ⟨hx, hb, hml, hown, hts, hret, hlk⟩ := id C
  refine lv_iconst (v := -1) hx hb dX11_forms_14 (by decide) ?_
  exact zz_iret C rfl h hW dX11_forms_15
def n_X11_forms_0_b58 (F : Nat) (rc21 : Zs → Int32 → Int32 → Int32 → Int32 → Option (Int32 × Zs)) (S : Zs) (x1 : Int32) (x2 : Int32) (x3 : Int32) (x4 : Int32) : Option (Int32 × Zs) :=
  zlet (x4 + (1 : Int32)) (fun v1 => rc21 S x1 x2 x3 v1)
set_option maxRecDepth 20000 in
set_option maxHeartbeats 4000000 in
theorem w_X11_forms_0_b58 {F : Nat} {q : (Int32 × Zs)} {S : Zs} {rc21 : Zs → Int32 → Int32 → Int32 → Int32 → Option (Int32 × Zs)} {x1 : Int32} {x2 : Int32} {x3 : Int32} {x4 : Int32} {ls : Array Slot} {H : Heap} {locs : List Loc} (C : zC p s m args meth c cX11_forms 5 RX11 (some .int)) (hrc21 : ∀ (S : Zs) (x1 : Int32) (x2 : Int32) (x3 : Int32) (x4 : Int32) (H : Heap) (locs : List Loc) (ls : Array Slot), rc21 S x1 x2 x3 x4 = some q → zW (xG D cs ad) s S H locs → lv_has ls 5 [(0, .ref (ad 0)), (1, .int x1), (2, .int x2), (3, .int x3), (4, .int x4)] → W p l e (zR 3 71) s m args below meth c H locs 0 0 (zQi (xG D cs ad) q below args s) (F0 m 21 ls [])) (h : n_X11_forms_0_b58 F rc21 S x1 x2 x3 x4 = some q) (hW : zW (xG D cs ad) s S H locs) (hl : lv_has ls 5 [(0, .ref (ad 0)), (1, .int x1), (2, .int x2), (3, .int x3), (4, .int x4)]) : W p l e (zR 3 71) s m args below meth c H locs 0 0 (zQi (xG D cs ad) q below args s) (F0 m 58 ls []) := by
  unfold n_X11_forms_0_b58 at h
  obtain ⟨hx, hb, hml, hown, hts, hret, hlk⟩ := id C
  obtain ⟨v1, ev1, h⟩ := zz_name h
  refine lv_iinc (v := v1) (lv' := [(4, .int v1), (0, .ref (ad 0)), (1, .int x1), (2, .int x2), (3, .int x3)]) hx hb dX11_forms_58 hl (k := 4) rfl ev1.symm (by decide) rfl (fun ls hl => ?_)
  refine lv_goto (tgt := 21) hx hb dX11_forms_61 (by decide) ?_
  exact hrc21 _ _ _ _ _ _ _ _ h hW (lv_sub hl [1, 2, 3, 4, 0] rfl)
def n_X11_forms_0_b21_l (F : Nat) (rc21 : Zs → Int32 → Int32 → Int32 → Int32 → Option (Int32 × Zs)) (S : Zs) (x1 : Int32) (x2 : Int32) (x3 : Int32) (x4 : Int32) : Option (Int32 × Zs) :=
  if (4 : Int32) ≤ x4 then (zcl (n_X2_active_3 F S ) (fun v2 S1 => zcl (n_X7_settle_24 F S1 v2 (-1 : Int32)) (fun v4 S3 => zcl (n_X7_ofBoth_24 F S3 x1 x2) (fun v6 S5 => zcl (n_X7_ofBoth_24 F S5 x1 (x2 ^^^ (1 : Int32))) (fun v8 S7 => zcl (n_X11_tellTwo_0 F S7 v6 v8) (fun v10 S9 => some (x3, S9))))))) else (zcl (n_X2_active_3 F S ) (fun v12 S11 => zcl (n_X0_make F S11 x4 x1 x2) (fun v14 S13 => zcl (n_X1_entails_13 F S13 v12 v14) (fun v16 S15 => if v16 = 0 then (n_X11_forms_0_b58 F rc21 S15 x1 x2 x3 x4) else (zlet (x3 ||| ((1 : Int32) <<< (x4 &&& 31))) (fun v17 => n_X11_forms_0_b58 F rc21 S15 x1 x2 v17 x4))))))
set_option maxRecDepth 20000 in
set_option maxHeartbeats 4000000 in
theorem w_X11_forms_0_b21_l {F : Nat} {q : (Int32 × Zs)} {S : Zs} {rc21 : Zs → Int32 → Int32 → Int32 → Int32 → Option (Int32 × Zs)} {x1 : Int32} {x2 : Int32} {x3 : Int32} {x4 : Int32} {ls : Array Slot} {H : Heap} {locs : List Loc} (C : zC p s m args meth c cX11_forms 5 RX11 (some .int)) (hrc21 : ∀ (S : Zs) (x1 : Int32) (x2 : Int32) (x3 : Int32) (x4 : Int32) (H : Heap) (locs : List Loc) (ls : Array Slot), rc21 S x1 x2 x3 x4 = some q → zW (xG D cs ad) s S H locs → lv_has ls 5 [(0, .ref (ad 0)), (1, .int x1), (2, .int x2), (3, .int x3), (4, .int x4)] → W p l e (zR 3 71) s m args below meth c H locs 0 0 (zQi (xG D cs ad) q below args s) (F0 m 21 ls [])) (h : n_X11_forms_0_b21_l F rc21 S x1 x2 x3 x4 = some q) (hW : zW (xG D cs ad) s S H locs) (hl : lv_has ls 5 [(0, .ref (ad 0)), (1, .int x1), (2, .int x2), (3, .int x3), (4, .int x4)]) : W p l e (zR 3 71) s m args below meth c H locs 0 0 (zQi (xG D cs ad) q below args s) (F0 m 21 ls []) := by
  unfold n_X11_forms_0_b21_l at h
  obtain ⟨hx, hb, hml, hown, hts, hret, hlk⟩ := id C
  refine lv_iload hx hb dX11_forms_21 (lv_at hl 4 rfl) ?_
  refine lv_iconst (v := 4) hx hb dX11_forms_23 (by decide) ?_
  refine zz_cge (tgt := 64) C h dX11_forms_24 (by decide) (fun h => ?_) (fun h => ?_)
  · refine lv_aload_n hx hb dX11_forms_64 rfl (lv_at hl 0 rfl) ?_
    refine xg_0_4 C hW fl_X11_44 dX11_forms_65 ?_
    refine lv_aload_n hx hb dX11_forms_68 rfl (lv_at hl 0 rfl) ?_
    refine xg_0_1 C hW fl_X11_27 dX11_forms_69 ?_
    refine zz_callVi (As := []) C hW h (fun r hr => c_X2_active_3 hr) lk_X11_144 (hW.recv xr_3) rfl hl.1 ⟨rfl, rfl⟩ ⟨Nat.le_of_ble_eq_true rfl, Nat.le_of_ble_eq_true rfl⟩ (Nat.le_of_ble_eq_true rfl) ⟨Nat.zero_le _, Nat.zero_le _⟩ rfl dX11_forms_72 (fun v2 S1 H locs h hW => ?_)
    refine lv_iconst (v := -1) hx hb dX11_forms_75 (by decide) ?_
    refine zz_callVv (As := [.int v2, .int (-1 : Int32)]) C hW h (fun r hr => c_X7_settle_24 hr) lk_X11_199 (hW.recv xr_24) rfl hl.1 ⟨rfl, rfl⟩ ⟨Nat.le_of_ble_eq_true rfl, Nat.le_of_ble_eq_true rfl⟩ (Nat.le_of_ble_eq_true rfl) ⟨Nat.zero_le _, Nat.zero_le _⟩ rfl dX11_forms_76 (fun v4 S3 H locs h hW => ?_)
    refine lv_aload_n hx hb dX11_forms_79 rfl (lv_at hl 0 rfl) ?_
    refine lv_aload_n hx hb dX11_forms_80 rfl (lv_at hl 0 rfl) ?_
    refine xg_0_4 C hW fl_X11_44 dX11_forms_81 ?_
    refine lv_iload_n hx hb dX11_forms_84 rfl (lv_at hl 1 rfl) ?_
    refine lv_iload_n hx hb dX11_forms_85 rfl (lv_at hl 2 rfl) ?_
    refine zz_callVi (As := [.int x1, .int x2]) C hW h (fun r hr => c_X7_ofBoth_24 hr) lk_X11_209 (hW.recv xr_24) rfl hl.1 ⟨rfl, rfl⟩ ⟨Nat.le_of_ble_eq_true rfl, Nat.le_of_ble_eq_true rfl⟩ (Nat.le_of_ble_eq_true rfl) ⟨Nat.zero_le _, Nat.zero_le _⟩ rfl dX11_forms_86 (fun v6 S5 H locs h hW => ?_)
    refine lv_aload_n hx hb dX11_forms_89 rfl (lv_at hl 0 rfl) ?_
    refine xg_0_4 C hW fl_X11_44 dX11_forms_90 ?_
    refine lv_iload_n hx hb dX11_forms_93 rfl (lv_at hl 1 rfl) ?_
    refine lv_iload_n hx hb dX11_forms_94 rfl (lv_at hl 2 rfl) ?_
    refine lv_iconst (v := 1) hx hb dX11_forms_95 (by decide) ?_
    refine lv_ixor hx hb dX11_forms_96 ?_
    refine zz_callVi (As := [.int x1, .int (x2 ^^^ (1 : Int32))]) C hW h (fun r hr => c_X7_ofBoth_24 hr) lk_X11_209 (hW.recv xr_24) rfl hl.1 ⟨rfl, rfl⟩ ⟨Nat.le_of_ble_eq_true rfl, Nat.le_of_ble_eq_true rfl⟩ (Nat.le_of_ble_eq_true rfl) ⟨Nat.zero_le _, Nat.zero_le _⟩ rfl dX11_forms_97 (fun v8 S7 H locs h hW => ?_)
    refine zz_callVv (As := [.int v6, .int v8]) C hW h (fun r hr => c_X11_tellTwo_0 hr) lk_X11_229 (hW.recv xr_0) rfl hl.1 ⟨rfl, rfl⟩ ⟨Nat.le_of_ble_eq_true rfl, Nat.le_of_ble_eq_true rfl⟩ (Nat.le_of_ble_eq_true rfl) ⟨Nat.zero_le _, Nat.zero_le _⟩ rfl dX11_forms_100 (fun v10 S9 H locs h hW => ?_)
    refine lv_iload_n hx hb dX11_forms_103 rfl (lv_at hl 3 rfl) ?_
    exact zz_iret C rfl h hW dX11_forms_104
  · refine lv_aload_n hx hb dX11_forms_27 rfl (lv_at hl 0 rfl) ?_
    refine xg_0_2 C hW fl_X11_31 dX11_forms_28 ?_
    refine lv_aload_n hx hb dX11_forms_31 rfl (lv_at hl 0 rfl) ?_
    refine xg_0_1 C hW fl_X11_27 dX11_forms_32 ?_
    refine zz_callVi (As := []) C hW h (fun r hr => c_X2_active_3 hr) lk_X11_144 (hW.recv xr_3) rfl hl.1 ⟨rfl, rfl⟩ ⟨Nat.le_of_ble_eq_true rfl, Nat.le_of_ble_eq_true rfl⟩ (Nat.le_of_ble_eq_true rfl) ⟨Nat.zero_le _, Nat.zero_le _⟩ rfl dX11_forms_35 (fun v12 S11 H locs h hW => ?_)
    refine lv_iload hx hb dX11_forms_38 (lv_at hl 4 rfl) ?_
    refine lv_iload_n hx hb dX11_forms_40 rfl (lv_at hl 1 rfl) ?_
    refine lv_iload_n hx hb dX11_forms_41 rfl (lv_at hl 2 rfl) ?_
    refine zz_callSi (As := [.int x4, .int x1, .int x2]) C hW h (fun r hr => c_X0_make hr) lk_X11_225 rfl hl.1 ⟨rfl, rfl⟩ ⟨Nat.le_of_ble_eq_true rfl, Nat.le_of_ble_eq_true rfl⟩ (Nat.le_of_ble_eq_true rfl) ⟨Nat.zero_le _, Nat.zero_le _⟩ rfl dX11_forms_42 (fun v14 S13 H locs h hW => ?_)
    refine zz_callVi (As := [.int v12, .int v14]) C hW h (fun r hr => c_X1_entails_13 hr) lk_X11_151 (hW.recv xr_13) rfl hl.1 ⟨rfl, rfl⟩ ⟨Nat.le_of_ble_eq_true rfl, Nat.le_of_ble_eq_true rfl⟩ (Nat.le_of_ble_eq_true rfl) ⟨Nat.zero_le _, Nat.zero_le _⟩ rfl dX11_forms_45 (fun v16 S15 H locs h hW => ?_)
    refine zz_ieq (tgt := 58) C h dX11_forms_48 (by decide) (fun h => ?_) (fun h => ?_)
    · exact w_X11_forms_0_b58 (F := F) C hrc21 h hW (lv_sub hl [0, 1, 2, 3, 4] rfl)
    · refine lv_iload_n hx hb dX11_forms_51 rfl (lv_at hl 3 rfl) ?_
      refine lv_iconst (v := 1) hx hb dX11_forms_52 (by decide) ?_
      refine lv_iload hx hb dX11_forms_53 (lv_at hl 4 rfl) ?_
      refine lv_ishl hx hb dX11_forms_55 ?_
      refine lv_ior hx hb dX11_forms_56 ?_
      refine zz_leti h (fun v17 h => ?_)
      refine lv_istore_n (lv' := [(3, .int v17), (0, .ref (ad 0)), (1, .int x1), (2, .int x2), (4, .int x4)]) hx hb dX11_forms_57 rfl hl (by decide) rfl (fun ls hl => ?_)
      exact w_X11_forms_0_b58 (F := F) C hrc21 h hW (lv_sub hl [1, 2, 3, 0, 4] rfl)
def n_X11_forms_0_b21 (F : Nat)  (S : Zs) (x1 : Int32) (x2 : Int32) (x3 : Int32) (x4 : Int32) : Option (Int32 × Zs) :=
  zfix (fun (rc : (Zs × Int32 × Int32 × Int32 × Int32) → Option (Int32 × Zs)) (u : (Zs × Int32 × Int32 × Int32 × Int32)) => n_X11_forms_0_b21_l F  (fun S x1 x2 x3 x4 => rc (S, x1, x2, x3, x4)) u.1 u.2.1 u.2.2.1 u.2.2.2.1 u.2.2.2.2) F (S, x1, x2, x3, x4)
theorem w_X11_forms_0_b21 {F : Nat} {q : (Int32 × Zs)}  (C : zC p s m args meth c cX11_forms 5 RX11 (some .int))  : ∀ (n : Nat) (S : Zs) (x1 : Int32) (x2 : Int32) (x3 : Int32) (x4 : Int32) (H : Heap) (locs : List Loc) (ls : Array Slot), zfix (fun (rc : (Zs × Int32 × Int32 × Int32 × Int32) → Option (Int32 × Zs)) (u : (Zs × Int32 × Int32 × Int32 × Int32)) => n_X11_forms_0_b21_l F  (fun S x1 x2 x3 x4 => rc (S, x1, x2, x3, x4)) u.1 u.2.1 u.2.2.1 u.2.2.2.1 u.2.2.2.2) n (S, x1, x2, x3, x4) = some q → zW (xG D cs ad) s S H locs → lv_has ls 5 [(0, .ref (ad 0)), (1, .int x1), (2, .int x2), (3, .int x3), (4, .int x4)] → W p l e (zR 3 71) s m args below meth c H locs 0 0 (zQi (xG D cs ad) q below args s) (F0 m 21 ls []) := by
  intro n
  induction n with
  | zero => intro S x1 x2 x3 x4 H locs ls h; exact absurd h (fun h => by cases h)
  | succ n ih => intro S x1 x2 x3 x4 H locs ls h hW hl; exact w_X11_forms_0_b21_l (F := F) C (fun S x1 x2 x3 x4 H locs ls h hW hl => ih S x1 x2 x3 x4 H locs ls h hW hl) h hW hl
def n_X11_forms_0_e (F : Nat)  (S : Zs) (x1 : Int32) (x2 : Int32) : Option (Int32 × Zs) :=
  zcl (n_X0_isTerm F S x1) (fun v2 S1 => if v2 = 0 then (n_X11_forms_0_b14 F  S1 ) else (zcl (n_X0_isTerm F S1 x2) (fun v4 S3 => if v4 = 0 then (n_X11_forms_0_b14 F  S3 ) else (n_X11_forms_0_b21 F  S3 x1 x2 (0 : Int32) (0 : Int32)))))
set_option maxRecDepth 20000 in
set_option maxHeartbeats 4000000 in
theorem w_X11_forms_0_e {F : Nat} {q : (Int32 × Zs)} {S : Zs}  {x1 : Int32} {x2 : Int32} {ls : Array Slot} {H : Heap} {locs : List Loc} (C : zC p s m args meth c cX11_forms 5 RX11 (some .int))  (h : n_X11_forms_0_e F  S x1 x2 = some q) (hW : zW (xG D cs ad) s S H locs) (hl : lv_has ls 5 [(0, .ref (ad 0)), (1, .int x1), (2, .int x2)]) : W p l e (zR 3 71) s m args below meth c H locs 0 0 (zQi (xG D cs ad) q below args s) (F0 m 0 ls []) := by
  unfold n_X11_forms_0_e at h
  obtain ⟨hx, hb, hml, hown, hts, hret, hlk⟩ := id C
  refine lv_iload_n hx hb dX11_forms_0 rfl (lv_at hl 1 rfl) ?_
  refine zz_callSi (As := [.int x1]) C hW h (fun r hr => c_X0_isTerm hr) lk_X11_186 rfl hl.1 ⟨rfl, rfl⟩ ⟨Nat.le_of_ble_eq_true rfl, Nat.le_of_ble_eq_true rfl⟩ (Nat.le_of_ble_eq_true rfl) ⟨Nat.zero_le _, Nat.zero_le _⟩ rfl dX11_forms_1 (fun v2 S1 H locs h hW => ?_)
  refine zz_ieq (tgt := 14) C h dX11_forms_4 (by decide) (fun h => ?_) (fun h => ?_)
  · exact w_X11_forms_0_b14 (F := F) C h hW (lv_sub hl [] rfl)
  · refine lv_iload_n hx hb dX11_forms_7 rfl (lv_at hl 2 rfl) ?_
    refine zz_callSi (As := [.int x2]) C hW h (fun r hr => c_X0_isTerm hr) lk_X11_186 rfl hl.1 ⟨rfl, rfl⟩ ⟨Nat.le_of_ble_eq_true rfl, Nat.le_of_ble_eq_true rfl⟩ (Nat.le_of_ble_eq_true rfl) ⟨Nat.zero_le _, Nat.zero_le _⟩ rfl dX11_forms_8 (fun v4 S3 H locs h hW => ?_)
    refine zz_ine (tgt := 16) C h dX11_forms_11 (by decide) (fun h => ?_) (fun h => ?_)
    · refine lv_iconst (v := 0) hx hb dX11_forms_16 (by decide) ?_
      refine lv_istore_n (lv' := [(3, .int (0 : Int32)), (0, .ref (ad 0)), (1, .int x1), (2, .int x2)]) hx hb dX11_forms_17 rfl hl (by decide) rfl (fun ls hl => ?_)
      refine lv_iconst (v := 0) hx hb dX11_forms_18 (by decide) ?_
      refine lv_istore (lv' := [(4, .int (0 : Int32)), (3, .int (0 : Int32)), (0, .ref (ad 0)), (1, .int x1), (2, .int x2)]) hx hb dX11_forms_19 hl (by decide) rfl (fun ls hl => ?_)
      exact w_X11_forms_0_b21 (F := F) C F _ _ _ _ _ _ _ _ h hW (lv_sub hl [2, 3, 4, 1, 0] rfl)
    · exact w_X11_forms_0_b14 (F := F) C h hW (lv_sub hl [] rfl)
def n_X11_forms_0 (F : Nat) (S : Zs) (x1 : Int32) (x2 : Int32) : Option (Int32 × Zs) := n_X11_forms_0_e F  S x1 x2
theorem c_X11_forms_0 {l : Launch} {D : va_G} {cs ad : Nat → Nat} {F : Nat} {S : Zs} {x1 : Int32} {x2 : Int32} {q : (Int32 × Zs)} (h : n_X11_forms_0 F S x1 x2 = some q) : zMi l yX11_forms cX11_forms 5 (some .int) (zR 3 71) (xG D cs ad) [.ref (ad 0), .int x1, .int x2] S q :=
  zz_enter (by decide) (Nat.le_of_ble_eq_true rfl) (fun p e s m below meth c ls C hW hl => w_X11_forms_0_e (F := F) C h hW (lv_sub hl [0, 1, 2] rfl))
def n_X11_allow_0_b10 (F : Nat)  (S : Zs)  : Option (Int32 × Zs) :=
  some ((-1 : Int32), S)
set_option maxRecDepth 20000 in
set_option maxHeartbeats 4000000 in
theorem w_X11_allow_0_b10 {F : Nat} {q : (Int32 × Zs)} {S : Zs}   {ls : Array Slot} {H : Heap} {locs : List Loc} (C : zC p s m args meth c cX11_allow 3 RX11 (some .int))  (h : n_X11_allow_0_b10 F  S  = some q) (hW : zW (xG D cs ad) s S H locs) (hl : lv_has ls 3 []) : W p l e (zR 0 0) s m args below meth c H locs 0 0 (zQi (xG D cs ad) q below args s) (F0 m 10 ls []) := by
  unfold n_X11_allow_0_b10 at h
  obtain ⟨hx, hb, hml, hown, hts, hret, hlk⟩ := id C
  refine lv_iconst (v := -1) hx hb dX11_allow_10 (by decide) ?_
  exact zz_iret C rfl h hW dX11_allow_11
def n_X11_allow_0_e (F : Nat)  (S : Zs) (x1 : Int32) : Option (Int32 × Zs) :=
  if x1 < 0 then (n_X11_allow_0_b10 F  S ) else (if x1 ≤ (4194303 : Int32) then (zgf S 66 (fun v1 => zpf S 66 x1 (fun S2 => some (v1, S2)))) else (n_X11_allow_0_b10 F  S ))
set_option maxRecDepth 20000 in
set_option maxHeartbeats 4000000 in
theorem w_X11_allow_0_e {F : Nat} {q : (Int32 × Zs)} {S : Zs}  {x1 : Int32} {ls : Array Slot} {H : Heap} {locs : List Loc} (C : zC p s m args meth c cX11_allow 3 RX11 (some .int))  (h : n_X11_allow_0_e F  S x1 = some q) (hW : zW (xG D cs ad) s S H locs) (hl : lv_has ls 3 [(0, .ref (ad 0)), (1, .int x1)]) : W p l e (zR 0 0) s m args below meth c H locs 0 0 (zQi (xG D cs ad) q below args s) (F0 m 0 ls []) := by
  unfold n_X11_allow_0_e at h
  obtain ⟨hx, hb, hml, hown, hts, hret, hlk⟩ := id C
  refine lv_iload_n hx hb dX11_allow_0 rfl (lv_at hl 1 rfl) ?_
  refine zz_ilt (tgt := 10) C h dX11_allow_1 (by decide) (fun h => ?_) (fun h => ?_)
  · exact w_X11_allow_0_b10 (F := F) C h hW (lv_sub hl [] rfl)
  · refine lv_iload_n hx hb dX11_allow_4 rfl (lv_at hl 1 rfl) ?_
    refine lv_ldc (v := 4194303) hx hb hown (hts _ ct_X11_241) dX11_allow_5 ?_
    refine zz_cle (tgt := 12) C h dX11_allow_7 (by decide) (fun h => ?_) (fun h => ?_)
    · refine lv_aload_n hx hb dX11_allow_12 rfl (lv_at hl 0 rfl) ?_
      refine xg_0_1 C hW fl_X11_27 dX11_allow_13 ?_
      refine xg_3_6 C hW h fl_X11_242 dX11_allow_16 (fun v1 h => ?_)
      refine lv_istore_n (lv' := [(2, .int v1), (0, .ref (ad 0)), (1, .int x1)]) hx hb dX11_allow_19 rfl hl (by decide) rfl (fun ls hl => ?_)
      refine lv_aload_n hx hb dX11_allow_20 rfl (lv_at hl 1 rfl) ?_
      refine xg_0_1 C hW fl_X11_27 dX11_allow_21 ?_
      refine lv_iload_n hx hb dX11_allow_24 rfl (lv_at hl 2 rfl) ?_
      refine xp_3_6 C hW h fl_X11_242 dX11_allow_25 (fun S2 H locs h hW => ?_)
      refine lv_iload_n hx hb dX11_allow_28 rfl (lv_at hl 0 rfl) ?_
      exact zz_iret C rfl h hW dX11_allow_29
    · exact w_X11_allow_0_b10 (F := F) C h hW (lv_sub hl [] rfl)
def n_X11_allow_0 (F : Nat) (S : Zs) (x1 : Int32) : Option (Int32 × Zs) := n_X11_allow_0_e F  S x1
theorem c_X11_allow_0 {l : Launch} {D : va_G} {cs ad : Nat → Nat} {F : Nat} {S : Zs} {x1 : Int32} {q : (Int32 × Zs)} (h : n_X11_allow_0 F S x1 = some q) : zMi l yX11_allow cX11_allow 3 (some .int) (zR 0 0) (xG D cs ad) [.ref (ad 0), .int x1] S q :=
  zz_enter (by decide) (Nat.le_of_ble_eq_true rfl) (fun p e s m below meth c ls C hW hl => w_X11_allow_0_e (F := F) C h hW (lv_sub hl [0, 1] rfl))
def n_X4_isLivingKind_b21 (F : Nat)  (S : Zs) (t0 : Int32) : Option (Int32 × Zs) :=
  zrb t0 S
set_option maxRecDepth 20000 in
set_option maxHeartbeats 4000000 in
theorem w_X4_isLivingKind_b21 {F : Nat} {q : (Int32 × Zs)} {S : Zs}  {t0 : Int32} {ls : Array Slot} {H : Heap} {locs : List Loc} (C : zC p s m args meth c cX4_isLivingKind 2 RX4 (some .boolean))  (h : n_X4_isLivingKind_b21 F  S t0 = some q) (hW : zW (xG D cs ad) s S H locs) (hl : lv_has ls 2 []) : W p l e (zR 0 0) s m args below meth c H locs 0 0 (zQi (xG D cs ad) q below args s) (F0 m 21 ls [.int t0]) := by
  unfold n_X4_isLivingKind_b21 at h
  obtain ⟨hx, hb, hml, hown, hts, hret, hlk⟩ := id C
  exact zz_zret C rfl h hW dX4_isLivingKind_21
def n_X4_isLivingKind_b20 (F : Nat)  (S : Zs)  : Option (Int32 × Zs) :=
  n_X4_isLivingKind_b21 F  S (0 : Int32)
set_option maxRecDepth 20000 in
set_option maxHeartbeats 4000000 in
theorem w_X4_isLivingKind_b20 {F : Nat} {q : (Int32 × Zs)} {S : Zs}   {ls : Array Slot} {H : Heap} {locs : List Loc} (C : zC p s m args meth c cX4_isLivingKind 2 RX4 (some .boolean))  (h : n_X4_isLivingKind_b20 F  S  = some q) (hW : zW (xG D cs ad) s S H locs) (hl : lv_has ls 2 []) : W p l e (zR 0 0) s m args below meth c H locs 0 0 (zQi (xG D cs ad) q below args s) (F0 m 20 ls []) := by
  unfold n_X4_isLivingKind_b20 at h
  obtain ⟨hx, hb, hml, hown, hts, hret, hlk⟩ := id C
  refine lv_iconst (v := 0) hx hb dX4_isLivingKind_20 (by decide) ?_
  exact w_X4_isLivingKind_b21 (F := F) C h hW (lv_sub hl [] rfl)
def n_X4_isLivingKind_e (F : Nat)  (S : Zs) (x0 : Int32) (x1 : Int32) : Option (Int32 × Zs) :=
  if (x0 &&& (1 : Int32)) = 0 then (if ((x1 >>> ((x0 >>> ((1 : Int32) &&& 31)) &&& 31)) &&& (1 : Int32)) = 0 then (n_X4_isLivingKind_b20 F  S ) else (n_X4_isLivingKind_b21 F  S (1 : Int32))) else (n_X4_isLivingKind_b20 F  S )
set_option maxRecDepth 20000 in
set_option maxHeartbeats 4000000 in
theorem w_X4_isLivingKind_e {F : Nat} {q : (Int32 × Zs)} {S : Zs}  {x0 : Int32} {x1 : Int32} {ls : Array Slot} {H : Heap} {locs : List Loc} (C : zC p s m args meth c cX4_isLivingKind 2 RX4 (some .boolean))  (h : n_X4_isLivingKind_e F  S x0 x1 = some q) (hW : zW (xG D cs ad) s S H locs) (hl : lv_has ls 2 [(0, .int x0), (1, .int x1)]) : W p l e (zR 0 0) s m args below meth c H locs 0 0 (zQi (xG D cs ad) q below args s) (F0 m 0 ls []) := by
  unfold n_X4_isLivingKind_e at h
  obtain ⟨hx, hb, hml, hown, hts, hret, hlk⟩ := id C
  refine lv_iload_n hx hb dX4_isLivingKind_0 rfl (lv_at hl 0 rfl) ?_
  refine lv_iconst (v := 1) hx hb dX4_isLivingKind_1 (by decide) ?_
  refine lv_iand hx hb dX4_isLivingKind_2 ?_
  refine zz_ine (tgt := 20) C h dX4_isLivingKind_3 (by decide) (fun h => ?_) (fun h => ?_)
  · exact w_X4_isLivingKind_b20 (F := F) C h hW (lv_sub hl [] rfl)
  · refine lv_iload_n hx hb dX4_isLivingKind_6 rfl (lv_at hl 1 rfl) ?_
    refine lv_iload_n hx hb dX4_isLivingKind_7 rfl (lv_at hl 0 rfl) ?_
    refine lv_iconst (v := 1) hx hb dX4_isLivingKind_8 (by decide) ?_
    refine lv_ishr hx hb dX4_isLivingKind_9 ?_
    refine lv_ishr hx hb dX4_isLivingKind_10 ?_
    refine lv_iconst (v := 1) hx hb dX4_isLivingKind_11 (by decide) ?_
    refine lv_iand hx hb dX4_isLivingKind_12 ?_
    refine zz_ieq (tgt := 20) C h dX4_isLivingKind_13 (by decide) (fun h => ?_) (fun h => ?_)
    · exact w_X4_isLivingKind_b20 (F := F) C h hW (lv_sub hl [] rfl)
    · refine lv_iconst (v := 1) hx hb dX4_isLivingKind_16 (by decide) ?_
      refine lv_goto (tgt := 21) hx hb dX4_isLivingKind_17 (by decide) ?_
      exact w_X4_isLivingKind_b21 (F := F) C h hW (lv_sub hl [] rfl)
def n_X4_isLivingKind (F : Nat) (S : Zs) (x0 : Int32) (x1 : Int32) : Option (Int32 × Zs) := n_X4_isLivingKind_e F  S x0 x1
theorem c_X4_isLivingKind {l : Launch} {D : va_G} {cs ad : Nat → Nat} {F : Nat} {S : Zs} {x0 : Int32} {x1 : Int32} {q : (Int32 × Zs)} (h : n_X4_isLivingKind F S x0 x1 = some q) : zMi l yX4_isLivingKind cX4_isLivingKind 2 (some .boolean) (zR 0 0) (xG D cs ad) [.int x0, .int x1] S q :=
  zz_enter (by decide) (Nat.le_of_ble_eq_true rfl) (fun p e s m below meth c ls C hW hl => w_X4_isLivingKind_e (F := F) C h hW (lv_sub hl [0, 1] rfl))
def n_X4_isAlive_b44 (F : Nat)  (S : Zs) (x1 : Int32) (x2 : Int32) : Option (Int32 × Zs) :=
  zcl (n_X0_subject F S x1) (fun v2 S1 => zcl (n_X4_isLivingKind F S1 v2 x2) (fun v4 S3 => zrb v4 S3))
set_option maxRecDepth 20000 in
set_option maxHeartbeats 4000000 in
theorem w_X4_isAlive_b44 {F : Nat} {q : (Int32 × Zs)} {S : Zs}  {x1 : Int32} {x2 : Int32} {ls : Array Slot} {H : Heap} {locs : List Loc} (C : zC p s m args meth c cX4_isAlive 3 RX4 (some .boolean))  (h : n_X4_isAlive_b44 F  S x1 x2 = some q) (hW : zW (xG D cs ad) s S H locs) (hl : lv_has ls 3 [(1, .int x1), (2, .int x2)]) : W p l e (zR 1 21) s m args below meth c H locs 0 0 (zQi (xG D cs ad) q below args s) (F0 m 44 ls []) := by
  unfold n_X4_isAlive_b44 at h
  obtain ⟨hx, hb, hml, hown, hts, hret, hlk⟩ := id C
  refine lv_iload_n hx hb dX4_isAlive_44 rfl (lv_at hl 0 rfl) ?_
  refine zz_callSi (As := [.int x1]) C hW h (fun r hr => c_X0_subject hr) lk_X4_24 rfl hl.1 ⟨rfl, rfl⟩ ⟨Nat.le_of_ble_eq_true rfl, Nat.le_of_ble_eq_true rfl⟩ (Nat.le_of_ble_eq_true rfl) ⟨Nat.zero_le _, Nat.zero_le _⟩ rfl dX4_isAlive_45 (fun v2 S1 H locs h hW => ?_)
  refine lv_iload_n hx hb dX4_isAlive_48 rfl (lv_at hl 1 rfl) ?_
  refine zz_callSi (As := [.int v2, .int x2]) C hW h (fun r hr => c_X4_isLivingKind hr) lk_X4_63 rfl hl.1 ⟨rfl, rfl⟩ ⟨Nat.le_of_ble_eq_true rfl, Nat.le_of_ble_eq_true rfl⟩ (Nat.le_of_ble_eq_true rfl) ⟨Nat.zero_le _, Nat.zero_le _⟩ rfl dX4_isAlive_49 (fun v4 S3 H locs h hW => ?_)
  exact zz_zret C rfl h hW dX4_isAlive_52
def n_X4_isAlive_b62 (F : Nat)  (S : Zs)  : Option (Int32 × Zs) :=
  zrb (1 : Int32) S
set_option maxRecDepth 20000 in
set_option maxHeartbeats 4000000 in
theorem w_X4_isAlive_b62 {F : Nat} {q : (Int32 × Zs)} {S : Zs}   {ls : Array Slot} {H : Heap} {locs : List Loc} (C : zC p s m args meth c cX4_isAlive 3 RX4 (some .boolean))  (h : n_X4_isAlive_b62 F  S  = some q) (hW : zW (xG D cs ad) s S H locs) (hl : lv_has ls 3 []) : W p l e (zR 1 21) s m args below meth c H locs 0 0 (zQi (xG D cs ad) q below args s) (F0 m 62 ls []) := by
  unfold n_X4_isAlive_b62 at h
  obtain ⟨hx, hb, hml, hown, hts, hret, hlk⟩ := id C
  refine lv_iconst (v := 1) hx hb dX4_isAlive_62 (by decide) ?_
  exact zz_zret C rfl h hW dX4_isAlive_63
def n_X4_isAlive_e (F : Nat)  (S : Zs) (x0 : Int32) (x1 : Int32) (x2 : Int32) : Option (Int32 × Zs) :=
  if x0 = (15 : Int32) then (n_X4_isAlive_b44 F  S x1 x2) else (if x0 = (16 : Int32) then (n_X4_isAlive_b44 F  S x1 x2) else (if x0 = (17 : Int32) then (zcl (n_X0_predicate F S x1) (fun v2 S1 => zcl (n_X4_isLivingKind F S1 v2 x2) (fun v4 S3 => zrb v4 S3))) else (if x0 = (18 : Int32) then (n_X4_isAlive_b44 F  S x1 x2) else (if x0 = (19 : Int32) then (n_X4_isAlive_b62 F  S ) else (if x0 = (20 : Int32) then (n_X4_isAlive_b62 F  S ) else (if x0 = (21 : Int32) then (n_X4_isAlive_b44 F  S x1 x2) else (n_X4_isAlive_b62 F  S )))))))
set_option maxRecDepth 20000 in
set_option maxHeartbeats 4000000 in
theorem w_X4_isAlive_e {F : Nat} {q : (Int32 × Zs)} {S : Zs}  {x0 : Int32} {x1 : Int32} {x2 : Int32} {ls : Array Slot} {H : Heap} {locs : List Loc} (C : zC p s m args meth c cX4_isAlive 3 RX4 (some .boolean))  (h : n_X4_isAlive_e F  S x0 x1 x2 = some q) (hW : zW (xG D cs ad) s S H locs) (hl : lv_has ls 3 [(0, .int x0), (1, .int x1), (2, .int x2)]) : W p l e (zR 1 21) s m args below meth c H locs 0 0 (zQi (xG D cs ad) q below args s) (F0 m 0 ls []) := by
  unfold n_X4_isAlive_e at h
  obtain ⟨hx, hb, hml, hown, hts, hret, hlk⟩ := id C
  refine lv_iload_n hx hb dX4_isAlive_0 rfl (lv_at hl 0 rfl) ?_
  by_cases e0 : x0 = (15 : Int32)
  · replace h := (zz_if h).1 e0
    refine lv_tableIn (off := 43) (tgt := 44) hx hb dX4_isAlive_1 (by rw [e0]; decide) (by rw [e0]; decide) (by rw [e0]; rfl) (by decide) ?_
    exact w_X4_isAlive_b44 (F := F) C h hW (lv_sub hl [1, 2] rfl)
  · replace h := (zz_if h).2 e0
    by_cases e1 : x0 = (16 : Int32)
    · replace h := (zz_if h).1 e1
      refine lv_tableIn (off := 43) (tgt := 44) hx hb dX4_isAlive_1 (by rw [e1]; decide) (by rw [e1]; decide) (by rw [e1]; rfl) (by decide) ?_
      exact w_X4_isAlive_b44 (F := F) C h hW (lv_sub hl [1, 2] rfl)
    · replace h := (zz_if h).2 e1
      by_cases e2 : x0 = (17 : Int32)
      · replace h := (zz_if h).1 e2
        refine lv_tableIn (off := 52) (tgt := 53) hx hb dX4_isAlive_1 (by rw [e2]; decide) (by rw [e2]; decide) (by rw [e2]; rfl) (by decide) ?_
        refine lv_iload_n hx hb dX4_isAlive_53 rfl (lv_at hl 1 rfl) ?_
        refine zz_callSi (As := [.int x1]) C hW h (fun r hr => c_X0_predicate hr) lk_X4_28 rfl hl.1 ⟨rfl, rfl⟩ ⟨Nat.le_of_ble_eq_true rfl, Nat.le_of_ble_eq_true rfl⟩ (Nat.le_of_ble_eq_true rfl) ⟨Nat.zero_le _, Nat.zero_le _⟩ rfl dX4_isAlive_54 (fun v2 S1 H locs h hW => ?_)
        refine lv_iload_n hx hb dX4_isAlive_57 rfl (lv_at hl 2 rfl) ?_
        refine zz_callSi (As := [.int v2, .int x2]) C hW h (fun r hr => c_X4_isLivingKind hr) lk_X4_63 rfl hl.1 ⟨rfl, rfl⟩ ⟨Nat.le_of_ble_eq_true rfl, Nat.le_of_ble_eq_true rfl⟩ (Nat.le_of_ble_eq_true rfl) ⟨Nat.zero_le _, Nat.zero_le _⟩ rfl dX4_isAlive_58 (fun v4 S3 H locs h hW => ?_)
        exact zz_zret C rfl h hW dX4_isAlive_61
      · replace h := (zz_if h).2 e2
        by_cases e3 : x0 = (18 : Int32)
        · replace h := (zz_if h).1 e3
          refine lv_tableIn (off := 43) (tgt := 44) hx hb dX4_isAlive_1 (by rw [e3]; decide) (by rw [e3]; decide) (by rw [e3]; rfl) (by decide) ?_
          exact w_X4_isAlive_b44 (F := F) C h hW (lv_sub hl [1, 2] rfl)
        · replace h := (zz_if h).2 e3
          by_cases e4 : x0 = (19 : Int32)
          · replace h := (zz_if h).1 e4
            refine lv_tableIn (off := 61) (tgt := 62) hx hb dX4_isAlive_1 (by rw [e4]; decide) (by rw [e4]; decide) (by rw [e4]; rfl) (by decide) ?_
            exact w_X4_isAlive_b62 (F := F) C h hW (lv_sub hl [] rfl)
          · replace h := (zz_if h).2 e4
            by_cases e5 : x0 = (20 : Int32)
            · replace h := (zz_if h).1 e5
              refine lv_tableIn (off := 61) (tgt := 62) hx hb dX4_isAlive_1 (by rw [e5]; decide) (by rw [e5]; decide) (by rw [e5]; rfl) (by decide) ?_
              exact w_X4_isAlive_b62 (F := F) C h hW (lv_sub hl [] rfl)
            · replace h := (zz_if h).2 e5
              by_cases e6 : x0 = (21 : Int32)
              · replace h := (zz_if h).1 e6
                refine lv_tableIn (off := 43) (tgt := 44) hx hb dX4_isAlive_1 (by rw [e6]; decide) (by rw [e6]; decide) (by rw [e6]; rfl) (by decide) ?_
                exact w_X4_isAlive_b44 (F := F) C h hW (lv_sub hl [1, 2] rfl)
              · replace h := (zz_if h).2 e6
                refine lv_tableOut (tgt := 62) hx hb dX4_isAlive_1 (zsw_out (fun k h1 h2 => by rcases (show k = 15 ∨ k = 16 ∨ k = 17 ∨ k = 18 ∨ k = 19 ∨ k = 20 ∨ k = 21 by omega) with rfl | rfl | rfl | rfl | rfl | rfl | rfl <;> first | exact e0 | exact e1 | exact e2 | exact e3 | exact e4 | exact e5 | exact e6)) (by decide) ?_
                exact w_X4_isAlive_b62 (F := F) C h hW (lv_sub hl [] rfl)
def n_X4_isAlive (F : Nat) (S : Zs) (x0 : Int32) (x1 : Int32) (x2 : Int32) : Option (Int32 × Zs) := n_X4_isAlive_e F  S x0 x1 x2
theorem c_X4_isAlive {l : Launch} {D : va_G} {cs ad : Nat → Nat} {F : Nat} {S : Zs} {x0 : Int32} {x1 : Int32} {x2 : Int32} {q : (Int32 × Zs)} (h : n_X4_isAlive F S x0 x1 x2 = some q) : zMi l yX4_isAlive cX4_isAlive 3 (some .boolean) (zR 1 21) (xG D cs ad) [.int x0, .int x1, .int x2] S q :=
  zz_enter (by decide) (Nat.le_of_ble_eq_true rfl) (fun p e s m below meth c ls C hW hl => w_X4_isAlive_e (F := F) C h hW (lv_sub hl [0, 1, 2] rfl))
def n_X4_middleOfFirst_b17 (F : Nat)  (S : Zs) (t0 : Int32) : Option (Int32 × Zs) :=
  some (t0, S)
set_option maxRecDepth 20000 in
set_option maxHeartbeats 4000000 in
theorem w_X4_middleOfFirst_b17 {F : Nat} {q : (Int32 × Zs)} {S : Zs}  {t0 : Int32} {ls : Array Slot} {H : Heap} {locs : List Loc} (C : zC p s m args meth c cX4_middleOfFirst 2 RX4 (some .int))  (h : n_X4_middleOfFirst_b17 F  S t0 = some q) (hW : zW (xG D cs ad) s S H locs) (hl : lv_has ls 2 []) : W p l e (zR 1 20) s m args below meth c H locs 0 0 (zQi (xG D cs ad) q below args s) (F0 m 17 ls [.int t0]) := by
  unfold n_X4_middleOfFirst_b17 at h
  obtain ⟨hx, hb, hml, hown, hts, hret, hlk⟩ := id C
  exact zz_iret C rfl h hW dX4_middleOfFirst_17
def n_X4_middleOfFirst_e (F : Nat)  (S : Zs) (x0 : Int32) (x1 : Int32) : Option (Int32 × Zs) :=
  if (x0 &&& (1 : Int32)) = 0 then (zcl (n_X0_predicate F S x1) (fun v2 S1 => n_X4_middleOfFirst_b17 F  S1 v2)) else (zcl (n_X0_subject F S x1) (fun v4 S3 => n_X4_middleOfFirst_b17 F  S3 v4))
set_option maxRecDepth 20000 in
set_option maxHeartbeats 4000000 in
theorem w_X4_middleOfFirst_e {F : Nat} {q : (Int32 × Zs)} {S : Zs}  {x0 : Int32} {x1 : Int32} {ls : Array Slot} {H : Heap} {locs : List Loc} (C : zC p s m args meth c cX4_middleOfFirst 2 RX4 (some .int))  (h : n_X4_middleOfFirst_e F  S x0 x1 = some q) (hW : zW (xG D cs ad) s S H locs) (hl : lv_has ls 2 [(0, .int x0), (1, .int x1)]) : W p l e (zR 1 20) s m args below meth c H locs 0 0 (zQi (xG D cs ad) q below args s) (F0 m 0 ls []) := by
  unfold n_X4_middleOfFirst_e at h
  obtain ⟨hx, hb, hml, hown, hts, hret, hlk⟩ := id C
  refine lv_iload_n hx hb dX4_middleOfFirst_0 rfl (lv_at hl 0 rfl) ?_
  refine lv_iconst (v := 1) hx hb dX4_middleOfFirst_1 (by decide) ?_
  refine lv_iand hx hb dX4_middleOfFirst_2 ?_
  refine zz_ieq (tgt := 13) C h dX4_middleOfFirst_3 (by decide) (fun h => ?_) (fun h => ?_)
  · refine lv_iload_n hx hb dX4_middleOfFirst_13 rfl (lv_at hl 1 rfl) ?_
    refine zz_callSi (As := [.int x1]) C hW h (fun r hr => c_X0_predicate hr) lk_X4_28 rfl hl.1 ⟨rfl, rfl⟩ ⟨Nat.le_of_ble_eq_true rfl, Nat.le_of_ble_eq_true rfl⟩ (Nat.le_of_ble_eq_true rfl) ⟨Nat.zero_le _, Nat.zero_le _⟩ rfl dX4_middleOfFirst_14 (fun v2 S1 H locs h hW => ?_)
    exact w_X4_middleOfFirst_b17 (F := F) C h hW (lv_sub hl [] rfl)
  · refine lv_iload_n hx hb dX4_middleOfFirst_6 rfl (lv_at hl 1 rfl) ?_
    refine zz_callSi (As := [.int x1]) C hW h (fun r hr => c_X0_subject hr) lk_X4_24 rfl hl.1 ⟨rfl, rfl⟩ ⟨Nat.le_of_ble_eq_true rfl, Nat.le_of_ble_eq_true rfl⟩ (Nat.le_of_ble_eq_true rfl) ⟨Nat.zero_le _, Nat.zero_le _⟩ rfl dX4_middleOfFirst_7 (fun v4 S3 H locs h hW => ?_)
    refine lv_goto (tgt := 17) hx hb dX4_middleOfFirst_10 (by decide) ?_
    exact w_X4_middleOfFirst_b17 (F := F) C h hW (lv_sub hl [] rfl)
def n_X4_middleOfFirst (F : Nat) (S : Zs) (x0 : Int32) (x1 : Int32) : Option (Int32 × Zs) := n_X4_middleOfFirst_e F  S x0 x1
theorem c_X4_middleOfFirst {l : Launch} {D : va_G} {cs ad : Nat → Nat} {F : Nat} {S : Zs} {x0 : Int32} {x1 : Int32} {q : (Int32 × Zs)} (h : n_X4_middleOfFirst F S x0 x1 = some q) : zMi l yX4_middleOfFirst cX4_middleOfFirst 2 (some .int) (zR 1 20) (xG D cs ad) [.int x0, .int x1] S q :=
  zz_enter (by decide) (Nat.le_of_ble_eq_true rfl) (fun p e s m below meth c ls C hW hl => w_X4_middleOfFirst_e (F := F) C h hW (lv_sub hl [0, 1] rfl))
def n_X4_middleOfSecond_b16 (F : Nat)  (S : Zs) (t0 : Int32) : Option (Int32 × Zs) :=
  some (t0, S)
set_option maxRecDepth 20000 in
set_option maxHeartbeats 4000000 in
theorem w_X4_middleOfSecond_b16 {F : Nat} {q : (Int32 × Zs)} {S : Zs}  {t0 : Int32} {ls : Array Slot} {H : Heap} {locs : List Loc} (C : zC p s m args meth c cX4_middleOfSecond 2 RX4 (some .int))  (h : n_X4_middleOfSecond_b16 F  S t0 = some q) (hW : zW (xG D cs ad) s S H locs) (hl : lv_has ls 2 []) : W p l e (zR 1 20) s m args below meth c H locs 0 0 (zQi (xG D cs ad) q below args s) (F0 m 16 ls [.int t0]) := by
  unfold n_X4_middleOfSecond_b16 at h
  obtain ⟨hx, hb, hml, hown, hts, hret, hlk⟩ := id C
  exact zz_iret C rfl h hW dX4_middleOfSecond_16
def n_X4_middleOfSecond_e (F : Nat)  (S : Zs) (x0 : Int32) (x1 : Int32) : Option (Int32 × Zs) :=
  if (2 : Int32) < x0 then (zcl (n_X0_subject F S x1) (fun v2 S1 => n_X4_middleOfSecond_b16 F  S1 v2)) else (zcl (n_X0_predicate F S x1) (fun v4 S3 => n_X4_middleOfSecond_b16 F  S3 v4))
set_option maxRecDepth 20000 in
set_option maxHeartbeats 4000000 in
theorem w_X4_middleOfSecond_e {F : Nat} {q : (Int32 × Zs)} {S : Zs}  {x0 : Int32} {x1 : Int32} {ls : Array Slot} {H : Heap} {locs : List Loc} (C : zC p s m args meth c cX4_middleOfSecond 2 RX4 (some .int))  (h : n_X4_middleOfSecond_e F  S x0 x1 = some q) (hW : zW (xG D cs ad) s S H locs) (hl : lv_has ls 2 [(0, .int x0), (1, .int x1)]) : W p l e (zR 1 20) s m args below meth c H locs 0 0 (zQi (xG D cs ad) q below args s) (F0 m 0 ls []) := by
  unfold n_X4_middleOfSecond_e at h
  obtain ⟨hx, hb, hml, hown, hts, hret, hlk⟩ := id C
  refine lv_iload_n hx hb dX4_middleOfSecond_0 rfl (lv_at hl 0 rfl) ?_
  refine lv_iconst (v := 2) hx hb dX4_middleOfSecond_1 (by decide) ?_
  refine zz_cgt (tgt := 12) C h dX4_middleOfSecond_2 (by decide) (fun h => ?_) (fun h => ?_)
  · refine lv_iload_n hx hb dX4_middleOfSecond_12 rfl (lv_at hl 1 rfl) ?_
    refine zz_callSi (As := [.int x1]) C hW h (fun r hr => c_X0_subject hr) lk_X4_24 rfl hl.1 ⟨rfl, rfl⟩ ⟨Nat.le_of_ble_eq_true rfl, Nat.le_of_ble_eq_true rfl⟩ (Nat.le_of_ble_eq_true rfl) ⟨Nat.zero_le _, Nat.zero_le _⟩ rfl dX4_middleOfSecond_13 (fun v2 S1 H locs h hW => ?_)
    exact w_X4_middleOfSecond_b16 (F := F) C h hW (lv_sub hl [] rfl)
  · refine lv_iload_n hx hb dX4_middleOfSecond_5 rfl (lv_at hl 1 rfl) ?_
    refine zz_callSi (As := [.int x1]) C hW h (fun r hr => c_X0_predicate hr) lk_X4_28 rfl hl.1 ⟨rfl, rfl⟩ ⟨Nat.le_of_ble_eq_true rfl, Nat.le_of_ble_eq_true rfl⟩ (Nat.le_of_ble_eq_true rfl) ⟨Nat.zero_le _, Nat.zero_le _⟩ rfl dX4_middleOfSecond_6 (fun v4 S3 H locs h hW => ?_)
    refine lv_goto (tgt := 16) hx hb dX4_middleOfSecond_9 (by decide) ?_
    exact w_X4_middleOfSecond_b16 (F := F) C h hW (lv_sub hl [] rfl)
def n_X4_middleOfSecond (F : Nat) (S : Zs) (x0 : Int32) (x1 : Int32) : Option (Int32 × Zs) := n_X4_middleOfSecond_e F  S x0 x1
theorem c_X4_middleOfSecond {l : Launch} {D : va_G} {cs ad : Nat → Nat} {F : Nat} {S : Zs} {x0 : Int32} {x1 : Int32} {q : (Int32 × Zs)} (h : n_X4_middleOfSecond F S x0 x1 = some q) : zMi l yX4_middleOfSecond cX4_middleOfSecond 2 (some .int) (zR 1 20) (xG D cs ad) [.int x0, .int x1] S q :=
  zz_enter (by decide) (Nat.le_of_ble_eq_true rfl) (fun p e s m below meth c ls C hW hl => w_X4_middleOfSecond_e (F := F) C h hW (lv_sub hl [0, 1] rfl))
def n_X4_minorOf_b16 (F : Nat)  (S : Zs) (t0 : Int32) : Option (Int32 × Zs) :=
  some (t0, S)
set_option maxRecDepth 20000 in
set_option maxHeartbeats 4000000 in
theorem w_X4_minorOf_b16 {F : Nat} {q : (Int32 × Zs)} {S : Zs}  {t0 : Int32} {ls : Array Slot} {H : Heap} {locs : List Loc} (C : zC p s m args meth c cX4_minorOf 2 RX4 (some .int))  (h : n_X4_minorOf_b16 F  S t0 = some q) (hW : zW (xG D cs ad) s S H locs) (hl : lv_has ls 2 []) : W p l e (zR 1 20) s m args below meth c H locs 0 0 (zQi (xG D cs ad) q below args s) (F0 m 16 ls [.int t0]) := by
  unfold n_X4_minorOf_b16 at h
  obtain ⟨hx, hb, hml, hown, hts, hret, hlk⟩ := id C
  exact zz_iret C rfl h hW dX4_minorOf_16
def n_X4_minorOf_e (F : Nat)  (S : Zs) (x0 : Int32) (x1 : Int32) : Option (Int32 × Zs) :=
  if (2 : Int32) < x0 then (zcl (n_X0_predicate F S x1) (fun v2 S1 => n_X4_minorOf_b16 F  S1 v2)) else (zcl (n_X0_subject F S x1) (fun v4 S3 => n_X4_minorOf_b16 F  S3 v4))
set_option maxRecDepth 20000 in
set_option maxHeartbeats 4000000 in
theorem w_X4_minorOf_e {F : Nat} {q : (Int32 × Zs)} {S : Zs}  {x0 : Int32} {x1 : Int32} {ls : Array Slot} {H : Heap} {locs : List Loc} (C : zC p s m args meth c cX4_minorOf 2 RX4 (some .int))  (h : n_X4_minorOf_e F  S x0 x1 = some q) (hW : zW (xG D cs ad) s S H locs) (hl : lv_has ls 2 [(0, .int x0), (1, .int x1)]) : W p l e (zR 1 20) s m args below meth c H locs 0 0 (zQi (xG D cs ad) q below args s) (F0 m 0 ls []) := by
  unfold n_X4_minorOf_e at h
  obtain ⟨hx, hb, hml, hown, hts, hret, hlk⟩ := id C
  refine lv_iload_n hx hb dX4_minorOf_0 rfl (lv_at hl 0 rfl) ?_
  refine lv_iconst (v := 2) hx hb dX4_minorOf_1 (by decide) ?_
  refine zz_cgt (tgt := 12) C h dX4_minorOf_2 (by decide) (fun h => ?_) (fun h => ?_)
  · refine lv_iload_n hx hb dX4_minorOf_12 rfl (lv_at hl 1 rfl) ?_
    refine zz_callSi (As := [.int x1]) C hW h (fun r hr => c_X0_predicate hr) lk_X4_28 rfl hl.1 ⟨rfl, rfl⟩ ⟨Nat.le_of_ble_eq_true rfl, Nat.le_of_ble_eq_true rfl⟩ (Nat.le_of_ble_eq_true rfl) ⟨Nat.zero_le _, Nat.zero_le _⟩ rfl dX4_minorOf_13 (fun v2 S1 H locs h hW => ?_)
    exact w_X4_minorOf_b16 (F := F) C h hW (lv_sub hl [] rfl)
  · refine lv_iload_n hx hb dX4_minorOf_5 rfl (lv_at hl 1 rfl) ?_
    refine zz_callSi (As := [.int x1]) C hW h (fun r hr => c_X0_subject hr) lk_X4_24 rfl hl.1 ⟨rfl, rfl⟩ ⟨Nat.le_of_ble_eq_true rfl, Nat.le_of_ble_eq_true rfl⟩ (Nat.le_of_ble_eq_true rfl) ⟨Nat.zero_le _, Nat.zero_le _⟩ rfl dX4_minorOf_6 (fun v4 S3 H locs h hW => ?_)
    refine lv_goto (tgt := 16) hx hb dX4_minorOf_9 (by decide) ?_
    exact w_X4_minorOf_b16 (F := F) C h hW (lv_sub hl [] rfl)
def n_X4_minorOf (F : Nat) (S : Zs) (x0 : Int32) (x1 : Int32) : Option (Int32 × Zs) := n_X4_minorOf_e F  S x0 x1
theorem c_X4_minorOf {l : Launch} {D : va_G} {cs ad : Nat → Nat} {F : Nat} {S : Zs} {x0 : Int32} {x1 : Int32} {q : (Int32 × Zs)} (h : n_X4_minorOf F S x0 x1 = some q) : zMi l yX4_minorOf cX4_minorOf 2 (some .int) (zR 1 20) (xG D cs ad) [.int x0, .int x1] S q :=
  zz_enter (by decide) (Nat.le_of_ble_eq_true rfl) (fun p e s m below meth c ls C hW hl => w_X4_minorOf_e (F := F) C h hW (lv_sub hl [0, 1] rfl))
def n_X4_majorOf_b17 (F : Nat)  (S : Zs) (t0 : Int32) : Option (Int32 × Zs) :=
  some (t0, S)
set_option maxRecDepth 20000 in
set_option maxHeartbeats 4000000 in
theorem w_X4_majorOf_b17 {F : Nat} {q : (Int32 × Zs)} {S : Zs}  {t0 : Int32} {ls : Array Slot} {H : Heap} {locs : List Loc} (C : zC p s m args meth c cX4_majorOf 2 RX4 (some .int))  (h : n_X4_majorOf_b17 F  S t0 = some q) (hW : zW (xG D cs ad) s S H locs) (hl : lv_has ls 2 []) : W p l e (zR 1 20) s m args below meth c H locs 0 0 (zQi (xG D cs ad) q below args s) (F0 m 17 ls [.int t0]) := by
  unfold n_X4_majorOf_b17 at h
  obtain ⟨hx, hb, hml, hown, hts, hret, hlk⟩ := id C
  exact zz_iret C rfl h hW dX4_majorOf_17
def n_X4_majorOf_e (F : Nat)  (S : Zs) (x0 : Int32) (x1 : Int32) : Option (Int32 × Zs) :=
  if (x0 &&& (1 : Int32)) = 0 then (zcl (n_X0_subject F S x1) (fun v2 S1 => n_X4_majorOf_b17 F  S1 v2)) else (zcl (n_X0_predicate F S x1) (fun v4 S3 => n_X4_majorOf_b17 F  S3 v4))
set_option maxRecDepth 20000 in
set_option maxHeartbeats 4000000 in
theorem w_X4_majorOf_e {F : Nat} {q : (Int32 × Zs)} {S : Zs}  {x0 : Int32} {x1 : Int32} {ls : Array Slot} {H : Heap} {locs : List Loc} (C : zC p s m args meth c cX4_majorOf 2 RX4 (some .int))  (h : n_X4_majorOf_e F  S x0 x1 = some q) (hW : zW (xG D cs ad) s S H locs) (hl : lv_has ls 2 [(0, .int x0), (1, .int x1)]) : W p l e (zR 1 20) s m args below meth c H locs 0 0 (zQi (xG D cs ad) q below args s) (F0 m 0 ls []) := by
  unfold n_X4_majorOf_e at h
  obtain ⟨hx, hb, hml, hown, hts, hret, hlk⟩ := id C
  refine lv_iload_n hx hb dX4_majorOf_0 rfl (lv_at hl 0 rfl) ?_
  refine lv_iconst (v := 1) hx hb dX4_majorOf_1 (by decide) ?_
  refine lv_iand hx hb dX4_majorOf_2 ?_
  refine zz_ieq (tgt := 13) C h dX4_majorOf_3 (by decide) (fun h => ?_) (fun h => ?_)
  · refine lv_iload_n hx hb dX4_majorOf_13 rfl (lv_at hl 1 rfl) ?_
    refine zz_callSi (As := [.int x1]) C hW h (fun r hr => c_X0_subject hr) lk_X4_24 rfl hl.1 ⟨rfl, rfl⟩ ⟨Nat.le_of_ble_eq_true rfl, Nat.le_of_ble_eq_true rfl⟩ (Nat.le_of_ble_eq_true rfl) ⟨Nat.zero_le _, Nat.zero_le _⟩ rfl dX4_majorOf_14 (fun v2 S1 H locs h hW => ?_)
    exact w_X4_majorOf_b17 (F := F) C h hW (lv_sub hl [] rfl)
  · refine lv_iload_n hx hb dX4_majorOf_6 rfl (lv_at hl 1 rfl) ?_
    refine zz_callSi (As := [.int x1]) C hW h (fun r hr => c_X0_predicate hr) lk_X4_28 rfl hl.1 ⟨rfl, rfl⟩ ⟨Nat.le_of_ble_eq_true rfl, Nat.le_of_ble_eq_true rfl⟩ (Nat.le_of_ble_eq_true rfl) ⟨Nat.zero_le _, Nat.zero_le _⟩ rfl dX4_majorOf_7 (fun v4 S3 H locs h hW => ?_)
    refine lv_goto (tgt := 17) hx hb dX4_majorOf_10 (by decide) ?_
    exact w_X4_majorOf_b17 (F := F) C h hW (lv_sub hl [] rfl)
def n_X4_majorOf (F : Nat) (S : Zs) (x0 : Int32) (x1 : Int32) : Option (Int32 × Zs) := n_X4_majorOf_e F  S x0 x1
theorem c_X4_majorOf {l : Launch} {D : va_G} {cs ad : Nat → Nat} {F : Nat} {S : Zs} {x0 : Int32} {x1 : Int32} {q : (Int32 × Zs)} (h : n_X4_majorOf F S x0 x1 = some q) : zMi l yX4_majorOf cX4_majorOf 2 (some .int) (zR 1 20) (xG D cs ad) [.int x0, .int x1] S q :=
  zz_enter (by decide) (Nat.le_of_ble_eq_true rfl) (fun p e s m below meth c ls C hW hl => w_X4_majorOf_e (F := F) C h hW (lv_sub hl [0, 1] rfl))
def n_X4_singleConclusion_b66 (F : Nat)  (S : Zs) (t0 : Int32) : Option (Int32 × Zs) :=
  some (t0, S)
set_option maxRecDepth 20000 in
set_option maxHeartbeats 4000000 in
theorem w_X4_singleConclusion_b66 {F : Nat} {q : (Int32 × Zs)} {S : Zs}  {t0 : Int32} {ls : Array Slot} {H : Heap} {locs : List Loc} (C : zC p s m args meth c cX4_singleConclusion 5 RX4 (some .int))  (h : n_X4_singleConclusion_b66 F  S t0 = some q) (hW : zW (xG D cs ad) s S H locs) (hl : lv_has ls 5 []) : W p l e (zR 1 22) s m args below meth c H locs 0 0 (zQi (xG D cs ad) q below args s) (F0 m 66 ls [.int t0]) := by
  unfold n_X4_singleConclusion_b66 at h
  obtain ⟨hx, hb, hml, hown, hts, hret, hlk⟩ := id C
  exact zz_iret C rfl h hW dX4_singleConclusion_66
def n_X4_singleConclusion_b54 (F : Nat)  (S : Zs) (x2 : Int32) (x3 : Int32) (x4 : Int32) : Option (Int32 × Zs) :=
  zcl (n_X0_make F S x2 x4 x3) (fun v2 S1 => n_X4_singleConclusion_b66 F  S1 v2)
set_option maxRecDepth 20000 in
set_option maxHeartbeats 4000000 in
theorem w_X4_singleConclusion_b54 {F : Nat} {q : (Int32 × Zs)} {S : Zs}  {x2 : Int32} {x3 : Int32} {x4 : Int32} {ls : Array Slot} {H : Heap} {locs : List Loc} (C : zC p s m args meth c cX4_singleConclusion 5 RX4 (some .int))  (h : n_X4_singleConclusion_b54 F  S x2 x3 x4 = some q) (hW : zW (xG D cs ad) s S H locs) (hl : lv_has ls 5 [(2, .int x2), (3, .int x3), (4, .int x4)]) : W p l e (zR 1 22) s m args below meth c H locs 0 0 (zQi (xG D cs ad) q below args s) (F0 m 54 ls []) := by
  unfold n_X4_singleConclusion_b54 at h
  obtain ⟨hx, hb, hml, hown, hts, hret, hlk⟩ := id C
  refine lv_iload_n hx hb dX4_singleConclusion_54 rfl (lv_at hl 0 rfl) ?_
  refine lv_iload hx hb dX4_singleConclusion_55 (lv_at hl 2 rfl) ?_
  refine lv_iload_n hx hb dX4_singleConclusion_57 rfl (lv_at hl 1 rfl) ?_
  refine zz_callSi (As := [.int x2, .int x4, .int x3]) C hW h (fun r hr => c_X0_make hr) lk_X4_18 rfl hl.1 ⟨rfl, rfl⟩ ⟨Nat.le_of_ble_eq_true rfl, Nat.le_of_ble_eq_true rfl⟩ (Nat.le_of_ble_eq_true rfl) ⟨Nat.zero_le _, Nat.zero_le _⟩ rfl dX4_singleConclusion_58 (fun v2 S1 H locs h hW => ?_)
  refine lv_goto (tgt := 66) hx hb dX4_singleConclusion_61 (by decide) ?_
  exact w_X4_singleConclusion_b66 (F := F) C h hW (lv_sub hl [] rfl)
def n_X4_singleConclusion_b98 (F : Nat)  (S : Zs) (t0 : Int32) : Option (Int32 × Zs) :=
  some (t0, S)
set_option maxRecDepth 20000 in
set_option maxHeartbeats 4000000 in
theorem w_X4_singleConclusion_b98 {F : Nat} {q : (Int32 × Zs)} {S : Zs}  {t0 : Int32} {ls : Array Slot} {H : Heap} {locs : List Loc} (C : zC p s m args meth c cX4_singleConclusion 5 RX4 (some .int))  (h : n_X4_singleConclusion_b98 F  S t0 = some q) (hW : zW (xG D cs ad) s S H locs) (hl : lv_has ls 5 []) : W p l e (zR 1 22) s m args below meth c H locs 0 0 (zQi (xG D cs ad) q below args s) (F0 m 98 ls [.int t0]) := by
  unfold n_X4_singleConclusion_b98 at h
  obtain ⟨hx, hb, hml, hown, hts, hret, hlk⟩ := id C
  exact zz_iret C rfl h hW dX4_singleConclusion_98
def n_X4_singleConclusion_e (F : Nat)  (S : Zs) (x0 : Int32) (x1 : Int32) : Option (Int32 × Zs) :=
  zcl (n_X0_form F S x1) (fun v2 S1 => zcl (n_X0_subject F S1 x1) (fun v4 S3 => zcl (n_X0_predicate F S3 x1) (fun v6 S5 => if x0 = (19 : Int32) then (if v2 = (1 : Int32) then (n_X4_singleConclusion_b54 F  S5 v2 v4 v6) else (if v2 = (2 : Int32) then (n_X4_singleConclusion_b54 F  S5 v2 v4 v6) else (n_X4_singleConclusion_b66 F  S5 (-2 : Int32)))) else (if x0 = (20 : Int32) then (zcl (n_X0_make F S5 (v2 ^^^ (1 : Int32)) v4 (v6 ^^^ (1 : Int32))) (fun v8 S7 => some (v8, S7))) else (if (2 : Int32) ≤ v2 then (n_X4_singleConclusion_b98 F  S5 (-2 : Int32)) else (zcl (n_X0_make F S5 (v2 + (2 : Int32)) v4 v6) (fun v10 S9 => n_X4_singleConclusion_b98 F  S9 v10)))))))
set_option maxRecDepth 20000 in
set_option maxHeartbeats 4000000 in
theorem w_X4_singleConclusion_e {F : Nat} {q : (Int32 × Zs)} {S : Zs}  {x0 : Int32} {x1 : Int32} {ls : Array Slot} {H : Heap} {locs : List Loc} (C : zC p s m args meth c cX4_singleConclusion 5 RX4 (some .int))  (h : n_X4_singleConclusion_e F  S x0 x1 = some q) (hW : zW (xG D cs ad) s S H locs) (hl : lv_has ls 5 [(0, .int x0), (1, .int x1)]) : W p l e (zR 1 22) s m args below meth c H locs 0 0 (zQi (xG D cs ad) q below args s) (F0 m 0 ls []) := by
  unfold n_X4_singleConclusion_e at h
  obtain ⟨hx, hb, hml, hown, hts, hret, hlk⟩ := id C
  refine lv_iload_n hx hb dX4_singleConclusion_0 rfl (lv_at hl 1 rfl) ?_
  refine zz_callSi (As := [.int x1]) C hW h (fun r hr => c_X0_form hr) lk_X4_39 rfl hl.1 ⟨rfl, rfl⟩ ⟨Nat.le_of_ble_eq_true rfl, Nat.le_of_ble_eq_true rfl⟩ (Nat.le_of_ble_eq_true rfl) ⟨Nat.zero_le _, Nat.zero_le _⟩ rfl dX4_singleConclusion_1 (fun v2 S1 H locs h hW => ?_)
  refine lv_istore_n (lv' := [(2, .int v2), (0, .int x0), (1, .int x1)]) hx hb dX4_singleConclusion_4 rfl hl (by decide) rfl (fun ls hl => ?_)
  refine lv_iload_n hx hb dX4_singleConclusion_5 rfl (lv_at hl 2 rfl) ?_
  refine zz_callSi (As := [.int x1]) C hW h (fun r hr => c_X0_subject hr) lk_X4_24 rfl hl.1 ⟨rfl, rfl⟩ ⟨Nat.le_of_ble_eq_true rfl, Nat.le_of_ble_eq_true rfl⟩ (Nat.le_of_ble_eq_true rfl) ⟨Nat.zero_le _, Nat.zero_le _⟩ rfl dX4_singleConclusion_6 (fun v4 S3 H locs h hW => ?_)
  refine lv_istore_n (lv' := [(3, .int v4), (2, .int v2), (0, .int x0), (1, .int x1)]) hx hb dX4_singleConclusion_9 rfl hl (by decide) rfl (fun ls hl => ?_)
  refine lv_iload_n hx hb dX4_singleConclusion_10 rfl (lv_at hl 3 rfl) ?_
  refine zz_callSi (As := [.int x1]) C hW h (fun r hr => c_X0_predicate hr) lk_X4_28 rfl hl.1 ⟨rfl, rfl⟩ ⟨Nat.le_of_ble_eq_true rfl, Nat.le_of_ble_eq_true rfl⟩ (Nat.le_of_ble_eq_true rfl) ⟨Nat.zero_le _, Nat.zero_le _⟩ rfl dX4_singleConclusion_11 (fun v6 S5 H locs h hW => ?_)
  refine lv_istore (lv' := [(4, .int v6), (3, .int v4), (2, .int v2), (0, .int x0), (1, .int x1)]) hx hb dX4_singleConclusion_14 hl (by decide) rfl (fun ls hl => ?_)
  refine lv_iload_n hx hb dX4_singleConclusion_16 rfl (lv_at hl 3 rfl) ?_
  by_cases e0 : x0 = (19 : Int32)
  · replace h := (zz_if h).1 e0
    refine lv_lookup (off := 27) (tgt := 44) hx hb dX4_singleConclusion_17 (by decide) (by rw [e0]; decide) (by decide) ?_
    refine lv_iload_n hx hb dX4_singleConclusion_44 rfl (lv_at hl 2 rfl) ?_
    refine lv_iconst (v := 1) hx hb dX4_singleConclusion_45 (by decide) ?_
    refine zz_ceq (tgt := 54) C h dX4_singleConclusion_46 (by decide) (fun h => ?_) (fun h => ?_)
    · exact w_X4_singleConclusion_b54 (F := F) C h hW (lv_sub hl [2, 1, 0] rfl)
    · refine lv_iload_n hx hb dX4_singleConclusion_49 rfl (lv_at hl 2 rfl) ?_
      refine lv_iconst (v := 2) hx hb dX4_singleConclusion_50 (by decide) ?_
      refine zz_cne (tgt := 64) C h dX4_singleConclusion_51 (by decide) (fun h => ?_) (fun h => ?_)
      · refine lv_bipush (v := -2) hx hb dX4_singleConclusion_64 (by decide) ?_
        exact w_X4_singleConclusion_b66 (F := F) C h hW (lv_sub hl [] rfl)
      · exact w_X4_singleConclusion_b54 (F := F) C h hW (lv_sub hl [2, 1, 0] rfl)
  · replace h := (zz_if h).2 e0
    by_cases e1 : x0 = (20 : Int32)
    · replace h := (zz_if h).1 e1
      refine lv_lookup (off := 50) (tgt := 67) hx hb dX4_singleConclusion_17 (by decide) (by rw [e1]; decide) (by decide) ?_
      refine lv_iload_n hx hb dX4_singleConclusion_67 rfl (lv_at hl 2 rfl) ?_
      refine lv_iconst (v := 1) hx hb dX4_singleConclusion_68 (by decide) ?_
      refine lv_ixor hx hb dX4_singleConclusion_69 ?_
      refine lv_iload_n hx hb dX4_singleConclusion_70 rfl (lv_at hl 1 rfl) ?_
      refine lv_iload hx hb dX4_singleConclusion_71 (lv_at hl 0 rfl) ?_
      refine lv_iconst (v := 1) hx hb dX4_singleConclusion_73 (by decide) ?_
      refine lv_ixor hx hb dX4_singleConclusion_74 ?_
      refine zz_callSi (As := [.int (v2 ^^^ (1 : Int32)), .int v4, .int (v6 ^^^ (1 : Int32))]) C hW h (fun r hr => c_X0_make hr) lk_X4_18 rfl hl.1 ⟨rfl, rfl⟩ ⟨Nat.le_of_ble_eq_true rfl, Nat.le_of_ble_eq_true rfl⟩ (Nat.le_of_ble_eq_true rfl) ⟨Nat.zero_le _, Nat.zero_le _⟩ rfl dX4_singleConclusion_75 (fun v8 S7 H locs h hW => ?_)
      exact zz_iret C rfl h hW dX4_singleConclusion_78
    · replace h := (zz_if h).2 e1
      refine lv_lookup (off := 62) (tgt := 79) hx hb dX4_singleConclusion_17 (by decide) (zsw_no2 e0 e1) (by decide) ?_
      refine lv_iload_n hx hb dX4_singleConclusion_79 rfl (lv_at hl 2 rfl) ?_
      refine lv_iconst (v := 2) hx hb dX4_singleConclusion_80 (by decide) ?_
      refine zz_cge (tgt := 96) C h dX4_singleConclusion_81 (by decide) (fun h => ?_) (fun h => ?_)
      · refine lv_bipush (v := -2) hx hb dX4_singleConclusion_96 (by decide) ?_
        exact w_X4_singleConclusion_b98 (F := F) C h hW (lv_sub hl [] rfl)
      · refine lv_iload_n hx hb dX4_singleConclusion_84 rfl (lv_at hl 2 rfl) ?_
        refine lv_iconst (v := 2) hx hb dX4_singleConclusion_85 (by decide) ?_
        refine lv_iadd hx hb dX4_singleConclusion_86 ?_
        refine lv_iload_n hx hb dX4_singleConclusion_87 rfl (lv_at hl 1 rfl) ?_
        refine lv_iload hx hb dX4_singleConclusion_88 (lv_at hl 0 rfl) ?_
        refine zz_callSi (As := [.int (v2 + (2 : Int32)), .int v4, .int v6]) C hW h (fun r hr => c_X0_make hr) lk_X4_18 rfl hl.1 ⟨rfl, rfl⟩ ⟨Nat.le_of_ble_eq_true rfl, Nat.le_of_ble_eq_true rfl⟩ (Nat.le_of_ble_eq_true rfl) ⟨Nat.zero_le _, Nat.zero_le _⟩ rfl dX4_singleConclusion_90 (fun v10 S9 H locs h hW => ?_)
        refine lv_goto (tgt := 98) hx hb dX4_singleConclusion_93 (by decide) ?_
        exact w_X4_singleConclusion_b98 (F := F) C h hW (lv_sub hl [] rfl)
def n_X4_singleConclusion (F : Nat) (S : Zs) (x0 : Int32) (x1 : Int32) : Option (Int32 × Zs) := n_X4_singleConclusion_e F  S x0 x1
theorem c_X4_singleConclusion {l : Launch} {D : va_G} {cs ad : Nat → Nat} {F : Nat} {S : Zs} {x0 : Int32} {x1 : Int32} {q : (Int32 × Zs)} (h : n_X4_singleConclusion F S x0 x1 = some q) : zMi l yX4_singleConclusion cX4_singleConclusion 5 (some .int) (zR 1 22) (xG D cs ad) [.int x0, .int x1] S q :=
  zz_enter (by decide) (Nat.le_of_ble_eq_true rfl) (fun p e s m below meth c ls C hW hl => w_X4_singleConclusion_e (F := F) C h hW (lv_sub hl [0, 1] rfl))
def n_X4_conclusion_b55 (F : Nat)  (S : Zs)  : Option (Int32 × Zs) :=
  some ((-2 : Int32), S)
set_option maxRecDepth 20000 in
set_option maxHeartbeats 4000000 in
theorem w_X4_conclusion_b55 {F : Nat} {q : (Int32 × Zs)} {S : Zs}   {ls : Array Slot} {H : Heap} {locs : List Loc} (C : zC p s m args meth c cX4_conclusion 4 RX4 (some .int))  (h : n_X4_conclusion_b55 F  S  = some q) (hW : zW (xG D cs ad) s S H locs) (hl : lv_has ls 4 []) : W p l e (zR 2 46) s m args below meth c H locs 0 0 (zQi (xG D cs ad) q below args s) (F0 m 55 ls []) := by
  unfold n_X4_conclusion_b55 at h
  obtain ⟨hx, hb, hml, hown, hts, hret, hlk⟩ := id C
  refine lv_bipush (v := -2) hx hb dX4_conclusion_55 (by decide) ?_
  exact zz_iret C rfl h hW dX4_conclusion_57
def n_X4_conclusion_e (F : Nat)  (S : Zs) (x0 : Int32) (x1 : Int32) (x2 : Int32) : Option (Int32 × Zs) :=
  if x0 < (19 : Int32) then (zlt xt_51 19 x0 (fun v1 => zcl (n_X0_form F S x1) (fun v3 S2 => zlt xt_52 19 x0 (fun v4 => if v3 = v4 then (zcl (n_X0_form F S2 x2) (fun v6 S5 => zlt xt_53 19 x0 (fun v7 => if v6 = v7 then (zcl (n_X4_middleOfFirst F S5 v1 x1) (fun v9 S8 => zcl (n_X4_middleOfSecond F S8 v1 x2) (fun v11 S10 => if v9 = v11 then (zlt xt_54 19 x0 (fun v12 => zcl (n_X4_minorOf F S10 v1 x2) (fun v14 S13 => zcl (n_X4_majorOf F S13 v1 x1) (fun v16 S15 => zcl (n_X0_make F S15 v12 v14 v16) (fun v18 S17 => some (v18, S17)))))) else (n_X4_conclusion_b55 F  S10 )))) else (n_X4_conclusion_b55 F  S5 )))) else (n_X4_conclusion_b55 F  S2 ))))) else (zcl (n_X4_singleConclusion F S x0 x1) (fun v20 S19 => some (v20, S19)))
set_option maxRecDepth 20000 in
set_option maxHeartbeats 4000000 in
theorem w_X4_conclusion_e {F : Nat} {q : (Int32 × Zs)} {S : Zs}  {x0 : Int32} {x1 : Int32} {x2 : Int32} {ls : Array Slot} {H : Heap} {locs : List Loc} (C : zC p s m args meth c cX4_conclusion 4 RX4 (some .int))  (h : n_X4_conclusion_e F  S x0 x1 x2 = some q) (hW : zW (xG D cs ad) s S H locs) (hl : lv_has ls 4 [(0, .int x0), (1, .int x1), (2, .int x2)]) : W p l e (zR 2 46) s m args below meth c H locs 0 0 (zQi (xG D cs ad) q below args s) (F0 m 0 ls []) := by
  unfold n_X4_conclusion_e at h
  obtain ⟨hx, hb, hml, hown, hts, hret, hlk⟩ := id C
  refine lv_iload_n hx hb dX4_conclusion_0 rfl (lv_at hl 0 rfl) ?_
  refine lv_bipush (v := 19) hx hb dX4_conclusion_1 (by decide) ?_
  refine zz_clt (tgt := 12) C h dX4_conclusion_3 (by decide) (fun h => ?_) (fun h => ?_)
  · refine xst_51 C hW fl_X4_35 dX4_conclusion_12 ?_
    refine lv_iload_n hx hb dX4_conclusion_15 rfl (lv_at hl 0 rfl) ?_
    refine xtl_51 C hW h dX4_conclusion_16 (fun v1 h => ?_)
    refine lv_istore_n (lv' := [(3, .int v1), (0, .int x0), (1, .int x1), (2, .int x2)]) hx hb dX4_conclusion_17 rfl hl (by decide) rfl (fun ls hl => ?_)
    refine lv_iload_n hx hb dX4_conclusion_18 rfl (lv_at hl 2 rfl) ?_
    refine zz_callSi (As := [.int x1]) C hW h (fun r hr => c_X0_form hr) lk_X4_39 rfl hl.1 ⟨rfl, rfl⟩ ⟨Nat.le_of_ble_eq_true rfl, Nat.le_of_ble_eq_true rfl⟩ (Nat.le_of_ble_eq_true rfl) ⟨Nat.zero_le _, Nat.zero_le _⟩ rfl dX4_conclusion_19 (fun v3 S2 H locs h hW => ?_)
    refine xst_52 C hW fl_X4_42 dX4_conclusion_22 ?_
    refine lv_iload_n hx hb dX4_conclusion_25 rfl (lv_at hl 1 rfl) ?_
    refine xtl_52 C hW h dX4_conclusion_26 (fun v4 h => ?_)
    refine zz_cne (tgt := 55) C h dX4_conclusion_27 (by decide) (fun h => ?_) (fun h => ?_)
    · exact w_X4_conclusion_b55 (F := F) C h hW (lv_sub hl [] rfl)
    · refine lv_iload_n hx hb dX4_conclusion_30 rfl (lv_at hl 3 rfl) ?_
      refine zz_callSi (As := [.int x2]) C hW h (fun r hr => c_X0_form hr) lk_X4_39 rfl hl.1 ⟨rfl, rfl⟩ ⟨Nat.le_of_ble_eq_true rfl, Nat.le_of_ble_eq_true rfl⟩ (Nat.le_of_ble_eq_true rfl) ⟨Nat.zero_le _, Nat.zero_le _⟩ rfl dX4_conclusion_31 (fun v6 S5 H locs h hW => ?_)
      refine xst_53 C hW fl_X4_45 dX4_conclusion_34 ?_
      refine lv_iload_n hx hb dX4_conclusion_37 rfl (lv_at hl 1 rfl) ?_
      refine xtl_53 C hW h dX4_conclusion_38 (fun v7 h => ?_)
      refine zz_cne (tgt := 55) C h dX4_conclusion_39 (by decide) (fun h => ?_) (fun h => ?_)
      · exact w_X4_conclusion_b55 (F := F) C h hW (lv_sub hl [] rfl)
      · refine lv_iload_n hx hb dX4_conclusion_42 rfl (lv_at hl 0 rfl) ?_
        refine lv_iload_n hx hb dX4_conclusion_43 rfl (lv_at hl 2 rfl) ?_
        refine zz_callSi (As := [.int v1, .int x1]) C hW h (fun r hr => c_X4_middleOfFirst hr) lk_X4_48 rfl hl.1 ⟨rfl, rfl⟩ ⟨Nat.le_of_ble_eq_true rfl, Nat.le_of_ble_eq_true rfl⟩ (Nat.le_of_ble_eq_true rfl) ⟨Nat.zero_le _, Nat.zero_le _⟩ rfl dX4_conclusion_44 (fun v9 S8 H locs h hW => ?_)
        refine lv_iload_n hx hb dX4_conclusion_47 rfl (lv_at hl 0 rfl) ?_
        refine lv_iload_n hx hb dX4_conclusion_48 rfl (lv_at hl 3 rfl) ?_
        refine zz_callSi (As := [.int v1, .int x2]) C hW h (fun r hr => c_X4_middleOfSecond hr) lk_X4_51 rfl hl.1 ⟨rfl, rfl⟩ ⟨Nat.le_of_ble_eq_true rfl, Nat.le_of_ble_eq_true rfl⟩ (Nat.le_of_ble_eq_true rfl) ⟨Nat.zero_le _, Nat.zero_le _⟩ rfl dX4_conclusion_49 (fun v11 S10 H locs h hW => ?_)
        refine zz_ceq (tgt := 58) C h dX4_conclusion_52 (by decide) (fun h => ?_) (fun h => ?_)
        · refine xst_54 C hW fl_X4_54 dX4_conclusion_58 ?_
          refine lv_iload_n hx hb dX4_conclusion_61 rfl (lv_at hl 1 rfl) ?_
          refine xtl_54 C hW h dX4_conclusion_62 (fun v12 h => ?_)
          refine lv_iload_n hx hb dX4_conclusion_63 rfl (lv_at hl 0 rfl) ?_
          refine lv_iload_n hx hb dX4_conclusion_64 rfl (lv_at hl 3 rfl) ?_
          refine zz_callSi (As := [.int v1, .int x2]) C hW h (fun r hr => c_X4_minorOf hr) lk_X4_57 rfl hl.1 ⟨rfl, rfl⟩ ⟨Nat.le_of_ble_eq_true rfl, Nat.le_of_ble_eq_true rfl⟩ (Nat.le_of_ble_eq_true rfl) ⟨Nat.zero_le _, Nat.zero_le _⟩ rfl dX4_conclusion_65 (fun v14 S13 H locs h hW => ?_)
          refine lv_iload_n hx hb dX4_conclusion_68 rfl (lv_at hl 0 rfl) ?_
          refine lv_iload_n hx hb dX4_conclusion_69 rfl (lv_at hl 2 rfl) ?_
          refine zz_callSi (As := [.int v1, .int x1]) C hW h (fun r hr => c_X4_majorOf hr) lk_X4_60 rfl hl.1 ⟨rfl, rfl⟩ ⟨Nat.le_of_ble_eq_true rfl, Nat.le_of_ble_eq_true rfl⟩ (Nat.le_of_ble_eq_true rfl) ⟨Nat.zero_le _, Nat.zero_le _⟩ rfl dX4_conclusion_70 (fun v16 S15 H locs h hW => ?_)
          refine zz_callSi (As := [.int v12, .int v14, .int v16]) C hW h (fun r hr => c_X0_make hr) lk_X4_18 rfl hl.1 ⟨rfl, rfl⟩ ⟨Nat.le_of_ble_eq_true rfl, Nat.le_of_ble_eq_true rfl⟩ (Nat.le_of_ble_eq_true rfl) ⟨Nat.zero_le _, Nat.zero_le _⟩ rfl dX4_conclusion_73 (fun v18 S17 H locs h hW => ?_)
          exact zz_iret C rfl h hW dX4_conclusion_76
        · exact w_X4_conclusion_b55 (F := F) C h hW (lv_sub hl [] rfl)
  · refine lv_iload_n hx hb dX4_conclusion_6 rfl (lv_at hl 0 rfl) ?_
    refine lv_iload_n hx hb dX4_conclusion_7 rfl (lv_at hl 1 rfl) ?_
    refine zz_callSi (As := [.int x0, .int x1]) C hW h (fun r hr => c_X4_singleConclusion hr) lk_X4_31 rfl hl.1 ⟨rfl, rfl⟩ ⟨Nat.le_of_ble_eq_true rfl, Nat.le_of_ble_eq_true rfl⟩ (Nat.le_of_ble_eq_true rfl) ⟨Nat.zero_le _, Nat.zero_le _⟩ rfl dX4_conclusion_8 (fun v20 S19 H locs h hW => ?_)
    exact zz_iret C rfl h hW dX4_conclusion_11
def n_X4_conclusion (F : Nat) (S : Zs) (x0 : Int32) (x1 : Int32) (x2 : Int32) : Option (Int32 × Zs) := n_X4_conclusion_e F  S x0 x1 x2
theorem c_X4_conclusion {l : Launch} {D : va_G} {cs ad : Nat → Nat} {F : Nat} {S : Zs} {x0 : Int32} {x1 : Int32} {x2 : Int32} {q : (Int32 × Zs)} (h : n_X4_conclusion F S x0 x1 x2 = some q) : zMi l yX4_conclusion cX4_conclusion 4 (some .int) (zR 2 46) (xG D cs ad) [.int x0, .int x1, .int x2] S q :=
  zz_enter (by decide) (Nat.le_of_ble_eq_true rfl) (fun p e s m below meth c ls C hW hl => w_X4_conclusion_e (F := F) C h hW (lv_sub hl [0, 1, 2] rfl))
def n_X11_step_0_b17 (F : Nat)  (S : Zs)  : Option (Int32 × Zs) :=
  some ((-1 : Int32), S)
set_option maxRecDepth 20000 in
set_option maxHeartbeats 4000000 in
theorem w_X11_step_0_b17 {F : Nat} {q : (Int32 × Zs)} {S : Zs}   {ls : Array Slot} {H : Heap} {locs : List Loc} (C : zC p s m args meth c cX11_step 5 RX11 (some .int))  (h : n_X11_step_0_b17 F  S  = some q) (hW : zW (xG D cs ad) s S H locs) (hl : lv_has ls 5 []) : W p l e (zR 3 69) s m args below meth c H locs 0 0 (zQi (xG D cs ad) q below args s) (F0 m 17 ls []) := by
  unfold n_X11_step_0_b17 at h
  obtain ⟨hx, hb, hml, hown, hts, hret, hlk⟩ := id C
  refine lv_iconst (v := -1) hx hb dX11_step_17 (by decide) ?_
  exact zz_iret C rfl h hW dX11_step_18
def n_X11_step_0_b54 (F : Nat)  (S : Zs) (x1 : Int32) (x2 : Int32) (x3 : Int32) : Option (Int32 × Zs) :=
  zgf S 65 (fun v1 => zcl (n_X4_isAlive F S x1 x2 v1) (fun v3 S2 => if v3 = 0 then (some ((-2 : Int32), S2)) else (zcl (n_X4_conclusion F S2 x1 x2 x3) (fun v5 S4 => some (v5, S4)))))
set_option maxRecDepth 20000 in
set_option maxHeartbeats 4000000 in
theorem w_X11_step_0_b54 {F : Nat} {q : (Int32 × Zs)} {S : Zs}  {x1 : Int32} {x2 : Int32} {x3 : Int32} {ls : Array Slot} {H : Heap} {locs : List Loc} (C : zC p s m args meth c cX11_step 5 RX11 (some .int))  (h : n_X11_step_0_b54 F  S x1 x2 x3 = some q) (hW : zW (xG D cs ad) s S H locs) (hl : lv_has ls 5 [(0, .ref (ad 0)), (1, .int x1), (2, .int x2), (3, .int x3)]) : W p l e (zR 3 69) s m args below meth c H locs 0 0 (zQi (xG D cs ad) q below args s) (F0 m 54 ls []) := by
  unfold n_X11_step_0_b54 at h
  obtain ⟨hx, hb, hml, hown, hts, hret, hlk⟩ := id C
  refine lv_iload_n hx hb dX11_step_54 rfl (lv_at hl 1 rfl) ?_
  refine lv_iload_n hx hb dX11_step_55 rfl (lv_at hl 2 rfl) ?_
  refine lv_aload_n hx hb dX11_step_56 rfl (lv_at hl 0 rfl) ?_
  refine xg_0_1 C hW fl_X11_27 dX11_step_57 ?_
  refine xg_3_5 C hW h fl_X11_123 dX11_step_60 (fun v1 h => ?_)
  refine zz_callSi (As := [.int x1, .int x2, .int v1]) C hW h (fun r hr => c_X4_isAlive hr) lk_X11_245 rfl hl.1 ⟨rfl, rfl⟩ ⟨Nat.le_of_ble_eq_true rfl, Nat.le_of_ble_eq_true rfl⟩ (Nat.le_of_ble_eq_true rfl) ⟨Nat.zero_le _, Nat.zero_le _⟩ rfl dX11_step_63 (fun v3 S2 H locs h hW => ?_)
  refine zz_ine (tgt := 72) C h dX11_step_66 (by decide) (fun h => ?_) (fun h => ?_)
  · refine lv_iload_n hx hb dX11_step_72 rfl (lv_at hl 1 rfl) ?_
    refine lv_iload_n hx hb dX11_step_73 rfl (lv_at hl 2 rfl) ?_
    refine lv_iload_n hx hb dX11_step_74 rfl (lv_at hl 3 rfl) ?_
    refine zz_callSi (As := [.int x1, .int x2, .int x3]) C hW h (fun r hr => c_X4_conclusion hr) lk_X11_249 rfl hl.1 ⟨rfl, rfl⟩ ⟨Nat.le_of_ble_eq_true rfl, Nat.le_of_ble_eq_true rfl⟩ (Nat.le_of_ble_eq_true rfl) ⟨Nat.zero_le _, Nat.zero_le _⟩ rfl dX11_step_75 (fun v5 S4 H locs h hW => ?_)
    exact zz_iret C rfl h hW dX11_step_78
  · refine lv_bipush (v := -2) hx hb dX11_step_69 (by decide) ?_
    exact zz_iret C rfl h hW dX11_step_71
def n_X11_step_0_b52 (F : Nat)  (S : Zs)  : Option (Int32 × Zs) :=
  some ((-1 : Int32), S)
set_option maxRecDepth 20000 in
set_option maxHeartbeats 4000000 in
theorem w_X11_step_0_b52 {F : Nat} {q : (Int32 × Zs)} {S : Zs}   {ls : Array Slot} {H : Heap} {locs : List Loc} (C : zC p s m args meth c cX11_step 5 RX11 (some .int))  (h : n_X11_step_0_b52 F  S  = some q) (hW : zW (xG D cs ad) s S H locs) (hl : lv_has ls 5 []) : W p l e (zR 3 69) s m args below meth c H locs 0 0 (zQi (xG D cs ad) q below args s) (F0 m 52 ls []) := by
  unfold n_X11_step_0_b52 at h
  obtain ⟨hx, hb, hml, hown, hts, hret, hlk⟩ := id C
  refine lv_iconst (v := -1) hx hb dX11_step_52 (by decide) ?_
  exact zz_iret C rfl h hW dX11_step_53
def n_X11_step_0_b30 (F : Nat)  (S : Zs) (x1 : Int32) (x2 : Int32) (x3 : Int32) (t0 : Int32) : Option (Int32 × Zs) :=
  if t0 = 0 then (zcl (n_X0_isCode F S x3) (fun v2 S1 => if v2 = 0 then (n_X11_step_0_b52 F  S1 ) else (n_X11_step_0_b54 F  S1 x1 x2 x3))) else (if x3 = (-1 : Int32) then (n_X11_step_0_b54 F  S x1 x2 x3) else (n_X11_step_0_b52 F  S ))
set_option maxRecDepth 20000 in
set_option maxHeartbeats 4000000 in
theorem w_X11_step_0_b30 {F : Nat} {q : (Int32 × Zs)} {S : Zs}  {x1 : Int32} {x2 : Int32} {x3 : Int32} {t0 : Int32} {ls : Array Slot} {H : Heap} {locs : List Loc} (C : zC p s m args meth c cX11_step 5 RX11 (some .int))  (h : n_X11_step_0_b30 F  S x1 x2 x3 t0 = some q) (hW : zW (xG D cs ad) s S H locs) (hl : lv_has ls 5 [(0, .ref (ad 0)), (1, .int x1), (2, .int x2), (3, .int x3)]) : W p l e (zR 3 69) s m args below meth c H locs 0 0 (zQi (xG D cs ad) q below args s) (F0 m 30 ls [.int t0]) := by
  unfold n_X11_step_0_b30 at h
  obtain ⟨hx, hb, hml, hown, hts, hret, hlk⟩ := id C
  refine lv_istore (lv' := [(4, .int t0), (0, .ref (ad 0)), (1, .int x1), (2, .int x2), (3, .int x3)]) hx hb dX11_step_30 hl (by decide) rfl (fun ls hl => ?_)
  refine lv_iload hx hb dX11_step_32 (lv_at hl 0 rfl) ?_
  refine zz_ieq (tgt := 45) C h dX11_step_34 (by decide) (fun h => ?_) (fun h => ?_)
  · refine lv_iload_n hx hb dX11_step_45 rfl (lv_at hl 4 rfl) ?_
    refine zz_callSi (As := [.int x3]) C hW h (fun r hr => c_X0_isCode hr) lk_X11_126 rfl hl.1 ⟨rfl, rfl⟩ ⟨Nat.le_of_ble_eq_true rfl, Nat.le_of_ble_eq_true rfl⟩ (Nat.le_of_ble_eq_true rfl) ⟨Nat.zero_le _, Nat.zero_le _⟩ rfl dX11_step_46 (fun v2 S1 H locs h hW => ?_)
    refine zz_ine (tgt := 54) C h dX11_step_49 (by decide) (fun h => ?_) (fun h => ?_)
    · exact w_X11_step_0_b54 (F := F) C h hW (lv_sub hl [1, 2, 3, 4] rfl)
    · exact w_X11_step_0_b52 (F := F) C h hW (lv_sub hl [] rfl)
  · refine lv_iload_n hx hb dX11_step_37 rfl (lv_at hl 4 rfl) ?_
    refine lv_iconst (v := -1) hx hb dX11_step_38 (by decide) ?_
    refine zz_ceq (tgt := 54) C h dX11_step_39 (by decide) (fun h => ?_) (fun h => ?_)
    · exact w_X11_step_0_b54 (F := F) C h hW (lv_sub hl [1, 2, 3, 4] rfl)
    · refine lv_goto (tgt := 52) hx hb dX11_step_42 (by decide) ?_
      exact w_X11_step_0_b52 (F := F) C h hW (lv_sub hl [] rfl)
def n_X11_step_0_e (F : Nat)  (S : Zs) (x1 : Int32) (x2 : Int32) (x3 : Int32) : Option (Int32 × Zs) :=
  if x1 < 0 then (n_X11_step_0_b17 F  S ) else (if (22 : Int32) ≤ x1 then (n_X11_step_0_b17 F  S ) else (zcl (n_X0_isCode F S x2) (fun v2 S1 => if v2 = 0 then (n_X11_step_0_b17 F  S1 ) else (if x1 < (19 : Int32) then (n_X11_step_0_b30 F  S1 x1 x2 x3 (0 : Int32)) else (n_X11_step_0_b30 F  S1 x1 x2 x3 (1 : Int32))))))
set_option maxRecDepth 20000 in
set_option maxHeartbeats 4000000 in
theorem w_X11_step_0_e {F : Nat} {q : (Int32 × Zs)} {S : Zs}  {x1 : Int32} {x2 : Int32} {x3 : Int32} {ls : Array Slot} {H : Heap} {locs : List Loc} (C : zC p s m args meth c cX11_step 5 RX11 (some .int))  (h : n_X11_step_0_e F  S x1 x2 x3 = some q) (hW : zW (xG D cs ad) s S H locs) (hl : lv_has ls 5 [(0, .ref (ad 0)), (1, .int x1), (2, .int x2), (3, .int x3)]) : W p l e (zR 3 69) s m args below meth c H locs 0 0 (zQi (xG D cs ad) q below args s) (F0 m 0 ls []) := by
  unfold n_X11_step_0_e at h
  obtain ⟨hx, hb, hml, hown, hts, hret, hlk⟩ := id C
  refine lv_iload_n hx hb dX11_step_0 rfl (lv_at hl 1 rfl) ?_
  refine zz_ilt (tgt := 17) C h dX11_step_1 (by decide) (fun h => ?_) (fun h => ?_)
  · exact w_X11_step_0_b17 (F := F) C h hW (lv_sub hl [] rfl)
  · refine lv_iload_n hx hb dX11_step_4 rfl (lv_at hl 1 rfl) ?_
    refine lv_bipush (v := 22) hx hb dX11_step_5 (by decide) ?_
    refine zz_cge (tgt := 17) C h dX11_step_7 (by decide) (fun h => ?_) (fun h => ?_)
    · exact w_X11_step_0_b17 (F := F) C h hW (lv_sub hl [] rfl)
    · refine lv_iload_n hx hb dX11_step_10 rfl (lv_at hl 2 rfl) ?_
      refine zz_callSi (As := [.int x2]) C hW h (fun r hr => c_X0_isCode hr) lk_X11_126 rfl hl.1 ⟨rfl, rfl⟩ ⟨Nat.le_of_ble_eq_true rfl, Nat.le_of_ble_eq_true rfl⟩ (Nat.le_of_ble_eq_true rfl) ⟨Nat.zero_le _, Nat.zero_le _⟩ rfl dX11_step_11 (fun v2 S1 H locs h hW => ?_)
      refine zz_ine (tgt := 19) C h dX11_step_14 (by decide) (fun h => ?_) (fun h => ?_)
      · refine lv_iload_n hx hb dX11_step_19 rfl (lv_at hl 1 rfl) ?_
        refine lv_bipush (v := 19) hx hb dX11_step_20 (by decide) ?_
        refine zz_clt (tgt := 29) C h dX11_step_22 (by decide) (fun h => ?_) (fun h => ?_)
        · refine lv_iconst (v := 0) hx hb dX11_step_29 (by decide) ?_
          exact w_X11_step_0_b30 (F := F) C h hW (lv_sub hl [0, 1, 2, 3] rfl)
        · refine lv_iconst (v := 1) hx hb dX11_step_25 (by decide) ?_
          refine lv_goto (tgt := 30) hx hb dX11_step_26 (by decide) ?_
          exact w_X11_step_0_b30 (F := F) C h hW (lv_sub hl [0, 1, 2, 3] rfl)
      · exact w_X11_step_0_b17 (F := F) C h hW (lv_sub hl [] rfl)
def n_X11_step_0 (F : Nat) (S : Zs) (x1 : Int32) (x2 : Int32) (x3 : Int32) : Option (Int32 × Zs) := n_X11_step_0_e F  S x1 x2 x3
theorem c_X11_step_0 {l : Launch} {D : va_G} {cs ad : Nat → Nat} {F : Nat} {S : Zs} {x1 : Int32} {x2 : Int32} {x3 : Int32} {q : (Int32 × Zs)} (h : n_X11_step_0 F S x1 x2 x3 = some q) : zMi l yX11_step cX11_step 5 (some .int) (zR 3 69) (xG D cs ad) [.ref (ad 0), .int x1, .int x2, .int x3] S q :=
  zz_enter (by decide) (Nat.le_of_ble_eq_true rfl) (fun p e s m below meth c ls C hW hl => w_X11_step_0_e (F := F) C h hW (lv_sub hl [0, 1, 2, 3] rfl))
def n_X5_isAllowed_35_b16 (F : Nat)  (S : Zs) (t0 : Int32) : Option (Int32 × Zs) :=
  zrb t0 S
set_option maxRecDepth 20000 in
set_option maxHeartbeats 4000000 in
theorem w_X5_isAllowed_35_b16 {F : Nat} {q : (Int32 × Zs)} {S : Zs}  {t0 : Int32} {ls : Array Slot} {H : Heap} {locs : List Loc} (C : zC p s m args meth c cX5_isAllowed 2 RX5 (some .boolean))  (h : n_X5_isAllowed_35_b16 F  S t0 = some q) (hW : zW (xG D cs ad) s S H locs) (hl : lv_has ls 2 []) : W p l e (zR 0 0) s m args below meth c H locs 0 0 (zQi (xG D cs ad) q below args s) (F0 m 16 ls [.int t0]) := by
  unfold n_X5_isAllowed_35_b16 at h
  obtain ⟨hx, hb, hml, hown, hts, hret, hlk⟩ := id C
  exact zz_zret C rfl h hW dX5_isAllowed_16
def n_X5_isAllowed_35_e (F : Nat)  (S : Zs) (x1 : Int32) : Option (Int32 × Zs) :=
  zgf S 711 (fun v1 => if ((v1 >>> (x1 &&& 31)) &&& (1 : Int32)) = 0 then (n_X5_isAllowed_35_b16 F  S (0 : Int32)) else (n_X5_isAllowed_35_b16 F  S (1 : Int32)))
set_option maxRecDepth 20000 in
set_option maxHeartbeats 4000000 in
theorem w_X5_isAllowed_35_e {F : Nat} {q : (Int32 × Zs)} {S : Zs}  {x1 : Int32} {ls : Array Slot} {H : Heap} {locs : List Loc} (C : zC p s m args meth c cX5_isAllowed 2 RX5 (some .boolean))  (h : n_X5_isAllowed_35_e F  S x1 = some q) (hW : zW (xG D cs ad) s S H locs) (hl : lv_has ls 2 [(0, .ref (ad 35)), (1, .int x1)]) : W p l e (zR 0 0) s m args below meth c H locs 0 0 (zQi (xG D cs ad) q below args s) (F0 m 0 ls []) := by
  unfold n_X5_isAllowed_35_e at h
  obtain ⟨hx, hb, hml, hown, hts, hret, hlk⟩ := id C
  refine lv_aload_n hx hb dX5_isAllowed_0 rfl (lv_at hl 0 rfl) ?_
  refine xg_35_11 C hW h fl_X5_51 dX5_isAllowed_1 (fun v1 h => ?_)
  refine lv_iload_n hx hb dX5_isAllowed_4 rfl (lv_at hl 1 rfl) ?_
  refine lv_ishr hx hb dX5_isAllowed_5 ?_
  refine lv_iconst (v := 1) hx hb dX5_isAllowed_6 (by decide) ?_
  refine lv_iand hx hb dX5_isAllowed_7 ?_
  refine zz_ieq (tgt := 15) C h dX5_isAllowed_8 (by decide) (fun h => ?_) (fun h => ?_)
  · refine lv_iconst (v := 0) hx hb dX5_isAllowed_15 (by decide) ?_
    exact w_X5_isAllowed_35_b16 (F := F) C h hW (lv_sub hl [] rfl)
  · refine lv_iconst (v := 1) hx hb dX5_isAllowed_11 (by decide) ?_
    refine lv_goto (tgt := 16) hx hb dX5_isAllowed_12 (by decide) ?_
    exact w_X5_isAllowed_35_b16 (F := F) C h hW (lv_sub hl [] rfl)
def n_X5_isAllowed_35 (F : Nat) (S : Zs) (x1 : Int32) : Option (Int32 × Zs) := n_X5_isAllowed_35_e F  S x1
theorem c_X5_isAllowed_35 {l : Launch} {D : va_G} {cs ad : Nat → Nat} {F : Nat} {S : Zs} {x1 : Int32} {q : (Int32 × Zs)} (h : n_X5_isAllowed_35 F S x1 = some q) : zMi l yX5_isAllowed cX5_isAllowed 2 (some .boolean) (zR 0 0) (xG D cs ad) [.ref (ad 35), .int x1] S q :=
  zz_enter (by decide) (Nat.le_of_ble_eq_true rfl) (fun p e s m below meth c ls C hW hl => w_X5_isAllowed_35_e (F := F) C h hW (lv_sub hl [0, 1] rfl))
def n_X5_offer_35_b52 (F : Nat)  (S : Zs) (x1 : Int32) (x2 : Int32) : Option (Int32 × Zs) :=
  zst S 36 2304 x1 x2 (fun S1 => some (0, S1))
set_option maxRecDepth 20000 in
set_option maxHeartbeats 4000000 in
theorem w_X5_offer_35_b52 {F : Nat} {q : (Int32 × Zs)} {S : Zs}  {x1 : Int32} {x2 : Int32} {ls : Array Slot} {H : Heap} {locs : List Loc} (C : zC p s m args meth c cX5_offer 3 RX5 none)  (h : n_X5_offer_35_b52 F  S x1 x2 = some q) (hW : zW (xG D cs ad) s S H locs) (hl : lv_has ls 3 [(0, .ref (ad 35)), (1, .int x1), (2, .int x2)]) : W p l e (zR 0 0) s m args below meth c H locs 0 0 (zQv (xG D cs ad) q below args s) (F0 m 52 ls []) := by
  unfold n_X5_offer_35_b52 at h
  obtain ⟨hx, hb, hml, hown, hts, hret, hlk⟩ := id C
  refine lv_aload_n hx hb dX5_offer_52 rfl (lv_at hl 0 rfl) ?_
  refine xg_35_1 C hW fl_X5_9 dX5_offer_53 ?_
  refine lv_iload_n hx hb dX5_offer_56 rfl (lv_at hl 1 rfl) ?_
  refine lv_iload_n hx hb dX5_offer_57 rfl (lv_at hl 2 rfl) ?_
  refine xs_36 C hW h dX5_offer_58 (fun S1 H locs h hW => ?_)
  exact zz_vret C rfl h hW dX5_offer_59
def n_X5_offer_35_e (F : Nat)  (S : Zs) (x1 : Int32) (x2 : Int32) : Option (Int32 × Zs) :=
  zld S 36 2304 x1 (fun v1 => if x2 < v1 then (zld S 36 2304 x1 (fun v2 => if v2 = (268435456 : Int32) then (zgf S 706 (fun v3 => if (2304 : Int32) ≤ v3 then (n_X5_offer_35_b52 F  S x1 x2) else (zgf S 706 (fun v4 => zst S 37 2304 v4 x1 (fun S5 => zgf S5 706 (fun v6 => zpf S5 706 (v6 + (1 : Int32)) (fun S7 => n_X5_offer_35_b52 F  S7 x1 x2))))))) else (n_X5_offer_35_b52 F  S x1 x2))) else (some (0, S)))
set_option maxRecDepth 20000 in
set_option maxHeartbeats 4000000 in
theorem w_X5_offer_35_e {F : Nat} {q : (Int32 × Zs)} {S : Zs}  {x1 : Int32} {x2 : Int32} {ls : Array Slot} {H : Heap} {locs : List Loc} (C : zC p s m args meth c cX5_offer 3 RX5 none)  (h : n_X5_offer_35_e F  S x1 x2 = some q) (hW : zW (xG D cs ad) s S H locs) (hl : lv_has ls 3 [(0, .ref (ad 35)), (1, .int x1), (2, .int x2)]) : W p l e (zR 0 0) s m args below meth c H locs 0 0 (zQv (xG D cs ad) q below args s) (F0 m 0 ls []) := by
  unfold n_X5_offer_35_e at h
  obtain ⟨hx, hb, hml, hown, hts, hret, hlk⟩ := id C
  refine lv_iload_n hx hb dX5_offer_0 rfl (lv_at hl 2 rfl) ?_
  refine lv_aload_n hx hb dX5_offer_1 rfl (lv_at hl 0 rfl) ?_
  refine xg_35_1 C hW fl_X5_9 dX5_offer_2 ?_
  refine lv_iload_n hx hb dX5_offer_5 rfl (lv_at hl 1 rfl) ?_
  refine xl_36 C hW h dX5_offer_6 (fun v1 h => ?_)
  refine zz_clt (tgt := 11) C h dX5_offer_7 (by decide) (fun h => ?_) (fun h => ?_)
  · refine lv_aload_n hx hb dX5_offer_11 rfl (lv_at hl 0 rfl) ?_
    refine xg_35_1 C hW fl_X5_9 dX5_offer_12 ?_
    refine lv_iload_n hx hb dX5_offer_15 rfl (lv_at hl 1 rfl) ?_
    refine xl_36 C hW h dX5_offer_16 (fun v2 h => ?_)
    refine lv_ldc (v := 268435456) hx hb hown (hts _ ct_X5_38) dX5_offer_17 ?_
    refine zz_cne (tgt := 52) C h dX5_offer_19 (by decide) (fun h => ?_) (fun h => ?_)
    · exact w_X5_offer_35_b52 (F := F) C h hW (lv_sub hl [0, 1, 2] rfl)
    · refine lv_aload_n hx hb dX5_offer_22 rfl (lv_at hl 0 rfl) ?_
      refine xg_35_6 C hW h fl_X5_57 dX5_offer_23 (fun v3 h => ?_)
      refine lv_sipush (v := 2304) hx hb dX5_offer_26 (by decide) ?_
      refine zz_cge (tgt := 52) C h dX5_offer_29 (by decide) (fun h => ?_) (fun h => ?_)
      · exact w_X5_offer_35_b52 (F := F) C h hW (lv_sub hl [0, 1, 2] rfl)
      · refine lv_aload_n hx hb dX5_offer_32 rfl (lv_at hl 0 rfl) ?_
        refine xg_35_2 C hW fl_X5_15 dX5_offer_33 ?_
        refine lv_aload_n hx hb dX5_offer_36 rfl (lv_at hl 0 rfl) ?_
        refine xg_35_6 C hW h fl_X5_57 dX5_offer_37 (fun v4 h => ?_)
        refine lv_iload_n hx hb dX5_offer_40 rfl (lv_at hl 1 rfl) ?_
        refine xs_37 C hW h dX5_offer_41 (fun S5 H locs h hW => ?_)
        refine lv_aload_n hx hb dX5_offer_42 rfl (lv_at hl 0 rfl) ?_
        refine lv_dup hx hb dX5_offer_43 rfl ?_
        refine xg_35_6 C hW h fl_X5_57 dX5_offer_44 (fun v6 h => ?_)
        refine lv_iconst (v := 1) hx hb dX5_offer_47 (by decide) ?_
        refine lv_iadd hx hb dX5_offer_48 ?_
        refine xp_35_6 C hW h fl_X5_57 dX5_offer_49 (fun S7 H locs h hW => ?_)
        exact w_X5_offer_35_b52 (F := F) C h hW (lv_sub hl [0, 1, 2] rfl)
  · exact zz_vret C rfl h hW dX5_offer_10
def n_X5_offer_35 (F : Nat) (S : Zs) (x1 : Int32) (x2 : Int32) : Option (Int32 × Zs) := n_X5_offer_35_e F  S x1 x2
theorem c_X5_offer_35 {l : Launch} {D : va_G} {cs ad : Nat → Nat} {F : Nat} {S : Zs} {x1 : Int32} {x2 : Int32} {q : (Int32 × Zs)} (h : n_X5_offer_35 F S x1 x2 = some q) : zMv l yX5_offer cX5_offer 3 none (zR 0 0) (xG D cs ad) [.ref (ad 35), .int x1, .int x2] S q :=
  zz_enter (by decide) (Nat.le_of_ble_eq_true rfl) (fun p e s m below meth c ls C hW hl => w_X5_offer_35_e (F := F) C h hW (lv_sub hl [0, 1, 2] rfl))
def n_X5_useAlone_35_b52 (F : Nat) (rc3 : Zs → Int32 → Int32 → Option (Int32 × Zs)) (S : Zs) (x1 : Int32) (x2 : Int32) : Option (Int32 × Zs) :=
  zlet (x2 + (1 : Int32)) (fun v1 => rc3 S x1 v1)
set_option maxRecDepth 20000 in
set_option maxHeartbeats 4000000 in
theorem w_X5_useAlone_35_b52 {F : Nat} {q : (Int32 × Zs)} {S : Zs} {rc3 : Zs → Int32 → Int32 → Option (Int32 × Zs)} {x1 : Int32} {x2 : Int32} {ls : Array Slot} {H : Heap} {locs : List Loc} (C : zC p s m args meth c cX5_useAlone 4 RX5 none) (hrc3 : ∀ (S : Zs) (x1 : Int32) (x2 : Int32) (H : Heap) (locs : List Loc) (ls : Array Slot), rc3 S x1 x2 = some q → zW (xG D cs ad) s S H locs → lv_has ls 4 [(0, .ref (ad 35)), (1, .int x1), (2, .int x2)] → W p l e (zR 2 46) s m args below meth c H locs 0 0 (zQv (xG D cs ad) q below args s) (F0 m 3 ls [])) (h : n_X5_useAlone_35_b52 F rc3 S x1 x2 = some q) (hW : zW (xG D cs ad) s S H locs) (hl : lv_has ls 4 [(0, .ref (ad 35)), (1, .int x1), (2, .int x2)]) : W p l e (zR 2 46) s m args below meth c H locs 0 0 (zQv (xG D cs ad) q below args s) (F0 m 52 ls []) := by
  unfold n_X5_useAlone_35_b52 at h
  obtain ⟨hx, hb, hml, hown, hts, hret, hlk⟩ := id C
  obtain ⟨v1, ev1, h⟩ := zz_name h
  refine lv_iinc (v := v1) (lv' := [(2, .int v1), (0, .ref (ad 35)), (1, .int x1)]) hx hb dX5_useAlone_52 hl (k := 2) rfl ev1.symm (by decide) rfl (fun ls hl => ?_)
  refine lv_goto (tgt := 3) hx hb dX5_useAlone_55 (by decide) ?_
  exact hrc3 _ _ _ _ _ _ h hW (lv_sub hl [1, 2, 0] rfl)
def n_X5_useAlone_35_b3_l (F : Nat) (rc3 : Zs → Int32 → Int32 → Option (Int32 × Zs)) (S : Zs) (x1 : Int32) (x2 : Int32) : Option (Int32 × Zs) :=
  if (22 : Int32) ≤ x2 then (some (0, S)) else (zcl (n_X4_singleConclusion F S x2 x1) (fun v2 S1 => if v2 < 0 then (n_X5_useAlone_35_b52 F rc3 S1 x1 x2) else (zcl (n_X5_isAllowed_35 F S1 x2) (fun v4 S3 => if v4 = 0 then (n_X5_useAlone_35_b52 F rc3 S3 x1 x2) else (zgf S3 710 (fun v5 => zcl (n_X4_isAlive F S3 x2 x1 v5) (fun v7 S6 => if v7 = 0 then (n_X5_useAlone_35_b52 F rc3 S6 x1 x2) else (zld S6 36 2304 x1 (fun v8 => zcl (n_X5_offer_35 F S6 v2 (v8 + (1 : Int32))) (fun v10 S9 => n_X5_useAlone_35_b52 F rc3 S9 x1 x2))))))))))
set_option maxRecDepth 20000 in
set_option maxHeartbeats 4000000 in
theorem w_X5_useAlone_35_b3_l {F : Nat} {q : (Int32 × Zs)} {S : Zs} {rc3 : Zs → Int32 → Int32 → Option (Int32 × Zs)} {x1 : Int32} {x2 : Int32} {ls : Array Slot} {H : Heap} {locs : List Loc} (C : zC p s m args meth c cX5_useAlone 4 RX5 none) (hrc3 : ∀ (S : Zs) (x1 : Int32) (x2 : Int32) (H : Heap) (locs : List Loc) (ls : Array Slot), rc3 S x1 x2 = some q → zW (xG D cs ad) s S H locs → lv_has ls 4 [(0, .ref (ad 35)), (1, .int x1), (2, .int x2)] → W p l e (zR 2 46) s m args below meth c H locs 0 0 (zQv (xG D cs ad) q below args s) (F0 m 3 ls [])) (h : n_X5_useAlone_35_b3_l F rc3 S x1 x2 = some q) (hW : zW (xG D cs ad) s S H locs) (hl : lv_has ls 4 [(0, .ref (ad 35)), (1, .int x1), (2, .int x2)]) : W p l e (zR 2 46) s m args below meth c H locs 0 0 (zQv (xG D cs ad) q below args s) (F0 m 3 ls []) := by
  unfold n_X5_useAlone_35_b3_l at h
  obtain ⟨hx, hb, hml, hown, hts, hret, hlk⟩ := id C
  refine lv_iload_n hx hb dX5_useAlone_3 rfl (lv_at hl 2 rfl) ?_
  refine lv_bipush (v := 22) hx hb dX5_useAlone_4 (by decide) ?_
  refine zz_cge (tgt := 58) C h dX5_useAlone_6 (by decide) (fun h => ?_) (fun h => ?_)
  · exact zz_vret C rfl h hW dX5_useAlone_58
  · refine lv_iload_n hx hb dX5_useAlone_9 rfl (lv_at hl 2 rfl) ?_
    refine lv_iload_n hx hb dX5_useAlone_10 rfl (lv_at hl 1 rfl) ?_
    refine zz_callSi (As := [.int x2, .int x1]) C hW h (fun r hr => c_X4_singleConclusion hr) lk_X5_113 rfl hl.1 ⟨rfl, rfl⟩ ⟨Nat.le_of_ble_eq_true rfl, Nat.le_of_ble_eq_true rfl⟩ (Nat.le_of_ble_eq_true rfl) ⟨Nat.zero_le _, Nat.zero_le _⟩ rfl dX5_useAlone_11 (fun v2 S1 H locs h hW => ?_)
    refine lv_istore_n (lv' := [(3, .int v2), (0, .ref (ad 35)), (1, .int x1), (2, .int x2)]) hx hb dX5_useAlone_14 rfl hl (by decide) rfl (fun ls hl => ?_)
    refine lv_iload_n hx hb dX5_useAlone_15 rfl (lv_at hl 0 rfl) ?_
    refine zz_ilt (tgt := 52) C h dX5_useAlone_16 (by decide) (fun h => ?_) (fun h => ?_)
    · exact w_X5_useAlone_35_b52 (F := F) C hrc3 h hW (lv_sub hl [1, 2, 3] rfl)
    · refine lv_aload_n hx hb dX5_useAlone_19 rfl (lv_at hl 1 rfl) ?_
      refine lv_iload_n hx hb dX5_useAlone_20 rfl (lv_at hl 3 rfl) ?_
      refine zz_callVi (As := [.int x2]) C hW h (fun r hr => c_X5_isAllowed_35 hr) lk_X5_116 (hW.recv xr_35) rfl hl.1 ⟨rfl, rfl⟩ ⟨Nat.le_of_ble_eq_true rfl, Nat.le_of_ble_eq_true rfl⟩ (Nat.le_of_ble_eq_true rfl) ⟨Nat.zero_le _, Nat.zero_le _⟩ rfl dX5_useAlone_21 (fun v4 S3 H locs h hW => ?_)
      refine zz_ieq (tgt := 52) C h dX5_useAlone_24 (by decide) (fun h => ?_) (fun h => ?_)
      · exact w_X5_useAlone_35_b52 (F := F) C hrc3 h hW (lv_sub hl [1, 2, 3] rfl)
      · refine lv_iload_n hx hb dX5_useAlone_27 rfl (lv_at hl 3 rfl) ?_
        refine lv_iload_n hx hb dX5_useAlone_28 rfl (lv_at hl 2 rfl) ?_
        refine lv_aload_n hx hb dX5_useAlone_29 rfl (lv_at hl 1 rfl) ?_
        refine xg_35_10 C hW h fl_X5_45 dX5_useAlone_30 (fun v5 h => ?_)
        refine zz_callSi (As := [.int x2, .int x1, .int v5]) C hW h (fun r hr => c_X4_isAlive hr) lk_X5_119 rfl hl.1 ⟨rfl, rfl⟩ ⟨Nat.le_of_ble_eq_true rfl, Nat.le_of_ble_eq_true rfl⟩ (Nat.le_of_ble_eq_true rfl) ⟨Nat.zero_le _, Nat.zero_le _⟩ rfl dX5_useAlone_33 (fun v7 S6 H locs h hW => ?_)
        refine zz_ieq (tgt := 52) C h dX5_useAlone_36 (by decide) (fun h => ?_) (fun h => ?_)
        · exact w_X5_useAlone_35_b52 (F := F) C hrc3 h hW (lv_sub hl [1, 2, 3] rfl)
        · refine lv_aload_n hx hb dX5_useAlone_39 rfl (lv_at hl 1 rfl) ?_
          refine lv_iload_n hx hb dX5_useAlone_40 rfl (lv_at hl 0 rfl) ?_
          refine lv_aload_n hx hb dX5_useAlone_41 rfl (lv_at hl 1 rfl) ?_
          refine xg_35_1 C hW fl_X5_9 dX5_useAlone_42 ?_
          refine lv_iload_n hx hb dX5_useAlone_45 rfl (lv_at hl 2 rfl) ?_
          refine xl_36 C hW h dX5_useAlone_46 (fun v8 h => ?_)
          refine lv_iconst (v := 1) hx hb dX5_useAlone_47 (by decide) ?_
          refine lv_iadd hx hb dX5_useAlone_48 ?_
          refine zz_callVv (As := [.int v2, .int (v8 + (1 : Int32))]) C hW h (fun r hr => c_X5_offer_35 hr) lk_X5_70 (hW.recv xr_35) rfl hl.1 ⟨rfl, rfl⟩ ⟨Nat.le_of_ble_eq_true rfl, Nat.le_of_ble_eq_true rfl⟩ (Nat.le_of_ble_eq_true rfl) ⟨Nat.zero_le _, Nat.zero_le _⟩ rfl dX5_useAlone_49 (fun v10 S9 H locs h hW => ?_)
          exact w_X5_useAlone_35_b52 (F := F) C hrc3 h hW (lv_sub hl [1, 2, 3] rfl)
def n_X5_useAlone_35_b3 (F : Nat)  (S : Zs) (x1 : Int32) (x2 : Int32) : Option (Int32 × Zs) :=
  zfix (fun (rc : (Zs × Int32 × Int32) → Option (Int32 × Zs)) (u : (Zs × Int32 × Int32)) => n_X5_useAlone_35_b3_l F  (fun S x1 x2 => rc (S, x1, x2)) u.1 u.2.1 u.2.2) F (S, x1, x2)
theorem w_X5_useAlone_35_b3 {F : Nat} {q : (Int32 × Zs)}  (C : zC p s m args meth c cX5_useAlone 4 RX5 none)  : ∀ (n : Nat) (S : Zs) (x1 : Int32) (x2 : Int32) (H : Heap) (locs : List Loc) (ls : Array Slot), zfix (fun (rc : (Zs × Int32 × Int32) → Option (Int32 × Zs)) (u : (Zs × Int32 × Int32)) => n_X5_useAlone_35_b3_l F  (fun S x1 x2 => rc (S, x1, x2)) u.1 u.2.1 u.2.2) n (S, x1, x2) = some q → zW (xG D cs ad) s S H locs → lv_has ls 4 [(0, .ref (ad 35)), (1, .int x1), (2, .int x2)] → W p l e (zR 2 46) s m args below meth c H locs 0 0 (zQv (xG D cs ad) q below args s) (F0 m 3 ls []) := by
  intro n
  induction n with
  | zero => intro S x1 x2 H locs ls h; exact absurd h (fun h => by cases h)
  | succ n ih => intro S x1 x2 H locs ls h hW hl; exact w_X5_useAlone_35_b3_l (F := F) C (fun S x1 x2 H locs ls h hW hl => ih S x1 x2 H locs ls h hW hl) h hW hl
def n_X5_useAlone_35_e (F : Nat)  (S : Zs) (x1 : Int32) : Option (Int32 × Zs) :=
  n_X5_useAlone_35_b3 F  S x1 (19 : Int32)
set_option maxRecDepth 20000 in
set_option maxHeartbeats 4000000 in
theorem w_X5_useAlone_35_e {F : Nat} {q : (Int32 × Zs)} {S : Zs}  {x1 : Int32} {ls : Array Slot} {H : Heap} {locs : List Loc} (C : zC p s m args meth c cX5_useAlone 4 RX5 none)  (h : n_X5_useAlone_35_e F  S x1 = some q) (hW : zW (xG D cs ad) s S H locs) (hl : lv_has ls 4 [(0, .ref (ad 35)), (1, .int x1)]) : W p l e (zR 2 46) s m args below meth c H locs 0 0 (zQv (xG D cs ad) q below args s) (F0 m 0 ls []) := by
  unfold n_X5_useAlone_35_e at h
  obtain ⟨hx, hb, hml, hown, hts, hret, hlk⟩ := id C
  refine lv_bipush (v := 19) hx hb dX5_useAlone_0 (by decide) ?_
  refine lv_istore_n (lv' := [(2, .int (19 : Int32)), (0, .ref (ad 35)), (1, .int x1)]) hx hb dX5_useAlone_2 rfl hl (by decide) rfl (fun ls hl => ?_)
  exact w_X5_useAlone_35_b3 (F := F) C F _ _ _ _ _ _ h hW (lv_sub hl [1, 2, 0] rfl)
def n_X5_useAlone_35 (F : Nat) (S : Zs) (x1 : Int32) : Option (Int32 × Zs) := n_X5_useAlone_35_e F  S x1
theorem c_X5_useAlone_35 {l : Launch} {D : va_G} {cs ad : Nat → Nat} {F : Nat} {S : Zs} {x1 : Int32} {q : (Int32 × Zs)} (h : n_X5_useAlone_35 F S x1 = some q) : zMv l yX5_useAlone cX5_useAlone 4 none (zR 2 46) (xG D cs ad) [.ref (ad 35), .int x1] S q :=
  zz_enter (by decide) (Nat.le_of_ble_eq_true rfl) (fun p e s m below meth c ls C hW hl => w_X5_useAlone_35_e (F := F) C h hW (lv_sub hl [0, 1] rfl))
def n_X5_useFirst_35_b204 (F : Nat) (rc7 : Zs → Int32 → Int32 → Int32 → Option (Int32 × Zs)) (S : Zs) (x1 : Int32) (x2 : Int32) (x3 : Int32) : Option (Int32 × Zs) :=
  zlet (x3 + (1 : Int32)) (fun v1 => rc7 S x1 x2 v1)
set_option maxRecDepth 20000 in
set_option maxHeartbeats 4000000 in
theorem w_X5_useFirst_35_b204 {F : Nat} {q : (Int32 × Zs)} {S : Zs} {rc7 : Zs → Int32 → Int32 → Int32 → Option (Int32 × Zs)} {x1 : Int32} {x2 : Int32} {x3 : Int32} {ls : Array Slot} {H : Heap} {locs : List Loc} (C : zC p s m args meth c cX5_useFirst 11 RX5 none) (hrc7 : ∀ (S : Zs) (x1 : Int32) (x2 : Int32) (x3 : Int32) (H : Heap) (locs : List Loc) (ls : Array Slot), rc7 S x1 x2 x3 = some q → zW (xG D cs ad) s S H locs → lv_has ls 11 [(0, .ref (ad 35)), (1, .int x1), (2, .int x2), (3, .int x3)] → W p l e (zR 2 45) s m args below meth c H locs 0 0 (zQv (xG D cs ad) q below args s) (F0 m 7 ls [])) (h : n_X5_useFirst_35_b204 F rc7 S x1 x2 x3 = some q) (hW : zW (xG D cs ad) s S H locs) (hl : lv_has ls 11 [(0, .ref (ad 35)), (1, .int x1), (2, .int x2), (3, .int x3)]) : W p l e (zR 2 45) s m args below meth c H locs 0 0 (zQv (xG D cs ad) q below args s) (F0 m 204 ls []) := by
  unfold n_X5_useFirst_35_b204 at h
  obtain ⟨hx, hb, hml, hown, hts, hret, hlk⟩ := id C
  obtain ⟨v1, ev1, h⟩ := zz_name h
  refine lv_iinc (v := v1) (lv' := [(3, .int v1), (0, .ref (ad 35)), (1, .int x1), (2, .int x2)]) hx hb dX5_useFirst_204 hl (k := 3) rfl ev1.symm (by decide) rfl (fun ls hl => ?_)
  refine lv_goto (tgt := 7) hx hb dX5_useFirst_207 (by decide) ?_
  exact hrc7 _ _ _ _ _ _ _ h hW (lv_sub hl [1, 2, 3, 0] rfl)
def n_X5_useFirst_35_b198 (F : Nat) (rc7 : Zs → Int32 → Int32 → Int32 → Option (Int32 × Zs)) (rc125 : Zs → Int32 → Int32 → Int32 → Int32 → Int32 → Int32 → Int32 → Int32 → Option (Int32 × Zs)) (S : Zs) (x1 : Int32) (x2 : Int32) (x3 : Int32) (x4 : Int32) (x5 : Int32) (x6 : Int32) (x8 : Int32) (x9 : Int32) : Option (Int32 × Zs) :=
  zlet (x9 + (1 : Int32)) (fun v1 => rc125 S x1 x2 x3 x4 x5 x6 x8 v1)
set_option maxRecDepth 20000 in
set_option maxHeartbeats 4000000 in
theorem w_X5_useFirst_35_b198 {F : Nat} {q : (Int32 × Zs)} {S : Zs} {rc7 : Zs → Int32 → Int32 → Int32 → Option (Int32 × Zs)} {rc125 : Zs → Int32 → Int32 → Int32 → Int32 → Int32 → Int32 → Int32 → Int32 → Option (Int32 × Zs)} {x1 : Int32} {x2 : Int32} {x3 : Int32} {x4 : Int32} {x5 : Int32} {x6 : Int32} {x8 : Int32} {x9 : Int32} {ls : Array Slot} {H : Heap} {locs : List Loc} (C : zC p s m args meth c cX5_useFirst 11 RX5 none) (hrc7 : ∀ (S : Zs) (x1 : Int32) (x2 : Int32) (x3 : Int32) (H : Heap) (locs : List Loc) (ls : Array Slot), rc7 S x1 x2 x3 = some q → zW (xG D cs ad) s S H locs → lv_has ls 11 [(0, .ref (ad 35)), (1, .int x1), (2, .int x2), (3, .int x3)] → W p l e (zR 2 45) s m args below meth c H locs 0 0 (zQv (xG D cs ad) q below args s) (F0 m 7 ls [])) (hrc125 : ∀ (S : Zs) (x1 : Int32) (x2 : Int32) (x3 : Int32) (x4 : Int32) (x5 : Int32) (x6 : Int32) (x8 : Int32) (x9 : Int32) (H : Heap) (locs : List Loc) (ls : Array Slot), rc125 S x1 x2 x3 x4 x5 x6 x8 x9 = some q → zW (xG D cs ad) s S H locs → lv_has ls 11 [(0, .ref (ad 35)), (1, .int x1), (2, .int x2), (3, .int x3), (4, .int x4), (5, .int x5), (6, .int x6), (8, .int x8), (9, .int x9)] → W p l e (zR 2 45) s m args below meth c H locs 0 0 (zQv (xG D cs ad) q below args s) (F0 m 125 ls [])) (h : n_X5_useFirst_35_b198 F rc7 rc125 S x1 x2 x3 x4 x5 x6 x8 x9 = some q) (hW : zW (xG D cs ad) s S H locs) (hl : lv_has ls 11 [(0, .ref (ad 35)), (1, .int x1), (2, .int x2), (3, .int x3), (4, .int x4), (5, .int x5), (6, .int x6), (8, .int x8), (9, .int x9)]) : W p l e (zR 2 45) s m args below meth c H locs 0 0 (zQv (xG D cs ad) q below args s) (F0 m 198 ls []) := by
  unfold n_X5_useFirst_35_b198 at h
  obtain ⟨hx, hb, hml, hown, hts, hret, hlk⟩ := id C
  obtain ⟨v1, ev1, h⟩ := zz_name h
  refine lv_iinc (v := v1) (lv' := [(9, .int v1), (0, .ref (ad 35)), (1, .int x1), (2, .int x2), (3, .int x3), (4, .int x4), (5, .int x5), (6, .int x6), (8, .int x8)]) hx hb dX5_useFirst_198 hl (k := 8) rfl ev1.symm (by decide) rfl (fun ls hl => ?_)
  refine lv_goto (tgt := 125) hx hb dX5_useFirst_201 (by decide) ?_
  exact hrc125 _ _ _ _ _ _ _ _ _ _ _ _ h hW (lv_sub hl [1, 2, 3, 4, 5, 6, 7, 8, 0] rfl)
def n_X5_useFirst_35_b125_l (F : Nat) (rc7 : Zs → Int32 → Int32 → Int32 → Option (Int32 × Zs)) (rc125 : Zs → Int32 → Int32 → Int32 → Int32 → Int32 → Int32 → Int32 → Int32 → Option (Int32 × Zs)) (S : Zs) (x1 : Int32) (x2 : Int32) (x3 : Int32) (x4 : Int32) (x5 : Int32) (x6 : Int32) (x8 : Int32) (x9 : Int32) : Option (Int32 × Zs) :=
  if (24 : Int32) ≤ x9 then (n_X5_useFirst_35_b204 F rc7 S x1 x2 x3) else (if (x8 >>> (x9 &&& 31)) = 0 then (n_X5_useFirst_35_b204 F rc7 S x1 x2 x3) else (if ((x8 >>> (x9 &&& 31)) &&& (1 : Int32)) = 0 then (n_X5_useFirst_35_b198 F rc7 rc125 S x1 x2 x3 x4 x5 x6 x8 x9) else (zlt xt_53 19 x3 (fun v1 => zcl (n_X4_secondPremise F S x4 v1 x5 x9) (fun v3 S2 => zlt xt_54 19 x3 (fun v4 => zcl (n_X0_make F S2 v4 x9 x6) (fun v6 S5 => zld S5 36 2304 x1 (fun v7 => zld S5 36 2304 v3 (fun v8 => zcl (n_X5_offer_35 F S5 v6 ((v7 + v8) + (1 : Int32))) (fun v10 S9 => n_X5_useFirst_35_b198 F rc7 rc125 S9 x1 x2 x3 x4 x5 x6 x8 x9))))))))))
set_option maxRecDepth 20000 in
set_option maxHeartbeats 4000000 in
theorem w_X5_useFirst_35_b125_l {F : Nat} {q : (Int32 × Zs)} {S : Zs} {rc7 : Zs → Int32 → Int32 → Int32 → Option (Int32 × Zs)} {rc125 : Zs → Int32 → Int32 → Int32 → Int32 → Int32 → Int32 → Int32 → Int32 → Option (Int32 × Zs)} {x1 : Int32} {x2 : Int32} {x3 : Int32} {x4 : Int32} {x5 : Int32} {x6 : Int32} {x8 : Int32} {x9 : Int32} {ls : Array Slot} {H : Heap} {locs : List Loc} (C : zC p s m args meth c cX5_useFirst 11 RX5 none) (hrc7 : ∀ (S : Zs) (x1 : Int32) (x2 : Int32) (x3 : Int32) (H : Heap) (locs : List Loc) (ls : Array Slot), rc7 S x1 x2 x3 = some q → zW (xG D cs ad) s S H locs → lv_has ls 11 [(0, .ref (ad 35)), (1, .int x1), (2, .int x2), (3, .int x3)] → W p l e (zR 2 45) s m args below meth c H locs 0 0 (zQv (xG D cs ad) q below args s) (F0 m 7 ls [])) (hrc125 : ∀ (S : Zs) (x1 : Int32) (x2 : Int32) (x3 : Int32) (x4 : Int32) (x5 : Int32) (x6 : Int32) (x8 : Int32) (x9 : Int32) (H : Heap) (locs : List Loc) (ls : Array Slot), rc125 S x1 x2 x3 x4 x5 x6 x8 x9 = some q → zW (xG D cs ad) s S H locs → lv_has ls 11 [(0, .ref (ad 35)), (1, .int x1), (2, .int x2), (3, .int x3), (4, .int x4), (5, .int x5), (6, .int x6), (8, .int x8), (9, .int x9)] → W p l e (zR 2 45) s m args below meth c H locs 0 0 (zQv (xG D cs ad) q below args s) (F0 m 125 ls [])) (h : n_X5_useFirst_35_b125_l F rc7 rc125 S x1 x2 x3 x4 x5 x6 x8 x9 = some q) (hW : zW (xG D cs ad) s S H locs) (hl : lv_has ls 11 [(0, .ref (ad 35)), (1, .int x1), (2, .int x2), (3, .int x3), (4, .int x4), (5, .int x5), (6, .int x6), (8, .int x8), (9, .int x9)]) : W p l e (zR 2 45) s m args below meth c H locs 0 0 (zQv (xG D cs ad) q below args s) (F0 m 125 ls []) := by
  unfold n_X5_useFirst_35_b125_l at h
  obtain ⟨hx, hb, hml, hown, hts, hret, hlk⟩ := id C
  refine lv_iload hx hb dX5_useFirst_125 (lv_at hl 8 rfl) ?_
  refine lv_bipush (v := 24) hx hb dX5_useFirst_127 (by decide) ?_
  refine zz_cge (tgt := 204) C h dX5_useFirst_129 (by decide) (fun h => ?_) (fun h => ?_)
  · exact w_X5_useFirst_35_b204 (F := F) C hrc7 h hW (lv_sub hl [0, 1, 2, 3] rfl)
  · refine lv_iload hx hb dX5_useFirst_132 (lv_at hl 7 rfl) ?_
    refine lv_iload hx hb dX5_useFirst_134 (lv_at hl 8 rfl) ?_
    refine lv_ishr hx hb dX5_useFirst_136 ?_
    refine zz_ieq (tgt := 204) C h dX5_useFirst_137 (by decide) (fun h => ?_) (fun h => ?_)
    · exact w_X5_useFirst_35_b204 (F := F) C hrc7 h hW (lv_sub hl [0, 1, 2, 3] rfl)
    · refine lv_iload hx hb dX5_useFirst_140 (lv_at hl 7 rfl) ?_
      refine lv_iload hx hb dX5_useFirst_142 (lv_at hl 8 rfl) ?_
      refine lv_ishr hx hb dX5_useFirst_144 ?_
      refine lv_iconst (v := 1) hx hb dX5_useFirst_145 (by decide) ?_
      refine lv_iand hx hb dX5_useFirst_146 ?_
      refine zz_ieq (tgt := 198) C h dX5_useFirst_147 (by decide) (fun h => ?_) (fun h => ?_)
      · exact w_X5_useFirst_35_b198 (F := F) C hrc7 hrc125 h hW (lv_sub hl [0, 1, 2, 3, 4, 5, 6, 7, 8] rfl)
      · refine lv_iload hx hb dX5_useFirst_150 (lv_at hl 4 rfl) ?_
        refine xst_53 C hW fl_X5_135 dX5_useFirst_152 ?_
        refine lv_iload_n hx hb dX5_useFirst_155 rfl (lv_at hl 3 rfl) ?_
        refine xtl_53 C hW h dX5_useFirst_156 (fun v1 h => ?_)
        refine lv_iload hx hb dX5_useFirst_157 (lv_at hl 5 rfl) ?_
        refine lv_iload hx hb dX5_useFirst_159 (lv_at hl 8 rfl) ?_
        refine zz_callSi (As := [.int x4, .int v1, .int x5, .int x9]) C hW h (fun r hr => c_X4_secondPremise hr) lk_X5_141 rfl hl.1 ⟨rfl, rfl⟩ ⟨Nat.le_of_ble_eq_true rfl, Nat.le_of_ble_eq_true rfl⟩ (Nat.le_of_ble_eq_true rfl) ⟨Nat.zero_le _, Nat.zero_le _⟩ rfl dX5_useFirst_161 (fun v3 S2 H locs h hW => ?_)
        refine lv_istore (lv' := [(10, .int v3), (0, .ref (ad 35)), (1, .int x1), (2, .int x2), (3, .int x3), (4, .int x4), (5, .int x5), (6, .int x6), (8, .int x8), (9, .int x9)]) hx hb dX5_useFirst_164 hl (by decide) rfl (fun ls hl => ?_)
        refine lv_aload_n hx hb dX5_useFirst_166 rfl (lv_at hl 1 rfl) ?_
        refine xst_54 C hW fl_X5_138 dX5_useFirst_167 ?_
        refine lv_iload_n hx hb dX5_useFirst_170 rfl (lv_at hl 4 rfl) ?_
        refine xtl_54 C hW h dX5_useFirst_171 (fun v4 h => ?_)
        refine lv_iload hx hb dX5_useFirst_172 (lv_at hl 9 rfl) ?_
        refine lv_iload hx hb dX5_useFirst_174 (lv_at hl 7 rfl) ?_
        refine zz_callSi (As := [.int v4, .int x9, .int x6]) C hW h (fun r hr => c_X0_make hr) lk_X5_145 rfl hl.1 ⟨rfl, rfl⟩ ⟨Nat.le_of_ble_eq_true rfl, Nat.le_of_ble_eq_true rfl⟩ (Nat.le_of_ble_eq_true rfl) ⟨Nat.zero_le _, Nat.zero_le _⟩ rfl dX5_useFirst_176 (fun v6 S5 H locs h hW => ?_)
        refine lv_aload_n hx hb dX5_useFirst_179 rfl (lv_at hl 1 rfl) ?_
        refine xg_35_1 C hW fl_X5_9 dX5_useFirst_180 ?_
        refine lv_iload_n hx hb dX5_useFirst_183 rfl (lv_at hl 2 rfl) ?_
        refine xl_36 C hW h dX5_useFirst_184 (fun v7 h => ?_)
        refine lv_aload_n hx hb dX5_useFirst_185 rfl (lv_at hl 1 rfl) ?_
        refine xg_35_1 C hW fl_X5_9 dX5_useFirst_186 ?_
        refine lv_iload hx hb dX5_useFirst_189 (lv_at hl 0 rfl) ?_
        refine xl_36 C hW h dX5_useFirst_191 (fun v8 h => ?_)
        refine lv_iadd hx hb dX5_useFirst_192 ?_
        refine lv_iconst (v := 1) hx hb dX5_useFirst_193 (by decide) ?_
        refine lv_iadd hx hb dX5_useFirst_194 ?_
        refine zz_callVv (As := [.int v6, .int ((v7 + v8) + (1 : Int32))]) C hW h (fun r hr => c_X5_offer_35 hr) lk_X5_70 (hW.recv xr_35) rfl hl.1 ⟨rfl, rfl⟩ ⟨Nat.le_of_ble_eq_true rfl, Nat.le_of_ble_eq_true rfl⟩ (Nat.le_of_ble_eq_true rfl) ⟨Nat.zero_le _, Nat.zero_le _⟩ rfl dX5_useFirst_195 (fun v10 S9 H locs h hW => ?_)
        exact w_X5_useFirst_35_b198 (F := F) C hrc7 hrc125 h hW (lv_sub hl [1, 2, 3, 4, 5, 6, 7, 8, 9] rfl)
def n_X5_useFirst_35_b125 (F : Nat) (rc7 : Zs → Int32 → Int32 → Int32 → Option (Int32 × Zs)) (S : Zs) (x1 : Int32) (x2 : Int32) (x3 : Int32) (x4 : Int32) (x5 : Int32) (x6 : Int32) (x8 : Int32) (x9 : Int32) : Option (Int32 × Zs) :=
  zfix (fun (rc : (Zs × Int32 × Int32 × Int32 × Int32 × Int32 × Int32 × Int32 × Int32) → Option (Int32 × Zs)) (u : (Zs × Int32 × Int32 × Int32 × Int32 × Int32 × Int32 × Int32 × Int32)) => n_X5_useFirst_35_b125_l F rc7 (fun S x1 x2 x3 x4 x5 x6 x8 x9 => rc (S, x1, x2, x3, x4, x5, x6, x8, x9)) u.1 u.2.1 u.2.2.1 u.2.2.2.1 u.2.2.2.2.1 u.2.2.2.2.2.1 u.2.2.2.2.2.2.1 u.2.2.2.2.2.2.2.1 u.2.2.2.2.2.2.2.2) F (S, x1, x2, x3, x4, x5, x6, x8, x9)
theorem w_X5_useFirst_35_b125 {F : Nat} {q : (Int32 × Zs)} {rc7 : Zs → Int32 → Int32 → Int32 → Option (Int32 × Zs)} (C : zC p s m args meth c cX5_useFirst 11 RX5 none) (hrc7 : ∀ (S : Zs) (x1 : Int32) (x2 : Int32) (x3 : Int32) (H : Heap) (locs : List Loc) (ls : Array Slot), rc7 S x1 x2 x3 = some q → zW (xG D cs ad) s S H locs → lv_has ls 11 [(0, .ref (ad 35)), (1, .int x1), (2, .int x2), (3, .int x3)] → W p l e (zR 2 45) s m args below meth c H locs 0 0 (zQv (xG D cs ad) q below args s) (F0 m 7 ls [])) : ∀ (n : Nat) (S : Zs) (x1 : Int32) (x2 : Int32) (x3 : Int32) (x4 : Int32) (x5 : Int32) (x6 : Int32) (x8 : Int32) (x9 : Int32) (H : Heap) (locs : List Loc) (ls : Array Slot), zfix (fun (rc : (Zs × Int32 × Int32 × Int32 × Int32 × Int32 × Int32 × Int32 × Int32) → Option (Int32 × Zs)) (u : (Zs × Int32 × Int32 × Int32 × Int32 × Int32 × Int32 × Int32 × Int32)) => n_X5_useFirst_35_b125_l F rc7 (fun S x1 x2 x3 x4 x5 x6 x8 x9 => rc (S, x1, x2, x3, x4, x5, x6, x8, x9)) u.1 u.2.1 u.2.2.1 u.2.2.2.1 u.2.2.2.2.1 u.2.2.2.2.2.1 u.2.2.2.2.2.2.1 u.2.2.2.2.2.2.2.1 u.2.2.2.2.2.2.2.2) n (S, x1, x2, x3, x4, x5, x6, x8, x9) = some q → zW (xG D cs ad) s S H locs → lv_has ls 11 [(0, .ref (ad 35)), (1, .int x1), (2, .int x2), (3, .int x3), (4, .int x4), (5, .int x5), (6, .int x6), (8, .int x8), (9, .int x9)] → W p l e (zR 2 45) s m args below meth c H locs 0 0 (zQv (xG D cs ad) q below args s) (F0 m 125 ls []) := by
  intro n
  induction n with
  | zero => intro S x1 x2 x3 x4 x5 x6 x8 x9 H locs ls h; exact absurd h (fun h => by cases h)
  | succ n ih => intro S x1 x2 x3 x4 x5 x6 x8 x9 H locs ls h hW hl; exact w_X5_useFirst_35_b125_l (F := F) C hrc7 (fun S x1 x2 x3 x4 x5 x6 x8 x9 H locs ls h hW hl => ih S x1 x2 x3 x4 x5 x6 x8 x9 H locs ls h hW hl) h hW hl
def n_X5_useFirst_35_b85 (F : Nat) (rc7 : Zs → Int32 → Int32 → Int32 → Option (Int32 × Zs)) (S : Zs) (x1 : Int32) (x2 : Int32) (x3 : Int32) (x4 : Int32) (x5 : Int32) (x6 : Int32) : Option (Int32 × Zs) :=
  zlt xt_53 19 x3 (fun v1 => zld S 38 96 (((24 : Int32) * v1) + x5) (fun v2 => zlt xt_54 19 x3 (fun v3 => zld S 39 96 (((24 : Int32) * v3) + x6) (fun v4 => zlet (v2 &&& (v4 ^^^ (-1 : Int32))) (fun v5 => n_X5_useFirst_35_b125 F rc7 S x1 x2 x3 x4 x5 x6 v5 (0 : Int32))))))
set_option maxRecDepth 20000 in
set_option maxHeartbeats 4000000 in
theorem w_X5_useFirst_35_b85 {F : Nat} {q : (Int32 × Zs)} {S : Zs} {rc7 : Zs → Int32 → Int32 → Int32 → Option (Int32 × Zs)} {x1 : Int32} {x2 : Int32} {x3 : Int32} {x4 : Int32} {x5 : Int32} {x6 : Int32} {ls : Array Slot} {H : Heap} {locs : List Loc} (C : zC p s m args meth c cX5_useFirst 11 RX5 none) (hrc7 : ∀ (S : Zs) (x1 : Int32) (x2 : Int32) (x3 : Int32) (H : Heap) (locs : List Loc) (ls : Array Slot), rc7 S x1 x2 x3 = some q → zW (xG D cs ad) s S H locs → lv_has ls 11 [(0, .ref (ad 35)), (1, .int x1), (2, .int x2), (3, .int x3)] → W p l e (zR 2 45) s m args below meth c H locs 0 0 (zQv (xG D cs ad) q below args s) (F0 m 7 ls [])) (h : n_X5_useFirst_35_b85 F rc7 S x1 x2 x3 x4 x5 x6 = some q) (hW : zW (xG D cs ad) s S H locs) (hl : lv_has ls 11 [(0, .ref (ad 35)), (1, .int x1), (2, .int x2), (3, .int x3), (4, .int x4), (5, .int x5), (6, .int x6)]) : W p l e (zR 2 45) s m args below meth c H locs 0 0 (zQv (xG D cs ad) q below args s) (F0 m 85 ls [.ref (ad 38)]) := by
  unfold n_X5_useFirst_35_b85 at h
  obtain ⟨hx, hb, hml, hown, hts, hret, hlk⟩ := id C
  refine lv_astore (lv' := [(7, .ref (ad 38)), (0, .ref (ad 35)), (1, .int x1), (2, .int x2), (3, .int x3), (4, .int x4), (5, .int x5), (6, .int x6)]) hx hb dX5_useFirst_85 hl (by decide) rfl (fun ls hl => ?_)
  refine lv_aload hx hb dX5_useFirst_87 (lv_at hl 0 rfl) ?_
  refine lv_bipush (v := 24) hx hb dX5_useFirst_89 (by decide) ?_
  refine xst_53 C hW fl_X5_135 dX5_useFirst_91 ?_
  refine lv_iload_n hx hb dX5_useFirst_94 rfl (lv_at hl 4 rfl) ?_
  refine xtl_53 C hW h dX5_useFirst_95 (fun v1 h => ?_)
  refine lv_imul hx hb dX5_useFirst_96 ?_
  refine lv_iload hx hb dX5_useFirst_97 (lv_at hl 6 rfl) ?_
  refine lv_iadd hx hb dX5_useFirst_99 ?_
  refine xl_38 C hW h dX5_useFirst_100 (fun v2 h => ?_)
  refine lv_aload_n hx hb dX5_useFirst_101 rfl (lv_at hl 1 rfl) ?_
  refine xg_35_4 C hW fl_X5_21 dX5_useFirst_102 ?_
  refine lv_bipush (v := 24) hx hb dX5_useFirst_105 (by decide) ?_
  refine xst_54 C hW fl_X5_138 dX5_useFirst_107 ?_
  refine lv_iload_n hx hb dX5_useFirst_110 rfl (lv_at hl 4 rfl) ?_
  refine xtl_54 C hW h dX5_useFirst_111 (fun v3 h => ?_)
  refine lv_imul hx hb dX5_useFirst_112 ?_
  refine lv_iload hx hb dX5_useFirst_113 (lv_at hl 7 rfl) ?_
  refine lv_iadd hx hb dX5_useFirst_115 ?_
  refine xl_39 C hW h dX5_useFirst_116 (fun v4 h => ?_)
  refine lv_iconst (v := -1) hx hb dX5_useFirst_117 (by decide) ?_
  refine lv_ixor hx hb dX5_useFirst_118 ?_
  refine lv_iand hx hb dX5_useFirst_119 ?_
  refine zz_leti h (fun v5 h => ?_)
  refine lv_istore (lv' := [(8, .int v5), (7, .ref (ad 38)), (0, .ref (ad 35)), (1, .int x1), (2, .int x2), (3, .int x3), (4, .int x4), (5, .int x5), (6, .int x6)]) hx hb dX5_useFirst_120 hl (by decide) rfl (fun ls hl => ?_)
  refine lv_iconst (v := 0) hx hb dX5_useFirst_122 (by decide) ?_
  refine lv_istore (lv' := [(9, .int (0 : Int32)), (8, .int v5), (7, .ref (ad 38)), (0, .ref (ad 35)), (1, .int x1), (2, .int x2), (3, .int x3), (4, .int x4), (5, .int x5), (6, .int x6)]) hx hb dX5_useFirst_123 hl (by decide) rfl (fun ls hl => ?_)
  exact w_X5_useFirst_35_b125 (F := F) C hrc7 F _ _ _ _ _ _ _ _ _ _ _ _ h hW (lv_sub hl [3, 4, 5, 6, 7, 8, 9, 1, 0] rfl)
def n_X5_useFirst_35_b85_1 (F : Nat) (rc7 : Zs → Int32 → Int32 → Int32 → Option (Int32 × Zs)) (S : Zs) (x1 : Int32) (x2 : Int32) (x3 : Int32) (x4 : Int32) (x5 : Int32) (x6 : Int32) : Option (Int32 × Zs) :=
  zlt xt_53 19 x3 (fun v1 => zld S 39 96 (((24 : Int32) * v1) + x5) (fun v2 => zlt xt_54 19 x3 (fun v3 => zld S 39 96 (((24 : Int32) * v3) + x6) (fun v4 => zlet (v2 &&& (v4 ^^^ (-1 : Int32))) (fun v5 => n_X5_useFirst_35_b125 F rc7 S x1 x2 x3 x4 x5 x6 v5 (0 : Int32))))))
set_option maxRecDepth 20000 in
set_option maxHeartbeats 4000000 in
theorem w_X5_useFirst_35_b85_1 {F : Nat} {q : (Int32 × Zs)} {S : Zs} {rc7 : Zs → Int32 → Int32 → Int32 → Option (Int32 × Zs)} {x1 : Int32} {x2 : Int32} {x3 : Int32} {x4 : Int32} {x5 : Int32} {x6 : Int32} {ls : Array Slot} {H : Heap} {locs : List Loc} (C : zC p s m args meth c cX5_useFirst 11 RX5 none) (hrc7 : ∀ (S : Zs) (x1 : Int32) (x2 : Int32) (x3 : Int32) (H : Heap) (locs : List Loc) (ls : Array Slot), rc7 S x1 x2 x3 = some q → zW (xG D cs ad) s S H locs → lv_has ls 11 [(0, .ref (ad 35)), (1, .int x1), (2, .int x2), (3, .int x3)] → W p l e (zR 2 45) s m args below meth c H locs 0 0 (zQv (xG D cs ad) q below args s) (F0 m 7 ls [])) (h : n_X5_useFirst_35_b85_1 F rc7 S x1 x2 x3 x4 x5 x6 = some q) (hW : zW (xG D cs ad) s S H locs) (hl : lv_has ls 11 [(0, .ref (ad 35)), (1, .int x1), (2, .int x2), (3, .int x3), (4, .int x4), (5, .int x5), (6, .int x6)]) : W p l e (zR 2 45) s m args below meth c H locs 0 0 (zQv (xG D cs ad) q below args s) (F0 m 85 ls [.ref (ad 39)]) := by
  unfold n_X5_useFirst_35_b85_1 at h
  obtain ⟨hx, hb, hml, hown, hts, hret, hlk⟩ := id C
  refine lv_astore (lv' := [(7, .ref (ad 39)), (0, .ref (ad 35)), (1, .int x1), (2, .int x2), (3, .int x3), (4, .int x4), (5, .int x5), (6, .int x6)]) hx hb dX5_useFirst_85 hl (by decide) rfl (fun ls hl => ?_)
  refine lv_aload hx hb dX5_useFirst_87 (lv_at hl 0 rfl) ?_
  refine lv_bipush (v := 24) hx hb dX5_useFirst_89 (by decide) ?_
  refine xst_53 C hW fl_X5_135 dX5_useFirst_91 ?_
  refine lv_iload_n hx hb dX5_useFirst_94 rfl (lv_at hl 4 rfl) ?_
  refine xtl_53 C hW h dX5_useFirst_95 (fun v1 h => ?_)
  refine lv_imul hx hb dX5_useFirst_96 ?_
  refine lv_iload hx hb dX5_useFirst_97 (lv_at hl 6 rfl) ?_
  refine lv_iadd hx hb dX5_useFirst_99 ?_
  refine xl_39 C hW h dX5_useFirst_100 (fun v2 h => ?_)
  refine lv_aload_n hx hb dX5_useFirst_101 rfl (lv_at hl 1 rfl) ?_
  refine xg_35_4 C hW fl_X5_21 dX5_useFirst_102 ?_
  refine lv_bipush (v := 24) hx hb dX5_useFirst_105 (by decide) ?_
  refine xst_54 C hW fl_X5_138 dX5_useFirst_107 ?_
  refine lv_iload_n hx hb dX5_useFirst_110 rfl (lv_at hl 4 rfl) ?_
  refine xtl_54 C hW h dX5_useFirst_111 (fun v3 h => ?_)
  refine lv_imul hx hb dX5_useFirst_112 ?_
  refine lv_iload hx hb dX5_useFirst_113 (lv_at hl 7 rfl) ?_
  refine lv_iadd hx hb dX5_useFirst_115 ?_
  refine xl_39 C hW h dX5_useFirst_116 (fun v4 h => ?_)
  refine lv_iconst (v := -1) hx hb dX5_useFirst_117 (by decide) ?_
  refine lv_ixor hx hb dX5_useFirst_118 ?_
  refine lv_iand hx hb dX5_useFirst_119 ?_
  refine zz_leti h (fun v5 h => ?_)
  refine lv_istore (lv' := [(8, .int v5), (7, .ref (ad 39)), (0, .ref (ad 35)), (1, .int x1), (2, .int x2), (3, .int x3), (4, .int x4), (5, .int x5), (6, .int x6)]) hx hb dX5_useFirst_120 hl (by decide) rfl (fun ls hl => ?_)
  refine lv_iconst (v := 0) hx hb dX5_useFirst_122 (by decide) ?_
  refine lv_istore (lv' := [(9, .int (0 : Int32)), (8, .int v5), (7, .ref (ad 39)), (0, .ref (ad 35)), (1, .int x1), (2, .int x2), (3, .int x3), (4, .int x4), (5, .int x5), (6, .int x6)]) hx hb dX5_useFirst_123 hl (by decide) rfl (fun ls hl => ?_)
  exact w_X5_useFirst_35_b125 (F := F) C hrc7 F _ _ _ _ _ _ _ _ _ _ _ _ h hW (lv_sub hl [3, 4, 5, 6, 7, 8, 9, 1, 0] rfl)
def n_X5_useFirst_35_b7_l (F : Nat) (rc7 : Zs → Int32 → Int32 → Int32 → Option (Int32 × Zs)) (S : Zs) (x1 : Int32) (x2 : Int32) (x3 : Int32) : Option (Int32 × Zs) :=
  if (19 : Int32) ≤ x3 then (some (0, S)) else (zlt xt_52 19 x3 (fun v1 => if x2 = v1 then (zcl (n_X5_isAllowed_35 F S x3) (fun v3 S2 => if v3 = 0 then (n_X5_useFirst_35_b204 F rc7 S2 x1 x2 x3) else (zgf S2 710 (fun v4 => zcl (n_X4_isAlive F S2 x3 x1 v4) (fun v6 S5 => if v6 = 0 then (n_X5_useFirst_35_b204 F rc7 S5 x1 x2 x3) else (zlt xt_51 19 x3 (fun v7 => zcl (n_X4_middleOfFirst F S5 v7 x1) (fun v9 S8 => zcl (n_X4_majorOf F S8 v7 x1) (fun v11 S10 => if (2 : Int32) < v7 then (n_X5_useFirst_35_b85 F rc7 S10 x1 x2 x3 v7 v9 v11) else (n_X5_useFirst_35_b85_1 F rc7 S10 x1 x2 x3 v7 v9 v11)))))))))) else (n_X5_useFirst_35_b204 F rc7 S x1 x2 x3)))
set_option maxRecDepth 20000 in
set_option maxHeartbeats 4000000 in
theorem w_X5_useFirst_35_b7_l {F : Nat} {q : (Int32 × Zs)} {S : Zs} {rc7 : Zs → Int32 → Int32 → Int32 → Option (Int32 × Zs)} {x1 : Int32} {x2 : Int32} {x3 : Int32} {ls : Array Slot} {H : Heap} {locs : List Loc} (C : zC p s m args meth c cX5_useFirst 11 RX5 none) (hrc7 : ∀ (S : Zs) (x1 : Int32) (x2 : Int32) (x3 : Int32) (H : Heap) (locs : List Loc) (ls : Array Slot), rc7 S x1 x2 x3 = some q → zW (xG D cs ad) s S H locs → lv_has ls 11 [(0, .ref (ad 35)), (1, .int x1), (2, .int x2), (3, .int x3)] → W p l e (zR 2 45) s m args below meth c H locs 0 0 (zQv (xG D cs ad) q below args s) (F0 m 7 ls [])) (h : n_X5_useFirst_35_b7_l F rc7 S x1 x2 x3 = some q) (hW : zW (xG D cs ad) s S H locs) (hl : lv_has ls 11 [(0, .ref (ad 35)), (1, .int x1), (2, .int x2), (3, .int x3)]) : W p l e (zR 2 45) s m args below meth c H locs 0 0 (zQv (xG D cs ad) q below args s) (F0 m 7 ls []) := by
  unfold n_X5_useFirst_35_b7_l at h
  obtain ⟨hx, hb, hml, hown, hts, hret, hlk⟩ := id C
  refine lv_iload_n hx hb dX5_useFirst_7 rfl (lv_at hl 3 rfl) ?_
  refine lv_bipush (v := 19) hx hb dX5_useFirst_8 (by decide) ?_
  refine zz_cge (tgt := 210) C h dX5_useFirst_10 (by decide) (fun h => ?_) (fun h => ?_)
  · exact zz_vret C rfl h hW dX5_useFirst_210
  · refine lv_iload_n hx hb dX5_useFirst_13 rfl (lv_at hl 2 rfl) ?_
    refine xst_52 C hW fl_X5_123 dX5_useFirst_14 ?_
    refine lv_iload_n hx hb dX5_useFirst_17 rfl (lv_at hl 3 rfl) ?_
    refine xtl_52 C hW h dX5_useFirst_18 (fun v1 h => ?_)
    refine zz_cne (tgt := 204) C h dX5_useFirst_19 (by decide) (fun h => ?_) (fun h => ?_)
    · exact w_X5_useFirst_35_b204 (F := F) C hrc7 h hW (lv_sub hl [0, 1, 2, 3] rfl)
    · refine lv_aload_n hx hb dX5_useFirst_22 rfl (lv_at hl 0 rfl) ?_
      refine lv_iload_n hx hb dX5_useFirst_23 rfl (lv_at hl 3 rfl) ?_
      refine zz_callVi (As := [.int x3]) C hW h (fun r hr => c_X5_isAllowed_35 hr) lk_X5_116 (hW.recv xr_35) rfl hl.1 ⟨rfl, rfl⟩ ⟨Nat.le_of_ble_eq_true rfl, Nat.le_of_ble_eq_true rfl⟩ (Nat.le_of_ble_eq_true rfl) ⟨Nat.zero_le _, Nat.zero_le _⟩ rfl dX5_useFirst_24 (fun v3 S2 H locs h hW => ?_)
      refine zz_ieq (tgt := 204) C h dX5_useFirst_27 (by decide) (fun h => ?_) (fun h => ?_)
      · exact w_X5_useFirst_35_b204 (F := F) C hrc7 h hW (lv_sub hl [0, 1, 2, 3] rfl)
      · refine lv_iload_n hx hb dX5_useFirst_30 rfl (lv_at hl 3 rfl) ?_
        refine lv_iload_n hx hb dX5_useFirst_31 rfl (lv_at hl 1 rfl) ?_
        refine lv_aload_n hx hb dX5_useFirst_32 rfl (lv_at hl 0 rfl) ?_
        refine xg_35_10 C hW h fl_X5_45 dX5_useFirst_33 (fun v4 h => ?_)
        refine zz_callSi (As := [.int x3, .int x1, .int v4]) C hW h (fun r hr => c_X4_isAlive hr) lk_X5_119 rfl hl.1 ⟨rfl, rfl⟩ ⟨Nat.le_of_ble_eq_true rfl, Nat.le_of_ble_eq_true rfl⟩ (Nat.le_of_ble_eq_true rfl) ⟨Nat.zero_le _, Nat.zero_le _⟩ rfl dX5_useFirst_36 (fun v6 S5 H locs h hW => ?_)
        refine zz_ine (tgt := 45) C h dX5_useFirst_39 (by decide) (fun h => ?_) (fun h => ?_)
        · refine xst_51 C hW fl_X5_126 dX5_useFirst_45 ?_
          refine lv_iload_n hx hb dX5_useFirst_48 rfl (lv_at hl 3 rfl) ?_
          refine xtl_51 C hW h dX5_useFirst_49 (fun v7 h => ?_)
          refine lv_istore (lv' := [(4, .int v7), (0, .ref (ad 35)), (1, .int x1), (2, .int x2), (3, .int x3)]) hx hb dX5_useFirst_50 hl (by decide) rfl (fun ls hl => ?_)
          refine lv_iload hx hb dX5_useFirst_52 (lv_at hl 0 rfl) ?_
          refine lv_iload_n hx hb dX5_useFirst_54 rfl (lv_at hl 2 rfl) ?_
          refine zz_callSi (As := [.int v7, .int x1]) C hW h (fun r hr => c_X4_middleOfFirst hr) lk_X5_129 rfl hl.1 ⟨rfl, rfl⟩ ⟨Nat.le_of_ble_eq_true rfl, Nat.le_of_ble_eq_true rfl⟩ (Nat.le_of_ble_eq_true rfl) ⟨Nat.zero_le _, Nat.zero_le _⟩ rfl dX5_useFirst_55 (fun v9 S8 H locs h hW => ?_)
          refine lv_istore (lv' := [(5, .int v9), (4, .int v7), (0, .ref (ad 35)), (1, .int x1), (2, .int x2), (3, .int x3)]) hx hb dX5_useFirst_58 hl (by decide) rfl (fun ls hl => ?_)
          refine lv_iload hx hb dX5_useFirst_60 (lv_at hl 1 rfl) ?_
          refine lv_iload_n hx hb dX5_useFirst_62 rfl (lv_at hl 3 rfl) ?_
          refine zz_callSi (As := [.int v7, .int x1]) C hW h (fun r hr => c_X4_majorOf hr) lk_X5_132 rfl hl.1 ⟨rfl, rfl⟩ ⟨Nat.le_of_ble_eq_true rfl, Nat.le_of_ble_eq_true rfl⟩ (Nat.le_of_ble_eq_true rfl) ⟨Nat.zero_le _, Nat.zero_le _⟩ rfl dX5_useFirst_63 (fun v11 S10 H locs h hW => ?_)
          refine lv_istore (lv' := [(6, .int v11), (5, .int v9), (4, .int v7), (0, .ref (ad 35)), (1, .int x1), (2, .int x2), (3, .int x3)]) hx hb dX5_useFirst_66 hl (by decide) rfl (fun ls hl => ?_)
          refine lv_iload hx hb dX5_useFirst_68 (lv_at hl 2 rfl) ?_
          refine lv_iconst (v := 2) hx hb dX5_useFirst_70 (by decide) ?_
          refine zz_cgt (tgt := 81) C h dX5_useFirst_71 (by decide) (fun h => ?_) (fun h => ?_)
          · refine lv_aload_n hx hb dX5_useFirst_81 rfl (lv_at hl 3 rfl) ?_
            refine xg_35_3 C hW fl_X5_18 dX5_useFirst_82 ?_
            exact w_X5_useFirst_35_b85 (F := F) C hrc7 h hW (lv_sub hl [3, 4, 5, 6, 2, 1, 0] rfl)
          · refine lv_aload_n hx hb dX5_useFirst_74 rfl (lv_at hl 3 rfl) ?_
            refine xg_35_4 C hW fl_X5_21 dX5_useFirst_75 ?_
            refine lv_goto (tgt := 85) hx hb dX5_useFirst_78 (by decide) ?_
            exact w_X5_useFirst_35_b85_1 (F := F) C hrc7 h hW (lv_sub hl [3, 4, 5, 6, 2, 1, 0] rfl)
        · refine lv_goto (tgt := 204) hx hb dX5_useFirst_42 (by decide) ?_
          exact w_X5_useFirst_35_b204 (F := F) C hrc7 h hW (lv_sub hl [0, 1, 2, 3] rfl)
def n_X5_useFirst_35_b7 (F : Nat)  (S : Zs) (x1 : Int32) (x2 : Int32) (x3 : Int32) : Option (Int32 × Zs) :=
  zfix (fun (rc : (Zs × Int32 × Int32 × Int32) → Option (Int32 × Zs)) (u : (Zs × Int32 × Int32 × Int32)) => n_X5_useFirst_35_b7_l F  (fun S x1 x2 x3 => rc (S, x1, x2, x3)) u.1 u.2.1 u.2.2.1 u.2.2.2) F (S, x1, x2, x3)
theorem w_X5_useFirst_35_b7 {F : Nat} {q : (Int32 × Zs)}  (C : zC p s m args meth c cX5_useFirst 11 RX5 none)  : ∀ (n : Nat) (S : Zs) (x1 : Int32) (x2 : Int32) (x3 : Int32) (H : Heap) (locs : List Loc) (ls : Array Slot), zfix (fun (rc : (Zs × Int32 × Int32 × Int32) → Option (Int32 × Zs)) (u : (Zs × Int32 × Int32 × Int32)) => n_X5_useFirst_35_b7_l F  (fun S x1 x2 x3 => rc (S, x1, x2, x3)) u.1 u.2.1 u.2.2.1 u.2.2.2) n (S, x1, x2, x3) = some q → zW (xG D cs ad) s S H locs → lv_has ls 11 [(0, .ref (ad 35)), (1, .int x1), (2, .int x2), (3, .int x3)] → W p l e (zR 2 45) s m args below meth c H locs 0 0 (zQv (xG D cs ad) q below args s) (F0 m 7 ls []) := by
  intro n
  induction n with
  | zero => intro S x1 x2 x3 H locs ls h; exact absurd h (fun h => by cases h)
  | succ n ih => intro S x1 x2 x3 H locs ls h hW hl; exact w_X5_useFirst_35_b7_l (F := F) C (fun S x1 x2 x3 H locs ls h hW hl => ih S x1 x2 x3 H locs ls h hW hl) h hW hl
def n_X5_useFirst_35_e (F : Nat)  (S : Zs) (x1 : Int32) : Option (Int32 × Zs) :=
  zcl (n_X0_form F S x1) (fun v2 S1 => n_X5_useFirst_35_b7 F  S1 x1 v2 (0 : Int32))
set_option maxRecDepth 20000 in
set_option maxHeartbeats 4000000 in
theorem w_X5_useFirst_35_e {F : Nat} {q : (Int32 × Zs)} {S : Zs}  {x1 : Int32} {ls : Array Slot} {H : Heap} {locs : List Loc} (C : zC p s m args meth c cX5_useFirst 11 RX5 none)  (h : n_X5_useFirst_35_e F  S x1 = some q) (hW : zW (xG D cs ad) s S H locs) (hl : lv_has ls 11 [(0, .ref (ad 35)), (1, .int x1)]) : W p l e (zR 2 45) s m args below meth c H locs 0 0 (zQv (xG D cs ad) q below args s) (F0 m 0 ls []) := by
  unfold n_X5_useFirst_35_e at h
  obtain ⟨hx, hb, hml, hown, hts, hret, hlk⟩ := id C
  refine lv_iload_n hx hb dX5_useFirst_0 rfl (lv_at hl 1 rfl) ?_
  refine zz_callSi (As := [.int x1]) C hW h (fun r hr => c_X0_form hr) lk_X5_95 rfl hl.1 ⟨rfl, rfl⟩ ⟨Nat.le_of_ble_eq_true rfl, Nat.le_of_ble_eq_true rfl⟩ (Nat.le_of_ble_eq_true rfl) ⟨Nat.zero_le _, Nat.zero_le _⟩ rfl dX5_useFirst_1 (fun v2 S1 H locs h hW => ?_)
  refine lv_istore_n (lv' := [(2, .int v2), (0, .ref (ad 35)), (1, .int x1)]) hx hb dX5_useFirst_4 rfl hl (by decide) rfl (fun ls hl => ?_)
  refine lv_iconst (v := 0) hx hb dX5_useFirst_5 (by decide) ?_
  refine lv_istore_n (lv' := [(3, .int (0 : Int32)), (2, .int v2), (0, .ref (ad 35)), (1, .int x1)]) hx hb dX5_useFirst_6 rfl hl (by decide) rfl (fun ls hl => ?_)
  exact w_X5_useFirst_35_b7 (F := F) C F _ _ _ _ _ _ _ h hW (lv_sub hl [2, 3, 1, 0] rfl)
def n_X5_useFirst_35 (F : Nat) (S : Zs) (x1 : Int32) : Option (Int32 × Zs) := n_X5_useFirst_35_e F  S x1
theorem c_X5_useFirst_35 {l : Launch} {D : va_G} {cs ad : Nat → Nat} {F : Nat} {S : Zs} {x1 : Int32} {q : (Int32 × Zs)} (h : n_X5_useFirst_35 F S x1 = some q) : zMv l yX5_useFirst cX5_useFirst 11 none (zR 2 45) (xG D cs ad) [.ref (ad 35), .int x1] S q :=
  zz_enter (by decide) (Nat.le_of_ble_eq_true rfl) (fun p e s m below meth c ls C hW hl => w_X5_useFirst_35_e (F := F) C h hW (lv_sub hl [0, 1] rfl))
def n_X5_useSecond_35_b206 (F : Nat) (rc7 : Zs → Int32 → Int32 → Int32 → Option (Int32 × Zs)) (S : Zs) (x1 : Int32) (x2 : Int32) (x3 : Int32) : Option (Int32 × Zs) :=
  zlet (x3 + (1 : Int32)) (fun v1 => rc7 S x1 x2 v1)
set_option maxRecDepth 20000 in
set_option maxHeartbeats 4000000 in
theorem w_X5_useSecond_35_b206 {F : Nat} {q : (Int32 × Zs)} {S : Zs} {rc7 : Zs → Int32 → Int32 → Int32 → Option (Int32 × Zs)} {x1 : Int32} {x2 : Int32} {x3 : Int32} {ls : Array Slot} {H : Heap} {locs : List Loc} (C : zC p s m args meth c cX5_useSecond 11 RX5 none) (hrc7 : ∀ (S : Zs) (x1 : Int32) (x2 : Int32) (x3 : Int32) (H : Heap) (locs : List Loc) (ls : Array Slot), rc7 S x1 x2 x3 = some q → zW (xG D cs ad) s S H locs → lv_has ls 11 [(0, .ref (ad 35)), (1, .int x1), (2, .int x2), (3, .int x3)] → W p l e (zR 2 45) s m args below meth c H locs 0 0 (zQv (xG D cs ad) q below args s) (F0 m 7 ls [])) (h : n_X5_useSecond_35_b206 F rc7 S x1 x2 x3 = some q) (hW : zW (xG D cs ad) s S H locs) (hl : lv_has ls 11 [(0, .ref (ad 35)), (1, .int x1), (2, .int x2), (3, .int x3)]) : W p l e (zR 2 45) s m args below meth c H locs 0 0 (zQv (xG D cs ad) q below args s) (F0 m 206 ls []) := by
  unfold n_X5_useSecond_35_b206 at h
  obtain ⟨hx, hb, hml, hown, hts, hret, hlk⟩ := id C
  obtain ⟨v1, ev1, h⟩ := zz_name h
  refine lv_iinc (v := v1) (lv' := [(3, .int v1), (0, .ref (ad 35)), (1, .int x1), (2, .int x2)]) hx hb dX5_useSecond_206 hl (k := 3) rfl ev1.symm (by decide) rfl (fun ls hl => ?_)
  refine lv_goto (tgt := 7) hx hb dX5_useSecond_209 (by decide) ?_
  exact hrc7 _ _ _ _ _ _ _ h hW (lv_sub hl [1, 2, 3, 0] rfl)
def n_X5_useSecond_35_b200 (F : Nat) (rc7 : Zs → Int32 → Int32 → Int32 → Option (Int32 × Zs)) (rc114 : Zs → Int32 → Int32 → Int32 → Int32 → Int32 → Int32 → Int32 → Int32 → Option (Int32 × Zs)) (S : Zs) (x1 : Int32) (x2 : Int32) (x3 : Int32) (x4 : Int32) (x5 : Int32) (x6 : Int32) (x8 : Int32) (x9 : Int32) : Option (Int32 × Zs) :=
  zlet (x9 + (1 : Int32)) (fun v1 => rc114 S x1 x2 x3 x4 x5 x6 x8 v1)
set_option maxRecDepth 20000 in
set_option maxHeartbeats 4000000 in
theorem w_X5_useSecond_35_b200 {F : Nat} {q : (Int32 × Zs)} {S : Zs} {rc7 : Zs → Int32 → Int32 → Int32 → Option (Int32 × Zs)} {rc114 : Zs → Int32 → Int32 → Int32 → Int32 → Int32 → Int32 → Int32 → Int32 → Option (Int32 × Zs)} {x1 : Int32} {x2 : Int32} {x3 : Int32} {x4 : Int32} {x5 : Int32} {x6 : Int32} {x8 : Int32} {x9 : Int32} {ls : Array Slot} {H : Heap} {locs : List Loc} (C : zC p s m args meth c cX5_useSecond 11 RX5 none) (hrc7 : ∀ (S : Zs) (x1 : Int32) (x2 : Int32) (x3 : Int32) (H : Heap) (locs : List Loc) (ls : Array Slot), rc7 S x1 x2 x3 = some q → zW (xG D cs ad) s S H locs → lv_has ls 11 [(0, .ref (ad 35)), (1, .int x1), (2, .int x2), (3, .int x3)] → W p l e (zR 2 45) s m args below meth c H locs 0 0 (zQv (xG D cs ad) q below args s) (F0 m 7 ls [])) (hrc114 : ∀ (S : Zs) (x1 : Int32) (x2 : Int32) (x3 : Int32) (x4 : Int32) (x5 : Int32) (x6 : Int32) (x8 : Int32) (x9 : Int32) (H : Heap) (locs : List Loc) (ls : Array Slot), rc114 S x1 x2 x3 x4 x5 x6 x8 x9 = some q → zW (xG D cs ad) s S H locs → lv_has ls 11 [(0, .ref (ad 35)), (1, .int x1), (2, .int x2), (3, .int x3), (4, .int x4), (5, .int x5), (6, .int x6), (8, .int x8), (9, .int x9)] → W p l e (zR 2 45) s m args below meth c H locs 0 0 (zQv (xG D cs ad) q below args s) (F0 m 114 ls [])) (h : n_X5_useSecond_35_b200 F rc7 rc114 S x1 x2 x3 x4 x5 x6 x8 x9 = some q) (hW : zW (xG D cs ad) s S H locs) (hl : lv_has ls 11 [(0, .ref (ad 35)), (1, .int x1), (2, .int x2), (3, .int x3), (4, .int x4), (5, .int x5), (6, .int x6), (8, .int x8), (9, .int x9)]) : W p l e (zR 2 45) s m args below meth c H locs 0 0 (zQv (xG D cs ad) q below args s) (F0 m 200 ls []) := by
  unfold n_X5_useSecond_35_b200 at h
  obtain ⟨hx, hb, hml, hown, hts, hret, hlk⟩ := id C
  obtain ⟨v1, ev1, h⟩ := zz_name h
  refine lv_iinc (v := v1) (lv' := [(9, .int v1), (0, .ref (ad 35)), (1, .int x1), (2, .int x2), (3, .int x3), (4, .int x4), (5, .int x5), (6, .int x6), (8, .int x8)]) hx hb dX5_useSecond_200 hl (k := 8) rfl ev1.symm (by decide) rfl (fun ls hl => ?_)
  refine lv_goto (tgt := 114) hx hb dX5_useSecond_203 (by decide) ?_
  exact hrc114 _ _ _ _ _ _ _ _ _ _ _ _ h hW (lv_sub hl [1, 2, 3, 4, 5, 6, 7, 8, 0] rfl)
def n_X5_useSecond_35_b114_l (F : Nat) (rc7 : Zs → Int32 → Int32 → Int32 → Option (Int32 × Zs)) (rc114 : Zs → Int32 → Int32 → Int32 → Int32 → Int32 → Int32 → Int32 → Int32 → Option (Int32 × Zs)) (S : Zs) (x1 : Int32) (x2 : Int32) (x3 : Int32) (x4 : Int32) (x5 : Int32) (x6 : Int32) (x8 : Int32) (x9 : Int32) : Option (Int32 × Zs) :=
  if (24 : Int32) ≤ x9 then (n_X5_useSecond_35_b206 F rc7 S x1 x2 x3) else (if (x8 >>> (x9 &&& 31)) = 0 then (n_X5_useSecond_35_b206 F rc7 S x1 x2 x3) else (zlt xt_52 19 x3 (fun v1 => zcl (n_X4_firstPremise F S x4 v1 x5 x9) (fun v3 S2 => if ((x8 >>> (x9 &&& 31)) &&& (1 : Int32)) = 0 then (n_X5_useSecond_35_b200 F rc7 rc114 S2 x1 x2 x3 x4 x5 x6 x8 x9) else (zgf S2 710 (fun v4 => zcl (n_X4_isAlive F S2 x3 v3 v4) (fun v6 S5 => if v6 = 0 then (n_X5_useSecond_35_b200 F rc7 rc114 S5 x1 x2 x3 x4 x5 x6 x8 x9) else (zlt xt_54 19 x3 (fun v7 => zcl (n_X0_make F S5 v7 x6 x9) (fun v9 S8 => zld S8 36 2304 v3 (fun v10 => zld S8 36 2304 x1 (fun v11 => zcl (n_X5_offer_35 F S8 v9 ((v10 + v11) + (1 : Int32))) (fun v13 S12 => n_X5_useSecond_35_b200 F rc7 rc114 S12 x1 x2 x3 x4 x5 x6 x8 x9)))))))))))))
set_option maxRecDepth 20000 in
set_option maxHeartbeats 4000000 in
theorem w_X5_useSecond_35_b114_l {F : Nat} {q : (Int32 × Zs)} {S : Zs} {rc7 : Zs → Int32 → Int32 → Int32 → Option (Int32 × Zs)} {rc114 : Zs → Int32 → Int32 → Int32 → Int32 → Int32 → Int32 → Int32 → Int32 → Option (Int32 × Zs)} {x1 : Int32} {x2 : Int32} {x3 : Int32} {x4 : Int32} {x5 : Int32} {x6 : Int32} {x8 : Int32} {x9 : Int32} {ls : Array Slot} {H : Heap} {locs : List Loc} (C : zC p s m args meth c cX5_useSecond 11 RX5 none) (hrc7 : ∀ (S : Zs) (x1 : Int32) (x2 : Int32) (x3 : Int32) (H : Heap) (locs : List Loc) (ls : Array Slot), rc7 S x1 x2 x3 = some q → zW (xG D cs ad) s S H locs → lv_has ls 11 [(0, .ref (ad 35)), (1, .int x1), (2, .int x2), (3, .int x3)] → W p l e (zR 2 45) s m args below meth c H locs 0 0 (zQv (xG D cs ad) q below args s) (F0 m 7 ls [])) (hrc114 : ∀ (S : Zs) (x1 : Int32) (x2 : Int32) (x3 : Int32) (x4 : Int32) (x5 : Int32) (x6 : Int32) (x8 : Int32) (x9 : Int32) (H : Heap) (locs : List Loc) (ls : Array Slot), rc114 S x1 x2 x3 x4 x5 x6 x8 x9 = some q → zW (xG D cs ad) s S H locs → lv_has ls 11 [(0, .ref (ad 35)), (1, .int x1), (2, .int x2), (3, .int x3), (4, .int x4), (5, .int x5), (6, .int x6), (8, .int x8), (9, .int x9)] → W p l e (zR 2 45) s m args below meth c H locs 0 0 (zQv (xG D cs ad) q below args s) (F0 m 114 ls [])) (h : n_X5_useSecond_35_b114_l F rc7 rc114 S x1 x2 x3 x4 x5 x6 x8 x9 = some q) (hW : zW (xG D cs ad) s S H locs) (hl : lv_has ls 11 [(0, .ref (ad 35)), (1, .int x1), (2, .int x2), (3, .int x3), (4, .int x4), (5, .int x5), (6, .int x6), (8, .int x8), (9, .int x9)]) : W p l e (zR 2 45) s m args below meth c H locs 0 0 (zQv (xG D cs ad) q below args s) (F0 m 114 ls []) := by
  unfold n_X5_useSecond_35_b114_l at h
  obtain ⟨hx, hb, hml, hown, hts, hret, hlk⟩ := id C
  refine lv_iload hx hb dX5_useSecond_114 (lv_at hl 8 rfl) ?_
  refine lv_bipush (v := 24) hx hb dX5_useSecond_116 (by decide) ?_
  refine zz_cge (tgt := 206) C h dX5_useSecond_118 (by decide) (fun h => ?_) (fun h => ?_)
  · exact w_X5_useSecond_35_b206 (F := F) C hrc7 h hW (lv_sub hl [0, 1, 2, 3] rfl)
  · refine lv_iload hx hb dX5_useSecond_121 (lv_at hl 7 rfl) ?_
    refine lv_iload hx hb dX5_useSecond_123 (lv_at hl 8 rfl) ?_
    refine lv_ishr hx hb dX5_useSecond_125 ?_
    refine zz_ieq (tgt := 206) C h dX5_useSecond_126 (by decide) (fun h => ?_) (fun h => ?_)
    · exact w_X5_useSecond_35_b206 (F := F) C hrc7 h hW (lv_sub hl [0, 1, 2, 3] rfl)
    · refine lv_iload hx hb dX5_useSecond_129 (lv_at hl 4 rfl) ?_
      refine xst_52 C hW fl_X5_123 dX5_useSecond_131 ?_
      refine lv_iload_n hx hb dX5_useSecond_134 rfl (lv_at hl 3 rfl) ?_
      refine xtl_52 C hW h dX5_useSecond_135 (fun v1 h => ?_)
      refine lv_iload hx hb dX5_useSecond_136 (lv_at hl 5 rfl) ?_
      refine lv_iload hx hb dX5_useSecond_138 (lv_at hl 8 rfl) ?_
      refine zz_callSi (As := [.int x4, .int v1, .int x5, .int x9]) C hW h (fun r hr => c_X4_firstPremise hr) lk_X5_155 rfl hl.1 ⟨rfl, rfl⟩ ⟨Nat.le_of_ble_eq_true rfl, Nat.le_of_ble_eq_true rfl⟩ (Nat.le_of_ble_eq_true rfl) ⟨Nat.zero_le _, Nat.zero_le _⟩ rfl dX5_useSecond_140 (fun v3 S2 H locs h hW => ?_)
      refine lv_istore (lv' := [(10, .int v3), (0, .ref (ad 35)), (1, .int x1), (2, .int x2), (3, .int x3), (4, .int x4), (5, .int x5), (6, .int x6), (8, .int x8), (9, .int x9)]) hx hb dX5_useSecond_143 hl (by decide) rfl (fun ls hl => ?_)
      refine lv_iload hx hb dX5_useSecond_145 (lv_at hl 8 rfl) ?_
      refine lv_iload hx hb dX5_useSecond_147 (lv_at hl 9 rfl) ?_
      refine lv_ishr hx hb dX5_useSecond_149 ?_
      refine lv_iconst (v := 1) hx hb dX5_useSecond_150 (by decide) ?_
      refine lv_iand hx hb dX5_useSecond_151 ?_
      refine zz_ieq (tgt := 200) C h dX5_useSecond_152 (by decide) (fun h => ?_) (fun h => ?_)
      · exact w_X5_useSecond_35_b200 (F := F) C hrc7 hrc114 h hW (lv_sub hl [1, 2, 3, 4, 5, 6, 7, 8, 9] rfl)
      · refine lv_iload_n hx hb dX5_useSecond_155 rfl (lv_at hl 4 rfl) ?_
        refine lv_iload hx hb dX5_useSecond_156 (lv_at hl 0 rfl) ?_
        refine lv_aload_n hx hb dX5_useSecond_158 rfl (lv_at hl 1 rfl) ?_
        refine xg_35_10 C hW h fl_X5_45 dX5_useSecond_159 (fun v4 h => ?_)
        refine zz_callSi (As := [.int x3, .int v3, .int v4]) C hW h (fun r hr => c_X4_isAlive hr) lk_X5_119 rfl hl.1 ⟨rfl, rfl⟩ ⟨Nat.le_of_ble_eq_true rfl, Nat.le_of_ble_eq_true rfl⟩ (Nat.le_of_ble_eq_true rfl) ⟨Nat.zero_le _, Nat.zero_le _⟩ rfl dX5_useSecond_162 (fun v6 S5 H locs h hW => ?_)
        refine zz_ieq (tgt := 200) C h dX5_useSecond_165 (by decide) (fun h => ?_) (fun h => ?_)
        · exact w_X5_useSecond_35_b200 (F := F) C hrc7 hrc114 h hW (lv_sub hl [1, 2, 3, 4, 5, 6, 7, 8, 9] rfl)
        · refine lv_aload_n hx hb dX5_useSecond_168 rfl (lv_at hl 1 rfl) ?_
          refine xst_54 C hW fl_X5_138 dX5_useSecond_169 ?_
          refine lv_iload_n hx hb dX5_useSecond_172 rfl (lv_at hl 4 rfl) ?_
          refine xtl_54 C hW h dX5_useSecond_173 (fun v7 h => ?_)
          refine lv_iload hx hb dX5_useSecond_174 (lv_at hl 7 rfl) ?_
          refine lv_iload hx hb dX5_useSecond_176 (lv_at hl 9 rfl) ?_
          refine zz_callSi (As := [.int v7, .int x6, .int x9]) C hW h (fun r hr => c_X0_make hr) lk_X5_145 rfl hl.1 ⟨rfl, rfl⟩ ⟨Nat.le_of_ble_eq_true rfl, Nat.le_of_ble_eq_true rfl⟩ (Nat.le_of_ble_eq_true rfl) ⟨Nat.zero_le _, Nat.zero_le _⟩ rfl dX5_useSecond_178 (fun v9 S8 H locs h hW => ?_)
          refine lv_aload_n hx hb dX5_useSecond_181 rfl (lv_at hl 1 rfl) ?_
          refine xg_35_1 C hW fl_X5_9 dX5_useSecond_182 ?_
          refine lv_iload hx hb dX5_useSecond_185 (lv_at hl 0 rfl) ?_
          refine xl_36 C hW h dX5_useSecond_187 (fun v10 h => ?_)
          refine lv_aload_n hx hb dX5_useSecond_188 rfl (lv_at hl 1 rfl) ?_
          refine xg_35_1 C hW fl_X5_9 dX5_useSecond_189 ?_
          refine lv_iload_n hx hb dX5_useSecond_192 rfl (lv_at hl 2 rfl) ?_
          refine xl_36 C hW h dX5_useSecond_193 (fun v11 h => ?_)
          refine lv_iadd hx hb dX5_useSecond_194 ?_
          refine lv_iconst (v := 1) hx hb dX5_useSecond_195 (by decide) ?_
          refine lv_iadd hx hb dX5_useSecond_196 ?_
          refine zz_callVv (As := [.int v9, .int ((v10 + v11) + (1 : Int32))]) C hW h (fun r hr => c_X5_offer_35 hr) lk_X5_70 (hW.recv xr_35) rfl hl.1 ⟨rfl, rfl⟩ ⟨Nat.le_of_ble_eq_true rfl, Nat.le_of_ble_eq_true rfl⟩ (Nat.le_of_ble_eq_true rfl) ⟨Nat.zero_le _, Nat.zero_le _⟩ rfl dX5_useSecond_197 (fun v13 S12 H locs h hW => ?_)
          exact w_X5_useSecond_35_b200 (F := F) C hrc7 hrc114 h hW (lv_sub hl [1, 2, 3, 4, 5, 6, 7, 8, 9] rfl)
def n_X5_useSecond_35_b114 (F : Nat) (rc7 : Zs → Int32 → Int32 → Int32 → Option (Int32 × Zs)) (S : Zs) (x1 : Int32) (x2 : Int32) (x3 : Int32) (x4 : Int32) (x5 : Int32) (x6 : Int32) (x8 : Int32) (x9 : Int32) : Option (Int32 × Zs) :=
  zfix (fun (rc : (Zs × Int32 × Int32 × Int32 × Int32 × Int32 × Int32 × Int32 × Int32) → Option (Int32 × Zs)) (u : (Zs × Int32 × Int32 × Int32 × Int32 × Int32 × Int32 × Int32 × Int32)) => n_X5_useSecond_35_b114_l F rc7 (fun S x1 x2 x3 x4 x5 x6 x8 x9 => rc (S, x1, x2, x3, x4, x5, x6, x8, x9)) u.1 u.2.1 u.2.2.1 u.2.2.2.1 u.2.2.2.2.1 u.2.2.2.2.2.1 u.2.2.2.2.2.2.1 u.2.2.2.2.2.2.2.1 u.2.2.2.2.2.2.2.2) F (S, x1, x2, x3, x4, x5, x6, x8, x9)
theorem w_X5_useSecond_35_b114 {F : Nat} {q : (Int32 × Zs)} {rc7 : Zs → Int32 → Int32 → Int32 → Option (Int32 × Zs)} (C : zC p s m args meth c cX5_useSecond 11 RX5 none) (hrc7 : ∀ (S : Zs) (x1 : Int32) (x2 : Int32) (x3 : Int32) (H : Heap) (locs : List Loc) (ls : Array Slot), rc7 S x1 x2 x3 = some q → zW (xG D cs ad) s S H locs → lv_has ls 11 [(0, .ref (ad 35)), (1, .int x1), (2, .int x2), (3, .int x3)] → W p l e (zR 2 45) s m args below meth c H locs 0 0 (zQv (xG D cs ad) q below args s) (F0 m 7 ls [])) : ∀ (n : Nat) (S : Zs) (x1 : Int32) (x2 : Int32) (x3 : Int32) (x4 : Int32) (x5 : Int32) (x6 : Int32) (x8 : Int32) (x9 : Int32) (H : Heap) (locs : List Loc) (ls : Array Slot), zfix (fun (rc : (Zs × Int32 × Int32 × Int32 × Int32 × Int32 × Int32 × Int32 × Int32) → Option (Int32 × Zs)) (u : (Zs × Int32 × Int32 × Int32 × Int32 × Int32 × Int32 × Int32 × Int32)) => n_X5_useSecond_35_b114_l F rc7 (fun S x1 x2 x3 x4 x5 x6 x8 x9 => rc (S, x1, x2, x3, x4, x5, x6, x8, x9)) u.1 u.2.1 u.2.2.1 u.2.2.2.1 u.2.2.2.2.1 u.2.2.2.2.2.1 u.2.2.2.2.2.2.1 u.2.2.2.2.2.2.2.1 u.2.2.2.2.2.2.2.2) n (S, x1, x2, x3, x4, x5, x6, x8, x9) = some q → zW (xG D cs ad) s S H locs → lv_has ls 11 [(0, .ref (ad 35)), (1, .int x1), (2, .int x2), (3, .int x3), (4, .int x4), (5, .int x5), (6, .int x6), (8, .int x8), (9, .int x9)] → W p l e (zR 2 45) s m args below meth c H locs 0 0 (zQv (xG D cs ad) q below args s) (F0 m 114 ls []) := by
  intro n
  induction n with
  | zero => intro S x1 x2 x3 x4 x5 x6 x8 x9 H locs ls h; exact absurd h (fun h => by cases h)
  | succ n ih => intro S x1 x2 x3 x4 x5 x6 x8 x9 H locs ls h hW hl; exact w_X5_useSecond_35_b114_l (F := F) C hrc7 (fun S x1 x2 x3 x4 x5 x6 x8 x9 H locs ls h hW hl => ih S x1 x2 x3 x4 x5 x6 x8 x9 H locs ls h hW hl) h hW hl
def n_X5_useSecond_35_b74 (F : Nat) (rc7 : Zs → Int32 → Int32 → Int32 → Option (Int32 × Zs)) (S : Zs) (x1 : Int32) (x2 : Int32) (x3 : Int32) (x4 : Int32) (x5 : Int32) (x6 : Int32) : Option (Int32 × Zs) :=
  zlt xt_52 19 x3 (fun v1 => zld S 39 96 (((24 : Int32) * v1) + x5) (fun v2 => zlt xt_54 19 x3 (fun v3 => zld S 38 96 (((24 : Int32) * v3) + x6) (fun v4 => zlet (v2 &&& (v4 ^^^ (-1 : Int32))) (fun v5 => n_X5_useSecond_35_b114 F rc7 S x1 x2 x3 x4 x5 x6 v5 (0 : Int32))))))
set_option maxRecDepth 20000 in
set_option maxHeartbeats 4000000 in
theorem w_X5_useSecond_35_b74 {F : Nat} {q : (Int32 × Zs)} {S : Zs} {rc7 : Zs → Int32 → Int32 → Int32 → Option (Int32 × Zs)} {x1 : Int32} {x2 : Int32} {x3 : Int32} {x4 : Int32} {x5 : Int32} {x6 : Int32} {ls : Array Slot} {H : Heap} {locs : List Loc} (C : zC p s m args meth c cX5_useSecond 11 RX5 none) (hrc7 : ∀ (S : Zs) (x1 : Int32) (x2 : Int32) (x3 : Int32) (H : Heap) (locs : List Loc) (ls : Array Slot), rc7 S x1 x2 x3 = some q → zW (xG D cs ad) s S H locs → lv_has ls 11 [(0, .ref (ad 35)), (1, .int x1), (2, .int x2), (3, .int x3)] → W p l e (zR 2 45) s m args below meth c H locs 0 0 (zQv (xG D cs ad) q below args s) (F0 m 7 ls [])) (h : n_X5_useSecond_35_b74 F rc7 S x1 x2 x3 x4 x5 x6 = some q) (hW : zW (xG D cs ad) s S H locs) (hl : lv_has ls 11 [(0, .ref (ad 35)), (1, .int x1), (2, .int x2), (3, .int x3), (4, .int x4), (5, .int x5), (6, .int x6)]) : W p l e (zR 2 45) s m args below meth c H locs 0 0 (zQv (xG D cs ad) q below args s) (F0 m 74 ls [.ref (ad 39)]) := by
  unfold n_X5_useSecond_35_b74 at h
  obtain ⟨hx, hb, hml, hown, hts, hret, hlk⟩ := id C
  refine lv_astore (lv' := [(7, .ref (ad 39)), (0, .ref (ad 35)), (1, .int x1), (2, .int x2), (3, .int x3), (4, .int x4), (5, .int x5), (6, .int x6)]) hx hb dX5_useSecond_74 hl (by decide) rfl (fun ls hl => ?_)
  refine lv_aload hx hb dX5_useSecond_76 (lv_at hl 0 rfl) ?_
  refine lv_bipush (v := 24) hx hb dX5_useSecond_78 (by decide) ?_
  refine xst_52 C hW fl_X5_123 dX5_useSecond_80 ?_
  refine lv_iload_n hx hb dX5_useSecond_83 rfl (lv_at hl 4 rfl) ?_
  refine xtl_52 C hW h dX5_useSecond_84 (fun v1 h => ?_)
  refine lv_imul hx hb dX5_useSecond_85 ?_
  refine lv_iload hx hb dX5_useSecond_86 (lv_at hl 6 rfl) ?_
  refine lv_iadd hx hb dX5_useSecond_88 ?_
  refine xl_39 C hW h dX5_useSecond_89 (fun v2 h => ?_)
  refine lv_aload_n hx hb dX5_useSecond_90 rfl (lv_at hl 1 rfl) ?_
  refine xg_35_3 C hW fl_X5_18 dX5_useSecond_91 ?_
  refine lv_bipush (v := 24) hx hb dX5_useSecond_94 (by decide) ?_
  refine xst_54 C hW fl_X5_138 dX5_useSecond_96 ?_
  refine lv_iload_n hx hb dX5_useSecond_99 rfl (lv_at hl 4 rfl) ?_
  refine xtl_54 C hW h dX5_useSecond_100 (fun v3 h => ?_)
  refine lv_imul hx hb dX5_useSecond_101 ?_
  refine lv_iload hx hb dX5_useSecond_102 (lv_at hl 7 rfl) ?_
  refine lv_iadd hx hb dX5_useSecond_104 ?_
  refine xl_38 C hW h dX5_useSecond_105 (fun v4 h => ?_)
  refine lv_iconst (v := -1) hx hb dX5_useSecond_106 (by decide) ?_
  refine lv_ixor hx hb dX5_useSecond_107 ?_
  refine lv_iand hx hb dX5_useSecond_108 ?_
  refine zz_leti h (fun v5 h => ?_)
  refine lv_istore (lv' := [(8, .int v5), (7, .ref (ad 39)), (0, .ref (ad 35)), (1, .int x1), (2, .int x2), (3, .int x3), (4, .int x4), (5, .int x5), (6, .int x6)]) hx hb dX5_useSecond_109 hl (by decide) rfl (fun ls hl => ?_)
  refine lv_iconst (v := 0) hx hb dX5_useSecond_111 (by decide) ?_
  refine lv_istore (lv' := [(9, .int (0 : Int32)), (8, .int v5), (7, .ref (ad 39)), (0, .ref (ad 35)), (1, .int x1), (2, .int x2), (3, .int x3), (4, .int x4), (5, .int x5), (6, .int x6)]) hx hb dX5_useSecond_112 hl (by decide) rfl (fun ls hl => ?_)
  exact w_X5_useSecond_35_b114 (F := F) C hrc7 F _ _ _ _ _ _ _ _ _ _ _ _ h hW (lv_sub hl [3, 4, 5, 6, 7, 8, 9, 1, 0] rfl)
def n_X5_useSecond_35_b74_1 (F : Nat) (rc7 : Zs → Int32 → Int32 → Int32 → Option (Int32 × Zs)) (S : Zs) (x1 : Int32) (x2 : Int32) (x3 : Int32) (x4 : Int32) (x5 : Int32) (x6 : Int32) : Option (Int32 × Zs) :=
  zlt xt_52 19 x3 (fun v1 => zld S 38 96 (((24 : Int32) * v1) + x5) (fun v2 => zlt xt_54 19 x3 (fun v3 => zld S 38 96 (((24 : Int32) * v3) + x6) (fun v4 => zlet (v2 &&& (v4 ^^^ (-1 : Int32))) (fun v5 => n_X5_useSecond_35_b114 F rc7 S x1 x2 x3 x4 x5 x6 v5 (0 : Int32))))))
set_option maxRecDepth 20000 in
set_option maxHeartbeats 4000000 in
theorem w_X5_useSecond_35_b74_1 {F : Nat} {q : (Int32 × Zs)} {S : Zs} {rc7 : Zs → Int32 → Int32 → Int32 → Option (Int32 × Zs)} {x1 : Int32} {x2 : Int32} {x3 : Int32} {x4 : Int32} {x5 : Int32} {x6 : Int32} {ls : Array Slot} {H : Heap} {locs : List Loc} (C : zC p s m args meth c cX5_useSecond 11 RX5 none) (hrc7 : ∀ (S : Zs) (x1 : Int32) (x2 : Int32) (x3 : Int32) (H : Heap) (locs : List Loc) (ls : Array Slot), rc7 S x1 x2 x3 = some q → zW (xG D cs ad) s S H locs → lv_has ls 11 [(0, .ref (ad 35)), (1, .int x1), (2, .int x2), (3, .int x3)] → W p l e (zR 2 45) s m args below meth c H locs 0 0 (zQv (xG D cs ad) q below args s) (F0 m 7 ls [])) (h : n_X5_useSecond_35_b74_1 F rc7 S x1 x2 x3 x4 x5 x6 = some q) (hW : zW (xG D cs ad) s S H locs) (hl : lv_has ls 11 [(0, .ref (ad 35)), (1, .int x1), (2, .int x2), (3, .int x3), (4, .int x4), (5, .int x5), (6, .int x6)]) : W p l e (zR 2 45) s m args below meth c H locs 0 0 (zQv (xG D cs ad) q below args s) (F0 m 74 ls [.ref (ad 38)]) := by
  unfold n_X5_useSecond_35_b74_1 at h
  obtain ⟨hx, hb, hml, hown, hts, hret, hlk⟩ := id C
  refine lv_astore (lv' := [(7, .ref (ad 38)), (0, .ref (ad 35)), (1, .int x1), (2, .int x2), (3, .int x3), (4, .int x4), (5, .int x5), (6, .int x6)]) hx hb dX5_useSecond_74 hl (by decide) rfl (fun ls hl => ?_)
  refine lv_aload hx hb dX5_useSecond_76 (lv_at hl 0 rfl) ?_
  refine lv_bipush (v := 24) hx hb dX5_useSecond_78 (by decide) ?_
  refine xst_52 C hW fl_X5_123 dX5_useSecond_80 ?_
  refine lv_iload_n hx hb dX5_useSecond_83 rfl (lv_at hl 4 rfl) ?_
  refine xtl_52 C hW h dX5_useSecond_84 (fun v1 h => ?_)
  refine lv_imul hx hb dX5_useSecond_85 ?_
  refine lv_iload hx hb dX5_useSecond_86 (lv_at hl 6 rfl) ?_
  refine lv_iadd hx hb dX5_useSecond_88 ?_
  refine xl_38 C hW h dX5_useSecond_89 (fun v2 h => ?_)
  refine lv_aload_n hx hb dX5_useSecond_90 rfl (lv_at hl 1 rfl) ?_
  refine xg_35_3 C hW fl_X5_18 dX5_useSecond_91 ?_
  refine lv_bipush (v := 24) hx hb dX5_useSecond_94 (by decide) ?_
  refine xst_54 C hW fl_X5_138 dX5_useSecond_96 ?_
  refine lv_iload_n hx hb dX5_useSecond_99 rfl (lv_at hl 4 rfl) ?_
  refine xtl_54 C hW h dX5_useSecond_100 (fun v3 h => ?_)
  refine lv_imul hx hb dX5_useSecond_101 ?_
  refine lv_iload hx hb dX5_useSecond_102 (lv_at hl 7 rfl) ?_
  refine lv_iadd hx hb dX5_useSecond_104 ?_
  refine xl_38 C hW h dX5_useSecond_105 (fun v4 h => ?_)
  refine lv_iconst (v := -1) hx hb dX5_useSecond_106 (by decide) ?_
  refine lv_ixor hx hb dX5_useSecond_107 ?_
  refine lv_iand hx hb dX5_useSecond_108 ?_
  refine zz_leti h (fun v5 h => ?_)
  refine lv_istore (lv' := [(8, .int v5), (7, .ref (ad 38)), (0, .ref (ad 35)), (1, .int x1), (2, .int x2), (3, .int x3), (4, .int x4), (5, .int x5), (6, .int x6)]) hx hb dX5_useSecond_109 hl (by decide) rfl (fun ls hl => ?_)
  refine lv_iconst (v := 0) hx hb dX5_useSecond_111 (by decide) ?_
  refine lv_istore (lv' := [(9, .int (0 : Int32)), (8, .int v5), (7, .ref (ad 38)), (0, .ref (ad 35)), (1, .int x1), (2, .int x2), (3, .int x3), (4, .int x4), (5, .int x5), (6, .int x6)]) hx hb dX5_useSecond_112 hl (by decide) rfl (fun ls hl => ?_)
  exact w_X5_useSecond_35_b114 (F := F) C hrc7 F _ _ _ _ _ _ _ _ _ _ _ _ h hW (lv_sub hl [3, 4, 5, 6, 7, 8, 9, 1, 0] rfl)
def n_X5_useSecond_35_b7_l (F : Nat) (rc7 : Zs → Int32 → Int32 → Int32 → Option (Int32 × Zs)) (S : Zs) (x1 : Int32) (x2 : Int32) (x3 : Int32) : Option (Int32 × Zs) :=
  if (19 : Int32) ≤ x3 then (some (0, S)) else (zlt xt_53 19 x3 (fun v1 => if x2 = v1 then (zcl (n_X5_isAllowed_35 F S x3) (fun v3 S2 => if v3 = 0 then (n_X5_useSecond_35_b206 F rc7 S2 x1 x2 x3) else (zlt xt_51 19 x3 (fun v4 => zcl (n_X4_middleOfSecond F S2 v4 x1) (fun v6 S5 => zcl (n_X4_minorOf F S5 v4 x1) (fun v8 S7 => if (v4 &&& (1 : Int32)) = 0 then (n_X5_useSecond_35_b74 F rc7 S7 x1 x2 x3 v4 v6 v8) else (n_X5_useSecond_35_b74_1 F rc7 S7 x1 x2 x3 v4 v6 v8))))))) else (n_X5_useSecond_35_b206 F rc7 S x1 x2 x3)))
set_option maxRecDepth 20000 in
set_option maxHeartbeats 4000000 in
theorem w_X5_useSecond_35_b7_l {F : Nat} {q : (Int32 × Zs)} {S : Zs} {rc7 : Zs → Int32 → Int32 → Int32 → Option (Int32 × Zs)} {x1 : Int32} {x2 : Int32} {x3 : Int32} {ls : Array Slot} {H : Heap} {locs : List Loc} (C : zC p s m args meth c cX5_useSecond 11 RX5 none) (hrc7 : ∀ (S : Zs) (x1 : Int32) (x2 : Int32) (x3 : Int32) (H : Heap) (locs : List Loc) (ls : Array Slot), rc7 S x1 x2 x3 = some q → zW (xG D cs ad) s S H locs → lv_has ls 11 [(0, .ref (ad 35)), (1, .int x1), (2, .int x2), (3, .int x3)] → W p l e (zR 2 45) s m args below meth c H locs 0 0 (zQv (xG D cs ad) q below args s) (F0 m 7 ls [])) (h : n_X5_useSecond_35_b7_l F rc7 S x1 x2 x3 = some q) (hW : zW (xG D cs ad) s S H locs) (hl : lv_has ls 11 [(0, .ref (ad 35)), (1, .int x1), (2, .int x2), (3, .int x3)]) : W p l e (zR 2 45) s m args below meth c H locs 0 0 (zQv (xG D cs ad) q below args s) (F0 m 7 ls []) := by
  unfold n_X5_useSecond_35_b7_l at h
  obtain ⟨hx, hb, hml, hown, hts, hret, hlk⟩ := id C
  refine lv_iload_n hx hb dX5_useSecond_7 rfl (lv_at hl 3 rfl) ?_
  refine lv_bipush (v := 19) hx hb dX5_useSecond_8 (by decide) ?_
  refine zz_cge (tgt := 212) C h dX5_useSecond_10 (by decide) (fun h => ?_) (fun h => ?_)
  · exact zz_vret C rfl h hW dX5_useSecond_212
  · refine lv_iload_n hx hb dX5_useSecond_13 rfl (lv_at hl 2 rfl) ?_
    refine xst_53 C hW fl_X5_135 dX5_useSecond_14 ?_
    refine lv_iload_n hx hb dX5_useSecond_17 rfl (lv_at hl 3 rfl) ?_
    refine xtl_53 C hW h dX5_useSecond_18 (fun v1 h => ?_)
    refine zz_cne (tgt := 206) C h dX5_useSecond_19 (by decide) (fun h => ?_) (fun h => ?_)
    · exact w_X5_useSecond_35_b206 (F := F) C hrc7 h hW (lv_sub hl [0, 1, 2, 3] rfl)
    · refine lv_aload_n hx hb dX5_useSecond_22 rfl (lv_at hl 0 rfl) ?_
      refine lv_iload_n hx hb dX5_useSecond_23 rfl (lv_at hl 3 rfl) ?_
      refine zz_callVi (As := [.int x3]) C hW h (fun r hr => c_X5_isAllowed_35 hr) lk_X5_116 (hW.recv xr_35) rfl hl.1 ⟨rfl, rfl⟩ ⟨Nat.le_of_ble_eq_true rfl, Nat.le_of_ble_eq_true rfl⟩ (Nat.le_of_ble_eq_true rfl) ⟨Nat.zero_le _, Nat.zero_le _⟩ rfl dX5_useSecond_24 (fun v3 S2 H locs h hW => ?_)
      refine zz_ine (tgt := 33) C h dX5_useSecond_27 (by decide) (fun h => ?_) (fun h => ?_)
      · refine xst_51 C hW fl_X5_126 dX5_useSecond_33 ?_
        refine lv_iload_n hx hb dX5_useSecond_36 rfl (lv_at hl 3 rfl) ?_
        refine xtl_51 C hW h dX5_useSecond_37 (fun v4 h => ?_)
        refine lv_istore (lv' := [(4, .int v4), (0, .ref (ad 35)), (1, .int x1), (2, .int x2), (3, .int x3)]) hx hb dX5_useSecond_38 hl (by decide) rfl (fun ls hl => ?_)
        refine lv_iload hx hb dX5_useSecond_40 (lv_at hl 0 rfl) ?_
        refine lv_iload_n hx hb dX5_useSecond_42 rfl (lv_at hl 2 rfl) ?_
        refine zz_callSi (As := [.int v4, .int x1]) C hW h (fun r hr => c_X4_middleOfSecond hr) lk_X5_149 rfl hl.1 ⟨rfl, rfl⟩ ⟨Nat.le_of_ble_eq_true rfl, Nat.le_of_ble_eq_true rfl⟩ (Nat.le_of_ble_eq_true rfl) ⟨Nat.zero_le _, Nat.zero_le _⟩ rfl dX5_useSecond_43 (fun v6 S5 H locs h hW => ?_)
        refine lv_istore (lv' := [(5, .int v6), (4, .int v4), (0, .ref (ad 35)), (1, .int x1), (2, .int x2), (3, .int x3)]) hx hb dX5_useSecond_46 hl (by decide) rfl (fun ls hl => ?_)
        refine lv_iload hx hb dX5_useSecond_48 (lv_at hl 1 rfl) ?_
        refine lv_iload_n hx hb dX5_useSecond_50 rfl (lv_at hl 3 rfl) ?_
        refine zz_callSi (As := [.int v4, .int x1]) C hW h (fun r hr => c_X4_minorOf hr) lk_X5_152 rfl hl.1 ⟨rfl, rfl⟩ ⟨Nat.le_of_ble_eq_true rfl, Nat.le_of_ble_eq_true rfl⟩ (Nat.le_of_ble_eq_true rfl) ⟨Nat.zero_le _, Nat.zero_le _⟩ rfl dX5_useSecond_51 (fun v8 S7 H locs h hW => ?_)
        refine lv_istore (lv' := [(6, .int v8), (5, .int v6), (4, .int v4), (0, .ref (ad 35)), (1, .int x1), (2, .int x2), (3, .int x3)]) hx hb dX5_useSecond_54 hl (by decide) rfl (fun ls hl => ?_)
        refine lv_iload hx hb dX5_useSecond_56 (lv_at hl 2 rfl) ?_
        refine lv_iconst (v := 1) hx hb dX5_useSecond_58 (by decide) ?_
        refine lv_iand hx hb dX5_useSecond_59 ?_
        refine zz_ieq (tgt := 70) C h dX5_useSecond_60 (by decide) (fun h => ?_) (fun h => ?_)
        · refine lv_aload_n hx hb dX5_useSecond_70 rfl (lv_at hl 3 rfl) ?_
          refine xg_35_4 C hW fl_X5_21 dX5_useSecond_71 ?_
          exact w_X5_useSecond_35_b74 (F := F) C hrc7 h hW (lv_sub hl [3, 4, 5, 6, 2, 1, 0] rfl)
        · refine lv_aload_n hx hb dX5_useSecond_63 rfl (lv_at hl 3 rfl) ?_
          refine xg_35_3 C hW fl_X5_18 dX5_useSecond_64 ?_
          refine lv_goto (tgt := 74) hx hb dX5_useSecond_67 (by decide) ?_
          exact w_X5_useSecond_35_b74_1 (F := F) C hrc7 h hW (lv_sub hl [3, 4, 5, 6, 2, 1, 0] rfl)
      · refine lv_goto (tgt := 206) hx hb dX5_useSecond_30 (by decide) ?_
        exact w_X5_useSecond_35_b206 (F := F) C hrc7 h hW (lv_sub hl [0, 1, 2, 3] rfl)
def n_X5_useSecond_35_b7 (F : Nat)  (S : Zs) (x1 : Int32) (x2 : Int32) (x3 : Int32) : Option (Int32 × Zs) :=
  zfix (fun (rc : (Zs × Int32 × Int32 × Int32) → Option (Int32 × Zs)) (u : (Zs × Int32 × Int32 × Int32)) => n_X5_useSecond_35_b7_l F  (fun S x1 x2 x3 => rc (S, x1, x2, x3)) u.1 u.2.1 u.2.2.1 u.2.2.2) F (S, x1, x2, x3)
theorem w_X5_useSecond_35_b7 {F : Nat} {q : (Int32 × Zs)}  (C : zC p s m args meth c cX5_useSecond 11 RX5 none)  : ∀ (n : Nat) (S : Zs) (x1 : Int32) (x2 : Int32) (x3 : Int32) (H : Heap) (locs : List Loc) (ls : Array Slot), zfix (fun (rc : (Zs × Int32 × Int32 × Int32) → Option (Int32 × Zs)) (u : (Zs × Int32 × Int32 × Int32)) => n_X5_useSecond_35_b7_l F  (fun S x1 x2 x3 => rc (S, x1, x2, x3)) u.1 u.2.1 u.2.2.1 u.2.2.2) n (S, x1, x2, x3) = some q → zW (xG D cs ad) s S H locs → lv_has ls 11 [(0, .ref (ad 35)), (1, .int x1), (2, .int x2), (3, .int x3)] → W p l e (zR 2 45) s m args below meth c H locs 0 0 (zQv (xG D cs ad) q below args s) (F0 m 7 ls []) := by
  intro n
  induction n with
  | zero => intro S x1 x2 x3 H locs ls h; exact absurd h (fun h => by cases h)
  | succ n ih => intro S x1 x2 x3 H locs ls h hW hl; exact w_X5_useSecond_35_b7_l (F := F) C (fun S x1 x2 x3 H locs ls h hW hl => ih S x1 x2 x3 H locs ls h hW hl) h hW hl
def n_X5_useSecond_35_e (F : Nat)  (S : Zs) (x1 : Int32) : Option (Int32 × Zs) :=
  zcl (n_X0_form F S x1) (fun v2 S1 => n_X5_useSecond_35_b7 F  S1 x1 v2 (0 : Int32))
set_option maxRecDepth 20000 in
set_option maxHeartbeats 4000000 in
theorem w_X5_useSecond_35_e {F : Nat} {q : (Int32 × Zs)} {S : Zs}  {x1 : Int32} {ls : Array Slot} {H : Heap} {locs : List Loc} (C : zC p s m args meth c cX5_useSecond 11 RX5 none)  (h : n_X5_useSecond_35_e F  S x1 = some q) (hW : zW (xG D cs ad) s S H locs) (hl : lv_has ls 11 [(0, .ref (ad 35)), (1, .int x1)]) : W p l e (zR 2 45) s m args below meth c H locs 0 0 (zQv (xG D cs ad) q below args s) (F0 m 0 ls []) := by
  unfold n_X5_useSecond_35_e at h
  obtain ⟨hx, hb, hml, hown, hts, hret, hlk⟩ := id C
  refine lv_iload_n hx hb dX5_useSecond_0 rfl (lv_at hl 1 rfl) ?_
  refine zz_callSi (As := [.int x1]) C hW h (fun r hr => c_X0_form hr) lk_X5_95 rfl hl.1 ⟨rfl, rfl⟩ ⟨Nat.le_of_ble_eq_true rfl, Nat.le_of_ble_eq_true rfl⟩ (Nat.le_of_ble_eq_true rfl) ⟨Nat.zero_le _, Nat.zero_le _⟩ rfl dX5_useSecond_1 (fun v2 S1 H locs h hW => ?_)
  refine lv_istore_n (lv' := [(2, .int v2), (0, .ref (ad 35)), (1, .int x1)]) hx hb dX5_useSecond_4 rfl hl (by decide) rfl (fun ls hl => ?_)
  refine lv_iconst (v := 0) hx hb dX5_useSecond_5 (by decide) ?_
  refine lv_istore_n (lv' := [(3, .int (0 : Int32)), (2, .int v2), (0, .ref (ad 35)), (1, .int x1)]) hx hb dX5_useSecond_6 rfl hl (by decide) rfl (fun ls hl => ?_)
  exact w_X5_useSecond_35_b7 (F := F) C F _ _ _ _ _ _ _ h hW (lv_sub hl [2, 3, 1, 0] rfl)
def n_X5_useSecond_35 (F : Nat) (S : Zs) (x1 : Int32) : Option (Int32 × Zs) := n_X5_useSecond_35_e F  S x1
theorem c_X5_useSecond_35 {l : Launch} {D : va_G} {cs ad : Nat → Nat} {F : Nat} {S : Zs} {x1 : Int32} {q : (Int32 × Zs)} (h : n_X5_useSecond_35 F S x1 = some q) : zMv l yX5_useSecond cX5_useSecond 11 none (zR 2 45) (xG D cs ad) [.ref (ad 35), .int x1] S q :=
  zz_enter (by decide) (Nat.le_of_ble_eq_true rfl) (fun p e s m below meth c ls C hW hl => w_X5_useSecond_35_e (F := F) C h hW (lv_sub hl [0, 1] rfl))
def n_X5_settleShortest_35_b170_l (F : Nat) (rc170 : Zs → Int32 → Option (Int32 × Zs)) (S : Zs) (x3 : Int32) : Option (Int32 × Zs) :=
  zgf S 707 (fun v1 => if v1 ≤ x3 then (some (0, S)) else (zld S 37 2304 x3 (fun v2 => zcl (n_X5_useAlone_35 F S v2) (fun v4 S3 => zld S3 37 2304 x3 (fun v5 => zcl (n_X5_useFirst_35 F S3 v5) (fun v7 S6 => zld S6 37 2304 x3 (fun v8 => zcl (n_X5_useSecond_35 F S6 v8) (fun v10 S9 => zlet (x3 + (1 : Int32)) (fun v11 => rc170 S9 v11)))))))))
set_option maxRecDepth 20000 in
set_option maxHeartbeats 4000000 in
theorem w_X5_settleShortest_35_b170_l {F : Nat} {q : (Int32 × Zs)} {S : Zs} {rc170 : Zs → Int32 → Option (Int32 × Zs)} {x3 : Int32} {ls : Array Slot} {H : Heap} {locs : List Loc} (C : zC p s m args meth c cX5_settleShortest 5 RX5 none) (hrc170 : ∀ (S : Zs) (x3 : Int32) (H : Heap) (locs : List Loc) (ls : Array Slot), rc170 S x3 = some q → zW (xG D cs ad) s S H locs → lv_has ls 5 [(0, .ref (ad 35)), (3, .int x3)] → W p l e (zR 3 75) s m args below meth c H locs 0 0 (zQv (xG D cs ad) q below args s) (F0 m 170 ls [])) (h : n_X5_settleShortest_35_b170_l F rc170 S x3 = some q) (hW : zW (xG D cs ad) s S H locs) (hl : lv_has ls 5 [(0, .ref (ad 35)), (3, .int x3)]) : W p l e (zR 3 75) s m args below meth c H locs 0 0 (zQv (xG D cs ad) q below args s) (F0 m 170 ls []) := by
  unfold n_X5_settleShortest_35_b170_l at h
  obtain ⟨hx, hb, hml, hown, hts, hret, hlk⟩ := id C
  refine lv_iload_n hx hb dX5_settleShortest_170 rfl (lv_at hl 1 rfl) ?_
  refine lv_aload_n hx hb dX5_settleShortest_171 rfl (lv_at hl 0 rfl) ?_
  refine xg_35_7 C hW h fl_X5_74 dX5_settleShortest_172 (fun v1 h => ?_)
  refine zz_cge (tgt := 214) C h dX5_settleShortest_175 (by decide) (fun h => ?_) (fun h => ?_)
  · exact zz_vret C rfl h hW dX5_settleShortest_214
  · refine lv_aload_n hx hb dX5_settleShortest_178 rfl (lv_at hl 0 rfl) ?_
    refine lv_aload_n hx hb dX5_settleShortest_179 rfl (lv_at hl 0 rfl) ?_
    refine xg_35_2 C hW fl_X5_15 dX5_settleShortest_180 ?_
    refine lv_iload_n hx hb dX5_settleShortest_183 rfl (lv_at hl 1 rfl) ?_
    refine xl_37 C hW h dX5_settleShortest_184 (fun v2 h => ?_)
    refine zz_callVv (As := [.int v2]) C hW h (fun r hr => c_X5_useAlone_35 hr) lk_X5_101 (hW.recv xr_35) rfl hl.1 ⟨rfl, rfl⟩ ⟨Nat.le_of_ble_eq_true rfl, Nat.le_of_ble_eq_true rfl⟩ (Nat.le_of_ble_eq_true rfl) ⟨Nat.zero_le _, Nat.zero_le _⟩ rfl dX5_settleShortest_185 (fun v4 S3 H locs h hW => ?_)
    refine lv_aload_n hx hb dX5_settleShortest_188 rfl (lv_at hl 0 rfl) ?_
    refine lv_aload_n hx hb dX5_settleShortest_189 rfl (lv_at hl 0 rfl) ?_
    refine xg_35_2 C hW fl_X5_15 dX5_settleShortest_190 ?_
    refine lv_iload_n hx hb dX5_settleShortest_193 rfl (lv_at hl 1 rfl) ?_
    refine xl_37 C hW h dX5_settleShortest_194 (fun v5 h => ?_)
    refine zz_callVv (As := [.int v5]) C hW h (fun r hr => c_X5_useFirst_35 hr) lk_X5_105 (hW.recv xr_35) rfl hl.1 ⟨rfl, rfl⟩ ⟨Nat.le_of_ble_eq_true rfl, Nat.le_of_ble_eq_true rfl⟩ (Nat.le_of_ble_eq_true rfl) ⟨Nat.zero_le _, Nat.zero_le _⟩ rfl dX5_settleShortest_195 (fun v7 S6 H locs h hW => ?_)
    refine lv_aload_n hx hb dX5_settleShortest_198 rfl (lv_at hl 0 rfl) ?_
    refine lv_aload_n hx hb dX5_settleShortest_199 rfl (lv_at hl 0 rfl) ?_
    refine xg_35_2 C hW fl_X5_15 dX5_settleShortest_200 ?_
    refine lv_iload_n hx hb dX5_settleShortest_203 rfl (lv_at hl 1 rfl) ?_
    refine xl_37 C hW h dX5_settleShortest_204 (fun v8 h => ?_)
    refine zz_callVv (As := [.int v8]) C hW h (fun r hr => c_X5_useSecond_35 hr) lk_X5_108 (hW.recv xr_35) rfl hl.1 ⟨rfl, rfl⟩ ⟨Nat.le_of_ble_eq_true rfl, Nat.le_of_ble_eq_true rfl⟩ (Nat.le_of_ble_eq_true rfl) ⟨Nat.zero_le _, Nat.zero_le _⟩ rfl dX5_settleShortest_205 (fun v10 S9 H locs h hW => ?_)
    obtain ⟨v11, ev11, h⟩ := zz_name h
    refine lv_iinc (v := v11) (lv' := [(3, .int v11), (0, .ref (ad 35))]) hx hb dX5_settleShortest_208 hl (k := 1) rfl ev11.symm (by decide) rfl (fun ls hl => ?_)
    refine lv_goto (tgt := 170) hx hb dX5_settleShortest_211 (by decide) ?_
    exact hrc170 _ _ _ _ _ h hW (lv_sub hl [1, 0] rfl)
def n_X5_settleShortest_35_b170 (F : Nat)  (S : Zs) (x3 : Int32) : Option (Int32 × Zs) :=
  zfix (fun (rc : (Zs × Int32) → Option (Int32 × Zs)) (u : (Zs × Int32)) => n_X5_settleShortest_35_b170_l F  (fun S x3 => rc (S, x3)) u.1 u.2) F (S, x3)
theorem w_X5_settleShortest_35_b170 {F : Nat} {q : (Int32 × Zs)}  (C : zC p s m args meth c cX5_settleShortest 5 RX5 none)  : ∀ (n : Nat) (S : Zs) (x3 : Int32) (H : Heap) (locs : List Loc) (ls : Array Slot), zfix (fun (rc : (Zs × Int32) → Option (Int32 × Zs)) (u : (Zs × Int32)) => n_X5_settleShortest_35_b170_l F  (fun S x3 => rc (S, x3)) u.1 u.2) n (S, x3) = some q → zW (xG D cs ad) s S H locs → lv_has ls 5 [(0, .ref (ad 35)), (3, .int x3)] → W p l e (zR 3 75) s m args below meth c H locs 0 0 (zQv (xG D cs ad) q below args s) (F0 m 170 ls []) := by
  intro n
  induction n with
  | zero => intro S x3 H locs ls h; exact absurd h (fun h => by cases h)
  | succ n ih => intro S x3 H locs ls h hW hl; exact w_X5_settleShortest_35_b170_l (F := F) C (fun S x3 H locs ls h hW hl => ih S x3 H locs ls h hW hl) h hW hl
def n_X5_settleShortest_35_b157 (F : Nat) (rc45 : Zs → Int32 → Int32 → Int32 → Option (Int32 × Zs)) (S : Zs) (x1 : Int32) (x2 : Int32) (x3 : Int32) : Option (Int32 × Zs) :=
  zlet (x3 + (1 : Int32)) (fun v1 => rc45 S x1 x2 v1)
set_option maxRecDepth 20000 in
set_option maxHeartbeats 4000000 in
theorem w_X5_settleShortest_35_b157 {F : Nat} {q : (Int32 × Zs)} {S : Zs} {rc45 : Zs → Int32 → Int32 → Int32 → Option (Int32 × Zs)} {x1 : Int32} {x2 : Int32} {x3 : Int32} {ls : Array Slot} {H : Heap} {locs : List Loc} (C : zC p s m args meth c cX5_settleShortest 5 RX5 none) (hrc45 : ∀ (S : Zs) (x1 : Int32) (x2 : Int32) (x3 : Int32) (H : Heap) (locs : List Loc) (ls : Array Slot), rc45 S x1 x2 x3 = some q → zW (xG D cs ad) s S H locs → lv_has ls 5 [(0, .ref (ad 35)), (1, .int x1), (2, .int x2), (3, .int x3)] → W p l e (zR 3 75) s m args below meth c H locs 0 0 (zQv (xG D cs ad) q below args s) (F0 m 45 ls [])) (h : n_X5_settleShortest_35_b157 F rc45 S x1 x2 x3 = some q) (hW : zW (xG D cs ad) s S H locs) (hl : lv_has ls 5 [(0, .ref (ad 35)), (1, .int x1), (2, .int x2), (3, .int x3)]) : W p l e (zR 3 75) s m args below meth c H locs 0 0 (zQv (xG D cs ad) q below args s) (F0 m 157 ls []) := by
  unfold n_X5_settleShortest_35_b157 at h
  obtain ⟨hx, hb, hml, hown, hts, hret, hlk⟩ := id C
  obtain ⟨v1, ev1, h⟩ := zz_name h
  refine lv_iinc (v := v1) (lv' := [(3, .int v1), (0, .ref (ad 35)), (1, .int x1), (2, .int x2)]) hx hb dX5_settleShortest_157 hl (k := 3) rfl ev1.symm (by decide) rfl (fun ls hl => ?_)
  refine lv_goto (tgt := 45) hx hb dX5_settleShortest_160 (by decide) ?_
  exact hrc45 _ _ _ _ _ _ _ h hW (lv_sub hl [1, 2, 3, 0] rfl)
def n_X5_settleShortest_35_b45_l (F : Nat) (rc45 : Zs → Int32 → Int32 → Int32 → Option (Int32 × Zs)) (S : Zs) (x1 : Int32) (x2 : Int32) (x3 : Int32) : Option (Int32 × Zs) :=
  zgf S 706 (fun v1 => if v1 ≤ x3 then (zpf S 708 x1 (fun S2 => n_X5_settleShortest_35_b170 F  S2 x2)) else (zld S 37 2304 x3 (fun v3 => zld S 36 2304 v3 (fun v4 => if v4 = x1 then (zgf S 707 (fun v5 => zld S 37 2304 v5 (fun v6 => zst S 37 2304 x3 v6 (fun S7 => zgf S7 707 (fun v8 => zst S7 37 2304 v8 v3 (fun S9 => zgf S9 707 (fun v10 => zpf S9 707 (v10 + (1 : Int32)) (fun S11 => zlet (v3 / (24 : Int32)) (fun v12 => zld S11 38 96 v12 (fun v13 => zcl (n_X0_predicate F S11 v3) (fun v15 S14 => zst S14 38 96 v12 (v13 ||| ((1 : Int32) <<< (v15 &&& 31))) (fun S16 => zcl (n_X0_form F S16 v3) (fun v18 S17 => zcl (n_X0_predicate F S17 v3) (fun v20 S19 => zlet (((24 : Int32) * v18) + v20) (fun v21 => zld S19 39 96 v21 (fun v22 => zcl (n_X0_subject F S19 v3) (fun v24 S23 => zst S23 39 96 v21 (v22 ||| ((1 : Int32) <<< (v24 &&& 31))) (fun S25 => n_X5_settleShortest_35_b157 F rc45 S25 x1 x2 x3)))))))))))))))))) else (n_X5_settleShortest_35_b157 F rc45 S x1 x2 x3)))))
set_option maxRecDepth 20000 in
set_option maxHeartbeats 4000000 in
theorem w_X5_settleShortest_35_b45_l {F : Nat} {q : (Int32 × Zs)} {S : Zs} {rc45 : Zs → Int32 → Int32 → Int32 → Option (Int32 × Zs)} {x1 : Int32} {x2 : Int32} {x3 : Int32} {ls : Array Slot} {H : Heap} {locs : List Loc} (C : zC p s m args meth c cX5_settleShortest 5 RX5 none) (hrc45 : ∀ (S : Zs) (x1 : Int32) (x2 : Int32) (x3 : Int32) (H : Heap) (locs : List Loc) (ls : Array Slot), rc45 S x1 x2 x3 = some q → zW (xG D cs ad) s S H locs → lv_has ls 5 [(0, .ref (ad 35)), (1, .int x1), (2, .int x2), (3, .int x3)] → W p l e (zR 3 75) s m args below meth c H locs 0 0 (zQv (xG D cs ad) q below args s) (F0 m 45 ls [])) (h : n_X5_settleShortest_35_b45_l F rc45 S x1 x2 x3 = some q) (hW : zW (xG D cs ad) s S H locs) (hl : lv_has ls 5 [(0, .ref (ad 35)), (1, .int x1), (2, .int x2), (3, .int x3)]) : W p l e (zR 3 75) s m args below meth c H locs 0 0 (zQv (xG D cs ad) q below args s) (F0 m 45 ls []) := by
  unfold n_X5_settleShortest_35_b45_l at h
  obtain ⟨hx, hb, hml, hown, hts, hret, hlk⟩ := id C
  refine lv_iload_n hx hb dX5_settleShortest_45 rfl (lv_at hl 3 rfl) ?_
  refine lv_aload_n hx hb dX5_settleShortest_46 rfl (lv_at hl 0 rfl) ?_
  refine xg_35_6 C hW h fl_X5_57 dX5_settleShortest_47 (fun v1 h => ?_)
  refine zz_cge (tgt := 163) C h dX5_settleShortest_50 (by decide) (fun h => ?_) (fun h => ?_)
  · refine lv_aload_n hx hb dX5_settleShortest_163 rfl (lv_at hl 0 rfl) ?_
    refine lv_iload_n hx hb dX5_settleShortest_164 rfl (lv_at hl 1 rfl) ?_
    refine xp_35_8 C hW h fl_X5_77 dX5_settleShortest_165 (fun S2 H locs h hW => ?_)
    refine lv_iload_n hx hb dX5_settleShortest_168 rfl (lv_at hl 2 rfl) ?_
    refine lv_istore_n (lv' := [(3, .int x2), (0, .ref (ad 35)), (1, .int x1), (2, .int x2)]) hx hb dX5_settleShortest_169 rfl hl (by decide) rfl (fun ls hl => ?_)
    exact w_X5_settleShortest_35_b170 (F := F) C F _ _ _ _ _ h hW (lv_sub hl [1, 0] rfl)
  · refine lv_aload_n hx hb dX5_settleShortest_53 rfl (lv_at hl 0 rfl) ?_
    refine xg_35_2 C hW fl_X5_15 dX5_settleShortest_54 ?_
    refine lv_iload_n hx hb dX5_settleShortest_57 rfl (lv_at hl 3 rfl) ?_
    refine xl_37 C hW h dX5_settleShortest_58 (fun v3 h => ?_)
    refine lv_istore (lv' := [(4, .int v3), (0, .ref (ad 35)), (1, .int x1), (2, .int x2), (3, .int x3)]) hx hb dX5_settleShortest_59 hl (by decide) rfl (fun ls hl => ?_)
    refine lv_aload_n hx hb dX5_settleShortest_61 rfl (lv_at hl 1 rfl) ?_
    refine xg_35_1 C hW fl_X5_9 dX5_settleShortest_62 ?_
    refine lv_iload hx hb dX5_settleShortest_65 (lv_at hl 0 rfl) ?_
    refine xl_36 C hW h dX5_settleShortest_67 (fun v4 h => ?_)
    refine lv_iload_n hx hb dX5_settleShortest_68 rfl (lv_at hl 2 rfl) ?_
    refine zz_cne (tgt := 157) C h dX5_settleShortest_69 (by decide) (fun h => ?_) (fun h => ?_)
    · exact w_X5_settleShortest_35_b157 (F := F) C hrc45 h hW (lv_sub hl [1, 2, 3, 4] rfl)
    · refine lv_aload_n hx hb dX5_settleShortest_72 rfl (lv_at hl 1 rfl) ?_
      refine xg_35_2 C hW fl_X5_15 dX5_settleShortest_73 ?_
      refine lv_iload_n hx hb dX5_settleShortest_76 rfl (lv_at hl 4 rfl) ?_
      refine lv_aload_n hx hb dX5_settleShortest_77 rfl (lv_at hl 1 rfl) ?_
      refine xg_35_2 C hW fl_X5_15 dX5_settleShortest_78 ?_
      refine lv_aload_n hx hb dX5_settleShortest_81 rfl (lv_at hl 1 rfl) ?_
      refine xg_35_7 C hW h fl_X5_74 dX5_settleShortest_82 (fun v5 h => ?_)
      refine xl_37 C hW h dX5_settleShortest_85 (fun v6 h => ?_)
      refine xs_37 C hW h dX5_settleShortest_86 (fun S7 H locs h hW => ?_)
      refine lv_aload_n hx hb dX5_settleShortest_87 rfl (lv_at hl 1 rfl) ?_
      refine xg_35_2 C hW fl_X5_15 dX5_settleShortest_88 ?_
      refine lv_aload_n hx hb dX5_settleShortest_91 rfl (lv_at hl 1 rfl) ?_
      refine xg_35_7 C hW h fl_X5_74 dX5_settleShortest_92 (fun v8 h => ?_)
      refine lv_iload hx hb dX5_settleShortest_95 (lv_at hl 0 rfl) ?_
      refine xs_37 C hW h dX5_settleShortest_97 (fun S9 H locs h hW => ?_)
      refine lv_aload_n hx hb dX5_settleShortest_98 rfl (lv_at hl 1 rfl) ?_
      refine lv_dup hx hb dX5_settleShortest_99 rfl ?_
      refine xg_35_7 C hW h fl_X5_74 dX5_settleShortest_100 (fun v10 h => ?_)
      refine lv_iconst (v := 1) hx hb dX5_settleShortest_103 (by decide) ?_
      refine lv_iadd hx hb dX5_settleShortest_104 ?_
      refine xp_35_7 C hW h fl_X5_74 dX5_settleShortest_105 (fun S11 H locs h hW => ?_)
      refine lv_aload_n hx hb dX5_settleShortest_108 rfl (lv_at hl 1 rfl) ?_
      refine xg_35_3 C hW fl_X5_18 dX5_settleShortest_109 ?_
      refine lv_iload hx hb dX5_settleShortest_112 (lv_at hl 0 rfl) ?_
      refine lv_bipush (v := 24) hx hb dX5_settleShortest_114 (by decide) ?_
      refine lv_idiv hx hb dX5_settleShortest_116 (by decide) ?_
      refine zz_leti h (fun v12 h => ?_)
      refine lv_dup2_11 hx hb dX5_settleShortest_117 rfl rfl ?_
      refine xl_38 C hW h dX5_settleShortest_118 (fun v13 h => ?_)
      refine lv_iconst (v := 1) hx hb dX5_settleShortest_119 (by decide) ?_
      refine lv_iload hx hb dX5_settleShortest_120 (lv_at hl 0 rfl) ?_
      refine zz_callSi (As := [.int v3]) C hW h (fun r hr => c_X0_predicate hr) lk_X5_89 rfl hl.1 ⟨rfl, rfl⟩ ⟨Nat.le_of_ble_eq_true rfl, Nat.le_of_ble_eq_true rfl⟩ (Nat.le_of_ble_eq_true rfl) ⟨Nat.zero_le _, Nat.zero_le _⟩ rfl dX5_settleShortest_122 (fun v15 S14 H locs h hW => ?_)
      refine lv_ishl hx hb dX5_settleShortest_125 ?_
      refine lv_ior hx hb dX5_settleShortest_126 ?_
      refine xs_38 C hW h dX5_settleShortest_127 (fun S16 H locs h hW => ?_)
      refine lv_aload_n hx hb dX5_settleShortest_128 rfl (lv_at hl 1 rfl) ?_
      refine xg_35_4 C hW fl_X5_21 dX5_settleShortest_129 ?_
      refine lv_bipush (v := 24) hx hb dX5_settleShortest_132 (by decide) ?_
      refine lv_iload hx hb dX5_settleShortest_134 (lv_at hl 0 rfl) ?_
      refine zz_callSi (As := [.int v3]) C hW h (fun r hr => c_X0_form hr) lk_X5_95 rfl hl.1 ⟨rfl, rfl⟩ ⟨Nat.le_of_ble_eq_true rfl, Nat.le_of_ble_eq_true rfl⟩ (Nat.le_of_ble_eq_true rfl) ⟨Nat.zero_le _, Nat.zero_le _⟩ rfl dX5_settleShortest_136 (fun v18 S17 H locs h hW => ?_)
      refine lv_imul hx hb dX5_settleShortest_139 ?_
      refine lv_iload hx hb dX5_settleShortest_140 (lv_at hl 0 rfl) ?_
      refine zz_callSi (As := [.int v3]) C hW h (fun r hr => c_X0_predicate hr) lk_X5_89 rfl hl.1 ⟨rfl, rfl⟩ ⟨Nat.le_of_ble_eq_true rfl, Nat.le_of_ble_eq_true rfl⟩ (Nat.le_of_ble_eq_true rfl) ⟨Nat.zero_le _, Nat.zero_le _⟩ rfl dX5_settleShortest_142 (fun v20 S19 H locs h hW => ?_)
      refine lv_iadd hx hb dX5_settleShortest_145 ?_
      refine zz_leti h (fun v21 h => ?_)
      refine lv_dup2_11 hx hb dX5_settleShortest_146 rfl rfl ?_
      refine xl_39 C hW h dX5_settleShortest_147 (fun v22 h => ?_)
      refine lv_iconst (v := 1) hx hb dX5_settleShortest_148 (by decide) ?_
      refine lv_iload hx hb dX5_settleShortest_149 (lv_at hl 0 rfl) ?_
      refine zz_callSi (As := [.int v3]) C hW h (fun r hr => c_X0_subject hr) lk_X5_98 rfl hl.1 ⟨rfl, rfl⟩ ⟨Nat.le_of_ble_eq_true rfl, Nat.le_of_ble_eq_true rfl⟩ (Nat.le_of_ble_eq_true rfl) ⟨Nat.zero_le _, Nat.zero_le _⟩ rfl dX5_settleShortest_151 (fun v24 S23 H locs h hW => ?_)
      refine lv_ishl hx hb dX5_settleShortest_154 ?_
      refine lv_ior hx hb dX5_settleShortest_155 ?_
      refine xs_39 C hW h dX5_settleShortest_156 (fun S25 H locs h hW => ?_)
      exact w_X5_settleShortest_35_b157 (F := F) C hrc45 h hW (lv_sub hl [1, 2, 3, 4] rfl)
def n_X5_settleShortest_35_b45 (F : Nat)  (S : Zs) (x1 : Int32) (x2 : Int32) (x3 : Int32) : Option (Int32 × Zs) :=
  zfix (fun (rc : (Zs × Int32 × Int32 × Int32) → Option (Int32 × Zs)) (u : (Zs × Int32 × Int32 × Int32)) => n_X5_settleShortest_35_b45_l F  (fun S x1 x2 x3 => rc (S, x1, x2, x3)) u.1 u.2.1 u.2.2.1 u.2.2.2) F (S, x1, x2, x3)
theorem w_X5_settleShortest_35_b45 {F : Nat} {q : (Int32 × Zs)}  (C : zC p s m args meth c cX5_settleShortest 5 RX5 none)  : ∀ (n : Nat) (S : Zs) (x1 : Int32) (x2 : Int32) (x3 : Int32) (H : Heap) (locs : List Loc) (ls : Array Slot), zfix (fun (rc : (Zs × Int32 × Int32 × Int32) → Option (Int32 × Zs)) (u : (Zs × Int32 × Int32 × Int32)) => n_X5_settleShortest_35_b45_l F  (fun S x1 x2 x3 => rc (S, x1, x2, x3)) u.1 u.2.1 u.2.2.1 u.2.2.2) n (S, x1, x2, x3) = some q → zW (xG D cs ad) s S H locs → lv_has ls 5 [(0, .ref (ad 35)), (1, .int x1), (2, .int x2), (3, .int x3)] → W p l e (zR 3 75) s m args below meth c H locs 0 0 (zQv (xG D cs ad) q below args s) (F0 m 45 ls []) := by
  intro n
  induction n with
  | zero => intro S x1 x2 x3 H locs ls h; exact absurd h (fun h => by cases h)
  | succ n ih => intro S x1 x2 x3 H locs ls h hW hl; exact w_X5_settleShortest_35_b45_l (F := F) C (fun S x1 x2 x3 H locs ls h hW hl => ih S x1 x2 x3 H locs ls h hW hl) h hW hl
def n_X5_settleShortest_35_b8_l (F : Nat) (rc8 : Zs → Int32 → Int32 → Option (Int32 × Zs)) (S : Zs) (x1 : Int32) (x2 : Int32) : Option (Int32 × Zs) :=
  zgf S 706 (fun v1 => if v1 ≤ x2 then (zgf S 707 (fun v2 => n_X5_settleShortest_35_b45 F  S x1 v2 v2)) else (zld S 37 2304 x2 (fun v3 => zld S 36 2304 v3 (fun v4 => zlet (if v4 < x1 then v4 else x1) (fun v5 => zlet (x2 + (1 : Int32)) (fun v6 => rc8 S v5 v6))))))
set_option maxRecDepth 20000 in
set_option maxHeartbeats 4000000 in
theorem w_X5_settleShortest_35_b8_l {F : Nat} {q : (Int32 × Zs)} {S : Zs} {rc8 : Zs → Int32 → Int32 → Option (Int32 × Zs)} {x1 : Int32} {x2 : Int32} {ls : Array Slot} {H : Heap} {locs : List Loc} (C : zC p s m args meth c cX5_settleShortest 5 RX5 none) (hrc8 : ∀ (S : Zs) (x1 : Int32) (x2 : Int32) (H : Heap) (locs : List Loc) (ls : Array Slot), rc8 S x1 x2 = some q → zW (xG D cs ad) s S H locs → lv_has ls 5 [(0, .ref (ad 35)), (1, .int x1), (2, .int x2)] → W p l e (zR 3 75) s m args below meth c H locs 0 0 (zQv (xG D cs ad) q below args s) (F0 m 8 ls [])) (h : n_X5_settleShortest_35_b8_l F rc8 S x1 x2 = some q) (hW : zW (xG D cs ad) s S H locs) (hl : lv_has ls 5 [(0, .ref (ad 35)), (1, .int x1), (2, .int x2)]) : W p l e (zR 3 75) s m args below meth c H locs 0 0 (zQv (xG D cs ad) q below args s) (F0 m 8 ls []) := by
  unfold n_X5_settleShortest_35_b8_l at h
  obtain ⟨hx, hb, hml, hown, hts, hret, hlk⟩ := id C
  refine lv_iload_n hx hb dX5_settleShortest_8 rfl (lv_at hl 2 rfl) ?_
  refine lv_aload_n hx hb dX5_settleShortest_9 rfl (lv_at hl 0 rfl) ?_
  refine xg_35_6 C hW h fl_X5_57 dX5_settleShortest_10 (fun v1 h => ?_)
  refine zz_cge (tgt := 38) C h dX5_settleShortest_13 (by decide) (fun h => ?_) (fun h => ?_)
  · refine lv_aload_n hx hb dX5_settleShortest_38 rfl (lv_at hl 0 rfl) ?_
    refine xg_35_7 C hW h fl_X5_74 dX5_settleShortest_39 (fun v2 h => ?_)
    refine lv_istore_n (lv' := [(2, .int v2), (0, .ref (ad 35)), (1, .int x1)]) hx hb dX5_settleShortest_42 rfl hl (by decide) rfl (fun ls hl => ?_)
    refine lv_iload_n hx hb dX5_settleShortest_43 rfl (lv_at hl 0 rfl) ?_
    refine lv_istore_n (lv' := [(3, .int v2), (2, .int v2), (0, .ref (ad 35)), (1, .int x1)]) hx hb dX5_settleShortest_44 rfl hl (by decide) rfl (fun ls hl => ?_)
    exact w_X5_settleShortest_35_b45 (F := F) C F _ _ _ _ _ _ _ h hW (lv_sub hl [2, 3, 1, 0] rfl)
  · refine lv_iload_n hx hb dX5_settleShortest_16 rfl (lv_at hl 1 rfl) ?_
    refine lv_aload_n hx hb dX5_settleShortest_17 rfl (lv_at hl 0 rfl) ?_
    refine xg_35_1 C hW fl_X5_9 dX5_settleShortest_18 ?_
    refine lv_aload_n hx hb dX5_settleShortest_21 rfl (lv_at hl 0 rfl) ?_
    refine xg_35_2 C hW fl_X5_15 dX5_settleShortest_22 ?_
    refine lv_iload_n hx hb dX5_settleShortest_25 rfl (lv_at hl 2 rfl) ?_
    refine xl_37 C hW h dX5_settleShortest_26 (fun v3 h => ?_)
    refine xl_36 C hW h dX5_settleShortest_27 (fun v4 h => ?_)
    refine va_mmin hx hb (hml.trans hl.1.symm) hown (hts _ lkm_X5_83) (hts _ sm_min) (hts _ it_Math) (hts _ cd_min) (Nat.le_of_ble_eq_true rfl) (Nat.le_of_ble_eq_true rfl) (Nat.zero_le _) (Nat.zero_le _) dX5_settleShortest_28 ?_
    refine zz_leti h (fun v5 h => ?_)
    refine lv_istore_n (lv' := [(1, .int v5), (0, .ref (ad 35)), (2, .int x2)]) hx hb dX5_settleShortest_31 rfl hl (by decide) rfl (fun ls hl => ?_)
    obtain ⟨v6, ev6, h⟩ := zz_name h
    refine lv_iinc (v := v6) (lv' := [(2, .int v6), (1, .int v5), (0, .ref (ad 35))]) hx hb dX5_settleShortest_32 hl (k := 2) rfl ev6.symm (by decide) rfl (fun ls hl => ?_)
    refine lv_goto (tgt := 8) hx hb dX5_settleShortest_35 (by decide) ?_
    exact hrc8 _ _ _ _ _ _ h hW (lv_sub hl [2, 1, 0] rfl)
def n_X5_settleShortest_35_b8 (F : Nat)  (S : Zs) (x1 : Int32) (x2 : Int32) : Option (Int32 × Zs) :=
  zfix (fun (rc : (Zs × Int32 × Int32) → Option (Int32 × Zs)) (u : (Zs × Int32 × Int32)) => n_X5_settleShortest_35_b8_l F  (fun S x1 x2 => rc (S, x1, x2)) u.1 u.2.1 u.2.2) F (S, x1, x2)
theorem w_X5_settleShortest_35_b8 {F : Nat} {q : (Int32 × Zs)}  (C : zC p s m args meth c cX5_settleShortest 5 RX5 none)  : ∀ (n : Nat) (S : Zs) (x1 : Int32) (x2 : Int32) (H : Heap) (locs : List Loc) (ls : Array Slot), zfix (fun (rc : (Zs × Int32 × Int32) → Option (Int32 × Zs)) (u : (Zs × Int32 × Int32)) => n_X5_settleShortest_35_b8_l F  (fun S x1 x2 => rc (S, x1, x2)) u.1 u.2.1 u.2.2) n (S, x1, x2) = some q → zW (xG D cs ad) s S H locs → lv_has ls 5 [(0, .ref (ad 35)), (1, .int x1), (2, .int x2)] → W p l e (zR 3 75) s m args below meth c H locs 0 0 (zQv (xG D cs ad) q below args s) (F0 m 8 ls []) := by
  intro n
  induction n with
  | zero => intro S x1 x2 H locs ls h; exact absurd h (fun h => by cases h)
  | succ n ih => intro S x1 x2 H locs ls h hW hl; exact w_X5_settleShortest_35_b8_l (F := F) C (fun S x1 x2 H locs ls h hW hl => ih S x1 x2 H locs ls h hW hl) h hW hl
def n_X5_settleShortest_35_e (F : Nat)  (S : Zs)  : Option (Int32 × Zs) :=
  zgf S 707 (fun v1 => n_X5_settleShortest_35_b8 F  S (268435456 : Int32) v1)
set_option maxRecDepth 20000 in
set_option maxHeartbeats 4000000 in
theorem w_X5_settleShortest_35_e {F : Nat} {q : (Int32 × Zs)} {S : Zs}   {ls : Array Slot} {H : Heap} {locs : List Loc} (C : zC p s m args meth c cX5_settleShortest 5 RX5 none)  (h : n_X5_settleShortest_35_e F  S  = some q) (hW : zW (xG D cs ad) s S H locs) (hl : lv_has ls 5 [(0, .ref (ad 35))]) : W p l e (zR 3 75) s m args below meth c H locs 0 0 (zQv (xG D cs ad) q below args s) (F0 m 0 ls []) := by
  unfold n_X5_settleShortest_35_e at h
  obtain ⟨hx, hb, hml, hown, hts, hret, hlk⟩ := id C
  refine lv_ldc (v := 268435456) hx hb hown (hts _ ct_X5_38) dX5_settleShortest_0 ?_
  refine lv_istore_n (lv' := [(1, .int (268435456 : Int32)), (0, .ref (ad 35))]) hx hb dX5_settleShortest_2 rfl hl (by decide) rfl (fun ls hl => ?_)
  refine lv_aload_n hx hb dX5_settleShortest_3 rfl (lv_at hl 1 rfl) ?_
  refine xg_35_7 C hW h fl_X5_74 dX5_settleShortest_4 (fun v1 h => ?_)
  refine lv_istore_n (lv' := [(2, .int v1), (1, .int (268435456 : Int32)), (0, .ref (ad 35))]) hx hb dX5_settleShortest_7 rfl hl (by decide) rfl (fun ls hl => ?_)
  exact w_X5_settleShortest_35_b8 (F := F) C F _ _ _ _ _ _ h hW (lv_sub hl [2, 1, 0] rfl)
def n_X5_settleShortest_35 (F : Nat) (S : Zs)  : Option (Int32 × Zs) := n_X5_settleShortest_35_e F  S 
theorem c_X5_settleShortest_35 {l : Launch} {D : va_G} {cs ad : Nat → Nat} {F : Nat} {S : Zs}  {q : (Int32 × Zs)} (h : n_X5_settleShortest_35 F S  = some q) : zMv l yX5_settleShortest cX5_settleShortest 5 none (zR 3 75) (xG D cs ad) [.ref (ad 35)] S q :=
  zz_enter (by decide) (Nat.le_of_ble_eq_true rfl) (fun p e s m below meth c ls C hW hl => w_X5_settleShortest_35_e (F := F) C h hW (lv_sub hl [0] rfl))
end ZM
