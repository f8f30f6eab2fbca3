section ZM
variable {p : Program} {l : Launch} {e : Env} {s : State} {m : MethodId} {args : Array Value} {below : List Frame} {meth : Method} {c : Code} {D : va_G} {cs ad : Nat → Nat}
def n_X12_count_0_e (F : Nat)  (S : Zs) (x1 : Int32) : Option (Int32 × Zs) :=
  zpf S 0 (0 : Int32) (fun S1 => if x1 = (0 : Int32) then (zgf S1 3 (fun v2 => some (v2, S1))) else (if x1 = (1 : Int32) then (zgf S1 9 (fun v3 => some (v3, S1))) else (if x1 = (2 : Int32) then (zgf S1 8 (fun v4 => some (v4, S1))) else (if x1 = (3 : Int32) then (zgf S1 11 (fun v5 => some (v5, S1))) else (if x1 = (4 : Int32) then (zgf S1 35 (fun v6 => some (v6, S1))) else (if x1 = (5 : Int32) then (zcl (n_X12_standing_0 F S1 ) (fun v8 S7 => some (v8, S7))) else (if x1 = (6 : Int32) then (zgf S1 1 (fun v9 => some (v9, S1))) else (if x1 = (7 : Int32) then (zgf S1 13 (fun v10 => some (v10, S1))) else (some ((-1 : Int32), S1))))))))))
set_option maxRecDepth 20000 in
set_option maxHeartbeats 4000000 in
theorem w_X12_count_0_e {F : Nat} {q : (Int32 × Zs)} {S : Zs}  {x1 : Int32} {ls : Array Slot} {H : Heap} {locs : List Loc} (C : zC p s m args meth c cX12_count 2 RX12 (some .int))  (h : n_X12_count_0_e F  S x1 = some q) (hW : zW (mG D cs ad) s S H locs) (hl : lv_has ls 2 [(0, .ref (ad 0)), (1, .int x1)]) : W p l e (zR 1 20) s m args below meth c H locs 0 0 (zQi (mG D cs ad) q below args s) (F0 m 0 ls []) := by
  unfold n_X12_count_0_e at h
  obtain ⟨hx, hb, hml, hown, hts, hret, hlk⟩ := id C
  refine lv_aload_n hx hb dX12_count_0 rfl (lv_at hl 0 rfl) ?_
  refine lv_iconst (v := 0) hx hb dX12_count_1 (by decide) ?_
  refine mp_0_0 C hW h fl_X12_3 dX12_count_2 (fun S1 H locs h hW => ?_)
  refine lv_iload_n hx hb dX12_count_5 rfl (lv_at hl 1 rfl) ?_
  by_cases e0 : x1 = (0 : Int32)
  · replace h := (zz_if h).1 e0
    refine lv_tableIn (off := 46) (tgt := 52) hx hb dX12_count_6 (by rw [e0]; decide) (by rw [e0]; decide) (by rw [e0]; rfl) (by decide) ?_
    refine lv_aload_n hx hb dX12_count_52 rfl (lv_at hl 0 rfl) ?_
    refine mg_0_3 C hW h fl_X12_105 dX12_count_53 (fun v2 h => ?_)
    exact zz_iret C rfl h hW dX12_count_56
  · replace h := (zz_if h).2 e0
    by_cases e1 : x1 = (1 : Int32)
    · replace h := (zz_if h).1 e1
      refine lv_tableIn (off := 51) (tgt := 57) hx hb dX12_count_6 (by rw [e1]; decide) (by rw [e1]; decide) (by rw [e1]; rfl) (by decide) ?_
      refine lv_aload_n hx hb dX12_count_57 rfl (lv_at hl 0 rfl) ?_
      refine mg_0_9 C hW h fl_X12_145 dX12_count_58 (fun v3 h => ?_)
      exact zz_iret C rfl h hW dX12_count_61
    · replace h := (zz_if h).2 e1
      by_cases e2 : x1 = (2 : Int32)
      · replace h := (zz_if h).1 e2
        refine lv_tableIn (off := 56) (tgt := 62) hx hb dX12_count_6 (by rw [e2]; decide) (by rw [e2]; decide) (by rw [e2]; rfl) (by decide) ?_
        refine lv_aload_n hx hb dX12_count_62 rfl (lv_at hl 0 rfl) ?_
        refine mg_0_8 C hW h fl_X12_139 dX12_count_63 (fun v4 h => ?_)
        exact zz_iret C rfl h hW dX12_count_66
      · replace h := (zz_if h).2 e2
        by_cases e3 : x1 = (3 : Int32)
        · replace h := (zz_if h).1 e3
          refine lv_tableIn (off := 61) (tgt := 67) hx hb dX12_count_6 (by rw [e3]; decide) (by rw [e3]; decide) (by rw [e3]; rfl) (by decide) ?_
          refine lv_aload_n hx hb dX12_count_67 rfl (lv_at hl 0 rfl) ?_
          refine mg_0_11 C hW h fl_X12_348 dX12_count_68 (fun v5 h => ?_)
          exact zz_iret C rfl h hW dX12_count_71
        · replace h := (zz_if h).2 e3
          by_cases e4 : x1 = (4 : Int32)
          · replace h := (zz_if h).1 e4
            refine lv_tableIn (off := 66) (tgt := 72) hx hb dX12_count_6 (by rw [e4]; decide) (by rw [e4]; decide) (by rw [e4]; rfl) (by decide) ?_
            refine lv_aload_n hx hb dX12_count_72 rfl (lv_at hl 0 rfl) ?_
            refine mg_0_35 C hW h fl_X12_444 dX12_count_73 (fun v6 h => ?_)
            exact zz_iret C rfl h hW dX12_count_76
          · replace h := (zz_if h).2 e4
            by_cases e5 : x1 = (5 : Int32)
            · replace h := (zz_if h).1 e5
              refine lv_tableIn (off := 71) (tgt := 77) hx hb dX12_count_6 (by rw [e5]; decide) (by rw [e5]; decide) (by rw [e5]; rfl) (by decide) ?_
              refine lv_aload_n hx hb dX12_count_77 rfl (lv_at hl 0 rfl) ?_
              refine zz_callVi (As := []) C hW h (fun r hr => c_X12_standing_0 hr) lk_X12_206 (hW.recv mr_0) rfl hl.1 ⟨rfl, rfl⟩ ⟨Nat.le_of_ble_eq_true rfl, Nat.le_of_ble_eq_true rfl⟩ (Nat.le_of_ble_eq_true rfl) ⟨Nat.zero_le _, Nat.zero_le _⟩ rfl dX12_count_78 (fun v8 S7 H locs h hW => ?_)
              exact zz_iret C rfl h hW dX12_count_81
            · replace h := (zz_if h).2 e5
              by_cases e6 : x1 = (6 : Int32)
              · replace h := (zz_if h).1 e6
                refine lv_tableIn (off := 76) (tgt := 82) hx hb dX12_count_6 (by rw [e6]; decide) (by rw [e6]; decide) (by rw [e6]; rfl) (by decide) ?_
                refine lv_aload_n hx hb dX12_count_82 rfl (lv_at hl 0 rfl) ?_
                refine mg_0_1 C hW h fl_X12_11 dX12_count_83 (fun v9 h => ?_)
                exact zz_iret C rfl h hW dX12_count_86
              · replace h := (zz_if h).2 e6
                by_cases e7 : x1 = (7 : Int32)
                · replace h := (zz_if h).1 e7
                  refine lv_tableIn (off := 81) (tgt := 87) hx hb dX12_count_6 (by rw [e7]; decide) (by rw [e7]; decide) (by rw [e7]; rfl) (by decide) ?_
                  refine lv_aload_n hx hb dX12_count_87 rfl (lv_at hl 0 rfl) ?_
                  refine mg_0_13 C hW h fl_X12_34 dX12_count_88 (fun v10 h => ?_)
                  exact zz_iret C rfl h hW dX12_count_91
                · replace h := (zz_if h).2 e7
                  refine lv_tableOut (tgt := 92) hx hb dX12_count_6 (zsw_out (fun k h1 h2 => by rcases (show k = 0 ∨ k = 1 ∨ k = 2 ∨ k = 3 ∨ k = 4 ∨ k = 5 ∨ k = 6 ∨ k = 7 by omega) with rfl | rfl | rfl | rfl | rfl | rfl | rfl | rfl <;> first | exact e0 | exact e1 | exact e2 | exact e3 | exact e4 | exact e5 | exact e6 | exact e7)) (by decide) ?_
                  refine lv_iconst (v := -1) hx hb dX12_count_92 (by decide) ?_
                  exact zz_iret C rfl h hW dX12_count_93
def n_X12_count_0 (F : Nat) (S : Zs) (x1 : Int32) : Option (Int32 × Zs) := n_X12_count_0_e F  S x1
theorem c_X12_count_0 {l : Launch} {D : va_G} {cs ad : Nat → Nat} {F : Nat} {S : Zs} {x1 : Int32} {q : (Int32 × Zs)} (h : n_X12_count_0 F S x1 = some q) : zMi l yX12_count cX12_count 2 (some .int) (zR 1 20) (mG D cs ad) [.ref (ad 0), .int x1] S q :=
  zz_enter (by decide) (Nat.le_of_ble_eq_true rfl) (fun p e s m below meth c ls C hW hl => w_X12_count_0_e (F := F) C h hW (lv_sub hl [0, 1] rfl))
def n_X12_row_0_e (F : Nat)  (S : Zs) (x1 : Int32) : Option (Int32 × Zs) :=
  zpf S 0 (0 : Int32) (fun S1 => zgf S1 1 (fun v2 => zcl (n_X12_in F S1 (x1.toInt64) (0 : Int64) ((v2 - (1 : Int32)).toInt64)) (fun v4 S3 => if v4 = 0 then (zpf S3 0 (1 : Int32) (fun S6 => some ((0 : Int32), S6))) else (zld S3 1 32 x1 (fun v5 => some (v5, S3))))))
set_option maxRecDepth 20000 in
set_option maxHeartbeats 4000000 in
theorem w_X12_row_0_e {F : Nat} {q : (Int32 × Zs)} {S : Zs}  {x1 : Int32} {ls : Array Slot} {H : Heap} {locs : List Loc} (C : zC p s m args meth c cX12_row 2 RX12 (some .int))  (h : n_X12_row_0_e F  S x1 = some q) (hW : zW (mG D cs ad) s S H locs) (hl : lv_has ls 2 [(0, .ref (ad 0)), (1, .int x1)]) : W p l e (zR 1 25) s m args below meth c H locs 0 0 (zQi (mG D cs ad) q below args s) (F0 m 0 ls []) := by
  unfold n_X12_row_0_e at h
  obtain ⟨hx, hb, hml, hown, hts, hret, hlk⟩ := id C
  refine lv_aload_n hx hb dX12_row_0 rfl (lv_at hl 0 rfl) ?_
  refine lv_iconst (v := 0) hx hb dX12_row_1 (by decide) ?_
  refine mp_0_0 C hW h fl_X12_3 dX12_row_2 (fun S1 H locs h hW => ?_)
  refine lv_iload_n hx hb dX12_row_5 rfl (lv_at hl 1 rfl) ?_
  refine lv_i2l hx hb dX12_row_6 rfl ?_
  refine lv_lconst (v := 0) hx hb dX12_row_7 (by decide) ?_
  refine lv_aload_n hx hb dX12_row_8 rfl (lv_at hl 0 rfl) ?_
  refine mg_0_1 C hW h fl_X12_11 dX12_row_9 (fun v2 h => ?_)
  refine lv_iconst (v := 1) hx hb dX12_row_12 (by decide) ?_
  refine lv_isub hx hb dX12_row_13 ?_
  refine lv_i2l hx hb dX12_row_14 rfl ?_
  refine zz_callSi (As := [.long (x1.toInt64), .long (0 : Int64), .long ((v2 - (1 : Int32)).toInt64)]) C hW h (fun r hr => c_X12_in hr) lk_X12_16 rfl hl.1 ⟨rfl, rfl⟩ ⟨Nat.le_of_ble_eq_true rfl, Nat.le_of_ble_eq_true rfl⟩ (Nat.le_of_ble_eq_true rfl) ⟨Nat.zero_le _, Nat.zero_le _⟩ rfl dX12_row_15 (fun v4 S3 H locs h hW => ?_)
  refine zz_ine (tgt := 28) C h dX12_row_18 (by decide) (fun h => ?_) (fun h => ?_)
  · refine lv_aload_n hx hb dX12_row_28 rfl (lv_at hl 0 rfl) ?_
    refine mg_0_2 C hW fl_X12_7 dX12_row_29 ?_
    refine lv_iload_n hx hb dX12_row_32 rfl (lv_at hl 1 rfl) ?_
    refine ml_1 C hW h dX12_row_33 (fun v5 h => ?_)
    exact zz_iret C rfl h hW dX12_row_34
  · refine lv_aload_n hx hb dX12_row_21 rfl (lv_at hl 0 rfl) ?_
    refine lv_iconst (v := 1) hx hb dX12_row_22 (by decide) ?_
    refine mp_0_0 C hW h fl_X12_3 dX12_row_23 (fun S6 H locs h hW => ?_)
    refine lv_iconst (v := 0) hx hb dX12_row_26 (by decide) ?_
    exact zz_iret C rfl h hW dX12_row_27
def n_X12_row_0 (F : Nat) (S : Zs) (x1 : Int32) : Option (Int32 × Zs) := n_X12_row_0_e F  S x1
theorem c_X12_row_0 {l : Launch} {D : va_G} {cs ad : Nat → Nat} {F : Nat} {S : Zs} {x1 : Int32} {q : (Int32 × Zs)} (h : n_X12_row_0 F S x1 = some q) : zMi l yX12_row cX12_row 2 (some .int) (zR 1 25) (mG D cs ad) [.ref (ad 0), .int x1] S q :=
  zz_enter (by decide) (Nat.le_of_ble_eq_true rfl) (fun p e s m below meth c ls C hW hl => w_X12_row_0_e (F := F) C h hW (lv_sub hl [0, 1] rfl))
end ZM
