section ZM
variable {p : Program} {l : Launch} {e : Env} {s : State} {m : MethodId} {args : Array Value} {below : List Frame} {meth : Method} {c : Code} {D : va_G} {cs ad : Nat → Nat}
def n_X9_require_18_b39 (F : Nat)  (S : Zs)  : Option (Int32 × Zs) :=
  some (0, S)
set_option maxRecDepth 20000 in
set_option maxHeartbeats 4000000 in
theorem w_X9_require_18_b39 {F : Nat} {q : (Int32 × Zs)} {S : Zs}   {ls : Array Slot} {H : Heap} {locs : List Loc} (C : zC p s m args meth c cX9_require 3 RX9 none)  (h : n_X9_require_18_b39 F  S  = some q) (hW : zW (xG D cs ad) s S H locs) (hl : lv_has ls 3 []) : W p l e (zR 0 0) s m args below meth c H locs 0 0 (zQv (xG D cs ad) q below args s) (F0 m 39 ls []) := by
  unfold n_X9_require_18_b39 at h
  obtain ⟨hx, hb, hml, hown, hts, hret, hlk⟩ := id C
  exact zz_vret C rfl h hW dX9_require_39
def n_X9_require_18_e (F : Nat)  (S : Zs) (x1 : Int32) (x2 : Int32) : Option (Int32 × Zs) :=
  zgf S 363 (fun v1 => if (29 : Int32) ≤ v1 then (n_X9_require_18_b39 F  S ) else (zgf S 363 (fun v2 => zst S 20 29 v2 x1 (fun S3 => zgf S3 363 (fun v4 => zst S3 21 29 v4 x2 (fun S5 => zgf S5 363 (fun v6 => zpf S5 363 (v6 + (1 : Int32)) (fun S7 => n_X9_require_18_b39 F  S7 ))))))))
set_option maxRecDepth 20000 in
set_option maxHeartbeats 4000000 in
theorem w_X9_require_18_e {F : Nat} {q : (Int32 × Zs)} {S : Zs}  {x1 : Int32} {x2 : Int32} {ls : Array Slot} {H : Heap} {locs : List Loc} (C : zC p s m args meth c cX9_require 3 RX9 none)  (h : n_X9_require_18_e F  S x1 x2 = some q) (hW : zW (xG D cs ad) s S H locs) (hl : lv_has ls 3 [(0, .ref (ad 18)), (1, .int x1), (2, .int x2)]) : W p l e (zR 0 0) s m args below meth c H locs 0 0 (zQv (xG D cs ad) q below args s) (F0 m 0 ls []) := by
  unfold n_X9_require_18_e at h
  obtain ⟨hx, hb, hml, hown, hts, hret, hlk⟩ := id C
  refine lv_aload_n hx hb dX9_require_0 rfl (lv_at hl 0 rfl) ?_
  refine xg_18_3 C hW h fl_X9_21 dX9_require_1 (fun v1 h => ?_)
  refine lv_bipush (v := 29) hx hb dX9_require_4 (by decide) ?_
  refine zz_cge (tgt := 39) C h dX9_require_6 (by decide) (fun h => ?_) (fun h => ?_)
  · exact w_X9_require_18_b39 (F := F) C h hW (lv_sub hl [] rfl)
  · refine lv_aload_n hx hb dX9_require_9 rfl (lv_at hl 0 rfl) ?_
    refine xg_18_1 C hW fl_X9_15 dX9_require_10 ?_
    refine lv_aload_n hx hb dX9_require_13 rfl (lv_at hl 0 rfl) ?_
    refine xg_18_3 C hW h fl_X9_21 dX9_require_14 (fun v2 h => ?_)
    refine lv_iload_n hx hb dX9_require_17 rfl (lv_at hl 1 rfl) ?_
    refine xs_20 C hW h dX9_require_18 (fun S3 H locs h hW => ?_)
    refine lv_aload_n hx hb dX9_require_19 rfl (lv_at hl 0 rfl) ?_
    refine xg_18_2 C hW fl_X9_18 dX9_require_20 ?_
    refine lv_aload_n hx hb dX9_require_23 rfl (lv_at hl 0 rfl) ?_
    refine xg_18_3 C hW h fl_X9_21 dX9_require_24 (fun v4 h => ?_)
    refine lv_iload_n hx hb dX9_require_27 rfl (lv_at hl 2 rfl) ?_
    refine xs_21 C hW h dX9_require_28 (fun S5 H locs h hW => ?_)
    refine lv_aload_n hx hb dX9_require_29 rfl (lv_at hl 0 rfl) ?_
    refine lv_dup hx hb dX9_require_30 rfl ?_
    refine xg_18_3 C hW h fl_X9_21 dX9_require_31 (fun v6 h => ?_)
    refine lv_iconst (v := 1) hx hb dX9_require_34 (by decide) ?_
    refine lv_iadd hx hb dX9_require_35 ?_
    refine xp_18_3 C hW h fl_X9_21 dX9_require_36 (fun S7 H locs h hW => ?_)
    exact w_X9_require_18_b39 (F := F) C h hW (lv_sub hl [] rfl)
def n_X9_require_18 (F : Nat) (S : Zs) (x1 : Int32) (x2 : Int32) : Option (Int32 × Zs) := n_X9_require_18_e F  S x1 x2
theorem c_X9_require_18 {l : Launch} {D : va_G} {cs ad : Nat → Nat} {F : Nat} {S : Zs} {x1 : Int32} {x2 : Int32} {q : (Int32 × Zs)} (h : n_X9_require_18 F S x1 x2 = some q) : zMv l yX9_require cX9_require 3 none (zR 0 0) (xG D cs ad) [.ref (ad 18), .int x1, .int x2] S q :=
  zz_enter (by decide) (Nat.le_of_ble_eq_true rfl) (fun p e s m below meth c ls C hW hl => w_X9_require_18_e (F := F) C h hW (lv_sub hl [0, 1, 2] rfl))
def n_X9_imply_18_b137 (F : Nat)  (S : Zs)  : Option (Int32 × Zs) :=
  some (0, S)
set_option maxRecDepth 20000 in
set_option maxHeartbeats 4000000 in
theorem w_X9_imply_18_b137 {F : Nat} {q : (Int32 × Zs)} {S : Zs}   {ls : Array Slot} {H : Heap} {locs : List Loc} (C : zC p s m args meth c cX9_imply 4 RX9 none)  (h : n_X9_imply_18_b137 F  S  = some q) (hW : zW (xG D cs ad) s S H locs) (hl : lv_has ls 4 []) : W p l e (zR 0 0) s m args below meth c H locs 0 0 (zQv (xG D cs ad) q below args s) (F0 m 137 ls []) := by
  unfold n_X9_imply_18_b137 at h
  obtain ⟨hx, hb, hml, hown, hts, hret, hlk⟩ := id C
  exact zz_vret C rfl h hW dX9_imply_137
def n_X9_imply_18_b96 (F : Nat) (rc58 : Zs → Int32 → Int32 → Int32 → Option (Int32 × Zs)) (S : Zs) (x1 : Int32) (x2 : Int32) (x3 : Int32) : Option (Int32 × Zs) :=
  zlet (x3 + (1 : Int32)) (fun v1 => rc58 S x1 x2 v1)
set_option maxRecDepth 20000 in
set_option maxHeartbeats 4000000 in
theorem w_X9_imply_18_b96 {F : Nat} {q : (Int32 × Zs)} {S : Zs} {rc58 : Zs → Int32 → Int32 → Int32 → Option (Int32 × Zs)} {x1 : Int32} {x2 : Int32} {x3 : Int32} {ls : Array Slot} {H : Heap} {locs : List Loc} (C : zC p s m args meth c cX9_imply 4 RX9 none) (hrc58 : ∀ (S : Zs) (x1 : Int32) (x2 : Int32) (x3 : Int32) (H : Heap) (locs : List Loc) (ls : Array Slot), rc58 S x1 x2 x3 = some q → zW (xG D cs ad) s S H locs → lv_has ls 4 [(0, .ref (ad 18)), (1, .int x1), (2, .int x2), (3, .int x3)] → W p l e (zR 0 0) s m args below meth c H locs 0 0 (zQv (xG D cs ad) q below args s) (F0 m 58 ls [])) (h : n_X9_imply_18_b96 F rc58 S x1 x2 x3 = some q) (hW : zW (xG D cs ad) s S H locs) (hl : lv_has ls 4 [(0, .ref (ad 18)), (1, .int x1), (2, .int x2), (3, .int x3)]) : W p l e (zR 0 0) s m args below meth c H locs 0 0 (zQv (xG D cs ad) q below args s) (F0 m 96 ls []) := by
  unfold n_X9_imply_18_b96 at h
  obtain ⟨hx, hb, hml, hown, hts, hret, hlk⟩ := id C
  obtain ⟨v1, ev1, h⟩ := zz_name h
  refine lv_iinc (v := v1) (lv' := [(3, .int v1), (0, .ref (ad 18)), (1, .int x1), (2, .int x2)]) hx hb dX9_imply_96 hl (k := 3) rfl ev1.symm (by decide) rfl (fun ls hl => ?_)
  refine lv_goto (tgt := 58) hx hb dX9_imply_99 (by decide) ?_
  exact hrc58 _ _ _ _ _ _ _ h hW (lv_sub hl [1, 2, 3, 0] rfl)
def n_X9_imply_18_b58_l (F : Nat) (rc58 : Zs → Int32 → Int32 → Int32 → Option (Int32 × Zs)) (S : Zs) (x1 : Int32) (x2 : Int32) (x3 : Int32) : Option (Int32 × Zs) :=
  if (24 : Int32) ≤ x3 then (zld S 19 24 x1 (fun v1 => if ((v1 >>> ((x1 ^^^ (1 : Int32)) &&& 31)) &&& (1 : Int32)) = 0 then (n_X9_imply_18_b137 F  S ) else (zld S 19 24 (x1 ^^^ (1 : Int32)) (fun v2 => if ((v2 >>> (x1 &&& 31)) &&& (1 : Int32)) = 0 then (n_X9_imply_18_b137 F  S ) else (zpb S 364 (1 : Int32) (fun S3 => n_X9_imply_18_b137 F  S3 )))))) else (zld S 19 24 x3 (fun v4 => if ((v4 >>> ((x2 ^^^ (1 : Int32)) &&& 31)) &&& (1 : Int32)) = 0 then (n_X9_imply_18_b96 F rc58 S x1 x2 x3) else (zld S 19 24 x3 (fun v5 => zld S 19 24 (x1 ^^^ (1 : Int32)) (fun v6 => zst S 19 24 x3 (v5 ||| v6) (fun S7 => n_X9_imply_18_b96 F rc58 S7 x1 x2 x3))))))
set_option maxRecDepth 20000 in
set_option maxHeartbeats 4000000 in
theorem w_X9_imply_18_b58_l {F : Nat} {q : (Int32 × Zs)} {S : Zs} {rc58 : Zs → Int32 → Int32 → Int32 → Option (Int32 × Zs)} {x1 : Int32} {x2 : Int32} {x3 : Int32} {ls : Array Slot} {H : Heap} {locs : List Loc} (C : zC p s m args meth c cX9_imply 4 RX9 none) (hrc58 : ∀ (S : Zs) (x1 : Int32) (x2 : Int32) (x3 : Int32) (H : Heap) (locs : List Loc) (ls : Array Slot), rc58 S x1 x2 x3 = some q → zW (xG D cs ad) s S H locs → lv_has ls 4 [(0, .ref (ad 18)), (1, .int x1), (2, .int x2), (3, .int x3)] → W p l e (zR 0 0) s m args below meth c H locs 0 0 (zQv (xG D cs ad) q below args s) (F0 m 58 ls [])) (h : n_X9_imply_18_b58_l F rc58 S x1 x2 x3 = some q) (hW : zW (xG D cs ad) s S H locs) (hl : lv_has ls 4 [(0, .ref (ad 18)), (1, .int x1), (2, .int x2), (3, .int x3)]) : W p l e (zR 0 0) s m args below meth c H locs 0 0 (zQv (xG D cs ad) q below args s) (F0 m 58 ls []) := by
  unfold n_X9_imply_18_b58_l at h
  obtain ⟨hx, hb, hml, hown, hts, hret, hlk⟩ := id C
  refine lv_iload_n hx hb dX9_imply_58 rfl (lv_at hl 3 rfl) ?_
  refine lv_bipush (v := 24) hx hb dX9_imply_59 (by decide) ?_
  refine zz_cge (tgt := 102) C h dX9_imply_61 (by decide) (fun h => ?_) (fun h => ?_)
  · refine lv_aload_n hx hb dX9_imply_102 rfl (lv_at hl 0 rfl) ?_
    refine xg_18_0 C hW fl_X9_9 dX9_imply_103 ?_
    refine lv_iload_n hx hb dX9_imply_106 rfl (lv_at hl 1 rfl) ?_
    refine xl_19 C hW h dX9_imply_107 (fun v1 h => ?_)
    refine lv_iload_n hx hb dX9_imply_108 rfl (lv_at hl 1 rfl) ?_
    refine lv_iconst (v := 1) hx hb dX9_imply_109 (by decide) ?_
    refine lv_ixor hx hb dX9_imply_110 ?_
    refine lv_ishr hx hb dX9_imply_111 ?_
    refine lv_iconst (v := 1) hx hb dX9_imply_112 (by decide) ?_
    refine lv_iand hx hb dX9_imply_113 ?_
    refine zz_ieq (tgt := 137) C h dX9_imply_114 (by decide) (fun h => ?_) (fun h => ?_)
    · exact w_X9_imply_18_b137 (F := F) C h hW (lv_sub hl [] rfl)
    · refine lv_aload_n hx hb dX9_imply_117 rfl (lv_at hl 0 rfl) ?_
      refine xg_18_0 C hW fl_X9_9 dX9_imply_118 ?_
      refine lv_iload_n hx hb dX9_imply_121 rfl (lv_at hl 1 rfl) ?_
      refine lv_iconst (v := 1) hx hb dX9_imply_122 (by decide) ?_
      refine lv_ixor hx hb dX9_imply_123 ?_
      refine xl_19 C hW h dX9_imply_124 (fun v2 h => ?_)
      refine lv_iload_n hx hb dX9_imply_125 rfl (lv_at hl 1 rfl) ?_
      refine lv_ishr hx hb dX9_imply_126 ?_
      refine lv_iconst (v := 1) hx hb dX9_imply_127 (by decide) ?_
      refine lv_iand hx hb dX9_imply_128 ?_
      refine zz_ieq (tgt := 137) C h dX9_imply_129 (by decide) (fun h => ?_) (fun h => ?_)
      · exact w_X9_imply_18_b137 (F := F) C h hW (lv_sub hl [] rfl)
      · refine lv_aload_n hx hb dX9_imply_132 rfl (lv_at hl 0 rfl) ?_
        refine lv_iconst (v := 1) hx hb dX9_imply_133 (by decide) ?_
        refine xp_18_4 C hW h fl_X9_25 dX9_imply_134 (fun S3 H locs h hW => ?_)
        exact w_X9_imply_18_b137 (F := F) C h hW (lv_sub hl [] rfl)
  · refine lv_aload_n hx hb dX9_imply_64 rfl (lv_at hl 0 rfl) ?_
    refine xg_18_0 C hW fl_X9_9 dX9_imply_65 ?_
    refine lv_iload_n hx hb dX9_imply_68 rfl (lv_at hl 3 rfl) ?_
    refine xl_19 C hW h dX9_imply_69 (fun v4 h => ?_)
    refine lv_iload_n hx hb dX9_imply_70 rfl (lv_at hl 2 rfl) ?_
    refine lv_iconst (v := 1) hx hb dX9_imply_71 (by decide) ?_
    refine lv_ixor hx hb dX9_imply_72 ?_
    refine lv_ishr hx hb dX9_imply_73 ?_
    refine lv_iconst (v := 1) hx hb dX9_imply_74 (by decide) ?_
    refine lv_iand hx hb dX9_imply_75 ?_
    refine zz_ieq (tgt := 96) C h dX9_imply_76 (by decide) (fun h => ?_) (fun h => ?_)
    · exact w_X9_imply_18_b96 (F := F) C hrc58 h hW (lv_sub hl [0, 1, 2, 3] rfl)
    · refine lv_aload_n hx hb dX9_imply_79 rfl (lv_at hl 0 rfl) ?_
      refine xg_18_0 C hW fl_X9_9 dX9_imply_80 ?_
      refine lv_iload_n hx hb dX9_imply_83 rfl (lv_at hl 3 rfl) ?_
      refine lv_dup2_11 hx hb dX9_imply_84 rfl rfl ?_
      refine xl_19 C hW h dX9_imply_85 (fun v5 h => ?_)
      refine lv_aload_n hx hb dX9_imply_86 rfl (lv_at hl 0 rfl) ?_
      refine xg_18_0 C hW fl_X9_9 dX9_imply_87 ?_
      refine lv_iload_n hx hb dX9_imply_90 rfl (lv_at hl 1 rfl) ?_
      refine lv_iconst (v := 1) hx hb dX9_imply_91 (by decide) ?_
      refine lv_ixor hx hb dX9_imply_92 ?_
      refine xl_19 C hW h dX9_imply_93 (fun v6 h => ?_)
      refine lv_ior hx hb dX9_imply_94 ?_
      refine xs_19 C hW h dX9_imply_95 (fun S7 H locs h hW => ?_)
      exact w_X9_imply_18_b96 (F := F) C hrc58 h hW (lv_sub hl [0, 1, 2, 3] rfl)
def n_X9_imply_18_b58 (F : Nat)  (S : Zs) (x1 : Int32) (x2 : Int32) (x3 : Int32) : Option (Int32 × Zs) :=
  zfix (fun (rc : (Zs × Int32 × Int32 × Int32) → Option (Int32 × Zs)) (u : (Zs × Int32 × Int32 × Int32)) => n_X9_imply_18_b58_l F  (fun S x1 x2 x3 => rc (S, x1, x2, x3)) u.1 u.2.1 u.2.2.1 u.2.2.2) F (S, x1, x2, x3)
theorem w_X9_imply_18_b58 {F : Nat} {q : (Int32 × Zs)}  (C : zC p s m args meth c cX9_imply 4 RX9 none)  : ∀ (n : Nat) (S : Zs) (x1 : Int32) (x2 : Int32) (x3 : Int32) (H : Heap) (locs : List Loc) (ls : Array Slot), zfix (fun (rc : (Zs × Int32 × Int32 × Int32) → Option (Int32 × Zs)) (u : (Zs × Int32 × Int32 × Int32)) => n_X9_imply_18_b58_l F  (fun S x1 x2 x3 => rc (S, x1, x2, x3)) u.1 u.2.1 u.2.2.1 u.2.2.2) n (S, x1, x2, x3) = some q → zW (xG D cs ad) s S H locs → lv_has ls 4 [(0, .ref (ad 18)), (1, .int x1), (2, .int x2), (3, .int x3)] → W p l e (zR 0 0) s m args below meth c H locs 0 0 (zQv (xG D cs ad) q below args s) (F0 m 58 ls []) := by
  intro n
  induction n with
  | zero => intro S x1 x2 x3 H locs ls h; exact absurd h (fun h => by cases h)
  | succ n ih => intro S x1 x2 x3 H locs ls h hW hl; exact w_X9_imply_18_b58_l (F := F) C (fun S x1 x2 x3 H locs ls h hW hl => ih S x1 x2 x3 H locs ls h hW hl) h hW hl
def n_X9_imply_18_b50 (F : Nat) (rc16 : Zs → Int32 → Int32 → Int32 → Option (Int32 × Zs)) (S : Zs) (x1 : Int32) (x2 : Int32) (x3 : Int32) : Option (Int32 × Zs) :=
  zlet (x3 + (1 : Int32)) (fun v1 => rc16 S x1 x2 v1)
set_option maxRecDepth 20000 in
set_option maxHeartbeats 4000000 in
theorem w_X9_imply_18_b50 {F : Nat} {q : (Int32 × Zs)} {S : Zs} {rc16 : Zs → Int32 → Int32 → Int32 → Option (Int32 × Zs)} {x1 : Int32} {x2 : Int32} {x3 : Int32} {ls : Array Slot} {H : Heap} {locs : List Loc} (C : zC p s m args meth c cX9_imply 4 RX9 none) (hrc16 : ∀ (S : Zs) (x1 : Int32) (x2 : Int32) (x3 : Int32) (H : Heap) (locs : List Loc) (ls : Array Slot), rc16 S x1 x2 x3 = some q → zW (xG D cs ad) s S H locs → lv_has ls 4 [(0, .ref (ad 18)), (1, .int x1), (2, .int x2), (3, .int x3)] → W p l e (zR 0 0) s m args below meth c H locs 0 0 (zQv (xG D cs ad) q below args s) (F0 m 16 ls [])) (h : n_X9_imply_18_b50 F rc16 S x1 x2 x3 = some q) (hW : zW (xG D cs ad) s S H locs) (hl : lv_has ls 4 [(0, .ref (ad 18)), (1, .int x1), (2, .int x2), (3, .int x3)]) : W p l e (zR 0 0) s m args below meth c H locs 0 0 (zQv (xG D cs ad) q below args s) (F0 m 50 ls []) := by
  unfold n_X9_imply_18_b50 at h
  obtain ⟨hx, hb, hml, hown, hts, hret, hlk⟩ := id C
  obtain ⟨v1, ev1, h⟩ := zz_name h
  refine lv_iinc (v := v1) (lv' := [(3, .int v1), (0, .ref (ad 18)), (1, .int x1), (2, .int x2)]) hx hb dX9_imply_50 hl (k := 3) rfl ev1.symm (by decide) rfl (fun ls hl => ?_)
  refine lv_goto (tgt := 16) hx hb dX9_imply_53 (by decide) ?_
  exact hrc16 _ _ _ _ _ _ _ h hW (lv_sub hl [1, 2, 3, 0] rfl)
def n_X9_imply_18_b16_l (F : Nat) (rc16 : Zs → Int32 → Int32 → Int32 → Option (Int32 × Zs)) (S : Zs) (x1 : Int32) (x2 : Int32) (x3 : Int32) : Option (Int32 × Zs) :=
  if (24 : Int32) ≤ x3 then (n_X9_imply_18_b58 F  S x1 x2 (0 : Int32)) else (zld S 19 24 x3 (fun v1 => if ((v1 >>> (x1 &&& 31)) &&& (1 : Int32)) = 0 then (n_X9_imply_18_b50 F rc16 S x1 x2 x3) else (zld S 19 24 x3 (fun v2 => zld S 19 24 x2 (fun v3 => zst S 19 24 x3 (v2 ||| v3) (fun S4 => n_X9_imply_18_b50 F rc16 S4 x1 x2 x3))))))
set_option maxRecDepth 20000 in
set_option maxHeartbeats 4000000 in
theorem w_X9_imply_18_b16_l {F : Nat} {q : (Int32 × Zs)} {S : Zs} {rc16 : Zs → Int32 → Int32 → Int32 → Option (Int32 × Zs)} {x1 : Int32} {x2 : Int32} {x3 : Int32} {ls : Array Slot} {H : Heap} {locs : List Loc} (C : zC p s m args meth c cX9_imply 4 RX9 none) (hrc16 : ∀ (S : Zs) (x1 : Int32) (x2 : Int32) (x3 : Int32) (H : Heap) (locs : List Loc) (ls : Array Slot), rc16 S x1 x2 x3 = some q → zW (xG D cs ad) s S H locs → lv_has ls 4 [(0, .ref (ad 18)), (1, .int x1), (2, .int x2), (3, .int x3)] → W p l e (zR 0 0) s m args below meth c H locs 0 0 (zQv (xG D cs ad) q below args s) (F0 m 16 ls [])) (h : n_X9_imply_18_b16_l F rc16 S x1 x2 x3 = some q) (hW : zW (xG D cs ad) s S H locs) (hl : lv_has ls 4 [(0, .ref (ad 18)), (1, .int x1), (2, .int x2), (3, .int x3)]) : W p l e (zR 0 0) s m args below meth c H locs 0 0 (zQv (xG D cs ad) q below args s) (F0 m 16 ls []) := by
  unfold n_X9_imply_18_b16_l at h
  obtain ⟨hx, hb, hml, hown, hts, hret, hlk⟩ := id C
  refine lv_iload_n hx hb dX9_imply_16 rfl (lv_at hl 3 rfl) ?_
  refine lv_bipush (v := 24) hx hb dX9_imply_17 (by decide) ?_
  refine zz_cge (tgt := 56) C h dX9_imply_19 (by decide) (fun h => ?_) (fun h => ?_)
  · refine lv_iconst (v := 0) hx hb dX9_imply_56 (by decide) ?_
    refine lv_istore_n (lv' := [(3, .int (0 : Int32)), (0, .ref (ad 18)), (1, .int x1), (2, .int x2)]) hx hb dX9_imply_57 rfl hl (by decide) rfl (fun ls hl => ?_)
    exact w_X9_imply_18_b58 (F := F) C F _ _ _ _ _ _ _ h hW (lv_sub hl [1, 2, 3, 0] rfl)
  · refine lv_aload_n hx hb dX9_imply_22 rfl (lv_at hl 0 rfl) ?_
    refine xg_18_0 C hW fl_X9_9 dX9_imply_23 ?_
    refine lv_iload_n hx hb dX9_imply_26 rfl (lv_at hl 3 rfl) ?_
    refine xl_19 C hW h dX9_imply_27 (fun v1 h => ?_)
    refine lv_iload_n hx hb dX9_imply_28 rfl (lv_at hl 1 rfl) ?_
    refine lv_ishr hx hb dX9_imply_29 ?_
    refine lv_iconst (v := 1) hx hb dX9_imply_30 (by decide) ?_
    refine lv_iand hx hb dX9_imply_31 ?_
    refine zz_ieq (tgt := 50) C h dX9_imply_32 (by decide) (fun h => ?_) (fun h => ?_)
    · exact w_X9_imply_18_b50 (F := F) C hrc16 h hW (lv_sub hl [0, 1, 2, 3] rfl)
    · refine lv_aload_n hx hb dX9_imply_35 rfl (lv_at hl 0 rfl) ?_
      refine xg_18_0 C hW fl_X9_9 dX9_imply_36 ?_
      refine lv_iload_n hx hb dX9_imply_39 rfl (lv_at hl 3 rfl) ?_
      refine lv_dup2_11 hx hb dX9_imply_40 rfl rfl ?_
      refine xl_19 C hW h dX9_imply_41 (fun v2 h => ?_)
      refine lv_aload_n hx hb dX9_imply_42 rfl (lv_at hl 0 rfl) ?_
      refine xg_18_0 C hW fl_X9_9 dX9_imply_43 ?_
      refine lv_iload_n hx hb dX9_imply_46 rfl (lv_at hl 2 rfl) ?_
      refine xl_19 C hW h dX9_imply_47 (fun v3 h => ?_)
      refine lv_ior hx hb dX9_imply_48 ?_
      refine xs_19 C hW h dX9_imply_49 (fun S4 H locs h hW => ?_)
      exact w_X9_imply_18_b50 (F := F) C hrc16 h hW (lv_sub hl [0, 1, 2, 3] rfl)
def n_X9_imply_18_b16 (F : Nat)  (S : Zs) (x1 : Int32) (x2 : Int32) (x3 : Int32) : Option (Int32 × Zs) :=
  zfix (fun (rc : (Zs × Int32 × Int32 × Int32) → Option (Int32 × Zs)) (u : (Zs × Int32 × Int32 × Int32)) => n_X9_imply_18_b16_l F  (fun S x1 x2 x3 => rc (S, x1, x2, x3)) u.1 u.2.1 u.2.2.1 u.2.2.2) F (S, x1, x2, x3)
theorem w_X9_imply_18_b16 {F : Nat} {q : (Int32 × Zs)}  (C : zC p s m args meth c cX9_imply 4 RX9 none)  : ∀ (n : Nat) (S : Zs) (x1 : Int32) (x2 : Int32) (x3 : Int32) (H : Heap) (locs : List Loc) (ls : Array Slot), zfix (fun (rc : (Zs × Int32 × Int32 × Int32) → Option (Int32 × Zs)) (u : (Zs × Int32 × Int32 × Int32)) => n_X9_imply_18_b16_l F  (fun S x1 x2 x3 => rc (S, x1, x2, x3)) u.1 u.2.1 u.2.2.1 u.2.2.2) n (S, x1, x2, x3) = some q → zW (xG D cs ad) s S H locs → lv_has ls 4 [(0, .ref (ad 18)), (1, .int x1), (2, .int x2), (3, .int x3)] → W p l e (zR 0 0) s m args below meth c H locs 0 0 (zQv (xG D cs ad) q below args s) (F0 m 16 ls []) := by
  intro n
  induction n with
  | zero => intro S x1 x2 x3 H locs ls h; exact absurd h (fun h => by cases h)
  | succ n ih => intro S x1 x2 x3 H locs ls h hW hl; exact w_X9_imply_18_b16_l (F := F) C (fun S x1 x2 x3 H locs ls h hW hl => ih S x1 x2 x3 H locs ls h hW hl) h hW hl
def n_X9_imply_18_e (F : Nat)  (S : Zs) (x1 : Int32) (x2 : Int32) : Option (Int32 × Zs) :=
  zld S 19 24 x1 (fun v1 => if ((v1 >>> (x2 &&& 31)) &&& (1 : Int32)) = 0 then (n_X9_imply_18_b16 F  S x1 x2 (0 : Int32)) else (some (0, S)))
set_option maxRecDepth 20000 in
set_option maxHeartbeats 4000000 in
theorem w_X9_imply_18_e {F : Nat} {q : (Int32 × Zs)} {S : Zs}  {x1 : Int32} {x2 : Int32} {ls : Array Slot} {H : Heap} {locs : List Loc} (C : zC p s m args meth c cX9_imply 4 RX9 none)  (h : n_X9_imply_18_e F  S x1 x2 = some q) (hW : zW (xG D cs ad) s S H locs) (hl : lv_has ls 4 [(0, .ref (ad 18)), (1, .int x1), (2, .int x2)]) : W p l e (zR 0 0) s m args below meth c H locs 0 0 (zQv (xG D cs ad) q below args s) (F0 m 0 ls []) := by
  unfold n_X9_imply_18_e at h
  obtain ⟨hx, hb, hml, hown, hts, hret, hlk⟩ := id C
  refine lv_aload_n hx hb dX9_imply_0 rfl (lv_at hl 0 rfl) ?_
  refine xg_18_0 C hW fl_X9_9 dX9_imply_1 ?_
  refine lv_iload_n hx hb dX9_imply_4 rfl (lv_at hl 1 rfl) ?_
  refine xl_19 C hW h dX9_imply_5 (fun v1 h => ?_)
  refine lv_iload_n hx hb dX9_imply_6 rfl (lv_at hl 2 rfl) ?_
  refine lv_ishr hx hb dX9_imply_7 ?_
  refine lv_iconst (v := 1) hx hb dX9_imply_8 (by decide) ?_
  refine lv_iand hx hb dX9_imply_9 ?_
  refine zz_ieq (tgt := 14) C h dX9_imply_10 (by decide) (fun h => ?_) (fun h => ?_)
  · refine lv_iconst (v := 0) hx hb dX9_imply_14 (by decide) ?_
    refine lv_istore_n (lv' := [(3, .int (0 : Int32)), (0, .ref (ad 18)), (1, .int x1), (2, .int x2)]) hx hb dX9_imply_15 rfl hl (by decide) rfl (fun ls hl => ?_)
    exact w_X9_imply_18_b16 (F := F) C F _ _ _ _ _ _ _ h hW (lv_sub hl [1, 2, 3, 0] rfl)
  · exact zz_vret C rfl h hW dX9_imply_13
def n_X9_imply_18 (F : Nat) (S : Zs) (x1 : Int32) (x2 : Int32) : Option (Int32 × Zs) := n_X9_imply_18_e F  S x1 x2
theorem c_X9_imply_18 {l : Launch} {D : va_G} {cs ad : Nat → Nat} {F : Nat} {S : Zs} {x1 : Int32} {x2 : Int32} {q : (Int32 × Zs)} (h : n_X9_imply_18 F S x1 x2 = some q) : zMv l yX9_imply cX9_imply 4 none (zR 0 0) (xG D cs ad) [.ref (ad 18), .int x1, .int x2] S q :=
  zz_enter (by decide) (Nat.le_of_ble_eq_true rfl) (fun p e s m below meth c ls C hW hl => w_X9_imply_18_e (F := F) C h hW (lv_sub hl [0, 1, 2] rfl))
def n_X1_against_13_b61 (F : Nat)  (S : Zs)  : Option (Int32 × Zs) :=
  some (0, S)
set_option maxRecDepth 20000 in
set_option maxHeartbeats 4000000 in
theorem w_X1_against_13_b61 {F : Nat} {q : (Int32 × Zs)} {S : Zs}   {ls : Array Slot} {H : Heap} {locs : List Loc} (C : zC p s m args meth c cX1_against 2 RX1 (some (.object "SomeAreNoneIs$Theory")))  (h : n_X1_against_13_b61 F  S  = some q) (hW : zW (xG D cs ad) s S H locs) (hl : lv_has ls 2 [(0, .ref (ad 13))]) : W p l e (zR 1 23) s m args below meth c H locs 0 0 (zQr (xG D cs ad) (ad 18) q below args s) (F0 m 61 ls []) := by
  unfold n_X1_against_13_b61 at h
  obtain ⟨hx, hb, hml, hown, hts, hret, hlk⟩ := id C
  refine lv_aload_n hx hb dX1_against_61 rfl (lv_at hl 0 rfl) ?_
  refine xg_13_2 C hW fl_X1_18 dX1_against_62 ?_
  exact zz_aret C rfl h hW dX1_against_65
def n_X1_against_13_e (F : Nat)  (S : Zs) (x1 : Int32) : Option (Int32 × Zs) :=
  zcl (n_X9_copyFrom_18_14 F S ) (fun v2 S1 => if x1 = (-1 : Int32) then (some (0, S1)) else (zcl (n_X0_isUniversal F S1 x1) (fun v4 S3 => if v4 = 0 then (zcl (n_X0_subject F S3 x1) (fun v6 S5 => zcl (n_X0_target F S5 x1) (fun v8 S7 => zcl (n_X9_require_18 F S7 v6 v8) (fun v10 S9 => n_X1_against_13_b61 F  S9 )))) else (zcl (n_X0_subject F S3 x1) (fun v12 S11 => zcl (n_X0_target F S11 x1) (fun v14 S13 => zcl (n_X9_imply_18 F S13 v12 v14) (fun v16 S15 => n_X1_against_13_b61 F  S15 )))))))
set_option maxRecDepth 20000 in
set_option maxHeartbeats 4000000 in
theorem w_X1_against_13_e {F : Nat} {q : (Int32 × Zs)} {S : Zs}  {x1 : Int32} {ls : Array Slot} {H : Heap} {locs : List Loc} (C : zC p s m args meth c cX1_against 2 RX1 (some (.object "SomeAreNoneIs$Theory")))  (h : n_X1_against_13_e F  S x1 = some q) (hW : zW (xG D cs ad) s S H locs) (hl : lv_has ls 2 [(0, .ref (ad 13)), (1, .int x1)]) : W p l e (zR 1 23) s m args below meth c H locs 0 0 (zQr (xG D cs ad) (ad 18) q below args s) (F0 m 0 ls []) := by
  unfold n_X1_against_13_e at h
  obtain ⟨hx, hb, hml, hown, hts, hret, hlk⟩ := id C
  refine lv_aload_n hx hb dX1_against_0 rfl (lv_at hl 0 rfl) ?_
  refine xg_13_2 C hW fl_X1_18 dX1_against_1 ?_
  refine lv_aload_n hx hb dX1_against_4 rfl (lv_at hl 0 rfl) ?_
  refine xg_13_1 C hW fl_X1_12 dX1_against_5 ?_
  refine zz_callVv (As := [.ref (ad 14)]) C hW h (fun r hr => c_X9_copyFrom_18_14 hr) lk_X1_74 (hW.recv xr_18) rfl hl.1 ⟨rfl, rfl⟩ ⟨Nat.le_of_ble_eq_true rfl, Nat.le_of_ble_eq_true rfl⟩ (Nat.le_of_ble_eq_true rfl) ⟨Nat.zero_le _, Nat.zero_le _⟩ rfl dX1_against_8 (fun v2 S1 H locs h hW => ?_)
  refine lv_iload_n hx hb dX1_against_11 rfl (lv_at hl 1 rfl) ?_
  refine lv_iconst (v := -1) hx hb dX1_against_12 (by decide) ?_
  refine zz_cne (tgt := 21) C h dX1_against_13 (by decide) (fun h => ?_) (fun h => ?_)
  · refine lv_iload_n hx hb dX1_against_21 rfl (lv_at hl 1 rfl) ?_
    refine zz_callSi (As := [.int x1]) C hW h (fun r hr => c_X0_isUniversal hr) lk_X1_54 rfl hl.1 ⟨rfl, rfl⟩ ⟨Nat.le_of_ble_eq_true rfl, Nat.le_of_ble_eq_true rfl⟩ (Nat.le_of_ble_eq_true rfl) ⟨Nat.zero_le _, Nat.zero_le _⟩ rfl dX1_against_22 (fun v4 S3 H locs h hW => ?_)
    refine zz_ieq (tgt := 46) C h dX1_against_25 (by decide) (fun h => ?_) (fun h => ?_)
    · refine lv_aload_n hx hb dX1_against_46 rfl (lv_at hl 0 rfl) ?_
      refine xg_13_2 C hW fl_X1_18 dX1_against_47 ?_
      refine lv_iload_n hx hb dX1_against_50 rfl (lv_at hl 1 rfl) ?_
      refine zz_callSi (As := [.int x1]) C hW h (fun r hr => c_X0_subject hr) lk_X1_60 rfl hl.1 ⟨rfl, rfl⟩ ⟨Nat.le_of_ble_eq_true rfl, Nat.le_of_ble_eq_true rfl⟩ (Nat.le_of_ble_eq_true rfl) ⟨Nat.zero_le _, Nat.zero_le _⟩ rfl dX1_against_51 (fun v6 S5 H locs h hW => ?_)
      refine lv_iload_n hx hb dX1_against_54 rfl (lv_at hl 1 rfl) ?_
      refine zz_callSi (As := [.int x1]) C hW h (fun r hr => c_X0_target hr) lk_X1_64 rfl hl.1 ⟨rfl, rfl⟩ ⟨Nat.le_of_ble_eq_true rfl, Nat.le_of_ble_eq_true rfl⟩ (Nat.le_of_ble_eq_true rfl) ⟨Nat.zero_le _, Nat.zero_le _⟩ rfl dX1_against_55 (fun v8 S7 H locs h hW => ?_)
      refine zz_callVv (As := [.int v6, .int v8]) C hW h (fun r hr => c_X9_require_18 hr) lk_X1_71 (hW.recv xr_18) rfl hl.1 ⟨rfl, rfl⟩ ⟨Nat.le_of_ble_eq_true rfl, Nat.le_of_ble_eq_true rfl⟩ (Nat.le_of_ble_eq_true rfl) ⟨Nat.zero_le _, Nat.zero_le _⟩ rfl dX1_against_58 (fun v10 S9 H locs h hW => ?_)
      exact w_X1_against_13_b61 (F := F) C h hW (lv_sub hl [0] rfl)
    · refine lv_aload_n hx hb dX1_against_28 rfl (lv_at hl 0 rfl) ?_
      refine xg_13_2 C hW fl_X1_18 dX1_against_29 ?_
      refine lv_iload_n hx hb dX1_against_32 rfl (lv_at hl 1 rfl) ?_
      refine zz_callSi (As := [.int x1]) C hW h (fun r hr => c_X0_subject hr) lk_X1_60 rfl hl.1 ⟨rfl, rfl⟩ ⟨Nat.le_of_ble_eq_true rfl, Nat.le_of_ble_eq_true rfl⟩ (Nat.le_of_ble_eq_true rfl) ⟨Nat.zero_le _, Nat.zero_le _⟩ rfl dX1_against_33 (fun v12 S11 H locs h hW => ?_)
      refine lv_iload_n hx hb dX1_against_36 rfl (lv_at hl 1 rfl) ?_
      refine zz_callSi (As := [.int x1]) C hW h (fun r hr => c_X0_target hr) lk_X1_64 rfl hl.1 ⟨rfl, rfl⟩ ⟨Nat.le_of_ble_eq_true rfl, Nat.le_of_ble_eq_true rfl⟩ (Nat.le_of_ble_eq_true rfl) ⟨Nat.zero_le _, Nat.zero_le _⟩ rfl dX1_against_37 (fun v14 S13 H locs h hW => ?_)
      refine zz_callVv (As := [.int v12, .int v14]) C hW h (fun r hr => c_X9_imply_18 hr) lk_X1_67 (hW.recv xr_18) rfl hl.1 ⟨rfl, rfl⟩ ⟨Nat.le_of_ble_eq_true rfl, Nat.le_of_ble_eq_true rfl⟩ (Nat.le_of_ble_eq_true rfl) ⟨Nat.zero_le _, Nat.zero_le _⟩ rfl dX1_against_40 (fun v16 S15 H locs h hW => ?_)
      refine lv_goto (tgt := 61) hx hb dX1_against_43 (by decide) ?_
      exact w_X1_against_13_b61 (F := F) C h hW (lv_sub hl [0] rfl)
  · refine lv_aload_n hx hb dX1_against_16 rfl (lv_at hl 0 rfl) ?_
    refine xg_13_2 C hW fl_X1_18 dX1_against_17 ?_
    exact zz_aret C rfl h hW dX1_against_20
def n_X1_against_13 (F : Nat) (S : Zs) (x1 : Int32) : Option (Int32 × Zs) := n_X1_against_13_e F  S x1
theorem c_X1_against_13 {l : Launch} {D : va_G} {cs ad : Nat → Nat} {F : Nat} {S : Zs} {x1 : Int32} {q : (Int32 × Zs)} (h : n_X1_against_13 F S x1 = some q) : zMr l yX1_against cX1_against 2 (some (.object "SomeAreNoneIs$Theory")) (zR 1 23) (xG D cs ad) [.ref (ad 13), .int x1] (ad 18) S q :=
  zz_enter (by decide) (Nat.le_of_ble_eq_true rfl) (fun p e s m below meth c ls C hW hl => w_X1_against_13_e (F := F) C h hW (lv_sub hl [0, 1] rfl))
def n_X9_consistent_18_b52 (F : Nat)  (S : Zs)  : Option (Int32 × Zs) :=
  zrb (0 : Int32) S
set_option maxRecDepth 20000 in
set_option maxHeartbeats 4000000 in
theorem w_X9_consistent_18_b52 {F : Nat} {q : (Int32 × Zs)} {S : Zs}   {ls : Array Slot} {H : Heap} {locs : List Loc} (C : zC p s m args meth c cX9_consistent 3 RX9 (some .boolean))  (h : n_X9_consistent_18_b52 F  S  = some q) (hW : zW (xG D cs ad) s S H locs) (hl : lv_has ls 3 []) : W p l e (zR 0 0) s m args below meth c H locs 0 0 (zQi (xG D cs ad) q below args s) (F0 m 52 ls []) := by
  unfold n_X9_consistent_18_b52 at h
  obtain ⟨hx, hb, hml, hown, hts, hret, hlk⟩ := id C
  refine lv_iconst (v := 0) hx hb dX9_consistent_52 (by decide) ?_
  exact zz_zret C rfl h hW dX9_consistent_53
def n_X9_consistent_18_b2_l (F : Nat) (rc2 : Zs → Int32 → Option (Int32 × Zs)) (S : Zs) (x1 : Int32) : Option (Int32 × Zs) :=
  zgf S 363 (fun v1 => if v1 ≤ x1 then (zrb (1 : Int32) S) else (zld S 20 29 x1 (fun v2 => zld S 19 24 v2 (fun v3 => zld S 21 29 x1 (fun v4 => zld S 19 24 v4 (fun v5 => zlet (v3 ||| v5) (fun v6 => zgf S 364 (fun v7 => if v7 = 0 then (if ((v6 &&& ((v6.toUInt32 >>> ((1 : Int32).toUInt32 &&& Int32.toUInt32 31)).toInt32)) &&& (5592405 : Int32)) = 0 then (zlet (x1 + (1 : Int32)) (fun v8 => rc2 S v8)) else (n_X9_consistent_18_b52 F  S )) else (n_X9_consistent_18_b52 F  S )))))))))
set_option maxRecDepth 20000 in
set_option maxHeartbeats 4000000 in
theorem w_X9_consistent_18_b2_l {F : Nat} {q : (Int32 × Zs)} {S : Zs} {rc2 : Zs → Int32 → Option (Int32 × Zs)} {x1 : Int32} {ls : Array Slot} {H : Heap} {locs : List Loc} (C : zC p s m args meth c cX9_consistent 3 RX9 (some .boolean)) (hrc2 : ∀ (S : Zs) (x1 : Int32) (H : Heap) (locs : List Loc) (ls : Array Slot), rc2 S x1 = some q → zW (xG D cs ad) s S H locs → lv_has ls 3 [(0, .ref (ad 18)), (1, .int x1)] → W p l e (zR 0 0) s m args below meth c H locs 0 0 (zQi (xG D cs ad) q below args s) (F0 m 2 ls [])) (h : n_X9_consistent_18_b2_l F rc2 S x1 = some q) (hW : zW (xG D cs ad) s S H locs) (hl : lv_has ls 3 [(0, .ref (ad 18)), (1, .int x1)]) : W p l e (zR 0 0) s m args below meth c H locs 0 0 (zQi (xG D cs ad) q below args s) (F0 m 2 ls []) := by
  unfold n_X9_consistent_18_b2_l at h
  obtain ⟨hx, hb, hml, hown, hts, hret, hlk⟩ := id C
  refine lv_iload_n hx hb dX9_consistent_2 rfl (lv_at hl 1 rfl) ?_
  refine lv_aload_n hx hb dX9_consistent_3 rfl (lv_at hl 0 rfl) ?_
  refine xg_18_3 C hW h fl_X9_21 dX9_consistent_4 (fun v1 h => ?_)
  refine zz_cge (tgt := 60) C h dX9_consistent_7 (by decide) (fun h => ?_) (fun h => ?_)
  · refine lv_iconst (v := 1) hx hb dX9_consistent_60 (by decide) ?_
    exact zz_zret C rfl h hW dX9_consistent_61
  · refine lv_aload_n hx hb dX9_consistent_10 rfl (lv_at hl 0 rfl) ?_
    refine xg_18_0 C hW fl_X9_9 dX9_consistent_11 ?_
    refine lv_aload_n hx hb dX9_consistent_14 rfl (lv_at hl 0 rfl) ?_
    refine xg_18_1 C hW fl_X9_15 dX9_consistent_15 ?_
    refine lv_iload_n hx hb dX9_consistent_18 rfl (lv_at hl 1 rfl) ?_
    refine xl_20 C hW h dX9_consistent_19 (fun v2 h => ?_)
    refine xl_19 C hW h dX9_consistent_20 (fun v3 h => ?_)
    refine lv_aload_n hx hb dX9_consistent_21 rfl (lv_at hl 0 rfl) ?_
    refine xg_18_0 C hW fl_X9_9 dX9_consistent_22 ?_
    refine lv_aload_n hx hb dX9_consistent_25 rfl (lv_at hl 0 rfl) ?_
    refine xg_18_2 C hW fl_X9_18 dX9_consistent_26 ?_
    refine lv_iload_n hx hb dX9_consistent_29 rfl (lv_at hl 1 rfl) ?_
    refine xl_21 C hW h dX9_consistent_30 (fun v4 h => ?_)
    refine xl_19 C hW h dX9_consistent_31 (fun v5 h => ?_)
    refine lv_ior hx hb dX9_consistent_32 ?_
    refine zz_leti h (fun v6 h => ?_)
    refine lv_istore_n (lv' := [(2, .int v6), (0, .ref (ad 18)), (1, .int x1)]) hx hb dX9_consistent_33 rfl hl (by decide) rfl (fun ls hl => ?_)
    refine lv_aload_n hx hb dX9_consistent_34 rfl (lv_at hl 1 rfl) ?_
    refine xg_18_4 C hW h fl_X9_25 dX9_consistent_35 (fun v7 h => ?_)
    refine zz_ine (tgt := 52) C h dX9_consistent_38 (by decide) (fun h => ?_) (fun h => ?_)
    · exact w_X9_consistent_18_b52 (F := F) C h hW (lv_sub hl [] rfl)
    · refine lv_iload_n hx hb dX9_consistent_41 rfl (lv_at hl 0 rfl) ?_
      refine lv_iload_n hx hb dX9_consistent_42 rfl (lv_at hl 0 rfl) ?_
      refine lv_iconst (v := 1) hx hb dX9_consistent_43 (by decide) ?_
      refine lv_iushr hx hb dX9_consistent_44 rfl ?_
      refine lv_iand hx hb dX9_consistent_45 ?_
      refine lv_ldc (v := 5592405) hx hb hown (hts _ ct_X9_49) dX9_consistent_46 ?_
      refine lv_iand hx hb dX9_consistent_48 ?_
      refine zz_ieq (tgt := 54) C h dX9_consistent_49 (by decide) (fun h => ?_) (fun h => ?_)
      · obtain ⟨v8, ev8, h⟩ := zz_name h
        refine lv_iinc (v := v8) (lv' := [(1, .int v8), (2, .int v6), (0, .ref (ad 18))]) hx hb dX9_consistent_54 hl (k := 2) rfl ev8.symm (by decide) rfl (fun ls hl => ?_)
        refine lv_goto (tgt := 2) hx hb dX9_consistent_57 (by decide) ?_
        exact hrc2 _ _ _ _ _ h hW (lv_sub hl [2, 0] rfl)
      · exact w_X9_consistent_18_b52 (F := F) C h hW (lv_sub hl [] rfl)
def n_X9_consistent_18_b2 (F : Nat)  (S : Zs) (x1 : Int32) : Option (Int32 × Zs) :=
  zfix (fun (rc : (Zs × Int32) → Option (Int32 × Zs)) (u : (Zs × Int32)) => n_X9_consistent_18_b2_l F  (fun S x1 => rc (S, x1)) u.1 u.2) F (S, x1)
theorem w_X9_consistent_18_b2 {F : Nat} {q : (Int32 × Zs)}  (C : zC p s m args meth c cX9_consistent 3 RX9 (some .boolean))  : ∀ (n : Nat) (S : Zs) (x1 : Int32) (H : Heap) (locs : List Loc) (ls : Array Slot), zfix (fun (rc : (Zs × Int32) → Option (Int32 × Zs)) (u : (Zs × Int32)) => n_X9_consistent_18_b2_l F  (fun S x1 => rc (S, x1)) u.1 u.2) n (S, x1) = some q → zW (xG D cs ad) s S H locs → lv_has ls 3 [(0, .ref (ad 18)), (1, .int x1)] → W p l e (zR 0 0) s m args below meth c H locs 0 0 (zQi (xG D cs ad) q below args s) (F0 m 2 ls []) := by
  intro n
  induction n with
  | zero => intro S x1 H locs ls h; exact absurd h (fun h => by cases h)
  | succ n ih => intro S x1 H locs ls h hW hl; exact w_X9_consistent_18_b2_l (F := F) C (fun S x1 H locs ls h hW hl => ih S x1 H locs ls h hW hl) h hW hl
def n_X9_consistent_18_e (F : Nat)  (S : Zs)  : Option (Int32 × Zs) :=
  n_X9_consistent_18_b2 F  S (0 : Int32)
set_option maxRecDepth 20000 in
set_option maxHeartbeats 4000000 in
theorem w_X9_consistent_18_e {F : Nat} {q : (Int32 × Zs)} {S : Zs}   {ls : Array Slot} {H : Heap} {locs : List Loc} (C : zC p s m args meth c cX9_consistent 3 RX9 (some .boolean))  (h : n_X9_consistent_18_e F  S  = some q) (hW : zW (xG D cs ad) s S H locs) (hl : lv_has ls 3 [(0, .ref (ad 18))]) : W p l e (zR 0 0) s m args below meth c H locs 0 0 (zQi (xG D cs ad) q below args s) (F0 m 0 ls []) := by
  unfold n_X9_consistent_18_e at h
  obtain ⟨hx, hb, hml, hown, hts, hret, hlk⟩ := id C
  refine lv_iconst (v := 0) hx hb dX9_consistent_0 (by decide) ?_
  refine lv_istore_n (lv' := [(1, .int (0 : Int32)), (0, .ref (ad 18))]) hx hb dX9_consistent_1 rfl hl (by decide) rfl (fun ls hl => ?_)
  exact w_X9_consistent_18_b2 (F := F) C F _ _ _ _ _ h hW (lv_sub hl [1, 0] rfl)
def n_X9_consistent_18 (F : Nat) (S : Zs)  : Option (Int32 × Zs) := n_X9_consistent_18_e F  S 
theorem c_X9_consistent_18 {l : Launch} {D : va_G} {cs ad : Nat → Nat} {F : Nat} {S : Zs}  {q : (Int32 × Zs)} (h : n_X9_consistent_18 F S  = some q) : zMi l yX9_consistent cX9_consistent 3 (some .boolean) (zR 0 0) (xG D cs ad) [.ref (ad 18)] S q :=
  zz_enter (by decide) (Nat.le_of_ble_eq_true rfl) (fun p e s m below meth c ls C hW hl => w_X9_consistent_18_e (F := F) C h hW (lv_sub hl [0] rfl))
def n_X1_entails_13_b25 (F : Nat)  (S : Zs) (t0 : Int32) : Option (Int32 × Zs) :=
  zrb t0 S
set_option maxRecDepth 20000 in
set_option maxHeartbeats 4000000 in
theorem w_X1_entails_13_b25 {F : Nat} {q : (Int32 × Zs)} {S : Zs}  {t0 : Int32} {ls : Array Slot} {H : Heap} {locs : List Loc} (C : zC p s m args meth c cX1_entails 3 RX1 (some .boolean))  (h : n_X1_entails_13_b25 F  S t0 = some q) (hW : zW (xG D cs ad) s S H locs) (hl : lv_has ls 3 []) : W p l e (zR 2 46) s m args below meth c H locs 0 0 (zQi (xG D cs ad) q below args s) (F0 m 25 ls [.int t0]) := by
  unfold n_X1_entails_13_b25 at h
  obtain ⟨hx, hb, hml, hown, hts, hret, hlk⟩ := id C
  exact zz_zret C rfl h hW dX1_entails_25
def n_X1_entails_13_e (F : Nat)  (S : Zs) (x1 : Int32) (x2 : Int32) : Option (Int32 × Zs) :=
  zcl (n_X1_prepare_13 F S x1) (fun v2 S1 => zcl (n_X0_contrary F S1 x2) (fun v4 S3 => zcl (n_X1_against_13 F S3 v4) (fun v6 S5 => zcl (n_X9_consistent_18 F S5 ) (fun v8 S7 => if v8 = 0 then (n_X1_entails_13_b25 F  S7 (1 : Int32)) else (n_X1_entails_13_b25 F  S7 (0 : Int32))))))
set_option maxRecDepth 20000 in
set_option maxHeartbeats 4000000 in
theorem w_X1_entails_13_e {F : Nat} {q : (Int32 × Zs)} {S : Zs}  {x1 : Int32} {x2 : Int32} {ls : Array Slot} {H : Heap} {locs : List Loc} (C : zC p s m args meth c cX1_entails 3 RX1 (some .boolean))  (h : n_X1_entails_13_e F  S x1 x2 = some q) (hW : zW (xG D cs ad) s S H locs) (hl : lv_has ls 3 [(0, .ref (ad 13)), (1, .int x1), (2, .int x2)]) : W p l e (zR 2 46) s m args below meth c H locs 0 0 (zQi (xG D cs ad) q below args s) (F0 m 0 ls []) := by
  unfold n_X1_entails_13_e at h
  obtain ⟨hx, hb, hml, hown, hts, hret, hlk⟩ := id C
  refine lv_aload_n hx hb dX1_entails_0 rfl (lv_at hl 0 rfl) ?_
  refine lv_iload_n hx hb dX1_entails_1 rfl (lv_at hl 1 rfl) ?_
  refine zz_callVr (As := [.int x1]) C hW h (fun r hr => c_X1_prepare_13 hr) lk_X1_78 (hW.recv xr_13) rfl hl.1 ⟨rfl, rfl⟩ ⟨Nat.le_of_ble_eq_true rfl, Nat.le_of_ble_eq_true rfl⟩ (Nat.le_of_ble_eq_true rfl) ⟨Nat.zero_le _, Nat.zero_le _⟩ rfl dX1_entails_2 (fun v2 S1 H locs h hW => ?_)
  refine lv_pop hx hb dX1_entails_5 rfl ?_
  refine lv_aload_n hx hb dX1_entails_6 rfl (lv_at hl 0 rfl) ?_
  refine lv_iload_n hx hb dX1_entails_7 rfl (lv_at hl 2 rfl) ?_
  refine zz_callSi (As := [.int x2]) C hW h (fun r hr => c_X0_contrary hr) lk_X1_86 rfl hl.1 ⟨rfl, rfl⟩ ⟨Nat.le_of_ble_eq_true rfl, Nat.le_of_ble_eq_true rfl⟩ (Nat.le_of_ble_eq_true rfl) ⟨Nat.zero_le _, Nat.zero_le _⟩ rfl dX1_entails_8 (fun v4 S3 H locs h hW => ?_)
  refine zz_callVr (As := [.int v4]) C hW h (fun r hr => c_X1_against_13 hr) lk_X1_89 (hW.recv xr_13) rfl hl.1 ⟨rfl, rfl⟩ ⟨Nat.le_of_ble_eq_true rfl, Nat.le_of_ble_eq_true rfl⟩ (Nat.le_of_ble_eq_true rfl) ⟨Nat.zero_le _, Nat.zero_le _⟩ rfl dX1_entails_11 (fun v6 S5 H locs h hW => ?_)
  refine zz_callVi (As := []) C hW h (fun r hr => c_X9_consistent_18 hr) lk_X1_82 (hW.recv xr_18) rfl hl.1 ⟨rfl, rfl⟩ ⟨Nat.le_of_ble_eq_true rfl, Nat.le_of_ble_eq_true rfl⟩ (Nat.le_of_ble_eq_true rfl) ⟨Nat.zero_le _, Nat.zero_le _⟩ rfl dX1_entails_14 (fun v8 S7 H locs h hW => ?_)
  refine zz_ine (tgt := 24) C h dX1_entails_17 (by decide) (fun h => ?_) (fun h => ?_)
  · refine lv_iconst (v := 0) hx hb dX1_entails_24 (by decide) ?_
    exact w_X1_entails_13_b25 (F := F) C h hW (lv_sub hl [] rfl)
  · refine lv_iconst (v := 1) hx hb dX1_entails_20 (by decide) ?_
    refine lv_goto (tgt := 25) hx hb dX1_entails_21 (by decide) ?_
    exact w_X1_entails_13_b25 (F := F) C h hW (lv_sub hl [] rfl)
def n_X1_entails_13 (F : Nat) (S : Zs) (x1 : Int32) (x2 : Int32) : Option (Int32 × Zs) := n_X1_entails_13_e F  S x1 x2
theorem c_X1_entails_13 {l : Launch} {D : va_G} {cs ad : Nat → Nat} {F : Nat} {S : Zs} {x1 : Int32} {x2 : Int32} {q : (Int32 × Zs)} (h : n_X1_entails_13 F S x1 x2 = some q) : zMi l yX1_entails cX1_entails 3 (some .boolean) (zR 2 46) (xG D cs ad) [.ref (ad 13), .int x1, .int x2] S q :=
  zz_enter (by decide) (Nat.le_of_ble_eq_true rfl) (fun p e s m below meth c ls C hW hl => w_X1_entails_13_e (F := F) C h hW (lv_sub hl [0, 1, 2] rfl))
def n_X11_follows_0_b58 (F : Nat)  (S : Zs) (t0 : Int32) : Option (Int32 × Zs) :=
  some (t0, S)
set_option maxRecDepth 20000 in
set_option maxHeartbeats 4000000 in
theorem w_X11_follows_0_b58 {F : Nat} {q : (Int32 × Zs)} {S : Zs}  {t0 : Int32} {ls : Array Slot} {H : Heap} {locs : List Loc} (C : zC p s m args meth c cX11_follows 3 RX11 (some .int))  (h : n_X11_follows_0_b58 F  S t0 = some q) (hW : zW (xG D cs ad) s S H locs) (hl : lv_has ls 3 []) : W p l e (zR 3 68) s m args below meth c H locs 0 0 (zQi (xG D cs ad) q below args s) (F0 m 58 ls [.int t0]) := by
  unfold n_X11_follows_0_b58 at h
  obtain ⟨hx, hb, hml, hown, hts, hret, hlk⟩ := id C
  exact zz_iret C rfl h hW dX11_follows_58
def n_X11_follows_0_e (F : Nat)  (S : Zs) (x1 : Int32) : Option (Int32 × Zs) :=
  zcl (n_X0_isCode F S x1) (fun v2 S1 => if v2 = 0 then (some ((-1 : Int32), S1)) else (zcl (n_X2_active_3 F S1 ) (fun v4 S3 => zgf S3 63 (fun v5 => zcl (n_X1_entails_13 F S3 (v4 &&& (v5 ^^^ (-1 : Int32))) x1) (fun v7 S6 => if v7 = 0 then (zcl (n_X1_entails_13 F S6 v4 x1) (fun v9 S8 => if v9 = 0 then (n_X11_follows_0_b58 F  S8 (0 : Int32)) else (n_X11_follows_0_b58 F  S8 (1 : Int32)))) else (some ((2 : Int32), S6)))))))
set_option maxRecDepth 20000 in
set_option maxHeartbeats 4000000 in
theorem w_X11_follows_0_e {F : Nat} {q : (Int32 × Zs)} {S : Zs}  {x1 : Int32} {ls : Array Slot} {H : Heap} {locs : List Loc} (C : zC p s m args meth c cX11_follows 3 RX11 (some .int))  (h : n_X11_follows_0_e F  S x1 = some q) (hW : zW (xG D cs ad) s S H locs) (hl : lv_has ls 3 [(0, .ref (ad 0)), (1, .int x1)]) : W p l e (zR 3 68) s m args below meth c H locs 0 0 (zQi (xG D cs ad) q below args s) (F0 m 0 ls []) := by
  unfold n_X11_follows_0_e at h
  obtain ⟨hx, hb, hml, hown, hts, hret, hlk⟩ := id C
  refine lv_iload_n hx hb dX11_follows_0 rfl (lv_at hl 1 rfl) ?_
  refine zz_callSi (As := [.int x1]) C hW h (fun r hr => c_X0_isCode hr) lk_X11_126 rfl hl.1 ⟨rfl, rfl⟩ ⟨Nat.le_of_ble_eq_true rfl, Nat.le_of_ble_eq_true rfl⟩ (Nat.le_of_ble_eq_true rfl) ⟨Nat.zero_le _, Nat.zero_le _⟩ rfl dX11_follows_1 (fun v2 S1 H locs h hW => ?_)
  refine zz_ine (tgt := 9) C h dX11_follows_4 (by decide) (fun h => ?_) (fun h => ?_)
  · refine lv_aload_n hx hb dX11_follows_9 rfl (lv_at hl 0 rfl) ?_
    refine xg_0_1 C hW fl_X11_27 dX11_follows_10 ?_
    refine zz_callVi (As := []) C hW h (fun r hr => c_X2_active_3 hr) lk_X11_144 (hW.recv xr_3) rfl hl.1 ⟨rfl, rfl⟩ ⟨Nat.le_of_ble_eq_true rfl, Nat.le_of_ble_eq_true rfl⟩ (Nat.le_of_ble_eq_true rfl) ⟨Nat.zero_le _, Nat.zero_le _⟩ rfl dX11_follows_13 (fun v4 S3 H locs h hW => ?_)
    refine lv_istore_n (lv' := [(2, .int v4), (0, .ref (ad 0)), (1, .int x1)]) hx hb dX11_follows_16 rfl hl (by decide) rfl (fun ls hl => ?_)
    refine lv_aload_n hx hb dX11_follows_17 rfl (lv_at hl 1 rfl) ?_
    refine xg_0_2 C hW fl_X11_31 dX11_follows_18 ?_
    refine lv_iload_n hx hb dX11_follows_21 rfl (lv_at hl 0 rfl) ?_
    refine lv_aload_n hx hb dX11_follows_22 rfl (lv_at hl 1 rfl) ?_
    refine xg_0_1 C hW fl_X11_27 dX11_follows_23 ?_
    refine xg_3_3 C hW h fl_X11_111 dX11_follows_26 (fun v5 h => ?_)
    refine lv_iconst (v := -1) hx hb dX11_follows_29 (by decide) ?_
    refine lv_ixor hx hb dX11_follows_30 ?_
    refine lv_iand hx hb dX11_follows_31 ?_
    refine lv_iload_n hx hb dX11_follows_32 rfl (lv_at hl 2 rfl) ?_
    refine zz_callVi (As := [.int (v4 &&& (v5 ^^^ (-1 : Int32))), .int x1]) C hW h (fun r hr => c_X1_entails_13 hr) lk_X11_151 (hW.recv xr_13) rfl hl.1 ⟨rfl, rfl⟩ ⟨Nat.le_of_ble_eq_true rfl, Nat.le_of_ble_eq_true rfl⟩ (Nat.le_of_ble_eq_true rfl) ⟨Nat.zero_le _, Nat.zero_le _⟩ rfl dX11_follows_33 (fun v7 S6 H locs h hW => ?_)
    refine zz_ieq (tgt := 41) C h dX11_follows_36 (by decide) (fun h => ?_) (fun h => ?_)
    · refine lv_aload_n hx hb dX11_follows_41 rfl (lv_at hl 1 rfl) ?_
      refine xg_0_2 C hW fl_X11_31 dX11_follows_42 ?_
      refine lv_iload_n hx hb dX11_follows_45 rfl (lv_at hl 0 rfl) ?_
      refine lv_iload_n hx hb dX11_follows_46 rfl (lv_at hl 2 rfl) ?_
      refine zz_callVi (As := [.int v4, .int x1]) C hW h (fun r hr => c_X1_entails_13 hr) lk_X11_151 (hW.recv xr_13) rfl hl.1 ⟨rfl, rfl⟩ ⟨Nat.le_of_ble_eq_true rfl, Nat.le_of_ble_eq_true rfl⟩ (Nat.le_of_ble_eq_true rfl) ⟨Nat.zero_le _, Nat.zero_le _⟩ rfl dX11_follows_47 (fun v9 S8 H locs h hW => ?_)
      refine zz_ieq (tgt := 57) C h dX11_follows_50 (by decide) (fun h => ?_) (fun h => ?_)
      · refine lv_iconst (v := 0) hx hb dX11_follows_57 (by decide) ?_
        exact w_X11_follows_0_b58 (F := F) C h hW (lv_sub hl [] rfl)
      · refine lv_iconst (v := 1) hx hb dX11_follows_53 (by decide) ?_
        refine lv_goto (tgt := 58) hx hb dX11_follows_54 (by decide) ?_
        exact w_X11_follows_0_b58 (F := F) C h hW (lv_sub hl [] rfl)
    · refine lv_iconst (v := 2) hx hb dX11_follows_39 (by decide) ?_
      exact zz_iret C rfl h hW dX11_follows_40
  · refine lv_iconst (v := -1) hx hb dX11_follows_7 (by decide) ?_
    exact zz_iret C rfl h hW dX11_follows_8
def n_X11_follows_0 (F : Nat) (S : Zs) (x1 : Int32) : Option (Int32 × Zs) := n_X11_follows_0_e F  S x1
theorem c_X11_follows_0 {l : Launch} {D : va_G} {cs ad : Nat → Nat} {F : Nat} {S : Zs} {x1 : Int32} {q : (Int32 × Zs)} (h : n_X11_follows_0 F S x1 = some q) : zMi l yX11_follows cX11_follows 3 (some .int) (zR 3 68) (xG D cs ad) [.ref (ad 0), .int x1] S q :=
  zz_enter (by decide) (Nat.le_of_ble_eq_true rfl) (fun p e s m below meth c ls C hW hl => w_X11_follows_0_e (F := F) C h hW (lv_sub hl [0, 1] rfl))
def n_X11_decided_0_b57 (F : Nat)  (S : Zs) (t0 : Int32) : Option (Int32 × Zs) :=
  some (t0, S)
set_option maxRecDepth 20000 in
set_option maxHeartbeats 4000000 in
theorem w_X11_decided_0_b57 {F : Nat} {q : (Int32 × Zs)} {S : Zs}  {t0 : Int32} {ls : Array Slot} {H : Heap} {locs : List Loc} (C : zC p s m args meth c cX11_decided 4 RX11 (some .int))  (h : n_X11_decided_0_b57 F  S t0 = some q) (hW : zW (xG D cs ad) s S H locs) (hl : lv_has ls 4 []) : W p l e (zR 3 68) s m args below meth c H locs 0 0 (zQi (xG D cs ad) q below args s) (F0 m 57 ls [.int t0]) := by
  unfold n_X11_decided_0_b57 at h
  obtain ⟨hx, hb, hml, hown, hts, hret, hlk⟩ := id C
  exact zz_iret C rfl h hW dX11_decided_57
def n_X11_decided_0_b34 (F : Nat)  (S : Zs) (x1 : Int32) (x2 : Int32) (t0 : Int32) : Option (Int32 × Zs) :=
  zcl (n_X0_contrary F S x1) (fun v2 S1 => zcl (n_X1_entails_13 F S1 x2 v2) (fun v4 S3 => if v4 = 0 then (n_X11_decided_0_b57 F  S3 t0) else (n_X11_decided_0_b57 F  S3 (t0 + (2 : Int32)))))
set_option maxRecDepth 20000 in
set_option maxHeartbeats 4000000 in
theorem w_X11_decided_0_b34 {F : Nat} {q : (Int32 × Zs)} {S : Zs}  {x1 : Int32} {x2 : Int32} {t0 : Int32} {ls : Array Slot} {H : Heap} {locs : List Loc} (C : zC p s m args meth c cX11_decided 4 RX11 (some .int))  (h : n_X11_decided_0_b34 F  S x1 x2 t0 = some q) (hW : zW (xG D cs ad) s S H locs) (hl : lv_has ls 4 [(0, .ref (ad 0)), (1, .int x1), (2, .int x2)]) : W p l e (zR 3 68) s m args below meth c H locs 0 0 (zQi (xG D cs ad) q below args s) (F0 m 34 ls [.int t0]) := by
  unfold n_X11_decided_0_b34 at h
  obtain ⟨hx, hb, hml, hown, hts, hret, hlk⟩ := id C
  refine lv_istore_n (lv' := [(3, .int t0), (0, .ref (ad 0)), (1, .int x1), (2, .int x2)]) hx hb dX11_decided_34 rfl hl (by decide) rfl (fun ls hl => ?_)
  refine lv_aload_n hx hb dX11_decided_35 rfl (lv_at hl 1 rfl) ?_
  refine xg_0_2 C hW fl_X11_31 dX11_decided_36 ?_
  refine lv_iload_n hx hb dX11_decided_39 rfl (lv_at hl 3 rfl) ?_
  refine lv_iload_n hx hb dX11_decided_40 rfl (lv_at hl 2 rfl) ?_
  refine zz_callSi (As := [.int x1]) C hW h (fun r hr => c_X0_contrary hr) lk_X11_155 rfl hl.1 ⟨rfl, rfl⟩ ⟨Nat.le_of_ble_eq_true rfl, Nat.le_of_ble_eq_true rfl⟩ (Nat.le_of_ble_eq_true rfl) ⟨Nat.zero_le _, Nat.zero_le _⟩ rfl dX11_decided_41 (fun v2 S1 H locs h hW => ?_)
  refine zz_callVi (As := [.int x2, .int v2]) C hW h (fun r hr => c_X1_entails_13 hr) lk_X11_151 (hW.recv xr_13) rfl hl.1 ⟨rfl, rfl⟩ ⟨Nat.le_of_ble_eq_true rfl, Nat.le_of_ble_eq_true rfl⟩ (Nat.le_of_ble_eq_true rfl) ⟨Nat.zero_le _, Nat.zero_le _⟩ rfl dX11_decided_44 (fun v4 S3 H locs h hW => ?_)
  refine zz_ieq (tgt := 56) C h dX11_decided_47 (by decide) (fun h => ?_) (fun h => ?_)
  · refine lv_iload_n hx hb dX11_decided_56 rfl (lv_at hl 0 rfl) ?_
    exact w_X11_decided_0_b57 (F := F) C h hW (lv_sub hl [] rfl)
  · refine lv_iload_n hx hb dX11_decided_50 rfl (lv_at hl 0 rfl) ?_
    refine lv_iconst (v := 2) hx hb dX11_decided_51 (by decide) ?_
    refine lv_iadd hx hb dX11_decided_52 ?_
    refine lv_goto (tgt := 57) hx hb dX11_decided_53 (by decide) ?_
    exact w_X11_decided_0_b57 (F := F) C h hW (lv_sub hl [] rfl)
def n_X11_decided_0_e (F : Nat)  (S : Zs) (x1 : Int32) : Option (Int32 × Zs) :=
  zcl (n_X0_isCode F S x1) (fun v2 S1 => if v2 = 0 then (some ((-1 : Int32), S1)) else (zcl (n_X2_active_3 F S1 ) (fun v4 S3 => zcl (n_X1_entails_13 F S3 v4 x1) (fun v6 S5 => if v6 = 0 then (n_X11_decided_0_b34 F  S5 x1 v4 (0 : Int32)) else (n_X11_decided_0_b34 F  S5 x1 v4 (1 : Int32))))))
set_option maxRecDepth 20000 in
set_option maxHeartbeats 4000000 in
theorem w_X11_decided_0_e {F : Nat} {q : (Int32 × Zs)} {S : Zs}  {x1 : Int32} {ls : Array Slot} {H : Heap} {locs : List Loc} (C : zC p s m args meth c cX11_decided 4 RX11 (some .int))  (h : n_X11_decided_0_e F  S x1 = some q) (hW : zW (xG D cs ad) s S H locs) (hl : lv_has ls 4 [(0, .ref (ad 0)), (1, .int x1)]) : W p l e (zR 3 68) s m args below meth c H locs 0 0 (zQi (xG D cs ad) q below args s) (F0 m 0 ls []) := by
  unfold n_X11_decided_0_e at h
  obtain ⟨hx, hb, hml, hown, hts, hret, hlk⟩ := id C
  refine lv_iload_n hx hb dX11_decided_0 rfl (lv_at hl 1 rfl) ?_
  refine zz_callSi (As := [.int x1]) C hW h (fun r hr => c_X0_isCode hr) lk_X11_126 rfl hl.1 ⟨rfl, rfl⟩ ⟨Nat.le_of_ble_eq_true rfl, Nat.le_of_ble_eq_true rfl⟩ (Nat.le_of_ble_eq_true rfl) ⟨Nat.zero_le _, Nat.zero_le _⟩ rfl dX11_decided_1 (fun v2 S1 H locs h hW => ?_)
  refine zz_ine (tgt := 9) C h dX11_decided_4 (by decide) (fun h => ?_) (fun h => ?_)
  · refine lv_aload_n hx hb dX11_decided_9 rfl (lv_at hl 0 rfl) ?_
    refine xg_0_1 C hW fl_X11_27 dX11_decided_10 ?_
    refine zz_callVi (As := []) C hW h (fun r hr => c_X2_active_3 hr) lk_X11_144 (hW.recv xr_3) rfl hl.1 ⟨rfl, rfl⟩ ⟨Nat.le_of_ble_eq_true rfl, Nat.le_of_ble_eq_true rfl⟩ (Nat.le_of_ble_eq_true rfl) ⟨Nat.zero_le _, Nat.zero_le _⟩ rfl dX11_decided_13 (fun v4 S3 H locs h hW => ?_)
    refine lv_istore_n (lv' := [(2, .int v4), (0, .ref (ad 0)), (1, .int x1)]) hx hb dX11_decided_16 rfl hl (by decide) rfl (fun ls hl => ?_)
    refine lv_aload_n hx hb dX11_decided_17 rfl (lv_at hl 1 rfl) ?_
    refine xg_0_2 C hW fl_X11_31 dX11_decided_18 ?_
    refine lv_iload_n hx hb dX11_decided_21 rfl (lv_at hl 0 rfl) ?_
    refine lv_iload_n hx hb dX11_decided_22 rfl (lv_at hl 2 rfl) ?_
    refine zz_callVi (As := [.int v4, .int x1]) C hW h (fun r hr => c_X1_entails_13 hr) lk_X11_151 (hW.recv xr_13) rfl hl.1 ⟨rfl, rfl⟩ ⟨Nat.le_of_ble_eq_true rfl, Nat.le_of_ble_eq_true rfl⟩ (Nat.le_of_ble_eq_true rfl) ⟨Nat.zero_le _, Nat.zero_le _⟩ rfl dX11_decided_23 (fun v6 S5 H locs h hW => ?_)
    refine zz_ieq (tgt := 33) C h dX11_decided_26 (by decide) (fun h => ?_) (fun h => ?_)
    · refine lv_iconst (v := 0) hx hb dX11_decided_33 (by decide) ?_
      exact w_X11_decided_0_b34 (F := F) C h hW (lv_sub hl [1, 2, 0] rfl)
    · refine lv_iconst (v := 1) hx hb dX11_decided_29 (by decide) ?_
      refine lv_goto (tgt := 34) hx hb dX11_decided_30 (by decide) ?_
      exact w_X11_decided_0_b34 (F := F) C h hW (lv_sub hl [1, 2, 0] rfl)
  · refine lv_iconst (v := -1) hx hb dX11_decided_7 (by decide) ?_
    exact zz_iret C rfl h hW dX11_decided_8
def n_X11_decided_0 (F : Nat) (S : Zs) (x1 : Int32) : Option (Int32 × Zs) := n_X11_decided_0_e F  S x1
theorem c_X11_decided_0 {l : Launch} {D : va_G} {cs ad : Nat → Nat} {F : Nat} {S : Zs} {x1 : Int32} {q : (Int32 × Zs)} (h : n_X11_decided_0 F S x1 = some q) : zMi l yX11_decided cX11_decided 4 (some .int) (zR 3 68) (xG D cs ad) [.ref (ad 0), .int x1] S q :=
  zz_enter (by decide) (Nat.le_of_ble_eq_true rfl) (fun p e s m below meth c ls C hW hl => w_X11_decided_0_e (F := F) C h hW (lv_sub hl [0, 1] rfl))
def n_X11_from_0_b21 (F : Nat)  (S : Zs)  : Option (Int32 × Zs) :=
  some ((-1 : Int32), S)
set_option maxRecDepth 20000 in
set_option maxHeartbeats 4000000 in
theorem w_X11_from_0_b21 {F : Nat} {q : (Int32 × Zs)} {S : Zs}   {ls : Array Slot} {H : Heap} {locs : List Loc} (C : zC p s m args meth c cX11_from 3 RX11 (some .int))  (h : n_X11_from_0_b21 F  S  = some q) (hW : zW (xG D cs ad) s S H locs) (hl : lv_has ls 3 []) : W p l e (zR 3 68) s m args below meth c H locs 0 0 (zQi (xG D cs ad) q below args s) (F0 m 21 ls []) := by
  unfold n_X11_from_0_b21 at h
  obtain ⟨hx, hb, hml, hown, hts, hret, hlk⟩ := id C
  refine lv_iconst (v := -1) hx hb dX11_from_21 (by decide) ?_
  exact zz_iret C rfl h hW dX11_from_22
def n_X11_from_0_b40 (F : Nat)  (S : Zs) (t0 : Int32) : Option (Int32 × Zs) :=
  some (t0, S)
set_option maxRecDepth 20000 in
set_option maxHeartbeats 4000000 in
theorem w_X11_from_0_b40 {F : Nat} {q : (Int32 × Zs)} {S : Zs}  {t0 : Int32} {ls : Array Slot} {H : Heap} {locs : List Loc} (C : zC p s m args meth c cX11_from 3 RX11 (some .int))  (h : n_X11_from_0_b40 F  S t0 = some q) (hW : zW (xG D cs ad) s S H locs) (hl : lv_has ls 3 []) : W p l e (zR 3 68) s m args below meth c H locs 0 0 (zQi (xG D cs ad) q below args s) (F0 m 40 ls [.int t0]) := by
  unfold n_X11_from_0_b40 at h
  obtain ⟨hx, hb, hml, hown, hts, hret, hlk⟩ := id C
  exact zz_iret C rfl h hW dX11_from_40
def n_X11_from_0_e (F : Nat)  (S : Zs) (x1 : Int32) (x2 : Int32) : Option (Int32 × Zs) :=
  zcl (n_X0_isCode F S x2) (fun v2 S1 => if v2 = 0 then (n_X11_from_0_b21 F  S1 ) else (zcl (n_X2_everything_3 F S1 ) (fun v4 S3 => if (x1 &&& (v4 ^^^ (-1 : Int32))) = 0 then (zcl (n_X1_entails_13 F S3 x1 x2) (fun v6 S5 => if v6 = 0 then (n_X11_from_0_b40 F  S5 (0 : Int32)) else (n_X11_from_0_b40 F  S5 (1 : Int32)))) else (n_X11_from_0_b21 F  S3 ))))
set_option maxRecDepth 20000 in
set_option maxHeartbeats 4000000 in
theorem w_X11_from_0_e {F : Nat} {q : (Int32 × Zs)} {S : Zs}  {x1 : Int32} {x2 : Int32} {ls : Array Slot} {H : Heap} {locs : List Loc} (C : zC p s m args meth c cX11_from 3 RX11 (some .int))  (h : n_X11_from_0_e F  S x1 x2 = some q) (hW : zW (xG D cs ad) s S H locs) (hl : lv_has ls 3 [(0, .ref (ad 0)), (1, .int x1), (2, .int x2)]) : W p l e (zR 3 68) s m args below meth c H locs 0 0 (zQi (xG D cs ad) q below args s) (F0 m 0 ls []) := by
  unfold n_X11_from_0_e at h
  obtain ⟨hx, hb, hml, hown, hts, hret, hlk⟩ := id C
  refine lv_iload_n hx hb dX11_from_0 rfl (lv_at hl 2 rfl) ?_
  refine zz_callSi (As := [.int x2]) C hW h (fun r hr => c_X0_isCode hr) lk_X11_126 rfl hl.1 ⟨rfl, rfl⟩ ⟨Nat.le_of_ble_eq_true rfl, Nat.le_of_ble_eq_true rfl⟩ (Nat.le_of_ble_eq_true rfl) ⟨Nat.zero_le _, Nat.zero_le _⟩ rfl dX11_from_1 (fun v2 S1 H locs h hW => ?_)
  refine zz_ieq (tgt := 21) C h dX11_from_4 (by decide) (fun h => ?_) (fun h => ?_)
  · exact w_X11_from_0_b21 (F := F) C h hW (lv_sub hl [] rfl)
  · refine lv_iload_n hx hb dX11_from_7 rfl (lv_at hl 1 rfl) ?_
    refine lv_aload_n hx hb dX11_from_8 rfl (lv_at hl 0 rfl) ?_
    refine xg_0_1 C hW fl_X11_27 dX11_from_9 ?_
    refine zz_callVi (As := []) C hW h (fun r hr => c_X2_everything_3 hr) lk_X11_158 (hW.recv xr_3) rfl hl.1 ⟨rfl, rfl⟩ ⟨Nat.le_of_ble_eq_true rfl, Nat.le_of_ble_eq_true rfl⟩ (Nat.le_of_ble_eq_true rfl) ⟨Nat.zero_le _, Nat.zero_le _⟩ rfl dX11_from_12 (fun v4 S3 H locs h hW => ?_)
    refine lv_iconst (v := -1) hx hb dX11_from_15 (by decide) ?_
    refine lv_ixor hx hb dX11_from_16 ?_
    refine lv_iand hx hb dX11_from_17 ?_
    refine zz_ieq (tgt := 23) C h dX11_from_18 (by decide) (fun h => ?_) (fun h => ?_)
    · refine lv_aload_n hx hb dX11_from_23 rfl (lv_at hl 0 rfl) ?_
      refine xg_0_2 C hW fl_X11_31 dX11_from_24 ?_
      refine lv_iload_n hx hb dX11_from_27 rfl (lv_at hl 1 rfl) ?_
      refine lv_iload_n hx hb dX11_from_28 rfl (lv_at hl 2 rfl) ?_
      refine zz_callVi (As := [.int x1, .int x2]) C hW h (fun r hr => c_X1_entails_13 hr) lk_X11_151 (hW.recv xr_13) rfl hl.1 ⟨rfl, rfl⟩ ⟨Nat.le_of_ble_eq_true rfl, Nat.le_of_ble_eq_true rfl⟩ (Nat.le_of_ble_eq_true rfl) ⟨Nat.zero_le _, Nat.zero_le _⟩ rfl dX11_from_29 (fun v6 S5 H locs h hW => ?_)
      refine zz_ieq (tgt := 39) C h dX11_from_32 (by decide) (fun h => ?_) (fun h => ?_)
      · refine lv_iconst (v := 0) hx hb dX11_from_39 (by decide) ?_
        exact w_X11_from_0_b40 (F := F) C h hW (lv_sub hl [] rfl)
      · refine lv_iconst (v := 1) hx hb dX11_from_35 (by decide) ?_
        refine lv_goto (tgt := 40) hx hb dX11_from_36 (by decide) ?_
        exact w_X11_from_0_b40 (F := F) C h hW (lv_sub hl [] rfl)
    · exact w_X11_from_0_b21 (F := F) C h hW (lv_sub hl [] rfl)
def n_X11_from_0 (F : Nat) (S : Zs) (x1 : Int32) (x2 : Int32) : Option (Int32 × Zs) := n_X11_from_0_e F  S x1 x2
theorem c_X11_from_0 {l : Launch} {D : va_G} {cs ad : Nat → Nat} {F : Nat} {S : Zs} {x1 : Int32} {x2 : Int32} {q : (Int32 × Zs)} (h : n_X11_from_0 F S x1 x2 = some q) : zMi l yX11_from cX11_from 3 (some .int) (zR 3 68) (xG D cs ad) [.ref (ad 0), .int x1, .int x2] S q :=
  zz_enter (by decide) (Nat.le_of_ble_eq_true rfl) (fun p e s m below meth c ls C hW hl => w_X11_from_0_e (F := F) C h hW (lv_sub hl [0, 1, 2] rfl))
def n_X1_indispensable_13_b57 (F : Nat) (rc13 : Zs → Int32 → Int32 → Int32 → Int32 → Option (Int32 × Zs)) (S : Zs) (x1 : Int32) (x2 : Int32) (x3 : Int32) (x4 : Int32) : Option (Int32 × Zs) :=
  zlet (x4 + (1 : Int32)) (fun v1 => rc13 S x1 x2 x3 v1)
set_option maxRecDepth 20000 in
set_option maxHeartbeats 4000000 in
theorem w_X1_indispensable_13_b57 {F : Nat} {q : (Int32 × Zs)} {S : Zs} {rc13 : Zs → Int32 → Int32 → Int32 → Int32 → Option (Int32 × Zs)} {x1 : Int32} {x2 : Int32} {x3 : Int32} {x4 : Int32} {ls : Array Slot} {H : Heap} {locs : List Loc} (C : zC p s m args meth c cX1_indispensable 5 RX1 (some .int)) (hrc13 : ∀ (S : Zs) (x1 : Int32) (x2 : Int32) (x3 : Int32) (x4 : Int32) (H : Heap) (locs : List Loc) (ls : Array Slot), rc13 S x1 x2 x3 x4 = some q → zW (xG D cs ad) s S H locs → lv_has ls 5 [(0, .ref (ad 13)), (1, .int x1), (2, .int x2), (3, .int x3), (4, .int x4)] → W p l e (zR 3 68) s m args below meth c H locs 0 0 (zQi (xG D cs ad) q below args s) (F0 m 13 ls [])) (h : n_X1_indispensable_13_b57 F rc13 S x1 x2 x3 x4 = some q) (hW : zW (xG D cs ad) s S H locs) (hl : lv_has ls 5 [(0, .ref (ad 13)), (1, .int x1), (2, .int x2), (3, .int x3), (4, .int x4)]) : W p l e (zR 3 68) s m args below meth c H locs 0 0 (zQi (xG D cs ad) q below args s) (F0 m 57 ls []) := by
  unfold n_X1_indispensable_13_b57 at h
  obtain ⟨hx, hb, hml, hown, hts, hret, hlk⟩ := id C
  obtain ⟨v1, ev1, h⟩ := zz_name h
  refine lv_iinc (v := v1) (lv' := [(4, .int v1), (0, .ref (ad 13)), (1, .int x1), (2, .int x2), (3, .int x3)]) hx hb dX1_indispensable_57 hl (k := 4) rfl ev1.symm (by decide) rfl (fun ls hl => ?_)
  refine lv_goto (tgt := 13) hx hb dX1_indispensable_60 (by decide) ?_
  exact hrc13 _ _ _ _ _ _ _ _ h hW (lv_sub hl [1, 2, 3, 4, 0] rfl)
def n_X1_indispensable_13_b13_l (F : Nat) (rc13 : Zs → Int32 → Int32 → Int32 → Int32 → Option (Int32 × Zs)) (S : Zs) (x1 : Int32) (x2 : Int32) (x3 : Int32) (x4 : Int32) : Option (Int32 × Zs) :=
  zgf S 62 (fun v1 => if v1 ≤ x4 then (some (x3, S)) else (if ((x2 >>> (x4 &&& 31)) &&& (1 : Int32)) = 0 then (n_X1_indispensable_13_b57 F rc13 S x1 x2 x3 x4) else (zcl (n_X1_entails_13 F S (x2 &&& (((1 : Int32) <<< (x4 &&& 31)) ^^^ (-1 : Int32))) x1) (fun v3 S2 => if v3 = 0 then (zlet (x3 ||| ((1 : Int32) <<< (x4 &&& 31))) (fun v4 => n_X1_indispensable_13_b57 F rc13 S2 x1 x2 v4 x4)) else (n_X1_indispensable_13_b57 F rc13 S2 x1 x2 x3 x4)))))
set_option maxRecDepth 20000 in
set_option maxHeartbeats 4000000 in
theorem w_X1_indispensable_13_b13_l {F : Nat} {q : (Int32 × Zs)} {S : Zs} {rc13 : Zs → Int32 → Int32 → Int32 → Int32 → Option (Int32 × Zs)} {x1 : Int32} {x2 : Int32} {x3 : Int32} {x4 : Int32} {ls : Array Slot} {H : Heap} {locs : List Loc} (C : zC p s m args meth c cX1_indispensable 5 RX1 (some .int)) (hrc13 : ∀ (S : Zs) (x1 : Int32) (x2 : Int32) (x3 : Int32) (x4 : Int32) (H : Heap) (locs : List Loc) (ls : Array Slot), rc13 S x1 x2 x3 x4 = some q → zW (xG D cs ad) s S H locs → lv_has ls 5 [(0, .ref (ad 13)), (1, .int x1), (2, .int x2), (3, .int x3), (4, .int x4)] → W p l e (zR 3 68) s m args below meth c H locs 0 0 (zQi (xG D cs ad) q below args s) (F0 m 13 ls [])) (h : n_X1_indispensable_13_b13_l F rc13 S x1 x2 x3 x4 = some q) (hW : zW (xG D cs ad) s S H locs) (hl : lv_has ls 5 [(0, .ref (ad 13)), (1, .int x1), (2, .int x2), (3, .int x3), (4, .int x4)]) : W p l e (zR 3 68) s m args below meth c H locs 0 0 (zQi (xG D cs ad) q below args s) (F0 m 13 ls []) := by
  unfold n_X1_indispensable_13_b13_l at h
  obtain ⟨hx, hb, hml, hown, hts, hret, hlk⟩ := id C
  refine lv_iload hx hb dX1_indispensable_13 (lv_at hl 4 rfl) ?_
  refine lv_aload_n hx hb dX1_indispensable_15 rfl (lv_at hl 0 rfl) ?_
  refine xg_13_0 C hW fl_X1_32 dX1_indispensable_16 ?_
  refine xg_3_2 C hW h fl_X1_48 dX1_indispensable_19 (fun v1 h => ?_)
  refine zz_cge (tgt := 63) C h dX1_indispensable_22 (by decide) (fun h => ?_) (fun h => ?_)
  · refine lv_iload_n hx hb dX1_indispensable_63 rfl (lv_at hl 3 rfl) ?_
    exact zz_iret C rfl h hW dX1_indispensable_64
  · refine lv_iload_n hx hb dX1_indispensable_25 rfl (lv_at hl 2 rfl) ?_
    refine lv_iload hx hb dX1_indispensable_26 (lv_at hl 4 rfl) ?_
    refine lv_ishr hx hb dX1_indispensable_28 ?_
    refine lv_iconst (v := 1) hx hb dX1_indispensable_29 (by decide) ?_
    refine lv_iand hx hb dX1_indispensable_30 ?_
    refine zz_ieq (tgt := 57) C h dX1_indispensable_31 (by decide) (fun h => ?_) (fun h => ?_)
    · exact w_X1_indispensable_13_b57 (F := F) C hrc13 h hW (lv_sub hl [0, 1, 2, 3, 4] rfl)
    · refine lv_aload_n hx hb dX1_indispensable_34 rfl (lv_at hl 0 rfl) ?_
      refine lv_iload_n hx hb dX1_indispensable_35 rfl (lv_at hl 2 rfl) ?_
      refine lv_iconst (v := 1) hx hb dX1_indispensable_36 (by decide) ?_
      refine lv_iload hx hb dX1_indispensable_37 (lv_at hl 4 rfl) ?_
      refine lv_ishl hx hb dX1_indispensable_39 ?_
      refine lv_iconst (v := -1) hx hb dX1_indispensable_40 (by decide) ?_
      refine lv_ixor hx hb dX1_indispensable_41 ?_
      refine lv_iand hx hb dX1_indispensable_42 ?_
      refine lv_iload_n hx hb dX1_indispensable_43 rfl (lv_at hl 1 rfl) ?_
      refine zz_callVi (As := [.int (x2 &&& (((1 : Int32) <<< (x4 &&& 31)) ^^^ (-1 : Int32))), .int x1]) C hW h (fun r hr => c_X1_entails_13 hr) lk_X1_99 (hW.recv xr_13) rfl hl.1 ⟨rfl, rfl⟩ ⟨Nat.le_of_ble_eq_true rfl, Nat.le_of_ble_eq_true rfl⟩ (Nat.le_of_ble_eq_true rfl) ⟨Nat.zero_le _, Nat.zero_le _⟩ rfl dX1_indispensable_44 (fun v3 S2 H locs h hW => ?_)
      refine zz_ine (tgt := 57) C h dX1_indispensable_47 (by decide) (fun h => ?_) (fun h => ?_)
      · exact w_X1_indispensable_13_b57 (F := F) C hrc13 h hW (lv_sub hl [0, 1, 2, 3, 4] rfl)
      · refine lv_iload_n hx hb dX1_indispensable_50 rfl (lv_at hl 3 rfl) ?_
        refine lv_iconst (v := 1) hx hb dX1_indispensable_51 (by decide) ?_
        refine lv_iload hx hb dX1_indispensable_52 (lv_at hl 4 rfl) ?_
        refine lv_ishl hx hb dX1_indispensable_54 ?_
        refine lv_ior hx hb dX1_indispensable_55 ?_
        refine zz_leti h (fun v4 h => ?_)
        refine lv_istore_n (lv' := [(3, .int v4), (0, .ref (ad 13)), (1, .int x1), (2, .int x2), (4, .int x4)]) hx hb dX1_indispensable_56 rfl hl (by decide) rfl (fun ls hl => ?_)
        exact w_X1_indispensable_13_b57 (F := F) C hrc13 h hW (lv_sub hl [1, 2, 3, 0, 4] rfl)
def n_X1_indispensable_13_b13 (F : Nat)  (S : Zs) (x1 : Int32) (x2 : Int32) (x3 : Int32) (x4 : Int32) : Option (Int32 × Zs) :=
  zfix (fun (rc : (Zs × Int32 × Int32 × Int32 × Int32) → Option (Int32 × Zs)) (u : (Zs × Int32 × Int32 × Int32 × Int32)) => n_X1_indispensable_13_b13_l F  (fun S x1 x2 x3 x4 => rc (S, x1, x2, x3, x4)) u.1 u.2.1 u.2.2.1 u.2.2.2.1 u.2.2.2.2) F (S, x1, x2, x3, x4)
theorem w_X1_indispensable_13_b13 {F : Nat} {q : (Int32 × Zs)}  (C : zC p s m args meth c cX1_indispensable 5 RX1 (some .int))  : ∀ (n : Nat) (S : Zs) (x1 : Int32) (x2 : Int32) (x3 : Int32) (x4 : Int32) (H : Heap) (locs : List Loc) (ls : Array Slot), zfix (fun (rc : (Zs × Int32 × Int32 × Int32 × Int32) → Option (Int32 × Zs)) (u : (Zs × Int32 × Int32 × Int32 × Int32)) => n_X1_indispensable_13_b13_l F  (fun S x1 x2 x3 x4 => rc (S, x1, x2, x3, x4)) u.1 u.2.1 u.2.2.1 u.2.2.2.1 u.2.2.2.2) n (S, x1, x2, x3, x4) = some q → zW (xG D cs ad) s S H locs → lv_has ls 5 [(0, .ref (ad 13)), (1, .int x1), (2, .int x2), (3, .int x3), (4, .int x4)] → W p l e (zR 3 68) s m args below meth c H locs 0 0 (zQi (xG D cs ad) q below args s) (F0 m 13 ls []) := by
  intro n
  induction n with
  | zero => intro S x1 x2 x3 x4 H locs ls h; exact absurd h (fun h => by cases h)
  | succ n ih => intro S x1 x2 x3 x4 H locs ls h hW hl; exact w_X1_indispensable_13_b13_l (F := F) C (fun S x1 x2 x3 x4 H locs ls h hW hl => ih S x1 x2 x3 x4 H locs ls h hW hl) h hW hl
def n_X1_indispensable_13_e (F : Nat)  (S : Zs) (x1 : Int32) : Option (Int32 × Zs) :=
  zcl (n_X2_active_3 F S ) (fun v2 S1 => n_X1_indispensable_13_b13 F  S1 x1 v2 (0 : Int32) (0 : Int32))
set_option maxRecDepth 20000 in
set_option maxHeartbeats 4000000 in
theorem w_X1_indispensable_13_e {F : Nat} {q : (Int32 × Zs)} {S : Zs}  {x1 : Int32} {ls : Array Slot} {H : Heap} {locs : List Loc} (C : zC p s m args meth c cX1_indispensable 5 RX1 (some .int))  (h : n_X1_indispensable_13_e F  S x1 = some q) (hW : zW (xG D cs ad) s S H locs) (hl : lv_has ls 5 [(0, .ref (ad 13)), (1, .int x1)]) : W p l e (zR 3 68) s m args below meth c H locs 0 0 (zQi (xG D cs ad) q below args s) (F0 m 0 ls []) := by
  unfold n_X1_indispensable_13_e at h
  obtain ⟨hx, hb, hml, hown, hts, hret, hlk⟩ := id C
  refine lv_aload_n hx hb dX1_indispensable_0 rfl (lv_at hl 0 rfl) ?_
  refine xg_13_0 C hW fl_X1_32 dX1_indispensable_1 ?_
  refine zz_callVi (As := []) C hW h (fun r hr => c_X2_active_3 hr) lk_X1_95 (hW.recv xr_3) rfl hl.1 ⟨rfl, rfl⟩ ⟨Nat.le_of_ble_eq_true rfl, Nat.le_of_ble_eq_true rfl⟩ (Nat.le_of_ble_eq_true rfl) ⟨Nat.zero_le _, Nat.zero_le _⟩ rfl dX1_indispensable_4 (fun v2 S1 H locs h hW => ?_)
  refine lv_istore_n (lv' := [(2, .int v2), (0, .ref (ad 13)), (1, .int x1)]) hx hb dX1_indispensable_7 rfl hl (by decide) rfl (fun ls hl => ?_)
  refine lv_iconst (v := 0) hx hb dX1_indispensable_8 (by decide) ?_
  refine lv_istore_n (lv' := [(3, .int (0 : Int32)), (2, .int v2), (0, .ref (ad 13)), (1, .int x1)]) hx hb dX1_indispensable_9 rfl hl (by decide) rfl (fun ls hl => ?_)
  refine lv_iconst (v := 0) hx hb dX1_indispensable_10 (by decide) ?_
  refine lv_istore (lv' := [(4, .int (0 : Int32)), (3, .int (0 : Int32)), (2, .int v2), (0, .ref (ad 13)), (1, .int x1)]) hx hb dX1_indispensable_11 hl (by decide) rfl (fun ls hl => ?_)
  exact w_X1_indispensable_13_b13 (F := F) C F _ _ _ _ _ _ _ _ h hW (lv_sub hl [3, 4, 2, 1, 0] rfl)
def n_X1_indispensable_13 (F : Nat) (S : Zs) (x1 : Int32) : Option (Int32 × Zs) := n_X1_indispensable_13_e F  S x1
theorem c_X1_indispensable_13 {l : Launch} {D : va_G} {cs ad : Nat → Nat} {F : Nat} {S : Zs} {x1 : Int32} {q : (Int32 × Zs)} (h : n_X1_indispensable_13 F S x1 = some q) : zMi l yX1_indispensable cX1_indispensable 5 (some .int) (zR 3 68) (xG D cs ad) [.ref (ad 13), .int x1] S q :=
  zz_enter (by decide) (Nat.le_of_ble_eq_true rfl) (fun p e s m below meth c ls C hW hl => w_X1_indispensable_13_e (F := F) C h hW (lv_sub hl [0, 1] rfl))
def n_X11_needs_0_b40 (F : Nat)  (S : Zs) (t0 : Int32) : Option (Int32 × Zs) :=
  some (t0, S)
set_option maxRecDepth 20000 in
set_option maxHeartbeats 4000000 in
theorem w_X11_needs_0_b40 {F : Nat} {q : (Int32 × Zs)} {S : Zs}  {t0 : Int32} {ls : Array Slot} {H : Heap} {locs : List Loc} (C : zC p s m args meth c cX11_needs 2 RX11 (some .int))  (h : n_X11_needs_0_b40 F  S t0 = some q) (hW : zW (xG D cs ad) s S H locs) (hl : lv_has ls 2 []) : W p l e (zR 4 92) s m args below meth c H locs 0 0 (zQi (xG D cs ad) q below args s) (F0 m 40 ls [.int t0]) := by
  unfold n_X11_needs_0_b40 at h
  obtain ⟨hx, hb, hml, hown, hts, hret, hlk⟩ := id C
  exact zz_iret C rfl h hW dX11_needs_40
def n_X11_needs_0_e (F : Nat)  (S : Zs) (x1 : Int32) : Option (Int32 × Zs) :=
  zcl (n_X0_isCode F S x1) (fun v2 S1 => if v2 = 0 then (some ((-1 : Int32), S1)) else (zcl (n_X2_active_3 F S1 ) (fun v4 S3 => zcl (n_X1_entails_13 F S3 v4 x1) (fun v6 S5 => if v6 = 0 then (n_X11_needs_0_b40 F  S5 (-2 : Int32)) else (zcl (n_X1_indispensable_13 F S5 x1) (fun v8 S7 => n_X11_needs_0_b40 F  S7 v8))))))
set_option maxRecDepth 20000 in
set_option maxHeartbeats 4000000 in
theorem w_X11_needs_0_e {F : Nat} {q : (Int32 × Zs)} {S : Zs}  {x1 : Int32} {ls : Array Slot} {H : Heap} {locs : List Loc} (C : zC p s m args meth c cX11_needs 2 RX11 (some .int))  (h : n_X11_needs_0_e F  S x1 = some q) (hW : zW (xG D cs ad) s S H locs) (hl : lv_has ls 2 [(0, .ref (ad 0)), (1, .int x1)]) : W p l e (zR 4 92) s m args below meth c H locs 0 0 (zQi (xG D cs ad) q below args s) (F0 m 0 ls []) := by
  unfold n_X11_needs_0_e at h
  obtain ⟨hx, hb, hml, hown, hts, hret, hlk⟩ := id C
  refine lv_iload_n hx hb dX11_needs_0 rfl (lv_at hl 1 rfl) ?_
  refine zz_callSi (As := [.int x1]) C hW h (fun r hr => c_X0_isCode hr) lk_X11_126 rfl hl.1 ⟨rfl, rfl⟩ ⟨Nat.le_of_ble_eq_true rfl, Nat.le_of_ble_eq_true rfl⟩ (Nat.le_of_ble_eq_true rfl) ⟨Nat.zero_le _, Nat.zero_le _⟩ rfl dX11_needs_1 (fun v2 S1 H locs h hW => ?_)
  refine zz_ine (tgt := 9) C h dX11_needs_4 (by decide) (fun h => ?_) (fun h => ?_)
  · refine lv_aload_n hx hb dX11_needs_9 rfl (lv_at hl 0 rfl) ?_
    refine xg_0_2 C hW fl_X11_31 dX11_needs_10 ?_
    refine lv_aload_n hx hb dX11_needs_13 rfl (lv_at hl 0 rfl) ?_
    refine xg_0_1 C hW fl_X11_27 dX11_needs_14 ?_
    refine zz_callVi (As := []) C hW h (fun r hr => c_X2_active_3 hr) lk_X11_144 (hW.recv xr_3) rfl hl.1 ⟨rfl, rfl⟩ ⟨Nat.le_of_ble_eq_true rfl, Nat.le_of_ble_eq_true rfl⟩ (Nat.le_of_ble_eq_true rfl) ⟨Nat.zero_le _, Nat.zero_le _⟩ rfl dX11_needs_17 (fun v4 S3 H locs h hW => ?_)
    refine lv_iload_n hx hb dX11_needs_20 rfl (lv_at hl 1 rfl) ?_
    refine zz_callVi (As := [.int v4, .int x1]) C hW h (fun r hr => c_X1_entails_13 hr) lk_X11_151 (hW.recv xr_13) rfl hl.1 ⟨rfl, rfl⟩ ⟨Nat.le_of_ble_eq_true rfl, Nat.le_of_ble_eq_true rfl⟩ (Nat.le_of_ble_eq_true rfl) ⟨Nat.zero_le _, Nat.zero_le _⟩ rfl dX11_needs_21 (fun v6 S5 H locs h hW => ?_)
    refine zz_ieq (tgt := 38) C h dX11_needs_24 (by decide) (fun h => ?_) (fun h => ?_)
    · refine lv_bipush (v := -2) hx hb dX11_needs_38 (by decide) ?_
      exact w_X11_needs_0_b40 (F := F) C h hW (lv_sub hl [] rfl)
    · refine lv_aload_n hx hb dX11_needs_27 rfl (lv_at hl 0 rfl) ?_
      refine xg_0_2 C hW fl_X11_31 dX11_needs_28 ?_
      refine lv_iload_n hx hb dX11_needs_31 rfl (lv_at hl 1 rfl) ?_
      refine zz_callVi (As := [.int x1]) C hW h (fun r hr => c_X1_indispensable_13 hr) lk_X11_161 (hW.recv xr_13) rfl hl.1 ⟨rfl, rfl⟩ ⟨Nat.le_of_ble_eq_true rfl, Nat.le_of_ble_eq_true rfl⟩ (Nat.le_of_ble_eq_true rfl) ⟨Nat.zero_le _, Nat.zero_le _⟩ rfl dX11_needs_32 (fun v8 S7 H locs h hW => ?_)
      refine lv_goto (tgt := 40) hx hb dX11_needs_35 (by decide) ?_
      exact w_X11_needs_0_b40 (F := F) C h hW (lv_sub hl [] rfl)
  · refine lv_iconst (v := -1) hx hb dX11_needs_7 (by decide) ?_
    exact zz_iret C rfl h hW dX11_needs_8
def n_X11_needs_0 (F : Nat) (S : Zs) (x1 : Int32) : Option (Int32 × Zs) := n_X11_needs_0_e F  S x1
theorem c_X11_needs_0 {l : Launch} {D : va_G} {cs ad : Nat → Nat} {F : Nat} {S : Zs} {x1 : Int32} {q : (Int32 × Zs)} (h : n_X11_needs_0 F S x1 = some q) : zMi l yX11_needs cX11_needs 2 (some .int) (zR 4 92) (xG D cs ad) [.ref (ad 0), .int x1] S q :=
  zz_enter (by decide) (Nat.le_of_ble_eq_true rfl) (fun p e s m below meth c ls C hW hl => w_X11_needs_0_e (F := F) C h hW (lv_sub hl [0, 1] rfl))
def n_X2_activeOf_3_b31 (F : Nat) (rc4 : Zs → Int32 → Int32 → Int32 → Option (Int32 × Zs)) (S : Zs) (x1 : Int32) (x2 : Int32) (x3 : Int32) : Option (Int32 × Zs) :=
  zlet (x3 + (1 : Int32)) (fun v1 => rc4 S x1 x2 v1)
set_option maxRecDepth 20000 in
set_option maxHeartbeats 4000000 in
theorem w_X2_activeOf_3_b31 {F : Nat} {q : (Int32 × Zs)} {S : Zs} {rc4 : Zs → Int32 → Int32 → Int32 → Option (Int32 × Zs)} {x1 : Int32} {x2 : Int32} {x3 : Int32} {ls : Array Slot} {H : Heap} {locs : List Loc} (C : zC p s m args meth c cX2_activeOf 4 RX2 (some .int)) (hrc4 : ∀ (S : Zs) (x1 : Int32) (x2 : Int32) (x3 : Int32) (H : Heap) (locs : List Loc) (ls : Array Slot), rc4 S x1 x2 x3 = some q → zW (xG D cs ad) s S H locs → lv_has ls 4 [(0, .ref (ad 3)), (1, .int x1), (2, .int x2), (3, .int x3)] → W p l e (zR 2 40) s m args below meth c H locs 0 0 (zQi (xG D cs ad) q below args s) (F0 m 4 ls [])) (h : n_X2_activeOf_3_b31 F rc4 S x1 x2 x3 = some q) (hW : zW (xG D cs ad) s S H locs) (hl : lv_has ls 4 [(0, .ref (ad 3)), (1, .int x1), (2, .int x2), (3, .int x3)]) : W p l e (zR 2 40) s m args below meth c H locs 0 0 (zQi (xG D cs ad) q below args s) (F0 m 31 ls []) := by
  unfold n_X2_activeOf_3_b31 at h
  obtain ⟨hx, hb, hml, hown, hts, hret, hlk⟩ := id C
  obtain ⟨v1, ev1, h⟩ := zz_name h
  refine lv_iinc (v := v1) (lv' := [(3, .int v1), (0, .ref (ad 3)), (1, .int x1), (2, .int x2)]) hx hb dX2_activeOf_31 hl (k := 3) rfl ev1.symm (by decide) rfl (fun ls hl => ?_)
  refine lv_goto (tgt := 4) hx hb dX2_activeOf_34 (by decide) ?_
  exact hrc4 _ _ _ _ _ _ _ h hW (lv_sub hl [1, 2, 3, 0] rfl)
def n_X2_activeOf_3_b4_l (F : Nat) (rc4 : Zs → Int32 → Int32 → Int32 → Option (Int32 × Zs)) (S : Zs) (x1 : Int32) (x2 : Int32) (x3 : Int32) : Option (Int32 × Zs) :=
  zgf S 62 (fun v1 => if v1 ≤ x3 then (zcl (n_X2_active_3 F S ) (fun v3 S2 => some ((x2 &&& v3), S2))) else (zld S 5 16 x3 (fun v4 => if ((x1 >>> (v4 &&& 31)) &&& (1 : Int32)) = 0 then (n_X2_activeOf_3_b31 F rc4 S x1 x2 x3) else (zlet (x2 ||| ((1 : Int32) <<< (x3 &&& 31))) (fun v5 => n_X2_activeOf_3_b31 F rc4 S x1 v5 x3)))))
set_option maxRecDepth 20000 in
set_option maxHeartbeats 4000000 in
theorem w_X2_activeOf_3_b4_l {F : Nat} {q : (Int32 × Zs)} {S : Zs} {rc4 : Zs → Int32 → Int32 → Int32 → Option (Int32 × Zs)} {x1 : Int32} {x2 : Int32} {x3 : Int32} {ls : Array Slot} {H : Heap} {locs : List Loc} (C : zC p s m args meth c cX2_activeOf 4 RX2 (some .int)) (hrc4 : ∀ (S : Zs) (x1 : Int32) (x2 : Int32) (x3 : Int32) (H : Heap) (locs : List Loc) (ls : Array Slot), rc4 S x1 x2 x3 = some q → zW (xG D cs ad) s S H locs → lv_has ls 4 [(0, .ref (ad 3)), (1, .int x1), (2, .int x2), (3, .int x3)] → W p l e (zR 2 40) s m args below meth c H locs 0 0 (zQi (xG D cs ad) q below args s) (F0 m 4 ls [])) (h : n_X2_activeOf_3_b4_l F rc4 S x1 x2 x3 = some q) (hW : zW (xG D cs ad) s S H locs) (hl : lv_has ls 4 [(0, .ref (ad 3)), (1, .int x1), (2, .int x2), (3, .int x3)]) : W p l e (zR 2 40) s m args below meth c H locs 0 0 (zQi (xG D cs ad) q below args s) (F0 m 4 ls []) := by
  unfold n_X2_activeOf_3_b4_l at h
  obtain ⟨hx, hb, hml, hown, hts, hret, hlk⟩ := id C
  refine lv_iload_n hx hb dX2_activeOf_4 rfl (lv_at hl 3 rfl) ?_
  refine lv_aload_n hx hb dX2_activeOf_5 rfl (lv_at hl 0 rfl) ?_
  refine xg_3_2 C hW h fl_X2_50 dX2_activeOf_6 (fun v1 h => ?_)
  refine zz_cge (tgt := 37) C h dX2_activeOf_9 (by decide) (fun h => ?_) (fun h => ?_)
  · refine lv_iload_n hx hb dX2_activeOf_37 rfl (lv_at hl 2 rfl) ?_
    refine lv_aload_n hx hb dX2_activeOf_38 rfl (lv_at hl 0 rfl) ?_
    refine zz_callVi (As := []) C hW h (fun r hr => c_X2_active_3 hr) lk_X2_87 (hW.recv xr_3) rfl hl.1 ⟨rfl, rfl⟩ ⟨Nat.le_of_ble_eq_true rfl, Nat.le_of_ble_eq_true rfl⟩ (Nat.le_of_ble_eq_true rfl) ⟨Nat.zero_le _, Nat.zero_le _⟩ rfl dX2_activeOf_39 (fun v3 S2 H locs h hW => ?_)
    refine lv_iand hx hb dX2_activeOf_42 ?_
    exact zz_iret C rfl h hW dX2_activeOf_43
  · refine lv_iload_n hx hb dX2_activeOf_12 rfl (lv_at hl 1 rfl) ?_
    refine lv_aload_n hx hb dX2_activeOf_13 rfl (lv_at hl 0 rfl) ?_
    refine xg_3_1 C hW fl_X2_15 dX2_activeOf_14 ?_
    refine lv_iload_n hx hb dX2_activeOf_17 rfl (lv_at hl 3 rfl) ?_
    refine xl_5 C hW h dX2_activeOf_18 (fun v4 h => ?_)
    refine lv_ishr hx hb dX2_activeOf_19 ?_
    refine lv_iconst (v := 1) hx hb dX2_activeOf_20 (by decide) ?_
    refine lv_iand hx hb dX2_activeOf_21 ?_
    refine zz_ieq (tgt := 31) C h dX2_activeOf_22 (by decide) (fun h => ?_) (fun h => ?_)
    · exact w_X2_activeOf_3_b31 (F := F) C hrc4 h hW (lv_sub hl [0, 1, 2, 3] rfl)
    · refine lv_iload_n hx hb dX2_activeOf_25 rfl (lv_at hl 2 rfl) ?_
      refine lv_iconst (v := 1) hx hb dX2_activeOf_26 (by decide) ?_
      refine lv_iload_n hx hb dX2_activeOf_27 rfl (lv_at hl 3 rfl) ?_
      refine lv_ishl hx hb dX2_activeOf_28 ?_
      refine lv_ior hx hb dX2_activeOf_29 ?_
      refine zz_leti h (fun v5 h => ?_)
      refine lv_istore_n (lv' := [(2, .int v5), (0, .ref (ad 3)), (1, .int x1), (3, .int x3)]) hx hb dX2_activeOf_30 rfl hl (by decide) rfl (fun ls hl => ?_)
      exact w_X2_activeOf_3_b31 (F := F) C hrc4 h hW (lv_sub hl [1, 2, 0, 3] rfl)
def n_X2_activeOf_3_b4 (F : Nat)  (S : Zs) (x1 : Int32) (x2 : Int32) (x3 : Int32) : Option (Int32 × Zs) :=
  zfix (fun (rc : (Zs × Int32 × Int32 × Int32) → Option (Int32 × Zs)) (u : (Zs × Int32 × Int32 × Int32)) => n_X2_activeOf_3_b4_l F  (fun S x1 x2 x3 => rc (S, x1, x2, x3)) u.1 u.2.1 u.2.2.1 u.2.2.2) F (S, x1, x2, x3)
theorem w_X2_activeOf_3_b4 {F : Nat} {q : (Int32 × Zs)}  (C : zC p s m args meth c cX2_activeOf 4 RX2 (some .int))  : ∀ (n : Nat) (S : Zs) (x1 : Int32) (x2 : Int32) (x3 : Int32) (H : Heap) (locs : List Loc) (ls : Array Slot), zfix (fun (rc : (Zs × Int32 × Int32 × Int32) → Option (Int32 × Zs)) (u : (Zs × Int32 × Int32 × Int32)) => n_X2_activeOf_3_b4_l F  (fun S x1 x2 x3 => rc (S, x1, x2, x3)) u.1 u.2.1 u.2.2.1 u.2.2.2) n (S, x1, x2, x3) = some q → zW (xG D cs ad) s S H locs → lv_has ls 4 [(0, .ref (ad 3)), (1, .int x1), (2, .int x2), (3, .int x3)] → W p l e (zR 2 40) s m args below meth c H locs 0 0 (zQi (xG D cs ad) q below args s) (F0 m 4 ls []) := by
  intro n
  induction n with
  | zero => intro S x1 x2 x3 H locs ls h; exact absurd h (fun h => by cases h)
  | succ n ih => intro S x1 x2 x3 H locs ls h hW hl; exact w_X2_activeOf_3_b4_l (F := F) C (fun S x1 x2 x3 H locs ls h hW hl => ih S x1 x2 x3 H locs ls h hW hl) h hW hl
def n_X2_activeOf_3_e (F : Nat)  (S : Zs) (x1 : Int32) : Option (Int32 × Zs) :=
  n_X2_activeOf_3_b4 F  S x1 (0 : Int32) (0 : Int32)
set_option maxRecDepth 20000 in
set_option maxHeartbeats 4000000 in
theorem w_X2_activeOf_3_e {F : Nat} {q : (Int32 × Zs)} {S : Zs}  {x1 : Int32} {ls : Array Slot} {H : Heap} {locs : List Loc} (C : zC p s m args meth c cX2_activeOf 4 RX2 (some .int))  (h : n_X2_activeOf_3_e F  S x1 = some q) (hW : zW (xG D cs ad) s S H locs) (hl : lv_has ls 4 [(0, .ref (ad 3)), (1, .int x1)]) : W p l e (zR 2 40) s m args below meth c H locs 0 0 (zQi (xG D cs ad) q below args s) (F0 m 0 ls []) := by
  unfold n_X2_activeOf_3_e at h
  obtain ⟨hx, hb, hml, hown, hts, hret, hlk⟩ := id C
  refine lv_iconst (v := 0) hx hb dX2_activeOf_0 (by decide) ?_
  refine lv_istore_n (lv' := [(2, .int (0 : Int32)), (0, .ref (ad 3)), (1, .int x1)]) hx hb dX2_activeOf_1 rfl hl (by decide) rfl (fun ls hl => ?_)
  refine lv_iconst (v := 0) hx hb dX2_activeOf_2 (by decide) ?_
  refine lv_istore_n (lv' := [(3, .int (0 : Int32)), (2, .int (0 : Int32)), (0, .ref (ad 3)), (1, .int x1)]) hx hb dX2_activeOf_3 rfl hl (by decide) rfl (fun ls hl => ?_)
  exact w_X2_activeOf_3_b4 (F := F) C F _ _ _ _ _ _ _ h hW (lv_sub hl [2, 3, 1, 0] rfl)
def n_X2_activeOf_3 (F : Nat) (S : Zs) (x1 : Int32) : Option (Int32 × Zs) := n_X2_activeOf_3_e F  S x1
theorem c_X2_activeOf_3 {l : Launch} {D : va_G} {cs ad : Nat → Nat} {F : Nat} {S : Zs} {x1 : Int32} {q : (Int32 × Zs)} (h : n_X2_activeOf_3 F S x1 = some q) : zMi l yX2_activeOf cX2_activeOf 4 (some .int) (zR 2 40) (xG D cs ad) [.ref (ad 3), .int x1] S q :=
  zz_enter (by decide) (Nat.le_of_ble_eq_true rfl) (fun p e s m below meth c ls C hW hl => w_X2_activeOf_3_e (F := F) C h hW (lv_sub hl [0, 1] rfl))
def n_X6_enough_23_b34_l (F : Nat) (rc34 : Zs → Int32 → Int32 → Option (Int32 × Zs)) (S : Zs) (x1 : Int32) (x2 : Int32) : Option (Int32 × Zs) :=
  zgf S 68 (fun v1 => if v1 ≤ x2 then (zrb (1 : Int32) S) else (zld S 6 6 x2 (fun v2 => zcl (n_X1_entails_13 F S x1 v2) (fun v4 S3 => if v4 = 0 then (zrb (0 : Int32) S3) else (zlet (x2 + (1 : Int32)) (fun v5 => rc34 S3 x1 v5))))))
set_option maxRecDepth 20000 in
set_option maxHeartbeats 4000000 in
theorem w_X6_enough_23_b34_l {F : Nat} {q : (Int32 × Zs)} {S : Zs} {rc34 : Zs → Int32 → Int32 → Option (Int32 × Zs)} {x1 : Int32} {x2 : Int32} {ls : Array Slot} {H : Heap} {locs : List Loc} (C : zC p s m args meth c cX6_enough 3 RX6 (some .boolean)) (hrc34 : ∀ (S : Zs) (x1 : Int32) (x2 : Int32) (H : Heap) (locs : List Loc) (ls : Array Slot), rc34 S x1 x2 = some q → zW (xG D cs ad) s S H locs → lv_has ls 3 [(0, .ref (ad 23)), (1, .int x1), (2, .int x2)] → W p l e (zR 3 68) s m args below meth c H locs 0 0 (zQi (xG D cs ad) q below args s) (F0 m 34 ls [])) (h : n_X6_enough_23_b34_l F rc34 S x1 x2 = some q) (hW : zW (xG D cs ad) s S H locs) (hl : lv_has ls 3 [(0, .ref (ad 23)), (1, .int x1), (2, .int x2)]) : W p l e (zR 3 68) s m args below meth c H locs 0 0 (zQi (xG D cs ad) q below args s) (F0 m 34 ls []) := by
  unfold n_X6_enough_23_b34_l at h
  obtain ⟨hx, hb, hml, hown, hts, hret, hlk⟩ := id C
  refine lv_iload_n hx hb dX6_enough_34 rfl (lv_at hl 2 rfl) ?_
  refine lv_aload_n hx hb dX6_enough_35 rfl (lv_at hl 0 rfl) ?_
  refine xg_23_0 C hW fl_X6_9 dX6_enough_36 ?_
  refine xg_3_8 C hW h fl_X6_57 dX6_enough_39 (fun v1 h => ?_)
  refine zz_cge (tgt := 73) C h dX6_enough_42 (by decide) (fun h => ?_) (fun h => ?_)
  · refine lv_iconst (v := 1) hx hb dX6_enough_73 (by decide) ?_
    exact zz_zret C rfl h hW dX6_enough_74
  · refine lv_aload_n hx hb dX6_enough_45 rfl (lv_at hl 0 rfl) ?_
    refine xg_23_1 C hW fl_X6_15 dX6_enough_46 ?_
    refine lv_iload_n hx hb dX6_enough_49 rfl (lv_at hl 1 rfl) ?_
    refine lv_aload_n hx hb dX6_enough_50 rfl (lv_at hl 0 rfl) ?_
    refine xg_23_0 C hW fl_X6_9 dX6_enough_51 ?_
    refine xg_3_7 C hW fl_X6_62 dX6_enough_54 ?_
    refine lv_iload_n hx hb dX6_enough_57 rfl (lv_at hl 2 rfl) ?_
    refine xl_6 C hW h dX6_enough_58 (fun v2 h => ?_)
    refine zz_callVi (As := [.int x1, .int v2]) C hW h (fun r hr => c_X1_entails_13 hr) lk_X6_66 (hW.recv xr_13) rfl hl.1 ⟨rfl, rfl⟩ ⟨Nat.le_of_ble_eq_true rfl, Nat.le_of_ble_eq_true rfl⟩ (Nat.le_of_ble_eq_true rfl) ⟨Nat.zero_le _, Nat.zero_le _⟩ rfl dX6_enough_59 (fun v4 S3 H locs h hW => ?_)
    refine zz_ine (tgt := 67) C h dX6_enough_62 (by decide) (fun h => ?_) (fun h => ?_)
    · obtain ⟨v5, ev5, h⟩ := zz_name h
      refine lv_iinc (v := v5) (lv' := [(2, .int v5), (0, .ref (ad 23)), (1, .int x1)]) hx hb dX6_enough_67 hl (k := 2) rfl ev5.symm (by decide) rfl (fun ls hl => ?_)
      refine lv_goto (tgt := 34) hx hb dX6_enough_70 (by decide) ?_
      exact hrc34 _ _ _ _ _ _ h hW (lv_sub hl [1, 2, 0] rfl)
    · refine lv_iconst (v := 0) hx hb dX6_enough_65 (by decide) ?_
      exact zz_zret C rfl h hW dX6_enough_66
def n_X6_enough_23_b34 (F : Nat)  (S : Zs) (x1 : Int32) (x2 : Int32) : Option (Int32 × Zs) :=
  zfix (fun (rc : (Zs × Int32 × Int32) → Option (Int32 × Zs)) (u : (Zs × Int32 × Int32)) => n_X6_enough_23_b34_l F  (fun S x1 x2 => rc (S, x1, x2)) u.1 u.2.1 u.2.2) F (S, x1, x2)
theorem w_X6_enough_23_b34 {F : Nat} {q : (Int32 × Zs)}  (C : zC p s m args meth c cX6_enough 3 RX6 (some .boolean))  : ∀ (n : Nat) (S : Zs) (x1 : Int32) (x2 : Int32) (H : Heap) (locs : List Loc) (ls : Array Slot), zfix (fun (rc : (Zs × Int32 × Int32) → Option (Int32 × Zs)) (u : (Zs × Int32 × Int32)) => n_X6_enough_23_b34_l F  (fun S x1 x2 => rc (S, x1, x2)) u.1 u.2.1 u.2.2) n (S, x1, x2) = some q → zW (xG D cs ad) s S H locs → lv_has ls 3 [(0, .ref (ad 23)), (1, .int x1), (2, .int x2)] → W p l e (zR 3 68) s m args below meth c H locs 0 0 (zQi (xG D cs ad) q below args s) (F0 m 34 ls []) := by
  intro n
  induction n with
  | zero => intro S x1 x2 H locs ls h; exact absurd h (fun h => by cases h)
  | succ n ih => intro S x1 x2 H locs ls h hW hl; exact w_X6_enough_23_b34_l (F := F) C (fun S x1 x2 H locs ls h hW hl => ih S x1 x2 H locs ls h hW hl) h hW hl
def n_X6_enough_23_e (F : Nat)  (S : Zs) (x1 : Int32) : Option (Int32 × Zs) :=
  zgf S 462 (fun v1 => if v1 = (0 : Int32) then (n_X6_enough_23_b34 F  S x1 (0 : Int32)) else (if v1 = (1 : Int32) then (zcl (n_X2_active_3 F S ) (fun v3 S2 => zcl (n_X1_consistent_13 F S2 (v3 &&& (x1 ^^^ (-1 : Int32)))) (fun v5 S4 => zrb v5 S4))) else (if v1 = (2 : Int32) then (zcl (n_X2_active_3 F S ) (fun v7 S6 => zcl (n_X2_activeOf_3 F S6 x1) (fun v9 S8 => zcl (n_X1_consistent_13 F S8 (v7 &&& (v9 ^^^ (-1 : Int32)))) (fun v11 S10 => zrb v11 S10)))) else (zcl (n_X2_activeOf_3 F S x1) (fun v13 S12 => zgf S12 463 (fun v14 => zcl (n_X1_entails_13 F S12 v13 v14) (fun v16 S15 => zrb v16 S15)))))))
set_option maxRecDepth 20000 in
set_option maxHeartbeats 4000000 in
theorem w_X6_enough_23_e {F : Nat} {q : (Int32 × Zs)} {S : Zs}  {x1 : Int32} {ls : Array Slot} {H : Heap} {locs : List Loc} (C : zC p s m args meth c cX6_enough 3 RX6 (some .boolean))  (h : n_X6_enough_23_e F  S x1 = some q) (hW : zW (xG D cs ad) s S H locs) (hl : lv_has ls 3 [(0, .ref (ad 23)), (1, .int x1)]) : W p l e (zR 3 68) s m args below meth c H locs 0 0 (zQi (xG D cs ad) q below args s) (F0 m 0 ls []) := by
  unfold n_X6_enough_23_e at h
  obtain ⟨hx, hb, hml, hown, hts, hret, hlk⟩ := id C
  refine lv_aload_n hx hb dX6_enough_0 rfl (lv_at hl 0 rfl) ?_
  refine xg_23_2 C hW h fl_X6_19 dX6_enough_1 (fun v1 h => ?_)
  by_cases e0 : v1 = (0 : Int32)
  · replace h := (zz_if h).1 e0
    refine lv_tableIn (off := 28) (tgt := 32) hx hb dX6_enough_4 (by rw [e0]; decide) (by rw [e0]; decide) (by rw [e0]; rfl) (by decide) ?_
    refine lv_iconst (v := 0) hx hb dX6_enough_32 (by decide) ?_
    refine lv_istore_n (lv' := [(2, .int (0 : Int32)), (0, .ref (ad 23)), (1, .int x1)]) hx hb dX6_enough_33 rfl hl (by decide) rfl (fun ls hl => ?_)
    exact w_X6_enough_23_b34 (F := F) C F _ _ _ _ _ _ h hW (lv_sub hl [1, 2, 0] rfl)
  · replace h := (zz_if h).2 e0
    by_cases e1 : v1 = (1 : Int32)
    · replace h := (zz_if h).1 e1
      refine lv_tableIn (off := 71) (tgt := 75) hx hb dX6_enough_4 (by rw [e1]; decide) (by rw [e1]; decide) (by rw [e1]; rfl) (by decide) ?_
      refine lv_aload_n hx hb dX6_enough_75 rfl (lv_at hl 0 rfl) ?_
      refine xg_23_1 C hW fl_X6_15 dX6_enough_76 ?_
      refine lv_aload_n hx hb dX6_enough_79 rfl (lv_at hl 0 rfl) ?_
      refine xg_23_0 C hW fl_X6_9 dX6_enough_80 ?_
      refine zz_callVi (As := []) C hW h (fun r hr => c_X2_active_3 hr) lk_X6_72 (hW.recv xr_3) rfl hl.1 ⟨rfl, rfl⟩ ⟨Nat.le_of_ble_eq_true rfl, Nat.le_of_ble_eq_true rfl⟩ (Nat.le_of_ble_eq_true rfl) ⟨Nat.zero_le _, Nat.zero_le _⟩ rfl dX6_enough_83 (fun v3 S2 H locs h hW => ?_)
      refine lv_iload_n hx hb dX6_enough_86 rfl (lv_at hl 1 rfl) ?_
      refine lv_iconst (v := -1) hx hb dX6_enough_87 (by decide) ?_
      refine lv_ixor hx hb dX6_enough_88 ?_
      refine lv_iand hx hb dX6_enough_89 ?_
      refine zz_callVi (As := [.int (v3 &&& (x1 ^^^ (-1 : Int32)))]) C hW h (fun r hr => c_X1_consistent_13 hr) lk_X6_76 (hW.recv xr_13) rfl hl.1 ⟨rfl, rfl⟩ ⟨Nat.le_of_ble_eq_true rfl, Nat.le_of_ble_eq_true rfl⟩ (Nat.le_of_ble_eq_true rfl) ⟨Nat.zero_le _, Nat.zero_le _⟩ rfl dX6_enough_90 (fun v5 S4 H locs h hW => ?_)
      exact zz_zret C rfl h hW dX6_enough_93
    · replace h := (zz_if h).2 e1
      by_cases e2 : v1 = (2 : Int32)
      · replace h := (zz_if h).1 e2
        refine lv_tableIn (off := 90) (tgt := 94) hx hb dX6_enough_4 (by rw [e2]; decide) (by rw [e2]; decide) (by rw [e2]; rfl) (by decide) ?_
        refine lv_aload_n hx hb dX6_enough_94 rfl (lv_at hl 0 rfl) ?_
        refine xg_23_1 C hW fl_X6_15 dX6_enough_95 ?_
        refine lv_aload_n hx hb dX6_enough_98 rfl (lv_at hl 0 rfl) ?_
        refine xg_23_0 C hW fl_X6_9 dX6_enough_99 ?_
        refine zz_callVi (As := []) C hW h (fun r hr => c_X2_active_3 hr) lk_X6_72 (hW.recv xr_3) rfl hl.1 ⟨rfl, rfl⟩ ⟨Nat.le_of_ble_eq_true rfl, Nat.le_of_ble_eq_true rfl⟩ (Nat.le_of_ble_eq_true rfl) ⟨Nat.zero_le _, Nat.zero_le _⟩ rfl dX6_enough_102 (fun v7 S6 H locs h hW => ?_)
        refine lv_aload_n hx hb dX6_enough_105 rfl (lv_at hl 0 rfl) ?_
        refine xg_23_0 C hW fl_X6_9 dX6_enough_106 ?_
        refine lv_iload_n hx hb dX6_enough_109 rfl (lv_at hl 1 rfl) ?_
        refine zz_callVi (As := [.int x1]) C hW h (fun r hr => c_X2_activeOf_3 hr) lk_X6_79 (hW.recv xr_3) rfl hl.1 ⟨rfl, rfl⟩ ⟨Nat.le_of_ble_eq_true rfl, Nat.le_of_ble_eq_true rfl⟩ (Nat.le_of_ble_eq_true rfl) ⟨Nat.zero_le _, Nat.zero_le _⟩ rfl dX6_enough_110 (fun v9 S8 H locs h hW => ?_)
        refine lv_iconst (v := -1) hx hb dX6_enough_113 (by decide) ?_
        refine lv_ixor hx hb dX6_enough_114 ?_
        refine lv_iand hx hb dX6_enough_115 ?_
        refine zz_callVi (As := [.int (v7 &&& (v9 ^^^ (-1 : Int32)))]) C hW h (fun r hr => c_X1_consistent_13 hr) lk_X6_76 (hW.recv xr_13) rfl hl.1 ⟨rfl, rfl⟩ ⟨Nat.le_of_ble_eq_true rfl, Nat.le_of_ble_eq_true rfl⟩ (Nat.le_of_ble_eq_true rfl) ⟨Nat.zero_le _, Nat.zero_le _⟩ rfl dX6_enough_116 (fun v11 S10 H locs h hW => ?_)
        exact zz_zret C rfl h hW dX6_enough_119
      · replace h := (zz_if h).2 e2
        refine lv_tableOut (tgt := 120) hx hb dX6_enough_4 (zsw_out (fun k h1 h2 => by rcases (show k = 0 ∨ k = 1 ∨ k = 2 by omega) with rfl | rfl | rfl <;> first | exact e0 | exact e1 | exact e2)) (by decide) ?_
        refine lv_aload_n hx hb dX6_enough_120 rfl (lv_at hl 0 rfl) ?_
        refine xg_23_1 C hW fl_X6_15 dX6_enough_121 ?_
        refine lv_aload_n hx hb dX6_enough_124 rfl (lv_at hl 0 rfl) ?_
        refine xg_23_0 C hW fl_X6_9 dX6_enough_125 ?_
        refine lv_iload_n hx hb dX6_enough_128 rfl (lv_at hl 1 rfl) ?_
        refine zz_callVi (As := [.int x1]) C hW h (fun r hr => c_X2_activeOf_3 hr) lk_X6_79 (hW.recv xr_3) rfl hl.1 ⟨rfl, rfl⟩ ⟨Nat.le_of_ble_eq_true rfl, Nat.le_of_ble_eq_true rfl⟩ (Nat.le_of_ble_eq_true rfl) ⟨Nat.zero_le _, Nat.zero_le _⟩ rfl dX6_enough_129 (fun v13 S12 H locs h hW => ?_)
        refine lv_aload_n hx hb dX6_enough_132 rfl (lv_at hl 0 rfl) ?_
        refine xg_23_3 C hW h fl_X6_23 dX6_enough_133 (fun v14 h => ?_)
        refine zz_callVi (As := [.int v13, .int v14]) C hW h (fun r hr => c_X1_entails_13 hr) lk_X6_66 (hW.recv xr_13) rfl hl.1 ⟨rfl, rfl⟩ ⟨Nat.le_of_ble_eq_true rfl, Nat.le_of_ble_eq_true rfl⟩ (Nat.le_of_ble_eq_true rfl) ⟨Nat.zero_le _, Nat.zero_le _⟩ rfl dX6_enough_136 (fun v16 S15 H locs h hW => ?_)
        exact zz_zret C rfl h hW dX6_enough_139
def n_X6_enough_23 (F : Nat) (S : Zs) (x1 : Int32) : Option (Int32 × Zs) := n_X6_enough_23_e F  S x1
theorem c_X6_enough_23 {l : Launch} {D : va_G} {cs ad : Nat → Nat} {F : Nat} {S : Zs} {x1 : Int32} {q : (Int32 × Zs)} (h : n_X6_enough_23 F S x1 = some q) : zMi l yX6_enough cX6_enough 3 (some .boolean) (zR 3 68) (xG D cs ad) [.ref (ad 23), .int x1] S q :=
  zz_enter (by decide) (Nat.le_of_ble_eq_true rfl) (fun p e s m below meth c ls C hW hl => w_X6_enough_23_e (F := F) C h hW (lv_sub hl [0, 1] rfl))
def n_X6_cutOf_23_b41 (F : Nat) (rc5 : Zs → Int32 → Int32 → Int32 → Option (Int32 × Zs)) (S : Zs) (x2 : Int32) (x3 : Int32) (x4 : Int32) : Option (Int32 × Zs) :=
  zlet (x4 + (1 : Int32)) (fun v1 => rc5 S x2 x3 v1)
set_option maxRecDepth 20000 in
set_option maxHeartbeats 4000000 in
theorem w_X6_cutOf_23_b41 {F : Nat} {q : (Int32 × Zs)} {S : Zs} {rc5 : Zs → Int32 → Int32 → Int32 → Option (Int32 × Zs)} {x2 : Int32} {x3 : Int32} {x4 : Int32} {ls : Array Slot} {H : Heap} {locs : List Loc} (C : zC p s m args meth c cX6_cutOf 5 RX6 (some .int)) (hrc5 : ∀ (S : Zs) (x2 : Int32) (x3 : Int32) (x4 : Int32) (H : Heap) (locs : List Loc) (ls : Array Slot), rc5 S x2 x3 x4 = some q → zW (xG D cs ad) s S H locs → lv_has ls 5 [(0, .ref (ad 23)), (2, .int x2), (3, .int x3), (4, .int x4)] → W p l e (zR 4 90) s m args below meth c H locs 0 0 (zQi (xG D cs ad) q below args s) (F0 m 5 ls [])) (h : n_X6_cutOf_23_b41 F rc5 S x2 x3 x4 = some q) (hW : zW (xG D cs ad) s S H locs) (hl : lv_has ls 5 [(0, .ref (ad 23)), (2, .int x2), (3, .int x3), (4, .int x4)]) : W p l e (zR 4 90) s m args below meth c H locs 0 0 (zQi (xG D cs ad) q below args s) (F0 m 41 ls []) := by
  unfold n_X6_cutOf_23_b41 at h
  obtain ⟨hx, hb, hml, hown, hts, hret, hlk⟩ := id C
  obtain ⟨v1, ev1, h⟩ := zz_name h
  refine lv_iinc (v := v1) (lv' := [(4, .int v1), (0, .ref (ad 23)), (2, .int x2), (3, .int x3)]) hx hb dX6_cutOf_41 hl (k := 3) rfl ev1.symm (by decide) rfl (fun ls hl => ?_)
  refine lv_goto (tgt := 5) hx hb dX6_cutOf_44 (by decide) ?_
  exact hrc5 _ _ _ _ _ _ _ h hW (lv_sub hl [1, 2, 3, 0] rfl)
def n_X6_cutOf_23_b5_l (F : Nat) (rc5 : Zs → Int32 → Int32 → Int32 → Option (Int32 × Zs)) (S : Zs) (x2 : Int32) (x3 : Int32) (x4 : Int32) : Option (Int32 × Zs) :=
  if (16 : Int32) ≤ x4 then (some ((x2 &&& (x3 ^^^ (-1 : Int32))), S)) else (if ((x2 >>> (x4 &&& 31)) &&& (1 : Int32)) = 0 then (n_X6_cutOf_23_b41 F rc5 S x2 x3 x4) else (zcl (n_X6_enough_23 F S (x3 ||| ((1 : Int32) <<< (x4 &&& 31)))) (fun v2 S1 => if v2 = 0 then (zlet (x3 ||| ((1 : Int32) <<< (x4 &&& 31))) (fun v3 => n_X6_cutOf_23_b41 F rc5 S1 x2 v3 x4)) else (n_X6_cutOf_23_b41 F rc5 S1 x2 x3 x4))))
set_option maxRecDepth 20000 in
set_option maxHeartbeats 4000000 in
theorem w_X6_cutOf_23_b5_l {F : Nat} {q : (Int32 × Zs)} {S : Zs} {rc5 : Zs → Int32 → Int32 → Int32 → Option (Int32 × Zs)} {x2 : Int32} {x3 : Int32} {x4 : Int32} {ls : Array Slot} {H : Heap} {locs : List Loc} (C : zC p s m args meth c cX6_cutOf 5 RX6 (some .int)) (hrc5 : ∀ (S : Zs) (x2 : Int32) (x3 : Int32) (x4 : Int32) (H : Heap) (locs : List Loc) (ls : Array Slot), rc5 S x2 x3 x4 = some q → zW (xG D cs ad) s S H locs → lv_has ls 5 [(0, .ref (ad 23)), (2, .int x2), (3, .int x3), (4, .int x4)] → W p l e (zR 4 90) s m args below meth c H locs 0 0 (zQi (xG D cs ad) q below args s) (F0 m 5 ls [])) (h : n_X6_cutOf_23_b5_l F rc5 S x2 x3 x4 = some q) (hW : zW (xG D cs ad) s S H locs) (hl : lv_has ls 5 [(0, .ref (ad 23)), (2, .int x2), (3, .int x3), (4, .int x4)]) : W p l e (zR 4 90) s m args below meth c H locs 0 0 (zQi (xG D cs ad) q below args s) (F0 m 5 ls []) := by
  unfold n_X6_cutOf_23_b5_l at h
  obtain ⟨hx, hb, hml, hown, hts, hret, hlk⟩ := id C
  refine lv_iload hx hb dX6_cutOf_5 (lv_at hl 3 rfl) ?_
  refine lv_bipush (v := 16) hx hb dX6_cutOf_7 (by decide) ?_
  refine zz_cge (tgt := 47) C h dX6_cutOf_9 (by decide) (fun h => ?_) (fun h => ?_)
  · refine lv_iload_n hx hb dX6_cutOf_47 rfl (lv_at hl 1 rfl) ?_
    refine lv_iload_n hx hb dX6_cutOf_48 rfl (lv_at hl 2 rfl) ?_
    refine lv_iconst (v := -1) hx hb dX6_cutOf_49 (by decide) ?_
    refine lv_ixor hx hb dX6_cutOf_50 ?_
    refine lv_iand hx hb dX6_cutOf_51 ?_
    exact zz_iret C rfl h hW dX6_cutOf_52
  · refine lv_iload_n hx hb dX6_cutOf_12 rfl (lv_at hl 1 rfl) ?_
    refine lv_iload hx hb dX6_cutOf_13 (lv_at hl 3 rfl) ?_
    refine lv_ishr hx hb dX6_cutOf_15 ?_
    refine lv_iconst (v := 1) hx hb dX6_cutOf_16 (by decide) ?_
    refine lv_iand hx hb dX6_cutOf_17 ?_
    refine zz_ieq (tgt := 41) C h dX6_cutOf_18 (by decide) (fun h => ?_) (fun h => ?_)
    · exact w_X6_cutOf_23_b41 (F := F) C hrc5 h hW (lv_sub hl [0, 1, 2, 3] rfl)
    · refine lv_aload_n hx hb dX6_cutOf_21 rfl (lv_at hl 0 rfl) ?_
      refine lv_iload_n hx hb dX6_cutOf_22 rfl (lv_at hl 2 rfl) ?_
      refine lv_iconst (v := 1) hx hb dX6_cutOf_23 (by decide) ?_
      refine lv_iload hx hb dX6_cutOf_24 (lv_at hl 3 rfl) ?_
      refine lv_ishl hx hb dX6_cutOf_26 ?_
      refine lv_ior hx hb dX6_cutOf_27 ?_
      refine zz_callVi (As := [.int (x3 ||| ((1 : Int32) <<< (x4 &&& 31)))]) C hW h (fun r hr => c_X6_enough_23 hr) lk_X6_33 (hW.recv xr_23) rfl hl.1 ⟨rfl, rfl⟩ ⟨Nat.le_of_ble_eq_true rfl, Nat.le_of_ble_eq_true rfl⟩ (Nat.le_of_ble_eq_true rfl) ⟨Nat.zero_le _, Nat.zero_le _⟩ rfl dX6_cutOf_28 (fun v2 S1 H locs h hW => ?_)
      refine zz_ine (tgt := 41) C h dX6_cutOf_31 (by decide) (fun h => ?_) (fun h => ?_)
      · exact w_X6_cutOf_23_b41 (F := F) C hrc5 h hW (lv_sub hl [0, 1, 2, 3] rfl)
      · refine lv_iload_n hx hb dX6_cutOf_34 rfl (lv_at hl 2 rfl) ?_
        refine lv_iconst (v := 1) hx hb dX6_cutOf_35 (by decide) ?_
        refine lv_iload hx hb dX6_cutOf_36 (lv_at hl 3 rfl) ?_
        refine lv_ishl hx hb dX6_cutOf_38 ?_
        refine lv_ior hx hb dX6_cutOf_39 ?_
        refine zz_leti h (fun v3 h => ?_)
        refine lv_istore_n (lv' := [(3, .int v3), (0, .ref (ad 23)), (2, .int x2), (4, .int x4)]) hx hb dX6_cutOf_40 rfl hl (by decide) rfl (fun ls hl => ?_)
        exact w_X6_cutOf_23_b41 (F := F) C hrc5 h hW (lv_sub hl [1, 2, 0, 3] rfl)
def n_X6_cutOf_23_b5 (F : Nat)  (S : Zs) (x2 : Int32) (x3 : Int32) (x4 : Int32) : Option (Int32 × Zs) :=
  zfix (fun (rc : (Zs × Int32 × Int32 × Int32) → Option (Int32 × Zs)) (u : (Zs × Int32 × Int32 × Int32)) => n_X6_cutOf_23_b5_l F  (fun S x2 x3 x4 => rc (S, x2, x3, x4)) u.1 u.2.1 u.2.2.1 u.2.2.2) F (S, x2, x3, x4)
theorem w_X6_cutOf_23_b5 {F : Nat} {q : (Int32 × Zs)}  (C : zC p s m args meth c cX6_cutOf 5 RX6 (some .int))  : ∀ (n : Nat) (S : Zs) (x2 : Int32) (x3 : Int32) (x4 : Int32) (H : Heap) (locs : List Loc) (ls : Array Slot), zfix (fun (rc : (Zs × Int32 × Int32 × Int32) → Option (Int32 × Zs)) (u : (Zs × Int32 × Int32 × Int32)) => n_X6_cutOf_23_b5_l F  (fun S x2 x3 x4 => rc (S, x2, x3, x4)) u.1 u.2.1 u.2.2.1 u.2.2.2) n (S, x2, x3, x4) = some q → zW (xG D cs ad) s S H locs → lv_has ls 5 [(0, .ref (ad 23)), (2, .int x2), (3, .int x3), (4, .int x4)] → W p l e (zR 4 90) s m args below meth c H locs 0 0 (zQi (xG D cs ad) q below args s) (F0 m 5 ls []) := by
  intro n
  induction n with
  | zero => intro S x2 x3 x4 H locs ls h; exact absurd h (fun h => by cases h)
  | succ n ih => intro S x2 x3 x4 H locs ls h hW hl; exact w_X6_cutOf_23_b5_l (F := F) C (fun S x2 x3 x4 H locs ls h hW hl => ih S x2 x3 x4 H locs ls h hW hl) h hW hl
def n_X6_cutOf_23_e (F : Nat)  (S : Zs) (x1 : Int32) (x2 : Int32) : Option (Int32 × Zs) :=
  n_X6_cutOf_23_b5 F  S x2 x1 (0 : Int32)
set_option maxRecDepth 20000 in
set_option maxHeartbeats 4000000 in
theorem w_X6_cutOf_23_e {F : Nat} {q : (Int32 × Zs)} {S : Zs}  {x1 : Int32} {x2 : Int32} {ls : Array Slot} {H : Heap} {locs : List Loc} (C : zC p s m args meth c cX6_cutOf 5 RX6 (some .int))  (h : n_X6_cutOf_23_e F  S x1 x2 = some q) (hW : zW (xG D cs ad) s S H locs) (hl : lv_has ls 5 [(0, .ref (ad 23)), (1, .int x1), (2, .int x2)]) : W p l e (zR 4 90) s m args below meth c H locs 0 0 (zQi (xG D cs ad) q below args s) (F0 m 0 ls []) := by
  unfold n_X6_cutOf_23_e at h
  obtain ⟨hx, hb, hml, hown, hts, hret, hlk⟩ := id C
  refine lv_iload_n hx hb dX6_cutOf_0 rfl (lv_at hl 1 rfl) ?_
  refine lv_istore_n (lv' := [(3, .int x1), (0, .ref (ad 23)), (1, .int x1), (2, .int x2)]) hx hb dX6_cutOf_1 rfl hl (by decide) rfl (fun ls hl => ?_)
  refine lv_iconst (v := 0) hx hb dX6_cutOf_2 (by decide) ?_
  refine lv_istore (lv' := [(4, .int (0 : Int32)), (3, .int x1), (0, .ref (ad 23)), (1, .int x1), (2, .int x2)]) hx hb dX6_cutOf_3 hl (by decide) rfl (fun ls hl => ?_)
  exact w_X6_cutOf_23_b5 (F := F) C F _ _ _ _ _ _ _ h hW (lv_sub hl [2, 4, 1, 0] rfl)
def n_X6_cutOf_23 (F : Nat) (S : Zs) (x1 : Int32) (x2 : Int32) : Option (Int32 × Zs) := n_X6_cutOf_23_e F  S x1 x2
theorem c_X6_cutOf_23 {l : Launch} {D : va_G} {cs ad : Nat → Nat} {F : Nat} {S : Zs} {x1 : Int32} {x2 : Int32} {q : (Int32 × Zs)} (h : n_X6_cutOf_23 F S x1 x2 = some q) : zMi l yX6_cutOf cX6_cutOf 5 (some .int) (zR 4 90) (xG D cs ad) [.ref (ad 23), .int x1, .int x2] S q :=
  zz_enter (by decide) (Nat.le_of_ble_eq_true rfl) (fun p e s m below meth c ls C hW hl => w_X6_cutOf_23_e (F := F) C h hW (lv_sub hl [0, 1, 2] rfl))
def n_X6_explore_23_b181 (F : Nat) (slf : Zs → Int32 → Int32 → Int32 → Option (Int32 × Zs))  (S : Zs)  : Option (Int32 × Zs) :=
  some (0, S)
set_option maxRecDepth 20000 in
set_option maxHeartbeats 4000000 in
theorem w_X6_explore_23_b181 {F : Nat} {q : (Int32 × Zs)} {S : Zs}   {ls : Array Slot} {H : Heap} {locs : List Loc} {d : Nat} {slf : Zs → Int32 → Int32 → Int32 → Option (Int32 × Zs)} (C : zC p s m args meth c cX6_explore 11 RX6 none) (hslf : ∀ (S : Zs) (x1 : Int32) (x2 : Int32) (x3 : Int32) (r : (Int32 × Zs)), slf S x1 x2 x3 = some r → zMv l yX6_explore cX6_explore 11 none (zR (4 + d) (114 + 30 * d)) (xG D cs ad) [.ref (ad 23), .int x1, .int x2, .int x3] S r)  (h : n_X6_explore_23_b181 F slf  S  = some q) (hW : zW (xG D cs ad) s S H locs) (hl : lv_has ls 11 []) : W p l e (zR (4 + (d + 1)) (114 + 30 * (d + 1))) s m args below meth c H locs 0 0 (zQv (xG D cs ad) q below args s) (F0 m 181 ls []) := by
  unfold n_X6_explore_23_b181 at h
  obtain ⟨hx, hb, hml, hown, hts, hret, hlk⟩ := id C
  exact zz_vret C rfl h hW dX6_explore_181
def n_X6_explore_23_b231 (F : Nat) (slf : Zs → Int32 → Int32 → Int32 → Option (Int32 × Zs)) (rc188 : Zs → Int32 → Int32 → Int32 → Int32 → Int32 → Option (Int32 × Zs)) (S : Zs) (x1 : Int32) (x3 : Int32) (x4 : Int32) (x9 : Int32) (x10 : Int32) : Option (Int32 × Zs) :=
  zlet (x10 + (1 : Int32)) (fun v1 => rc188 S x1 x3 x4 x9 v1)
set_option maxRecDepth 20000 in
set_option maxHeartbeats 4000000 in
theorem w_X6_explore_23_b231 {F : Nat} {q : (Int32 × Zs)} {S : Zs} {rc188 : Zs → Int32 → Int32 → Int32 → Int32 → Int32 → Option (Int32 × Zs)} {x1 : Int32} {x3 : Int32} {x4 : Int32} {x9 : Int32} {x10 : Int32} {ls : Array Slot} {H : Heap} {locs : List Loc} {d : Nat} {slf : Zs → Int32 → Int32 → Int32 → Option (Int32 × Zs)} (C : zC p s m args meth c cX6_explore 11 RX6 none) (hslf : ∀ (S : Zs) (x1 : Int32) (x2 : Int32) (x3 : Int32) (r : (Int32 × Zs)), slf S x1 x2 x3 = some r → zMv l yX6_explore cX6_explore 11 none (zR (4 + d) (114 + 30 * d)) (xG D cs ad) [.ref (ad 23), .int x1, .int x2, .int x3] S r) (hrc188 : ∀ (S : Zs) (x1 : Int32) (x3 : Int32) (x4 : Int32) (x9 : Int32) (x10 : Int32) (H : Heap) (locs : List Loc) (ls : Array Slot), rc188 S x1 x3 x4 x9 x10 = some q → zW (xG D cs ad) s S H locs → lv_has ls 11 [(0, .ref (ad 23)), (1, .int x1), (3, .int x3), (4, .int x4), (9, .int x9), (10, .int x10)] → W p l e (zR (4 + (d + 1)) (114 + 30 * (d + 1))) s m args below meth c H locs 0 0 (zQv (xG D cs ad) q below args s) (F0 m 188 ls [])) (h : n_X6_explore_23_b231 F slf rc188 S x1 x3 x4 x9 x10 = some q) (hW : zW (xG D cs ad) s S H locs) (hl : lv_has ls 11 [(0, .ref (ad 23)), (1, .int x1), (3, .int x3), (4, .int x4), (9, .int x9), (10, .int x10)]) : W p l e (zR (4 + (d + 1)) (114 + 30 * (d + 1))) s m args below meth c H locs 0 0 (zQv (xG D cs ad) q below args s) (F0 m 231 ls []) := by
  unfold n_X6_explore_23_b231 at h
  obtain ⟨hx, hb, hml, hown, hts, hret, hlk⟩ := id C
  obtain ⟨v1, ev1, h⟩ := zz_name h
  refine lv_iinc (v := v1) (lv' := [(10, .int v1), (0, .ref (ad 23)), (1, .int x1), (3, .int x3), (4, .int x4), (9, .int x9)]) hx hb dX6_explore_231 hl (k := 5) rfl ev1.symm (by decide) rfl (fun ls hl => ?_)
  refine lv_goto (tgt := 188) hx hb dX6_explore_234 (by decide) ?_
  exact hrc188 _ _ _ _ _ _ _ _ _ h hW (lv_sub hl [1, 2, 3, 4, 5, 0] rfl)
def n_X6_explore_23_b188_l (F : Nat) (slf : Zs → Int32 → Int32 → Int32 → Option (Int32 × Zs)) (rc188 : Zs → Int32 → Int32 → Int32 → Int32 → Int32 → Option (Int32 × Zs)) (S : Zs) (x1 : Int32) (x3 : Int32) (x4 : Int32) (x9 : Int32) (x10 : Int32) : Option (Int32 × Zs) :=
  if (16 : Int32) ≤ x10 then (some (0, S)) else (if ((x4 >>> (x10 &&& 31)) &&& (1 : Int32)) = 0 then (n_X6_explore_23_b231 F slf rc188 S x1 x3 x4 x9 x10) else (zlet (x9 &&& (((1 : Int32) <<< (x10 &&& 31)) ^^^ (-1 : Int32))) (fun v1 => zcl (slf S (x1 ||| ((1 : Int32) <<< (x10 &&& 31))) v1 (x3 - (1 : Int32))) (fun v3 S2 => n_X6_explore_23_b231 F slf rc188 S2 x1 x3 x4 v1 x10))))
set_option maxRecDepth 20000 in
set_option maxHeartbeats 4000000 in
theorem w_X6_explore_23_b188_l {F : Nat} {q : (Int32 × Zs)} {S : Zs} {rc188 : Zs → Int32 → Int32 → Int32 → Int32 → Int32 → Option (Int32 × Zs)} {x1 : Int32} {x3 : Int32} {x4 : Int32} {x9 : Int32} {x10 : Int32} {ls : Array Slot} {H : Heap} {locs : List Loc} {d : Nat} {slf : Zs → Int32 → Int32 → Int32 → Option (Int32 × Zs)} (C : zC p s m args meth c cX6_explore 11 RX6 none) (hslf : ∀ (S : Zs) (x1 : Int32) (x2 : Int32) (x3 : Int32) (r : (Int32 × Zs)), slf S x1 x2 x3 = some r → zMv l yX6_explore cX6_explore 11 none (zR (4 + d) (114 + 30 * d)) (xG D cs ad) [.ref (ad 23), .int x1, .int x2, .int x3] S r) (hrc188 : ∀ (S : Zs) (x1 : Int32) (x3 : Int32) (x4 : Int32) (x9 : Int32) (x10 : Int32) (H : Heap) (locs : List Loc) (ls : Array Slot), rc188 S x1 x3 x4 x9 x10 = some q → zW (xG D cs ad) s S H locs → lv_has ls 11 [(0, .ref (ad 23)), (1, .int x1), (3, .int x3), (4, .int x4), (9, .int x9), (10, .int x10)] → W p l e (zR (4 + (d + 1)) (114 + 30 * (d + 1))) s m args below meth c H locs 0 0 (zQv (xG D cs ad) q below args s) (F0 m 188 ls [])) (h : n_X6_explore_23_b188_l F slf rc188 S x1 x3 x4 x9 x10 = some q) (hW : zW (xG D cs ad) s S H locs) (hl : lv_has ls 11 [(0, .ref (ad 23)), (1, .int x1), (3, .int x3), (4, .int x4), (9, .int x9), (10, .int x10)]) : W p l e (zR (4 + (d + 1)) (114 + 30 * (d + 1))) s m args below meth c H locs 0 0 (zQv (xG D cs ad) q below args s) (F0 m 188 ls []) := by
  unfold n_X6_explore_23_b188_l at h
  obtain ⟨hx, hb, hml, hown, hts, hret, hlk⟩ := id C
  refine lv_iload hx hb dX6_explore_188 (lv_at hl 5 rfl) ?_
  refine lv_bipush (v := 16) hx hb dX6_explore_190 (by decide) ?_
  refine zz_cge (tgt := 237) C h dX6_explore_192 (by decide) (fun h => ?_) (fun h => ?_)
  · exact zz_vret C rfl h hW dX6_explore_237
  · refine lv_iload hx hb dX6_explore_195 (lv_at hl 3 rfl) ?_
    refine lv_iload hx hb dX6_explore_197 (lv_at hl 5 rfl) ?_
    refine lv_ishr hx hb dX6_explore_199 ?_
    refine lv_iconst (v := 1) hx hb dX6_explore_200 (by decide) ?_
    refine lv_iand hx hb dX6_explore_201 ?_
    refine zz_ieq (tgt := 231) C h dX6_explore_202 (by decide) (fun h => ?_) (fun h => ?_)
    · exact w_X6_explore_23_b231 (F := F) C hslf hrc188 h hW (lv_sub hl [0, 1, 2, 3, 4, 5] rfl)
    · refine lv_iload hx hb dX6_explore_205 (lv_at hl 4 rfl) ?_
      refine lv_iconst (v := 1) hx hb dX6_explore_207 (by decide) ?_
      refine lv_iload hx hb dX6_explore_208 (lv_at hl 5 rfl) ?_
      refine lv_ishl hx hb dX6_explore_210 ?_
      refine lv_iconst (v := -1) hx hb dX6_explore_211 (by decide) ?_
      refine lv_ixor hx hb dX6_explore_212 ?_
      refine lv_iand hx hb dX6_explore_213 ?_
      refine zz_leti h (fun v1 h => ?_)
      refine lv_istore (lv' := [(9, .int v1), (0, .ref (ad 23)), (1, .int x1), (3, .int x3), (4, .int x4), (10, .int x10)]) hx hb dX6_explore_214 hl (by decide) rfl (fun ls hl => ?_)
      refine lv_aload_n hx hb dX6_explore_216 rfl (lv_at hl 1 rfl) ?_
      refine lv_iload_n hx hb dX6_explore_217 rfl (lv_at hl 2 rfl) ?_
      refine lv_iconst (v := 1) hx hb dX6_explore_218 (by decide) ?_
      refine lv_iload hx hb dX6_explore_219 (lv_at hl 5 rfl) ?_
      refine lv_ishl hx hb dX6_explore_221 ?_
      refine lv_ior hx hb dX6_explore_222 ?_
      refine lv_iload hx hb dX6_explore_223 (lv_at hl 0 rfl) ?_
      refine lv_iload_n hx hb dX6_explore_225 rfl (lv_at hl 3 rfl) ?_
      refine lv_iconst (v := 1) hx hb dX6_explore_226 (by decide) ?_
      refine lv_isub hx hb dX6_explore_227 ?_
      refine zz_callVv (As := [.int (x1 ||| ((1 : Int32) <<< (x10 &&& 31))), .int v1, .int (x3 - (1 : Int32))]) C hW h (fun r hr => hslf _ _ _ _ r hr) lk_X6_37 (hW.recv xr_23) rfl hl.1 ⟨rfl, rfl⟩ ⟨by dsimp only [zR]; omega, by dsimp only [zR]; omega⟩ (Nat.le_of_ble_eq_true rfl) ⟨Nat.zero_le _, Nat.zero_le _⟩ rfl dX6_explore_228 (fun v3 S2 H locs h hW => ?_)
      exact w_X6_explore_23_b231 (F := F) C hslf hrc188 h hW (lv_sub hl [1, 2, 3, 4, 0, 5] rfl)
def n_X6_explore_23_b188 (F : Nat) (slf : Zs → Int32 → Int32 → Int32 → Option (Int32 × Zs))  (S : Zs) (x1 : Int32) (x3 : Int32) (x4 : Int32) (x9 : Int32) (x10 : Int32) : Option (Int32 × Zs) :=
  zfix (fun (rc : (Zs × Int32 × Int32 × Int32 × Int32 × Int32) → Option (Int32 × Zs)) (u : (Zs × Int32 × Int32 × Int32 × Int32 × Int32)) => n_X6_explore_23_b188_l F slf  (fun S x1 x3 x4 x9 x10 => rc (S, x1, x3, x4, x9, x10)) u.1 u.2.1 u.2.2.1 u.2.2.2.1 u.2.2.2.2.1 u.2.2.2.2.2) F (S, x1, x3, x4, x9, x10)
theorem w_X6_explore_23_b188 {F : Nat} {q : (Int32 × Zs)}  {d : Nat} {slf : Zs → Int32 → Int32 → Int32 → Option (Int32 × Zs)} (C : zC p s m args meth c cX6_explore 11 RX6 none) (hslf : ∀ (S : Zs) (x1 : Int32) (x2 : Int32) (x3 : Int32) (r : (Int32 × Zs)), slf S x1 x2 x3 = some r → zMv l yX6_explore cX6_explore 11 none (zR (4 + d) (114 + 30 * d)) (xG D cs ad) [.ref (ad 23), .int x1, .int x2, .int x3] S r)  : ∀ (n : Nat) (S : Zs) (x1 : Int32) (x3 : Int32) (x4 : Int32) (x9 : Int32) (x10 : Int32) (H : Heap) (locs : List Loc) (ls : Array Slot), zfix (fun (rc : (Zs × Int32 × Int32 × Int32 × Int32 × Int32) → Option (Int32 × Zs)) (u : (Zs × Int32 × Int32 × Int32 × Int32 × Int32)) => n_X6_explore_23_b188_l F slf  (fun S x1 x3 x4 x9 x10 => rc (S, x1, x3, x4, x9, x10)) u.1 u.2.1 u.2.2.1 u.2.2.2.1 u.2.2.2.2.1 u.2.2.2.2.2) n (S, x1, x3, x4, x9, x10) = some q → zW (xG D cs ad) s S H locs → lv_has ls 11 [(0, .ref (ad 23)), (1, .int x1), (3, .int x3), (4, .int x4), (9, .int x9), (10, .int x10)] → W p l e (zR (4 + (d + 1)) (114 + 30 * (d + 1))) s m args below meth c H locs 0 0 (zQv (xG D cs ad) q below args s) (F0 m 188 ls []) := by
  intro n
  induction n with
  | zero => intro S x1 x3 x4 x9 x10 H locs ls h; exact absurd h (fun h => by cases h)
  | succ n ih => intro S x1 x3 x4 x9 x10 H locs ls h hW hl; exact w_X6_explore_23_b188_l (F := F) C hslf (fun S x1 x3 x4 x9 x10 H locs ls h hW hl => ih S x1 x3 x4 x9 x10 H locs ls h hW hl) h hW hl
def n_X6_explore_23_b155 (F : Nat) (slf : Zs → Int32 → Int32 → Int32 → Option (Int32 × Zs))  (S : Zs) (x1 : Int32) (x2 : Int32) (x3 : Int32) (x4 : Int32) (x6 : Int32) (x7 : Int32) (x8 : Int32) : Option (Int32 × Zs) :=
  if x4 = 0 then (n_X6_explore_23_b181 F slf  S ) else (if x3 < x8 then (n_X6_explore_23_b181 F slf  S ) else (zgf S 465 (fun v1 => if ((x7 <<< ((16 : Int32) &&& 31)) ||| x6) < v1 then (n_X6_explore_23_b188 F slf  S x1 x3 x4 x2 (0 : Int32)) else (n_X6_explore_23_b181 F slf  S ))))
set_option maxRecDepth 20000 in
set_option maxHeartbeats 4000000 in
theorem w_X6_explore_23_b155 {F : Nat} {q : (Int32 × Zs)} {S : Zs}  {x1 : Int32} {x2 : Int32} {x3 : Int32} {x4 : Int32} {x6 : Int32} {x7 : Int32} {x8 : Int32} {ls : Array Slot} {H : Heap} {locs : List Loc} {d : Nat} {slf : Zs → Int32 → Int32 → Int32 → Option (Int32 × Zs)} (C : zC p s m args meth c cX6_explore 11 RX6 none) (hslf : ∀ (S : Zs) (x1 : Int32) (x2 : Int32) (x3 : Int32) (r : (Int32 × Zs)), slf S x1 x2 x3 = some r → zMv l yX6_explore cX6_explore 11 none (zR (4 + d) (114 + 30 * d)) (xG D cs ad) [.ref (ad 23), .int x1, .int x2, .int x3] S r)  (h : n_X6_explore_23_b155 F slf  S x1 x2 x3 x4 x6 x7 x8 = some q) (hW : zW (xG D cs ad) s S H locs) (hl : lv_has ls 11 [(0, .ref (ad 23)), (1, .int x1), (2, .int x2), (3, .int x3), (4, .int x4), (6, .int x6), (7, .int x7), (8, .int x8)]) : W p l e (zR (4 + (d + 1)) (114 + 30 * (d + 1))) s m args below meth c H locs 0 0 (zQv (xG D cs ad) q below args s) (F0 m 155 ls []) := by
  unfold n_X6_explore_23_b155 at h
  obtain ⟨hx, hb, hml, hown, hts, hret, hlk⟩ := id C
  refine lv_iload hx hb dX6_explore_155 (lv_at hl 4 rfl) ?_
  refine zz_ieq (tgt := 181) C h dX6_explore_157 (by decide) (fun h => ?_) (fun h => ?_)
  · exact w_X6_explore_23_b181 (F := F) C hslf h hW (lv_sub hl [] rfl)
  · refine lv_iload hx hb dX6_explore_160 (lv_at hl 7 rfl) ?_
    refine lv_iload_n hx hb dX6_explore_162 rfl (lv_at hl 3 rfl) ?_
    refine zz_cgt (tgt := 181) C h dX6_explore_163 (by decide) (fun h => ?_) (fun h => ?_)
    · exact w_X6_explore_23_b181 (F := F) C hslf h hW (lv_sub hl [] rfl)
    · refine lv_iload hx hb dX6_explore_166 (lv_at hl 6 rfl) ?_
      refine lv_bipush (v := 16) hx hb dX6_explore_168 (by decide) ?_
      refine lv_ishl hx hb dX6_explore_170 ?_
      refine lv_iload hx hb dX6_explore_171 (lv_at hl 5 rfl) ?_
      refine lv_ior hx hb dX6_explore_173 ?_
      refine lv_aload_n hx hb dX6_explore_174 rfl (lv_at hl 0 rfl) ?_
      refine xg_23_5 C hW h fl_X6_30 dX6_explore_175 (fun v1 h => ?_)
      refine zz_clt (tgt := 182) C h dX6_explore_178 (by decide) (fun h => ?_) (fun h => ?_)
      · refine lv_iload_n hx hb dX6_explore_182 rfl (lv_at hl 2 rfl) ?_
        refine lv_istore (lv' := [(9, .int x2), (0, .ref (ad 23)), (1, .int x1), (2, .int x2), (3, .int x3), (4, .int x4), (6, .int x6), (7, .int x7), (8, .int x8)]) hx hb dX6_explore_183 hl (by decide) rfl (fun ls hl => ?_)
        refine lv_iconst (v := 0) hx hb dX6_explore_185 (by decide) ?_
        refine lv_istore (lv' := [(10, .int (0 : Int32)), (9, .int x2), (0, .ref (ad 23)), (1, .int x1), (2, .int x2), (3, .int x3), (4, .int x4), (6, .int x6), (7, .int x7), (8, .int x8)]) hx hb dX6_explore_186 hl (by decide) rfl (fun ls hl => ?_)
        exact w_X6_explore_23_b188 (F := F) C hslf F _ _ _ _ _ _ _ _ _ h hW (lv_sub hl [2, 3, 5, 6, 1, 0] rfl)
      · exact w_X6_explore_23_b181 (F := F) C hslf h hW (lv_sub hl [] rfl)
def n_X6_explore_23_b147 (F : Nat) (slf : Zs → Int32 → Int32 → Int32 → Option (Int32 × Zs)) (rc71 : Zs → Int32 → Int32 → Int32 → Int32 → Int32 → Int32 → Int32 → Int32 → Int32 → Option (Int32 × Zs)) (S : Zs) (x1 : Int32) (x2 : Int32) (x3 : Int32) (x4 : Int32) (x5 : Int32) (x6 : Int32) (x7 : Int32) (x8 : Int32) (t0 : Int32) : Option (Int32 × Zs) :=
  zlet (x8 + (1 : Int32)) (fun v1 => rc71 S x1 x2 x3 x4 x5 x6 x7 v1 t0)
set_option maxRecDepth 20000 in
set_option maxHeartbeats 4000000 in
theorem w_X6_explore_23_b147 {F : Nat} {q : (Int32 × Zs)} {S : Zs} {rc71 : Zs → Int32 → Int32 → Int32 → Int32 → Int32 → Int32 → Int32 → Int32 → Int32 → Option (Int32 × Zs)} {x1 : Int32} {x2 : Int32} {x3 : Int32} {x4 : Int32} {x5 : Int32} {x6 : Int32} {x7 : Int32} {x8 : Int32} {t0 : Int32} {ls : Array Slot} {H : Heap} {locs : List Loc} {d : Nat} {slf : Zs → Int32 → Int32 → Int32 → Option (Int32 × Zs)} (C : zC p s m args meth c cX6_explore 11 RX6 none) (hslf : ∀ (S : Zs) (x1 : Int32) (x2 : Int32) (x3 : Int32) (r : (Int32 × Zs)), slf S x1 x2 x3 = some r → zMv l yX6_explore cX6_explore 11 none (zR (4 + d) (114 + 30 * d)) (xG D cs ad) [.ref (ad 23), .int x1, .int x2, .int x3] S r) (hrc71 : ∀ (S : Zs) (x1 : Int32) (x2 : Int32) (x3 : Int32) (x4 : Int32) (x5 : Int32) (x6 : Int32) (x7 : Int32) (x8 : Int32) (x9 : Int32) (H : Heap) (locs : List Loc) (ls : Array Slot), rc71 S x1 x2 x3 x4 x5 x6 x7 x8 x9 = some q → zW (xG D cs ad) s S H locs → lv_has ls 11 [(0, .ref (ad 23)), (1, .int x1), (2, .int x2), (3, .int x3), (4, .int x4), (5, .int x5), (6, .int x6), (7, .int x7), (8, .int x8), (9, .int x9)] → W p l e (zR (4 + (d + 1)) (114 + 30 * (d + 1))) s m args below meth c H locs 0 0 (zQv (xG D cs ad) q below args s) (F0 m 71 ls [])) (h : n_X6_explore_23_b147 F slf rc71 S x1 x2 x3 x4 x5 x6 x7 x8 t0 = some q) (hW : zW (xG D cs ad) s S H locs) (hl : lv_has ls 11 [(0, .ref (ad 23)), (1, .int x1), (2, .int x2), (3, .int x3), (4, .int x4), (5, .int x5), (6, .int x6), (7, .int x7), (8, .int x8)]) : W p l e (zR (4 + (d + 1)) (114 + 30 * (d + 1))) s m args below meth c H locs 0 0 (zQv (xG D cs ad) q below args s) (F0 m 147 ls [.int t0]) := by
  unfold n_X6_explore_23_b147 at h
  obtain ⟨hx, hb, hml, hown, hts, hret, hlk⟩ := id C
  refine lv_istore (lv' := [(9, .int t0), (0, .ref (ad 23)), (1, .int x1), (2, .int x2), (3, .int x3), (4, .int x4), (5, .int x5), (6, .int x6), (7, .int x7), (8, .int x8)]) hx hb dX6_explore_147 hl (by decide) rfl (fun ls hl => ?_)
  obtain ⟨v1, ev1, h⟩ := zz_name h
  refine lv_iinc (v := v1) (lv' := [(8, .int v1), (9, .int t0), (0, .ref (ad 23)), (1, .int x1), (2, .int x2), (3, .int x3), (4, .int x4), (5, .int x5), (6, .int x6), (7, .int x7)]) hx hb dX6_explore_149 hl (k := 9) rfl ev1.symm (by decide) rfl (fun ls hl => ?_)
  refine lv_goto (tgt := 71) hx hb dX6_explore_152 (by decide) ?_
  exact hrc71 _ _ _ _ _ _ _ _ _ _ _ _ _ h hW (lv_sub hl [2, 3, 4, 5, 6, 7, 8, 9, 0, 1] rfl)
def n_X6_explore_23_b119 (F : Nat) (slf : Zs → Int32 → Int32 → Int32 → Option (Int32 × Zs)) (rc71 : Zs → Int32 → Int32 → Int32 → Int32 → Int32 → Int32 → Int32 → Int32 → Int32 → Option (Int32 × Zs)) (S : Zs) (x1 : Int32) (x2 : Int32) (x3 : Int32) (x4 : Int32) (x5 : Int32) (x6 : Int32) (x8 : Int32) (t0 : Int32) (t1 : Int32) : Option (Int32 × Zs) :=
  zlet (t1 + t0) (fun v1 => zcl (n_X6_enough_23 F S x5) (fun v3 S2 => if v3 = 0 then (zcl (n_X6_cutOf_23 F S2 x5 (x2 &&& (x5 ^^^ (-1 : Int32)))) (fun v5 S4 => n_X6_explore_23_b147 F slf rc71 S4 x1 x2 x3 x4 x5 x6 v1 x8 v5)) else (n_X6_explore_23_b147 F slf rc71 S2 x1 x2 x3 x4 x5 x6 v1 x8 (0 : Int32))))
set_option maxRecDepth 20000 in
set_option maxHeartbeats 4000000 in
theorem w_X6_explore_23_b119 {F : Nat} {q : (Int32 × Zs)} {S : Zs} {rc71 : Zs → Int32 → Int32 → Int32 → Int32 → Int32 → Int32 → Int32 → Int32 → Int32 → Option (Int32 × Zs)} {x1 : Int32} {x2 : Int32} {x3 : Int32} {x4 : Int32} {x5 : Int32} {x6 : Int32} {x8 : Int32} {t0 : Int32} {t1 : Int32} {ls : Array Slot} {H : Heap} {locs : List Loc} {d : Nat} {slf : Zs → Int32 → Int32 → Int32 → Option (Int32 × Zs)} (C : zC p s m args meth c cX6_explore 11 RX6 none) (hslf : ∀ (S : Zs) (x1 : Int32) (x2 : Int32) (x3 : Int32) (r : (Int32 × Zs)), slf S x1 x2 x3 = some r → zMv l yX6_explore cX6_explore 11 none (zR (4 + d) (114 + 30 * d)) (xG D cs ad) [.ref (ad 23), .int x1, .int x2, .int x3] S r) (hrc71 : ∀ (S : Zs) (x1 : Int32) (x2 : Int32) (x3 : Int32) (x4 : Int32) (x5 : Int32) (x6 : Int32) (x7 : Int32) (x8 : Int32) (x9 : Int32) (H : Heap) (locs : List Loc) (ls : Array Slot), rc71 S x1 x2 x3 x4 x5 x6 x7 x8 x9 = some q → zW (xG D cs ad) s S H locs → lv_has ls 11 [(0, .ref (ad 23)), (1, .int x1), (2, .int x2), (3, .int x3), (4, .int x4), (5, .int x5), (6, .int x6), (7, .int x7), (8, .int x8), (9, .int x9)] → W p l e (zR (4 + (d + 1)) (114 + 30 * (d + 1))) s m args below meth c H locs 0 0 (zQv (xG D cs ad) q below args s) (F0 m 71 ls [])) (h : n_X6_explore_23_b119 F slf rc71 S x1 x2 x3 x4 x5 x6 x8 t0 t1 = some q) (hW : zW (xG D cs ad) s S H locs) (hl : lv_has ls 11 [(0, .ref (ad 23)), (1, .int x1), (2, .int x2), (3, .int x3), (4, .int x4), (5, .int x5), (6, .int x6), (8, .int x8)]) : W p l e (zR (4 + (d + 1)) (114 + 30 * (d + 1))) s m args below meth c H locs 0 0 (zQv (xG D cs ad) q below args s) (F0 m 119 ls [.int t0, .int t1]) := by
  unfold n_X6_explore_23_b119 at h
  obtain ⟨hx, hb, hml, hown, hts, hret, hlk⟩ := id C
  refine lv_iadd hx hb dX6_explore_119 ?_
  refine zz_leti h (fun v1 h => ?_)
  refine lv_istore (lv' := [(7, .int v1), (0, .ref (ad 23)), (1, .int x1), (2, .int x2), (3, .int x3), (4, .int x4), (5, .int x5), (6, .int x6), (8, .int x8)]) hx hb dX6_explore_120 hl (by decide) rfl (fun ls hl => ?_)
  refine lv_aload_n hx hb dX6_explore_122 rfl (lv_at hl 1 rfl) ?_
  refine lv_iload hx hb dX6_explore_123 (lv_at hl 6 rfl) ?_
  refine zz_callVi (As := [.int x5]) C hW h (fun r hr => c_X6_enough_23 hr) lk_X6_33 (hW.recv xr_23) rfl hl.1 ⟨rfl, rfl⟩ ⟨by dsimp only [zR]; omega, by dsimp only [zR]; omega⟩ (Nat.le_of_ble_eq_true rfl) ⟨Nat.zero_le _, Nat.zero_le _⟩ rfl dX6_explore_125 (fun v3 S2 H locs h hW => ?_)
  refine zz_ieq (tgt := 135) C h dX6_explore_128 (by decide) (fun h => ?_) (fun h => ?_)
  · refine lv_aload_n hx hb dX6_explore_135 rfl (lv_at hl 1 rfl) ?_
    refine lv_iload hx hb dX6_explore_136 (lv_at hl 6 rfl) ?_
    refine lv_iload_n hx hb dX6_explore_138 rfl (lv_at hl 3 rfl) ?_
    refine lv_iload hx hb dX6_explore_139 (lv_at hl 6 rfl) ?_
    refine lv_iconst (v := -1) hx hb dX6_explore_141 (by decide) ?_
    refine lv_ixor hx hb dX6_explore_142 ?_
    refine lv_iand hx hb dX6_explore_143 ?_
    refine zz_callVi (As := [.int x5, .int (x2 &&& (x5 ^^^ (-1 : Int32)))]) C hW h (fun r hr => c_X6_cutOf_23 hr) lk_X6_54 (hW.recv xr_23) rfl hl.1 ⟨rfl, rfl⟩ ⟨by dsimp only [zR]; omega, by dsimp only [zR]; omega⟩ (Nat.le_of_ble_eq_true rfl) ⟨Nat.zero_le _, Nat.zero_le _⟩ rfl dX6_explore_144 (fun v5 S4 H locs h hW => ?_)
    exact w_X6_explore_23_b147 (F := F) C hslf hrc71 h hW (lv_sub hl [1, 2, 3, 4, 5, 6, 7, 0, 8] rfl)
  · refine lv_iconst (v := 0) hx hb dX6_explore_131 (by decide) ?_
    refine lv_goto (tgt := 147) hx hb dX6_explore_132 (by decide) ?_
    exact w_X6_explore_23_b147 (F := F) C hslf hrc71 h hW (lv_sub hl [1, 2, 3, 4, 5, 6, 7, 0, 8] rfl)
def n_X6_explore_23_b71_l (F : Nat) (slf : Zs → Int32 → Int32 → Int32 → Option (Int32 × Zs)) (rc71 : Zs → Int32 → Int32 → Int32 → Int32 → Int32 → Int32 → Int32 → Int32 → Int32 → Option (Int32 × Zs)) (S : Zs) (x1 : Int32) (x2 : Int32) (x3 : Int32) (x4 : Int32) (x5 : Int32) (x6 : Int32) (x7 : Int32) (x8 : Int32) (x9 : Int32) : Option (Int32 × Zs) :=
  if x9 = 0 then (n_X6_explore_23_b155 F slf  S x1 x2 x3 x4 x6 x7 x8) else (if x3 < x8 then (n_X6_explore_23_b155 F slf  S x1 x2 x3 x4 x6 x7 x8) else (zlet (x5 ||| x9) (fun v1 => zlet (x6 ||| (x9 &&& (-x9))) (fun v2 => zgf S 464 (fun v3 => if (x9 &&& (v3 ^^^ (-1 : Int32))) = 0 then (n_X6_explore_23_b119 F slf rc71 S x1 x2 x3 x4 v1 v2 x8 (1 : Int32) x7) else (n_X6_explore_23_b119 F slf rc71 S x1 x2 x3 x4 v1 v2 x8 (0 : Int32) x7))))))
set_option maxRecDepth 20000 in
set_option maxHeartbeats 4000000 in
theorem w_X6_explore_23_b71_l {F : Nat} {q : (Int32 × Zs)} {S : Zs} {rc71 : Zs → Int32 → Int32 → Int32 → Int32 → Int32 → Int32 → Int32 → Int32 → Int32 → Option (Int32 × Zs)} {x1 : Int32} {x2 : Int32} {x3 : Int32} {x4 : Int32} {x5 : Int32} {x6 : Int32} {x7 : Int32} {x8 : Int32} {x9 : Int32} {ls : Array Slot} {H : Heap} {locs : List Loc} {d : Nat} {slf : Zs → Int32 → Int32 → Int32 → Option (Int32 × Zs)} (C : zC p s m args meth c cX6_explore 11 RX6 none) (hslf : ∀ (S : Zs) (x1 : Int32) (x2 : Int32) (x3 : Int32) (r : (Int32 × Zs)), slf S x1 x2 x3 = some r → zMv l yX6_explore cX6_explore 11 none (zR (4 + d) (114 + 30 * d)) (xG D cs ad) [.ref (ad 23), .int x1, .int x2, .int x3] S r) (hrc71 : ∀ (S : Zs) (x1 : Int32) (x2 : Int32) (x3 : Int32) (x4 : Int32) (x5 : Int32) (x6 : Int32) (x7 : Int32) (x8 : Int32) (x9 : Int32) (H : Heap) (locs : List Loc) (ls : Array Slot), rc71 S x1 x2 x3 x4 x5 x6 x7 x8 x9 = some q → zW (xG D cs ad) s S H locs → lv_has ls 11 [(0, .ref (ad 23)), (1, .int x1), (2, .int x2), (3, .int x3), (4, .int x4), (5, .int x5), (6, .int x6), (7, .int x7), (8, .int x8), (9, .int x9)] → W p l e (zR (4 + (d + 1)) (114 + 30 * (d + 1))) s m args below meth c H locs 0 0 (zQv (xG D cs ad) q below args s) (F0 m 71 ls [])) (h : n_X6_explore_23_b71_l F slf rc71 S x1 x2 x3 x4 x5 x6 x7 x8 x9 = some q) (hW : zW (xG D cs ad) s S H locs) (hl : lv_has ls 11 [(0, .ref (ad 23)), (1, .int x1), (2, .int x2), (3, .int x3), (4, .int x4), (5, .int x5), (6, .int x6), (7, .int x7), (8, .int x8), (9, .int x9)]) : W p l e (zR (4 + (d + 1)) (114 + 30 * (d + 1))) s m args below meth c H locs 0 0 (zQv (xG D cs ad) q below args s) (F0 m 71 ls []) := by
  unfold n_X6_explore_23_b71_l at h
  obtain ⟨hx, hb, hml, hown, hts, hret, hlk⟩ := id C
  refine lv_iload hx hb dX6_explore_71 (lv_at hl 9 rfl) ?_
  refine zz_ieq (tgt := 155) C h dX6_explore_73 (by decide) (fun h => ?_) (fun h => ?_)
  · exact w_X6_explore_23_b155 (F := F) C hslf h hW (lv_sub hl [0, 1, 2, 3, 4, 6, 7, 8] rfl)
  · refine lv_iload hx hb dX6_explore_76 (lv_at hl 8 rfl) ?_
    refine lv_iload_n hx hb dX6_explore_78 rfl (lv_at hl 3 rfl) ?_
    refine zz_cgt (tgt := 155) C h dX6_explore_79 (by decide) (fun h => ?_) (fun h => ?_)
    · exact w_X6_explore_23_b155 (F := F) C hslf h hW (lv_sub hl [0, 1, 2, 3, 4, 6, 7, 8] rfl)
    · refine lv_iload hx hb dX6_explore_82 (lv_at hl 5 rfl) ?_
      refine lv_iload hx hb dX6_explore_84 (lv_at hl 9 rfl) ?_
      refine lv_ior hx hb dX6_explore_86 ?_
      refine zz_leti h (fun v1 h => ?_)
      refine lv_istore (lv' := [(5, .int v1), (0, .ref (ad 23)), (1, .int x1), (2, .int x2), (3, .int x3), (4, .int x4), (6, .int x6), (7, .int x7), (8, .int x8), (9, .int x9)]) hx hb dX6_explore_87 hl (by decide) rfl (fun ls hl => ?_)
      refine lv_iload hx hb dX6_explore_89 (lv_at hl 6 rfl) ?_
      refine lv_iload hx hb dX6_explore_91 (lv_at hl 9 rfl) ?_
      refine lv_iload hx hb dX6_explore_93 (lv_at hl 9 rfl) ?_
      refine lv_ineg hx hb dX6_explore_95 ?_
      refine lv_iand hx hb dX6_explore_96 ?_
      refine lv_ior hx hb dX6_explore_97 ?_
      refine zz_leti h (fun v2 h => ?_)
      refine lv_istore (lv' := [(6, .int v2), (5, .int v1), (0, .ref (ad 23)), (1, .int x1), (2, .int x2), (3, .int x3), (4, .int x4), (7, .int x7), (8, .int x8), (9, .int x9)]) hx hb dX6_explore_98 hl (by decide) rfl (fun ls hl => ?_)
      refine lv_iload hx hb dX6_explore_100 (lv_at hl 7 rfl) ?_
      refine lv_iload hx hb dX6_explore_102 (lv_at hl 9 rfl) ?_
      refine lv_aload_n hx hb dX6_explore_104 rfl (lv_at hl 2 rfl) ?_
      refine xg_23_4 C hW h fl_X6_26 dX6_explore_105 (fun v3 h => ?_)
      refine lv_iconst (v := -1) hx hb dX6_explore_108 (by decide) ?_
      refine lv_ixor hx hb dX6_explore_109 ?_
      refine lv_iand hx hb dX6_explore_110 ?_
      refine zz_ine (tgt := 118) C h dX6_explore_111 (by decide) (fun h => ?_) (fun h => ?_)
      · refine lv_iconst (v := 0) hx hb dX6_explore_118 (by decide) ?_
        exact w_X6_explore_23_b119 (F := F) C hslf hrc71 h hW (lv_sub hl [2, 3, 4, 5, 6, 1, 0, 8] rfl)
      · refine lv_iconst (v := 1) hx hb dX6_explore_114 (by decide) ?_
        refine lv_goto (tgt := 119) hx hb dX6_explore_115 (by decide) ?_
        exact w_X6_explore_23_b119 (F := F) C hslf hrc71 h hW (lv_sub hl [2, 3, 4, 5, 6, 1, 0, 8] rfl)
def n_X6_explore_23_b71 (F : Nat) (slf : Zs → Int32 → Int32 → Int32 → Option (Int32 × Zs))  (S : Zs) (x1 : Int32) (x2 : Int32) (x3 : Int32) (x4 : Int32) (x5 : Int32) (x6 : Int32) (x7 : Int32) (x8 : Int32) (x9 : Int32) : Option (Int32 × Zs) :=
  zfix (fun (rc : (Zs × Int32 × Int32 × Int32 × Int32 × Int32 × Int32 × Int32 × Int32 × Int32) → Option (Int32 × Zs)) (u : (Zs × Int32 × Int32 × Int32 × Int32 × Int32 × Int32 × Int32 × Int32 × Int32)) => n_X6_explore_23_b71_l F slf  (fun S x1 x2 x3 x4 x5 x6 x7 x8 x9 => rc (S, x1, x2, x3, x4, x5, x6, x7, x8, x9)) u.1 u.2.1 u.2.2.1 u.2.2.2.1 u.2.2.2.2.1 u.2.2.2.2.2.1 u.2.2.2.2.2.2.1 u.2.2.2.2.2.2.2.1 u.2.2.2.2.2.2.2.2.1 u.2.2.2.2.2.2.2.2.2) F (S, x1, x2, x3, x4, x5, x6, x7, x8, x9)
theorem w_X6_explore_23_b71 {F : Nat} {q : (Int32 × Zs)}  {d : Nat} {slf : Zs → Int32 → Int32 → Int32 → Option (Int32 × Zs)} (C : zC p s m args meth c cX6_explore 11 RX6 none) (hslf : ∀ (S : Zs) (x1 : Int32) (x2 : Int32) (x3 : Int32) (r : (Int32 × Zs)), slf S x1 x2 x3 = some r → zMv l yX6_explore cX6_explore 11 none (zR (4 + d) (114 + 30 * d)) (xG D cs ad) [.ref (ad 23), .int x1, .int x2, .int x3] S r)  : ∀ (n : Nat) (S : Zs) (x1 : Int32) (x2 : Int32) (x3 : Int32) (x4 : Int32) (x5 : Int32) (x6 : Int32) (x7 : Int32) (x8 : Int32) (x9 : Int32) (H : Heap) (locs : List Loc) (ls : Array Slot), zfix (fun (rc : (Zs × Int32 × Int32 × Int32 × Int32 × Int32 × Int32 × Int32 × Int32 × Int32) → Option (Int32 × Zs)) (u : (Zs × Int32 × Int32 × Int32 × Int32 × Int32 × Int32 × Int32 × Int32 × Int32)) => n_X6_explore_23_b71_l F slf  (fun S x1 x2 x3 x4 x5 x6 x7 x8 x9 => rc (S, x1, x2, x3, x4, x5, x6, x7, x8, x9)) u.1 u.2.1 u.2.2.1 u.2.2.2.1 u.2.2.2.2.1 u.2.2.2.2.2.1 u.2.2.2.2.2.2.1 u.2.2.2.2.2.2.2.1 u.2.2.2.2.2.2.2.2.1 u.2.2.2.2.2.2.2.2.2) n (S, x1, x2, x3, x4, x5, x6, x7, x8, x9) = some q → zW (xG D cs ad) s S H locs → lv_has ls 11 [(0, .ref (ad 23)), (1, .int x1), (2, .int x2), (3, .int x3), (4, .int x4), (5, .int x5), (6, .int x6), (7, .int x7), (8, .int x8), (9, .int x9)] → W p l e (zR (4 + (d + 1)) (114 + 30 * (d + 1))) s m args below meth c H locs 0 0 (zQv (xG D cs ad) q below args s) (F0 m 71 ls []) := by
  intro n
  induction n with
  | zero => intro S x1 x2 x3 x4 x5 x6 x7 x8 x9 H locs ls h; exact absurd h (fun h => by cases h)
  | succ n ih => intro S x1 x2 x3 x4 x5 x6 x7 x8 x9 H locs ls h hW hl; exact w_X6_explore_23_b71_l (F := F) C hslf (fun S x1 x2 x3 x4 x5 x6 x7 x8 x9 H locs ls h hW hl => ih S x1 x2 x3 x4 x5 x6 x7 x8 x9 H locs ls h hW hl) h hW hl
def n_X6_explore_23_e (F : Nat) (slf : Zs → Int32 → Int32 → Int32 → Option (Int32 × Zs))  (S : Zs) (x1 : Int32) (x2 : Int32) (x3 : Int32) : Option (Int32 × Zs) :=
  zcl (n_X6_enough_23 F S x1) (fun v2 S1 => if v2 = 0 then (if 0 < x3 then (zcl (n_X6_cutOf_23 F S1 x1 x2) (fun v4 S3 => zgf S3 464 (fun v5 => zcl (n_J6_bitCount_0f7a4_x F S3 (x1 &&& v5)) (fun v7 S6 => n_X6_explore_23_b71 F slf  S6 x1 x2 x3 v4 x1 x1 v7 (0 : Int32) v4)))) else (some (0, S1))) else (zgf S1 465 (fun v8 => zgf S1 464 (fun v9 => zcl (n_J6_bitCount_0f7a4_x F S1 (x1 &&& v9)) (fun v11 S10 => zlet (if ((v11 <<< ((16 : Int32) &&& 31)) ||| x1) < v8 then ((v11 <<< ((16 : Int32) &&& 31)) ||| x1) else v8) (fun v12 => zpf S10 465 v12 (fun S13 => some (0, S13))))))))
set_option maxRecDepth 20000 in
set_option maxHeartbeats 4000000 in
theorem w_X6_explore_23_e {F : Nat} {q : (Int32 × Zs)} {S : Zs}  {x1 : Int32} {x2 : Int32} {x3 : Int32} {ls : Array Slot} {H : Heap} {locs : List Loc} {d : Nat} {slf : Zs → Int32 → Int32 → Int32 → Option (Int32 × Zs)} (C : zC p s m args meth c cX6_explore 11 RX6 none) (hslf : ∀ (S : Zs) (x1 : Int32) (x2 : Int32) (x3 : Int32) (r : (Int32 × Zs)), slf S x1 x2 x3 = some r → zMv l yX6_explore cX6_explore 11 none (zR (4 + d) (114 + 30 * d)) (xG D cs ad) [.ref (ad 23), .int x1, .int x2, .int x3] S r)  (h : n_X6_explore_23_e F slf  S x1 x2 x3 = some q) (hW : zW (xG D cs ad) s S H locs) (hl : lv_has ls 11 [(0, .ref (ad 23)), (1, .int x1), (2, .int x2), (3, .int x3)]) : W p l e (zR (4 + (d + 1)) (114 + 30 * (d + 1))) s m args below meth c H locs 0 0 (zQv (xG D cs ad) q below args s) (F0 m 0 ls []) := by
  unfold n_X6_explore_23_e at h
  obtain ⟨hx, hb, hml, hown, hts, hret, hlk⟩ := id C
  refine lv_aload_n hx hb dX6_explore_0 rfl (lv_at hl 0 rfl) ?_
  refine lv_iload_n hx hb dX6_explore_1 rfl (lv_at hl 1 rfl) ?_
  refine zz_callVi (As := [.int x1]) C hW h (fun r hr => c_X6_enough_23 hr) lk_X6_33 (hW.recv xr_23) rfl hl.1 ⟨rfl, rfl⟩ ⟨by dsimp only [zR]; omega, by dsimp only [zR]; omega⟩ (Nat.le_of_ble_eq_true rfl) ⟨Nat.zero_le _, Nat.zero_le _⟩ rfl dX6_explore_2 (fun v2 S1 H locs h hW => ?_)
  refine zz_ieq (tgt := 34) C h dX6_explore_5 (by decide) (fun h => ?_) (fun h => ?_)
  · refine lv_iload_n hx hb dX6_explore_34 rfl (lv_at hl 3 rfl) ?_
    refine zz_igt (tgt := 39) C h dX6_explore_35 (by decide) (fun h => ?_) (fun h => ?_)
    · refine lv_aload_n hx hb dX6_explore_39 rfl (lv_at hl 0 rfl) ?_
      refine lv_iload_n hx hb dX6_explore_40 rfl (lv_at hl 1 rfl) ?_
      refine lv_iload_n hx hb dX6_explore_41 rfl (lv_at hl 2 rfl) ?_
      refine zz_callVi (As := [.int x1, .int x2]) C hW h (fun r hr => c_X6_cutOf_23 hr) lk_X6_54 (hW.recv xr_23) rfl hl.1 ⟨rfl, rfl⟩ ⟨by dsimp only [zR]; omega, by dsimp only [zR]; omega⟩ (Nat.le_of_ble_eq_true rfl) ⟨Nat.zero_le _, Nat.zero_le _⟩ rfl dX6_explore_42 (fun v4 S3 H locs h hW => ?_)
      refine lv_istore (lv' := [(4, .int v4), (0, .ref (ad 23)), (1, .int x1), (2, .int x2), (3, .int x3)]) hx hb dX6_explore_45 hl (by decide) rfl (fun ls hl => ?_)
      refine lv_iload_n hx hb dX6_explore_47 rfl (lv_at hl 2 rfl) ?_
      refine lv_istore (lv' := [(5, .int x1), (4, .int v4), (0, .ref (ad 23)), (1, .int x1), (2, .int x2), (3, .int x3)]) hx hb dX6_explore_48 hl (by decide) rfl (fun ls hl => ?_)
      refine lv_iload_n hx hb dX6_explore_50 rfl (lv_at hl 3 rfl) ?_
      refine lv_istore (lv' := [(6, .int x1), (5, .int x1), (4, .int v4), (0, .ref (ad 23)), (1, .int x1), (2, .int x2), (3, .int x3)]) hx hb dX6_explore_51 hl (by decide) rfl (fun ls hl => ?_)
      refine lv_iload_n hx hb dX6_explore_53 rfl (lv_at hl 4 rfl) ?_
      refine lv_aload_n hx hb dX6_explore_54 rfl (lv_at hl 3 rfl) ?_
      refine xg_23_4 C hW h fl_X6_26 dX6_explore_55 (fun v5 h => ?_)
      refine lv_iand hx hb dX6_explore_58 ?_
      refine zz_callSi (As := [.int (x1 &&& v5)]) C hW h (fun r hr => c_J6_bitCount_0f7a4_x hr) lk_X6_42 rfl hl.1 ⟨rfl, rfl⟩ ⟨by dsimp only [zR]; omega, by dsimp only [zR]; omega⟩ (Nat.le_of_ble_eq_true rfl) ⟨Nat.zero_le _, Nat.zero_le _⟩ rfl dX6_explore_59 (fun v7 S6 H locs h hW => ?_)
      refine lv_istore (lv' := [(7, .int v7), (6, .int x1), (5, .int x1), (4, .int v4), (0, .ref (ad 23)), (1, .int x1), (2, .int x2), (3, .int x3)]) hx hb dX6_explore_62 hl (by decide) rfl (fun ls hl => ?_)
      refine lv_iconst (v := 0) hx hb dX6_explore_64 (by decide) ?_
      refine lv_istore (lv' := [(8, .int (0 : Int32)), (7, .int v7), (6, .int x1), (5, .int x1), (4, .int v4), (0, .ref (ad 23)), (1, .int x1), (2, .int x2), (3, .int x3)]) hx hb dX6_explore_65 hl (by decide) rfl (fun ls hl => ?_)
      refine lv_iload hx hb dX6_explore_67 (lv_at hl 4 rfl) ?_
      refine lv_istore (lv' := [(9, .int v4), (8, .int (0 : Int32)), (7, .int v7), (6, .int x1), (5, .int x1), (4, .int v4), (0, .ref (ad 23)), (1, .int x1), (2, .int x2), (3, .int x3)]) hx hb dX6_explore_69 hl (by decide) rfl (fun ls hl => ?_)
      exact w_X6_explore_23_b71 (F := F) C hslf F _ _ _ _ _ _ _ _ _ _ _ _ _ h hW (lv_sub hl [6, 7, 8, 9, 5, 4, 3, 2, 1, 0] rfl)
    · exact zz_vret C rfl h hW dX6_explore_38
  · refine lv_aload_n hx hb dX6_explore_8 rfl (lv_at hl 0 rfl) ?_
    refine lv_aload_n hx hb dX6_explore_9 rfl (lv_at hl 0 rfl) ?_
    refine xg_23_5 C hW h fl_X6_30 dX6_explore_10 (fun v8 h => ?_)
    refine lv_iload_n hx hb dX6_explore_13 rfl (lv_at hl 1 rfl) ?_
    refine lv_aload_n hx hb dX6_explore_14 rfl (lv_at hl 0 rfl) ?_
    refine xg_23_4 C hW h fl_X6_26 dX6_explore_15 (fun v9 h => ?_)
    refine lv_iand hx hb dX6_explore_18 ?_
    refine zz_callSi (As := [.int (x1 &&& v9)]) C hW h (fun r hr => c_J6_bitCount_0f7a4_x hr) lk_X6_42 rfl hl.1 ⟨rfl, rfl⟩ ⟨by dsimp only [zR]; omega, by dsimp only [zR]; omega⟩ (Nat.le_of_ble_eq_true rfl) ⟨Nat.zero_le _, Nat.zero_le _⟩ rfl dX6_explore_19 (fun v11 S10 H locs h hW => ?_)
    refine lv_bipush (v := 16) hx hb dX6_explore_22 (by decide) ?_
    refine lv_ishl hx hb dX6_explore_24 ?_
    refine lv_iload_n hx hb dX6_explore_25 rfl (lv_at hl 1 rfl) ?_
    refine lv_ior hx hb dX6_explore_26 ?_
    refine va_mmin hx hb (hml.trans hl.1.symm) hown (hts _ lkm_X6_48) (hts _ sm_min) (hts _ it_Math) (hts _ cd_min) (by dsimp only [zR]; omega) (show _ ≤ _ + _ by dsimp only [List.map, List.sum_cons, List.sum_nil, Value.category]; omega) (Nat.zero_le _) (Nat.zero_le _) dX6_explore_27 ?_
    refine zz_leti h (fun v12 h => ?_)
    refine xp_23_5 C hW h fl_X6_30 dX6_explore_30 (fun S13 H locs h hW => ?_)
    exact zz_vret C rfl h hW dX6_explore_33
def n_X6_explore_23_r (F d : Nat) (S : Zs) (x1 : Int32) (x2 : Int32) (x3 : Int32) : Option (Int32 × Zs) := zfix (fun (rc : (Zs × Int32 × Int32 × Int32) → Option (Int32 × Zs)) (u : (Zs × Int32 × Int32 × Int32)) => n_X6_explore_23_e F (fun S x1 x2 x3 => rc (S, x1, x2, x3))  u.1 u.2.1 u.2.2.1 u.2.2.2) d (S, x1, x2, x3)
theorem c_X6_explore_23_r {l : Launch} {D : va_G} {cs ad : Nat → Nat} {F : Nat} {q : (Int32 × Zs)} : ∀ (d : Nat) (S : Zs) (x1 : Int32) (x2 : Int32) (x3 : Int32), n_X6_explore_23_r F d S x1 x2 x3 = some q → zMv l yX6_explore cX6_explore 11 none (zR (4 + d) (114 + 30 * d)) (xG D cs ad) [.ref (ad 23), .int x1, .int x2, .int x3] S q := by
  intro d
  induction d generalizing q with
  | zero => intro S x1 x2 x3 h; cases h
  | succ d ih => intro S x1 x2 x3 h; exact zz_enter (by decide) (Nat.le_of_ble_eq_true rfl) (fun p e s m below meth c ls C hW hl => w_X6_explore_23_e (F := F) C (fun S x1 x2 x3 r h => ih S x1 x2 x3 h) h hW (lv_sub hl [0, 1, 2, 3] rfl))
def n_X6_explore_23 (F : Nat) (S : Zs) (x1 : Int32) (x2 : Int32) (x3 : Int32) : Option (Int32 × Zs) := n_X6_explore_23_r F 20 S x1 x2 x3
theorem c_X6_explore_23 {l : Launch} {D : va_G} {cs ad : Nat → Nat} {F : Nat} {S : Zs} {x1 : Int32} {x2 : Int32} {x3 : Int32} {q : (Int32 × Zs)} (h : n_X6_explore_23 F S x1 x2 x3 = some q) : zMv l yX6_explore cX6_explore 11 none (zR (4 + 20) (114 + 30 * 20)) (xG D cs ad) [.ref (ad 23), .int x1, .int x2, .int x3] S q := c_X6_explore_23_r 20 S x1 x2 x3 h
def n_X6_smallest_23_b124 (F : Nat)  (S : Zs)  : Option (Int32 × Zs) :=
  zgf S 465 (fun v1 => some ((v1 &&& (65535 : Int32)), S))
set_option maxRecDepth 20000 in
set_option maxHeartbeats 4000000 in
theorem w_X6_smallest_23_b124 {F : Nat} {q : (Int32 × Zs)} {S : Zs}   {ls : Array Slot} {H : Heap} {locs : List Loc} (C : zC p s m args meth c cX6_smallest 7 RX6 (some .int))  (h : n_X6_smallest_23_b124 F  S  = some q) (hW : zW (xG D cs ad) s S H locs) (hl : lv_has ls 7 [(0, .ref (ad 23))]) : W p l e (zR 25 744) s m args below meth c H locs 0 0 (zQi (xG D cs ad) q below args s) (F0 m 124 ls []) := by
  unfold n_X6_smallest_23_b124 at h
  obtain ⟨hx, hb, hml, hown, hts, hret, hlk⟩ := id C
  refine lv_aload_n hx hb dX6_smallest_124 rfl (lv_at hl 0 rfl) ?_
  refine xg_23_5 C hW h fl_X6_30 dX6_smallest_125 (fun v1 h => ?_)
  refine lv_ldc (v := 65535) hx hb hown (hts _ ct_X6_41) dX6_smallest_128 ?_
  refine lv_iand hx hb dX6_smallest_130 ?_
  exact zz_iret C rfl h hW dX6_smallest_131
def n_X6_smallest_23_b88_l (F : Nat) (rc88 : Zs → Int32 → Int32 → Int32 → Option (Int32 × Zs)) (S : Zs) (x3 : Int32) (x5 : Int32) (x6 : Int32) : Option (Int32 × Zs) :=
  if (16 : Int32) < x6 then (n_X6_smallest_23_b124 F  S ) else (zgf S 465 (fun v1 => if v1 = (16777216 : Int32) then (zcl (n_X6_explore_23 F S x5 (x3 &&& (x5 ^^^ (-1 : Int32))) x6) (fun v3 S2 => zlet (x6 + (1 : Int32)) (fun v4 => rc88 S2 x3 x5 v4))) else (n_X6_smallest_23_b124 F  S )))
set_option maxRecDepth 20000 in
set_option maxHeartbeats 4000000 in
theorem w_X6_smallest_23_b88_l {F : Nat} {q : (Int32 × Zs)} {S : Zs} {rc88 : Zs → Int32 → Int32 → Int32 → Option (Int32 × Zs)} {x3 : Int32} {x5 : Int32} {x6 : Int32} {ls : Array Slot} {H : Heap} {locs : List Loc} (C : zC p s m args meth c cX6_smallest 7 RX6 (some .int)) (hrc88 : ∀ (S : Zs) (x3 : Int32) (x5 : Int32) (x6 : Int32) (H : Heap) (locs : List Loc) (ls : Array Slot), rc88 S x3 x5 x6 = some q → zW (xG D cs ad) s S H locs → lv_has ls 7 [(0, .ref (ad 23)), (3, .int x3), (5, .int x5), (6, .int x6)] → W p l e (zR 25 744) s m args below meth c H locs 0 0 (zQi (xG D cs ad) q below args s) (F0 m 88 ls [])) (h : n_X6_smallest_23_b88_l F rc88 S x3 x5 x6 = some q) (hW : zW (xG D cs ad) s S H locs) (hl : lv_has ls 7 [(0, .ref (ad 23)), (3, .int x3), (5, .int x5), (6, .int x6)]) : W p l e (zR 25 744) s m args below meth c H locs 0 0 (zQi (xG D cs ad) q below args s) (F0 m 88 ls []) := by
  unfold n_X6_smallest_23_b88_l at h
  obtain ⟨hx, hb, hml, hown, hts, hret, hlk⟩ := id C
  refine lv_iload hx hb dX6_smallest_88 (lv_at hl 3 rfl) ?_
  refine lv_bipush (v := 16) hx hb dX6_smallest_90 (by decide) ?_
  refine zz_cgt (tgt := 124) C h dX6_smallest_92 (by decide) (fun h => ?_) (fun h => ?_)
  · exact w_X6_smallest_23_b124 (F := F) C h hW (lv_sub hl [0] rfl)
  · refine lv_aload_n hx hb dX6_smallest_95 rfl (lv_at hl 0 rfl) ?_
    refine xg_23_5 C hW h fl_X6_30 dX6_smallest_96 (fun v1 h => ?_)
    refine lv_ldc (v := 16777216) hx hb hown (hts _ ct_X6_29) dX6_smallest_99 ?_
    refine zz_cne (tgt := 124) C h dX6_smallest_101 (by decide) (fun h => ?_) (fun h => ?_)
    · exact w_X6_smallest_23_b124 (F := F) C h hW (lv_sub hl [0] rfl)
    · refine lv_aload_n hx hb dX6_smallest_104 rfl (lv_at hl 0 rfl) ?_
      refine lv_iload hx hb dX6_smallest_105 (lv_at hl 2 rfl) ?_
      refine lv_iload_n hx hb dX6_smallest_107 rfl (lv_at hl 1 rfl) ?_
      refine lv_iload hx hb dX6_smallest_108 (lv_at hl 2 rfl) ?_
      refine lv_iconst (v := -1) hx hb dX6_smallest_110 (by decide) ?_
      refine lv_ixor hx hb dX6_smallest_111 ?_
      refine lv_iand hx hb dX6_smallest_112 ?_
      refine lv_iload hx hb dX6_smallest_113 (lv_at hl 3 rfl) ?_
      refine zz_callVv (As := [.int x5, .int (x3 &&& (x5 ^^^ (-1 : Int32))), .int x6]) C hW h (fun r hr => c_X6_explore_23 hr) lk_X6_37 (hW.recv xr_23) rfl hl.1 ⟨rfl, rfl⟩ ⟨Nat.le_of_ble_eq_true rfl, Nat.le_of_ble_eq_true rfl⟩ (Nat.le_of_ble_eq_true rfl) ⟨Nat.zero_le _, Nat.zero_le _⟩ rfl dX6_smallest_115 (fun v3 S2 H locs h hW => ?_)
      obtain ⟨v4, ev4, h⟩ := zz_name h
      refine lv_iinc (v := v4) (lv' := [(6, .int v4), (0, .ref (ad 23)), (3, .int x3), (5, .int x5)]) hx hb dX6_smallest_118 hl (k := 3) rfl ev4.symm (by decide) rfl (fun ls hl => ?_)
      refine lv_goto (tgt := 88) hx hb dX6_smallest_121 (by decide) ?_
      exact hrc88 _ _ _ _ _ _ _ h hW (lv_sub hl [1, 2, 3, 0] rfl)
def n_X6_smallest_23_b88 (F : Nat)  (S : Zs) (x3 : Int32) (x5 : Int32) (x6 : Int32) : Option (Int32 × Zs) :=
  zfix (fun (rc : (Zs × Int32 × Int32 × Int32) → Option (Int32 × Zs)) (u : (Zs × Int32 × Int32 × Int32)) => n_X6_smallest_23_b88_l F  (fun S x3 x5 x6 => rc (S, x3, x5, x6)) u.1 u.2.1 u.2.2.1 u.2.2.2) F (S, x3, x5, x6)
theorem w_X6_smallest_23_b88 {F : Nat} {q : (Int32 × Zs)}  (C : zC p s m args meth c cX6_smallest 7 RX6 (some .int))  : ∀ (n : Nat) (S : Zs) (x3 : Int32) (x5 : Int32) (x6 : Int32) (H : Heap) (locs : List Loc) (ls : Array Slot), zfix (fun (rc : (Zs × Int32 × Int32 × Int32) → Option (Int32 × Zs)) (u : (Zs × Int32 × Int32 × Int32)) => n_X6_smallest_23_b88_l F  (fun S x3 x5 x6 => rc (S, x3, x5, x6)) u.1 u.2.1 u.2.2.1 u.2.2.2) n (S, x3, x5, x6) = some q → zW (xG D cs ad) s S H locs → lv_has ls 7 [(0, .ref (ad 23)), (3, .int x3), (5, .int x5), (6, .int x6)] → W p l e (zR 25 744) s m args below meth c H locs 0 0 (zQi (xG D cs ad) q below args s) (F0 m 88 ls []) := by
  intro n
  induction n with
  | zero => intro S x3 x5 x6 H locs ls h; exact absurd h (fun h => by cases h)
  | succ n ih => intro S x3 x5 x6 H locs ls h hW hl; exact w_X6_smallest_23_b88_l (F := F) C (fun S x3 x5 x6 H locs ls h hW hl => ih S x3 x5 x6 H locs ls h hW hl) h hW hl
def n_X6_smallest_23_b79 (F : Nat) (rc39 : Zs → Int32 → Int32 → Int32 → Option (Int32 × Zs)) (S : Zs) (x3 : Int32) (x5 : Int32) (x6 : Int32) : Option (Int32 × Zs) :=
  zlet (x6 + (1 : Int32)) (fun v1 => rc39 S x3 x5 v1)
set_option maxRecDepth 20000 in
set_option maxHeartbeats 4000000 in
theorem w_X6_smallest_23_b79 {F : Nat} {q : (Int32 × Zs)} {S : Zs} {rc39 : Zs → Int32 → Int32 → Int32 → Option (Int32 × Zs)} {x3 : Int32} {x5 : Int32} {x6 : Int32} {ls : Array Slot} {H : Heap} {locs : List Loc} (C : zC p s m args meth c cX6_smallest 7 RX6 (some .int)) (hrc39 : ∀ (S : Zs) (x3 : Int32) (x5 : Int32) (x6 : Int32) (H : Heap) (locs : List Loc) (ls : Array Slot), rc39 S x3 x5 x6 = some q → zW (xG D cs ad) s S H locs → lv_has ls 7 [(0, .ref (ad 23)), (3, .int x3), (5, .int x5), (6, .int x6)] → W p l e (zR 25 744) s m args below meth c H locs 0 0 (zQi (xG D cs ad) q below args s) (F0 m 39 ls [])) (h : n_X6_smallest_23_b79 F rc39 S x3 x5 x6 = some q) (hW : zW (xG D cs ad) s S H locs) (hl : lv_has ls 7 [(0, .ref (ad 23)), (3, .int x3), (5, .int x5), (6, .int x6)]) : W p l e (zR 25 744) s m args below meth c H locs 0 0 (zQi (xG D cs ad) q below args s) (F0 m 79 ls []) := by
  unfold n_X6_smallest_23_b79 at h
  obtain ⟨hx, hb, hml, hown, hts, hret, hlk⟩ := id C
  obtain ⟨v1, ev1, h⟩ := zz_name h
  refine lv_iinc (v := v1) (lv' := [(6, .int v1), (0, .ref (ad 23)), (3, .int x3), (5, .int x5)]) hx hb dX6_smallest_79 hl (k := 3) rfl ev1.symm (by decide) rfl (fun ls hl => ?_)
  refine lv_goto (tgt := 39) hx hb dX6_smallest_82 (by decide) ?_
  exact hrc39 _ _ _ _ _ _ _ h hW (lv_sub hl [1, 2, 3, 0] rfl)
def n_X6_smallest_23_b39_l (F : Nat) (rc39 : Zs → Int32 → Int32 → Int32 → Option (Int32 × Zs)) (S : Zs) (x3 : Int32) (x5 : Int32) (x6 : Int32) : Option (Int32 × Zs) :=
  if (16 : Int32) ≤ x6 then (n_X6_smallest_23_b88 F  S x3 x5 (0 : Int32)) else (if ((x3 >>> (x6 &&& 31)) &&& (1 : Int32)) = 0 then (n_X6_smallest_23_b79 F rc39 S x3 x5 x6) else (zcl (n_X6_enough_23 F S (x3 &&& (((1 : Int32) <<< (x6 &&& 31)) ^^^ (-1 : Int32)))) (fun v2 S1 => if v2 = 0 then (zlet (x5 ||| ((1 : Int32) <<< (x6 &&& 31))) (fun v3 => n_X6_smallest_23_b79 F rc39 S1 x3 v3 x6)) else (n_X6_smallest_23_b79 F rc39 S1 x3 x5 x6))))
set_option maxRecDepth 20000 in
set_option maxHeartbeats 4000000 in
theorem w_X6_smallest_23_b39_l {F : Nat} {q : (Int32 × Zs)} {S : Zs} {rc39 : Zs → Int32 → Int32 → Int32 → Option (Int32 × Zs)} {x3 : Int32} {x5 : Int32} {x6 : Int32} {ls : Array Slot} {H : Heap} {locs : List Loc} (C : zC p s m args meth c cX6_smallest 7 RX6 (some .int)) (hrc39 : ∀ (S : Zs) (x3 : Int32) (x5 : Int32) (x6 : Int32) (H : Heap) (locs : List Loc) (ls : Array Slot), rc39 S x3 x5 x6 = some q → zW (xG D cs ad) s S H locs → lv_has ls 7 [(0, .ref (ad 23)), (3, .int x3), (5, .int x5), (6, .int x6)] → W p l e (zR 25 744) s m args below meth c H locs 0 0 (zQi (xG D cs ad) q below args s) (F0 m 39 ls [])) (h : n_X6_smallest_23_b39_l F rc39 S x3 x5 x6 = some q) (hW : zW (xG D cs ad) s S H locs) (hl : lv_has ls 7 [(0, .ref (ad 23)), (3, .int x3), (5, .int x5), (6, .int x6)]) : W p l e (zR 25 744) s m args below meth c H locs 0 0 (zQi (xG D cs ad) q below args s) (F0 m 39 ls []) := by
  unfold n_X6_smallest_23_b39_l at h
  obtain ⟨hx, hb, hml, hown, hts, hret, hlk⟩ := id C
  refine lv_iload hx hb dX6_smallest_39 (lv_at hl 3 rfl) ?_
  refine lv_bipush (v := 16) hx hb dX6_smallest_41 (by decide) ?_
  refine zz_cge (tgt := 85) C h dX6_smallest_43 (by decide) (fun h => ?_) (fun h => ?_)
  · refine lv_iconst (v := 0) hx hb dX6_smallest_85 (by decide) ?_
    refine lv_istore (lv' := [(6, .int (0 : Int32)), (0, .ref (ad 23)), (3, .int x3), (5, .int x5)]) hx hb dX6_smallest_86 hl (by decide) rfl (fun ls hl => ?_)
    exact w_X6_smallest_23_b88 (F := F) C F _ _ _ _ _ _ _ h hW (lv_sub hl [1, 2, 3, 0] rfl)
  · refine lv_iload_n hx hb dX6_smallest_46 rfl (lv_at hl 1 rfl) ?_
    refine lv_iload hx hb dX6_smallest_47 (lv_at hl 3 rfl) ?_
    refine lv_ishr hx hb dX6_smallest_49 ?_
    refine lv_iconst (v := 1) hx hb dX6_smallest_50 (by decide) ?_
    refine lv_iand hx hb dX6_smallest_51 ?_
    refine zz_ieq (tgt := 79) C h dX6_smallest_52 (by decide) (fun h => ?_) (fun h => ?_)
    · exact w_X6_smallest_23_b79 (F := F) C hrc39 h hW (lv_sub hl [0, 1, 2, 3] rfl)
    · refine lv_aload_n hx hb dX6_smallest_55 rfl (lv_at hl 0 rfl) ?_
      refine lv_iload_n hx hb dX6_smallest_56 rfl (lv_at hl 1 rfl) ?_
      refine lv_iconst (v := 1) hx hb dX6_smallest_57 (by decide) ?_
      refine lv_iload hx hb dX6_smallest_58 (lv_at hl 3 rfl) ?_
      refine lv_ishl hx hb dX6_smallest_60 ?_
      refine lv_iconst (v := -1) hx hb dX6_smallest_61 (by decide) ?_
      refine lv_ixor hx hb dX6_smallest_62 ?_
      refine lv_iand hx hb dX6_smallest_63 ?_
      refine zz_callVi (As := [.int (x3 &&& (((1 : Int32) <<< (x6 &&& 31)) ^^^ (-1 : Int32)))]) C hW h (fun r hr => c_X6_enough_23 hr) lk_X6_33 (hW.recv xr_23) rfl hl.1 ⟨rfl, rfl⟩ ⟨Nat.le_of_ble_eq_true rfl, Nat.le_of_ble_eq_true rfl⟩ (Nat.le_of_ble_eq_true rfl) ⟨Nat.zero_le _, Nat.zero_le _⟩ rfl dX6_smallest_64 (fun v2 S1 H locs h hW => ?_)
      refine zz_ine (tgt := 79) C h dX6_smallest_67 (by decide) (fun h => ?_) (fun h => ?_)
      · exact w_X6_smallest_23_b79 (F := F) C hrc39 h hW (lv_sub hl [0, 1, 2, 3] rfl)
      · refine lv_iload hx hb dX6_smallest_70 (lv_at hl 2 rfl) ?_
        refine lv_iconst (v := 1) hx hb dX6_smallest_72 (by decide) ?_
        refine lv_iload hx hb dX6_smallest_73 (lv_at hl 3 rfl) ?_
        refine lv_ishl hx hb dX6_smallest_75 ?_
        refine lv_ior hx hb dX6_smallest_76 ?_
        refine zz_leti h (fun v3 h => ?_)
        refine lv_istore (lv' := [(5, .int v3), (0, .ref (ad 23)), (3, .int x3), (6, .int x6)]) hx hb dX6_smallest_77 hl (by decide) rfl (fun ls hl => ?_)
        exact w_X6_smallest_23_b79 (F := F) C hrc39 h hW (lv_sub hl [1, 2, 0, 3] rfl)
def n_X6_smallest_23_b39 (F : Nat)  (S : Zs) (x3 : Int32) (x5 : Int32) (x6 : Int32) : Option (Int32 × Zs) :=
  zfix (fun (rc : (Zs × Int32 × Int32 × Int32) → Option (Int32 × Zs)) (u : (Zs × Int32 × Int32 × Int32)) => n_X6_smallest_23_b39_l F  (fun S x3 x5 x6 => rc (S, x3, x5, x6)) u.1 u.2.1 u.2.2.1 u.2.2.2) F (S, x3, x5, x6)
theorem w_X6_smallest_23_b39 {F : Nat} {q : (Int32 × Zs)}  (C : zC p s m args meth c cX6_smallest 7 RX6 (some .int))  : ∀ (n : Nat) (S : Zs) (x3 : Int32) (x5 : Int32) (x6 : Int32) (H : Heap) (locs : List Loc) (ls : Array Slot), zfix (fun (rc : (Zs × Int32 × Int32 × Int32) → Option (Int32 × Zs)) (u : (Zs × Int32 × Int32 × Int32)) => n_X6_smallest_23_b39_l F  (fun S x3 x5 x6 => rc (S, x3, x5, x6)) u.1 u.2.1 u.2.2.1 u.2.2.2) n (S, x3, x5, x6) = some q → zW (xG D cs ad) s S H locs → lv_has ls 7 [(0, .ref (ad 23)), (3, .int x3), (5, .int x5), (6, .int x6)] → W p l e (zR 25 744) s m args below meth c H locs 0 0 (zQi (xG D cs ad) q below args s) (F0 m 39 ls []) := by
  intro n
  induction n with
  | zero => intro S x3 x5 x6 H locs ls h; exact absurd h (fun h => by cases h)
  | succ n ih => intro S x3 x5 x6 H locs ls h hW hl; exact w_X6_smallest_23_b39_l (F := F) C (fun S x3 x5 x6 H locs ls h hW hl => ih S x3 x5 x6 H locs ls h hW hl) h hW hl
def n_X6_smallest_23_e (F : Nat)  (S : Zs) (x1 : Int32) (x2 : Int32) (x3 : Int32) (x4 : Int32) : Option (Int32 × Zs) :=
  zpf S 462 x1 (fun S1 => zpf S1 463 x2 (fun S2 => zpf S2 464 x4 (fun S3 => zpf S3 465 (16777216 : Int32) (fun S4 => zcl (n_X6_enough_23 F S4 x3) (fun v6 S5 => if v6 = 0 then (some ((-2 : Int32), S5)) else (n_X6_smallest_23_b39 F  S5 x3 (0 : Int32) (0 : Int32)))))))
set_option maxRecDepth 20000 in
set_option maxHeartbeats 4000000 in
theorem w_X6_smallest_23_e {F : Nat} {q : (Int32 × Zs)} {S : Zs}  {x1 : Int32} {x2 : Int32} {x3 : Int32} {x4 : Int32} {ls : Array Slot} {H : Heap} {locs : List Loc} (C : zC p s m args meth c cX6_smallest 7 RX6 (some .int))  (h : n_X6_smallest_23_e F  S x1 x2 x3 x4 = some q) (hW : zW (xG D cs ad) s S H locs) (hl : lv_has ls 7 [(0, .ref (ad 23)), (1, .int x1), (2, .int x2), (3, .int x3), (4, .int x4)]) : W p l e (zR 25 744) s m args below meth c H locs 0 0 (zQi (xG D cs ad) q below args s) (F0 m 0 ls []) := by
  unfold n_X6_smallest_23_e at h
  obtain ⟨hx, hb, hml, hown, hts, hret, hlk⟩ := id C
  refine lv_aload_n hx hb dX6_smallest_0 rfl (lv_at hl 0 rfl) ?_
  refine lv_iload_n hx hb dX6_smallest_1 rfl (lv_at hl 1 rfl) ?_
  refine xp_23_2 C hW h fl_X6_19 dX6_smallest_2 (fun S1 H locs h hW => ?_)
  refine lv_aload_n hx hb dX6_smallest_5 rfl (lv_at hl 0 rfl) ?_
  refine lv_iload_n hx hb dX6_smallest_6 rfl (lv_at hl 2 rfl) ?_
  refine xp_23_3 C hW h fl_X6_23 dX6_smallest_7 (fun S2 H locs h hW => ?_)
  refine lv_aload_n hx hb dX6_smallest_10 rfl (lv_at hl 0 rfl) ?_
  refine lv_iload hx hb dX6_smallest_11 (lv_at hl 4 rfl) ?_
  refine xp_23_4 C hW h fl_X6_26 dX6_smallest_13 (fun S3 H locs h hW => ?_)
  refine lv_aload_n hx hb dX6_smallest_16 rfl (lv_at hl 0 rfl) ?_
  refine lv_ldc (v := 16777216) hx hb hown (hts _ ct_X6_29) dX6_smallest_17 ?_
  refine xp_23_5 C hW h fl_X6_30 dX6_smallest_19 (fun S4 H locs h hW => ?_)
  refine lv_aload_n hx hb dX6_smallest_22 rfl (lv_at hl 0 rfl) ?_
  refine lv_iload_n hx hb dX6_smallest_23 rfl (lv_at hl 3 rfl) ?_
  refine zz_callVi (As := [.int x3]) C hW h (fun r hr => c_X6_enough_23 hr) lk_X6_33 (hW.recv xr_23) rfl hl.1 ⟨rfl, rfl⟩ ⟨Nat.le_of_ble_eq_true rfl, Nat.le_of_ble_eq_true rfl⟩ (Nat.le_of_ble_eq_true rfl) ⟨Nat.zero_le _, Nat.zero_le _⟩ rfl dX6_smallest_24 (fun v6 S5 H locs h hW => ?_)
  refine zz_ine (tgt := 33) C h dX6_smallest_27 (by decide) (fun h => ?_) (fun h => ?_)
  · refine lv_iconst (v := 0) hx hb dX6_smallest_33 (by decide) ?_
    refine lv_istore (lv' := [(5, .int (0 : Int32)), (0, .ref (ad 23)), (1, .int x1), (2, .int x2), (3, .int x3), (4, .int x4)]) hx hb dX6_smallest_34 hl (by decide) rfl (fun ls hl => ?_)
    refine lv_iconst (v := 0) hx hb dX6_smallest_36 (by decide) ?_
    refine lv_istore (lv' := [(6, .int (0 : Int32)), (5, .int (0 : Int32)), (0, .ref (ad 23)), (1, .int x1), (2, .int x2), (3, .int x3), (4, .int x4)]) hx hb dX6_smallest_37 hl (by decide) rfl (fun ls hl => ?_)
    exact w_X6_smallest_23_b39 (F := F) C F _ _ _ _ _ _ _ h hW (lv_sub hl [2, 5, 1, 0] rfl)
  · refine lv_bipush (v := -2) hx hb dX6_smallest_30 (by decide) ?_
    exact zz_iret C rfl h hW dX6_smallest_32
def n_X6_smallest_23 (F : Nat) (S : Zs) (x1 : Int32) (x2 : Int32) (x3 : Int32) (x4 : Int32) : Option (Int32 × Zs) := n_X6_smallest_23_e F  S x1 x2 x3 x4
theorem c_X6_smallest_23 {l : Launch} {D : va_G} {cs ad : Nat → Nat} {F : Nat} {S : Zs} {x1 : Int32} {x2 : Int32} {x3 : Int32} {x4 : Int32} {q : (Int32 × Zs)} (h : n_X6_smallest_23 F S x1 x2 x3 x4 = some q) : zMi l yX6_smallest cX6_smallest 7 (some .int) (zR 25 744) (xG D cs ad) [.ref (ad 23), .int x1, .int x2, .int x3, .int x4] S q :=
  zz_enter (by decide) (Nat.le_of_ble_eq_true rfl) (fun p e s m below meth c ls C hW hl => w_X6_smallest_23_e (F := F) C h hW (lv_sub hl [0, 1, 2, 3, 4] rfl))
def n_X11_tellOne_0_e (F : Nat)  (S : Zs) (x1 : Int32) : Option (Int32 × Zs) :=
  zst S 47 24 (0 : Int32) x1 (fun S1 => zpf S1 10 (1 : Int32) (fun S2 => some (0, S2)))
set_option maxRecDepth 20000 in
set_option maxHeartbeats 4000000 in
theorem w_X11_tellOne_0_e {F : Nat} {q : (Int32 × Zs)} {S : Zs}  {x1 : Int32} {ls : Array Slot} {H : Heap} {locs : List Loc} (C : zC p s m args meth c cX11_tellOne 2 RX11 none)  (h : n_X11_tellOne_0_e F  S x1 = some q) (hW : zW (xG D cs ad) s S H locs) (hl : lv_has ls 2 [(0, .ref (ad 0)), (1, .int x1)]) : W p l e (zR 0 0) s m args below meth c H locs 0 0 (zQv (xG D cs ad) q below args s) (F0 m 0 ls []) := by
  unfold n_X11_tellOne_0_e at h
  obtain ⟨hx, hb, hml, hown, hts, hret, hlk⟩ := id C
  refine lv_aload_n hx hb dX11_tellOne_0 rfl (lv_at hl 0 rfl) ?_
  refine xg_0_9 C hW fl_X11_78 dX11_tellOne_1 ?_
  refine lv_iconst (v := 0) hx hb dX11_tellOne_4 (by decide) ?_
  refine lv_iload_n hx hb dX11_tellOne_5 rfl (lv_at hl 1 rfl) ?_
  refine xs_47 C hW h dX11_tellOne_6 (fun S1 H locs h hW => ?_)
  refine lv_aload_n hx hb dX11_tellOne_7 rfl (lv_at hl 0 rfl) ?_
  refine lv_iconst (v := 1) hx hb dX11_tellOne_8 (by decide) ?_
  refine xp_0_10 C hW h fl_X11_82 dX11_tellOne_9 (fun S2 H locs h hW => ?_)
  exact zz_vret C rfl h hW dX11_tellOne_12
def n_X11_tellOne_0 (F : Nat) (S : Zs) (x1 : Int32) : Option (Int32 × Zs) := n_X11_tellOne_0_e F  S x1
theorem c_X11_tellOne_0 {l : Launch} {D : va_G} {cs ad : Nat → Nat} {F : Nat} {S : Zs} {x1 : Int32} {q : (Int32 × Zs)} (h : n_X11_tellOne_0 F S x1 = some q) : zMv l yX11_tellOne cX11_tellOne 2 none (zR 0 0) (xG D cs ad) [.ref (ad 0), .int x1] S q :=
  zz_enter (by decide) (Nat.le_of_ble_eq_true rfl) (fun p e s m below meth c ls C hW hl => w_X11_tellOne_0_e (F := F) C h hW (lv_sub hl [0, 1] rfl))
def n_X11_tellSmallest_0_e (F : Nat)  (S : Zs) (x1 : Int32) : Option (Int32 × Zs) :=
  if 0 ≤ x1 then (zcl (n_X11_tellOne_0 F S x1) (fun v2 S1 => zcl (n_J6_bitCount_0f7a4_x F S1 x1) (fun v4 S3 => some (v4, S3)))) else (some (x1, S))
set_option maxRecDepth 20000 in
set_option maxHeartbeats 4000000 in
theorem w_X11_tellSmallest_0_e {F : Nat} {q : (Int32 × Zs)} {S : Zs}  {x1 : Int32} {ls : Array Slot} {H : Heap} {locs : List Loc} (C : zC p s m args meth c cX11_tellSmallest 2 RX11 (some .int))  (h : n_X11_tellSmallest_0_e F  S x1 = some q) (hW : zW (xG D cs ad) s S H locs) (hl : lv_has ls 2 [(0, .ref (ad 0)), (1, .int x1)]) : W p l e (zR 1 21) s m args below meth c H locs 0 0 (zQi (xG D cs ad) q below args s) (F0 m 0 ls []) := by
  unfold n_X11_tellSmallest_0_e at h
  obtain ⟨hx, hb, hml, hown, hts, hret, hlk⟩ := id C
  refine lv_iload_n hx hb dX11_tellSmallest_0 rfl (lv_at hl 1 rfl) ?_
  refine zz_ige (tgt := 6) C h dX11_tellSmallest_1 (by decide) (fun h => ?_) (fun h => ?_)
  · refine lv_aload_n hx hb dX11_tellSmallest_6 rfl (lv_at hl 0 rfl) ?_
    refine lv_iload_n hx hb dX11_tellSmallest_7 rfl (lv_at hl 1 rfl) ?_
    refine zz_callVv (As := [.int x1]) C hW h (fun r hr => c_X11_tellOne_0 hr) lk_X11_182 (hW.recv xr_0) rfl hl.1 ⟨rfl, rfl⟩ ⟨Nat.le_of_ble_eq_true rfl, Nat.le_of_ble_eq_true rfl⟩ (Nat.le_of_ble_eq_true rfl) ⟨Nat.zero_le _, Nat.zero_le _⟩ rfl dX11_tellSmallest_8 (fun v2 S1 H locs h hW => ?_)
    refine lv_iload_n hx hb dX11_tellSmallest_11 rfl (lv_at hl 1 rfl) ?_
    refine zz_callSi (As := [.int x1]) C hW h (fun r hr => c_J6_bitCount_0f7a4_x hr) lk_X11_139 rfl hl.1 ⟨rfl, rfl⟩ ⟨Nat.le_of_ble_eq_true rfl, Nat.le_of_ble_eq_true rfl⟩ (Nat.le_of_ble_eq_true rfl) ⟨Nat.zero_le _, Nat.zero_le _⟩ rfl dX11_tellSmallest_12 (fun v4 S3 H locs h hW => ?_)
    exact zz_iret C rfl h hW dX11_tellSmallest_15
  · refine lv_iload_n hx hb dX11_tellSmallest_4 rfl (lv_at hl 1 rfl) ?_
    exact zz_iret C rfl h hW dX11_tellSmallest_5
def n_X11_tellSmallest_0 (F : Nat) (S : Zs) (x1 : Int32) : Option (Int32 × Zs) := n_X11_tellSmallest_0_e F  S x1
theorem c_X11_tellSmallest_0 {l : Launch} {D : va_G} {cs ad : Nat → Nat} {F : Nat} {S : Zs} {x1 : Int32} {q : (Int32 × Zs)} (h : n_X11_tellSmallest_0 F S x1 = some q) : zMi l yX11_tellSmallest cX11_tellSmallest 2 (some .int) (zR 1 21) (xG D cs ad) [.ref (ad 0), .int x1] S q :=
  zz_enter (by decide) (Nat.le_of_ble_eq_true rfl) (fun p e s m below meth c ls C hW hl => w_X11_tellSmallest_0_e (F := F) C h hW (lv_sub hl [0, 1] rfl))
def n_X11_fewest_0_e (F : Nat)  (S : Zs)  : Option (Int32 × Zs) :=
  zcl (n_X2_active_3 F S ) (fun v2 S1 => zcl (n_X6_smallest_23 F S1 (0 : Int32) (-1 : Int32) v2 (0 : Int32)) (fun v4 S3 => zcl (n_X11_tellSmallest_0 F S3 v4) (fun v6 S5 => some (v6, S5))))
set_option maxRecDepth 20000 in
set_option maxHeartbeats 4000000 in
theorem w_X11_fewest_0_e {F : Nat} {q : (Int32 × Zs)} {S : Zs}   {ls : Array Slot} {H : Heap} {locs : List Loc} (C : zC p s m args meth c cX11_fewest 1 RX11 (some .int))  (h : n_X11_fewest_0_e F  S  = some q) (hW : zW (xG D cs ad) s S H locs) (hl : lv_has ls 1 [(0, .ref (ad 0))]) : W p l e (zR 26 770) s m args below meth c H locs 0 0 (zQi (xG D cs ad) q below args s) (F0 m 0 ls []) := by
  unfold n_X11_fewest_0_e at h
  obtain ⟨hx, hb, hml, hown, hts, hret, hlk⟩ := id C
  refine lv_aload_n hx hb dX11_fewest_0 rfl (lv_at hl 0 rfl) ?_
  refine lv_aload_n hx hb dX11_fewest_1 rfl (lv_at hl 0 rfl) ?_
  refine xg_0_3 C hW fl_X11_40 dX11_fewest_2 ?_
  refine lv_iconst (v := 0) hx hb dX11_fewest_5 (by decide) ?_
  refine lv_iconst (v := -1) hx hb dX11_fewest_6 (by decide) ?_
  refine lv_aload_n hx hb dX11_fewest_7 rfl (lv_at hl 0 rfl) ?_
  refine xg_0_1 C hW fl_X11_27 dX11_fewest_8 ?_
  refine zz_callVi (As := []) C hW h (fun r hr => c_X2_active_3 hr) lk_X11_144 (hW.recv xr_3) rfl hl.1 ⟨rfl, rfl⟩ ⟨Nat.le_of_ble_eq_true rfl, Nat.le_of_ble_eq_true rfl⟩ (Nat.le_of_ble_eq_true rfl) ⟨Nat.zero_le _, Nat.zero_le _⟩ rfl dX11_fewest_11 (fun v2 S1 H locs h hW => ?_)
  refine lv_iconst (v := 0) hx hb dX11_fewest_14 (by decide) ?_
  refine zz_callVi (As := [.int (0 : Int32), .int (-1 : Int32), .int v2, .int (0 : Int32)]) C hW h (fun r hr => c_X6_smallest_23 hr) lk_X11_164 (hW.recv xr_23) rfl hl.1 ⟨rfl, rfl⟩ ⟨Nat.le_of_ble_eq_true rfl, Nat.le_of_ble_eq_true rfl⟩ (Nat.le_of_ble_eq_true rfl) ⟨Nat.zero_le _, Nat.zero_le _⟩ rfl dX11_fewest_15 (fun v4 S3 H locs h hW => ?_)
  refine zz_callVi (As := [.int v4]) C hW h (fun r hr => c_X11_tellSmallest_0 hr) lk_X11_167 (hW.recv xr_0) rfl hl.1 ⟨rfl, rfl⟩ ⟨Nat.le_of_ble_eq_true rfl, Nat.le_of_ble_eq_true rfl⟩ (Nat.le_of_ble_eq_true rfl) ⟨Nat.zero_le _, Nat.zero_le _⟩ rfl dX11_fewest_18 (fun v6 S5 H locs h hW => ?_)
  exact zz_iret C rfl h hW dX11_fewest_21
def n_X11_fewest_0 (F : Nat) (S : Zs)  : Option (Int32 × Zs) := n_X11_fewest_0_e F  S 
theorem c_X11_fewest_0 {l : Launch} {D : va_G} {cs ad : Nat → Nat} {F : Nat} {S : Zs}  {q : (Int32 × Zs)} (h : n_X11_fewest_0 F S  = some q) : zMi l yX11_fewest cX11_fewest 1 (some .int) (zR 26 770) (xG D cs ad) [.ref (ad 0)] S q :=
  zz_enter (by decide) (Nat.le_of_ble_eq_true rfl) (fun p e s m below meth c ls C hW hl => w_X11_fewest_0_e (F := F) C h hW (lv_sub hl [0] rfl))
def n_X1_superfluous_13_b60 (F : Nat) (rc12 : Zs → Int32 → Int32 → Int32 → Option (Int32 × Zs)) (S : Zs) (x1 : Int32) (x2 : Int32) (x3 : Int32) : Option (Int32 × Zs) :=
  zlet (x3 + (1 : Int32)) (fun v1 => rc12 S x1 x2 v1)
set_option maxRecDepth 20000 in
set_option maxHeartbeats 4000000 in
theorem w_X1_superfluous_13_b60 {F : Nat} {q : (Int32 × Zs)} {S : Zs} {rc12 : Zs → Int32 → Int32 → Int32 → Option (Int32 × Zs)} {x1 : Int32} {x2 : Int32} {x3 : Int32} {ls : Array Slot} {H : Heap} {locs : List Loc} (C : zC p s m args meth c cX1_superfluous 4 RX1 (some .int)) (hrc12 : ∀ (S : Zs) (x1 : Int32) (x2 : Int32) (x3 : Int32) (H : Heap) (locs : List Loc) (ls : Array Slot), rc12 S x1 x2 x3 = some q → zW (xG D cs ad) s S H locs → lv_has ls 4 [(0, .ref (ad 13)), (1, .int x1), (2, .int x2), (3, .int x3)] → W p l e (zR 3 68) s m args below meth c H locs 0 0 (zQi (xG D cs ad) q below args s) (F0 m 12 ls [])) (h : n_X1_superfluous_13_b60 F rc12 S x1 x2 x3 = some q) (hW : zW (xG D cs ad) s S H locs) (hl : lv_has ls 4 [(0, .ref (ad 13)), (1, .int x1), (2, .int x2), (3, .int x3)]) : W p l e (zR 3 68) s m args below meth c H locs 0 0 (zQi (xG D cs ad) q below args s) (F0 m 60 ls []) := by
  unfold n_X1_superfluous_13_b60 at h
  obtain ⟨hx, hb, hml, hown, hts, hret, hlk⟩ := id C
  obtain ⟨v1, ev1, h⟩ := zz_name h
  refine lv_iinc (v := v1) (lv' := [(3, .int v1), (0, .ref (ad 13)), (1, .int x1), (2, .int x2)]) hx hb dX1_superfluous_60 hl (k := 3) rfl ev1.symm (by decide) rfl (fun ls hl => ?_)
  refine lv_goto (tgt := 12) hx hb dX1_superfluous_63 (by decide) ?_
  exact hrc12 _ _ _ _ _ _ _ h hW (lv_sub hl [1, 2, 3, 0] rfl)
def n_X1_superfluous_13_b12_l (F : Nat) (rc12 : Zs → Int32 → Int32 → Int32 → Option (Int32 × Zs)) (S : Zs) (x1 : Int32) (x2 : Int32) (x3 : Int32) : Option (Int32 × Zs) :=
  zgf S 62 (fun v1 => if v1 ≤ x3 then (some (x2, S)) else (if ((x1 >>> (x3 &&& 31)) &&& (1 : Int32)) = 0 then (n_X1_superfluous_13_b60 F rc12 S x1 x2 x3) else (zld S 4 16 x3 (fun v2 => zcl (n_X1_entails_13 F S (x1 &&& (((1 : Int32) <<< (x3 &&& 31)) ^^^ (-1 : Int32))) v2) (fun v4 S3 => if v4 = 0 then (n_X1_superfluous_13_b60 F rc12 S3 x1 x2 x3) else (zlet (x2 ||| ((1 : Int32) <<< (x3 &&& 31))) (fun v5 => n_X1_superfluous_13_b60 F rc12 S3 x1 v5 x3)))))))
set_option maxRecDepth 20000 in
set_option maxHeartbeats 4000000 in
theorem w_X1_superfluous_13_b12_l {F : Nat} {q : (Int32 × Zs)} {S : Zs} {rc12 : Zs → Int32 → Int32 → Int32 → Option (Int32 × Zs)} {x1 : Int32} {x2 : Int32} {x3 : Int32} {ls : Array Slot} {H : Heap} {locs : List Loc} (C : zC p s m args meth c cX1_superfluous 4 RX1 (some .int)) (hrc12 : ∀ (S : Zs) (x1 : Int32) (x2 : Int32) (x3 : Int32) (H : Heap) (locs : List Loc) (ls : Array Slot), rc12 S x1 x2 x3 = some q → zW (xG D cs ad) s S H locs → lv_has ls 4 [(0, .ref (ad 13)), (1, .int x1), (2, .int x2), (3, .int x3)] → W p l e (zR 3 68) s m args below meth c H locs 0 0 (zQi (xG D cs ad) q below args s) (F0 m 12 ls [])) (h : n_X1_superfluous_13_b12_l F rc12 S x1 x2 x3 = some q) (hW : zW (xG D cs ad) s S H locs) (hl : lv_has ls 4 [(0, .ref (ad 13)), (1, .int x1), (2, .int x2), (3, .int x3)]) : W p l e (zR 3 68) s m args below meth c H locs 0 0 (zQi (xG D cs ad) q below args s) (F0 m 12 ls []) := by
  unfold n_X1_superfluous_13_b12_l at h
  obtain ⟨hx, hb, hml, hown, hts, hret, hlk⟩ := id C
  refine lv_iload_n hx hb dX1_superfluous_12 rfl (lv_at hl 3 rfl) ?_
  refine lv_aload_n hx hb dX1_superfluous_13 rfl (lv_at hl 0 rfl) ?_
  refine xg_13_0 C hW fl_X1_32 dX1_superfluous_14 ?_
  refine xg_3_2 C hW h fl_X1_48 dX1_superfluous_17 (fun v1 h => ?_)
  refine zz_cge (tgt := 66) C h dX1_superfluous_20 (by decide) (fun h => ?_) (fun h => ?_)
  · refine lv_iload_n hx hb dX1_superfluous_66 rfl (lv_at hl 2 rfl) ?_
    exact zz_iret C rfl h hW dX1_superfluous_67
  · refine lv_iload_n hx hb dX1_superfluous_23 rfl (lv_at hl 1 rfl) ?_
    refine lv_iload_n hx hb dX1_superfluous_24 rfl (lv_at hl 3 rfl) ?_
    refine lv_ishr hx hb dX1_superfluous_25 ?_
    refine lv_iconst (v := 1) hx hb dX1_superfluous_26 (by decide) ?_
    refine lv_iand hx hb dX1_superfluous_27 ?_
    refine zz_ieq (tgt := 60) C h dX1_superfluous_28 (by decide) (fun h => ?_) (fun h => ?_)
    · exact w_X1_superfluous_13_b60 (F := F) C hrc12 h hW (lv_sub hl [0, 1, 2, 3] rfl)
    · refine lv_aload_n hx hb dX1_superfluous_31 rfl (lv_at hl 0 rfl) ?_
      refine lv_iload_n hx hb dX1_superfluous_32 rfl (lv_at hl 1 rfl) ?_
      refine lv_iconst (v := 1) hx hb dX1_superfluous_33 (by decide) ?_
      refine lv_iload_n hx hb dX1_superfluous_34 rfl (lv_at hl 3 rfl) ?_
      refine lv_ishl hx hb dX1_superfluous_35 ?_
      refine lv_iconst (v := -1) hx hb dX1_superfluous_36 (by decide) ?_
      refine lv_ixor hx hb dX1_superfluous_37 ?_
      refine lv_iand hx hb dX1_superfluous_38 ?_
      refine lv_aload_n hx hb dX1_superfluous_39 rfl (lv_at hl 0 rfl) ?_
      refine xg_13_0 C hW fl_X1_32 dX1_superfluous_40 ?_
      refine xg_3_0 C hW fl_X1_51 dX1_superfluous_43 ?_
      refine lv_iload_n hx hb dX1_superfluous_46 rfl (lv_at hl 3 rfl) ?_
      refine xl_4 C hW h dX1_superfluous_47 (fun v2 h => ?_)
      refine zz_callVi (As := [.int (x1 &&& (((1 : Int32) <<< (x3 &&& 31)) ^^^ (-1 : Int32))), .int v2]) C hW h (fun r hr => c_X1_entails_13 hr) lk_X1_99 (hW.recv xr_13) rfl hl.1 ⟨rfl, rfl⟩ ⟨Nat.le_of_ble_eq_true rfl, Nat.le_of_ble_eq_true rfl⟩ (Nat.le_of_ble_eq_true rfl) ⟨Nat.zero_le _, Nat.zero_le _⟩ rfl dX1_superfluous_48 (fun v4 S3 H locs h hW => ?_)
      refine zz_ieq (tgt := 60) C h dX1_superfluous_51 (by decide) (fun h => ?_) (fun h => ?_)
      · exact w_X1_superfluous_13_b60 (F := F) C hrc12 h hW (lv_sub hl [0, 1, 2, 3] rfl)
      · refine lv_iload_n hx hb dX1_superfluous_54 rfl (lv_at hl 2 rfl) ?_
        refine lv_iconst (v := 1) hx hb dX1_superfluous_55 (by decide) ?_
        refine lv_iload_n hx hb dX1_superfluous_56 rfl (lv_at hl 3 rfl) ?_
        refine lv_ishl hx hb dX1_superfluous_57 ?_
        refine lv_ior hx hb dX1_superfluous_58 ?_
        refine zz_leti h (fun v5 h => ?_)
        refine lv_istore_n (lv' := [(2, .int v5), (0, .ref (ad 13)), (1, .int x1), (3, .int x3)]) hx hb dX1_superfluous_59 rfl hl (by decide) rfl (fun ls hl => ?_)
        exact w_X1_superfluous_13_b60 (F := F) C hrc12 h hW (lv_sub hl [1, 2, 0, 3] rfl)
def n_X1_superfluous_13_b12 (F : Nat)  (S : Zs) (x1 : Int32) (x2 : Int32) (x3 : Int32) : Option (Int32 × Zs) :=
  zfix (fun (rc : (Zs × Int32 × Int32 × Int32) → Option (Int32 × Zs)) (u : (Zs × Int32 × Int32 × Int32)) => n_X1_superfluous_13_b12_l F  (fun S x1 x2 x3 => rc (S, x1, x2, x3)) u.1 u.2.1 u.2.2.1 u.2.2.2) F (S, x1, x2, x3)
theorem w_X1_superfluous_13_b12 {F : Nat} {q : (Int32 × Zs)}  (C : zC p s m args meth c cX1_superfluous 4 RX1 (some .int))  : ∀ (n : Nat) (S : Zs) (x1 : Int32) (x2 : Int32) (x3 : Int32) (H : Heap) (locs : List Loc) (ls : Array Slot), zfix (fun (rc : (Zs × Int32 × Int32 × Int32) → Option (Int32 × Zs)) (u : (Zs × Int32 × Int32 × Int32)) => n_X1_superfluous_13_b12_l F  (fun S x1 x2 x3 => rc (S, x1, x2, x3)) u.1 u.2.1 u.2.2.1 u.2.2.2) n (S, x1, x2, x3) = some q → zW (xG D cs ad) s S H locs → lv_has ls 4 [(0, .ref (ad 13)), (1, .int x1), (2, .int x2), (3, .int x3)] → W p l e (zR 3 68) s m args below meth c H locs 0 0 (zQi (xG D cs ad) q below args s) (F0 m 12 ls []) := by
  intro n
  induction n with
  | zero => intro S x1 x2 x3 H locs ls h; exact absurd h (fun h => by cases h)
  | succ n ih => intro S x1 x2 x3 H locs ls h hW hl; exact w_X1_superfluous_13_b12_l (F := F) C (fun S x1 x2 x3 H locs ls h hW hl => ih S x1 x2 x3 H locs ls h hW hl) h hW hl
def n_X1_superfluous_13_e (F : Nat)  (S : Zs)  : Option (Int32 × Zs) :=
  zcl (n_X2_active_3 F S ) (fun v2 S1 => n_X1_superfluous_13_b12 F  S1 v2 (0 : Int32) (0 : Int32))
set_option maxRecDepth 20000 in
set_option maxHeartbeats 4000000 in
theorem w_X1_superfluous_13_e {F : Nat} {q : (Int32 × Zs)} {S : Zs}   {ls : Array Slot} {H : Heap} {locs : List Loc} (C : zC p s m args meth c cX1_superfluous 4 RX1 (some .int))  (h : n_X1_superfluous_13_e F  S  = some q) (hW : zW (xG D cs ad) s S H locs) (hl : lv_has ls 4 [(0, .ref (ad 13))]) : W p l e (zR 3 68) s m args below meth c H locs 0 0 (zQi (xG D cs ad) q below args s) (F0 m 0 ls []) := by
  unfold n_X1_superfluous_13_e at h
  obtain ⟨hx, hb, hml, hown, hts, hret, hlk⟩ := id C
  refine lv_aload_n hx hb dX1_superfluous_0 rfl (lv_at hl 0 rfl) ?_
  refine xg_13_0 C hW fl_X1_32 dX1_superfluous_1 ?_
  refine zz_callVi (As := []) C hW h (fun r hr => c_X2_active_3 hr) lk_X1_95 (hW.recv xr_3) rfl hl.1 ⟨rfl, rfl⟩ ⟨Nat.le_of_ble_eq_true rfl, Nat.le_of_ble_eq_true rfl⟩ (Nat.le_of_ble_eq_true rfl) ⟨Nat.zero_le _, Nat.zero_le _⟩ rfl dX1_superfluous_4 (fun v2 S1 H locs h hW => ?_)
  refine lv_istore_n (lv' := [(1, .int v2), (0, .ref (ad 13))]) hx hb dX1_superfluous_7 rfl hl (by decide) rfl (fun ls hl => ?_)
  refine lv_iconst (v := 0) hx hb dX1_superfluous_8 (by decide) ?_
  refine lv_istore_n (lv' := [(2, .int (0 : Int32)), (1, .int v2), (0, .ref (ad 13))]) hx hb dX1_superfluous_9 rfl hl (by decide) rfl (fun ls hl => ?_)
  refine lv_iconst (v := 0) hx hb dX1_superfluous_10 (by decide) ?_
  refine lv_istore_n (lv' := [(3, .int (0 : Int32)), (2, .int (0 : Int32)), (1, .int v2), (0, .ref (ad 13))]) hx hb dX1_superfluous_11 rfl hl (by decide) rfl (fun ls hl => ?_)
  exact w_X1_superfluous_13_b12 (F := F) C F _ _ _ _ _ _ _ h hW (lv_sub hl [3, 2, 1, 0] rfl)
def n_X1_superfluous_13 (F : Nat) (S : Zs)  : Option (Int32 × Zs) := n_X1_superfluous_13_e F  S 
theorem c_X1_superfluous_13 {l : Launch} {D : va_G} {cs ad : Nat → Nat} {F : Nat} {S : Zs}  {q : (Int32 × Zs)} (h : n_X1_superfluous_13 F S  = some q) : zMi l yX1_superfluous cX1_superfluous 4 (some .int) (zR 3 68) (xG D cs ad) [.ref (ad 13)] S q :=
  zz_enter (by decide) (Nat.le_of_ble_eq_true rfl) (fun p e s m below meth c ls C hW hl => w_X1_superfluous_13_e (F := F) C h hW (lv_sub hl [0] rfl))
def n_X11_idle_0_e (F : Nat)  (S : Zs)  : Option (Int32 × Zs) :=
  zcl (n_X1_superfluous_13 F S ) (fun v2 S1 => some (v2, S1))
set_option maxRecDepth 20000 in
set_option maxHeartbeats 4000000 in
theorem w_X11_idle_0_e {F : Nat} {q : (Int32 × Zs)} {S : Zs}   {ls : Array Slot} {H : Heap} {locs : List Loc} (C : zC p s m args meth c cX11_idle 1 RX11 (some .int))  (h : n_X11_idle_0_e F  S  = some q) (hW : zW (xG D cs ad) s S H locs) (hl : lv_has ls 1 [(0, .ref (ad 0))]) : W p l e (zR 4 91) s m args below meth c H locs 0 0 (zQi (xG D cs ad) q below args s) (F0 m 0 ls []) := by
  unfold n_X11_idle_0_e at h
  obtain ⟨hx, hb, hml, hown, hts, hret, hlk⟩ := id C
  refine lv_aload_n hx hb dX11_idle_0 rfl (lv_at hl 0 rfl) ?_
  refine xg_0_2 C hW fl_X11_31 dX11_idle_1 ?_
  refine zz_callVi (As := []) C hW h (fun r hr => c_X1_superfluous_13 hr) lk_X11_170 (hW.recv xr_13) rfl hl.1 ⟨rfl, rfl⟩ ⟨Nat.le_of_ble_eq_true rfl, Nat.le_of_ble_eq_true rfl⟩ (Nat.le_of_ble_eq_true rfl) ⟨Nat.zero_le _, Nat.zero_le _⟩ rfl dX11_idle_4 (fun v2 S1 H locs h hW => ?_)
  exact zz_iret C rfl h hW dX11_idle_7
def n_X11_idle_0 (F : Nat) (S : Zs)  : Option (Int32 × Zs) := n_X11_idle_0_e F  S 
theorem c_X11_idle_0 {l : Launch} {D : va_G} {cs ad : Nat → Nat} {F : Nat} {S : Zs}  {q : (Int32 × Zs)} (h : n_X11_idle_0 F S  = some q) : zMi l yX11_idle cX11_idle 1 (some .int) (zR 4 91) (xG D cs ad) [.ref (ad 0)] S q :=
  zz_enter (by decide) (Nat.le_of_ble_eq_true rfl) (fun p e s m below meth c ls C hW hl => w_X11_idle_0_e (F := F) C h hW (lv_sub hl [0] rfl))
def n_X9_add_14_b34 (F : Nat)  (S : Zs)  : Option (Int32 × Zs) :=
  some (0, S)
set_option maxRecDepth 20000 in
set_option maxHeartbeats 4000000 in
theorem w_X9_add_14_b34 {F : Nat} {q : (Int32 × Zs)} {S : Zs}   {ls : Array Slot} {H : Heap} {locs : List Loc} (C : zC p s m args meth c cX9_add 2 RX9 none)  (h : n_X9_add_14_b34 F  S  = some q) (hW : zW (xG D cs ad) s S H locs) (hl : lv_has ls 2 []) : W p l e (zR 1 23) s m args below meth c H locs 0 0 (zQv (xG D cs ad) q below args s) (F0 m 34 ls []) := by
  unfold n_X9_add_14_b34 at h
  obtain ⟨hx, hb, hml, hown, hts, hret, hlk⟩ := id C
  exact zz_vret C rfl h hW dX9_add_34
def n_X9_add_14_e (F : Nat)  (S : Zs) (x1 : Int32) : Option (Int32 × Zs) :=
  zcl (n_X0_isUniversal F S x1) (fun v2 S1 => if v2 = 0 then (zcl (n_X0_subject F S1 x1) (fun v4 S3 => zcl (n_X0_target F S3 x1) (fun v6 S5 => zcl (n_X9_require_14 F S5 v4 v6) (fun v8 S7 => n_X9_add_14_b34 F  S7 )))) else (zcl (n_X0_subject F S1 x1) (fun v10 S9 => zcl (n_X0_target F S9 x1) (fun v12 S11 => zcl (n_X9_imply_14 F S11 v10 v12) (fun v14 S13 => n_X9_add_14_b34 F  S13 )))))
set_option maxRecDepth 20000 in
set_option maxHeartbeats 4000000 in
theorem w_X9_add_14_e {F : Nat} {q : (Int32 × Zs)} {S : Zs}  {x1 : Int32} {ls : Array Slot} {H : Heap} {locs : List Loc} (C : zC p s m args meth c cX9_add 2 RX9 none)  (h : n_X9_add_14_e F  S x1 = some q) (hW : zW (xG D cs ad) s S H locs) (hl : lv_has ls 2 [(0, .ref (ad 14)), (1, .int x1)]) : W p l e (zR 1 23) s m args below meth c H locs 0 0 (zQv (xG D cs ad) q below args s) (F0 m 0 ls []) := by
  unfold n_X9_add_14_e at h
  obtain ⟨hx, hb, hml, hown, hts, hret, hlk⟩ := id C
  refine lv_iload_n hx hb dX9_add_0 rfl (lv_at hl 1 rfl) ?_
  refine zz_callSi (As := [.int x1]) C hW h (fun r hr => c_X0_isUniversal hr) lk_X9_29 rfl hl.1 ⟨rfl, rfl⟩ ⟨Nat.le_of_ble_eq_true rfl, Nat.le_of_ble_eq_true rfl⟩ (Nat.le_of_ble_eq_true rfl) ⟨Nat.zero_le _, Nat.zero_le _⟩ rfl dX9_add_1 (fun v2 S1 H locs h hW => ?_)
  refine zz_ieq (tgt := 22) C h dX9_add_4 (by decide) (fun h => ?_) (fun h => ?_)
  · refine lv_aload_n hx hb dX9_add_22 rfl (lv_at hl 0 rfl) ?_
    refine lv_iload_n hx hb dX9_add_23 rfl (lv_at hl 1 rfl) ?_
    refine zz_callSi (As := [.int x1]) C hW h (fun r hr => c_X0_subject hr) lk_X9_35 rfl hl.1 ⟨rfl, rfl⟩ ⟨Nat.le_of_ble_eq_true rfl, Nat.le_of_ble_eq_true rfl⟩ (Nat.le_of_ble_eq_true rfl) ⟨Nat.zero_le _, Nat.zero_le _⟩ rfl dX9_add_24 (fun v4 S3 H locs h hW => ?_)
    refine lv_iload_n hx hb dX9_add_27 rfl (lv_at hl 1 rfl) ?_
    refine zz_callSi (As := [.int x1]) C hW h (fun r hr => c_X0_target hr) lk_X9_39 rfl hl.1 ⟨rfl, rfl⟩ ⟨Nat.le_of_ble_eq_true rfl, Nat.le_of_ble_eq_true rfl⟩ (Nat.le_of_ble_eq_true rfl) ⟨Nat.zero_le _, Nat.zero_le _⟩ rfl dX9_add_28 (fun v6 S5 H locs h hW => ?_)
    refine zz_callVv (As := [.int v4, .int v6]) C hW h (fun r hr => c_X9_require_14 hr) lk_X9_46 (hW.recv xr_14) rfl hl.1 ⟨rfl, rfl⟩ ⟨Nat.le_of_ble_eq_true rfl, Nat.le_of_ble_eq_true rfl⟩ (Nat.le_of_ble_eq_true rfl) ⟨Nat.zero_le _, Nat.zero_le _⟩ rfl dX9_add_31 (fun v8 S7 H locs h hW => ?_)
    exact w_X9_add_14_b34 (F := F) C h hW (lv_sub hl [] rfl)
  · refine lv_aload_n hx hb dX9_add_7 rfl (lv_at hl 0 rfl) ?_
    refine lv_iload_n hx hb dX9_add_8 rfl (lv_at hl 1 rfl) ?_
    refine zz_callSi (As := [.int x1]) C hW h (fun r hr => c_X0_subject hr) lk_X9_35 rfl hl.1 ⟨rfl, rfl⟩ ⟨Nat.le_of_ble_eq_true rfl, Nat.le_of_ble_eq_true rfl⟩ (Nat.le_of_ble_eq_true rfl) ⟨Nat.zero_le _, Nat.zero_le _⟩ rfl dX9_add_9 (fun v10 S9 H locs h hW => ?_)
    refine lv_iload_n hx hb dX9_add_12 rfl (lv_at hl 1 rfl) ?_
    refine zz_callSi (As := [.int x1]) C hW h (fun r hr => c_X0_target hr) lk_X9_39 rfl hl.1 ⟨rfl, rfl⟩ ⟨Nat.le_of_ble_eq_true rfl, Nat.le_of_ble_eq_true rfl⟩ (Nat.le_of_ble_eq_true rfl) ⟨Nat.zero_le _, Nat.zero_le _⟩ rfl dX9_add_13 (fun v12 S11 H locs h hW => ?_)
    refine zz_callVv (As := [.int v10, .int v12]) C hW h (fun r hr => c_X9_imply_14 hr) lk_X9_42 (hW.recv xr_14) rfl hl.1 ⟨rfl, rfl⟩ ⟨Nat.le_of_ble_eq_true rfl, Nat.le_of_ble_eq_true rfl⟩ (Nat.le_of_ble_eq_true rfl) ⟨Nat.zero_le _, Nat.zero_le _⟩ rfl dX9_add_16 (fun v14 S13 H locs h hW => ?_)
    refine lv_goto (tgt := 34) hx hb dX9_add_19 (by decide) ?_
    exact w_X9_add_14_b34 (F := F) C h hW (lv_sub hl [] rfl)
def n_X9_add_14 (F : Nat) (S : Zs) (x1 : Int32) : Option (Int32 × Zs) := n_X9_add_14_e F  S x1
theorem c_X9_add_14 {l : Launch} {D : va_G} {cs ad : Nat → Nat} {F : Nat} {S : Zs} {x1 : Int32} {q : (Int32 × Zs)} (h : n_X9_add_14 F S x1 = some q) : zMv l yX9_add cX9_add 2 none (zR 1 23) (xG D cs ad) [.ref (ad 14), .int x1] S q :=
  zz_enter (by decide) (Nat.le_of_ble_eq_true rfl) (fun p e s m below meth c ls C hW hl => w_X9_add_14_e (F := F) C h hW (lv_sub hl [0, 1] rfl))
def n_X1_entailsAlone_13_b53 (F : Nat)  (S : Zs) (t0 : Int32) : Option (Int32 × Zs) :=
  zrb t0 S
set_option maxRecDepth 20000 in
set_option maxHeartbeats 4000000 in
theorem w_X1_entailsAlone_13_b53 {F : Nat} {q : (Int32 × Zs)} {S : Zs}  {t0 : Int32} {ls : Array Slot} {H : Heap} {locs : List Loc} (C : zC p s m args meth c cX1_entailsAlone 3 RX1 (some .boolean))  (h : n_X1_entailsAlone_13_b53 F  S t0 = some q) (hW : zW (xG D cs ad) s S H locs) (hl : lv_has ls 3 []) : W p l e (zR 2 44) s m args below meth c H locs 0 0 (zQi (xG D cs ad) q below args s) (F0 m 53 ls [.int t0]) := by
  unfold n_X1_entailsAlone_13_b53 at h
  obtain ⟨hx, hb, hml, hown, hts, hret, hlk⟩ := id C
  exact zz_zret C rfl h hW dX1_entailsAlone_53
def n_X1_entailsAlone_13_e (F : Nat)  (S : Zs) (x1 : Int32) (x2 : Int32) : Option (Int32 × Zs) :=
  zcl (n_X9_clear_14 F S ) (fun v2 S1 => zgf S1 65 (fun v3 => zcl (n_X9_addLiving_14 F S1 v3) (fun v5 S4 => zcl (n_X9_add_14 F S4 x1) (fun v7 S6 => zpf S6 264 (-1 : Int32) (fun S8 => zcl (n_X0_contrary F S8 x2) (fun v10 S9 => zcl (n_X1_against_13 F S9 v10) (fun v12 S11 => zcl (n_X9_consistent_18 F S11 ) (fun v14 S13 => if v14 = 0 then (n_X1_entailsAlone_13_b53 F  S13 (1 : Int32)) else (n_X1_entailsAlone_13_b53 F  S13 (0 : Int32))))))))))
set_option maxRecDepth 20000 in
set_option maxHeartbeats 4000000 in
theorem w_X1_entailsAlone_13_e {F : Nat} {q : (Int32 × Zs)} {S : Zs}  {x1 : Int32} {x2 : Int32} {ls : Array Slot} {H : Heap} {locs : List Loc} (C : zC p s m args meth c cX1_entailsAlone 3 RX1 (some .boolean))  (h : n_X1_entailsAlone_13_e F  S x1 x2 = some q) (hW : zW (xG D cs ad) s S H locs) (hl : lv_has ls 3 [(0, .ref (ad 13)), (1, .int x1), (2, .int x2)]) : W p l e (zR 2 44) s m args below meth c H locs 0 0 (zQi (xG D cs ad) q below args s) (F0 m 0 ls []) := by
  unfold n_X1_entailsAlone_13_e at h
  obtain ⟨hx, hb, hml, hown, hts, hret, hlk⟩ := id C
  refine lv_aload_n hx hb dX1_entailsAlone_0 rfl (lv_at hl 0 rfl) ?_
  refine xg_13_1 C hW fl_X1_12 dX1_entailsAlone_1 ?_
  refine zz_callVv (As := []) C hW h (fun r hr => c_X9_clear_14 hr) lk_X1_41 (hW.recv xr_14) rfl hl.1 ⟨rfl, rfl⟩ ⟨Nat.le_of_ble_eq_true rfl, Nat.le_of_ble_eq_true rfl⟩ (Nat.le_of_ble_eq_true rfl) ⟨Nat.zero_le _, Nat.zero_le _⟩ rfl dX1_entailsAlone_4 (fun v2 S1 H locs h hW => ?_)
  refine lv_aload_n hx hb dX1_entailsAlone_7 rfl (lv_at hl 0 rfl) ?_
  refine xg_13_1 C hW fl_X1_12 dX1_entailsAlone_8 ?_
  refine lv_aload_n hx hb dX1_entailsAlone_11 rfl (lv_at hl 0 rfl) ?_
  refine xg_13_0 C hW fl_X1_32 dX1_entailsAlone_12 ?_
  refine xg_3_5 C hW h fl_X1_36 dX1_entailsAlone_15 (fun v3 h => ?_)
  refine zz_callVv (As := [.int v3]) C hW h (fun r hr => c_X9_addLiving_14 hr) lk_X1_44 (hW.recv xr_14) rfl hl.1 ⟨rfl, rfl⟩ ⟨Nat.le_of_ble_eq_true rfl, Nat.le_of_ble_eq_true rfl⟩ (Nat.le_of_ble_eq_true rfl) ⟨Nat.zero_le _, Nat.zero_le _⟩ rfl dX1_entailsAlone_18 (fun v5 S4 H locs h hW => ?_)
  refine lv_aload_n hx hb dX1_entailsAlone_21 rfl (lv_at hl 0 rfl) ?_
  refine xg_13_1 C hW fl_X1_12 dX1_entailsAlone_22 ?_
  refine lv_iload_n hx hb dX1_entailsAlone_25 rfl (lv_at hl 1 rfl) ?_
  refine zz_callVv (As := [.int x1]) C hW h (fun r hr => c_X9_add_14 hr) lk_X1_92 (hW.recv xr_14) rfl hl.1 ⟨rfl, rfl⟩ ⟨Nat.le_of_ble_eq_true rfl, Nat.le_of_ble_eq_true rfl⟩ (Nat.le_of_ble_eq_true rfl) ⟨Nat.zero_le _, Nat.zero_le _⟩ rfl dX1_entailsAlone_26 (fun v7 S6 H locs h hW => ?_)
  refine lv_aload_n hx hb dX1_entailsAlone_29 rfl (lv_at hl 0 rfl) ?_
  refine lv_iconst (v := -1) hx hb dX1_entailsAlone_30 (by decide) ?_
  refine xp_13_4 C hW h fl_X1_25 dX1_entailsAlone_31 (fun S8 H locs h hW => ?_)
  refine lv_aload_n hx hb dX1_entailsAlone_34 rfl (lv_at hl 0 rfl) ?_
  refine lv_iload_n hx hb dX1_entailsAlone_35 rfl (lv_at hl 2 rfl) ?_
  refine zz_callSi (As := [.int x2]) C hW h (fun r hr => c_X0_contrary hr) lk_X1_86 rfl hl.1 ⟨rfl, rfl⟩ ⟨Nat.le_of_ble_eq_true rfl, Nat.le_of_ble_eq_true rfl⟩ (Nat.le_of_ble_eq_true rfl) ⟨Nat.zero_le _, Nat.zero_le _⟩ rfl dX1_entailsAlone_36 (fun v10 S9 H locs h hW => ?_)
  refine zz_callVr (As := [.int v10]) C hW h (fun r hr => c_X1_against_13 hr) lk_X1_89 (hW.recv xr_13) rfl hl.1 ⟨rfl, rfl⟩ ⟨Nat.le_of_ble_eq_true rfl, Nat.le_of_ble_eq_true rfl⟩ (Nat.le_of_ble_eq_true rfl) ⟨Nat.zero_le _, Nat.zero_le _⟩ rfl dX1_entailsAlone_39 (fun v12 S11 H locs h hW => ?_)
  refine zz_callVi (As := []) C hW h (fun r hr => c_X9_consistent_18 hr) lk_X1_82 (hW.recv xr_18) rfl hl.1 ⟨rfl, rfl⟩ ⟨Nat.le_of_ble_eq_true rfl, Nat.le_of_ble_eq_true rfl⟩ (Nat.le_of_ble_eq_true rfl) ⟨Nat.zero_le _, Nat.zero_le _⟩ rfl dX1_entailsAlone_42 (fun v14 S13 H locs h hW => ?_)
  refine zz_ine (tgt := 52) C h dX1_entailsAlone_45 (by decide) (fun h => ?_) (fun h => ?_)
  · refine lv_iconst (v := 0) hx hb dX1_entailsAlone_52 (by decide) ?_
    exact w_X1_entailsAlone_13_b53 (F := F) C h hW (lv_sub hl [] rfl)
  · refine lv_iconst (v := 1) hx hb dX1_entailsAlone_48 (by decide) ?_
    refine lv_goto (tgt := 53) hx hb dX1_entailsAlone_49 (by decide) ?_
    exact w_X1_entailsAlone_13_b53 (F := F) C h hW (lv_sub hl [] rfl)
def n_X1_entailsAlone_13 (F : Nat) (S : Zs) (x1 : Int32) (x2 : Int32) : Option (Int32 × Zs) := n_X1_entailsAlone_13_e F  S x1 x2
theorem c_X1_entailsAlone_13 {l : Launch} {D : va_G} {cs ad : Nat → Nat} {F : Nat} {S : Zs} {x1 : Int32} {x2 : Int32} {q : (Int32 × Zs)} (h : n_X1_entailsAlone_13 F S x1 x2 = some q) : zMi l yX1_entailsAlone cX1_entailsAlone 3 (some .boolean) (zR 2 44) (xG D cs ad) [.ref (ad 13), .int x1, .int x2] S q :=
  zz_enter (by decide) (Nat.le_of_ble_eq_true rfl) (fun p e s m below meth c ls C hW hl => w_X1_entailsAlone_13_e (F := F) C h hW (lv_sub hl [0, 1, 2] rfl))
def n_X11_alike_0_b14 (F : Nat)  (S : Zs)  : Option (Int32 × Zs) :=
  some ((-1 : Int32), S)
set_option maxRecDepth 20000 in
set_option maxHeartbeats 4000000 in
theorem w_X11_alike_0_b14 {F : Nat} {q : (Int32 × Zs)} {S : Zs}   {ls : Array Slot} {H : Heap} {locs : List Loc} (C : zC p s m args meth c cX11_alike 5 RX11 (some .int))  (h : n_X11_alike_0_b14 F  S  = some q) (hW : zW (xG D cs ad) s S H locs) (hl : lv_has ls 5 []) : W p l e (zR 3 66) s m args below meth c H locs 0 0 (zQi (xG D cs ad) q below args s) (F0 m 14 ls []) := by
  unfold n_X11_alike_0_b14 at h
  obtain ⟨hx, hb, hml, hown, hts, hret, hlk⟩ := id C
  refine lv_iconst (v := -1) hx hb dX11_alike_14 (by decide) ?_
  exact zz_iret C rfl h hW dX11_alike_15
def n_X11_alike_0_b66 (F : Nat)  (S : Zs) (t0 : Int32) : Option (Int32 × Zs) :=
  some (t0, S)
set_option maxRecDepth 20000 in
set_option maxHeartbeats 4000000 in
theorem w_X11_alike_0_b66 {F : Nat} {q : (Int32 × Zs)} {S : Zs}  {t0 : Int32} {ls : Array Slot} {H : Heap} {locs : List Loc} (C : zC p s m args meth c cX11_alike 5 RX11 (some .int))  (h : n_X11_alike_0_b66 F  S t0 = some q) (hW : zW (xG D cs ad) s S H locs) (hl : lv_has ls 5 []) : W p l e (zR 3 66) s m args below meth c H locs 0 0 (zQi (xG D cs ad) q below args s) (F0 m 66 ls [.int t0]) := by
  unfold n_X11_alike_0_b66 at h
  obtain ⟨hx, hb, hml, hown, hts, hret, hlk⟩ := id C
  exact zz_iret C rfl h hW dX11_alike_66
def n_X11_alike_0_b48 (F : Nat)  (S : Zs) (x3 : Int32) (x4 : Int32) : Option (Int32 × Zs) :=
  if x3 = 0 then (if x4 = 0 then (n_X11_alike_0_b66 F  S (0 : Int32)) else (n_X11_alike_0_b66 F  S (3 : Int32))) else (n_X11_alike_0_b66 F  S (2 : Int32))
set_option maxRecDepth 20000 in
set_option maxHeartbeats 4000000 in
theorem w_X11_alike_0_b48 {F : Nat} {q : (Int32 × Zs)} {S : Zs}  {x3 : Int32} {x4 : Int32} {ls : Array Slot} {H : Heap} {locs : List Loc} (C : zC p s m args meth c cX11_alike 5 RX11 (some .int))  (h : n_X11_alike_0_b48 F  S x3 x4 = some q) (hW : zW (xG D cs ad) s S H locs) (hl : lv_has ls 5 [(3, .int x3), (4, .int x4)]) : W p l e (zR 3 66) s m args below meth c H locs 0 0 (zQi (xG D cs ad) q below args s) (F0 m 48 ls []) := by
  unfold n_X11_alike_0_b48 at h
  obtain ⟨hx, hb, hml, hown, hts, hret, hlk⟩ := id C
  refine lv_iload_n hx hb dX11_alike_48 rfl (lv_at hl 0 rfl) ?_
  refine zz_ieq (tgt := 56) C h dX11_alike_49 (by decide) (fun h => ?_) (fun h => ?_)
  · refine lv_iload hx hb dX11_alike_56 (lv_at hl 1 rfl) ?_
    refine zz_ieq (tgt := 65) C h dX11_alike_58 (by decide) (fun h => ?_) (fun h => ?_)
    · refine lv_iconst (v := 0) hx hb dX11_alike_65 (by decide) ?_
      exact w_X11_alike_0_b66 (F := F) C h hW (lv_sub hl [] rfl)
    · refine lv_iconst (v := 3) hx hb dX11_alike_61 (by decide) ?_
      refine lv_goto (tgt := 66) hx hb dX11_alike_62 (by decide) ?_
      exact w_X11_alike_0_b66 (F := F) C h hW (lv_sub hl [] rfl)
  · refine lv_iconst (v := 2) hx hb dX11_alike_52 (by decide) ?_
    refine lv_goto (tgt := 66) hx hb dX11_alike_53 (by decide) ?_
    exact w_X11_alike_0_b66 (F := F) C h hW (lv_sub hl [] rfl)
def n_X11_alike_0_e (F : Nat)  (S : Zs) (x1 : Int32) (x2 : Int32) : Option (Int32 × Zs) :=
  zcl (n_X0_isCode F S x1) (fun v2 S1 => if v2 = 0 then (n_X11_alike_0_b14 F  S1 ) else (zcl (n_X0_isCode F S1 x2) (fun v4 S3 => if v4 = 0 then (n_X11_alike_0_b14 F  S3 ) else (zcl (n_X1_entailsAlone_13 F S3 x1 x2) (fun v6 S5 => zcl (n_X1_entailsAlone_13 F S5 x2 x1) (fun v8 S7 => if v6 = 0 then (n_X11_alike_0_b48 F  S7 v6 v8) else (if v8 = 0 then (n_X11_alike_0_b48 F  S7 v6 v8) else (some ((1 : Int32), S7)))))))))
set_option maxRecDepth 20000 in
set_option maxHeartbeats 4000000 in
theorem w_X11_alike_0_e {F : Nat} {q : (Int32 × Zs)} {S : Zs}  {x1 : Int32} {x2 : Int32} {ls : Array Slot} {H : Heap} {locs : List Loc} (C : zC p s m args meth c cX11_alike 5 RX11 (some .int))  (h : n_X11_alike_0_e F  S x1 x2 = some q) (hW : zW (xG D cs ad) s S H locs) (hl : lv_has ls 5 [(0, .ref (ad 0)), (1, .int x1), (2, .int x2)]) : W p l e (zR 3 66) s m args below meth c H locs 0 0 (zQi (xG D cs ad) q below args s) (F0 m 0 ls []) := by
  unfold n_X11_alike_0_e at h
  obtain ⟨hx, hb, hml, hown, hts, hret, hlk⟩ := id C
  refine lv_iload_n hx hb dX11_alike_0 rfl (lv_at hl 1 rfl) ?_
  refine zz_callSi (As := [.int x1]) C hW h (fun r hr => c_X0_isCode hr) lk_X11_126 rfl hl.1 ⟨rfl, rfl⟩ ⟨Nat.le_of_ble_eq_true rfl, Nat.le_of_ble_eq_true rfl⟩ (Nat.le_of_ble_eq_true rfl) ⟨Nat.zero_le _, Nat.zero_le _⟩ rfl dX11_alike_1 (fun v2 S1 H locs h hW => ?_)
  refine zz_ieq (tgt := 14) C h dX11_alike_4 (by decide) (fun h => ?_) (fun h => ?_)
  · exact w_X11_alike_0_b14 (F := F) C h hW (lv_sub hl [] rfl)
  · refine lv_iload_n hx hb dX11_alike_7 rfl (lv_at hl 2 rfl) ?_
    refine zz_callSi (As := [.int x2]) C hW h (fun r hr => c_X0_isCode hr) lk_X11_126 rfl hl.1 ⟨rfl, rfl⟩ ⟨Nat.le_of_ble_eq_true rfl, Nat.le_of_ble_eq_true rfl⟩ (Nat.le_of_ble_eq_true rfl) ⟨Nat.zero_le _, Nat.zero_le _⟩ rfl dX11_alike_8 (fun v4 S3 H locs h hW => ?_)
    refine zz_ine (tgt := 16) C h dX11_alike_11 (by decide) (fun h => ?_) (fun h => ?_)
    · refine lv_aload_n hx hb dX11_alike_16 rfl (lv_at hl 0 rfl) ?_
      refine xg_0_2 C hW fl_X11_31 dX11_alike_17 ?_
      refine lv_iload_n hx hb dX11_alike_20 rfl (lv_at hl 1 rfl) ?_
      refine lv_iload_n hx hb dX11_alike_21 rfl (lv_at hl 2 rfl) ?_
      refine zz_callVi (As := [.int x1, .int x2]) C hW h (fun r hr => c_X1_entailsAlone_13 hr) lk_X11_173 (hW.recv xr_13) rfl hl.1 ⟨rfl, rfl⟩ ⟨Nat.le_of_ble_eq_true rfl, Nat.le_of_ble_eq_true rfl⟩ (Nat.le_of_ble_eq_true rfl) ⟨Nat.zero_le _, Nat.zero_le _⟩ rfl dX11_alike_22 (fun v6 S5 H locs h hW => ?_)
      refine lv_istore_n (lv' := [(3, .int v6), (0, .ref (ad 0)), (1, .int x1), (2, .int x2)]) hx hb dX11_alike_25 rfl hl (by decide) rfl (fun ls hl => ?_)
      refine lv_aload_n hx hb dX11_alike_26 rfl (lv_at hl 1 rfl) ?_
      refine xg_0_2 C hW fl_X11_31 dX11_alike_27 ?_
      refine lv_iload_n hx hb dX11_alike_30 rfl (lv_at hl 3 rfl) ?_
      refine lv_iload_n hx hb dX11_alike_31 rfl (lv_at hl 2 rfl) ?_
      refine zz_callVi (As := [.int x2, .int x1]) C hW h (fun r hr => c_X1_entailsAlone_13 hr) lk_X11_173 (hW.recv xr_13) rfl hl.1 ⟨rfl, rfl⟩ ⟨Nat.le_of_ble_eq_true rfl, Nat.le_of_ble_eq_true rfl⟩ (Nat.le_of_ble_eq_true rfl) ⟨Nat.zero_le _, Nat.zero_le _⟩ rfl dX11_alike_32 (fun v8 S7 H locs h hW => ?_)
      refine lv_istore (lv' := [(4, .int v8), (3, .int v6), (0, .ref (ad 0)), (1, .int x1), (2, .int x2)]) hx hb dX11_alike_35 hl (by decide) rfl (fun ls hl => ?_)
      refine lv_iload_n hx hb dX11_alike_37 rfl (lv_at hl 1 rfl) ?_
      refine zz_ieq (tgt := 48) C h dX11_alike_38 (by decide) (fun h => ?_) (fun h => ?_)
      · exact w_X11_alike_0_b48 (F := F) C h hW (lv_sub hl [1, 0] rfl)
      · refine lv_iload hx hb dX11_alike_41 (lv_at hl 0 rfl) ?_
        refine zz_ieq (tgt := 48) C h dX11_alike_43 (by decide) (fun h => ?_) (fun h => ?_)
        · exact w_X11_alike_0_b48 (F := F) C h hW (lv_sub hl [1, 0] rfl)
        · refine lv_iconst (v := 1) hx hb dX11_alike_46 (by decide) ?_
          exact zz_iret C rfl h hW dX11_alike_47
    · exact w_X11_alike_0_b14 (F := F) C h hW (lv_sub hl [] rfl)
def n_X11_alike_0 (F : Nat) (S : Zs) (x1 : Int32) (x2 : Int32) : Option (Int32 × Zs) := n_X11_alike_0_e F  S x1 x2
theorem c_X11_alike_0 {l : Launch} {D : va_G} {cs ad : Nat → Nat} {F : Nat} {S : Zs} {x1 : Int32} {x2 : Int32} {q : (Int32 × Zs)} (h : n_X11_alike_0 F S x1 x2 = some q) : zMi l yX11_alike cX11_alike 5 (some .int) (zR 3 66) (xG D cs ad) [.ref (ad 0), .int x1, .int x2] S q :=
  zz_enter (by decide) (Nat.le_of_ble_eq_true rfl) (fun p e s m below meth c ls C hW hl => w_X11_alike_0_e (F := F) C h hW (lv_sub hl [0, 1, 2] rfl))
def n_X11_clash_0_e (F : Nat)  (S : Zs)  : Option (Int32 × Zs) :=
  zcl (n_X2_active_3 F S ) (fun v2 S1 => zgf S1 63 (fun v3 => zcl (n_X6_smallest_23 F S1 (1 : Int32) (-1 : Int32) v2 (v3 ^^^ (-1 : Int32))) (fun v5 S4 => zcl (n_X11_tellSmallest_0 F S4 v5) (fun v7 S6 => some (v7, S6)))))
set_option maxRecDepth 20000 in
set_option maxHeartbeats 4000000 in
theorem w_X11_clash_0_e {F : Nat} {q : (Int32 × Zs)} {S : Zs}   {ls : Array Slot} {H : Heap} {locs : List Loc} (C : zC p s m args meth c cX11_clash 1 RX11 (some .int))  (h : n_X11_clash_0_e F  S  = some q) (hW : zW (xG D cs ad) s S H locs) (hl : lv_has ls 1 [(0, .ref (ad 0))]) : W p l e (zR 26 770) s m args below meth c H locs 0 0 (zQi (xG D cs ad) q below args s) (F0 m 0 ls []) := by
  unfold n_X11_clash_0_e at h
  obtain ⟨hx, hb, hml, hown, hts, hret, hlk⟩ := id C
  refine lv_aload_n hx hb dX11_clash_0 rfl (lv_at hl 0 rfl) ?_
  refine lv_aload_n hx hb dX11_clash_1 rfl (lv_at hl 0 rfl) ?_
  refine xg_0_3 C hW fl_X11_40 dX11_clash_2 ?_
  refine lv_iconst (v := 1) hx hb dX11_clash_5 (by decide) ?_
  refine lv_iconst (v := -1) hx hb dX11_clash_6 (by decide) ?_
  refine lv_aload_n hx hb dX11_clash_7 rfl (lv_at hl 0 rfl) ?_
  refine xg_0_1 C hW fl_X11_27 dX11_clash_8 ?_
  refine zz_callVi (As := []) C hW h (fun r hr => c_X2_active_3 hr) lk_X11_144 (hW.recv xr_3) rfl hl.1 ⟨rfl, rfl⟩ ⟨Nat.le_of_ble_eq_true rfl, Nat.le_of_ble_eq_true rfl⟩ (Nat.le_of_ble_eq_true rfl) ⟨Nat.zero_le _, Nat.zero_le _⟩ rfl dX11_clash_11 (fun v2 S1 H locs h hW => ?_)
  refine lv_aload_n hx hb dX11_clash_14 rfl (lv_at hl 0 rfl) ?_
  refine xg_0_1 C hW fl_X11_27 dX11_clash_15 ?_
  refine xg_3_3 C hW h fl_X11_111 dX11_clash_18 (fun v3 h => ?_)
  refine lv_iconst (v := -1) hx hb dX11_clash_21 (by decide) ?_
  refine lv_ixor hx hb dX11_clash_22 ?_
  refine zz_callVi (As := [.int (1 : Int32), .int (-1 : Int32), .int v2, .int (v3 ^^^ (-1 : Int32))]) C hW h (fun r hr => c_X6_smallest_23 hr) lk_X11_164 (hW.recv xr_23) rfl hl.1 ⟨rfl, rfl⟩ ⟨Nat.le_of_ble_eq_true rfl, Nat.le_of_ble_eq_true rfl⟩ (Nat.le_of_ble_eq_true rfl) ⟨Nat.zero_le _, Nat.zero_le _⟩ rfl dX11_clash_23 (fun v5 S4 H locs h hW => ?_)
  refine zz_callVi (As := [.int v5]) C hW h (fun r hr => c_X11_tellSmallest_0 hr) lk_X11_167 (hW.recv xr_0) rfl hl.1 ⟨rfl, rfl⟩ ⟨Nat.le_of_ble_eq_true rfl, Nat.le_of_ble_eq_true rfl⟩ (Nat.le_of_ble_eq_true rfl) ⟨Nat.zero_le _, Nat.zero_le _⟩ rfl dX11_clash_26 (fun v7 S6 H locs h hW => ?_)
  exact zz_iret C rfl h hW dX11_clash_29
def n_X11_clash_0 (F : Nat) (S : Zs)  : Option (Int32 × Zs) := n_X11_clash_0_e F  S 
theorem c_X11_clash_0 {l : Launch} {D : va_G} {cs ad : Nat → Nat} {F : Nat} {S : Zs}  {q : (Int32 × Zs)} (h : n_X11_clash_0 F S  = some q) : zMi l yX11_clash cX11_clash 1 (some .int) (zR 26 770) (xG D cs ad) [.ref (ad 0)] S q :=
  zz_enter (by decide) (Nat.le_of_ble_eq_true rfl) (fun p e s m below meth c ls C hW hl => w_X11_clash_0_e (F := F) C h hW (lv_sub hl [0] rfl))
def n_X11_liars_0_e (F : Nat)  (S : Zs)  : Option (Int32 × Zs) :=
  zcl (n_X6_smallest_23 F S (2 : Int32) (-1 : Int32) (255 : Int32) (0 : Int32)) (fun v2 S1 => zcl (n_X11_tellSmallest_0 F S1 v2) (fun v4 S3 => some (v4, S3)))
set_option maxRecDepth 20000 in
set_option maxHeartbeats 4000000 in
theorem w_X11_liars_0_e {F : Nat} {q : (Int32 × Zs)} {S : Zs}   {ls : Array Slot} {H : Heap} {locs : List Loc} (C : zC p s m args meth c cX11_liars 1 RX11 (some .int))  (h : n_X11_liars_0_e F  S  = some q) (hW : zW (xG D cs ad) s S H locs) (hl : lv_has ls 1 [(0, .ref (ad 0))]) : W p l e (zR 26 770) s m args below meth c H locs 0 0 (zQi (xG D cs ad) q below args s) (F0 m 0 ls []) := by
  unfold n_X11_liars_0_e at h
  obtain ⟨hx, hb, hml, hown, hts, hret, hlk⟩ := id C
  refine lv_aload_n hx hb dX11_liars_0 rfl (lv_at hl 0 rfl) ?_
  refine lv_aload_n hx hb dX11_liars_1 rfl (lv_at hl 0 rfl) ?_
  refine xg_0_3 C hW fl_X11_40 dX11_liars_2 ?_
  refine lv_iconst (v := 2) hx hb dX11_liars_5 (by decide) ?_
  refine lv_iconst (v := -1) hx hb dX11_liars_6 (by decide) ?_
  refine lv_sipush (v := 255) hx hb dX11_liars_7 (by decide) ?_
  refine lv_iconst (v := 0) hx hb dX11_liars_10 (by decide) ?_
  refine zz_callVi (As := [.int (2 : Int32), .int (-1 : Int32), .int (255 : Int32), .int (0 : Int32)]) C hW h (fun r hr => c_X6_smallest_23 hr) lk_X11_164 (hW.recv xr_23) rfl hl.1 ⟨rfl, rfl⟩ ⟨Nat.le_of_ble_eq_true rfl, Nat.le_of_ble_eq_true rfl⟩ (Nat.le_of_ble_eq_true rfl) ⟨Nat.zero_le _, Nat.zero_le _⟩ rfl dX11_liars_11 (fun v2 S1 H locs h hW => ?_)
  refine zz_callVi (As := [.int v2]) C hW h (fun r hr => c_X11_tellSmallest_0 hr) lk_X11_167 (hW.recv xr_0) rfl hl.1 ⟨rfl, rfl⟩ ⟨Nat.le_of_ble_eq_true rfl, Nat.le_of_ble_eq_true rfl⟩ (Nat.le_of_ble_eq_true rfl) ⟨Nat.zero_le _, Nat.zero_le _⟩ rfl dX11_liars_14 (fun v4 S3 H locs h hW => ?_)
  exact zz_iret C rfl h hW dX11_liars_17
def n_X11_liars_0 (F : Nat) (S : Zs)  : Option (Int32 × Zs) := n_X11_liars_0_e F  S 
theorem c_X11_liars_0 {l : Launch} {D : va_G} {cs ad : Nat → Nat} {F : Nat} {S : Zs}  {q : (Int32 × Zs)} (h : n_X11_liars_0 F S  = some q) : zMi l yX11_liars cX11_liars 1 (some .int) (zR 26 770) (xG D cs ad) [.ref (ad 0)] S q :=
  zz_enter (by decide) (Nat.le_of_ble_eq_true rfl) (fun p e s m below meth c ls C hW hl => w_X11_liars_0_e (F := F) C h hW (lv_sub hl [0] rfl))
def n_X1_countEntailed_13_b72 (F : Nat) (rc6 : Zs → Int32 → Int32 → Int32 → Int32 → Int32 → Option (Int32 × Zs)) (S : Zs) (x1 : Int32) (x2 : Int32) (x3 : Int32) (x4 : Int32) (x5 : Int32) : Option (Int32 × Zs) :=
  zlet (x5 + (1 : Int32)) (fun v1 => rc6 S x1 x2 x3 x4 v1)
set_option maxRecDepth 20000 in
set_option maxHeartbeats 4000000 in
theorem w_X1_countEntailed_13_b72 {F : Nat} {q : (Int32 × Zs)} {S : Zs} {rc6 : Zs → Int32 → Int32 → Int32 → Int32 → Int32 → Option (Int32 × Zs)} {x1 : Int32} {x2 : Int32} {x3 : Int32} {x4 : Int32} {x5 : Int32} {ls : Array Slot} {H : Heap} {locs : List Loc} (C : zC p s m args meth c cX1_countEntailed 7 RX1 (some .int)) (hrc6 : ∀ (S : Zs) (x1 : Int32) (x2 : Int32) (x3 : Int32) (x4 : Int32) (x5 : Int32) (H : Heap) (locs : List Loc) (ls : Array Slot), rc6 S x1 x2 x3 x4 x5 = some q → zW (xG D cs ad) s S H locs → lv_has ls 7 [(0, .ref (ad 13)), (1, .int x1), (2, .int x2), (3, .int x3), (4, .int x4), (5, .int x5)] → W p l e (zR 3 68) s m args below meth c H locs 0 0 (zQi (xG D cs ad) q below args s) (F0 m 6 ls [])) (h : n_X1_countEntailed_13_b72 F rc6 S x1 x2 x3 x4 x5 = some q) (hW : zW (xG D cs ad) s S H locs) (hl : lv_has ls 7 [(0, .ref (ad 13)), (1, .int x1), (2, .int x2), (3, .int x3), (4, .int x4), (5, .int x5)]) : W p l e (zR 3 68) s m args below meth c H locs 0 0 (zQi (xG D cs ad) q below args s) (F0 m 72 ls []) := by
  unfold n_X1_countEntailed_13_b72 at h
  obtain ⟨hx, hb, hml, hown, hts, hret, hlk⟩ := id C
  obtain ⟨v1, ev1, h⟩ := zz_name h
  refine lv_iinc (v := v1) (lv' := [(5, .int v1), (0, .ref (ad 13)), (1, .int x1), (2, .int x2), (3, .int x3), (4, .int x4)]) hx hb dX1_countEntailed_72 hl (k := 5) rfl ev1.symm (by decide) rfl (fun ls hl => ?_)
  refine lv_goto (tgt := 6) hx hb dX1_countEntailed_75 (by decide) ?_
  exact hrc6 _ _ _ _ _ _ _ _ _ h hW (lv_sub hl [1, 2, 3, 4, 5, 0] rfl)
def n_X1_countEntailed_13_b48 (F : Nat) (rc6 : Zs → Int32 → Int32 → Int32 → Int32 → Int32 → Option (Int32 × Zs)) (S : Zs) (x1 : Int32) (x2 : Int32) (x3 : Int32) (x4 : Int32) (x5 : Int32) (t0 : Int32) : Option (Int32 × Zs) :=
  if ((x2 >>> (x5 &&& 31)) &&& (1 : Int32)) = 0 then (n_X1_countEntailed_13_b72 F rc6 S x1 x2 x3 x4 x5) else (zcl (n_X1_entails_13 F S x1 t0) (fun v2 S1 => if v2 = 0 then (n_X1_countEntailed_13_b72 F rc6 S1 x1 x2 x3 x4 x5) else (zlet (x4 + (1 : Int32)) (fun v3 => n_X1_countEntailed_13_b72 F rc6 S1 x1 x2 x3 v3 x5))))
set_option maxRecDepth 20000 in
set_option maxHeartbeats 4000000 in
theorem w_X1_countEntailed_13_b48 {F : Nat} {q : (Int32 × Zs)} {S : Zs} {rc6 : Zs → Int32 → Int32 → Int32 → Int32 → Int32 → Option (Int32 × Zs)} {x1 : Int32} {x2 : Int32} {x3 : Int32} {x4 : Int32} {x5 : Int32} {t0 : Int32} {ls : Array Slot} {H : Heap} {locs : List Loc} (C : zC p s m args meth c cX1_countEntailed 7 RX1 (some .int)) (hrc6 : ∀ (S : Zs) (x1 : Int32) (x2 : Int32) (x3 : Int32) (x4 : Int32) (x5 : Int32) (H : Heap) (locs : List Loc) (ls : Array Slot), rc6 S x1 x2 x3 x4 x5 = some q → zW (xG D cs ad) s S H locs → lv_has ls 7 [(0, .ref (ad 13)), (1, .int x1), (2, .int x2), (3, .int x3), (4, .int x4), (5, .int x5)] → W p l e (zR 3 68) s m args below meth c H locs 0 0 (zQi (xG D cs ad) q below args s) (F0 m 6 ls [])) (h : n_X1_countEntailed_13_b48 F rc6 S x1 x2 x3 x4 x5 t0 = some q) (hW : zW (xG D cs ad) s S H locs) (hl : lv_has ls 7 [(0, .ref (ad 13)), (1, .int x1), (2, .int x2), (3, .int x3), (4, .int x4), (5, .int x5)]) : W p l e (zR 3 68) s m args below meth c H locs 0 0 (zQi (xG D cs ad) q below args s) (F0 m 48 ls [.int t0]) := by
  unfold n_X1_countEntailed_13_b48 at h
  obtain ⟨hx, hb, hml, hown, hts, hret, hlk⟩ := id C
  refine lv_istore (lv' := [(6, .int t0), (0, .ref (ad 13)), (1, .int x1), (2, .int x2), (3, .int x3), (4, .int x4), (5, .int x5)]) hx hb dX1_countEntailed_48 hl (by decide) rfl (fun ls hl => ?_)
  refine lv_iload_n hx hb dX1_countEntailed_50 rfl (lv_at hl 3 rfl) ?_
  refine lv_iload hx hb dX1_countEntailed_51 (lv_at hl 6 rfl) ?_
  refine lv_ishr hx hb dX1_countEntailed_53 ?_
  refine lv_iconst (v := 1) hx hb dX1_countEntailed_54 (by decide) ?_
  refine lv_iand hx hb dX1_countEntailed_55 ?_
  refine zz_ieq (tgt := 72) C h dX1_countEntailed_56 (by decide) (fun h => ?_) (fun h => ?_)
  · exact w_X1_countEntailed_13_b72 (F := F) C hrc6 h hW (lv_sub hl [1, 2, 3, 4, 5, 6] rfl)
  · refine lv_aload_n hx hb dX1_countEntailed_59 rfl (lv_at hl 1 rfl) ?_
    refine lv_iload_n hx hb dX1_countEntailed_60 rfl (lv_at hl 2 rfl) ?_
    refine lv_iload hx hb dX1_countEntailed_61 (lv_at hl 0 rfl) ?_
    refine zz_callVi (As := [.int x1, .int t0]) C hW h (fun r hr => c_X1_entails_13 hr) lk_X1_99 (hW.recv xr_13) rfl hl.1 ⟨rfl, rfl⟩ ⟨Nat.le_of_ble_eq_true rfl, Nat.le_of_ble_eq_true rfl⟩ (Nat.le_of_ble_eq_true rfl) ⟨Nat.zero_le _, Nat.zero_le _⟩ rfl dX1_countEntailed_63 (fun v2 S1 H locs h hW => ?_)
    refine zz_ieq (tgt := 72) C h dX1_countEntailed_66 (by decide) (fun h => ?_) (fun h => ?_)
    · exact w_X1_countEntailed_13_b72 (F := F) C hrc6 h hW (lv_sub hl [1, 2, 3, 4, 5, 6] rfl)
    · obtain ⟨v3, ev3, h⟩ := zz_name h
      refine lv_iinc (v := v3) (lv' := [(4, .int v3), (6, .int t0), (0, .ref (ad 13)), (1, .int x1), (2, .int x2), (3, .int x3), (5, .int x5)]) hx hb dX1_countEntailed_69 hl (k := 5) rfl ev3.symm (by decide) rfl (fun ls hl => ?_)
      exact w_X1_countEntailed_13_b72 (F := F) C hrc6 h hW (lv_sub hl [2, 3, 4, 5, 0, 6] rfl)
def n_X1_countEntailed_13_b6_l (F : Nat) (rc6 : Zs → Int32 → Int32 → Int32 → Int32 → Int32 → Option (Int32 × Zs)) (S : Zs) (x1 : Int32) (x2 : Int32) (x3 : Int32) (x4 : Int32) (x5 : Int32) : Option (Int32 × Zs) :=
  zgf S 62 (fun v1 => if v1 ≤ x5 then (some (x4, S)) else (if x3 = 0 then (zld S 4 16 x5 (fun v2 => n_X1_countEntailed_13_b48 F rc6 S x1 x2 x3 x4 x5 v2)) else (zld S 4 16 x5 (fun v3 => zcl (n_X0_contrary F S v3) (fun v5 S4 => n_X1_countEntailed_13_b48 F rc6 S4 x1 x2 x3 x4 x5 v5)))))
set_option maxRecDepth 20000 in
set_option maxHeartbeats 4000000 in
theorem w_X1_countEntailed_13_b6_l {F : Nat} {q : (Int32 × Zs)} {S : Zs} {rc6 : Zs → Int32 → Int32 → Int32 → Int32 → Int32 → Option (Int32 × Zs)} {x1 : Int32} {x2 : Int32} {x3 : Int32} {x4 : Int32} {x5 : Int32} {ls : Array Slot} {H : Heap} {locs : List Loc} (C : zC p s m args meth c cX1_countEntailed 7 RX1 (some .int)) (hrc6 : ∀ (S : Zs) (x1 : Int32) (x2 : Int32) (x3 : Int32) (x4 : Int32) (x5 : Int32) (H : Heap) (locs : List Loc) (ls : Array Slot), rc6 S x1 x2 x3 x4 x5 = some q → zW (xG D cs ad) s S H locs → lv_has ls 7 [(0, .ref (ad 13)), (1, .int x1), (2, .int x2), (3, .int x3), (4, .int x4), (5, .int x5)] → W p l e (zR 3 68) s m args below meth c H locs 0 0 (zQi (xG D cs ad) q below args s) (F0 m 6 ls [])) (h : n_X1_countEntailed_13_b6_l F rc6 S x1 x2 x3 x4 x5 = some q) (hW : zW (xG D cs ad) s S H locs) (hl : lv_has ls 7 [(0, .ref (ad 13)), (1, .int x1), (2, .int x2), (3, .int x3), (4, .int x4), (5, .int x5)]) : W p l e (zR 3 68) s m args below meth c H locs 0 0 (zQi (xG D cs ad) q below args s) (F0 m 6 ls []) := by
  unfold n_X1_countEntailed_13_b6_l at h
  obtain ⟨hx, hb, hml, hown, hts, hret, hlk⟩ := id C
  refine lv_iload hx hb dX1_countEntailed_6 (lv_at hl 5 rfl) ?_
  refine lv_aload_n hx hb dX1_countEntailed_8 rfl (lv_at hl 0 rfl) ?_
  refine xg_13_0 C hW fl_X1_32 dX1_countEntailed_9 ?_
  refine xg_3_2 C hW h fl_X1_48 dX1_countEntailed_12 (fun v1 h => ?_)
  refine zz_cge (tgt := 78) C h dX1_countEntailed_15 (by decide) (fun h => ?_) (fun h => ?_)
  · refine lv_iload hx hb dX1_countEntailed_78 (lv_at hl 4 rfl) ?_
    exact zz_iret C rfl h hW dX1_countEntailed_80
  · refine lv_iload_n hx hb dX1_countEntailed_18 rfl (lv_at hl 3 rfl) ?_
    refine zz_ieq (tgt := 38) C h dX1_countEntailed_19 (by decide) (fun h => ?_) (fun h => ?_)
    · refine lv_aload_n hx hb dX1_countEntailed_38 rfl (lv_at hl 0 rfl) ?_
      refine xg_13_0 C hW fl_X1_32 dX1_countEntailed_39 ?_
      refine xg_3_0 C hW fl_X1_51 dX1_countEntailed_42 ?_
      refine lv_iload hx hb dX1_countEntailed_45 (lv_at hl 5 rfl) ?_
      refine xl_4 C hW h dX1_countEntailed_47 (fun v2 h => ?_)
      exact w_X1_countEntailed_13_b48 (F := F) C hrc6 h hW (lv_sub hl [0, 1, 2, 3, 4, 5] rfl)
    · refine lv_aload_n hx hb dX1_countEntailed_22 rfl (lv_at hl 0 rfl) ?_
      refine xg_13_0 C hW fl_X1_32 dX1_countEntailed_23 ?_
      refine xg_3_0 C hW fl_X1_51 dX1_countEntailed_26 ?_
      refine lv_iload hx hb dX1_countEntailed_29 (lv_at hl 5 rfl) ?_
      refine xl_4 C hW h dX1_countEntailed_31 (fun v3 h => ?_)
      refine zz_callSi (As := [.int v3]) C hW h (fun r hr => c_X0_contrary hr) lk_X1_86 rfl hl.1 ⟨rfl, rfl⟩ ⟨Nat.le_of_ble_eq_true rfl, Nat.le_of_ble_eq_true rfl⟩ (Nat.le_of_ble_eq_true rfl) ⟨Nat.zero_le _, Nat.zero_le _⟩ rfl dX1_countEntailed_32 (fun v5 S4 H locs h hW => ?_)
      refine lv_goto (tgt := 48) hx hb dX1_countEntailed_35 (by decide) ?_
      exact w_X1_countEntailed_13_b48 (F := F) C hrc6 h hW (lv_sub hl [0, 1, 2, 3, 4, 5] rfl)
def n_X1_countEntailed_13_b6 (F : Nat)  (S : Zs) (x1 : Int32) (x2 : Int32) (x3 : Int32) (x4 : Int32) (x5 : Int32) : Option (Int32 × Zs) :=
  zfix (fun (rc : (Zs × Int32 × Int32 × Int32 × Int32 × Int32) → Option (Int32 × Zs)) (u : (Zs × Int32 × Int32 × Int32 × Int32 × Int32)) => n_X1_countEntailed_13_b6_l F  (fun S x1 x2 x3 x4 x5 => rc (S, x1, x2, x3, x4, x5)) u.1 u.2.1 u.2.2.1 u.2.2.2.1 u.2.2.2.2.1 u.2.2.2.2.2) F (S, x1, x2, x3, x4, x5)
theorem w_X1_countEntailed_13_b6 {F : Nat} {q : (Int32 × Zs)}  (C : zC p s m args meth c cX1_countEntailed 7 RX1 (some .int))  : ∀ (n : Nat) (S : Zs) (x1 : Int32) (x2 : Int32) (x3 : Int32) (x4 : Int32) (x5 : Int32) (H : Heap) (locs : List Loc) (ls : Array Slot), zfix (fun (rc : (Zs × Int32 × Int32 × Int32 × Int32 × Int32) → Option (Int32 × Zs)) (u : (Zs × Int32 × Int32 × Int32 × Int32 × Int32)) => n_X1_countEntailed_13_b6_l F  (fun S x1 x2 x3 x4 x5 => rc (S, x1, x2, x3, x4, x5)) u.1 u.2.1 u.2.2.1 u.2.2.2.1 u.2.2.2.2.1 u.2.2.2.2.2) n (S, x1, x2, x3, x4, x5) = some q → zW (xG D cs ad) s S H locs → lv_has ls 7 [(0, .ref (ad 13)), (1, .int x1), (2, .int x2), (3, .int x3), (4, .int x4), (5, .int x5)] → W p l e (zR 3 68) s m args below meth c H locs 0 0 (zQi (xG D cs ad) q below args s) (F0 m 6 ls []) := by
  intro n
  induction n with
  | zero => intro S x1 x2 x3 x4 x5 H locs ls h; exact absurd h (fun h => by cases h)
  | succ n ih => intro S x1 x2 x3 x4 x5 H locs ls h hW hl; exact w_X1_countEntailed_13_b6_l (F := F) C (fun S x1 x2 x3 x4 x5 H locs ls h hW hl => ih S x1 x2 x3 x4 x5 H locs ls h hW hl) h hW hl
def n_X1_countEntailed_13_e (F : Nat)  (S : Zs) (x1 : Int32) (x2 : Int32) (x3 : Int32) : Option (Int32 × Zs) :=
  n_X1_countEntailed_13_b6 F  S x1 x2 x3 (0 : Int32) (0 : Int32)
set_option maxRecDepth 20000 in
set_option maxHeartbeats 4000000 in
theorem w_X1_countEntailed_13_e {F : Nat} {q : (Int32 × Zs)} {S : Zs}  {x1 : Int32} {x2 : Int32} {x3 : Int32} {ls : Array Slot} {H : Heap} {locs : List Loc} (C : zC p s m args meth c cX1_countEntailed 7 RX1 (some .int))  (h : n_X1_countEntailed_13_e F  S x1 x2 x3 = some q) (hW : zW (xG D cs ad) s S H locs) (hl : lv_has ls 7 [(0, .ref (ad 13)), (1, .int x1), (2, .int x2), (3, .int x3)]) : W p l e (zR 3 68) s m args below meth c H locs 0 0 (zQi (xG D cs ad) q below args s) (F0 m 0 ls []) := by
  unfold n_X1_countEntailed_13_e at h
  obtain ⟨hx, hb, hml, hown, hts, hret, hlk⟩ := id C
  refine lv_iconst (v := 0) hx hb dX1_countEntailed_0 (by decide) ?_
  refine lv_istore (lv' := [(4, .int (0 : Int32)), (0, .ref (ad 13)), (1, .int x1), (2, .int x2), (3, .int x3)]) hx hb dX1_countEntailed_1 hl (by decide) rfl (fun ls hl => ?_)
  refine lv_iconst (v := 0) hx hb dX1_countEntailed_3 (by decide) ?_
  refine lv_istore (lv' := [(5, .int (0 : Int32)), (4, .int (0 : Int32)), (0, .ref (ad 13)), (1, .int x1), (2, .int x2), (3, .int x3)]) hx hb dX1_countEntailed_4 hl (by decide) rfl (fun ls hl => ?_)
  exact w_X1_countEntailed_13_b6 (F := F) C F _ _ _ _ _ _ _ _ _ h hW (lv_sub hl [2, 3, 4, 5, 1, 0] rfl)
def n_X1_countEntailed_13 (F : Nat) (S : Zs) (x1 : Int32) (x2 : Int32) (x3 : Int32) : Option (Int32 × Zs) := n_X1_countEntailed_13_e F  S x1 x2 x3
theorem c_X1_countEntailed_13 {l : Launch} {D : va_G} {cs ad : Nat → Nat} {F : Nat} {S : Zs} {x1 : Int32} {x2 : Int32} {x3 : Int32} {q : (Int32 × Zs)} (h : n_X1_countEntailed_13 F S x1 x2 x3 = some q) : zMi l yX1_countEntailed cX1_countEntailed 7 (some .int) (zR 3 68) (xG D cs ad) [.ref (ad 13), .int x1, .int x2, .int x3] S q :=
  zz_enter (by decide) (Nat.le_of_ble_eq_true rfl) (fun p e s m below meth c ls C hW hl => w_X1_countEntailed_13_e (F := F) C h hW (lv_sub hl [0, 1, 2, 3] rfl))
end ZM
