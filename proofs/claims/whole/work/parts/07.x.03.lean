section ZM
variable {p : Program} {l : Launch} {e : Env} {s : State} {m : MethodId} {args : Array Value} {below : List Frame} {meth : Method} {c : Code} {D : va_G} {cs ad : Nat → Nat}
def n_X10_canAllShare_26_b29 (F : Nat) (rc2 : Zs → Int32 → Int32 → Option (Int32 × Zs)) (S : Zs) (x1 : Int32) (x2 : Int32) : Option (Int32 × Zs) :=
  zlet (x2 + (1 : Int32)) (fun v1 => rc2 S x1 v1)
set_option maxRecDepth 20000 in
set_option maxHeartbeats 4000000 in
theorem w_X10_canAllShare_26_b29 {F : Nat} {q : (Int32 × Zs)} {S : Zs} {rc2 : Zs → Int32 → Int32 → Option (Int32 × Zs)} {x1 : Int32} {x2 : Int32} {ls : Array Slot} {H : Heap} {locs : List Loc} (C : zC p s m args meth c cX10_canAllShare 3 RX10 (some .boolean)) (hrc2 : ∀ (S : Zs) (x1 : Int32) (x2 : Int32) (H : Heap) (locs : List Loc) (ls : Array Slot), rc2 S x1 x2 = some q → zW (xG D cs ad) s S H locs → lv_has ls 3 [(0, .ref (ad 26)), (1, .int x1), (2, .int x2)] → W p l e (zR 0 0) s m args below meth c H locs 0 0 (zQi (xG D cs ad) q below args s) (F0 m 2 ls [])) (h : n_X10_canAllShare_26_b29 F rc2 S x1 x2 = some q) (hW : zW (xG D cs ad) s S H locs) (hl : lv_has ls 3 [(0, .ref (ad 26)), (1, .int x1), (2, .int x2)]) : W p l e (zR 0 0) s m args below meth c H locs 0 0 (zQi (xG D cs ad) q below args s) (F0 m 29 ls []) := by
  unfold n_X10_canAllShare_26_b29 at h
  obtain ⟨hx, hb, hml, hown, hts, hret, hlk⟩ := id C
  obtain ⟨v1, ev1, h⟩ := zz_name h
  refine lv_iinc (v := v1) (lv' := [(2, .int v1), (0, .ref (ad 26)), (1, .int x1)]) hx hb dX10_canAllShare_29 hl (k := 2) rfl ev1.symm (by decide) rfl (fun ls hl => ?_)
  refine lv_goto (tgt := 2) hx hb dX10_canAllShare_32 (by decide) ?_
  exact hrc2 _ _ _ _ _ _ h hW (lv_sub hl [1, 2, 0] rfl)
def n_X10_canAllShare_26_b2_l (F : Nat) (rc2 : Zs → Int32 → Int32 → Option (Int32 × Zs)) (S : Zs) (x1 : Int32) (x2 : Int32) : Option (Int32 × Zs) :=
  if (12 : Int32) ≤ x2 then (zrb (1 : Int32) S) else (if ((x1 >>> (x2 &&& 31)) &&& (1 : Int32)) = 0 then (n_X10_canAllShare_26_b29 F rc2 S x1 x2) else (zld S 28 12 x2 (fun v1 => if (x1 &&& v1) = 0 then (n_X10_canAllShare_26_b29 F rc2 S x1 x2) else (zrb (0 : Int32) S))))
set_option maxRecDepth 20000 in
set_option maxHeartbeats 4000000 in
theorem w_X10_canAllShare_26_b2_l {F : Nat} {q : (Int32 × Zs)} {S : Zs} {rc2 : Zs → Int32 → Int32 → Option (Int32 × Zs)} {x1 : Int32} {x2 : Int32} {ls : Array Slot} {H : Heap} {locs : List Loc} (C : zC p s m args meth c cX10_canAllShare 3 RX10 (some .boolean)) (hrc2 : ∀ (S : Zs) (x1 : Int32) (x2 : Int32) (H : Heap) (locs : List Loc) (ls : Array Slot), rc2 S x1 x2 = some q → zW (xG D cs ad) s S H locs → lv_has ls 3 [(0, .ref (ad 26)), (1, .int x1), (2, .int x2)] → W p l e (zR 0 0) s m args below meth c H locs 0 0 (zQi (xG D cs ad) q below args s) (F0 m 2 ls [])) (h : n_X10_canAllShare_26_b2_l F rc2 S x1 x2 = some q) (hW : zW (xG D cs ad) s S H locs) (hl : lv_has ls 3 [(0, .ref (ad 26)), (1, .int x1), (2, .int x2)]) : W p l e (zR 0 0) s m args below meth c H locs 0 0 (zQi (xG D cs ad) q below args s) (F0 m 2 ls []) := by
  unfold n_X10_canAllShare_26_b2_l at h
  obtain ⟨hx, hb, hml, hown, hts, hret, hlk⟩ := id C
  refine lv_iload_n hx hb dX10_canAllShare_2 rfl (lv_at hl 2 rfl) ?_
  refine lv_bipush (v := 12) hx hb dX10_canAllShare_3 (by decide) ?_
  refine zz_cge (tgt := 35) C h dX10_canAllShare_5 (by decide) (fun h => ?_) (fun h => ?_)
  · refine lv_iconst (v := 1) hx hb dX10_canAllShare_35 (by decide) ?_
    exact zz_zret C rfl h hW dX10_canAllShare_36
  · refine lv_iload_n hx hb dX10_canAllShare_8 rfl (lv_at hl 1 rfl) ?_
    refine lv_iload_n hx hb dX10_canAllShare_9 rfl (lv_at hl 2 rfl) ?_
    refine lv_ishr hx hb dX10_canAllShare_10 ?_
    refine lv_iconst (v := 1) hx hb dX10_canAllShare_11 (by decide) ?_
    refine lv_iand hx hb dX10_canAllShare_12 ?_
    refine zz_ieq (tgt := 29) C h dX10_canAllShare_13 (by decide) (fun h => ?_) (fun h => ?_)
    · exact w_X10_canAllShare_26_b29 (F := F) C hrc2 h hW (lv_sub hl [0, 1, 2] rfl)
    · refine lv_iload_n hx hb dX10_canAllShare_16 rfl (lv_at hl 1 rfl) ?_
      refine lv_aload_n hx hb dX10_canAllShare_17 rfl (lv_at hl 0 rfl) ?_
      refine xg_26_4 C hW fl_X10_15 dX10_canAllShare_18 ?_
      refine lv_iload_n hx hb dX10_canAllShare_21 rfl (lv_at hl 2 rfl) ?_
      refine xl_28 C hW h dX10_canAllShare_22 (fun v1 h => ?_)
      refine lv_iand hx hb dX10_canAllShare_23 ?_
      refine zz_ieq (tgt := 29) C h dX10_canAllShare_24 (by decide) (fun h => ?_) (fun h => ?_)
      · exact w_X10_canAllShare_26_b29 (F := F) C hrc2 h hW (lv_sub hl [0, 1, 2] rfl)
      · refine lv_iconst (v := 0) hx hb dX10_canAllShare_27 (by decide) ?_
        exact zz_zret C rfl h hW dX10_canAllShare_28
def n_X10_canAllShare_26_b2 (F : Nat)  (S : Zs) (x1 : Int32) (x2 : Int32) : Option (Int32 × Zs) :=
  zfix (fun (rc : (Zs × Int32 × Int32) → Option (Int32 × Zs)) (u : (Zs × Int32 × Int32)) => n_X10_canAllShare_26_b2_l F  (fun S x1 x2 => rc (S, x1, x2)) u.1 u.2.1 u.2.2) F (S, x1, x2)
theorem w_X10_canAllShare_26_b2 {F : Nat} {q : (Int32 × Zs)}  (C : zC p s m args meth c cX10_canAllShare 3 RX10 (some .boolean))  : ∀ (n : Nat) (S : Zs) (x1 : Int32) (x2 : Int32) (H : Heap) (locs : List Loc) (ls : Array Slot), zfix (fun (rc : (Zs × Int32 × Int32) → Option (Int32 × Zs)) (u : (Zs × Int32 × Int32)) => n_X10_canAllShare_26_b2_l F  (fun S x1 x2 => rc (S, x1, x2)) u.1 u.2.1 u.2.2) n (S, x1, x2) = some q → zW (xG D cs ad) s S H locs → lv_has ls 3 [(0, .ref (ad 26)), (1, .int x1), (2, .int x2)] → W p l e (zR 0 0) s m args below meth c H locs 0 0 (zQi (xG D cs ad) q below args s) (F0 m 2 ls []) := by
  intro n
  induction n with
  | zero => intro S x1 x2 H locs ls h; exact absurd h (fun h => by cases h)
  | succ n ih => intro S x1 x2 H locs ls h hW hl; exact w_X10_canAllShare_26_b2_l (F := F) C (fun S x1 x2 H locs ls h hW hl => ih S x1 x2 H locs ls h hW hl) h hW hl
def n_X10_canAllShare_26_e (F : Nat)  (S : Zs) (x1 : Int32) : Option (Int32 × Zs) :=
  n_X10_canAllShare_26_b2 F  S x1 (0 : Int32)
set_option maxRecDepth 20000 in
set_option maxHeartbeats 4000000 in
theorem w_X10_canAllShare_26_e {F : Nat} {q : (Int32 × Zs)} {S : Zs}  {x1 : Int32} {ls : Array Slot} {H : Heap} {locs : List Loc} (C : zC p s m args meth c cX10_canAllShare 3 RX10 (some .boolean))  (h : n_X10_canAllShare_26_e F  S x1 = some q) (hW : zW (xG D cs ad) s S H locs) (hl : lv_has ls 3 [(0, .ref (ad 26)), (1, .int x1)]) : W p l e (zR 0 0) s m args below meth c H locs 0 0 (zQi (xG D cs ad) q below args s) (F0 m 0 ls []) := by
  unfold n_X10_canAllShare_26_e at h
  obtain ⟨hx, hb, hml, hown, hts, hret, hlk⟩ := id C
  refine lv_iconst (v := 0) hx hb dX10_canAllShare_0 (by decide) ?_
  refine lv_istore_n (lv' := [(2, .int (0 : Int32)), (0, .ref (ad 26)), (1, .int x1)]) hx hb dX10_canAllShare_1 rfl hl (by decide) rfl (fun ls hl => ?_)
  exact w_X10_canAllShare_26_b2 (F := F) C F _ _ _ _ _ _ h hW (lv_sub hl [1, 2, 0] rfl)
def n_X10_canAllShare_26 (F : Nat) (S : Zs) (x1 : Int32) : Option (Int32 × Zs) := n_X10_canAllShare_26_e F  S x1
theorem c_X10_canAllShare_26 {l : Launch} {D : va_G} {cs ad : Nat → Nat} {F : Nat} {S : Zs} {x1 : Int32} {q : (Int32 × Zs)} (h : n_X10_canAllShare_26 F S x1 = some q) : zMi l yX10_canAllShare cX10_canAllShare 3 (some .boolean) (zR 0 0) (xG D cs ad) [.ref (ad 26), .int x1] S q :=
  zz_enter (by decide) (Nat.le_of_ble_eq_true rfl) (fun p e s m below meth c ls C hW hl => w_X10_canAllShare_26_e (F := F) C h hW (lv_sub hl [0, 1] rfl))
def n_X10_fewestSorts_26_b140 (F : Nat) (slf : Zs → Int32 → Option (Int32 × Zs))  (S : Zs) (x1 : Int32) (x5 : Int32) : Option (Int32 × Zs) :=
  zst S 29 4096 x1 (vp_nar .byte (x5.toInt8.toInt32)) (fun S1 => some (x5, S1))
set_option maxRecDepth 20000 in
set_option maxHeartbeats 4000000 in
theorem w_X10_fewestSorts_26_b140 {F : Nat} {q : (Int32 × Zs)} {S : Zs}  {x1 : Int32} {x5 : Int32} {ls : Array Slot} {H : Heap} {locs : List Loc} {d : Nat} {slf : Zs → Int32 → Option (Int32 × Zs)} (C : zC p s m args meth c cX10_fewestSorts 7 RX10 (some .int)) (hslf : ∀ (S : Zs) (x1 : Int32) (r : (Int32 × Zs)), slf S x1 = some r → zMi l yX10_fewestSorts cX10_fewestSorts 7 (some .int) (zR (1 + d) (22 + 26 * d)) (xG D cs ad) [.ref (ad 26), .int x1] S r)  (h : n_X10_fewestSorts_26_b140 F slf  S x1 x5 = some q) (hW : zW (xG D cs ad) s S H locs) (hl : lv_has ls 7 [(0, .ref (ad 26)), (1, .int x1), (5, .int x5)]) : W p l e (zR (1 + (d + 1)) (22 + 26 * (d + 1))) s m args below meth c H locs 0 0 (zQi (xG D cs ad) q below args s) (F0 m 140 ls []) := by
  unfold n_X10_fewestSorts_26_b140 at h
  obtain ⟨hx, hb, hml, hown, hts, hret, hlk⟩ := id C
  refine lv_aload_n hx hb dX10_fewestSorts_140 rfl (lv_at hl 0 rfl) ?_
  refine xg_26_5 C hW fl_X10_18 dX10_fewestSorts_141 ?_
  refine lv_iload_n hx hb dX10_fewestSorts_144 rfl (lv_at hl 1 rfl) ?_
  refine lv_iload hx hb dX10_fewestSorts_145 (lv_at hl 2 rfl) ?_
  refine lv_i2b hx hb dX10_fewestSorts_147 rfl ?_
  refine xs_29 C hW h dX10_fewestSorts_148 (fun S1 H locs h hW => ?_)
  refine lv_iload hx hb dX10_fewestSorts_149 (lv_at hl 2 rfl) ?_
  exact zz_iret C rfl h hW dX10_fewestSorts_151
def n_X10_fewestSorts_26_b128 (F : Nat) (slf : Zs → Int32 → Option (Int32 × Zs)) (rc89 : Zs → Int32 → Int32 → Int32 → Int32 → Int32 → Option (Int32 × Zs)) (S : Zs) (x1 : Int32) (x3 : Int32) (x4 : Int32) (x5 : Int32) (x6 : Int32) : Option (Int32 × Zs) :=
  zlet ((x6 - (1 : Int32)) &&& x4) (fun v1 => rc89 S x1 x3 x4 x5 v1)
set_option maxRecDepth 20000 in
set_option maxHeartbeats 4000000 in
theorem w_X10_fewestSorts_26_b128 {F : Nat} {q : (Int32 × Zs)} {S : Zs} {rc89 : Zs → Int32 → Int32 → Int32 → Int32 → Int32 → Option (Int32 × Zs)} {x1 : Int32} {x3 : Int32} {x4 : Int32} {x5 : Int32} {x6 : Int32} {ls : Array Slot} {H : Heap} {locs : List Loc} {d : Nat} {slf : Zs → Int32 → Option (Int32 × Zs)} (C : zC p s m args meth c cX10_fewestSorts 7 RX10 (some .int)) (hslf : ∀ (S : Zs) (x1 : Int32) (r : (Int32 × Zs)), slf S x1 = some r → zMi l yX10_fewestSorts cX10_fewestSorts 7 (some .int) (zR (1 + d) (22 + 26 * d)) (xG D cs ad) [.ref (ad 26), .int x1] S r) (hrc89 : ∀ (S : Zs) (x1 : Int32) (x3 : Int32) (x4 : Int32) (x5 : Int32) (x6 : Int32) (H : Heap) (locs : List Loc) (ls : Array Slot), rc89 S x1 x3 x4 x5 x6 = some q → zW (xG D cs ad) s S H locs → lv_has ls 7 [(0, .ref (ad 26)), (1, .int x1), (3, .int x3), (4, .int x4), (5, .int x5), (6, .int x6)] → W p l e (zR (1 + (d + 1)) (22 + 26 * (d + 1))) s m args below meth c H locs 0 0 (zQi (xG D cs ad) q below args s) (F0 m 89 ls [])) (h : n_X10_fewestSorts_26_b128 F slf rc89 S x1 x3 x4 x5 x6 = some q) (hW : zW (xG D cs ad) s S H locs) (hl : lv_has ls 7 [(0, .ref (ad 26)), (1, .int x1), (3, .int x3), (4, .int x4), (5, .int x5), (6, .int x6)]) : W p l e (zR (1 + (d + 1)) (22 + 26 * (d + 1))) s m args below meth c H locs 0 0 (zQi (xG D cs ad) q below args s) (F0 m 128 ls []) := by
  unfold n_X10_fewestSorts_26_b128 at h
  obtain ⟨hx, hb, hml, hown, hts, hret, hlk⟩ := id C
  refine lv_iload hx hb dX10_fewestSorts_128 (lv_at hl 5 rfl) ?_
  refine lv_iconst (v := 1) hx hb dX10_fewestSorts_130 (by decide) ?_
  refine lv_isub hx hb dX10_fewestSorts_131 ?_
  refine lv_iload hx hb dX10_fewestSorts_132 (lv_at hl 3 rfl) ?_
  refine lv_iand hx hb dX10_fewestSorts_134 ?_
  refine zz_leti h (fun v1 h => ?_)
  refine lv_istore (lv' := [(6, .int v1), (0, .ref (ad 26)), (1, .int x1), (3, .int x3), (4, .int x4), (5, .int x5)]) hx hb dX10_fewestSorts_135 hl (by decide) rfl (fun ls hl => ?_)
  refine lv_goto (tgt := 89) hx hb dX10_fewestSorts_137 (by decide) ?_
  exact hrc89 _ _ _ _ _ _ _ _ _ h hW (lv_sub hl [1, 2, 3, 4, 5, 0] rfl)
def n_X10_fewestSorts_26_b89_l (F : Nat) (slf : Zs → Int32 → Option (Int32 × Zs)) (rc89 : Zs → Int32 → Int32 → Int32 → Int32 → Int32 → Option (Int32 × Zs)) (S : Zs) (x1 : Int32) (x3 : Int32) (x4 : Int32) (x5 : Int32) (x6 : Int32) : Option (Int32 × Zs) :=
  if x6 ≤ 0 then (n_X10_fewestSorts_26_b140 F slf  S x1 x5) else (if x5 ≤ (2 : Int32) then (n_X10_fewestSorts_26_b140 F slf  S x1 x5) else (zcl (n_X10_canAllShare_26 F S x6) (fun v2 S1 => if v2 = 0 then (n_X10_fewestSorts_26_b128 F slf rc89 S1 x1 x3 x4 x5 x6) else (zcl (slf S1 (x3 &&& (x6 ^^^ (-1 : Int32)))) (fun v4 S3 => zlet (if ((1 : Int32) + v4) < x5 then ((1 : Int32) + v4) else x5) (fun v5 => n_X10_fewestSorts_26_b128 F slf rc89 S3 x1 x3 x4 v5 x6))))))
set_option maxRecDepth 20000 in
set_option maxHeartbeats 4000000 in
theorem w_X10_fewestSorts_26_b89_l {F : Nat} {q : (Int32 × Zs)} {S : Zs} {rc89 : Zs → Int32 → Int32 → Int32 → Int32 → Int32 → Option (Int32 × Zs)} {x1 : Int32} {x3 : Int32} {x4 : Int32} {x5 : Int32} {x6 : Int32} {ls : Array Slot} {H : Heap} {locs : List Loc} {d : Nat} {slf : Zs → Int32 → Option (Int32 × Zs)} (C : zC p s m args meth c cX10_fewestSorts 7 RX10 (some .int)) (hslf : ∀ (S : Zs) (x1 : Int32) (r : (Int32 × Zs)), slf S x1 = some r → zMi l yX10_fewestSorts cX10_fewestSorts 7 (some .int) (zR (1 + d) (22 + 26 * d)) (xG D cs ad) [.ref (ad 26), .int x1] S r) (hrc89 : ∀ (S : Zs) (x1 : Int32) (x3 : Int32) (x4 : Int32) (x5 : Int32) (x6 : Int32) (H : Heap) (locs : List Loc) (ls : Array Slot), rc89 S x1 x3 x4 x5 x6 = some q → zW (xG D cs ad) s S H locs → lv_has ls 7 [(0, .ref (ad 26)), (1, .int x1), (3, .int x3), (4, .int x4), (5, .int x5), (6, .int x6)] → W p l e (zR (1 + (d + 1)) (22 + 26 * (d + 1))) s m args below meth c H locs 0 0 (zQi (xG D cs ad) q below args s) (F0 m 89 ls [])) (h : n_X10_fewestSorts_26_b89_l F slf rc89 S x1 x3 x4 x5 x6 = some q) (hW : zW (xG D cs ad) s S H locs) (hl : lv_has ls 7 [(0, .ref (ad 26)), (1, .int x1), (3, .int x3), (4, .int x4), (5, .int x5), (6, .int x6)]) : W p l e (zR (1 + (d + 1)) (22 + 26 * (d + 1))) s m args below meth c H locs 0 0 (zQi (xG D cs ad) q below args s) (F0 m 89 ls []) := by
  unfold n_X10_fewestSorts_26_b89_l at h
  obtain ⟨hx, hb, hml, hown, hts, hret, hlk⟩ := id C
  refine lv_iload hx hb dX10_fewestSorts_89 (lv_at hl 5 rfl) ?_
  refine zz_ile (tgt := 140) C h dX10_fewestSorts_91 (by decide) (fun h => ?_) (fun h => ?_)
  · exact w_X10_fewestSorts_26_b140 (F := F) C hslf h hW (lv_sub hl [0, 1, 4] rfl)
  · refine lv_iload hx hb dX10_fewestSorts_94 (lv_at hl 4 rfl) ?_
    refine lv_iconst (v := 2) hx hb dX10_fewestSorts_96 (by decide) ?_
    refine zz_cle (tgt := 140) C h dX10_fewestSorts_97 (by decide) (fun h => ?_) (fun h => ?_)
    · exact w_X10_fewestSorts_26_b140 (F := F) C hslf h hW (lv_sub hl [0, 1, 4] rfl)
    · refine lv_aload_n hx hb dX10_fewestSorts_100 rfl (lv_at hl 0 rfl) ?_
      refine lv_iload hx hb dX10_fewestSorts_101 (lv_at hl 5 rfl) ?_
      refine zz_callVi (As := [.int x6]) C hW h (fun r hr => c_X10_canAllShare_26 hr) lk_X10_88 (hW.recv xr_26) rfl hl.1 ⟨rfl, rfl⟩ ⟨by dsimp only [zR]; omega, by dsimp only [zR]; omega⟩ (Nat.le_of_ble_eq_true rfl) ⟨Nat.zero_le _, Nat.zero_le _⟩ rfl dX10_fewestSorts_103 (fun v2 S1 H locs h hW => ?_)
      refine zz_ieq (tgt := 128) C h dX10_fewestSorts_106 (by decide) (fun h => ?_) (fun h => ?_)
      · exact w_X10_fewestSorts_26_b128 (F := F) C hslf hrc89 h hW (lv_sub hl [0, 1, 2, 3, 4, 5] rfl)
      · refine lv_iload hx hb dX10_fewestSorts_109 (lv_at hl 4 rfl) ?_
        refine lv_iconst (v := 1) hx hb dX10_fewestSorts_111 (by decide) ?_
        refine lv_aload_n hx hb dX10_fewestSorts_112 rfl (lv_at hl 0 rfl) ?_
        refine lv_iload_n hx hb dX10_fewestSorts_113 rfl (lv_at hl 2 rfl) ?_
        refine lv_iload hx hb dX10_fewestSorts_114 (lv_at hl 5 rfl) ?_
        refine lv_iconst (v := -1) hx hb dX10_fewestSorts_116 (by decide) ?_
        refine lv_ixor hx hb dX10_fewestSorts_117 ?_
        refine lv_iand hx hb dX10_fewestSorts_118 ?_
        refine zz_callVi (As := [.int (x3 &&& (x6 ^^^ (-1 : Int32)))]) C hW h (fun r hr => hslf _ _ r hr) lk_X10_77 (hW.recv xr_26) rfl hl.1 ⟨rfl, rfl⟩ ⟨by dsimp only [zR]; omega, by dsimp only [zR]; omega⟩ (Nat.le_of_ble_eq_true rfl) ⟨Nat.zero_le _, Nat.zero_le _⟩ rfl dX10_fewestSorts_119 (fun v4 S3 H locs h hW => ?_)
        refine lv_iadd hx hb dX10_fewestSorts_122 ?_
        refine va_mmin hx hb (hml.trans hl.1.symm) hown (hts _ lkm_X10_91) (hts _ sm_min) (hts _ it_Math) (hts _ cd_min) (by dsimp only [zR]; omega) (show _ ≤ _ + _ by dsimp only [List.map, List.sum_cons, List.sum_nil, Value.category]; omega) (Nat.zero_le _) (Nat.zero_le _) dX10_fewestSorts_123 ?_
        refine zz_leti h (fun v5 h => ?_)
        refine lv_istore (lv' := [(5, .int v5), (0, .ref (ad 26)), (1, .int x1), (3, .int x3), (4, .int x4), (6, .int x6)]) hx hb dX10_fewestSorts_126 hl (by decide) rfl (fun ls hl => ?_)
        exact w_X10_fewestSorts_26_b128 (F := F) C hslf hrc89 h hW (lv_sub hl [1, 2, 3, 4, 0, 5] rfl)
def n_X10_fewestSorts_26_b89 (F : Nat) (slf : Zs → Int32 → Option (Int32 × Zs))  (S : Zs) (x1 : Int32) (x3 : Int32) (x4 : Int32) (x5 : Int32) (x6 : Int32) : Option (Int32 × Zs) :=
  zfix (fun (rc : (Zs × Int32 × Int32 × Int32 × Int32 × Int32) → Option (Int32 × Zs)) (u : (Zs × Int32 × Int32 × Int32 × Int32 × Int32)) => n_X10_fewestSorts_26_b89_l F slf  (fun S x1 x3 x4 x5 x6 => rc (S, x1, x3, x4, x5, x6)) u.1 u.2.1 u.2.2.1 u.2.2.2.1 u.2.2.2.2.1 u.2.2.2.2.2) F (S, x1, x3, x4, x5, x6)
theorem w_X10_fewestSorts_26_b89 {F : Nat} {q : (Int32 × Zs)}  {d : Nat} {slf : Zs → Int32 → Option (Int32 × Zs)} (C : zC p s m args meth c cX10_fewestSorts 7 RX10 (some .int)) (hslf : ∀ (S : Zs) (x1 : Int32) (r : (Int32 × Zs)), slf S x1 = some r → zMi l yX10_fewestSorts cX10_fewestSorts 7 (some .int) (zR (1 + d) (22 + 26 * d)) (xG D cs ad) [.ref (ad 26), .int x1] S r)  : ∀ (n : Nat) (S : Zs) (x1 : Int32) (x3 : Int32) (x4 : Int32) (x5 : Int32) (x6 : Int32) (H : Heap) (locs : List Loc) (ls : Array Slot), zfix (fun (rc : (Zs × Int32 × Int32 × Int32 × Int32 × Int32) → Option (Int32 × Zs)) (u : (Zs × Int32 × Int32 × Int32 × Int32 × Int32)) => n_X10_fewestSorts_26_b89_l F slf  (fun S x1 x3 x4 x5 x6 => rc (S, x1, x3, x4, x5, x6)) u.1 u.2.1 u.2.2.1 u.2.2.2.1 u.2.2.2.2.1 u.2.2.2.2.2) n (S, x1, x3, x4, x5, x6) = some q → zW (xG D cs ad) s S H locs → lv_has ls 7 [(0, .ref (ad 26)), (1, .int x1), (3, .int x3), (4, .int x4), (5, .int x5), (6, .int x6)] → W p l e (zR (1 + (d + 1)) (22 + 26 * (d + 1))) s m args below meth c H locs 0 0 (zQi (xG D cs ad) q below args s) (F0 m 89 ls []) := by
  intro n
  induction n with
  | zero => intro S x1 x3 x4 x5 x6 H locs ls h; exact absurd h (fun h => by cases h)
  | succ n ih => intro S x1 x3 x4 x5 x6 H locs ls h hW hl; exact w_X10_fewestSorts_26_b89_l (F := F) C hslf (fun S x1 x3 x4 x5 x6 H locs ls h hW hl => ih S x1 x3 x4 x5 x6 H locs ls h hW hl) h hW hl
def n_X10_fewestSorts_26_b83 (F : Nat) (slf : Zs → Int32 → Option (Int32 × Zs))  (S : Zs) (x1 : Int32) (x3 : Int32) (x4 : Int32) (t0 : Int32) : Option (Int32 × Zs) :=
  n_X10_fewestSorts_26_b89 F slf  S x1 x3 x4 t0 x4
set_option maxRecDepth 20000 in
set_option maxHeartbeats 4000000 in
theorem w_X10_fewestSorts_26_b83 {F : Nat} {q : (Int32 × Zs)} {S : Zs}  {x1 : Int32} {x3 : Int32} {x4 : Int32} {t0 : Int32} {ls : Array Slot} {H : Heap} {locs : List Loc} {d : Nat} {slf : Zs → Int32 → Option (Int32 × Zs)} (C : zC p s m args meth c cX10_fewestSorts 7 RX10 (some .int)) (hslf : ∀ (S : Zs) (x1 : Int32) (r : (Int32 × Zs)), slf S x1 = some r → zMi l yX10_fewestSorts cX10_fewestSorts 7 (some .int) (zR (1 + d) (22 + 26 * d)) (xG D cs ad) [.ref (ad 26), .int x1] S r)  (h : n_X10_fewestSorts_26_b83 F slf  S x1 x3 x4 t0 = some q) (hW : zW (xG D cs ad) s S H locs) (hl : lv_has ls 7 [(0, .ref (ad 26)), (1, .int x1), (3, .int x3), (4, .int x4)]) : W p l e (zR (1 + (d + 1)) (22 + 26 * (d + 1))) s m args below meth c H locs 0 0 (zQi (xG D cs ad) q below args s) (F0 m 83 ls [.int t0]) := by
  unfold n_X10_fewestSorts_26_b83 at h
  obtain ⟨hx, hb, hml, hown, hts, hret, hlk⟩ := id C
  refine lv_istore (lv' := [(5, .int t0), (0, .ref (ad 26)), (1, .int x1), (3, .int x3), (4, .int x4)]) hx hb dX10_fewestSorts_83 hl (by decide) rfl (fun ls hl => ?_)
  refine lv_iload hx hb dX10_fewestSorts_85 (lv_at hl 4 rfl) ?_
  refine lv_istore (lv' := [(6, .int x4), (5, .int t0), (0, .ref (ad 26)), (1, .int x1), (3, .int x3), (4, .int x4)]) hx hb dX10_fewestSorts_87 hl (by decide) rfl (fun ls hl => ?_)
  exact w_X10_fewestSorts_26_b89 (F := F) C hslf F _ _ _ _ _ _ _ _ _ h hW (lv_sub hl [2, 3, 4, 5, 1, 0] rfl)
def n_X10_fewestSorts_26_b44 (F : Nat) (slf : Zs → Int32 → Option (Int32 × Zs))  (S : Zs) (x1 : Int32) (x2 : Int32) : Option (Int32 × Zs) :=
  zlet (x1 &&& (((1 : Int32) <<< (x2 &&& 31)) ^^^ (-1 : Int32))) (fun v1 => zld S 28 12 x2 (fun v2 => zlet (v1 &&& (v2 ^^^ (-1 : Int32))) (fun v3 => zcl (n_X10_canAllShare_26 F S x1) (fun v5 S4 => if v5 = 0 then (zcl (slf S4 v1) (fun v7 S6 => n_X10_fewestSorts_26_b83 F slf  S6 x1 v1 v3 ((1 : Int32) + v7))) else (n_X10_fewestSorts_26_b83 F slf  S4 x1 v1 v3 (1 : Int32))))))
set_option maxRecDepth 20000 in
set_option maxHeartbeats 4000000 in
theorem w_X10_fewestSorts_26_b44 {F : Nat} {q : (Int32 × Zs)} {S : Zs}  {x1 : Int32} {x2 : Int32} {ls : Array Slot} {H : Heap} {locs : List Loc} {d : Nat} {slf : Zs → Int32 → Option (Int32 × Zs)} (C : zC p s m args meth c cX10_fewestSorts 7 RX10 (some .int)) (hslf : ∀ (S : Zs) (x1 : Int32) (r : (Int32 × Zs)), slf S x1 = some r → zMi l yX10_fewestSorts cX10_fewestSorts 7 (some .int) (zR (1 + d) (22 + 26 * d)) (xG D cs ad) [.ref (ad 26), .int x1] S r)  (h : n_X10_fewestSorts_26_b44 F slf  S x1 x2 = some q) (hW : zW (xG D cs ad) s S H locs) (hl : lv_has ls 7 [(0, .ref (ad 26)), (1, .int x1), (2, .int x2)]) : W p l e (zR (1 + (d + 1)) (22 + 26 * (d + 1))) s m args below meth c H locs 0 0 (zQi (xG D cs ad) q below args s) (F0 m 44 ls []) := by
  unfold n_X10_fewestSorts_26_b44 at h
  obtain ⟨hx, hb, hml, hown, hts, hret, hlk⟩ := id C
  refine lv_iload_n hx hb dX10_fewestSorts_44 rfl (lv_at hl 1 rfl) ?_
  refine lv_iconst (v := 1) hx hb dX10_fewestSorts_45 (by decide) ?_
  refine lv_iload_n hx hb dX10_fewestSorts_46 rfl (lv_at hl 2 rfl) ?_
  refine lv_ishl hx hb dX10_fewestSorts_47 ?_
  refine lv_iconst (v := -1) hx hb dX10_fewestSorts_48 (by decide) ?_
  refine lv_ixor hx hb dX10_fewestSorts_49 ?_
  refine lv_iand hx hb dX10_fewestSorts_50 ?_
  refine zz_leti h (fun v1 h => ?_)
  refine lv_istore_n (lv' := [(3, .int v1), (0, .ref (ad 26)), (1, .int x1), (2, .int x2)]) hx hb dX10_fewestSorts_51 rfl hl (by decide) rfl (fun ls hl => ?_)
  refine lv_iload_n hx hb dX10_fewestSorts_52 rfl (lv_at hl 0 rfl) ?_
  refine lv_aload_n hx hb dX10_fewestSorts_53 rfl (lv_at hl 1 rfl) ?_
  refine xg_26_4 C hW fl_X10_15 dX10_fewestSorts_54 ?_
  refine lv_iload_n hx hb dX10_fewestSorts_57 rfl (lv_at hl 3 rfl) ?_
  refine xl_28 C hW h dX10_fewestSorts_58 (fun v2 h => ?_)
  refine lv_iconst (v := -1) hx hb dX10_fewestSorts_59 (by decide) ?_
  refine lv_ixor hx hb dX10_fewestSorts_60 ?_
  refine lv_iand hx hb dX10_fewestSorts_61 ?_
  refine zz_leti h (fun v3 h => ?_)
  refine lv_istore (lv' := [(4, .int v3), (3, .int v1), (0, .ref (ad 26)), (1, .int x1), (2, .int x2)]) hx hb dX10_fewestSorts_62 hl (by decide) rfl (fun ls hl => ?_)
  refine lv_aload_n hx hb dX10_fewestSorts_64 rfl (lv_at hl 2 rfl) ?_
  refine lv_iload_n hx hb dX10_fewestSorts_65 rfl (lv_at hl 3 rfl) ?_
  refine zz_callVi (As := [.int x1]) C hW h (fun r hr => c_X10_canAllShare_26 hr) lk_X10_88 (hW.recv xr_26) rfl hl.1 ⟨rfl, rfl⟩ ⟨by dsimp only [zR]; omega, by dsimp only [zR]; omega⟩ (Nat.le_of_ble_eq_true rfl) ⟨Nat.zero_le _, Nat.zero_le _⟩ rfl dX10_fewestSorts_66 (fun v5 S4 H locs h hW => ?_)
  refine zz_ieq (tgt := 76) C h dX10_fewestSorts_69 (by decide) (fun h => ?_) (fun h => ?_)
  · refine lv_iconst (v := 1) hx hb dX10_fewestSorts_76 (by decide) ?_
    refine lv_aload_n hx hb dX10_fewestSorts_77 rfl (lv_at hl 2 rfl) ?_
    refine lv_iload_n hx hb dX10_fewestSorts_78 rfl (lv_at hl 1 rfl) ?_
    refine zz_callVi (As := [.int v1]) C hW h (fun r hr => hslf _ _ r hr) lk_X10_77 (hW.recv xr_26) rfl hl.1 ⟨rfl, rfl⟩ ⟨by dsimp only [zR]; omega, by dsimp only [zR]; omega⟩ (Nat.le_of_ble_eq_true rfl) ⟨Nat.zero_le _, Nat.zero_le _⟩ rfl dX10_fewestSorts_79 (fun v7 S6 H locs h hW => ?_)
    refine lv_iadd hx hb dX10_fewestSorts_82 ?_
    exact w_X10_fewestSorts_26_b83 (F := F) C hslf h hW (lv_sub hl [2, 3, 1, 0] rfl)
  · refine lv_iconst (v := 1) hx hb dX10_fewestSorts_72 (by decide) ?_
    refine lv_goto (tgt := 83) hx hb dX10_fewestSorts_73 (by decide) ?_
    exact w_X10_fewestSorts_26_b83 (F := F) C hslf h hW (lv_sub hl [2, 3, 1, 0] rfl)
def n_X10_fewestSorts_26_b24_l (F : Nat) (slf : Zs → Int32 → Option (Int32 × Zs)) (rc24 : Zs → Int32 → Int32 → Option (Int32 × Zs)) (S : Zs) (x1 : Int32) (x2 : Int32) : Option (Int32 × Zs) :=
  if (11 : Int32) ≤ x2 then (n_X10_fewestSorts_26_b44 F slf  S x1 x2) else (if ((x1 >>> (x2 &&& 31)) &&& (1 : Int32)) = 0 then (zlet (x2 + (1 : Int32)) (fun v1 => rc24 S x1 v1)) else (n_X10_fewestSorts_26_b44 F slf  S x1 x2))
set_option maxRecDepth 20000 in
set_option maxHeartbeats 4000000 in
theorem w_X10_fewestSorts_26_b24_l {F : Nat} {q : (Int32 × Zs)} {S : Zs} {rc24 : Zs → Int32 → Int32 → Option (Int32 × Zs)} {x1 : Int32} {x2 : Int32} {ls : Array Slot} {H : Heap} {locs : List Loc} {d : Nat} {slf : Zs → Int32 → Option (Int32 × Zs)} (C : zC p s m args meth c cX10_fewestSorts 7 RX10 (some .int)) (hslf : ∀ (S : Zs) (x1 : Int32) (r : (Int32 × Zs)), slf S x1 = some r → zMi l yX10_fewestSorts cX10_fewestSorts 7 (some .int) (zR (1 + d) (22 + 26 * d)) (xG D cs ad) [.ref (ad 26), .int x1] S r) (hrc24 : ∀ (S : Zs) (x1 : Int32) (x2 : Int32) (H : Heap) (locs : List Loc) (ls : Array Slot), rc24 S x1 x2 = some q → zW (xG D cs ad) s S H locs → lv_has ls 7 [(0, .ref (ad 26)), (1, .int x1), (2, .int x2)] → W p l e (zR (1 + (d + 1)) (22 + 26 * (d + 1))) s m args below meth c H locs 0 0 (zQi (xG D cs ad) q below args s) (F0 m 24 ls [])) (h : n_X10_fewestSorts_26_b24_l F slf rc24 S x1 x2 = some q) (hW : zW (xG D cs ad) s S H locs) (hl : lv_has ls 7 [(0, .ref (ad 26)), (1, .int x1), (2, .int x2)]) : W p l e (zR (1 + (d + 1)) (22 + 26 * (d + 1))) s m args below meth c H locs 0 0 (zQi (xG D cs ad) q below args s) (F0 m 24 ls []) := by
  unfold n_X10_fewestSorts_26_b24_l at h
  obtain ⟨hx, hb, hml, hown, hts, hret, hlk⟩ := id C
  refine lv_iload_n hx hb dX10_fewestSorts_24 rfl (lv_at hl 2 rfl) ?_
  refine lv_bipush (v := 11) hx hb dX10_fewestSorts_25 (by decide) ?_
  refine zz_cge (tgt := 44) C h dX10_fewestSorts_27 (by decide) (fun h => ?_) (fun h => ?_)
  · exact w_X10_fewestSorts_26_b44 (F := F) C hslf h hW (lv_sub hl [0, 1, 2] rfl)
  · refine lv_iload_n hx hb dX10_fewestSorts_30 rfl (lv_at hl 1 rfl) ?_
    refine lv_iload_n hx hb dX10_fewestSorts_31 rfl (lv_at hl 2 rfl) ?_
    refine lv_ishr hx hb dX10_fewestSorts_32 ?_
    refine lv_iconst (v := 1) hx hb dX10_fewestSorts_33 (by decide) ?_
    refine lv_iand hx hb dX10_fewestSorts_34 ?_
    refine zz_ine (tgt := 44) C h dX10_fewestSorts_35 (by decide) (fun h => ?_) (fun h => ?_)
    · exact w_X10_fewestSorts_26_b44 (F := F) C hslf h hW (lv_sub hl [0, 1, 2] rfl)
    · obtain ⟨v1, ev1, h⟩ := zz_name h
      refine lv_iinc (v := v1) (lv' := [(2, .int v1), (0, .ref (ad 26)), (1, .int x1)]) hx hb dX10_fewestSorts_38 hl (k := 2) rfl ev1.symm (by decide) rfl (fun ls hl => ?_)
      refine lv_goto (tgt := 24) hx hb dX10_fewestSorts_41 (by decide) ?_
      exact hrc24 _ _ _ _ _ _ h hW (lv_sub hl [1, 2, 0] rfl)
def n_X10_fewestSorts_26_b24 (F : Nat) (slf : Zs → Int32 → Option (Int32 × Zs))  (S : Zs) (x1 : Int32) (x2 : Int32) : Option (Int32 × Zs) :=
  zfix (fun (rc : (Zs × Int32 × Int32) → Option (Int32 × Zs)) (u : (Zs × Int32 × Int32)) => n_X10_fewestSorts_26_b24_l F slf  (fun S x1 x2 => rc (S, x1, x2)) u.1 u.2.1 u.2.2) F (S, x1, x2)
theorem w_X10_fewestSorts_26_b24 {F : Nat} {q : (Int32 × Zs)}  {d : Nat} {slf : Zs → Int32 → Option (Int32 × Zs)} (C : zC p s m args meth c cX10_fewestSorts 7 RX10 (some .int)) (hslf : ∀ (S : Zs) (x1 : Int32) (r : (Int32 × Zs)), slf S x1 = some r → zMi l yX10_fewestSorts cX10_fewestSorts 7 (some .int) (zR (1 + d) (22 + 26 * d)) (xG D cs ad) [.ref (ad 26), .int x1] S r)  : ∀ (n : Nat) (S : Zs) (x1 : Int32) (x2 : Int32) (H : Heap) (locs : List Loc) (ls : Array Slot), zfix (fun (rc : (Zs × Int32 × Int32) → Option (Int32 × Zs)) (u : (Zs × Int32 × Int32)) => n_X10_fewestSorts_26_b24_l F slf  (fun S x1 x2 => rc (S, x1, x2)) u.1 u.2.1 u.2.2) n (S, x1, x2) = some q → zW (xG D cs ad) s S H locs → lv_has ls 7 [(0, .ref (ad 26)), (1, .int x1), (2, .int x2)] → W p l e (zR (1 + (d + 1)) (22 + 26 * (d + 1))) s m args below meth c H locs 0 0 (zQi (xG D cs ad) q below args s) (F0 m 24 ls []) := by
  intro n
  induction n with
  | zero => intro S x1 x2 H locs ls h; exact absurd h (fun h => by cases h)
  | succ n ih => intro S x1 x2 H locs ls h hW hl; exact w_X10_fewestSorts_26_b24_l (F := F) C hslf (fun S x1 x2 H locs ls h hW hl => ih S x1 x2 H locs ls h hW hl) h hW hl
def n_X10_fewestSorts_26_e (F : Nat) (slf : Zs → Int32 → Option (Int32 × Zs))  (S : Zs) (x1 : Int32) : Option (Int32 × Zs) :=
  if x1 = 0 then (some ((0 : Int32), S)) else (zld S 29 4096 x1 (fun v1 => if v1 = 0 then (n_X10_fewestSorts_26_b24 F slf  S x1 (0 : Int32)) else (zld S 29 4096 x1 (fun v2 => some (v2, S)))))
set_option maxRecDepth 20000 in
set_option maxHeartbeats 4000000 in
theorem w_X10_fewestSorts_26_e {F : Nat} {q : (Int32 × Zs)} {S : Zs}  {x1 : Int32} {ls : Array Slot} {H : Heap} {locs : List Loc} {d : Nat} {slf : Zs → Int32 → Option (Int32 × Zs)} (C : zC p s m args meth c cX10_fewestSorts 7 RX10 (some .int)) (hslf : ∀ (S : Zs) (x1 : Int32) (r : (Int32 × Zs)), slf S x1 = some r → zMi l yX10_fewestSorts cX10_fewestSorts 7 (some .int) (zR (1 + d) (22 + 26 * d)) (xG D cs ad) [.ref (ad 26), .int x1] S r)  (h : n_X10_fewestSorts_26_e F slf  S x1 = some q) (hW : zW (xG D cs ad) s S H locs) (hl : lv_has ls 7 [(0, .ref (ad 26)), (1, .int x1)]) : W p l e (zR (1 + (d + 1)) (22 + 26 * (d + 1))) s m args below meth c H locs 0 0 (zQi (xG D cs ad) q below args s) (F0 m 0 ls []) := by
  unfold n_X10_fewestSorts_26_e at h
  obtain ⟨hx, hb, hml, hown, hts, hret, hlk⟩ := id C
  refine lv_iload_n hx hb dX10_fewestSorts_0 rfl (lv_at hl 1 rfl) ?_
  refine zz_ine (tgt := 6) C h dX10_fewestSorts_1 (by decide) (fun h => ?_) (fun h => ?_)
  · refine lv_aload_n hx hb dX10_fewestSorts_6 rfl (lv_at hl 0 rfl) ?_
    refine xg_26_5 C hW fl_X10_18 dX10_fewestSorts_7 ?_
    refine lv_iload_n hx hb dX10_fewestSorts_10 rfl (lv_at hl 1 rfl) ?_
    refine xl_29 C hW h dX10_fewestSorts_11 (fun v1 h => ?_)
    refine zz_ieq (tgt := 22) C h dX10_fewestSorts_12 (by decide) (fun h => ?_) (fun h => ?_)
    · refine lv_iconst (v := 0) hx hb dX10_fewestSorts_22 (by decide) ?_
      refine lv_istore_n (lv' := [(2, .int (0 : Int32)), (0, .ref (ad 26)), (1, .int x1)]) hx hb dX10_fewestSorts_23 rfl hl (by decide) rfl (fun ls hl => ?_)
      exact w_X10_fewestSorts_26_b24 (F := F) C hslf F _ _ _ _ _ _ h hW (lv_sub hl [1, 2, 0] rfl)
    · refine lv_aload_n hx hb dX10_fewestSorts_15 rfl (lv_at hl 0 rfl) ?_
      refine xg_26_5 C hW fl_X10_18 dX10_fewestSorts_16 ?_
      refine lv_iload_n hx hb dX10_fewestSorts_19 rfl (lv_at hl 1 rfl) ?_
      refine xl_29 C hW h dX10_fewestSorts_20 (fun v2 h => ?_)
      exact zz_iret C rfl h hW dX10_fewestSorts_21
  · refine lv_iconst (v := 0) hx hb dX10_fewestSorts_4 (by decide) ?_
    exact zz_iret C rfl h hW dX10_fewestSorts_5
def n_X10_fewestSorts_26_r (F d : Nat) (S : Zs) (x1 : Int32) : Option (Int32 × Zs) := zfix (fun (rc : (Zs × Int32) → Option (Int32 × Zs)) (u : (Zs × Int32)) => n_X10_fewestSorts_26_e F (fun S x1 => rc (S, x1))  u.1 u.2) d (S, x1)
theorem c_X10_fewestSorts_26_r {l : Launch} {D : va_G} {cs ad : Nat → Nat} {F : Nat} {q : (Int32 × Zs)} : ∀ (d : Nat) (S : Zs) (x1 : Int32), n_X10_fewestSorts_26_r F d S x1 = some q → zMi l yX10_fewestSorts cX10_fewestSorts 7 (some .int) (zR (1 + d) (22 + 26 * d)) (xG D cs ad) [.ref (ad 26), .int x1] S q := by
  intro d
  induction d generalizing q with
  | zero => intro S x1 h; cases h
  | succ d ih => intro S x1 h; exact zz_enter (by decide) (Nat.le_of_ble_eq_true rfl) (fun p e s m below meth c ls C hW hl => w_X10_fewestSorts_26_e (F := F) C (fun S x1 r h => ih S x1 h) h hW (lv_sub hl [0, 1] rfl))
def n_X10_fewestSorts_26 (F : Nat) (S : Zs) (x1 : Int32) : Option (Int32 × Zs) := n_X10_fewestSorts_26_r F 16 S x1
theorem c_X10_fewestSorts_26 {l : Launch} {D : va_G} {cs ad : Nat → Nat} {F : Nat} {S : Zs} {x1 : Int32} {q : (Int32 × Zs)} (h : n_X10_fewestSorts_26 F S x1 = some q) : zMi l yX10_fewestSorts cX10_fewestSorts 7 (some .int) (zR (1 + 16) (22 + 26 * 16)) (xG D cs ad) [.ref (ad 26), .int x1] S q := c_X10_fewestSorts_26_r 16 S x1 h
def n_X0_isOf_b18 (F : Nat)  (S : Zs) (t0 : Int32) : Option (Int32 × Zs) :=
  zrb t0 S
set_option maxRecDepth 20000 in
set_option maxHeartbeats 4000000 in
theorem w_X0_isOf_b18 {F : Nat} {q : (Int32 × Zs)} {S : Zs}  {t0 : Int32} {ls : Array Slot} {H : Heap} {locs : List Loc} (C : zC p s m args meth c cX0_isOf 2 RX0 (some .boolean))  (h : n_X0_isOf_b18 F  S t0 = some q) (hW : zW (xG D cs ad) s S H locs) (hl : lv_has ls 2 []) : W p l e (zR 0 0) s m args below meth c H locs 0 0 (zQi (xG D cs ad) q below args s) (F0 m 18 ls [.int t0]) := by
  unfold n_X0_isOf_b18 at h
  obtain ⟨hx, hb, hml, hown, hts, hret, hlk⟩ := id C
  exact zz_zret C rfl h hW dX0_isOf_18
def n_X0_isOf_e (F : Nat)  (S : Zs) (x0 : Int32) (x1 : Int32) : Option (Int32 × Zs) :=
  if ((x0 >>> ((x1 >>> ((1 : Int32) &&& 31)) &&& 31)) &&& (1 : Int32)) = (x1 &&& (1 : Int32)) then (n_X0_isOf_b18 F  S (0 : Int32)) else (n_X0_isOf_b18 F  S (1 : Int32))
set_option maxRecDepth 20000 in
set_option maxHeartbeats 4000000 in
theorem w_X0_isOf_e {F : Nat} {q : (Int32 × Zs)} {S : Zs}  {x0 : Int32} {x1 : Int32} {ls : Array Slot} {H : Heap} {locs : List Loc} (C : zC p s m args meth c cX0_isOf 2 RX0 (some .boolean))  (h : n_X0_isOf_e F  S x0 x1 = some q) (hW : zW (xG D cs ad) s S H locs) (hl : lv_has ls 2 [(0, .int x0), (1, .int x1)]) : W p l e (zR 0 0) s m args below meth c H locs 0 0 (zQi (xG D cs ad) q below args s) (F0 m 0 ls []) := by
  unfold n_X0_isOf_e at h
  obtain ⟨hx, hb, hml, hown, hts, hret, hlk⟩ := id C
  refine lv_iload_n hx hb dX0_isOf_0 rfl (lv_at hl 0 rfl) ?_
  refine lv_iload_n hx hb dX0_isOf_1 rfl (lv_at hl 1 rfl) ?_
  refine lv_iconst (v := 1) hx hb dX0_isOf_2 (by decide) ?_
  refine lv_ishr hx hb dX0_isOf_3 ?_
  refine lv_ishr hx hb dX0_isOf_4 ?_
  refine lv_iconst (v := 1) hx hb dX0_isOf_5 (by decide) ?_
  refine lv_iand hx hb dX0_isOf_6 ?_
  refine lv_iload_n hx hb dX0_isOf_7 rfl (lv_at hl 1 rfl) ?_
  refine lv_iconst (v := 1) hx hb dX0_isOf_8 (by decide) ?_
  refine lv_iand hx hb dX0_isOf_9 ?_
  refine zz_ceq (tgt := 17) C h dX0_isOf_10 (by decide) (fun h => ?_) (fun h => ?_)
  · refine lv_iconst (v := 0) hx hb dX0_isOf_17 (by decide) ?_
    exact w_X0_isOf_b18 (F := F) C h hW (lv_sub hl [] rfl)
  · refine lv_iconst (v := 1) hx hb dX0_isOf_13 (by decide) ?_
    refine lv_goto (tgt := 18) hx hb dX0_isOf_14 (by decide) ?_
    exact w_X0_isOf_b18 (F := F) C h hW (lv_sub hl [] rfl)
def n_X0_isOf (F : Nat) (S : Zs) (x0 : Int32) (x1 : Int32) : Option (Int32 × Zs) := n_X0_isOf_e F  S x0 x1
theorem c_X0_isOf {l : Launch} {D : va_G} {cs ad : Nat → Nat} {F : Nat} {S : Zs} {x0 : Int32} {x1 : Int32} {q : (Int32 × Zs)} (h : n_X0_isOf F S x0 x1 = some q) : zMi l yX0_isOf cX0_isOf 2 (some .boolean) (zR 0 0) (xG D cs ad) [.int x0, .int x1] S q :=
  zz_enter (by decide) (Nat.le_of_ble_eq_true rfl) (fun p e s m below meth c ls C hW hl => w_X0_isOf_e (F := F) C h hW (lv_sub hl [0, 1] rfl))
def n_X9_metBy_18_b44 (F : Nat) (rc4 : Zs → Int32 → Int32 → Int32 → Option (Int32 × Zs)) (S : Zs) (x1 : Int32) (x2 : Int32) (x3 : Int32) : Option (Int32 × Zs) :=
  zlet (x3 + (1 : Int32)) (fun v1 => rc4 S x1 x2 v1)
set_option maxRecDepth 20000 in
set_option maxHeartbeats 4000000 in
theorem w_X9_metBy_18_b44 {F : Nat} {q : (Int32 × Zs)} {S : Zs} {rc4 : Zs → Int32 → Int32 → Int32 → Option (Int32 × Zs)} {x1 : Int32} {x2 : Int32} {x3 : Int32} {ls : Array Slot} {H : Heap} {locs : List Loc} (C : zC p s m args meth c cX9_metBy 4 RX9 (some .int)) (hrc4 : ∀ (S : Zs) (x1 : Int32) (x2 : Int32) (x3 : Int32) (H : Heap) (locs : List Loc) (ls : Array Slot), rc4 S x1 x2 x3 = some q → zW (xG D cs ad) s S H locs → lv_has ls 4 [(0, .ref (ad 18)), (1, .int x1), (2, .int x2), (3, .int x3)] → W p l e (zR 1 21) s m args below meth c H locs 0 0 (zQi (xG D cs ad) q below args s) (F0 m 4 ls [])) (h : n_X9_metBy_18_b44 F rc4 S x1 x2 x3 = some q) (hW : zW (xG D cs ad) s S H locs) (hl : lv_has ls 4 [(0, .ref (ad 18)), (1, .int x1), (2, .int x2), (3, .int x3)]) : W p l e (zR 1 21) s m args below meth c H locs 0 0 (zQi (xG D cs ad) q below args s) (F0 m 44 ls []) := by
  unfold n_X9_metBy_18_b44 at h
  obtain ⟨hx, hb, hml, hown, hts, hret, hlk⟩ := id C
  obtain ⟨v1, ev1, h⟩ := zz_name h
  refine lv_iinc (v := v1) (lv' := [(3, .int v1), (0, .ref (ad 18)), (1, .int x1), (2, .int x2)]) hx hb dX9_metBy_44 hl (k := 3) rfl ev1.symm (by decide) rfl (fun ls hl => ?_)
  refine lv_goto (tgt := 4) hx hb dX9_metBy_47 (by decide) ?_
  exact hrc4 _ _ _ _ _ _ _ h hW (lv_sub hl [1, 2, 3, 0] rfl)
def n_X9_metBy_18_b4_l (F : Nat) (rc4 : Zs → Int32 → Int32 → Int32 → Option (Int32 × Zs)) (S : Zs) (x1 : Int32) (x2 : Int32) (x3 : Int32) : Option (Int32 × Zs) :=
  zgf S 363 (fun v1 => if v1 ≤ x3 then (some (x2, S)) else (zld S 20 29 x3 (fun v2 => zcl (n_X0_isOf F S x1 v2) (fun v4 S3 => if v4 = 0 then (n_X9_metBy_18_b44 F rc4 S3 x1 x2 x3) else (zld S3 21 29 x3 (fun v5 => zcl (n_X0_isOf F S3 x1 v5) (fun v7 S6 => if v7 = 0 then (n_X9_metBy_18_b44 F rc4 S6 x1 x2 x3) else (zlet (x2 ||| ((1 : Int32) <<< (x3 &&& 31))) (fun v8 => n_X9_metBy_18_b44 F rc4 S6 x1 v8 x3)))))))))
set_option maxRecDepth 20000 in
set_option maxHeartbeats 4000000 in
theorem w_X9_metBy_18_b4_l {F : Nat} {q : (Int32 × Zs)} {S : Zs} {rc4 : Zs → Int32 → Int32 → Int32 → Option (Int32 × Zs)} {x1 : Int32} {x2 : Int32} {x3 : Int32} {ls : Array Slot} {H : Heap} {locs : List Loc} (C : zC p s m args meth c cX9_metBy 4 RX9 (some .int)) (hrc4 : ∀ (S : Zs) (x1 : Int32) (x2 : Int32) (x3 : Int32) (H : Heap) (locs : List Loc) (ls : Array Slot), rc4 S x1 x2 x3 = some q → zW (xG D cs ad) s S H locs → lv_has ls 4 [(0, .ref (ad 18)), (1, .int x1), (2, .int x2), (3, .int x3)] → W p l e (zR 1 21) s m args below meth c H locs 0 0 (zQi (xG D cs ad) q below args s) (F0 m 4 ls [])) (h : n_X9_metBy_18_b4_l F rc4 S x1 x2 x3 = some q) (hW : zW (xG D cs ad) s S H locs) (hl : lv_has ls 4 [(0, .ref (ad 18)), (1, .int x1), (2, .int x2), (3, .int x3)]) : W p l e (zR 1 21) s m args below meth c H locs 0 0 (zQi (xG D cs ad) q below args s) (F0 m 4 ls []) := by
  unfold n_X9_metBy_18_b4_l at h
  obtain ⟨hx, hb, hml, hown, hts, hret, hlk⟩ := id C
  refine lv_iload_n hx hb dX9_metBy_4 rfl (lv_at hl 3 rfl) ?_
  refine lv_aload_n hx hb dX9_metBy_5 rfl (lv_at hl 0 rfl) ?_
  refine xg_18_3 C hW h fl_X9_21 dX9_metBy_6 (fun v1 h => ?_)
  refine zz_cge (tgt := 50) C h dX9_metBy_9 (by decide) (fun h => ?_) (fun h => ?_)
  · refine lv_iload_n hx hb dX9_metBy_50 rfl (lv_at hl 2 rfl) ?_
    exact zz_iret C rfl h hW dX9_metBy_51
  · refine lv_iload_n hx hb dX9_metBy_12 rfl (lv_at hl 1 rfl) ?_
    refine lv_aload_n hx hb dX9_metBy_13 rfl (lv_at hl 0 rfl) ?_
    refine xg_18_1 C hW fl_X9_15 dX9_metBy_14 ?_
    refine lv_iload_n hx hb dX9_metBy_17 rfl (lv_at hl 3 rfl) ?_
    refine xl_20 C hW h dX9_metBy_18 (fun v2 h => ?_)
    refine zz_callSi (As := [.int x1, .int v2]) C hW h (fun r hr => c_X0_isOf hr) lk_X9_54 rfl hl.1 ⟨rfl, rfl⟩ ⟨Nat.le_of_ble_eq_true rfl, Nat.le_of_ble_eq_true rfl⟩ (Nat.le_of_ble_eq_true rfl) ⟨Nat.zero_le _, Nat.zero_le _⟩ rfl dX9_metBy_19 (fun v4 S3 H locs h hW => ?_)
    refine zz_ieq (tgt := 44) C h dX9_metBy_22 (by decide) (fun h => ?_) (fun h => ?_)
    · exact w_X9_metBy_18_b44 (F := F) C hrc4 h hW (lv_sub hl [0, 1, 2, 3] rfl)
    · refine lv_iload_n hx hb dX9_metBy_25 rfl (lv_at hl 1 rfl) ?_
      refine lv_aload_n hx hb dX9_metBy_26 rfl (lv_at hl 0 rfl) ?_
      refine xg_18_2 C hW fl_X9_18 dX9_metBy_27 ?_
      refine lv_iload_n hx hb dX9_metBy_30 rfl (lv_at hl 3 rfl) ?_
      refine xl_21 C hW h dX9_metBy_31 (fun v5 h => ?_)
      refine zz_callSi (As := [.int x1, .int v5]) C hW h (fun r hr => c_X0_isOf hr) lk_X9_54 rfl hl.1 ⟨rfl, rfl⟩ ⟨Nat.le_of_ble_eq_true rfl, Nat.le_of_ble_eq_true rfl⟩ (Nat.le_of_ble_eq_true rfl) ⟨Nat.zero_le _, Nat.zero_le _⟩ rfl dX9_metBy_32 (fun v7 S6 H locs h hW => ?_)
      refine zz_ieq (tgt := 44) C h dX9_metBy_35 (by decide) (fun h => ?_) (fun h => ?_)
      · exact w_X9_metBy_18_b44 (F := F) C hrc4 h hW (lv_sub hl [0, 1, 2, 3] rfl)
      · refine lv_iload_n hx hb dX9_metBy_38 rfl (lv_at hl 2 rfl) ?_
        refine lv_iconst (v := 1) hx hb dX9_metBy_39 (by decide) ?_
        refine lv_iload_n hx hb dX9_metBy_40 rfl (lv_at hl 3 rfl) ?_
        refine lv_ishl hx hb dX9_metBy_41 ?_
        refine lv_ior hx hb dX9_metBy_42 ?_
        refine zz_leti h (fun v8 h => ?_)
        refine lv_istore_n (lv' := [(2, .int v8), (0, .ref (ad 18)), (1, .int x1), (3, .int x3)]) hx hb dX9_metBy_43 rfl hl (by decide) rfl (fun ls hl => ?_)
        exact w_X9_metBy_18_b44 (F := F) C hrc4 h hW (lv_sub hl [1, 2, 0, 3] rfl)
def n_X9_metBy_18_b4 (F : Nat)  (S : Zs) (x1 : Int32) (x2 : Int32) (x3 : Int32) : Option (Int32 × Zs) :=
  zfix (fun (rc : (Zs × Int32 × Int32 × Int32) → Option (Int32 × Zs)) (u : (Zs × Int32 × Int32 × Int32)) => n_X9_metBy_18_b4_l F  (fun S x1 x2 x3 => rc (S, x1, x2, x3)) u.1 u.2.1 u.2.2.1 u.2.2.2) F (S, x1, x2, x3)
theorem w_X9_metBy_18_b4 {F : Nat} {q : (Int32 × Zs)}  (C : zC p s m args meth c cX9_metBy 4 RX9 (some .int))  : ∀ (n : Nat) (S : Zs) (x1 : Int32) (x2 : Int32) (x3 : Int32) (H : Heap) (locs : List Loc) (ls : Array Slot), zfix (fun (rc : (Zs × Int32 × Int32 × Int32) → Option (Int32 × Zs)) (u : (Zs × Int32 × Int32 × Int32)) => n_X9_metBy_18_b4_l F  (fun S x1 x2 x3 => rc (S, x1, x2, x3)) u.1 u.2.1 u.2.2.1 u.2.2.2) n (S, x1, x2, x3) = some q → zW (xG D cs ad) s S H locs → lv_has ls 4 [(0, .ref (ad 18)), (1, .int x1), (2, .int x2), (3, .int x3)] → W p l e (zR 1 21) s m args below meth c H locs 0 0 (zQi (xG D cs ad) q below args s) (F0 m 4 ls []) := by
  intro n
  induction n with
  | zero => intro S x1 x2 x3 H locs ls h; exact absurd h (fun h => by cases h)
  | succ n ih => intro S x1 x2 x3 H locs ls h hW hl; exact w_X9_metBy_18_b4_l (F := F) C (fun S x1 x2 x3 H locs ls h hW hl => ih S x1 x2 x3 H locs ls h hW hl) h hW hl
def n_X9_metBy_18_e (F : Nat)  (S : Zs) (x1 : Int32) : Option (Int32 × Zs) :=
  n_X9_metBy_18_b4 F  S x1 (0 : Int32) (0 : Int32)
set_option maxRecDepth 20000 in
set_option maxHeartbeats 4000000 in
theorem w_X9_metBy_18_e {F : Nat} {q : (Int32 × Zs)} {S : Zs}  {x1 : Int32} {ls : Array Slot} {H : Heap} {locs : List Loc} (C : zC p s m args meth c cX9_metBy 4 RX9 (some .int))  (h : n_X9_metBy_18_e F  S x1 = some q) (hW : zW (xG D cs ad) s S H locs) (hl : lv_has ls 4 [(0, .ref (ad 18)), (1, .int x1)]) : W p l e (zR 1 21) s m args below meth c H locs 0 0 (zQi (xG D cs ad) q below args s) (F0 m 0 ls []) := by
  unfold n_X9_metBy_18_e at h
  obtain ⟨hx, hb, hml, hown, hts, hret, hlk⟩ := id C
  refine lv_iconst (v := 0) hx hb dX9_metBy_0 (by decide) ?_
  refine lv_istore_n (lv' := [(2, .int (0 : Int32)), (0, .ref (ad 18)), (1, .int x1)]) hx hb dX9_metBy_1 rfl hl (by decide) rfl (fun ls hl => ?_)
  refine lv_iconst (v := 0) hx hb dX9_metBy_2 (by decide) ?_
  refine lv_istore_n (lv' := [(3, .int (0 : Int32)), (2, .int (0 : Int32)), (0, .ref (ad 18)), (1, .int x1)]) hx hb dX9_metBy_3 rfl hl (by decide) rfl (fun ls hl => ?_)
  exact w_X9_metBy_18_b4 (F := F) C F _ _ _ _ _ _ _ h hW (lv_sub hl [2, 3, 1, 0] rfl)
def n_X9_metBy_18 (F : Nat) (S : Zs) (x1 : Int32) : Option (Int32 × Zs) := n_X9_metBy_18_e F  S x1
theorem c_X9_metBy_18 {l : Launch} {D : va_G} {cs ad : Nat → Nat} {F : Nat} {S : Zs} {x1 : Int32} {q : (Int32 × Zs)} (h : n_X9_metBy_18 F S x1 = some q) : zMi l yX9_metBy cX9_metBy 4 (some .int) (zR 1 21) (xG D cs ad) [.ref (ad 18), .int x1] S q :=
  zz_enter (by decide) (Nat.le_of_ble_eq_true rfl) (fun p e s m below meth c ls C hW hl => w_X9_metBy_18_e (F := F) C h hW (lv_sub hl [0, 1] rfl))
def n_X10_choose_26_18_b110 (F : Nat)  (S : Zs) (x4 : Int32) : Option (Int32 × Zs) :=
  some (x4, S)
set_option maxRecDepth 20000 in
set_option maxHeartbeats 4000000 in
theorem w_X10_choose_26_18_b110 {F : Nat} {q : (Int32 × Zs)} {S : Zs}  {x4 : Int32} {ls : Array Slot} {H : Heap} {locs : List Loc} (C : zC p s m args meth c cX10_choose 7 RX10 (some .int))  (h : n_X10_choose_26_18_b110 F  S x4 = some q) (hW : zW (xG D cs ad) s S H locs) (hl : lv_has ls 7 [(4, .int x4)]) : W p l e (zR 18 464) s m args below meth c H locs 0 0 (zQi (xG D cs ad) q below args s) (F0 m 110 ls []) := by
  unfold n_X10_choose_26_18_b110 at h
  obtain ⟨hx, hb, hml, hown, hts, hret, hlk⟩ := id C
  refine lv_iload hx hb dX10_choose_110 (lv_at hl 0 rfl) ?_
  exact zz_iret C rfl h hW dX10_choose_112
def n_X10_choose_26_18_b104 (F : Nat) (rc21 : Zs → Int32 → Int32 → Int32 → Int32 → Option (Int32 × Zs)) (S : Zs) (x2 : Int32) (x3 : Int32) (x4 : Int32) (x5 : Int32) : Option (Int32 × Zs) :=
  zlet (x5 + (1 : Int32)) (fun v1 => rc21 S x2 x3 x4 v1)
set_option maxRecDepth 20000 in
set_option maxHeartbeats 4000000 in
theorem w_X10_choose_26_18_b104 {F : Nat} {q : (Int32 × Zs)} {S : Zs} {rc21 : Zs → Int32 → Int32 → Int32 → Int32 → Option (Int32 × Zs)} {x2 : Int32} {x3 : Int32} {x4 : Int32} {x5 : Int32} {ls : Array Slot} {H : Heap} {locs : List Loc} (C : zC p s m args meth c cX10_choose 7 RX10 (some .int)) (hrc21 : ∀ (S : Zs) (x2 : Int32) (x3 : Int32) (x4 : Int32) (x5 : Int32) (H : Heap) (locs : List Loc) (ls : Array Slot), rc21 S x2 x3 x4 x5 = some q → zW (xG D cs ad) s S H locs → lv_has ls 7 [(0, .ref (ad 26)), (1, .ref (ad 18)), (2, .int x2), (3, .int x3), (4, .int x4), (5, .int x5)] → W p l e (zR 18 464) s m args below meth c H locs 0 0 (zQi (xG D cs ad) q below args s) (F0 m 21 ls [])) (h : n_X10_choose_26_18_b104 F rc21 S x2 x3 x4 x5 = some q) (hW : zW (xG D cs ad) s S H locs) (hl : lv_has ls 7 [(0, .ref (ad 26)), (1, .ref (ad 18)), (2, .int x2), (3, .int x3), (4, .int x4), (5, .int x5)]) : W p l e (zR 18 464) s m args below meth c H locs 0 0 (zQi (xG D cs ad) q below args s) (F0 m 104 ls []) := by
  unfold n_X10_choose_26_18_b104 at h
  obtain ⟨hx, hb, hml, hown, hts, hret, hlk⟩ := id C
  obtain ⟨v1, ev1, h⟩ := zz_name h
  refine lv_iinc (v := v1) (lv' := [(5, .int v1), (0, .ref (ad 26)), (1, .ref (ad 18)), (2, .int x2), (3, .int x3), (4, .int x4)]) hx hb dX10_choose_104 hl (k := 5) rfl ev1.symm (by decide) rfl (fun ls hl => ?_)
  refine lv_goto (tgt := 21) hx hb dX10_choose_107 (by decide) ?_
  exact hrc21 _ _ _ _ _ _ _ _ h hW (lv_sub hl [1, 2, 3, 4, 5, 0] rfl)
def n_X10_choose_26_18_b59 (F : Nat) (rc21 : Zs → Int32 → Int32 → Int32 → Int32 → Option (Int32 × Zs)) (S : Zs) (x2 : Int32) (x3 : Int32) (x4 : Int32) (x5 : Int32) (t0 : Int32) : Option (Int32 × Zs) :=
  if t0 = 0 then (n_X10_choose_26_18_b104 F rc21 S x2 x3 x4 x5) else (zcl (n_X10_fewestSorts_26 F S (x2 &&& (t0 ^^^ (-1 : Int32)))) (fun v2 S1 => if v2 = ((x3 - x4) - (1 : Int32)) then (zst S1 27 12 x4 x5 (fun S3 => zlet (x4 + (1 : Int32)) (fun v4 => zlet (x2 &&& (t0 ^^^ (-1 : Int32))) (fun v5 => n_X10_choose_26_18_b104 F rc21 S3 v5 x3 v4 x5)))) else (n_X10_choose_26_18_b104 F rc21 S1 x2 x3 x4 x5)))
set_option maxRecDepth 20000 in
set_option maxHeartbeats 4000000 in
theorem w_X10_choose_26_18_b59 {F : Nat} {q : (Int32 × Zs)} {S : Zs} {rc21 : Zs → Int32 → Int32 → Int32 → Int32 → Option (Int32 × Zs)} {x2 : Int32} {x3 : Int32} {x4 : Int32} {x5 : Int32} {t0 : Int32} {ls : Array Slot} {H : Heap} {locs : List Loc} (C : zC p s m args meth c cX10_choose 7 RX10 (some .int)) (hrc21 : ∀ (S : Zs) (x2 : Int32) (x3 : Int32) (x4 : Int32) (x5 : Int32) (H : Heap) (locs : List Loc) (ls : Array Slot), rc21 S x2 x3 x4 x5 = some q → zW (xG D cs ad) s S H locs → lv_has ls 7 [(0, .ref (ad 26)), (1, .ref (ad 18)), (2, .int x2), (3, .int x3), (4, .int x4), (5, .int x5)] → W p l e (zR 18 464) s m args below meth c H locs 0 0 (zQi (xG D cs ad) q below args s) (F0 m 21 ls [])) (h : n_X10_choose_26_18_b59 F rc21 S x2 x3 x4 x5 t0 = some q) (hW : zW (xG D cs ad) s S H locs) (hl : lv_has ls 7 [(0, .ref (ad 26)), (1, .ref (ad 18)), (2, .int x2), (3, .int x3), (4, .int x4), (5, .int x5)]) : W p l e (zR 18 464) s m args below meth c H locs 0 0 (zQi (xG D cs ad) q below args s) (F0 m 59 ls [.int t0]) := by
  unfold n_X10_choose_26_18_b59 at h
  obtain ⟨hx, hb, hml, hown, hts, hret, hlk⟩ := id C
  refine lv_istore (lv' := [(6, .int t0), (0, .ref (ad 26)), (1, .ref (ad 18)), (2, .int x2), (3, .int x3), (4, .int x4), (5, .int x5)]) hx hb dX10_choose_59 hl (by decide) rfl (fun ls hl => ?_)
  refine lv_iload hx hb dX10_choose_61 (lv_at hl 0 rfl) ?_
  refine zz_ieq (tgt := 104) C h dX10_choose_63 (by decide) (fun h => ?_) (fun h => ?_)
  · exact w_X10_choose_26_18_b104 (F := F) C hrc21 h hW (lv_sub hl [1, 2, 3, 4, 5, 6] rfl)
  · refine lv_aload_n hx hb dX10_choose_66 rfl (lv_at hl 1 rfl) ?_
    refine lv_iload_n hx hb dX10_choose_67 rfl (lv_at hl 3 rfl) ?_
    refine lv_iload hx hb dX10_choose_68 (lv_at hl 0 rfl) ?_
    refine lv_iconst (v := -1) hx hb dX10_choose_70 (by decide) ?_
    refine lv_ixor hx hb dX10_choose_71 ?_
    refine lv_iand hx hb dX10_choose_72 ?_
    refine zz_callVi (As := [.int (x2 &&& (t0 ^^^ (-1 : Int32)))]) C hW h (fun r hr => c_X10_fewestSorts_26 hr) lk_X10_77 (hW.recv xr_26) rfl hl.1 ⟨rfl, rfl⟩ ⟨Nat.le_of_ble_eq_true rfl, Nat.le_of_ble_eq_true rfl⟩ (Nat.le_of_ble_eq_true rfl) ⟨Nat.zero_le _, Nat.zero_le _⟩ rfl dX10_choose_73 (fun v2 S1 H locs h hW => ?_)
    refine lv_iload_n hx hb dX10_choose_76 rfl (lv_at hl 4 rfl) ?_
    refine lv_iload hx hb dX10_choose_77 (lv_at hl 5 rfl) ?_
    refine lv_isub hx hb dX10_choose_79 ?_
    refine lv_iconst (v := 1) hx hb dX10_choose_80 (by decide) ?_
    refine lv_isub hx hb dX10_choose_81 ?_
    refine zz_cne (tgt := 104) C h dX10_choose_82 (by decide) (fun h => ?_) (fun h => ?_)
    · exact w_X10_choose_26_18_b104 (F := F) C hrc21 h hW (lv_sub hl [1, 2, 3, 4, 5, 6] rfl)
    · refine lv_aload_n hx hb dX10_choose_85 rfl (lv_at hl 1 rfl) ?_
      refine xg_26_3 C hW fl_X10_9 dX10_choose_86 ?_
      refine lv_iload hx hb dX10_choose_89 (lv_at hl 5 rfl) ?_
      refine lv_iload hx hb dX10_choose_91 (lv_at hl 6 rfl) ?_
      refine xs_27 C hW h dX10_choose_93 (fun S3 H locs h hW => ?_)
      obtain ⟨v4, ev4, h⟩ := zz_name h
      refine lv_iinc (v := v4) (lv' := [(4, .int v4), (6, .int t0), (0, .ref (ad 26)), (1, .ref (ad 18)), (2, .int x2), (3, .int x3), (5, .int x5)]) hx hb dX10_choose_94 hl (k := 5) rfl ev4.symm (by decide) rfl (fun ls hl => ?_)
      refine lv_iload_n hx hb dX10_choose_97 rfl (lv_at hl 4 rfl) ?_
      refine lv_iload hx hb dX10_choose_98 (lv_at hl 1 rfl) ?_
      refine lv_iconst (v := -1) hx hb dX10_choose_100 (by decide) ?_
      refine lv_ixor hx hb dX10_choose_101 ?_
      refine lv_iand hx hb dX10_choose_102 ?_
      refine zz_leti h (fun v5 h => ?_)
      refine lv_istore_n (lv' := [(2, .int v5), (4, .int v4), (6, .int t0), (0, .ref (ad 26)), (1, .ref (ad 18)), (3, .int x3), (5, .int x5)]) hx hb dX10_choose_103 rfl hl (by decide) rfl (fun ls hl => ?_)
      exact w_X10_choose_26_18_b104 (F := F) C hrc21 h hW (lv_sub hl [3, 4, 0, 5, 1, 6] rfl)
def n_X10_choose_26_18_b21_l (F : Nat) (rc21 : Zs → Int32 → Int32 → Int32 → Int32 → Option (Int32 × Zs)) (S : Zs) (x2 : Int32) (x3 : Int32) (x4 : Int32) (x5 : Int32) : Option (Int32 × Zs) :=
  if (4096 : Int32) ≤ x5 then (n_X10_choose_26_18_b110 F  S x4) else (if x3 ≤ x4 then (n_X10_choose_26_18_b110 F  S x4) else (zcl (n_X7_has_24 F S x5) (fun v2 S1 => if v2 = 0 then (n_X10_choose_26_18_b59 F rc21 S1 x2 x3 x4 x5 (0 : Int32)) else (zcl (n_X9_metBy_18 F S1 x5) (fun v4 S3 => n_X10_choose_26_18_b59 F rc21 S3 x2 x3 x4 x5 (v4 &&& x2))))))
set_option maxRecDepth 20000 in
set_option maxHeartbeats 4000000 in
theorem w_X10_choose_26_18_b21_l {F : Nat} {q : (Int32 × Zs)} {S : Zs} {rc21 : Zs → Int32 → Int32 → Int32 → Int32 → Option (Int32 × Zs)} {x2 : Int32} {x3 : Int32} {x4 : Int32} {x5 : Int32} {ls : Array Slot} {H : Heap} {locs : List Loc} (C : zC p s m args meth c cX10_choose 7 RX10 (some .int)) (hrc21 : ∀ (S : Zs) (x2 : Int32) (x3 : Int32) (x4 : Int32) (x5 : Int32) (H : Heap) (locs : List Loc) (ls : Array Slot), rc21 S x2 x3 x4 x5 = some q → zW (xG D cs ad) s S H locs → lv_has ls 7 [(0, .ref (ad 26)), (1, .ref (ad 18)), (2, .int x2), (3, .int x3), (4, .int x4), (5, .int x5)] → W p l e (zR 18 464) s m args below meth c H locs 0 0 (zQi (xG D cs ad) q below args s) (F0 m 21 ls [])) (h : n_X10_choose_26_18_b21_l F rc21 S x2 x3 x4 x5 = some q) (hW : zW (xG D cs ad) s S H locs) (hl : lv_has ls 7 [(0, .ref (ad 26)), (1, .ref (ad 18)), (2, .int x2), (3, .int x3), (4, .int x4), (5, .int x5)]) : W p l e (zR 18 464) s m args below meth c H locs 0 0 (zQi (xG D cs ad) q below args s) (F0 m 21 ls []) := by
  unfold n_X10_choose_26_18_b21_l at h
  obtain ⟨hx, hb, hml, hown, hts, hret, hlk⟩ := id C
  refine lv_iload hx hb dX10_choose_21 (lv_at hl 5 rfl) ?_
  refine lv_sipush (v := 4096) hx hb dX10_choose_23 (by decide) ?_
  refine zz_cge (tgt := 110) C h dX10_choose_26 (by decide) (fun h => ?_) (fun h => ?_)
  · exact w_X10_choose_26_18_b110 (F := F) C h hW (lv_sub hl [4] rfl)
  · refine lv_iload hx hb dX10_choose_29 (lv_at hl 4 rfl) ?_
    refine lv_iload_n hx hb dX10_choose_31 rfl (lv_at hl 3 rfl) ?_
    refine zz_cge (tgt := 110) C h dX10_choose_32 (by decide) (fun h => ?_) (fun h => ?_)
    · exact w_X10_choose_26_18_b110 (F := F) C h hW (lv_sub hl [4] rfl)
    · refine lv_aload_n hx hb dX10_choose_35 rfl (lv_at hl 0 rfl) ?_
      refine xg_26_2 C hW fl_X10_30 dX10_choose_36 ?_
      refine lv_iload hx hb dX10_choose_39 (lv_at hl 5 rfl) ?_
      refine zz_callVi (As := [.int x5]) C hW h (fun r hr => c_X7_has_24 hr) lk_X10_81 (hW.recv xr_24) rfl hl.1 ⟨rfl, rfl⟩ ⟨Nat.le_of_ble_eq_true rfl, Nat.le_of_ble_eq_true rfl⟩ (Nat.le_of_ble_eq_true rfl) ⟨Nat.zero_le _, Nat.zero_le _⟩ rfl dX10_choose_41 (fun v2 S1 H locs h hW => ?_)
      refine zz_ieq (tgt := 58) C h dX10_choose_44 (by decide) (fun h => ?_) (fun h => ?_)
      · refine lv_iconst (v := 0) hx hb dX10_choose_58 (by decide) ?_
        exact w_X10_choose_26_18_b59 (F := F) C hrc21 h hW (lv_sub hl [0, 1, 2, 3, 4, 5] rfl)
      · refine lv_aload_n hx hb dX10_choose_47 rfl (lv_at hl 1 rfl) ?_
        refine lv_iload hx hb dX10_choose_48 (lv_at hl 5 rfl) ?_
        refine zz_callVi (As := [.int x5]) C hW h (fun r hr => c_X9_metBy_18 hr) lk_X10_85 (hW.recv xr_18) rfl hl.1 ⟨rfl, rfl⟩ ⟨Nat.le_of_ble_eq_true rfl, Nat.le_of_ble_eq_true rfl⟩ (Nat.le_of_ble_eq_true rfl) ⟨Nat.zero_le _, Nat.zero_le _⟩ rfl dX10_choose_50 (fun v4 S3 H locs h hW => ?_)
        refine lv_iload_n hx hb dX10_choose_53 rfl (lv_at hl 2 rfl) ?_
        refine lv_iand hx hb dX10_choose_54 ?_
        refine lv_goto (tgt := 59) hx hb dX10_choose_55 (by decide) ?_
        exact w_X10_choose_26_18_b59 (F := F) C hrc21 h hW (lv_sub hl [0, 1, 2, 3, 4, 5] rfl)
def n_X10_choose_26_18_b21 (F : Nat)  (S : Zs) (x2 : Int32) (x3 : Int32) (x4 : Int32) (x5 : Int32) : Option (Int32 × Zs) :=
  zfix (fun (rc : (Zs × Int32 × Int32 × Int32 × Int32) → Option (Int32 × Zs)) (u : (Zs × Int32 × Int32 × Int32 × Int32)) => n_X10_choose_26_18_b21_l F  (fun S x2 x3 x4 x5 => rc (S, x2, x3, x4, x5)) u.1 u.2.1 u.2.2.1 u.2.2.2.1 u.2.2.2.2) F (S, x2, x3, x4, x5)
theorem w_X10_choose_26_18_b21 {F : Nat} {q : (Int32 × Zs)}  (C : zC p s m args meth c cX10_choose 7 RX10 (some .int))  : ∀ (n : Nat) (S : Zs) (x2 : Int32) (x3 : Int32) (x4 : Int32) (x5 : Int32) (H : Heap) (locs : List Loc) (ls : Array Slot), zfix (fun (rc : (Zs × Int32 × Int32 × Int32 × Int32) → Option (Int32 × Zs)) (u : (Zs × Int32 × Int32 × Int32 × Int32)) => n_X10_choose_26_18_b21_l F  (fun S x2 x3 x4 x5 => rc (S, x2, x3, x4, x5)) u.1 u.2.1 u.2.2.1 u.2.2.2.1 u.2.2.2.2) n (S, x2, x3, x4, x5) = some q → zW (xG D cs ad) s S H locs → lv_has ls 7 [(0, .ref (ad 26)), (1, .ref (ad 18)), (2, .int x2), (3, .int x3), (4, .int x4), (5, .int x5)] → W p l e (zR 18 464) s m args below meth c H locs 0 0 (zQi (xG D cs ad) q below args s) (F0 m 21 ls []) := by
  intro n
  induction n with
  | zero => intro S x2 x3 x4 x5 H locs ls h; exact absurd h (fun h => by cases h)
  | succ n ih => intro S x2 x3 x4 x5 H locs ls h hW hl; exact w_X10_choose_26_18_b21_l (F := F) C (fun S x2 x3 x4 x5 H locs ls h hW hl => ih S x2 x3 x4 x5 H locs ls h hW hl) h hW hl
def n_X10_choose_26_18_e (F : Nat)  (S : Zs)  : Option (Int32 × Zs) :=
  zgf S 363 (fun v1 => zlet (((1 : Int32) <<< (v1 &&& 31)) - (1 : Int32)) (fun v2 => zcl (n_X10_fewestSorts_26 F S v2) (fun v4 S3 => n_X10_choose_26_18_b21 F  S3 v2 v4 (0 : Int32) (0 : Int32))))
set_option maxRecDepth 20000 in
set_option maxHeartbeats 4000000 in
theorem w_X10_choose_26_18_e {F : Nat} {q : (Int32 × Zs)} {S : Zs}   {ls : Array Slot} {H : Heap} {locs : List Loc} (C : zC p s m args meth c cX10_choose 7 RX10 (some .int))  (h : n_X10_choose_26_18_e F  S  = some q) (hW : zW (xG D cs ad) s S H locs) (hl : lv_has ls 7 [(0, .ref (ad 26)), (1, .ref (ad 18))]) : W p l e (zR 18 464) s m args below meth c H locs 0 0 (zQi (xG D cs ad) q below args s) (F0 m 0 ls []) := by
  unfold n_X10_choose_26_18_e at h
  obtain ⟨hx, hb, hml, hown, hts, hret, hlk⟩ := id C
  refine lv_iconst (v := 1) hx hb dX10_choose_0 (by decide) ?_
  refine lv_aload_n hx hb dX10_choose_1 rfl (lv_at hl 1 rfl) ?_
  refine xg_18_3 C hW h fl_X10_55 dX10_choose_2 (fun v1 h => ?_)
  refine lv_ishl hx hb dX10_choose_5 ?_
  refine lv_iconst (v := 1) hx hb dX10_choose_6 (by decide) ?_
  refine lv_isub hx hb dX10_choose_7 ?_
  refine zz_leti h (fun v2 h => ?_)
  refine lv_istore_n (lv' := [(2, .int v2), (0, .ref (ad 26)), (1, .ref (ad 18))]) hx hb dX10_choose_8 rfl hl (by decide) rfl (fun ls hl => ?_)
  refine lv_aload_n hx hb dX10_choose_9 rfl (lv_at hl 1 rfl) ?_
  refine lv_iload_n hx hb dX10_choose_10 rfl (lv_at hl 0 rfl) ?_
  refine zz_callVi (As := [.int v2]) C hW h (fun r hr => c_X10_fewestSorts_26 hr) lk_X10_77 (hW.recv xr_26) rfl hl.1 ⟨rfl, rfl⟩ ⟨Nat.le_of_ble_eq_true rfl, Nat.le_of_ble_eq_true rfl⟩ (Nat.le_of_ble_eq_true rfl) ⟨Nat.zero_le _, Nat.zero_le _⟩ rfl dX10_choose_11 (fun v4 S3 H locs h hW => ?_)
  refine lv_istore_n (lv' := [(3, .int v4), (2, .int v2), (0, .ref (ad 26)), (1, .ref (ad 18))]) hx hb dX10_choose_14 rfl hl (by decide) rfl (fun ls hl => ?_)
  refine lv_iconst (v := 0) hx hb dX10_choose_15 (by decide) ?_
  refine lv_istore (lv' := [(4, .int (0 : Int32)), (3, .int v4), (2, .int v2), (0, .ref (ad 26)), (1, .ref (ad 18))]) hx hb dX10_choose_16 hl (by decide) rfl (fun ls hl => ?_)
  refine lv_iconst (v := 0) hx hb dX10_choose_18 (by decide) ?_
  refine lv_istore (lv' := [(5, .int (0 : Int32)), (4, .int (0 : Int32)), (3, .int v4), (2, .int v2), (0, .ref (ad 26)), (1, .ref (ad 18))]) hx hb dX10_choose_19 hl (by decide) rfl (fun ls hl => ?_)
  exact w_X10_choose_26_18_b21 (F := F) C F _ _ _ _ _ _ _ _ h hW (lv_sub hl [4, 5, 3, 2, 1, 0] rfl)
def n_X10_choose_26_18 (F : Nat) (S : Zs)  : Option (Int32 × Zs) := n_X10_choose_26_18_e F  S 
theorem c_X10_choose_26_18 {l : Launch} {D : va_G} {cs ad : Nat → Nat} {F : Nat} {S : Zs}  {q : (Int32 × Zs)} (h : n_X10_choose_26_18 F S  = some q) : zMi l yX10_choose cX10_choose 7 (some .int) (zR 18 464) (xG D cs ad) [.ref (ad 26), .ref (ad 18)] S q :=
  zz_enter (by decide) (Nat.le_of_ble_eq_true rfl) (fun p e s m below meth c ls C hW hl => w_X10_choose_26_18_e (F := F) C h hW (lv_sub hl [0, 1] rfl))
def n_X10_least_26_e (F : Nat)  (S : Zs) (x1 : Int32) : Option (Int32 × Zs) :=
  zcl (n_X2_active_3 F S ) (fun v2 S1 => zcl (n_X1_prepare_13 F S1 v2) (fun v4 S3 => zcl (n_X1_against_13 F S3 x1) (fun v6 S5 => zcl (n_X9_consistent_18 F S5 ) (fun v8 S7 => if v8 = 0 then (some ((-2 : Int32), S7)) else (zgf S7 363 (fun v9 => if v9 ≤ (12 : Int32) then (zcl (n_X7_settle_24 F S7 v2 x1) (fun v11 S10 => zcl (n_X10_study_26_18 F S10 ) (fun v13 S12 => zcl (n_X10_choose_26_18 F S12 ) (fun v15 S14 => some (v15, S14))))) else (some ((-3 : Int32), S7))))))))
set_option maxRecDepth 20000 in
set_option maxHeartbeats 4000000 in
theorem w_X10_least_26_e {F : Nat} {q : (Int32 × Zs)} {S : Zs}  {x1 : Int32} {ls : Array Slot} {H : Heap} {locs : List Loc} (C : zC p s m args meth c cX10_least 4 RX10 (some .int))  (h : n_X10_least_26_e F  S x1 = some q) (hW : zW (xG D cs ad) s S H locs) (hl : lv_has ls 4 [(0, .ref (ad 26)), (1, .int x1)]) : W p l e (zR 19 490) s m args below meth c H locs 0 0 (zQi (xG D cs ad) q below args s) (F0 m 0 ls []) := by
  unfold n_X10_least_26_e at h
  obtain ⟨hx, hb, hml, hown, hts, hret, hlk⟩ := id C
  refine lv_aload_n hx hb dX10_least_0 rfl (lv_at hl 0 rfl) ?_
  refine xg_26_0 C hW fl_X10_22 dX10_least_1 ?_
  refine zz_callVi (As := []) C hW h (fun r hr => c_X2_active_3 hr) lk_X10_34 (hW.recv xr_3) rfl hl.1 ⟨rfl, rfl⟩ ⟨Nat.le_of_ble_eq_true rfl, Nat.le_of_ble_eq_true rfl⟩ (Nat.le_of_ble_eq_true rfl) ⟨Nat.zero_le _, Nat.zero_le _⟩ rfl dX10_least_4 (fun v2 S1 H locs h hW => ?_)
  refine lv_istore_n (lv' := [(2, .int v2), (0, .ref (ad 26)), (1, .int x1)]) hx hb dX10_least_7 rfl hl (by decide) rfl (fun ls hl => ?_)
  refine lv_aload_n hx hb dX10_least_8 rfl (lv_at hl 1 rfl) ?_
  refine xg_26_1 C hW fl_X10_26 dX10_least_9 ?_
  refine lv_iload_n hx hb dX10_least_12 rfl (lv_at hl 0 rfl) ?_
  refine zz_callVr (As := [.int v2]) C hW h (fun r hr => c_X1_prepare_13 hr) lk_X10_40 (hW.recv xr_13) rfl hl.1 ⟨rfl, rfl⟩ ⟨Nat.le_of_ble_eq_true rfl, Nat.le_of_ble_eq_true rfl⟩ (Nat.le_of_ble_eq_true rfl) ⟨Nat.zero_le _, Nat.zero_le _⟩ rfl dX10_least_13 (fun v4 S3 H locs h hW => ?_)
  refine lv_pop hx hb dX10_least_16 rfl ?_
  refine lv_aload_n hx hb dX10_least_17 rfl (lv_at hl 1 rfl) ?_
  refine xg_26_1 C hW fl_X10_26 dX10_least_18 ?_
  refine lv_iload_n hx hb dX10_least_21 rfl (lv_at hl 2 rfl) ?_
  refine zz_callVr (As := [.int x1]) C hW h (fun r hr => c_X1_against_13 hr) lk_X10_46 (hW.recv xr_13) rfl hl.1 ⟨rfl, rfl⟩ ⟨Nat.le_of_ble_eq_true rfl, Nat.le_of_ble_eq_true rfl⟩ (Nat.le_of_ble_eq_true rfl) ⟨Nat.zero_le _, Nat.zero_le _⟩ rfl dX10_least_22 (fun v6 S5 H locs h hW => ?_)
  refine lv_astore_n (lv' := [(3, .ref (ad 18)), (2, .int v2), (0, .ref (ad 26)), (1, .int x1)]) hx hb dX10_least_25 rfl hl (by decide) rfl (fun ls hl => ?_)
  refine lv_aload_n hx hb dX10_least_26 rfl (lv_at hl 0 rfl) ?_
  refine zz_callVi (As := []) C hW h (fun r hr => c_X9_consistent_18 hr) lk_X10_49 (hW.recv xr_18) rfl hl.1 ⟨rfl, rfl⟩ ⟨Nat.le_of_ble_eq_true rfl, Nat.le_of_ble_eq_true rfl⟩ (Nat.le_of_ble_eq_true rfl) ⟨Nat.zero_le _, Nat.zero_le _⟩ rfl dX10_least_27 (fun v8 S7 H locs h hW => ?_)
  refine zz_ine (tgt := 36) C h dX10_least_30 (by decide) (fun h => ?_) (fun h => ?_)
  · refine lv_aload_n hx hb dX10_least_36 rfl (lv_at hl 0 rfl) ?_
    refine xg_18_3 C hW h fl_X10_55 dX10_least_37 (fun v9 h => ?_)
    refine lv_bipush (v := 12) hx hb dX10_least_40 (by decide) ?_
    refine zz_cle (tgt := 48) C h dX10_least_42 (by decide) (fun h => ?_) (fun h => ?_)
    · refine lv_aload_n hx hb dX10_least_48 rfl (lv_at hl 2 rfl) ?_
      refine xg_26_2 C hW fl_X10_30 dX10_least_49 ?_
      refine lv_iload_n hx hb dX10_least_52 rfl (lv_at hl 1 rfl) ?_
      refine lv_iload_n hx hb dX10_least_53 rfl (lv_at hl 3 rfl) ?_
      refine zz_callVv (As := [.int v2, .int x1]) C hW h (fun r hr => c_X7_settle_24 hr) lk_X10_59 (hW.recv xr_24) rfl hl.1 ⟨rfl, rfl⟩ ⟨Nat.le_of_ble_eq_true rfl, Nat.le_of_ble_eq_true rfl⟩ (Nat.le_of_ble_eq_true rfl) ⟨Nat.zero_le _, Nat.zero_le _⟩ rfl dX10_least_54 (fun v11 S10 H locs h hW => ?_)
      refine lv_aload_n hx hb dX10_least_57 rfl (lv_at hl 2 rfl) ?_
      refine lv_aload_n hx hb dX10_least_58 rfl (lv_at hl 0 rfl) ?_
      refine zz_callVv (As := [.ref (ad 18)]) C hW h (fun r hr => c_X10_study_26_18 hr) lk_X10_65 (hW.recv xr_26) rfl hl.1 ⟨rfl, rfl⟩ ⟨Nat.le_of_ble_eq_true rfl, Nat.le_of_ble_eq_true rfl⟩ (Nat.le_of_ble_eq_true rfl) ⟨Nat.zero_le _, Nat.zero_le _⟩ rfl dX10_least_59 (fun v13 S12 H locs h hW => ?_)
      refine lv_aload_n hx hb dX10_least_62 rfl (lv_at hl 2 rfl) ?_
      refine lv_aload_n hx hb dX10_least_63 rfl (lv_at hl 0 rfl) ?_
      refine zz_callVi (As := [.ref (ad 18)]) C hW h (fun r hr => c_X10_choose_26_18 hr) lk_X10_69 (hW.recv xr_26) rfl hl.1 ⟨rfl, rfl⟩ ⟨Nat.le_of_ble_eq_true rfl, Nat.le_of_ble_eq_true rfl⟩ (Nat.le_of_ble_eq_true rfl) ⟨Nat.zero_le _, Nat.zero_le _⟩ rfl dX10_least_64 (fun v15 S14 H locs h hW => ?_)
      exact zz_iret C rfl h hW dX10_least_67
    · refine lv_bipush (v := -3) hx hb dX10_least_45 (by decide) ?_
      exact zz_iret C rfl h hW dX10_least_47
  · refine lv_bipush (v := -2) hx hb dX10_least_33 (by decide) ?_
    exact zz_iret C rfl h hW dX10_least_35
def n_X10_least_26 (F : Nat) (S : Zs) (x1 : Int32) : Option (Int32 × Zs) := n_X10_least_26_e F  S x1
theorem c_X10_least_26 {l : Launch} {D : va_G} {cs ad : Nat → Nat} {F : Nat} {S : Zs} {x1 : Int32} {q : (Int32 × Zs)} (h : n_X10_least_26 F S x1 = some q) : zMi l yX10_least cX10_least 4 (some .int) (zR 19 490) (xG D cs ad) [.ref (ad 26), .int x1] S q :=
  zz_enter (by decide) (Nat.le_of_ble_eq_true rfl) (fun p e s m below meth c ls C hW hl => w_X10_least_26_e (F := F) C h hW (lv_sub hl [0, 1] rfl))
def n_X11_tellTown_0_b37 (F : Nat)  (S : Zs) (x1 : Int32) : Option (Int32 × Zs) :=
  some (x1, S)
set_option maxRecDepth 20000 in
set_option maxHeartbeats 4000000 in
theorem w_X11_tellTown_0_b37 {F : Nat} {q : (Int32 × Zs)} {S : Zs}  {x1 : Int32} {ls : Array Slot} {H : Heap} {locs : List Loc} (C : zC p s m args meth c cX11_tellTown 3 RX11 (some .int))  (h : n_X11_tellTown_0_b37 F  S x1 = some q) (hW : zW (xG D cs ad) s S H locs) (hl : lv_has ls 3 [(1, .int x1)]) : W p l e (zR 0 0) s m args below meth c H locs 0 0 (zQi (xG D cs ad) q below args s) (F0 m 37 ls []) := by
  unfold n_X11_tellTown_0_b37 at h
  obtain ⟨hx, hb, hml, hown, hts, hret, hlk⟩ := id C
  refine lv_iload_n hx hb dX11_tellTown_37 rfl (lv_at hl 0 rfl) ?_
  exact zz_iret C rfl h hW dX11_tellTown_38
def n_X11_tellTown_0_b2_l (F : Nat) (rc2 : Zs → Int32 → Int32 → Option (Int32 × Zs)) (S : Zs) (x1 : Int32) (x2 : Int32) : Option (Int32 × Zs) :=
  if x1 ≤ x2 then (if x1 < 0 then (n_X11_tellTown_0_b37 F  S x1) else (zpf S 10 x1 (fun S1 => n_X11_tellTown_0_b37 F  S1 x1))) else (zld S 27 12 x2 (fun v2 => zst S 47 24 x2 v2 (fun S3 => zlet (x2 + (1 : Int32)) (fun v4 => rc2 S3 x1 v4))))
set_option maxRecDepth 20000 in
set_option maxHeartbeats 4000000 in
theorem w_X11_tellTown_0_b2_l {F : Nat} {q : (Int32 × Zs)} {S : Zs} {rc2 : Zs → Int32 → Int32 → Option (Int32 × Zs)} {x1 : Int32} {x2 : Int32} {ls : Array Slot} {H : Heap} {locs : List Loc} (C : zC p s m args meth c cX11_tellTown 3 RX11 (some .int)) (hrc2 : ∀ (S : Zs) (x1 : Int32) (x2 : Int32) (H : Heap) (locs : List Loc) (ls : Array Slot), rc2 S x1 x2 = some q → zW (xG D cs ad) s S H locs → lv_has ls 3 [(0, .ref (ad 0)), (1, .int x1), (2, .int x2)] → W p l e (zR 0 0) s m args below meth c H locs 0 0 (zQi (xG D cs ad) q below args s) (F0 m 2 ls [])) (h : n_X11_tellTown_0_b2_l F rc2 S x1 x2 = some q) (hW : zW (xG D cs ad) s S H locs) (hl : lv_has ls 3 [(0, .ref (ad 0)), (1, .int x1), (2, .int x2)]) : W p l e (zR 0 0) s m args below meth c H locs 0 0 (zQi (xG D cs ad) q below args s) (F0 m 2 ls []) := by
  unfold n_X11_tellTown_0_b2_l at h
  obtain ⟨hx, hb, hml, hown, hts, hret, hlk⟩ := id C
  refine lv_iload_n hx hb dX11_tellTown_2 rfl (lv_at hl 2 rfl) ?_
  refine lv_iload_n hx hb dX11_tellTown_3 rfl (lv_at hl 1 rfl) ?_
  refine zz_cge (tgt := 28) C h dX11_tellTown_4 (by decide) (fun h => ?_) (fun h => ?_)
  · refine lv_iload_n hx hb dX11_tellTown_28 rfl (lv_at hl 1 rfl) ?_
    refine zz_ilt (tgt := 37) C h dX11_tellTown_29 (by decide) (fun h => ?_) (fun h => ?_)
    · exact w_X11_tellTown_0_b37 (F := F) C h hW (lv_sub hl [1] rfl)
    · refine lv_aload_n hx hb dX11_tellTown_32 rfl (lv_at hl 0 rfl) ?_
      refine lv_iload_n hx hb dX11_tellTown_33 rfl (lv_at hl 1 rfl) ?_
      refine xp_0_10 C hW h fl_X11_82 dX11_tellTown_34 (fun S1 H locs h hW => ?_)
      exact w_X11_tellTown_0_b37 (F := F) C h hW (lv_sub hl [1] rfl)
  · refine lv_aload_n hx hb dX11_tellTown_7 rfl (lv_at hl 0 rfl) ?_
    refine xg_0_9 C hW fl_X11_78 dX11_tellTown_8 ?_
    refine lv_iload_n hx hb dX11_tellTown_11 rfl (lv_at hl 2 rfl) ?_
    refine lv_aload_n hx hb dX11_tellTown_12 rfl (lv_at hl 0 rfl) ?_
    refine xg_0_5 C hW fl_X11_53 dX11_tellTown_13 ?_
    refine xg_26_3 C hW fl_X11_316 dX11_tellTown_16 ?_
    refine lv_iload_n hx hb dX11_tellTown_19 rfl (lv_at hl 2 rfl) ?_
    refine xl_27 C hW h dX11_tellTown_20 (fun v2 h => ?_)
    refine xs_47 C hW h dX11_tellTown_21 (fun S3 H locs h hW => ?_)
    obtain ⟨v4, ev4, h⟩ := zz_name h
    refine lv_iinc (v := v4) (lv' := [(2, .int v4), (0, .ref (ad 0)), (1, .int x1)]) hx hb dX11_tellTown_22 hl (k := 2) rfl ev4.symm (by decide) rfl (fun ls hl => ?_)
    refine lv_goto (tgt := 2) hx hb dX11_tellTown_25 (by decide) ?_
    exact hrc2 _ _ _ _ _ _ h hW (lv_sub hl [1, 2, 0] rfl)
def n_X11_tellTown_0_b2 (F : Nat)  (S : Zs) (x1 : Int32) (x2 : Int32) : Option (Int32 × Zs) :=
  zfix (fun (rc : (Zs × Int32 × Int32) → Option (Int32 × Zs)) (u : (Zs × Int32 × Int32)) => n_X11_tellTown_0_b2_l F  (fun S x1 x2 => rc (S, x1, x2)) u.1 u.2.1 u.2.2) F (S, x1, x2)
theorem w_X11_tellTown_0_b2 {F : Nat} {q : (Int32 × Zs)}  (C : zC p s m args meth c cX11_tellTown 3 RX11 (some .int))  : ∀ (n : Nat) (S : Zs) (x1 : Int32) (x2 : Int32) (H : Heap) (locs : List Loc) (ls : Array Slot), zfix (fun (rc : (Zs × Int32 × Int32) → Option (Int32 × Zs)) (u : (Zs × Int32 × Int32)) => n_X11_tellTown_0_b2_l F  (fun S x1 x2 => rc (S, x1, x2)) u.1 u.2.1 u.2.2) n (S, x1, x2) = some q → zW (xG D cs ad) s S H locs → lv_has ls 3 [(0, .ref (ad 0)), (1, .int x1), (2, .int x2)] → W p l e (zR 0 0) s m args below meth c H locs 0 0 (zQi (xG D cs ad) q below args s) (F0 m 2 ls []) := by
  intro n
  induction n with
  | zero => intro S x1 x2 H locs ls h; exact absurd h (fun h => by cases h)
  | succ n ih => intro S x1 x2 H locs ls h hW hl; exact w_X11_tellTown_0_b2_l (F := F) C (fun S x1 x2 H locs ls h hW hl => ih S x1 x2 H locs ls h hW hl) h hW hl
def n_X11_tellTown_0_e (F : Nat)  (S : Zs) (x1 : Int32) : Option (Int32 × Zs) :=
  n_X11_tellTown_0_b2 F  S x1 (0 : Int32)
set_option maxRecDepth 20000 in
set_option maxHeartbeats 4000000 in
theorem w_X11_tellTown_0_e {F : Nat} {q : (Int32 × Zs)} {S : Zs}  {x1 : Int32} {ls : Array Slot} {H : Heap} {locs : List Loc} (C : zC p s m args meth c cX11_tellTown 3 RX11 (some .int))  (h : n_X11_tellTown_0_e F  S x1 = some q) (hW : zW (xG D cs ad) s S H locs) (hl : lv_has ls 3 [(0, .ref (ad 0)), (1, .int x1)]) : W p l e (zR 0 0) s m args below meth c H locs 0 0 (zQi (xG D cs ad) q below args s) (F0 m 0 ls []) := by
  unfold n_X11_tellTown_0_e at h
  obtain ⟨hx, hb, hml, hown, hts, hret, hlk⟩ := id C
  refine lv_iconst (v := 0) hx hb dX11_tellTown_0 (by decide) ?_
  refine lv_istore_n (lv' := [(2, .int (0 : Int32)), (0, .ref (ad 0)), (1, .int x1)]) hx hb dX11_tellTown_1 rfl hl (by decide) rfl (fun ls hl => ?_)
  exact w_X11_tellTown_0_b2 (F := F) C F _ _ _ _ _ _ h hW (lv_sub hl [1, 2, 0] rfl)
def n_X11_tellTown_0 (F : Nat) (S : Zs) (x1 : Int32) : Option (Int32 × Zs) := n_X11_tellTown_0_e F  S x1
theorem c_X11_tellTown_0 {l : Launch} {D : va_G} {cs ad : Nat → Nat} {F : Nat} {S : Zs} {x1 : Int32} {q : (Int32 × Zs)} (h : n_X11_tellTown_0 F S x1 = some q) : zMi l yX11_tellTown cX11_tellTown 3 (some .int) (zR 0 0) (xG D cs ad) [.ref (ad 0), .int x1] S q :=
  zz_enter (by decide) (Nat.le_of_ble_eq_true rfl) (fun p e s m below meth c ls C hW hl => w_X11_tellTown_0_e (F := F) C h hW (lv_sub hl [0, 1] rfl))
def n_X11_town_0_e (F : Nat)  (S : Zs)  : Option (Int32 × Zs) :=
  zcl (n_X10_least_26 F S (-1 : Int32)) (fun v2 S1 => zcl (n_X11_tellTown_0 F S1 v2) (fun v4 S3 => some (v4, S3)))
set_option maxRecDepth 20000 in
set_option maxHeartbeats 4000000 in
theorem w_X11_town_0_e {F : Nat} {q : (Int32 × Zs)} {S : Zs}   {ls : Array Slot} {H : Heap} {locs : List Loc} (C : zC p s m args meth c cX11_town 1 RX11 (some .int))  (h : n_X11_town_0_e F  S  = some q) (hW : zW (xG D cs ad) s S H locs) (hl : lv_has ls 1 [(0, .ref (ad 0))]) : W p l e (zR 20 513) s m args below meth c H locs 0 0 (zQi (xG D cs ad) q below args s) (F0 m 0 ls []) := by
  unfold n_X11_town_0_e at h
  obtain ⟨hx, hb, hml, hown, hts, hret, hlk⟩ := id C
  refine lv_aload_n hx hb dX11_town_0 rfl (lv_at hl 0 rfl) ?_
  refine lv_aload_n hx hb dX11_town_1 rfl (lv_at hl 0 rfl) ?_
  refine xg_0_5 C hW fl_X11_53 dX11_town_2 ?_
  refine lv_iconst (v := -1) hx hb dX11_town_5 (by decide) ?_
  refine zz_callVi (As := [.int (-1 : Int32)]) C hW h (fun r hr => c_X10_least_26 hr) lk_X11_212 (hW.recv xr_26) rfl hl.1 ⟨rfl, rfl⟩ ⟨Nat.le_of_ble_eq_true rfl, Nat.le_of_ble_eq_true rfl⟩ (Nat.le_of_ble_eq_true rfl) ⟨Nat.zero_le _, Nat.zero_le _⟩ rfl dX11_town_6 (fun v2 S1 H locs h hW => ?_)
  refine zz_callVi (As := [.int v2]) C hW h (fun r hr => c_X11_tellTown_0 hr) lk_X11_215 (hW.recv xr_0) rfl hl.1 ⟨rfl, rfl⟩ ⟨Nat.le_of_ble_eq_true rfl, Nat.le_of_ble_eq_true rfl⟩ (Nat.le_of_ble_eq_true rfl) ⟨Nat.zero_le _, Nat.zero_le _⟩ rfl dX11_town_9 (fun v4 S3 H locs h hW => ?_)
  exact zz_iret C rfl h hW dX11_town_12
def n_X11_town_0 (F : Nat) (S : Zs)  : Option (Int32 × Zs) := n_X11_town_0_e F  S 
theorem c_X11_town_0 {l : Launch} {D : va_G} {cs ad : Nat → Nat} {F : Nat} {S : Zs}  {q : (Int32 × Zs)} (h : n_X11_town_0 F S  = some q) : zMi l yX11_town cX11_town 1 (some .int) (zR 20 513) (xG D cs ad) [.ref (ad 0)] S q :=
  zz_enter (by decide) (Nat.le_of_ble_eq_true rfl) (fun p e s m below meth c ls C hW hl => w_X11_town_0_e (F := F) C h hW (lv_sub hl [0] rfl))
def n_X11_refute_0_b26 (F : Nat)  (S : Zs) (t0 : Int32) : Option (Int32 × Zs) :=
  some (t0, S)
set_option maxRecDepth 20000 in
set_option maxHeartbeats 4000000 in
theorem w_X11_refute_0_b26 {F : Nat} {q : (Int32 × Zs)} {S : Zs}  {t0 : Int32} {ls : Array Slot} {H : Heap} {locs : List Loc} (C : zC p s m args meth c cX11_refute 2 RX11 (some .int))  (h : n_X11_refute_0_b26 F  S t0 = some q) (hW : zW (xG D cs ad) s S H locs) (hl : lv_has ls 2 []) : W p l e (zR 20 513) s m args below meth c H locs 0 0 (zQi (xG D cs ad) q below args s) (F0 m 26 ls [.int t0]) := by
  unfold n_X11_refute_0_b26 at h
  obtain ⟨hx, hb, hml, hown, hts, hret, hlk⟩ := id C
  exact zz_iret C rfl h hW dX11_refute_26
def n_X11_refute_0_e (F : Nat)  (S : Zs) (x1 : Int32) : Option (Int32 × Zs) :=
  zcl (n_X0_isCode F S x1) (fun v2 S1 => if v2 = 0 then (n_X11_refute_0_b26 F  S1 (-1 : Int32)) else (zcl (n_X0_contrary F S1 x1) (fun v4 S3 => zcl (n_X10_least_26 F S3 v4) (fun v6 S5 => zcl (n_X11_tellTown_0 F S5 v6) (fun v8 S7 => n_X11_refute_0_b26 F  S7 v8)))))
set_option maxRecDepth 20000 in
set_option maxHeartbeats 4000000 in
theorem w_X11_refute_0_e {F : Nat} {q : (Int32 × Zs)} {S : Zs}  {x1 : Int32} {ls : Array Slot} {H : Heap} {locs : List Loc} (C : zC p s m args meth c cX11_refute 2 RX11 (some .int))  (h : n_X11_refute_0_e F  S x1 = some q) (hW : zW (xG D cs ad) s S H locs) (hl : lv_has ls 2 [(0, .ref (ad 0)), (1, .int x1)]) : W p l e (zR 20 513) s m args below meth c H locs 0 0 (zQi (xG D cs ad) q below args s) (F0 m 0 ls []) := by
  unfold n_X11_refute_0_e at h
  obtain ⟨hx, hb, hml, hown, hts, hret, hlk⟩ := id C
  refine lv_iload_n hx hb dX11_refute_0 rfl (lv_at hl 1 rfl) ?_
  refine zz_callSi (As := [.int x1]) C hW h (fun r hr => c_X0_isCode hr) lk_X11_126 rfl hl.1 ⟨rfl, rfl⟩ ⟨Nat.le_of_ble_eq_true rfl, Nat.le_of_ble_eq_true rfl⟩ (Nat.le_of_ble_eq_true rfl) ⟨Nat.zero_le _, Nat.zero_le _⟩ rfl dX11_refute_1 (fun v2 S1 H locs h hW => ?_)
  refine zz_ieq (tgt := 25) C h dX11_refute_4 (by decide) (fun h => ?_) (fun h => ?_)
  · refine lv_iconst (v := -1) hx hb dX11_refute_25 (by decide) ?_
    exact w_X11_refute_0_b26 (F := F) C h hW (lv_sub hl [] rfl)
  · refine lv_aload_n hx hb dX11_refute_7 rfl (lv_at hl 0 rfl) ?_
    refine lv_aload_n hx hb dX11_refute_8 rfl (lv_at hl 0 rfl) ?_
    refine xg_0_5 C hW fl_X11_53 dX11_refute_9 ?_
    refine lv_iload_n hx hb dX11_refute_12 rfl (lv_at hl 1 rfl) ?_
    refine zz_callSi (As := [.int x1]) C hW h (fun r hr => c_X0_contrary hr) lk_X11_155 rfl hl.1 ⟨rfl, rfl⟩ ⟨Nat.le_of_ble_eq_true rfl, Nat.le_of_ble_eq_true rfl⟩ (Nat.le_of_ble_eq_true rfl) ⟨Nat.zero_le _, Nat.zero_le _⟩ rfl dX11_refute_13 (fun v4 S3 H locs h hW => ?_)
    refine zz_callVi (As := [.int v4]) C hW h (fun r hr => c_X10_least_26 hr) lk_X11_212 (hW.recv xr_26) rfl hl.1 ⟨rfl, rfl⟩ ⟨Nat.le_of_ble_eq_true rfl, Nat.le_of_ble_eq_true rfl⟩ (Nat.le_of_ble_eq_true rfl) ⟨Nat.zero_le _, Nat.zero_le _⟩ rfl dX11_refute_16 (fun v6 S5 H locs h hW => ?_)
    refine zz_callVi (As := [.int v6]) C hW h (fun r hr => c_X11_tellTown_0 hr) lk_X11_215 (hW.recv xr_0) rfl hl.1 ⟨rfl, rfl⟩ ⟨Nat.le_of_ble_eq_true rfl, Nat.le_of_ble_eq_true rfl⟩ (Nat.le_of_ble_eq_true rfl) ⟨Nat.zero_le _, Nat.zero_le _⟩ rfl dX11_refute_19 (fun v8 S7 H locs h hW => ?_)
    refine lv_goto (tgt := 26) hx hb dX11_refute_22 (by decide) ?_
    exact w_X11_refute_0_b26 (F := F) C h hW (lv_sub hl [] rfl)
def n_X11_refute_0 (F : Nat) (S : Zs) (x1 : Int32) : Option (Int32 × Zs) := n_X11_refute_0_e F  S x1
theorem c_X11_refute_0 {l : Launch} {D : va_G} {cs ad : Nat → Nat} {F : Nat} {S : Zs} {x1 : Int32} {q : (Int32 × Zs)} (h : n_X11_refute_0 F S x1 = some q) : zMi l yX11_refute cX11_refute 2 (some .int) (zR 20 513) (xG D cs ad) [.ref (ad 0), .int x1] S q :=
  zz_enter (by decide) (Nat.le_of_ble_eq_true rfl) (fun p e s m below meth c ls C hW hl => w_X11_refute_0_e (F := F) C h hW (lv_sub hl [0, 1] rfl))
def n_X11_tellTwo_0_e (F : Nat)  (S : Zs) (x1 : Int32) (x2 : Int32) : Option (Int32 × Zs) :=
  zst S 47 24 (0 : Int32) x1 (fun S1 => zst S1 47 24 (1 : Int32) x2 (fun S2 => zpf S2 10 (2 : Int32) (fun S3 => some (0, S3))))
set_option maxRecDepth 20000 in
set_option maxHeartbeats 4000000 in
theorem w_X11_tellTwo_0_e {F : Nat} {q : (Int32 × Zs)} {S : Zs}  {x1 : Int32} {x2 : Int32} {ls : Array Slot} {H : Heap} {locs : List Loc} (C : zC p s m args meth c cX11_tellTwo 3 RX11 none)  (h : n_X11_tellTwo_0_e F  S x1 x2 = some q) (hW : zW (xG D cs ad) s S H locs) (hl : lv_has ls 3 [(0, .ref (ad 0)), (1, .int x1), (2, .int x2)]) : W p l e (zR 0 0) s m args below meth c H locs 0 0 (zQv (xG D cs ad) q below args s) (F0 m 0 ls []) := by
  unfold n_X11_tellTwo_0_e at h
  obtain ⟨hx, hb, hml, hown, hts, hret, hlk⟩ := id C
  refine lv_aload_n hx hb dX11_tellTwo_0 rfl (lv_at hl 0 rfl) ?_
  refine xg_0_9 C hW fl_X11_78 dX11_tellTwo_1 ?_
  refine lv_iconst (v := 0) hx hb dX11_tellTwo_4 (by decide) ?_
  refine lv_iload_n hx hb dX11_tellTwo_5 rfl (lv_at hl 1 rfl) ?_
  refine xs_47 C hW h dX11_tellTwo_6 (fun S1 H locs h hW => ?_)
  refine lv_aload_n hx hb dX11_tellTwo_7 rfl (lv_at hl 0 rfl) ?_
  refine xg_0_9 C hW fl_X11_78 dX11_tellTwo_8 ?_
  refine lv_iconst (v := 1) hx hb dX11_tellTwo_11 (by decide) ?_
  refine lv_iload_n hx hb dX11_tellTwo_12 rfl (lv_at hl 2 rfl) ?_
  refine xs_47 C hW h dX11_tellTwo_13 (fun S2 H locs h hW => ?_)
  refine lv_aload_n hx hb dX11_tellTwo_14 rfl (lv_at hl 0 rfl) ?_
  refine lv_iconst (v := 2) hx hb dX11_tellTwo_15 (by decide) ?_
  refine xp_0_10 C hW h fl_X11_82 dX11_tellTwo_16 (fun S3 H locs h hW => ?_)
  exact zz_vret C rfl h hW dX11_tellTwo_19
def n_X11_tellTwo_0 (F : Nat) (S : Zs) (x1 : Int32) (x2 : Int32) : Option (Int32 × Zs) := n_X11_tellTwo_0_e F  S x1 x2
theorem c_X11_tellTwo_0 {l : Launch} {D : va_G} {cs ad : Nat → Nat} {F : Nat} {S : Zs} {x1 : Int32} {x2 : Int32} {q : (Int32 × Zs)} (h : n_X11_tellTwo_0 F S x1 x2 = some q) : zMv l yX11_tellTwo cX11_tellTwo 3 none (zR 0 0) (xG D cs ad) [.ref (ad 0), .int x1, .int x2] S q :=
  zz_enter (by decide) (Nat.le_of_ble_eq_true rfl) (fun p e s m below meth c ls C hW hl => w_X11_tellTwo_0_e (F := F) C h hW (lv_sub hl [0, 1, 2] rfl))
def n_X10_isBoth_b28 (F : Nat)  (S : Zs) (t0 : Int32) : Option (Int32 × Zs) :=
  zrb t0 S
set_option maxRecDepth 20000 in
set_option maxHeartbeats 4000000 in
theorem w_X10_isBoth_b28 {F : Nat} {q : (Int32 × Zs)} {S : Zs}  {t0 : Int32} {ls : Array Slot} {H : Heap} {locs : List Loc} (C : zC p s m args meth c cX10_isBoth 3 RX10 (some .boolean))  (h : n_X10_isBoth_b28 F  S t0 = some q) (hW : zW (xG D cs ad) s S H locs) (hl : lv_has ls 3 []) : W p l e (zR 1 21) s m args below meth c H locs 0 0 (zQi (xG D cs ad) q below args s) (F0 m 28 ls [.int t0]) := by
  unfold n_X10_isBoth_b28 at h
  obtain ⟨hx, hb, hml, hown, hts, hret, hlk⟩ := id C
  exact zz_zret C rfl h hW dX10_isBoth_28
def n_X10_isBoth_b27 (F : Nat)  (S : Zs)  : Option (Int32 × Zs) :=
  n_X10_isBoth_b28 F  S (0 : Int32)
set_option maxRecDepth 20000 in
set_option maxHeartbeats 4000000 in
theorem w_X10_isBoth_b27 {F : Nat} {q : (Int32 × Zs)} {S : Zs}   {ls : Array Slot} {H : Heap} {locs : List Loc} (C : zC p s m args meth c cX10_isBoth 3 RX10 (some .boolean))  (h : n_X10_isBoth_b27 F  S  = some q) (hW : zW (xG D cs ad) s S H locs) (hl : lv_has ls 3 []) : W p l e (zR 1 21) s m args below meth c H locs 0 0 (zQi (xG D cs ad) q below args s) (F0 m 27 ls []) := by
  unfold n_X10_isBoth_b27 at h
  obtain ⟨hx, hb, hml, hown, hts, hret, hlk⟩ := id C
  refine lv_iconst (v := 0) hx hb dX10_isBoth_27 (by decide) ?_
  exact w_X10_isBoth_b28 (F := F) C h hW (lv_sub hl [] rfl)
def n_X10_isBoth_e (F : Nat)  (S : Zs) (x0 : Int32) (x1 : Int32) (x2 : Int32) : Option (Int32 × Zs) :=
  if (4096 : Int32) ≤ x0 then (n_X10_isBoth_b27 F  S ) else (zcl (n_X0_isOf F S x0 x1) (fun v2 S1 => if v2 = 0 then (n_X10_isBoth_b27 F  S1 ) else (zcl (n_X0_isOf F S1 x0 x2) (fun v4 S3 => if v4 = 0 then (n_X10_isBoth_b27 F  S3 ) else (n_X10_isBoth_b28 F  S3 (1 : Int32))))))
set_option maxRecDepth 20000 in
set_option maxHeartbeats 4000000 in
theorem w_X10_isBoth_e {F : Nat} {q : (Int32 × Zs)} {S : Zs}  {x0 : Int32} {x1 : Int32} {x2 : Int32} {ls : Array Slot} {H : Heap} {locs : List Loc} (C : zC p s m args meth c cX10_isBoth 3 RX10 (some .boolean))  (h : n_X10_isBoth_e F  S x0 x1 x2 = some q) (hW : zW (xG D cs ad) s S H locs) (hl : lv_has ls 3 [(0, .int x0), (1, .int x1), (2, .int x2)]) : W p l e (zR 1 21) s m args below meth c H locs 0 0 (zQi (xG D cs ad) q below args s) (F0 m 0 ls []) := by
  unfold n_X10_isBoth_e at h
  obtain ⟨hx, hb, hml, hown, hts, hret, hlk⟩ := id C
  refine lv_iload_n hx hb dX10_isBoth_0 rfl (lv_at hl 0 rfl) ?_
  refine lv_sipush (v := 4096) hx hb dX10_isBoth_1 (by decide) ?_
  refine zz_cge (tgt := 27) C h dX10_isBoth_4 (by decide) (fun h => ?_) (fun h => ?_)
  · exact w_X10_isBoth_b27 (F := F) C h hW (lv_sub hl [] rfl)
  · refine lv_iload_n hx hb dX10_isBoth_7 rfl (lv_at hl 0 rfl) ?_
    refine lv_iload_n hx hb dX10_isBoth_8 rfl (lv_at hl 1 rfl) ?_
    refine zz_callSi (As := [.int x0, .int x1]) C hW h (fun r hr => c_X0_isOf hr) lk_X10_112 rfl hl.1 ⟨rfl, rfl⟩ ⟨Nat.le_of_ble_eq_true rfl, Nat.le_of_ble_eq_true rfl⟩ (Nat.le_of_ble_eq_true rfl) ⟨Nat.zero_le _, Nat.zero_le _⟩ rfl dX10_isBoth_9 (fun v2 S1 H locs h hW => ?_)
    refine zz_ieq (tgt := 27) C h dX10_isBoth_12 (by decide) (fun h => ?_) (fun h => ?_)
    · exact w_X10_isBoth_b27 (F := F) C h hW (lv_sub hl [] rfl)
    · refine lv_iload_n hx hb dX10_isBoth_15 rfl (lv_at hl 0 rfl) ?_
      refine lv_iload_n hx hb dX10_isBoth_16 rfl (lv_at hl 2 rfl) ?_
      refine zz_callSi (As := [.int x0, .int x2]) C hW h (fun r hr => c_X0_isOf hr) lk_X10_112 rfl hl.1 ⟨rfl, rfl⟩ ⟨Nat.le_of_ble_eq_true rfl, Nat.le_of_ble_eq_true rfl⟩ (Nat.le_of_ble_eq_true rfl) ⟨Nat.zero_le _, Nat.zero_le _⟩ rfl dX10_isBoth_17 (fun v4 S3 H locs h hW => ?_)
      refine zz_ieq (tgt := 27) C h dX10_isBoth_20 (by decide) (fun h => ?_) (fun h => ?_)
      · exact w_X10_isBoth_b27 (F := F) C h hW (lv_sub hl [] rfl)
      · refine lv_iconst (v := 1) hx hb dX10_isBoth_23 (by decide) ?_
        refine lv_goto (tgt := 28) hx hb dX10_isBoth_24 (by decide) ?_
        exact w_X10_isBoth_b28 (F := F) C h hW (lv_sub hl [] rfl)
def n_X10_isBoth (F : Nat) (S : Zs) (x0 : Int32) (x1 : Int32) (x2 : Int32) : Option (Int32 × Zs) := n_X10_isBoth_e F  S x0 x1 x2
theorem c_X10_isBoth {l : Launch} {D : va_G} {cs ad : Nat → Nat} {F : Nat} {S : Zs} {x0 : Int32} {x1 : Int32} {x2 : Int32} {q : (Int32 × Zs)} (h : n_X10_isBoth F S x0 x1 x2 = some q) : zMi l yX10_isBoth cX10_isBoth 3 (some .boolean) (zR 1 21) (xG D cs ad) [.int x0, .int x1, .int x2] S q :=
  zz_enter (by decide) (Nat.le_of_ble_eq_true rfl) (fun p e s m below meth c ls C hW hl => w_X10_isBoth_e (F := F) C h hW (lv_sub hl [0, 1, 2] rfl))
def n_X10_isTrueOf_b104 (F : Nat)  (S : Zs) (t0 : Int32) : Option (Int32 × Zs) :=
  zrb t0 S
set_option maxRecDepth 20000 in
set_option maxHeartbeats 4000000 in
theorem w_X10_isTrueOf_b104 {F : Nat} {q : (Int32 × Zs)} {S : Zs}  {t0 : Int32} {ls : Array Slot} {H : Heap} {locs : List Loc} (C : zC p s m args meth c cX10_isTrueOf 6 RX10 (some .boolean))  (h : n_X10_isTrueOf_b104 F  S t0 = some q) (hW : zW (xG D cs ad) s S H locs) (hl : lv_has ls 6 []) : W p l e (zR 2 43) s m args below meth c H locs 0 0 (zQi (xG D cs ad) q below args s) (F0 m 104 ls [.int t0]) := by
  unfold n_X10_isTrueOf_b104 at h
  obtain ⟨hx, hb, hml, hown, hts, hret, hlk⟩ := id C
  exact zz_zret C rfl h hW dX10_isTrueOf_104
def n_X10_isTrueOf_b99 (F : Nat)  (S : Zs)  : Option (Int32 × Zs) :=
  n_X10_isTrueOf_b104 F  S (1 : Int32)
set_option maxRecDepth 20000 in
set_option maxHeartbeats 4000000 in
theorem w_X10_isTrueOf_b99 {F : Nat} {q : (Int32 × Zs)} {S : Zs}   {ls : Array Slot} {H : Heap} {locs : List Loc} (C : zC p s m args meth c cX10_isTrueOf 6 RX10 (some .boolean))  (h : n_X10_isTrueOf_b99 F  S  = some q) (hW : zW (xG D cs ad) s S H locs) (hl : lv_has ls 6 []) : W p l e (zR 2 43) s m args below meth c H locs 0 0 (zQi (xG D cs ad) q below args s) (F0 m 99 ls []) := by
  unfold n_X10_isTrueOf_b99 at h
  obtain ⟨hx, hb, hml, hown, hts, hret, hlk⟩ := id C
  refine lv_iconst (v := 1) hx hb dX10_isTrueOf_99 (by decide) ?_
  refine lv_goto (tgt := 104) hx hb dX10_isTrueOf_100 (by decide) ?_
  exact w_X10_isTrueOf_b104 (F := F) C h hW (lv_sub hl [] rfl)
def n_X10_isTrueOf_b59 (F : Nat)  (S : Zs) (t0 : Int32) : Option (Int32 × Zs) :=
  zrb t0 S
set_option maxRecDepth 20000 in
set_option maxHeartbeats 4000000 in
theorem w_X10_isTrueOf_b59 {F : Nat} {q : (Int32 × Zs)} {S : Zs}  {t0 : Int32} {ls : Array Slot} {H : Heap} {locs : List Loc} (C : zC p s m args meth c cX10_isTrueOf 6 RX10 (some .boolean))  (h : n_X10_isTrueOf_b59 F  S t0 = some q) (hW : zW (xG D cs ad) s S H locs) (hl : lv_has ls 6 []) : W p l e (zR 2 43) s m args below meth c H locs 0 0 (zQi (xG D cs ad) q below args s) (F0 m 59 ls [.int t0]) := by
  unfold n_X10_isTrueOf_b59 at h
  obtain ⟨hx, hb, hml, hown, hts, hret, hlk⟩ := id C
  exact zz_zret C rfl h hW dX10_isTrueOf_59
def n_X10_isTrueOf_b58 (F : Nat)  (S : Zs)  : Option (Int32 × Zs) :=
  n_X10_isTrueOf_b59 F  S (0 : Int32)
set_option maxRecDepth 20000 in
set_option maxHeartbeats 4000000 in
theorem w_X10_isTrueOf_b58 {F : Nat} {q : (Int32 × Zs)} {S : Zs}   {ls : Array Slot} {H : Heap} {locs : List Loc} (C : zC p s m args meth c cX10_isTrueOf 6 RX10 (some .boolean))  (h : n_X10_isTrueOf_b58 F  S  = some q) (hW : zW (xG D cs ad) s S H locs) (hl : lv_has ls 6 []) : W p l e (zR 2 43) s m args below meth c H locs 0 0 (zQi (xG D cs ad) q below args s) (F0 m 58 ls []) := by
  unfold n_X10_isTrueOf_b58 at h
  obtain ⟨hx, hb, hml, hown, hts, hret, hlk⟩ := id C
  refine lv_iconst (v := 0) hx hb dX10_isTrueOf_58 (by decide) ?_
  exact w_X10_isTrueOf_b59 (F := F) C h hW (lv_sub hl [] rfl)
def n_X10_isTrueOf_e (F : Nat)  (S : Zs) (x0 : Int32) (x1 : Int32) (x2 : Int32) (x3 : Int32) : Option (Int32 × Zs) :=
  zcl (n_X0_subject F S x0) (fun v2 S1 => zcl (n_X0_isUniversal F S1 x0) (fun v4 S3 => if v4 = 0 then (zcl (n_X0_target F S3 x0) (fun v6 S5 => zcl (n_X10_isBoth F S5 x1 v2 v6) (fun v8 S7 => if v8 = 0 then (zcl (n_X10_isBoth F S7 x2 v2 v6) (fun v10 S9 => if v10 = 0 then (zcl (n_X10_isBoth F S9 x3 v2 v6) (fun v12 S11 => if v12 = 0 then (n_X10_isTrueOf_b104 F  S11 (0 : Int32)) else (n_X10_isTrueOf_b99 F  S11 ))) else (n_X10_isTrueOf_b99 F  S9 ))) else (n_X10_isTrueOf_b99 F  S7 )))) else (zcl (n_X0_target F S3 x0) (fun v14 S13 => zlet (v14 ^^^ (1 : Int32)) (fun v15 => zcl (n_X10_isBoth F S13 x1 v2 v15) (fun v17 S16 => if v17 = 0 then (zcl (n_X10_isBoth F S16 x2 v2 v15) (fun v19 S18 => if v19 = 0 then (zcl (n_X10_isBoth F S18 x3 v2 v15) (fun v21 S20 => if v21 = 0 then (n_X10_isTrueOf_b59 F  S20 (1 : Int32)) else (n_X10_isTrueOf_b58 F  S20 ))) else (n_X10_isTrueOf_b58 F  S18 ))) else (n_X10_isTrueOf_b58 F  S16 )))))))
set_option maxRecDepth 20000 in
set_option maxHeartbeats 4000000 in
theorem w_X10_isTrueOf_e {F : Nat} {q : (Int32 × Zs)} {S : Zs}  {x0 : Int32} {x1 : Int32} {x2 : Int32} {x3 : Int32} {ls : Array Slot} {H : Heap} {locs : List Loc} (C : zC p s m args meth c cX10_isTrueOf 6 RX10 (some .boolean))  (h : n_X10_isTrueOf_e F  S x0 x1 x2 x3 = some q) (hW : zW (xG D cs ad) s S H locs) (hl : lv_has ls 6 [(0, .int x0), (1, .int x1), (2, .int x2), (3, .int x3)]) : W p l e (zR 2 43) s m args below meth c H locs 0 0 (zQi (xG D cs ad) q below args s) (F0 m 0 ls []) := by
  unfold n_X10_isTrueOf_e at h
  obtain ⟨hx, hb, hml, hown, hts, hret, hlk⟩ := id C
  refine lv_iload_n hx hb dX10_isTrueOf_0 rfl (lv_at hl 0 rfl) ?_
  refine zz_callSi (As := [.int x0]) C hW h (fun r hr => c_X0_subject hr) lk_X10_97 rfl hl.1 ⟨rfl, rfl⟩ ⟨Nat.le_of_ble_eq_true rfl, Nat.le_of_ble_eq_true rfl⟩ (Nat.le_of_ble_eq_true rfl) ⟨Nat.zero_le _, Nat.zero_le _⟩ rfl dX10_isTrueOf_1 (fun v2 S1 H locs h hW => ?_)
  refine lv_istore (lv' := [(4, .int v2), (0, .int x0), (1, .int x1), (2, .int x2), (3, .int x3)]) hx hb dX10_isTrueOf_4 hl (by decide) rfl (fun ls hl => ?_)
  refine lv_iload_n hx hb dX10_isTrueOf_6 rfl (lv_at hl 1 rfl) ?_
  refine zz_callSi (As := [.int x0]) C hW h (fun r hr => c_X0_isUniversal hr) lk_X10_102 rfl hl.1 ⟨rfl, rfl⟩ ⟨Nat.le_of_ble_eq_true rfl, Nat.le_of_ble_eq_true rfl⟩ (Nat.le_of_ble_eq_true rfl) ⟨Nat.zero_le _, Nat.zero_le _⟩ rfl dX10_isTrueOf_7 (fun v4 S3 H locs h hW => ?_)
  refine zz_ieq (tgt := 60) C h dX10_isTrueOf_10 (by decide) (fun h => ?_) (fun h => ?_)
  · refine lv_iload_n hx hb dX10_isTrueOf_60 rfl (lv_at hl 1 rfl) ?_
    refine zz_callSi (As := [.int x0]) C hW h (fun r hr => c_X0_target hr) lk_X10_105 rfl hl.1 ⟨rfl, rfl⟩ ⟨Nat.le_of_ble_eq_true rfl, Nat.le_of_ble_eq_true rfl⟩ (Nat.le_of_ble_eq_true rfl) ⟨Nat.zero_le _, Nat.zero_le _⟩ rfl dX10_isTrueOf_61 (fun v6 S5 H locs h hW => ?_)
    refine lv_istore (lv' := [(5, .int v6), (4, .int v2), (0, .int x0), (1, .int x1), (2, .int x2), (3, .int x3)]) hx hb dX10_isTrueOf_64 hl (by decide) rfl (fun ls hl => ?_)
    refine lv_iload_n hx hb dX10_isTrueOf_66 rfl (lv_at hl 3 rfl) ?_
    refine lv_iload hx hb dX10_isTrueOf_67 (lv_at hl 1 rfl) ?_
    refine lv_iload hx hb dX10_isTrueOf_69 (lv_at hl 0 rfl) ?_
    refine zz_callSi (As := [.int x1, .int v2, .int v6]) C hW h (fun r hr => c_X10_isBoth hr) lk_X10_108 rfl hl.1 ⟨rfl, rfl⟩ ⟨Nat.le_of_ble_eq_true rfl, Nat.le_of_ble_eq_true rfl⟩ (Nat.le_of_ble_eq_true rfl) ⟨Nat.zero_le _, Nat.zero_le _⟩ rfl dX10_isTrueOf_71 (fun v8 S7 H locs h hW => ?_)
    refine zz_ine (tgt := 99) C h dX10_isTrueOf_74 (by decide) (fun h => ?_) (fun h => ?_)
    · exact w_X10_isTrueOf_b99 (F := F) C h hW (lv_sub hl [] rfl)
    · refine lv_iload_n hx hb dX10_isTrueOf_77 rfl (lv_at hl 4 rfl) ?_
      refine lv_iload hx hb dX10_isTrueOf_78 (lv_at hl 1 rfl) ?_
      refine lv_iload hx hb dX10_isTrueOf_80 (lv_at hl 0 rfl) ?_
      refine zz_callSi (As := [.int x2, .int v2, .int v6]) C hW h (fun r hr => c_X10_isBoth hr) lk_X10_108 rfl hl.1 ⟨rfl, rfl⟩ ⟨Nat.le_of_ble_eq_true rfl, Nat.le_of_ble_eq_true rfl⟩ (Nat.le_of_ble_eq_true rfl) ⟨Nat.zero_le _, Nat.zero_le _⟩ rfl dX10_isTrueOf_82 (fun v10 S9 H locs h hW => ?_)
      refine zz_ine (tgt := 99) C h dX10_isTrueOf_85 (by decide) (fun h => ?_) (fun h => ?_)
      · exact w_X10_isTrueOf_b99 (F := F) C h hW (lv_sub hl [] rfl)
      · refine lv_iload_n hx hb dX10_isTrueOf_88 rfl (lv_at hl 5 rfl) ?_
        refine lv_iload hx hb dX10_isTrueOf_89 (lv_at hl 1 rfl) ?_
        refine lv_iload hx hb dX10_isTrueOf_91 (lv_at hl 0 rfl) ?_
        refine zz_callSi (As := [.int x3, .int v2, .int v6]) C hW h (fun r hr => c_X10_isBoth hr) lk_X10_108 rfl hl.1 ⟨rfl, rfl⟩ ⟨Nat.le_of_ble_eq_true rfl, Nat.le_of_ble_eq_true rfl⟩ (Nat.le_of_ble_eq_true rfl) ⟨Nat.zero_le _, Nat.zero_le _⟩ rfl dX10_isTrueOf_93 (fun v12 S11 H locs h hW => ?_)
        refine zz_ieq (tgt := 103) C h dX10_isTrueOf_96 (by decide) (fun h => ?_) (fun h => ?_)
        · refine lv_iconst (v := 0) hx hb dX10_isTrueOf_103 (by decide) ?_
          exact w_X10_isTrueOf_b104 (F := F) C h hW (lv_sub hl [] rfl)
        · exact w_X10_isTrueOf_b99 (F := F) C h hW (lv_sub hl [] rfl)
  · refine lv_iload_n hx hb dX10_isTrueOf_13 rfl (lv_at hl 1 rfl) ?_
    refine zz_callSi (As := [.int x0]) C hW h (fun r hr => c_X0_target hr) lk_X10_105 rfl hl.1 ⟨rfl, rfl⟩ ⟨Nat.le_of_ble_eq_true rfl, Nat.le_of_ble_eq_true rfl⟩ (Nat.le_of_ble_eq_true rfl) ⟨Nat.zero_le _, Nat.zero_le _⟩ rfl dX10_isTrueOf_14 (fun v14 S13 H locs h hW => ?_)
    refine lv_iconst (v := 1) hx hb dX10_isTrueOf_17 (by decide) ?_
    refine lv_ixor hx hb dX10_isTrueOf_18 ?_
    refine zz_leti h (fun v15 h => ?_)
    refine lv_istore (lv' := [(5, .int v15), (4, .int v2), (0, .int x0), (1, .int x1), (2, .int x2), (3, .int x3)]) hx hb dX10_isTrueOf_19 hl (by decide) rfl (fun ls hl => ?_)
    refine lv_iload_n hx hb dX10_isTrueOf_21 rfl (lv_at hl 3 rfl) ?_
    refine lv_iload hx hb dX10_isTrueOf_22 (lv_at hl 1 rfl) ?_
    refine lv_iload hx hb dX10_isTrueOf_24 (lv_at hl 0 rfl) ?_
    refine zz_callSi (As := [.int x1, .int v2, .int v15]) C hW h (fun r hr => c_X10_isBoth hr) lk_X10_108 rfl hl.1 ⟨rfl, rfl⟩ ⟨Nat.le_of_ble_eq_true rfl, Nat.le_of_ble_eq_true rfl⟩ (Nat.le_of_ble_eq_true rfl) ⟨Nat.zero_le _, Nat.zero_le _⟩ rfl dX10_isTrueOf_26 (fun v17 S16 H locs h hW => ?_)
    refine zz_ine (tgt := 58) C h dX10_isTrueOf_29 (by decide) (fun h => ?_) (fun h => ?_)
    · exact w_X10_isTrueOf_b58 (F := F) C h hW (lv_sub hl [] rfl)
    · refine lv_iload_n hx hb dX10_isTrueOf_32 rfl (lv_at hl 4 rfl) ?_
      refine lv_iload hx hb dX10_isTrueOf_33 (lv_at hl 1 rfl) ?_
      refine lv_iload hx hb dX10_isTrueOf_35 (lv_at hl 0 rfl) ?_
      refine zz_callSi (As := [.int x2, .int v2, .int v15]) C hW h (fun r hr => c_X10_isBoth hr) lk_X10_108 rfl hl.1 ⟨rfl, rfl⟩ ⟨Nat.le_of_ble_eq_true rfl, Nat.le_of_ble_eq_true rfl⟩ (Nat.le_of_ble_eq_true rfl) ⟨Nat.zero_le _, Nat.zero_le _⟩ rfl dX10_isTrueOf_37 (fun v19 S18 H locs h hW => ?_)
      refine zz_ine (tgt := 58) C h dX10_isTrueOf_40 (by decide) (fun h => ?_) (fun h => ?_)
      · exact w_X10_isTrueOf_b58 (F := F) C h hW (lv_sub hl [] rfl)
      · refine lv_iload_n hx hb dX10_isTrueOf_43 rfl (lv_at hl 5 rfl) ?_
        refine lv_iload hx hb dX10_isTrueOf_44 (lv_at hl 1 rfl) ?_
        refine lv_iload hx hb dX10_isTrueOf_46 (lv_at hl 0 rfl) ?_
        refine zz_callSi (As := [.int x3, .int v2, .int v15]) C hW h (fun r hr => c_X10_isBoth hr) lk_X10_108 rfl hl.1 ⟨rfl, rfl⟩ ⟨Nat.le_of_ble_eq_true rfl, Nat.le_of_ble_eq_true rfl⟩ (Nat.le_of_ble_eq_true rfl) ⟨Nat.zero_le _, Nat.zero_le _⟩ rfl dX10_isTrueOf_48 (fun v21 S20 H locs h hW => ?_)
        refine zz_ine (tgt := 58) C h dX10_isTrueOf_51 (by decide) (fun h => ?_) (fun h => ?_)
        · exact w_X10_isTrueOf_b58 (F := F) C h hW (lv_sub hl [] rfl)
        · refine lv_iconst (v := 1) hx hb dX10_isTrueOf_54 (by decide) ?_
          refine lv_goto (tgt := 59) hx hb dX10_isTrueOf_55 (by decide) ?_
          exact w_X10_isTrueOf_b59 (F := F) C h hW (lv_sub hl [] rfl)
def n_X10_isTrueOf (F : Nat) (S : Zs) (x0 : Int32) (x1 : Int32) (x2 : Int32) (x3 : Int32) : Option (Int32 × Zs) := n_X10_isTrueOf_e F  S x0 x1 x2 x3
theorem c_X10_isTrueOf {l : Launch} {D : va_G} {cs ad : Nat → Nat} {F : Nat} {S : Zs} {x0 : Int32} {x1 : Int32} {x2 : Int32} {x3 : Int32} {q : (Int32 × Zs)} (h : n_X10_isTrueOf F S x0 x1 x2 x3 = some q) : zMi l yX10_isTrueOf cX10_isTrueOf 6 (some .boolean) (zR 2 43) (xG D cs ad) [.int x0, .int x1, .int x2, .int x3] S q :=
  zz_enter (by decide) (Nat.le_of_ble_eq_true rfl) (fun p e s m below meth c ls C hW hl => w_X10_isTrueOf_e (F := F) C h hW (lv_sub hl [0, 1, 2, 3] rfl))
def n_X11_judge_0_b33 (F : Nat)  (S : Zs)  : Option (Int32 × Zs) :=
  some ((-1 : Int32), S)
set_option maxRecDepth 20000 in
set_option maxHeartbeats 4000000 in
theorem w_X11_judge_0_b33 {F : Nat} {q : (Int32 × Zs)} {S : Zs}   {ls : Array Slot} {H : Heap} {locs : List Loc} (C : zC p s m args meth c cX11_judge 8 RX11 (some .int))  (h : n_X11_judge_0_b33 F  S  = some q) (hW : zW (xG D cs ad) s S H locs) (hl : lv_has ls 8 []) : W p l e (zR 3 68) s m args below meth c H locs 0 0 (zQi (xG D cs ad) q below args s) (F0 m 33 ls []) := by
  unfold n_X11_judge_0_b33 at h
  obtain ⟨hx, hb, hml, hown, hts, hret, hlk⟩ := id C
  refine lv_iconst (v := -1) hx hb dX11_judge_33 (by decide) ?_
  exact zz_iret C rfl h hW dX11_judge_34
def n_X11_judge_0_b193 (F : Nat)  (S : Zs) (t0 : Int32) : Option (Int32 × Zs) :=
  some (t0, S)
set_option maxRecDepth 20000 in
set_option maxHeartbeats 4000000 in
theorem w_X11_judge_0_b193 {F : Nat} {q : (Int32 × Zs)} {S : Zs}  {t0 : Int32} {ls : Array Slot} {H : Heap} {locs : List Loc} (C : zC p s m args meth c cX11_judge 8 RX11 (some .int))  (h : n_X11_judge_0_b193 F  S t0 = some q) (hW : zW (xG D cs ad) s S H locs) (hl : lv_has ls 8 []) : W p l e (zR 3 68) s m args below meth c H locs 0 0 (zQi (xG D cs ad) q below args s) (F0 m 193 ls [.int t0]) := by
  unfold n_X11_judge_0_b193 at h
  obtain ⟨hx, hb, hml, hown, hts, hret, hlk⟩ := id C
  exact zz_iret C rfl h hW dX11_judge_193
def n_X11_judge_0_b192 (F : Nat)  (S : Zs)  : Option (Int32 × Zs) :=
  n_X11_judge_0_b193 F  S (0 : Int32)
set_option maxRecDepth 20000 in
set_option maxHeartbeats 4000000 in
theorem w_X11_judge_0_b192 {F : Nat} {q : (Int32 × Zs)} {S : Zs}   {ls : Array Slot} {H : Heap} {locs : List Loc} (C : zC p s m args meth c cX11_judge 8 RX11 (some .int))  (h : n_X11_judge_0_b192 F  S  = some q) (hW : zW (xG D cs ad) s S H locs) (hl : lv_has ls 8 []) : W p l e (zR 3 68) s m args below meth c H locs 0 0 (zQi (xG D cs ad) q below args s) (F0 m 192 ls []) := by
  unfold n_X11_judge_0_b192 at h
  obtain ⟨hx, hb, hml, hown, hts, hret, hlk⟩ := id C
  refine lv_iconst (v := 0) hx hb dX11_judge_192 (by decide) ?_
  exact w_X11_judge_0_b193 (F := F) C h hW (lv_sub hl [] rfl)
def n_X11_judge_0_b164 (F : Nat) (rc108 : Zs → Int32 → Int32 → Int32 → Int32 → Int32 → Int32 → Option (Int32 × Zs)) (S : Zs) (x1 : Int32) (x2 : Int32) (x3 : Int32) (x4 : Int32) (x5 : Int32) (x6 : Int32) : Option (Int32 × Zs) :=
  zlet (x6 + (1 : Int32)) (fun v1 => rc108 S x1 x2 x3 x4 x5 v1)
set_option maxRecDepth 20000 in
set_option maxHeartbeats 4000000 in
theorem w_X11_judge_0_b164 {F : Nat} {q : (Int32 × Zs)} {S : Zs} {rc108 : Zs → Int32 → Int32 → Int32 → Int32 → Int32 → Int32 → Option (Int32 × Zs)} {x1 : Int32} {x2 : Int32} {x3 : Int32} {x4 : Int32} {x5 : Int32} {x6 : Int32} {ls : Array Slot} {H : Heap} {locs : List Loc} (C : zC p s m args meth c cX11_judge 8 RX11 (some .int)) (hrc108 : ∀ (S : Zs) (x1 : Int32) (x2 : Int32) (x3 : Int32) (x4 : Int32) (x5 : Int32) (x6 : Int32) (H : Heap) (locs : List Loc) (ls : Array Slot), rc108 S x1 x2 x3 x4 x5 x6 = some q → zW (xG D cs ad) s S H locs → lv_has ls 8 [(0, .ref (ad 0)), (1, .int x1), (2, .int x2), (3, .int x3), (4, .int x4), (5, .int x5), (6, .int x6)] → W p l e (zR 3 68) s m args below meth c H locs 0 0 (zQi (xG D cs ad) q below args s) (F0 m 108 ls [])) (h : n_X11_judge_0_b164 F rc108 S x1 x2 x3 x4 x5 x6 = some q) (hW : zW (xG D cs ad) s S H locs) (hl : lv_has ls 8 [(0, .ref (ad 0)), (1, .int x1), (2, .int x2), (3, .int x3), (4, .int x4), (5, .int x5), (6, .int x6)]) : W p l e (zR 3 68) s m args below meth c H locs 0 0 (zQi (xG D cs ad) q below args s) (F0 m 164 ls []) := by
  unfold n_X11_judge_0_b164 at h
  obtain ⟨hx, hb, hml, hown, hts, hret, hlk⟩ := id C
  obtain ⟨v1, ev1, h⟩ := zz_name h
  refine lv_iinc (v := v1) (lv' := [(6, .int v1), (0, .ref (ad 0)), (1, .int x1), (2, .int x2), (3, .int x3), (4, .int x4), (5, .int x5)]) hx hb dX11_judge_164 hl (k := 6) rfl ev1.symm (by decide) rfl (fun ls hl => ?_)
  refine lv_goto (tgt := 108) hx hb dX11_judge_167 (by decide) ?_
  exact hrc108 _ _ _ _ _ _ _ _ _ _ h hW (lv_sub hl [1, 2, 3, 4, 5, 6, 0] rfl)
def n_X11_judge_0_b108_l (F : Nat) (rc108 : Zs → Int32 → Int32 → Int32 → Int32 → Int32 → Int32 → Option (Int32 × Zs)) (S : Zs) (x1 : Int32) (x2 : Int32) (x3 : Int32) (x4 : Int32) (x5 : Int32) (x6 : Int32) : Option (Int32 × Zs) :=
  if (12 : Int32) ≤ x6 then (zcl (n_X11_tellTwo_0 F S x4 x5) (fun v2 S1 => if x4 = 0 then (if x5 = 0 then (n_X11_judge_0_b193 F  S1 (1 : Int32)) else (n_X11_judge_0_b192 F  S1 )) else (n_X11_judge_0_b192 F  S1 ))) else (zcl (n_X0_make F S (2 : Int32) ((2 : Int32) * x6) ((2 : Int32) * x6)) (fun v4 S3 => zgf S3 65 (fun v5 => if ((v5 >>> (x6 &&& 31)) &&& (1 : Int32)) = 0 then (n_X11_judge_0_b164 F rc108 S3 x1 x2 x3 x4 x5 x6) else (zcl (n_X10_isTrueOf F S3 v4 x1 x2 x3) (fun v7 S6 => if v7 = 0 then (zlet (x5 ||| ((1 : Int32) <<< (x6 &&& 31))) (fun v8 => n_X11_judge_0_b164 F rc108 S6 x1 x2 x3 x4 v8 x6)) else (n_X11_judge_0_b164 F rc108 S6 x1 x2 x3 x4 x5 x6))))))
set_option maxRecDepth 20000 in
set_option maxHeartbeats 4000000 in
theorem w_X11_judge_0_b108_l {F : Nat} {q : (Int32 × Zs)} {S : Zs} {rc108 : Zs → Int32 → Int32 → Int32 → Int32 → Int32 → Int32 → Option (Int32 × Zs)} {x1 : Int32} {x2 : Int32} {x3 : Int32} {x4 : Int32} {x5 : Int32} {x6 : Int32} {ls : Array Slot} {H : Heap} {locs : List Loc} (C : zC p s m args meth c cX11_judge 8 RX11 (some .int)) (hrc108 : ∀ (S : Zs) (x1 : Int32) (x2 : Int32) (x3 : Int32) (x4 : Int32) (x5 : Int32) (x6 : Int32) (H : Heap) (locs : List Loc) (ls : Array Slot), rc108 S x1 x2 x3 x4 x5 x6 = some q → zW (xG D cs ad) s S H locs → lv_has ls 8 [(0, .ref (ad 0)), (1, .int x1), (2, .int x2), (3, .int x3), (4, .int x4), (5, .int x5), (6, .int x6)] → W p l e (zR 3 68) s m args below meth c H locs 0 0 (zQi (xG D cs ad) q below args s) (F0 m 108 ls [])) (h : n_X11_judge_0_b108_l F rc108 S x1 x2 x3 x4 x5 x6 = some q) (hW : zW (xG D cs ad) s S H locs) (hl : lv_has ls 8 [(0, .ref (ad 0)), (1, .int x1), (2, .int x2), (3, .int x3), (4, .int x4), (5, .int x5), (6, .int x6)]) : W p l e (zR 3 68) s m args below meth c H locs 0 0 (zQi (xG D cs ad) q below args s) (F0 m 108 ls []) := by
  unfold n_X11_judge_0_b108_l at h
  obtain ⟨hx, hb, hml, hown, hts, hret, hlk⟩ := id C
  refine lv_iload hx hb dX11_judge_108 (lv_at hl 6 rfl) ?_
  refine lv_bipush (v := 12) hx hb dX11_judge_110 (by decide) ?_
  refine zz_cge (tgt := 170) C h dX11_judge_112 (by decide) (fun h => ?_) (fun h => ?_)
  · refine lv_aload_n hx hb dX11_judge_170 rfl (lv_at hl 0 rfl) ?_
    refine lv_iload hx hb dX11_judge_171 (lv_at hl 4 rfl) ?_
    refine lv_iload hx hb dX11_judge_173 (lv_at hl 5 rfl) ?_
    refine zz_callVv (As := [.int x4, .int x5]) C hW h (fun r hr => c_X11_tellTwo_0 hr) lk_X11_229 (hW.recv xr_0) rfl hl.1 ⟨rfl, rfl⟩ ⟨Nat.le_of_ble_eq_true rfl, Nat.le_of_ble_eq_true rfl⟩ (Nat.le_of_ble_eq_true rfl) ⟨Nat.zero_le _, Nat.zero_le _⟩ rfl dX11_judge_175 (fun v2 S1 H locs h hW => ?_)
    refine lv_iload hx hb dX11_judge_178 (lv_at hl 4 rfl) ?_
    refine zz_ine (tgt := 192) C h dX11_judge_180 (by decide) (fun h => ?_) (fun h => ?_)
    · exact w_X11_judge_0_b192 (F := F) C h hW (lv_sub hl [] rfl)
    · refine lv_iload hx hb dX11_judge_183 (lv_at hl 5 rfl) ?_
      refine zz_ine (tgt := 192) C h dX11_judge_185 (by decide) (fun h => ?_) (fun h => ?_)
      · exact w_X11_judge_0_b192 (F := F) C h hW (lv_sub hl [] rfl)
      · refine lv_iconst (v := 1) hx hb dX11_judge_188 (by decide) ?_
        refine lv_goto (tgt := 193) hx hb dX11_judge_189 (by decide) ?_
        exact w_X11_judge_0_b193 (F := F) C h hW (lv_sub hl [] rfl)
  · refine lv_iconst (v := 2) hx hb dX11_judge_115 (by decide) ?_
    refine lv_iconst (v := 2) hx hb dX11_judge_116 (by decide) ?_
    refine lv_iload hx hb dX11_judge_117 (lv_at hl 6 rfl) ?_
    refine lv_imul hx hb dX11_judge_119 ?_
    refine lv_iconst (v := 2) hx hb dX11_judge_120 (by decide) ?_
    refine lv_iload hx hb dX11_judge_121 (lv_at hl 6 rfl) ?_
    refine lv_imul hx hb dX11_judge_123 ?_
    refine zz_callSi (As := [.int (2 : Int32), .int ((2 : Int32) * x6), .int ((2 : Int32) * x6)]) C hW h (fun r hr => c_X0_make hr) lk_X11_225 rfl hl.1 ⟨rfl, rfl⟩ ⟨Nat.le_of_ble_eq_true rfl, Nat.le_of_ble_eq_true rfl⟩ (Nat.le_of_ble_eq_true rfl) ⟨Nat.zero_le _, Nat.zero_le _⟩ rfl dX11_judge_124 (fun v4 S3 H locs h hW => ?_)
    refine lv_istore (lv' := [(7, .int v4), (0, .ref (ad 0)), (1, .int x1), (2, .int x2), (3, .int x3), (4, .int x4), (5, .int x5), (6, .int x6)]) hx hb dX11_judge_127 hl (by decide) rfl (fun ls hl => ?_)
    refine lv_aload_n hx hb dX11_judge_129 rfl (lv_at hl 1 rfl) ?_
    refine xg_0_1 C hW fl_X11_27 dX11_judge_130 ?_
    refine xg_3_5 C hW h fl_X11_123 dX11_judge_133 (fun v5 h => ?_)
    refine lv_iload hx hb dX11_judge_136 (lv_at hl 7 rfl) ?_
    refine lv_ishr hx hb dX11_judge_138 ?_
    refine lv_iconst (v := 1) hx hb dX11_judge_139 (by decide) ?_
    refine lv_iand hx hb dX11_judge_140 ?_
    refine zz_ieq (tgt := 164) C h dX11_judge_141 (by decide) (fun h => ?_) (fun h => ?_)
    · exact w_X11_judge_0_b164 (F := F) C hrc108 h hW (lv_sub hl [1, 2, 3, 4, 5, 6, 7] rfl)
    · refine lv_iload hx hb dX11_judge_144 (lv_at hl 0 rfl) ?_
      refine lv_iload_n hx hb dX11_judge_146 rfl (lv_at hl 2 rfl) ?_
      refine lv_iload_n hx hb dX11_judge_147 rfl (lv_at hl 3 rfl) ?_
      refine lv_iload_n hx hb dX11_judge_148 rfl (lv_at hl 4 rfl) ?_
      refine zz_callSi (As := [.int v4, .int x1, .int x2, .int x3]) C hW h (fun r hr => c_X10_isTrueOf hr) lk_X11_221 rfl hl.1 ⟨rfl, rfl⟩ ⟨Nat.le_of_ble_eq_true rfl, Nat.le_of_ble_eq_true rfl⟩ (Nat.le_of_ble_eq_true rfl) ⟨Nat.zero_le _, Nat.zero_le _⟩ rfl dX11_judge_149 (fun v7 S6 H locs h hW => ?_)
      refine zz_ine (tgt := 164) C h dX11_judge_152 (by decide) (fun h => ?_) (fun h => ?_)
      · exact w_X11_judge_0_b164 (F := F) C hrc108 h hW (lv_sub hl [1, 2, 3, 4, 5, 6, 7] rfl)
      · refine lv_iload hx hb dX11_judge_155 (lv_at hl 6 rfl) ?_
        refine lv_iconst (v := 1) hx hb dX11_judge_157 (by decide) ?_
        refine lv_iload hx hb dX11_judge_158 (lv_at hl 7 rfl) ?_
        refine lv_ishl hx hb dX11_judge_160 ?_
        refine lv_ior hx hb dX11_judge_161 ?_
        refine zz_leti h (fun v8 h => ?_)
        refine lv_istore (lv' := [(5, .int v8), (7, .int v4), (0, .ref (ad 0)), (1, .int x1), (2, .int x2), (3, .int x3), (4, .int x4), (6, .int x6)]) hx hb dX11_judge_162 hl (by decide) rfl (fun ls hl => ?_)
        exact w_X11_judge_0_b164 (F := F) C hrc108 h hW (lv_sub hl [2, 3, 4, 5, 6, 0, 7] rfl)
def n_X11_judge_0_b108 (F : Nat)  (S : Zs) (x1 : Int32) (x2 : Int32) (x3 : Int32) (x4 : Int32) (x5 : Int32) (x6 : Int32) : Option (Int32 × Zs) :=
  zfix (fun (rc : (Zs × Int32 × Int32 × Int32 × Int32 × Int32 × Int32) → Option (Int32 × Zs)) (u : (Zs × Int32 × Int32 × Int32 × Int32 × Int32 × Int32)) => n_X11_judge_0_b108_l F  (fun S x1 x2 x3 x4 x5 x6 => rc (S, x1, x2, x3, x4, x5, x6)) u.1 u.2.1 u.2.2.1 u.2.2.2.1 u.2.2.2.2.1 u.2.2.2.2.2.1 u.2.2.2.2.2.2) F (S, x1, x2, x3, x4, x5, x6)
theorem w_X11_judge_0_b108 {F : Nat} {q : (Int32 × Zs)}  (C : zC p s m args meth c cX11_judge 8 RX11 (some .int))  : ∀ (n : Nat) (S : Zs) (x1 : Int32) (x2 : Int32) (x3 : Int32) (x4 : Int32) (x5 : Int32) (x6 : Int32) (H : Heap) (locs : List Loc) (ls : Array Slot), zfix (fun (rc : (Zs × Int32 × Int32 × Int32 × Int32 × Int32 × Int32) → Option (Int32 × Zs)) (u : (Zs × Int32 × Int32 × Int32 × Int32 × Int32 × Int32)) => n_X11_judge_0_b108_l F  (fun S x1 x2 x3 x4 x5 x6 => rc (S, x1, x2, x3, x4, x5, x6)) u.1 u.2.1 u.2.2.1 u.2.2.2.1 u.2.2.2.2.1 u.2.2.2.2.2.1 u.2.2.2.2.2.2) n (S, x1, x2, x3, x4, x5, x6) = some q → zW (xG D cs ad) s S H locs → lv_has ls 8 [(0, .ref (ad 0)), (1, .int x1), (2, .int x2), (3, .int x3), (4, .int x4), (5, .int x5), (6, .int x6)] → W p l e (zR 3 68) s m args below meth c H locs 0 0 (zQi (xG D cs ad) q below args s) (F0 m 108 ls []) := by
  intro n
  induction n with
  | zero => intro S x1 x2 x3 x4 x5 x6 H locs ls h; exact absurd h (fun h => by cases h)
  | succ n ih => intro S x1 x2 x3 x4 x5 x6 H locs ls h hW hl; exact w_X11_judge_0_b108_l (F := F) C (fun S x1 x2 x3 x4 x5 x6 H locs ls h hW hl => ih S x1 x2 x3 x4 x5 x6 H locs ls h hW hl) h hW hl
def n_X11_judge_0_b96 (F : Nat) (rc41 : Zs → Int32 → Int32 → Int32 → Int32 → Int32 → Option (Int32 × Zs)) (S : Zs) (x1 : Int32) (x2 : Int32) (x3 : Int32) (x4 : Int32) (x5 : Int32) : Option (Int32 × Zs) :=
  zlet (x5 + (1 : Int32)) (fun v1 => rc41 S x1 x2 x3 x4 v1)
set_option maxRecDepth 20000 in
set_option maxHeartbeats 4000000 in
theorem w_X11_judge_0_b96 {F : Nat} {q : (Int32 × Zs)} {S : Zs} {rc41 : Zs → Int32 → Int32 → Int32 → Int32 → Int32 → Option (Int32 × Zs)} {x1 : Int32} {x2 : Int32} {x3 : Int32} {x4 : Int32} {x5 : Int32} {ls : Array Slot} {H : Heap} {locs : List Loc} (C : zC p s m args meth c cX11_judge 8 RX11 (some .int)) (hrc41 : ∀ (S : Zs) (x1 : Int32) (x2 : Int32) (x3 : Int32) (x4 : Int32) (x5 : Int32) (H : Heap) (locs : List Loc) (ls : Array Slot), rc41 S x1 x2 x3 x4 x5 = some q → zW (xG D cs ad) s S H locs → lv_has ls 8 [(0, .ref (ad 0)), (1, .int x1), (2, .int x2), (3, .int x3), (4, .int x4), (5, .int x5)] → W p l e (zR 3 68) s m args below meth c H locs 0 0 (zQi (xG D cs ad) q below args s) (F0 m 41 ls [])) (h : n_X11_judge_0_b96 F rc41 S x1 x2 x3 x4 x5 = some q) (hW : zW (xG D cs ad) s S H locs) (hl : lv_has ls 8 [(0, .ref (ad 0)), (1, .int x1), (2, .int x2), (3, .int x3), (4, .int x4), (5, .int x5)]) : W p l e (zR 3 68) s m args below meth c H locs 0 0 (zQi (xG D cs ad) q below args s) (F0 m 96 ls []) := by
  unfold n_X11_judge_0_b96 at h
  obtain ⟨hx, hb, hml, hown, hts, hret, hlk⟩ := id C
  obtain ⟨v1, ev1, h⟩ := zz_name h
  refine lv_iinc (v := v1) (lv' := [(5, .int v1), (0, .ref (ad 0)), (1, .int x1), (2, .int x2), (3, .int x3), (4, .int x4)]) hx hb dX11_judge_96 hl (k := 5) rfl ev1.symm (by decide) rfl (fun ls hl => ?_)
  refine lv_goto (tgt := 41) hx hb dX11_judge_99 (by decide) ?_
  exact hrc41 _ _ _ _ _ _ _ _ _ h hW (lv_sub hl [1, 2, 3, 4, 5, 0] rfl)
def n_X11_judge_0_b41_l (F : Nat) (rc41 : Zs → Int32 → Int32 → Int32 → Int32 → Int32 → Option (Int32 × Zs)) (S : Zs) (x1 : Int32) (x2 : Int32) (x3 : Int32) (x4 : Int32) (x5 : Int32) : Option (Int32 × Zs) :=
  zgf S 62 (fun v1 => if v1 ≤ x5 then (n_X11_judge_0_b108 F  S x1 x2 x3 x4 (0 : Int32) (0 : Int32)) else (zcl (n_X2_active_3 F S ) (fun v3 S2 => if ((v3 >>> (x5 &&& 31)) &&& (1 : Int32)) = 0 then (n_X11_judge_0_b96 F rc41 S2 x1 x2 x3 x4 x5) else (zld S2 4 16 x5 (fun v4 => zcl (n_X10_isTrueOf F S2 v4 x1 x2 x3) (fun v6 S5 => if v6 = 0 then (zlet (x4 ||| ((1 : Int32) <<< (x5 &&& 31))) (fun v7 => n_X11_judge_0_b96 F rc41 S5 x1 x2 x3 v7 x5)) else (n_X11_judge_0_b96 F rc41 S5 x1 x2 x3 x4 x5)))))))
set_option maxRecDepth 20000 in
set_option maxHeartbeats 4000000 in
theorem w_X11_judge_0_b41_l {F : Nat} {q : (Int32 × Zs)} {S : Zs} {rc41 : Zs → Int32 → Int32 → Int32 → Int32 → Int32 → Option (Int32 × Zs)} {x1 : Int32} {x2 : Int32} {x3 : Int32} {x4 : Int32} {x5 : Int32} {ls : Array Slot} {H : Heap} {locs : List Loc} (C : zC p s m args meth c cX11_judge 8 RX11 (some .int)) (hrc41 : ∀ (S : Zs) (x1 : Int32) (x2 : Int32) (x3 : Int32) (x4 : Int32) (x5 : Int32) (H : Heap) (locs : List Loc) (ls : Array Slot), rc41 S x1 x2 x3 x4 x5 = some q → zW (xG D cs ad) s S H locs → lv_has ls 8 [(0, .ref (ad 0)), (1, .int x1), (2, .int x2), (3, .int x3), (4, .int x4), (5, .int x5)] → W p l e (zR 3 68) s m args below meth c H locs 0 0 (zQi (xG D cs ad) q below args s) (F0 m 41 ls [])) (h : n_X11_judge_0_b41_l F rc41 S x1 x2 x3 x4 x5 = some q) (hW : zW (xG D cs ad) s S H locs) (hl : lv_has ls 8 [(0, .ref (ad 0)), (1, .int x1), (2, .int x2), (3, .int x3), (4, .int x4), (5, .int x5)]) : W p l e (zR 3 68) s m args below meth c H locs 0 0 (zQi (xG D cs ad) q below args s) (F0 m 41 ls []) := by
  unfold n_X11_judge_0_b41_l at h
  obtain ⟨hx, hb, hml, hown, hts, hret, hlk⟩ := id C
  refine lv_iload hx hb dX11_judge_41 (lv_at hl 5 rfl) ?_
  refine lv_aload_n hx hb dX11_judge_43 rfl (lv_at hl 0 rfl) ?_
  refine xg_0_1 C hW fl_X11_27 dX11_judge_44 ?_
  refine xg_3_2 C hW h fl_X11_101 dX11_judge_47 (fun v1 h => ?_)
  refine zz_cge (tgt := 102) C h dX11_judge_50 (by decide) (fun h => ?_) (fun h => ?_)
  · refine lv_iconst (v := 0) hx hb dX11_judge_102 (by decide) ?_
    refine lv_istore (lv' := [(5, .int (0 : Int32)), (0, .ref (ad 0)), (1, .int x1), (2, .int x2), (3, .int x3), (4, .int x4)]) hx hb dX11_judge_103 hl (by decide) rfl (fun ls hl => ?_)
    refine lv_iconst (v := 0) hx hb dX11_judge_105 (by decide) ?_
    refine lv_istore (lv' := [(6, .int (0 : Int32)), (5, .int (0 : Int32)), (0, .ref (ad 0)), (1, .int x1), (2, .int x2), (3, .int x3), (4, .int x4)]) hx hb dX11_judge_106 hl (by decide) rfl (fun ls hl => ?_)
    exact w_X11_judge_0_b108 (F := F) C F _ _ _ _ _ _ _ _ _ _ h hW (lv_sub hl [2, 3, 4, 5, 6, 1, 0] rfl)
  · refine lv_aload_n hx hb dX11_judge_53 rfl (lv_at hl 0 rfl) ?_
    refine xg_0_1 C hW fl_X11_27 dX11_judge_54 ?_
    refine zz_callVi (As := []) C hW h (fun r hr => c_X2_active_3 hr) lk_X11_144 (hW.recv xr_3) rfl hl.1 ⟨rfl, rfl⟩ ⟨Nat.le_of_ble_eq_true rfl, Nat.le_of_ble_eq_true rfl⟩ (Nat.le_of_ble_eq_true rfl) ⟨Nat.zero_le _, Nat.zero_le _⟩ rfl dX11_judge_57 (fun v3 S2 H locs h hW => ?_)
    refine lv_iload hx hb dX11_judge_60 (lv_at hl 5 rfl) ?_
    refine lv_ishr hx hb dX11_judge_62 ?_
    refine lv_iconst (v := 1) hx hb dX11_judge_63 (by decide) ?_
    refine lv_iand hx hb dX11_judge_64 ?_
    refine zz_ieq (tgt := 96) C h dX11_judge_65 (by decide) (fun h => ?_) (fun h => ?_)
    · exact w_X11_judge_0_b96 (F := F) C hrc41 h hW (lv_sub hl [0, 1, 2, 3, 4, 5] rfl)
    · refine lv_aload_n hx hb dX11_judge_68 rfl (lv_at hl 0 rfl) ?_
      refine xg_0_1 C hW fl_X11_27 dX11_judge_69 ?_
      refine xg_3_0 C hW fl_X11_218 dX11_judge_72 ?_
      refine lv_iload hx hb dX11_judge_75 (lv_at hl 5 rfl) ?_
      refine xl_4 C hW h dX11_judge_77 (fun v4 h => ?_)
      refine lv_iload_n hx hb dX11_judge_78 rfl (lv_at hl 1 rfl) ?_
      refine lv_iload_n hx hb dX11_judge_79 rfl (lv_at hl 2 rfl) ?_
      refine lv_iload_n hx hb dX11_judge_80 rfl (lv_at hl 3 rfl) ?_
      refine zz_callSi (As := [.int v4, .int x1, .int x2, .int x3]) C hW h (fun r hr => c_X10_isTrueOf hr) lk_X11_221 rfl hl.1 ⟨rfl, rfl⟩ ⟨Nat.le_of_ble_eq_true rfl, Nat.le_of_ble_eq_true rfl⟩ (Nat.le_of_ble_eq_true rfl) ⟨Nat.zero_le _, Nat.zero_le _⟩ rfl dX11_judge_81 (fun v6 S5 H locs h hW => ?_)
      refine zz_ine (tgt := 96) C h dX11_judge_84 (by decide) (fun h => ?_) (fun h => ?_)
      · exact w_X11_judge_0_b96 (F := F) C hrc41 h hW (lv_sub hl [0, 1, 2, 3, 4, 5] rfl)
      · refine lv_iload hx hb dX11_judge_87 (lv_at hl 4 rfl) ?_
        refine lv_iconst (v := 1) hx hb dX11_judge_89 (by decide) ?_
        refine lv_iload hx hb dX11_judge_90 (lv_at hl 5 rfl) ?_
        refine lv_ishl hx hb dX11_judge_92 ?_
        refine lv_ior hx hb dX11_judge_93 ?_
        refine zz_leti h (fun v7 h => ?_)
        refine lv_istore (lv' := [(4, .int v7), (0, .ref (ad 0)), (1, .int x1), (2, .int x2), (3, .int x3), (5, .int x5)]) hx hb dX11_judge_94 hl (by decide) rfl (fun ls hl => ?_)
        exact w_X11_judge_0_b96 (F := F) C hrc41 h hW (lv_sub hl [1, 2, 3, 4, 0, 5] rfl)
def n_X11_judge_0_b41 (F : Nat)  (S : Zs) (x1 : Int32) (x2 : Int32) (x3 : Int32) (x4 : Int32) (x5 : Int32) : Option (Int32 × Zs) :=
  zfix (fun (rc : (Zs × Int32 × Int32 × Int32 × Int32 × Int32) → Option (Int32 × Zs)) (u : (Zs × Int32 × Int32 × Int32 × Int32 × Int32)) => n_X11_judge_0_b41_l F  (fun S x1 x2 x3 x4 x5 => rc (S, x1, x2, x3, x4, x5)) u.1 u.2.1 u.2.2.1 u.2.2.2.1 u.2.2.2.2.1 u.2.2.2.2.2) F (S, x1, x2, x3, x4, x5)
theorem w_X11_judge_0_b41 {F : Nat} {q : (Int32 × Zs)}  (C : zC p s m args meth c cX11_judge 8 RX11 (some .int))  : ∀ (n : Nat) (S : Zs) (x1 : Int32) (x2 : Int32) (x3 : Int32) (x4 : Int32) (x5 : Int32) (H : Heap) (locs : List Loc) (ls : Array Slot), zfix (fun (rc : (Zs × Int32 × Int32 × Int32 × Int32 × Int32) → Option (Int32 × Zs)) (u : (Zs × Int32 × Int32 × Int32 × Int32 × Int32)) => n_X11_judge_0_b41_l F  (fun S x1 x2 x3 x4 x5 => rc (S, x1, x2, x3, x4, x5)) u.1 u.2.1 u.2.2.1 u.2.2.2.1 u.2.2.2.2.1 u.2.2.2.2.2) n (S, x1, x2, x3, x4, x5) = some q → zW (xG D cs ad) s S H locs → lv_has ls 8 [(0, .ref (ad 0)), (1, .int x1), (2, .int x2), (3, .int x3), (4, .int x4), (5, .int x5)] → W p l e (zR 3 68) s m args below meth c H locs 0 0 (zQi (xG D cs ad) q below args s) (F0 m 41 ls []) := by
  intro n
  induction n with
  | zero => intro S x1 x2 x3 x4 x5 H locs ls h; exact absurd h (fun h => by cases h)
  | succ n ih => intro S x1 x2 x3 x4 x5 H locs ls h hW hl; exact w_X11_judge_0_b41_l (F := F) C (fun S x1 x2 x3 x4 x5 H locs ls h hW hl => ih S x1 x2 x3 x4 x5 H locs ls h hW hl) h hW hl
def n_X11_judge_0_e (F : Nat)  (S : Zs) (x1 : Int32) (x2 : Int32) (x3 : Int32) : Option (Int32 × Zs) :=
  if x1 < 0 then (n_X11_judge_0_b33 F  S ) else (if (4096 : Int32) < x1 then (n_X11_judge_0_b33 F  S ) else (if x2 < 0 then (n_X11_judge_0_b33 F  S ) else (if (4096 : Int32) < x2 then (n_X11_judge_0_b33 F  S ) else (if x3 < 0 then (n_X11_judge_0_b33 F  S ) else (if x3 ≤ (4096 : Int32) then (n_X11_judge_0_b41 F  S x1 x2 x3 (0 : Int32) (0 : Int32)) else (n_X11_judge_0_b33 F  S ))))))
set_option maxRecDepth 20000 in
set_option maxHeartbeats 4000000 in
theorem w_X11_judge_0_e {F : Nat} {q : (Int32 × Zs)} {S : Zs}  {x1 : Int32} {x2 : Int32} {x3 : Int32} {ls : Array Slot} {H : Heap} {locs : List Loc} (C : zC p s m args meth c cX11_judge 8 RX11 (some .int))  (h : n_X11_judge_0_e F  S x1 x2 x3 = some q) (hW : zW (xG D cs ad) s S H locs) (hl : lv_has ls 8 [(0, .ref (ad 0)), (1, .int x1), (2, .int x2), (3, .int x3)]) : W p l e (zR 3 68) s m args below meth c H locs 0 0 (zQi (xG D cs ad) q below args s) (F0 m 0 ls []) := by
  unfold n_X11_judge_0_e at h
  obtain ⟨hx, hb, hml, hown, hts, hret, hlk⟩ := id C
  refine lv_iload_n hx hb dX11_judge_0 rfl (lv_at hl 1 rfl) ?_
  refine zz_ilt (tgt := 33) C h dX11_judge_1 (by decide) (fun h => ?_) (fun h => ?_)
  · exact w_X11_judge_0_b33 (F := F) C h hW (lv_sub hl [] rfl)
  · refine lv_iload_n hx hb dX11_judge_4 rfl (lv_at hl 1 rfl) ?_
    refine lv_sipush (v := 4096) hx hb dX11_judge_5 (by decide) ?_
    refine zz_cgt (tgt := 33) C h dX11_judge_8 (by decide) (fun h => ?_) (fun h => ?_)
    · exact w_X11_judge_0_b33 (F := F) C h hW (lv_sub hl [] rfl)
    · refine lv_iload_n hx hb dX11_judge_11 rfl (lv_at hl 2 rfl) ?_
      refine zz_ilt (tgt := 33) C h dX11_judge_12 (by decide) (fun h => ?_) (fun h => ?_)
      · exact w_X11_judge_0_b33 (F := F) C h hW (lv_sub hl [] rfl)
      · refine lv_iload_n hx hb dX11_judge_15 rfl (lv_at hl 2 rfl) ?_
        refine lv_sipush (v := 4096) hx hb dX11_judge_16 (by decide) ?_
        refine zz_cgt (tgt := 33) C h dX11_judge_19 (by decide) (fun h => ?_) (fun h => ?_)
        · exact w_X11_judge_0_b33 (F := F) C h hW (lv_sub hl [] rfl)
        · refine lv_iload_n hx hb dX11_judge_22 rfl (lv_at hl 3 rfl) ?_
          refine zz_ilt (tgt := 33) C h dX11_judge_23 (by decide) (fun h => ?_) (fun h => ?_)
          · exact w_X11_judge_0_b33 (F := F) C h hW (lv_sub hl [] rfl)
          · refine lv_iload_n hx hb dX11_judge_26 rfl (lv_at hl 3 rfl) ?_
            refine lv_sipush (v := 4096) hx hb dX11_judge_27 (by decide) ?_
            refine zz_cle (tgt := 35) C h dX11_judge_30 (by decide) (fun h => ?_) (fun h => ?_)
            · refine lv_iconst (v := 0) hx hb dX11_judge_35 (by decide) ?_
              refine lv_istore (lv' := [(4, .int (0 : Int32)), (0, .ref (ad 0)), (1, .int x1), (2, .int x2), (3, .int x3)]) hx hb dX11_judge_36 hl (by decide) rfl (fun ls hl => ?_)
              refine lv_iconst (v := 0) hx hb dX11_judge_38 (by decide) ?_
              refine lv_istore (lv' := [(5, .int (0 : Int32)), (4, .int (0 : Int32)), (0, .ref (ad 0)), (1, .int x1), (2, .int x2), (3, .int x3)]) hx hb dX11_judge_39 hl (by decide) rfl (fun ls hl => ?_)
              exact w_X11_judge_0_b41 (F := F) C F _ _ _ _ _ _ _ _ _ h hW (lv_sub hl [2, 3, 4, 5, 1, 0] rfl)
            · exact w_X11_judge_0_b33 (F := F) C h hW (lv_sub hl [] rfl)
def n_X11_judge_0 (F : Nat) (S : Zs) (x1 : Int32) (x2 : Int32) (x3 : Int32) : Option (Int32 × Zs) := n_X11_judge_0_e F  S x1 x2 x3
theorem c_X11_judge_0 {l : Launch} {D : va_G} {cs ad : Nat → Nat} {F : Nat} {S : Zs} {x1 : Int32} {x2 : Int32} {x3 : Int32} {q : (Int32 × Zs)} (h : n_X11_judge_0 F S x1 x2 x3 = some q) : zMi l yX11_judge cX11_judge 8 (some .int) (zR 3 68) (xG D cs ad) [.ref (ad 0), .int x1, .int x2, .int x3] S q :=
  zz_enter (by decide) (Nat.le_of_ble_eq_true rfl) (fun p e s m below meth c ls C hW hl => w_X11_judge_0_e (F := F) C h hW (lv_sub hl [0, 1, 2, 3] rfl))
def n_X0_isForm_b14 (F : Nat)  (S : Zs) (t0 : Int32) : Option (Int32 × Zs) :=
  zrb t0 S
set_option maxRecDepth 20000 in
set_option maxHeartbeats 4000000 in
theorem w_X0_isForm_b14 {F : Nat} {q : (Int32 × Zs)} {S : Zs}  {t0 : Int32} {ls : Array Slot} {H : Heap} {locs : List Loc} (C : zC p s m args meth c cX0_isForm 1 RX0 (some .boolean))  (h : n_X0_isForm_b14 F  S t0 = some q) (hW : zW (xG D cs ad) s S H locs) (hl : lv_has ls 1 []) : W p l e (zR 0 0) s m args below meth c H locs 0 0 (zQi (xG D cs ad) q below args s) (F0 m 14 ls [.int t0]) := by
  unfold n_X0_isForm_b14 at h
  obtain ⟨hx, hb, hml, hown, hts, hret, hlk⟩ := id C
  exact zz_zret C rfl h hW dX0_isForm_14
def n_X0_isForm_b13 (F : Nat)  (S : Zs)  : Option (Int32 × Zs) :=
  n_X0_isForm_b14 F  S (0 : Int32)
set_option maxRecDepth 20000 in
set_option maxHeartbeats 4000000 in
theorem w_X0_isForm_b13 {F : Nat} {q : (Int32 × Zs)} {S : Zs}   {ls : Array Slot} {H : Heap} {locs : List Loc} (C : zC p s m args meth c cX0_isForm 1 RX0 (some .boolean))  (h : n_X0_isForm_b13 F  S  = some q) (hW : zW (xG D cs ad) s S H locs) (hl : lv_has ls 1 []) : W p l e (zR 0 0) s m args below meth c H locs 0 0 (zQi (xG D cs ad) q below args s) (F0 m 13 ls []) := by
  unfold n_X0_isForm_b13 at h
  obtain ⟨hx, hb, hml, hown, hts, hret, hlk⟩ := id C
  refine lv_iconst (v := 0) hx hb dX0_isForm_13 (by decide) ?_
  exact w_X0_isForm_b14 (F := F) C h hW (lv_sub hl [] rfl)
def n_X0_isForm_e (F : Nat)  (S : Zs) (x0 : Int32) : Option (Int32 × Zs) :=
  if x0 < 0 then (n_X0_isForm_b13 F  S ) else (if (3 : Int32) < x0 then (n_X0_isForm_b13 F  S ) else (n_X0_isForm_b14 F  S (1 : Int32)))
set_option maxRecDepth 20000 in
set_option maxHeartbeats 4000000 in
theorem w_X0_isForm_e {F : Nat} {q : (Int32 × Zs)} {S : Zs}  {x0 : Int32} {ls : Array Slot} {H : Heap} {locs : List Loc} (C : zC p s m args meth c cX0_isForm 1 RX0 (some .boolean))  (h : n_X0_isForm_e F  S x0 = some q) (hW : zW (xG D cs ad) s S H locs) (hl : lv_has ls 1 [(0, .int x0)]) : W p l e (zR 0 0) s m args below meth c H locs 0 0 (zQi (xG D cs ad) q below args s) (F0 m 0 ls []) := by
  unfold n_X0_isForm_e at h
  obtain ⟨hx, hb, hml, hown, hts, hret, hlk⟩ := id C
  refine lv_iload_n hx hb dX0_isForm_0 rfl (lv_at hl 0 rfl) ?_
  refine zz_ilt (tgt := 13) C h dX0_isForm_1 (by decide) (fun h => ?_) (fun h => ?_)
  · exact w_X0_isForm_b13 (F := F) C h hW (lv_sub hl [] rfl)
  · refine lv_iload_n hx hb dX0_isForm_4 rfl (lv_at hl 0 rfl) ?_
    refine lv_iconst (v := 3) hx hb dX0_isForm_5 (by decide) ?_
    refine zz_cgt (tgt := 13) C h dX0_isForm_6 (by decide) (fun h => ?_) (fun h => ?_)
    · exact w_X0_isForm_b13 (F := F) C h hW (lv_sub hl [] rfl)
    · refine lv_iconst (v := 1) hx hb dX0_isForm_9 (by decide) ?_
      refine lv_goto (tgt := 14) hx hb dX0_isForm_10 (by decide) ?_
      exact w_X0_isForm_b14 (F := F) C h hW (lv_sub hl [] rfl)
def n_X0_isForm (F : Nat) (S : Zs) (x0 : Int32) : Option (Int32 × Zs) := n_X0_isForm_e F  S x0
theorem c_X0_isForm {l : Launch} {D : va_G} {cs ad : Nat → Nat} {F : Nat} {S : Zs} {x0 : Int32} {q : (Int32 × Zs)} (h : n_X0_isForm F S x0 = some q) : zMi l yX0_isForm cX0_isForm 1 (some .boolean) (zR 0 0) (xG D cs ad) [.int x0] S q :=
  zz_enter (by decide) (Nat.le_of_ble_eq_true rfl) (fun p e s m below meth c ls C hW hl => w_X0_isForm_e (F := F) C h hW (lv_sub hl [0] rfl))
def n_X4_firstPremise_b21 (F : Nat)  (S : Zs) (t0 : Int32) : Option (Int32 × Zs) :=
  some (t0, S)
set_option maxRecDepth 20000 in
set_option maxHeartbeats 4000000 in
theorem w_X4_firstPremise_b21 {F : Nat} {q : (Int32 × Zs)} {S : Zs}  {t0 : Int32} {ls : Array Slot} {H : Heap} {locs : List Loc} (C : zC p s m args meth c cX4_firstPremise 4 RX4 (some .int))  (h : n_X4_firstPremise_b21 F  S t0 = some q) (hW : zW (xG D cs ad) s S H locs) (hl : lv_has ls 4 []) : W p l e (zR 1 22) s m args below meth c H locs 0 0 (zQi (xG D cs ad) q below args s) (F0 m 21 ls [.int t0]) := by
  unfold n_X4_firstPremise_b21 at h
  obtain ⟨hx, hb, hml, hown, hts, hret, hlk⟩ := id C
  exact zz_iret C rfl h hW dX4_firstPremise_21
def n_X4_firstPremise_e (F : Nat)  (S : Zs) (x0 : Int32) (x1 : Int32) (x2 : Int32) (x3 : Int32) : Option (Int32 × Zs) :=
  if (x0 &&& (1 : Int32)) = 0 then (zcl (n_X0_make F S x1 x3 x2) (fun v2 S1 => n_X4_firstPremise_b21 F  S1 v2)) else (zcl (n_X0_make F S x1 x2 x3) (fun v4 S3 => n_X4_firstPremise_b21 F  S3 v4))
set_option maxRecDepth 20000 in
set_option maxHeartbeats 4000000 in
theorem w_X4_firstPremise_e {F : Nat} {q : (Int32 × Zs)} {S : Zs}  {x0 : Int32} {x1 : Int32} {x2 : Int32} {x3 : Int32} {ls : Array Slot} {H : Heap} {locs : List Loc} (C : zC p s m args meth c cX4_firstPremise 4 RX4 (some .int))  (h : n_X4_firstPremise_e F  S x0 x1 x2 x3 = some q) (hW : zW (xG D cs ad) s S H locs) (hl : lv_has ls 4 [(0, .int x0), (1, .int x1), (2, .int x2), (3, .int x3)]) : W p l e (zR 1 22) s m args below meth c H locs 0 0 (zQi (xG D cs ad) q below args s) (F0 m 0 ls []) := by
  unfold n_X4_firstPremise_e at h
  obtain ⟨hx, hb, hml, hown, hts, hret, hlk⟩ := id C
  refine lv_iload_n hx hb dX4_firstPremise_0 rfl (lv_at hl 0 rfl) ?_
  refine lv_iconst (v := 1) hx hb dX4_firstPremise_1 (by decide) ?_
  refine lv_iand hx hb dX4_firstPremise_2 ?_
  refine zz_ieq (tgt := 15) C h dX4_firstPremise_3 (by decide) (fun h => ?_) (fun h => ?_)
  · refine lv_iload_n hx hb dX4_firstPremise_15 rfl (lv_at hl 1 rfl) ?_
    refine lv_iload_n hx hb dX4_firstPremise_16 rfl (lv_at hl 3 rfl) ?_
    refine lv_iload_n hx hb dX4_firstPremise_17 rfl (lv_at hl 2 rfl) ?_
    refine zz_callSi (As := [.int x1, .int x3, .int x2]) C hW h (fun r hr => c_X0_make hr) lk_X4_18 rfl hl.1 ⟨rfl, rfl⟩ ⟨Nat.le_of_ble_eq_true rfl, Nat.le_of_ble_eq_true rfl⟩ (Nat.le_of_ble_eq_true rfl) ⟨Nat.zero_le _, Nat.zero_le _⟩ rfl dX4_firstPremise_18 (fun v2 S1 H locs h hW => ?_)
    exact w_X4_firstPremise_b21 (F := F) C h hW (lv_sub hl [] rfl)
  · refine lv_iload_n hx hb dX4_firstPremise_6 rfl (lv_at hl 1 rfl) ?_
    refine lv_iload_n hx hb dX4_firstPremise_7 rfl (lv_at hl 2 rfl) ?_
    refine lv_iload_n hx hb dX4_firstPremise_8 rfl (lv_at hl 3 rfl) ?_
    refine zz_callSi (As := [.int x1, .int x2, .int x3]) C hW h (fun r hr => c_X0_make hr) lk_X4_18 rfl hl.1 ⟨rfl, rfl⟩ ⟨Nat.le_of_ble_eq_true rfl, Nat.le_of_ble_eq_true rfl⟩ (Nat.le_of_ble_eq_true rfl) ⟨Nat.zero_le _, Nat.zero_le _⟩ rfl dX4_firstPremise_9 (fun v4 S3 H locs h hW => ?_)
    refine lv_goto (tgt := 21) hx hb dX4_firstPremise_12 (by decide) ?_
    exact w_X4_firstPremise_b21 (F := F) C h hW (lv_sub hl [] rfl)
def n_X4_firstPremise (F : Nat) (S : Zs) (x0 : Int32) (x1 : Int32) (x2 : Int32) (x3 : Int32) : Option (Int32 × Zs) := n_X4_firstPremise_e F  S x0 x1 x2 x3
theorem c_X4_firstPremise {l : Launch} {D : va_G} {cs ad : Nat → Nat} {F : Nat} {S : Zs} {x0 : Int32} {x1 : Int32} {x2 : Int32} {x3 : Int32} {q : (Int32 × Zs)} (h : n_X4_firstPremise F S x0 x1 x2 x3 = some q) : zMi l yX4_firstPremise cX4_firstPremise 4 (some .int) (zR 1 22) (xG D cs ad) [.int x0, .int x1, .int x2, .int x3] S q :=
  zz_enter (by decide) (Nat.le_of_ble_eq_true rfl) (fun p e s m below meth c ls C hW hl => w_X4_firstPremise_e (F := F) C h hW (lv_sub hl [0, 1, 2, 3] rfl))
def n_X4_secondPremise_b20 (F : Nat)  (S : Zs) (t0 : Int32) : Option (Int32 × Zs) :=
  some (t0, S)
set_option maxRecDepth 20000 in
set_option maxHeartbeats 4000000 in
theorem w_X4_secondPremise_b20 {F : Nat} {q : (Int32 × Zs)} {S : Zs}  {t0 : Int32} {ls : Array Slot} {H : Heap} {locs : List Loc} (C : zC p s m args meth c cX4_secondPremise 4 RX4 (some .int))  (h : n_X4_secondPremise_b20 F  S t0 = some q) (hW : zW (xG D cs ad) s S H locs) (hl : lv_has ls 4 []) : W p l e (zR 1 22) s m args below meth c H locs 0 0 (zQi (xG D cs ad) q below args s) (F0 m 20 ls [.int t0]) := by
  unfold n_X4_secondPremise_b20 at h
  obtain ⟨hx, hb, hml, hown, hts, hret, hlk⟩ := id C
  exact zz_iret C rfl h hW dX4_secondPremise_20
def n_X4_secondPremise_e (F : Nat)  (S : Zs) (x0 : Int32) (x1 : Int32) (x2 : Int32) (x3 : Int32) : Option (Int32 × Zs) :=
  if (2 : Int32) < x0 then (zcl (n_X0_make F S x1 x2 x3) (fun v2 S1 => n_X4_secondPremise_b20 F  S1 v2)) else (zcl (n_X0_make F S x1 x3 x2) (fun v4 S3 => n_X4_secondPremise_b20 F  S3 v4))
set_option maxRecDepth 20000 in
set_option maxHeartbeats 4000000 in
theorem w_X4_secondPremise_e {F : Nat} {q : (Int32 × Zs)} {S : Zs}  {x0 : Int32} {x1 : Int32} {x2 : Int32} {x3 : Int32} {ls : Array Slot} {H : Heap} {locs : List Loc} (C : zC p s m args meth c cX4_secondPremise 4 RX4 (some .int))  (h : n_X4_secondPremise_e F  S x0 x1 x2 x3 = some q) (hW : zW (xG D cs ad) s S H locs) (hl : lv_has ls 4 [(0, .int x0), (1, .int x1), (2, .int x2), (3, .int x3)]) : W p l e (zR 1 22) s m args below meth c H locs 0 0 (zQi (xG D cs ad) q below args s) (F0 m 0 ls []) := by
  unfold n_X4_secondPremise_e at h
  obtain ⟨hx, hb, hml, hown, hts, hret, hlk⟩ := id C
  refine lv_iload_n hx hb dX4_secondPremise_0 rfl (lv_at hl 0 rfl) ?_
  refine lv_iconst (v := 2) hx hb dX4_secondPremise_1 (by decide) ?_
  refine zz_cgt (tgt := 14) C h dX4_secondPremise_2 (by decide) (fun h => ?_) (fun h => ?_)
  · refine lv_iload_n hx hb dX4_secondPremise_14 rfl (lv_at hl 1 rfl) ?_
    refine lv_iload_n hx hb dX4_secondPremise_15 rfl (lv_at hl 2 rfl) ?_
    refine lv_iload_n hx hb dX4_secondPremise_16 rfl (lv_at hl 3 rfl) ?_
    refine zz_callSi (As := [.int x1, .int x2, .int x3]) C hW h (fun r hr => c_X0_make hr) lk_X4_18 rfl hl.1 ⟨rfl, rfl⟩ ⟨Nat.le_of_ble_eq_true rfl, Nat.le_of_ble_eq_true rfl⟩ (Nat.le_of_ble_eq_true rfl) ⟨Nat.zero_le _, Nat.zero_le _⟩ rfl dX4_secondPremise_17 (fun v2 S1 H locs h hW => ?_)
    exact w_X4_secondPremise_b20 (F := F) C h hW (lv_sub hl [] rfl)
  · refine lv_iload_n hx hb dX4_secondPremise_5 rfl (lv_at hl 1 rfl) ?_
    refine lv_iload_n hx hb dX4_secondPremise_6 rfl (lv_at hl 3 rfl) ?_
    refine lv_iload_n hx hb dX4_secondPremise_7 rfl (lv_at hl 2 rfl) ?_
    refine zz_callSi (As := [.int x1, .int x3, .int x2]) C hW h (fun r hr => c_X0_make hr) lk_X4_18 rfl hl.1 ⟨rfl, rfl⟩ ⟨Nat.le_of_ble_eq_true rfl, Nat.le_of_ble_eq_true rfl⟩ (Nat.le_of_ble_eq_true rfl) ⟨Nat.zero_le _, Nat.zero_le _⟩ rfl dX4_secondPremise_8 (fun v4 S3 H locs h hW => ?_)
    refine lv_goto (tgt := 20) hx hb dX4_secondPremise_11 (by decide) ?_
    exact w_X4_secondPremise_b20 (F := F) C h hW (lv_sub hl [] rfl)
def n_X4_secondPremise (F : Nat) (S : Zs) (x0 : Int32) (x1 : Int32) (x2 : Int32) (x3 : Int32) : Option (Int32 × Zs) := n_X4_secondPremise_e F  S x0 x1 x2 x3
theorem c_X4_secondPremise {l : Launch} {D : va_G} {cs ad : Nat → Nat} {F : Nat} {S : Zs} {x0 : Int32} {x1 : Int32} {x2 : Int32} {x3 : Int32} {q : (Int32 × Zs)} (h : n_X4_secondPremise F S x0 x1 x2 x3 = some q) : zMi l yX4_secondPremise cX4_secondPremise 4 (some .int) (zR 1 22) (xG D cs ad) [.int x0, .int x1, .int x2, .int x3] S q :=
  zz_enter (by decide) (Nat.le_of_ble_eq_true rfl) (fun p e s m below meth c ls C hW hl => w_X4_secondPremise_e (F := F) C h hW (lv_sub hl [0, 1, 2, 3] rfl))
def n_X9_clear_31_b2_l (F : Nat) (rc2 : Zs → Int32 → Option (Int32 × Zs)) (S : Zs) (x1 : Int32) : Option (Int32 × Zs) :=
  if (24 : Int32) ≤ x1 then (zpf S 623 (0 : Int32) (fun S1 => zpb S1 624 (0 : Int32) (fun S2 => some (0, S2)))) else (zst S 32 24 x1 ((1 : Int32) <<< (x1 &&& 31)) (fun S3 => zlet (x1 + (1 : Int32)) (fun v4 => rc2 S3 v4)))
set_option maxRecDepth 20000 in
set_option maxHeartbeats 4000000 in
theorem w_X9_clear_31_b2_l {F : Nat} {q : (Int32 × Zs)} {S : Zs} {rc2 : Zs → Int32 → Option (Int32 × Zs)} {x1 : Int32} {ls : Array Slot} {H : Heap} {locs : List Loc} (C : zC p s m args meth c cX9_clear 2 RX9 none) (hrc2 : ∀ (S : Zs) (x1 : Int32) (H : Heap) (locs : List Loc) (ls : Array Slot), rc2 S x1 = some q → zW (xG D cs ad) s S H locs → lv_has ls 2 [(0, .ref (ad 31)), (1, .int x1)] → W p l e (zR 0 0) s m args below meth c H locs 0 0 (zQv (xG D cs ad) q below args s) (F0 m 2 ls [])) (h : n_X9_clear_31_b2_l F rc2 S x1 = some q) (hW : zW (xG D cs ad) s S H locs) (hl : lv_has ls 2 [(0, .ref (ad 31)), (1, .int x1)]) : W p l e (zR 0 0) s m args below meth c H locs 0 0 (zQv (xG D cs ad) q below args s) (F0 m 2 ls []) := by
  unfold n_X9_clear_31_b2_l at h
  obtain ⟨hx, hb, hml, hown, hts, hret, hlk⟩ := id C
  refine lv_iload_n hx hb dX9_clear_2 rfl (lv_at hl 1 rfl) ?_
  refine lv_bipush (v := 24) hx hb dX9_clear_3 (by decide) ?_
  refine zz_cge (tgt := 23) C h dX9_clear_5 (by decide) (fun h => ?_) (fun h => ?_)
  · refine lv_aload_n hx hb dX9_clear_23 rfl (lv_at hl 0 rfl) ?_
    refine lv_iconst (v := 0) hx hb dX9_clear_24 (by decide) ?_
    refine xp_31_3 C hW h fl_X9_21 dX9_clear_25 (fun S1 H locs h hW => ?_)
    refine lv_aload_n hx hb dX9_clear_28 rfl (lv_at hl 0 rfl) ?_
    refine lv_iconst (v := 0) hx hb dX9_clear_29 (by decide) ?_
    refine xp_31_4 C hW h fl_X9_25 dX9_clear_30 (fun S2 H locs h hW => ?_)
    exact zz_vret C rfl h hW dX9_clear_33
  · refine lv_aload_n hx hb dX9_clear_8 rfl (lv_at hl 0 rfl) ?_
    refine xg_31_0 C hW fl_X9_9 dX9_clear_9 ?_
    refine lv_iload_n hx hb dX9_clear_12 rfl (lv_at hl 1 rfl) ?_
    refine lv_iconst (v := 1) hx hb dX9_clear_13 (by decide) ?_
    refine lv_iload_n hx hb dX9_clear_14 rfl (lv_at hl 1 rfl) ?_
    refine lv_ishl hx hb dX9_clear_15 ?_
    refine xs_32 C hW h dX9_clear_16 (fun S3 H locs h hW => ?_)
    obtain ⟨v4, ev4, h⟩ := zz_name h
    refine lv_iinc (v := v4) (lv' := [(1, .int v4), (0, .ref (ad 31))]) hx hb dX9_clear_17 hl (k := 1) rfl ev4.symm (by decide) rfl (fun ls hl => ?_)
    refine lv_goto (tgt := 2) hx hb dX9_clear_20 (by decide) ?_
    exact hrc2 _ _ _ _ _ h hW (lv_sub hl [1, 0] rfl)
def n_X9_clear_31_b2 (F : Nat)  (S : Zs) (x1 : Int32) : Option (Int32 × Zs) :=
  zfix (fun (rc : (Zs × Int32) → Option (Int32 × Zs)) (u : (Zs × Int32)) => n_X9_clear_31_b2_l F  (fun S x1 => rc (S, x1)) u.1 u.2) F (S, x1)
theorem w_X9_clear_31_b2 {F : Nat} {q : (Int32 × Zs)}  (C : zC p s m args meth c cX9_clear 2 RX9 none)  : ∀ (n : Nat) (S : Zs) (x1 : Int32) (H : Heap) (locs : List Loc) (ls : Array Slot), zfix (fun (rc : (Zs × Int32) → Option (Int32 × Zs)) (u : (Zs × Int32)) => n_X9_clear_31_b2_l F  (fun S x1 => rc (S, x1)) u.1 u.2) n (S, x1) = some q → zW (xG D cs ad) s S H locs → lv_has ls 2 [(0, .ref (ad 31)), (1, .int x1)] → W p l e (zR 0 0) s m args below meth c H locs 0 0 (zQv (xG D cs ad) q below args s) (F0 m 2 ls []) := by
  intro n
  induction n with
  | zero => intro S x1 H locs ls h; exact absurd h (fun h => by cases h)
  | succ n ih => intro S x1 H locs ls h hW hl; exact w_X9_clear_31_b2_l (F := F) C (fun S x1 H locs ls h hW hl => ih S x1 H locs ls h hW hl) h hW hl
def n_X9_clear_31_e (F : Nat)  (S : Zs)  : Option (Int32 × Zs) :=
  n_X9_clear_31_b2 F  S (0 : Int32)
set_option maxRecDepth 20000 in
set_option maxHeartbeats 4000000 in
theorem w_X9_clear_31_e {F : Nat} {q : (Int32 × Zs)} {S : Zs}   {ls : Array Slot} {H : Heap} {locs : List Loc} (C : zC p s m args meth c cX9_clear 2 RX9 none)  (h : n_X9_clear_31_e F  S  = some q) (hW : zW (xG D cs ad) s S H locs) (hl : lv_has ls 2 [(0, .ref (ad 31))]) : W p l e (zR 0 0) s m args below meth c H locs 0 0 (zQv (xG D cs ad) q below args s) (F0 m 0 ls []) := by
  unfold n_X9_clear_31_e at h
  obtain ⟨hx, hb, hml, hown, hts, hret, hlk⟩ := id C
  refine lv_iconst (v := 0) hx hb dX9_clear_0 (by decide) ?_
  refine lv_istore_n (lv' := [(1, .int (0 : Int32)), (0, .ref (ad 31))]) hx hb dX9_clear_1 rfl hl (by decide) rfl (fun ls hl => ?_)
  exact w_X9_clear_31_b2 (F := F) C F _ _ _ _ _ h hW (lv_sub hl [1, 0] rfl)
def n_X9_clear_31 (F : Nat) (S : Zs)  : Option (Int32 × Zs) := n_X9_clear_31_e F  S 
theorem c_X9_clear_31 {l : Launch} {D : va_G} {cs ad : Nat → Nat} {F : Nat} {S : Zs}  {q : (Int32 × Zs)} (h : n_X9_clear_31 F S  = some q) : zMv l yX9_clear cX9_clear 2 none (zR 0 0) (xG D cs ad) [.ref (ad 31)] S q :=
  zz_enter (by decide) (Nat.le_of_ble_eq_true rfl) (fun p e s m below meth c ls C hW hl => w_X9_clear_31_e (F := F) C h hW (lv_sub hl [0] rfl))
def n_X9_addLiving_31_b59 (F : Nat) (rc2 : Zs → Int32 → Int32 → Option (Int32 × Zs)) (S : Zs) (x1 : Int32) (x2 : Int32) : Option (Int32 × Zs) :=
  zlet (x2 + (1 : Int32)) (fun v1 => rc2 S x1 v1)
set_option maxRecDepth 20000 in
set_option maxHeartbeats 4000000 in
theorem w_X9_addLiving_31_b59 {F : Nat} {q : (Int32 × Zs)} {S : Zs} {rc2 : Zs → Int32 → Int32 → Option (Int32 × Zs)} {x1 : Int32} {x2 : Int32} {ls : Array Slot} {H : Heap} {locs : List Loc} (C : zC p s m args meth c cX9_addLiving 3 RX9 none) (hrc2 : ∀ (S : Zs) (x1 : Int32) (x2 : Int32) (H : Heap) (locs : List Loc) (ls : Array Slot), rc2 S x1 x2 = some q → zW (xG D cs ad) s S H locs → lv_has ls 3 [(0, .ref (ad 31)), (1, .int x1), (2, .int x2)] → W p l e (zR 0 0) s m args below meth c H locs 0 0 (zQv (xG D cs ad) q below args s) (F0 m 2 ls [])) (h : n_X9_addLiving_31_b59 F rc2 S x1 x2 = some q) (hW : zW (xG D cs ad) s S H locs) (hl : lv_has ls 3 [(0, .ref (ad 31)), (1, .int x1), (2, .int x2)]) : W p l e (zR 0 0) s m args below meth c H locs 0 0 (zQv (xG D cs ad) q below args s) (F0 m 59 ls []) := by
  unfold n_X9_addLiving_31_b59 at h
  obtain ⟨hx, hb, hml, hown, hts, hret, hlk⟩ := id C
  obtain ⟨v1, ev1, h⟩ := zz_name h
  refine lv_iinc (v := v1) (lv' := [(2, .int v1), (0, .ref (ad 31)), (1, .int x1)]) hx hb dX9_addLiving_59 hl (k := 2) rfl ev1.symm (by decide) rfl (fun ls hl => ?_)
  refine lv_goto (tgt := 2) hx hb dX9_addLiving_62 (by decide) ?_
  exact hrc2 _ _ _ _ _ _ h hW (lv_sub hl [1, 2, 0] rfl)
def n_X9_addLiving_31_b2_l (F : Nat) (rc2 : Zs → Int32 → Int32 → Option (Int32 × Zs)) (S : Zs) (x1 : Int32) (x2 : Int32) : Option (Int32 × Zs) :=
  if (12 : Int32) ≤ x2 then (some (0, S)) else (if ((x1 >>> (x2 &&& 31)) &&& (1 : Int32)) = 0 then (n_X9_addLiving_31_b59 F rc2 S x1 x2) else (zgf S 623 (fun v1 => if (29 : Int32) ≤ v1 then (n_X9_addLiving_31_b59 F rc2 S x1 x2) else (zgf S 623 (fun v2 => zst S 33 29 v2 ((2 : Int32) * x2) (fun S3 => zgf S3 623 (fun v4 => zst S3 34 29 v4 ((2 : Int32) * x2) (fun S5 => zgf S5 623 (fun v6 => zpf S5 623 (v6 + (1 : Int32)) (fun S7 => n_X9_addLiving_31_b59 F rc2 S7 x1 x2))))))))))
set_option maxRecDepth 20000 in
set_option maxHeartbeats 4000000 in
theorem w_X9_addLiving_31_b2_l {F : Nat} {q : (Int32 × Zs)} {S : Zs} {rc2 : Zs → Int32 → Int32 → Option (Int32 × Zs)} {x1 : Int32} {x2 : Int32} {ls : Array Slot} {H : Heap} {locs : List Loc} (C : zC p s m args meth c cX9_addLiving 3 RX9 none) (hrc2 : ∀ (S : Zs) (x1 : Int32) (x2 : Int32) (H : Heap) (locs : List Loc) (ls : Array Slot), rc2 S x1 x2 = some q → zW (xG D cs ad) s S H locs → lv_has ls 3 [(0, .ref (ad 31)), (1, .int x1), (2, .int x2)] → W p l e (zR 0 0) s m args below meth c H locs 0 0 (zQv (xG D cs ad) q below args s) (F0 m 2 ls [])) (h : n_X9_addLiving_31_b2_l F rc2 S x1 x2 = some q) (hW : zW (xG D cs ad) s S H locs) (hl : lv_has ls 3 [(0, .ref (ad 31)), (1, .int x1), (2, .int x2)]) : W p l e (zR 0 0) s m args below meth c H locs 0 0 (zQv (xG D cs ad) q below args s) (F0 m 2 ls []) := by
  unfold n_X9_addLiving_31_b2_l at h
  obtain ⟨hx, hb, hml, hown, hts, hret, hlk⟩ := id C
  refine lv_iload_n hx hb dX9_addLiving_2 rfl (lv_at hl 2 rfl) ?_
  refine lv_bipush (v := 12) hx hb dX9_addLiving_3 (by decide) ?_
  refine zz_cge (tgt := 65) C h dX9_addLiving_5 (by decide) (fun h => ?_) (fun h => ?_)
  · exact zz_vret C rfl h hW dX9_addLiving_65
  · refine lv_iload_n hx hb dX9_addLiving_8 rfl (lv_at hl 1 rfl) ?_
    refine lv_iload_n hx hb dX9_addLiving_9 rfl (lv_at hl 2 rfl) ?_
    refine lv_ishr hx hb dX9_addLiving_10 ?_
    refine lv_iconst (v := 1) hx hb dX9_addLiving_11 (by decide) ?_
    refine lv_iand hx hb dX9_addLiving_12 ?_
    refine zz_ieq (tgt := 59) C h dX9_addLiving_13 (by decide) (fun h => ?_) (fun h => ?_)
    · exact w_X9_addLiving_31_b59 (F := F) C hrc2 h hW (lv_sub hl [0, 1, 2] rfl)
    · refine lv_aload_n hx hb dX9_addLiving_16 rfl (lv_at hl 0 rfl) ?_
      refine xg_31_3 C hW h fl_X9_21 dX9_addLiving_17 (fun v1 h => ?_)
      refine lv_bipush (v := 29) hx hb dX9_addLiving_20 (by decide) ?_
      refine zz_cge (tgt := 59) C h dX9_addLiving_22 (by decide) (fun h => ?_) (fun h => ?_)
      · exact w_X9_addLiving_31_b59 (F := F) C hrc2 h hW (lv_sub hl [0, 1, 2] rfl)
      · refine lv_aload_n hx hb dX9_addLiving_25 rfl (lv_at hl 0 rfl) ?_
        refine xg_31_1 C hW fl_X9_15 dX9_addLiving_26 ?_
        refine lv_aload_n hx hb dX9_addLiving_29 rfl (lv_at hl 0 rfl) ?_
        refine xg_31_3 C hW h fl_X9_21 dX9_addLiving_30 (fun v2 h => ?_)
        refine lv_iconst (v := 2) hx hb dX9_addLiving_33 (by decide) ?_
        refine lv_iload_n hx hb dX9_addLiving_34 rfl (lv_at hl 2 rfl) ?_
        refine lv_imul hx hb dX9_addLiving_35 ?_
        refine xs_33 C hW h dX9_addLiving_36 (fun S3 H locs h hW => ?_)
        refine lv_aload_n hx hb dX9_addLiving_37 rfl (lv_at hl 0 rfl) ?_
        refine xg_31_2 C hW fl_X9_18 dX9_addLiving_38 ?_
        refine lv_aload_n hx hb dX9_addLiving_41 rfl (lv_at hl 0 rfl) ?_
        refine xg_31_3 C hW h fl_X9_21 dX9_addLiving_42 (fun v4 h => ?_)
        refine lv_iconst (v := 2) hx hb dX9_addLiving_45 (by decide) ?_
        refine lv_iload_n hx hb dX9_addLiving_46 rfl (lv_at hl 2 rfl) ?_
        refine lv_imul hx hb dX9_addLiving_47 ?_
        refine xs_34 C hW h dX9_addLiving_48 (fun S5 H locs h hW => ?_)
        refine lv_aload_n hx hb dX9_addLiving_49 rfl (lv_at hl 0 rfl) ?_
        refine lv_dup hx hb dX9_addLiving_50 rfl ?_
        refine xg_31_3 C hW h fl_X9_21 dX9_addLiving_51 (fun v6 h => ?_)
        refine lv_iconst (v := 1) hx hb dX9_addLiving_54 (by decide) ?_
        refine lv_iadd hx hb dX9_addLiving_55 ?_
        refine xp_31_3 C hW h fl_X9_21 dX9_addLiving_56 (fun S7 H locs h hW => ?_)
        exact w_X9_addLiving_31_b59 (F := F) C hrc2 h hW (lv_sub hl [0, 1, 2] rfl)
def n_X9_addLiving_31_b2 (F : Nat)  (S : Zs) (x1 : Int32) (x2 : Int32) : Option (Int32 × Zs) :=
  zfix (fun (rc : (Zs × Int32 × Int32) → Option (Int32 × Zs)) (u : (Zs × Int32 × Int32)) => n_X9_addLiving_31_b2_l F  (fun S x1 x2 => rc (S, x1, x2)) u.1 u.2.1 u.2.2) F (S, x1, x2)
theorem w_X9_addLiving_31_b2 {F : Nat} {q : (Int32 × Zs)}  (C : zC p s m args meth c cX9_addLiving 3 RX9 none)  : ∀ (n : Nat) (S : Zs) (x1 : Int32) (x2 : Int32) (H : Heap) (locs : List Loc) (ls : Array Slot), zfix (fun (rc : (Zs × Int32 × Int32) → Option (Int32 × Zs)) (u : (Zs × Int32 × Int32)) => n_X9_addLiving_31_b2_l F  (fun S x1 x2 => rc (S, x1, x2)) u.1 u.2.1 u.2.2) n (S, x1, x2) = some q → zW (xG D cs ad) s S H locs → lv_has ls 3 [(0, .ref (ad 31)), (1, .int x1), (2, .int x2)] → W p l e (zR 0 0) s m args below meth c H locs 0 0 (zQv (xG D cs ad) q below args s) (F0 m 2 ls []) := by
  intro n
  induction n with
  | zero => intro S x1 x2 H locs ls h; exact absurd h (fun h => by cases h)
  | succ n ih => intro S x1 x2 H locs ls h hW hl; exact w_X9_addLiving_31_b2_l (F := F) C (fun S x1 x2 H locs ls h hW hl => ih S x1 x2 H locs ls h hW hl) h hW hl
def n_X9_addLiving_31_e (F : Nat)  (S : Zs) (x1 : Int32) : Option (Int32 × Zs) :=
  n_X9_addLiving_31_b2 F  S x1 (0 : Int32)
set_option maxRecDepth 20000 in
set_option maxHeartbeats 4000000 in
theorem w_X9_addLiving_31_e {F : Nat} {q : (Int32 × Zs)} {S : Zs}  {x1 : Int32} {ls : Array Slot} {H : Heap} {locs : List Loc} (C : zC p s m args meth c cX9_addLiving 3 RX9 none)  (h : n_X9_addLiving_31_e F  S x1 = some q) (hW : zW (xG D cs ad) s S H locs) (hl : lv_has ls 3 [(0, .ref (ad 31)), (1, .int x1)]) : W p l e (zR 0 0) s m args below meth c H locs 0 0 (zQv (xG D cs ad) q below args s) (F0 m 0 ls []) := by
  unfold n_X9_addLiving_31_e at h
  obtain ⟨hx, hb, hml, hown, hts, hret, hlk⟩ := id C
  refine lv_iconst (v := 0) hx hb dX9_addLiving_0 (by decide) ?_
  refine lv_istore_n (lv' := [(2, .int (0 : Int32)), (0, .ref (ad 31)), (1, .int x1)]) hx hb dX9_addLiving_1 rfl hl (by decide) rfl (fun ls hl => ?_)
  exact w_X9_addLiving_31_b2 (F := F) C F _ _ _ _ _ _ h hW (lv_sub hl [1, 2, 0] rfl)
def n_X9_addLiving_31 (F : Nat) (S : Zs) (x1 : Int32) : Option (Int32 × Zs) := n_X9_addLiving_31_e F  S x1
theorem c_X9_addLiving_31 {l : Launch} {D : va_G} {cs ad : Nat → Nat} {F : Nat} {S : Zs} {x1 : Int32} {q : (Int32 × Zs)} (h : n_X9_addLiving_31 F S x1 = some q) : zMv l yX9_addLiving cX9_addLiving 3 none (zR 0 0) (xG D cs ad) [.ref (ad 31), .int x1] S q :=
  zz_enter (by decide) (Nat.le_of_ble_eq_true rfl) (fun p e s m below meth c ls C hW hl => w_X9_addLiving_31_e (F := F) C h hW (lv_sub hl [0, 1] rfl))
def n_X9_require_31_b39 (F : Nat)  (S : Zs)  : Option (Int32 × Zs) :=
  some (0, S)
set_option maxRecDepth 20000 in
set_option maxHeartbeats 4000000 in
theorem w_X9_require_31_b39 {F : Nat} {q : (Int32 × Zs)} {S : Zs}   {ls : Array Slot} {H : Heap} {locs : List Loc} (C : zC p s m args meth c cX9_require 3 RX9 none)  (h : n_X9_require_31_b39 F  S  = some q) (hW : zW (xG D cs ad) s S H locs) (hl : lv_has ls 3 []) : W p l e (zR 0 0) s m args below meth c H locs 0 0 (zQv (xG D cs ad) q below args s) (F0 m 39 ls []) := by
  unfold n_X9_require_31_b39 at h
  obtain ⟨hx, hb, hml, hown, hts, hret, hlk⟩ := id C
  exact zz_vret C rfl h hW dX9_require_39
def n_X9_require_31_e (F : Nat)  (S : Zs) (x1 : Int32) (x2 : Int32) : Option (Int32 × Zs) :=
  zgf S 623 (fun v1 => if (29 : Int32) ≤ v1 then (n_X9_require_31_b39 F  S ) else (zgf S 623 (fun v2 => zst S 33 29 v2 x1 (fun S3 => zgf S3 623 (fun v4 => zst S3 34 29 v4 x2 (fun S5 => zgf S5 623 (fun v6 => zpf S5 623 (v6 + (1 : Int32)) (fun S7 => n_X9_require_31_b39 F  S7 ))))))))
set_option maxRecDepth 20000 in
set_option maxHeartbeats 4000000 in
theorem w_X9_require_31_e {F : Nat} {q : (Int32 × Zs)} {S : Zs}  {x1 : Int32} {x2 : Int32} {ls : Array Slot} {H : Heap} {locs : List Loc} (C : zC p s m args meth c cX9_require 3 RX9 none)  (h : n_X9_require_31_e F  S x1 x2 = some q) (hW : zW (xG D cs ad) s S H locs) (hl : lv_has ls 3 [(0, .ref (ad 31)), (1, .int x1), (2, .int x2)]) : W p l e (zR 0 0) s m args below meth c H locs 0 0 (zQv (xG D cs ad) q below args s) (F0 m 0 ls []) := by
  unfold n_X9_require_31_e at h
  obtain ⟨hx, hb, hml, hown, hts, hret, hlk⟩ := id C
  refine lv_aload_n hx hb dX9_require_0 rfl (lv_at hl 0 rfl) ?_
  refine xg_31_3 C hW h fl_X9_21 dX9_require_1 (fun v1 h => ?_)
  refine lv_bipush (v := 29) hx hb dX9_require_4 (by decide) ?_
  refine zz_cge (tgt := 39) C h dX9_require_6 (by decide) (fun h => ?_) (fun h => ?_)
  · exact w_X9_require_31_b39 (F := F) C h hW (lv_sub hl [] rfl)
  · refine lv_aload_n hx hb dX9_require_9 rfl (lv_at hl 0 rfl) ?_
    refine xg_31_1 C hW fl_X9_15 dX9_require_10 ?_
    refine lv_aload_n hx hb dX9_require_13 rfl (lv_at hl 0 rfl) ?_
    refine xg_31_3 C hW h fl_X9_21 dX9_require_14 (fun v2 h => ?_)
    refine lv_iload_n hx hb dX9_require_17 rfl (lv_at hl 1 rfl) ?_
    refine xs_33 C hW h dX9_require_18 (fun S3 H locs h hW => ?_)
    refine lv_aload_n hx hb dX9_require_19 rfl (lv_at hl 0 rfl) ?_
    refine xg_31_2 C hW fl_X9_18 dX9_require_20 ?_
    refine lv_aload_n hx hb dX9_require_23 rfl (lv_at hl 0 rfl) ?_
    refine xg_31_3 C hW h fl_X9_21 dX9_require_24 (fun v4 h => ?_)
    refine lv_iload_n hx hb dX9_require_27 rfl (lv_at hl 2 rfl) ?_
    refine xs_34 C hW h dX9_require_28 (fun S5 H locs h hW => ?_)
    refine lv_aload_n hx hb dX9_require_29 rfl (lv_at hl 0 rfl) ?_
    refine lv_dup hx hb dX9_require_30 rfl ?_
    refine xg_31_3 C hW h fl_X9_21 dX9_require_31 (fun v6 h => ?_)
    refine lv_iconst (v := 1) hx hb dX9_require_34 (by decide) ?_
    refine lv_iadd hx hb dX9_require_35 ?_
    refine xp_31_3 C hW h fl_X9_21 dX9_require_36 (fun S7 H locs h hW => ?_)
    exact w_X9_require_31_b39 (F := F) C h hW (lv_sub hl [] rfl)
def n_X9_require_31 (F : Nat) (S : Zs) (x1 : Int32) (x2 : Int32) : Option (Int32 × Zs) := n_X9_require_31_e F  S x1 x2
theorem c_X9_require_31 {l : Launch} {D : va_G} {cs ad : Nat → Nat} {F : Nat} {S : Zs} {x1 : Int32} {x2 : Int32} {q : (Int32 × Zs)} (h : n_X9_require_31 F S x1 x2 = some q) : zMv l yX9_require cX9_require 3 none (zR 0 0) (xG D cs ad) [.ref (ad 31), .int x1, .int x2] S q :=
  zz_enter (by decide) (Nat.le_of_ble_eq_true rfl) (fun p e s m below meth c ls C hW hl => w_X9_require_31_e (F := F) C h hW (lv_sub hl [0, 1, 2] rfl))
def n_X9_imply_31_b137 (F : Nat)  (S : Zs)  : Option (Int32 × Zs) :=
  some (0, S)
set_option maxRecDepth 20000 in
set_option maxHeartbeats 4000000 in
theorem w_X9_imply_31_b137 {F : Nat} {q : (Int32 × Zs)} {S : Zs}   {ls : Array Slot} {H : Heap} {locs : List Loc} (C : zC p s m args meth c cX9_imply 4 RX9 none)  (h : n_X9_imply_31_b137 F  S  = some q) (hW : zW (xG D cs ad) s S H locs) (hl : lv_has ls 4 []) : W p l e (zR 0 0) s m args below meth c H locs 0 0 (zQv (xG D cs ad) q below args s) (F0 m 137 ls []) := by
  unfold n_X9_imply_31_b137 at h
  obtain ⟨hx, hb, hml, hown, hts, hret, hlk⟩ := id C
  exact zz_vret C rfl h hW dX9_imply_137
def n_X9_imply_31_b96 (F : Nat) (rc58 : Zs → Int32 → Int32 → Int32 → Option (Int32 × Zs)) (S : Zs) (x1 : Int32) (x2 : Int32) (x3 : Int32) : Option (Int32 × Zs) :=
  zlet (x3 + (1 : Int32)) (fun v1 => rc58 S x1 x2 v1)
set_option maxRecDepth 20000 in
set_option maxHeartbeats 4000000 in
theorem w_X9_imply_31_b96 {F : Nat} {q : (Int32 × Zs)} {S : Zs} {rc58 : Zs → Int32 → Int32 → Int32 → Option (Int32 × Zs)} {x1 : Int32} {x2 : Int32} {x3 : Int32} {ls : Array Slot} {H : Heap} {locs : List Loc} (C : zC p s m args meth c cX9_imply 4 RX9 none) (hrc58 : ∀ (S : Zs) (x1 : Int32) (x2 : Int32) (x3 : Int32) (H : Heap) (locs : List Loc) (ls : Array Slot), rc58 S x1 x2 x3 = some q → zW (xG D cs ad) s S H locs → lv_has ls 4 [(0, .ref (ad 31)), (1, .int x1), (2, .int x2), (3, .int x3)] → W p l e (zR 0 0) s m args below meth c H locs 0 0 (zQv (xG D cs ad) q below args s) (F0 m 58 ls [])) (h : n_X9_imply_31_b96 F rc58 S x1 x2 x3 = some q) (hW : zW (xG D cs ad) s S H locs) (hl : lv_has ls 4 [(0, .ref (ad 31)), (1, .int x1), (2, .int x2), (3, .int x3)]) : W p l e (zR 0 0) s m args below meth c H locs 0 0 (zQv (xG D cs ad) q below args s) (F0 m 96 ls []) := by
  unfold n_X9_imply_31_b96 at h
  obtain ⟨hx, hb, hml, hown, hts, hret, hlk⟩ := id C
  obtain ⟨v1, ev1, h⟩ := zz_name h
  refine lv_iinc (v := v1) (lv' := [(3, .int v1), (0, .ref (ad 31)), (1, .int x1), (2, .int x2)]) hx hb dX9_imply_96 hl (k := 3) rfl ev1.symm (by decide) rfl (fun ls hl => ?_)
  refine lv_goto (tgt := 58) hx hb dX9_imply_99 (by decide) ?_
  exact hrc58 _ _ _ _ _ _ _ h hW (lv_sub hl [1, 2, 3, 0] rfl)
def n_X9_imply_31_b58_l (F : Nat) (rc58 : Zs → Int32 → Int32 → Int32 → Option (Int32 × Zs)) (S : Zs) (x1 : Int32) (x2 : Int32) (x3 : Int32) : Option (Int32 × Zs) :=
  if (24 : Int32) ≤ x3 then (zld S 32 24 x1 (fun v1 => if ((v1 >>> ((x1 ^^^ (1 : Int32)) &&& 31)) &&& (1 : Int32)) = 0 then (n_X9_imply_31_b137 F  S ) else (zld S 32 24 (x1 ^^^ (1 : Int32)) (fun v2 => if ((v2 >>> (x1 &&& 31)) &&& (1 : Int32)) = 0 then (n_X9_imply_31_b137 F  S ) else (zpb S 624 (1 : Int32) (fun S3 => n_X9_imply_31_b137 F  S3 )))))) else (zld S 32 24 x3 (fun v4 => if ((v4 >>> ((x2 ^^^ (1 : Int32)) &&& 31)) &&& (1 : Int32)) = 0 then (n_X9_imply_31_b96 F rc58 S x1 x2 x3) else (zld S 32 24 x3 (fun v5 => zld S 32 24 (x1 ^^^ (1 : Int32)) (fun v6 => zst S 32 24 x3 (v5 ||| v6) (fun S7 => n_X9_imply_31_b96 F rc58 S7 x1 x2 x3))))))
set_option maxRecDepth 20000 in
set_option maxHeartbeats 4000000 in
theorem w_X9_imply_31_b58_l {F : Nat} {q : (Int32 × Zs)} {S : Zs} {rc58 : Zs → Int32 → Int32 → Int32 → Option (Int32 × Zs)} {x1 : Int32} {x2 : Int32} {x3 : Int32} {ls : Array Slot} {H : Heap} {locs : List Loc} (C : zC p s m args meth c cX9_imply 4 RX9 none) (hrc58 : ∀ (S : Zs) (x1 : Int32) (x2 : Int32) (x3 : Int32) (H : Heap) (locs : List Loc) (ls : Array Slot), rc58 S x1 x2 x3 = some q → zW (xG D cs ad) s S H locs → lv_has ls 4 [(0, .ref (ad 31)), (1, .int x1), (2, .int x2), (3, .int x3)] → W p l e (zR 0 0) s m args below meth c H locs 0 0 (zQv (xG D cs ad) q below args s) (F0 m 58 ls [])) (h : n_X9_imply_31_b58_l F rc58 S x1 x2 x3 = some q) (hW : zW (xG D cs ad) s S H locs) (hl : lv_has ls 4 [(0, .ref (ad 31)), (1, .int x1), (2, .int x2), (3, .int x3)]) : W p l e (zR 0 0) s m args below meth c H locs 0 0 (zQv (xG D cs ad) q below args s) (F0 m 58 ls []) := by
  unfold n_X9_imply_31_b58_l at h
  obtain ⟨hx, hb, hml, hown, hts, hret, hlk⟩ := id C
  refine lv_iload_n hx hb dX9_imply_58 rfl (lv_at hl 3 rfl) ?_
  refine lv_bipush (v := 24) hx hb dX9_imply_59 (by decide) ?_
  refine zz_cge (tgt := 102) C h dX9_imply_61 (by decide) (fun h => ?_) (fun h => ?_)
  · refine lv_aload_n hx hb dX9_imply_102 rfl (lv_at hl 0 rfl) ?_
    refine xg_31_0 C hW fl_X9_9 dX9_imply_103 ?_
    refine lv_iload_n hx hb dX9_imply_106 rfl (lv_at hl 1 rfl) ?_
    refine xl_32 C hW h dX9_imply_107 (fun v1 h => ?_)
    refine lv_iload_n hx hb dX9_imply_108 rfl (lv_at hl 1 rfl) ?_
    refine lv_iconst (v := 1) hx hb dX9_imply_109 (by decide) ?_
    refine lv_ixor hx hb dX9_imply_110 ?_
    refine lv_ishr hx hb dX9_imply_111 ?_
    refine lv_iconst (v := 1) hx hb dX9_imply_112 (by decide) ?_
    refine lv_iand hx hb dX9_imply_113 ?_
    refine zz_ieq (tgt := 137) C h dX9_imply_114 (by decide) (fun h => ?_) (fun h => ?_)
    · exact w_X9_imply_31_b137 (F := F) C h hW (lv_sub hl [] rfl)
    · refine lv_aload_n hx hb dX9_imply_117 rfl (lv_at hl 0 rfl) ?_
      refine xg_31_0 C hW fl_X9_9 dX9_imply_118 ?_
      refine lv_iload_n hx hb dX9_imply_121 rfl (lv_at hl 1 rfl) ?_
      refine lv_iconst (v := 1) hx hb dX9_imply_122 (by decide) ?_
      refine lv_ixor hx hb dX9_imply_123 ?_
      refine xl_32 C hW h dX9_imply_124 (fun v2 h => ?_)
      refine lv_iload_n hx hb dX9_imply_125 rfl (lv_at hl 1 rfl) ?_
      refine lv_ishr hx hb dX9_imply_126 ?_
      refine lv_iconst (v := 1) hx hb dX9_imply_127 (by decide) ?_
      refine lv_iand hx hb dX9_imply_128 ?_
      refine zz_ieq (tgt := 137) C h dX9_imply_129 (by decide) (fun h => ?_) (fun h => ?_)
      · exact w_X9_imply_31_b137 (F := F) C h hW (lv_sub hl [] rfl)
      · refine lv_aload_n hx hb dX9_imply_132 rfl (lv_at hl 0 rfl) ?_
        refine lv_iconst (v := 1) hx hb dX9_imply_133 (by decide) ?_
        refine xp_31_4 C hW h fl_X9_25 dX9_imply_134 (fun S3 H locs h hW => ?_)
        exact w_X9_imply_31_b137 (F := F) C h hW (lv_sub hl [] rfl)
  · refine lv_aload_n hx hb dX9_imply_64 rfl (lv_at hl 0 rfl) ?_
    refine xg_31_0 C hW fl_X9_9 dX9_imply_65 ?_
    refine lv_iload_n hx hb dX9_imply_68 rfl (lv_at hl 3 rfl) ?_
    refine xl_32 C hW h dX9_imply_69 (fun v4 h => ?_)
    refine lv_iload_n hx hb dX9_imply_70 rfl (lv_at hl 2 rfl) ?_
    refine lv_iconst (v := 1) hx hb dX9_imply_71 (by decide) ?_
    refine lv_ixor hx hb dX9_imply_72 ?_
    refine lv_ishr hx hb dX9_imply_73 ?_
    refine lv_iconst (v := 1) hx hb dX9_imply_74 (by decide) ?_
    refine lv_iand hx hb dX9_imply_75 ?_
    refine zz_ieq (tgt := 96) C h dX9_imply_76 (by decide) (fun h => ?_) (fun h => ?_)
    · exact w_X9_imply_31_b96 (F := F) C hrc58 h hW (lv_sub hl [0, 1, 2, 3] rfl)
    · refine lv_aload_n hx hb dX9_imply_79 rfl (lv_at hl 0 rfl) ?_
      refine xg_31_0 C hW fl_X9_9 dX9_imply_80 ?_
      refine lv_iload_n hx hb dX9_imply_83 rfl (lv_at hl 3 rfl) ?_
      refine lv_dup2_11 hx hb dX9_imply_84 rfl rfl ?_
      refine xl_32 C hW h dX9_imply_85 (fun v5 h => ?_)
      refine lv_aload_n hx hb dX9_imply_86 rfl (lv_at hl 0 rfl) ?_
      refine xg_31_0 C hW fl_X9_9 dX9_imply_87 ?_
      refine lv_iload_n hx hb dX9_imply_90 rfl (lv_at hl 1 rfl) ?_
      refine lv_iconst (v := 1) hx hb dX9_imply_91 (by decide) ?_
      refine lv_ixor hx hb dX9_imply_92 ?_
      refine xl_32 C hW h dX9_imply_93 (fun v6 h => ?_)
      refine lv_ior hx hb dX9_imply_94 ?_
      refine xs_32 C hW h dX9_imply_95 (fun S7 H locs h hW => ?_)
      exact w_X9_imply_31_b96 (F := F) C hrc58 h hW (lv_sub hl [0, 1, 2, 3] rfl)
def n_X9_imply_31_b58 (F : Nat)  (S : Zs) (x1 : Int32) (x2 : Int32) (x3 : Int32) : Option (Int32 × Zs) :=
  zfix (fun (rc : (Zs × Int32 × Int32 × Int32) → Option (Int32 × Zs)) (u : (Zs × Int32 × Int32 × Int32)) => n_X9_imply_31_b58_l F  (fun S x1 x2 x3 => rc (S, x1, x2, x3)) u.1 u.2.1 u.2.2.1 u.2.2.2) F (S, x1, x2, x3)
theorem w_X9_imply_31_b58 {F : Nat} {q : (Int32 × Zs)}  (C : zC p s m args meth c cX9_imply 4 RX9 none)  : ∀ (n : Nat) (S : Zs) (x1 : Int32) (x2 : Int32) (x3 : Int32) (H : Heap) (locs : List Loc) (ls : Array Slot), zfix (fun (rc : (Zs × Int32 × Int32 × Int32) → Option (Int32 × Zs)) (u : (Zs × Int32 × Int32 × Int32)) => n_X9_imply_31_b58_l F  (fun S x1 x2 x3 => rc (S, x1, x2, x3)) u.1 u.2.1 u.2.2.1 u.2.2.2) n (S, x1, x2, x3) = some q → zW (xG D cs ad) s S H locs → lv_has ls 4 [(0, .ref (ad 31)), (1, .int x1), (2, .int x2), (3, .int x3)] → W p l e (zR 0 0) s m args below meth c H locs 0 0 (zQv (xG D cs ad) q below args s) (F0 m 58 ls []) := by
  intro n
  induction n with
  | zero => intro S x1 x2 x3 H locs ls h; exact absurd h (fun h => by cases h)
  | succ n ih => intro S x1 x2 x3 H locs ls h hW hl; exact w_X9_imply_31_b58_l (F := F) C (fun S x1 x2 x3 H locs ls h hW hl => ih S x1 x2 x3 H locs ls h hW hl) h hW hl
def n_X9_imply_31_b50 (F : Nat) (rc16 : Zs → Int32 → Int32 → Int32 → Option (Int32 × Zs)) (S : Zs) (x1 : Int32) (x2 : Int32) (x3 : Int32) : Option (Int32 × Zs) :=
  zlet (x3 + (1 : Int32)) (fun v1 => rc16 S x1 x2 v1)
set_option maxRecDepth 20000 in
set_option maxHeartbeats 4000000 in
theorem w_X9_imply_31_b50 {F : Nat} {q : (Int32 × Zs)} {S : Zs} {rc16 : Zs → Int32 → Int32 → Int32 → Option (Int32 × Zs)} {x1 : Int32} {x2 : Int32} {x3 : Int32} {ls : Array Slot} {H : Heap} {locs : List Loc} (C : zC p s m args meth c cX9_imply 4 RX9 none) (hrc16 : ∀ (S : Zs) (x1 : Int32) (x2 : Int32) (x3 : Int32) (H : Heap) (locs : List Loc) (ls : Array Slot), rc16 S x1 x2 x3 = some q → zW (xG D cs ad) s S H locs → lv_has ls 4 [(0, .ref (ad 31)), (1, .int x1), (2, .int x2), (3, .int x3)] → W p l e (zR 0 0) s m args below meth c H locs 0 0 (zQv (xG D cs ad) q below args s) (F0 m 16 ls [])) (h : n_X9_imply_31_b50 F rc16 S x1 x2 x3 = some q) (hW : zW (xG D cs ad) s S H locs) (hl : lv_has ls 4 [(0, .ref (ad 31)), (1, .int x1), (2, .int x2), (3, .int x3)]) : W p l e (zR 0 0) s m args below meth c H locs 0 0 (zQv (xG D cs ad) q below args s) (F0 m 50 ls []) := by
  unfold n_X9_imply_31_b50 at h
  obtain ⟨hx, hb, hml, hown, hts, hret, hlk⟩ := id C
  obtain ⟨v1, ev1, h⟩ := zz_name h
  refine lv_iinc (v := v1) (lv' := [(3, .int v1), (0, .ref (ad 31)), (1, .int x1), (2, .int x2)]) hx hb dX9_imply_50 hl (k := 3) rfl ev1.symm (by decide) rfl (fun ls hl => ?_)
  refine lv_goto (tgt := 16) hx hb dX9_imply_53 (by decide) ?_
  exact hrc16 _ _ _ _ _ _ _ h hW (lv_sub hl [1, 2, 3, 0] rfl)
def n_X9_imply_31_b16_l (F : Nat) (rc16 : Zs → Int32 → Int32 → Int32 → Option (Int32 × Zs)) (S : Zs) (x1 : Int32) (x2 : Int32) (x3 : Int32) : Option (Int32 × Zs) :=
  if (24 : Int32) ≤ x3 then (n_X9_imply_31_b58 F  S x1 x2 (0 : Int32)) else (zld S 32 24 x3 (fun v1 => if ((v1 >>> (x1 &&& 31)) &&& (1 : Int32)) = 0 then (n_X9_imply_31_b50 F rc16 S x1 x2 x3) else (zld S 32 24 x3 (fun v2 => zld S 32 24 x2 (fun v3 => zst S 32 24 x3 (v2 ||| v3) (fun S4 => n_X9_imply_31_b50 F rc16 S4 x1 x2 x3))))))
set_option maxRecDepth 20000 in
set_option maxHeartbeats 4000000 in
theorem w_X9_imply_31_b16_l {F : Nat} {q : (Int32 × Zs)} {S : Zs} {rc16 : Zs → Int32 → Int32 → Int32 → Option (Int32 × Zs)} {x1 : Int32} {x2 : Int32} {x3 : Int32} {ls : Array Slot} {H : Heap} {locs : List Loc} (C : zC p s m args meth c cX9_imply 4 RX9 none) (hrc16 : ∀ (S : Zs) (x1 : Int32) (x2 : Int32) (x3 : Int32) (H : Heap) (locs : List Loc) (ls : Array Slot), rc16 S x1 x2 x3 = some q → zW (xG D cs ad) s S H locs → lv_has ls 4 [(0, .ref (ad 31)), (1, .int x1), (2, .int x2), (3, .int x3)] → W p l e (zR 0 0) s m args below meth c H locs 0 0 (zQv (xG D cs ad) q below args s) (F0 m 16 ls [])) (h : n_X9_imply_31_b16_l F rc16 S x1 x2 x3 = some q) (hW : zW (xG D cs ad) s S H locs) (hl : lv_has ls 4 [(0, .ref (ad 31)), (1, .int x1), (2, .int x2), (3, .int x3)]) : W p l e (zR 0 0) s m args below meth c H locs 0 0 (zQv (xG D cs ad) q below args s) (F0 m 16 ls []) := by
  unfold n_X9_imply_31_b16_l at h
  obtain ⟨hx, hb, hml, hown, hts, hret, hlk⟩ := id C
  refine lv_iload_n hx hb dX9_imply_16 rfl (lv_at hl 3 rfl) ?_
  refine lv_bipush (v := 24) hx hb dX9_imply_17 (by decide) ?_
  refine zz_cge (tgt := 56) C h dX9_imply_19 (by decide) (fun h => ?_) (fun h => ?_)
  · refine lv_iconst (v := 0) hx hb dX9_imply_56 (by decide) ?_
    refine lv_istore_n (lv' := [(3, .int (0 : Int32)), (0, .ref (ad 31)), (1, .int x1), (2, .int x2)]) hx hb dX9_imply_57 rfl hl (by decide) rfl (fun ls hl => ?_)
    exact w_X9_imply_31_b58 (F := F) C F _ _ _ _ _ _ _ h hW (lv_sub hl [1, 2, 3, 0] rfl)
  · refine lv_aload_n hx hb dX9_imply_22 rfl (lv_at hl 0 rfl) ?_
    refine xg_31_0 C hW fl_X9_9 dX9_imply_23 ?_
    refine lv_iload_n hx hb dX9_imply_26 rfl (lv_at hl 3 rfl) ?_
    refine xl_32 C hW h dX9_imply_27 (fun v1 h => ?_)
    refine lv_iload_n hx hb dX9_imply_28 rfl (lv_at hl 1 rfl) ?_
    refine lv_ishr hx hb dX9_imply_29 ?_
    refine lv_iconst (v := 1) hx hb dX9_imply_30 (by decide) ?_
    refine lv_iand hx hb dX9_imply_31 ?_
    refine zz_ieq (tgt := 50) C h dX9_imply_32 (by decide) (fun h => ?_) (fun h => ?_)
    · exact w_X9_imply_31_b50 (F := F) C hrc16 h hW (lv_sub hl [0, 1, 2, 3] rfl)
    · refine lv_aload_n hx hb dX9_imply_35 rfl (lv_at hl 0 rfl) ?_
      refine xg_31_0 C hW fl_X9_9 dX9_imply_36 ?_
      refine lv_iload_n hx hb dX9_imply_39 rfl (lv_at hl 3 rfl) ?_
      refine lv_dup2_11 hx hb dX9_imply_40 rfl rfl ?_
      refine xl_32 C hW h dX9_imply_41 (fun v2 h => ?_)
      refine lv_aload_n hx hb dX9_imply_42 rfl (lv_at hl 0 rfl) ?_
      refine xg_31_0 C hW fl_X9_9 dX9_imply_43 ?_
      refine lv_iload_n hx hb dX9_imply_46 rfl (lv_at hl 2 rfl) ?_
      refine xl_32 C hW h dX9_imply_47 (fun v3 h => ?_)
      refine lv_ior hx hb dX9_imply_48 ?_
      refine xs_32 C hW h dX9_imply_49 (fun S4 H locs h hW => ?_)
      exact w_X9_imply_31_b50 (F := F) C hrc16 h hW (lv_sub hl [0, 1, 2, 3] rfl)
def n_X9_imply_31_b16 (F : Nat)  (S : Zs) (x1 : Int32) (x2 : Int32) (x3 : Int32) : Option (Int32 × Zs) :=
  zfix (fun (rc : (Zs × Int32 × Int32 × Int32) → Option (Int32 × Zs)) (u : (Zs × Int32 × Int32 × Int32)) => n_X9_imply_31_b16_l F  (fun S x1 x2 x3 => rc (S, x1, x2, x3)) u.1 u.2.1 u.2.2.1 u.2.2.2) F (S, x1, x2, x3)
theorem w_X9_imply_31_b16 {F : Nat} {q : (Int32 × Zs)}  (C : zC p s m args meth c cX9_imply 4 RX9 none)  : ∀ (n : Nat) (S : Zs) (x1 : Int32) (x2 : Int32) (x3 : Int32) (H : Heap) (locs : List Loc) (ls : Array Slot), zfix (fun (rc : (Zs × Int32 × Int32 × Int32) → Option (Int32 × Zs)) (u : (Zs × Int32 × Int32 × Int32)) => n_X9_imply_31_b16_l F  (fun S x1 x2 x3 => rc (S, x1, x2, x3)) u.1 u.2.1 u.2.2.1 u.2.2.2) n (S, x1, x2, x3) = some q → zW (xG D cs ad) s S H locs → lv_has ls 4 [(0, .ref (ad 31)), (1, .int x1), (2, .int x2), (3, .int x3)] → W p l e (zR 0 0) s m args below meth c H locs 0 0 (zQv (xG D cs ad) q below args s) (F0 m 16 ls []) := by
  intro n
  induction n with
  | zero => intro S x1 x2 x3 H locs ls h; exact absurd h (fun h => by cases h)
  | succ n ih => intro S x1 x2 x3 H locs ls h hW hl; exact w_X9_imply_31_b16_l (F := F) C (fun S x1 x2 x3 H locs ls h hW hl => ih S x1 x2 x3 H locs ls h hW hl) h hW hl
def n_X9_imply_31_e (F : Nat)  (S : Zs) (x1 : Int32) (x2 : Int32) : Option (Int32 × Zs) :=
  zld S 32 24 x1 (fun v1 => if ((v1 >>> (x2 &&& 31)) &&& (1 : Int32)) = 0 then (n_X9_imply_31_b16 F  S x1 x2 (0 : Int32)) else (some (0, S)))
set_option maxRecDepth 20000 in
set_option maxHeartbeats 4000000 in
theorem w_X9_imply_31_e {F : Nat} {q : (Int32 × Zs)} {S : Zs}  {x1 : Int32} {x2 : Int32} {ls : Array Slot} {H : Heap} {locs : List Loc} (C : zC p s m args meth c cX9_imply 4 RX9 none)  (h : n_X9_imply_31_e F  S x1 x2 = some q) (hW : zW (xG D cs ad) s S H locs) (hl : lv_has ls 4 [(0, .ref (ad 31)), (1, .int x1), (2, .int x2)]) : W p l e (zR 0 0) s m args below meth c H locs 0 0 (zQv (xG D cs ad) q below args s) (F0 m 0 ls []) := by
  unfold n_X9_imply_31_e at h
  obtain ⟨hx, hb, hml, hown, hts, hret, hlk⟩ := id C
  refine lv_aload_n hx hb dX9_imply_0 rfl (lv_at hl 0 rfl) ?_
  refine xg_31_0 C hW fl_X9_9 dX9_imply_1 ?_
  refine lv_iload_n hx hb dX9_imply_4 rfl (lv_at hl 1 rfl) ?_
  refine xl_32 C hW h dX9_imply_5 (fun v1 h => ?_)
  refine lv_iload_n hx hb dX9_imply_6 rfl (lv_at hl 2 rfl) ?_
  refine lv_ishr hx hb dX9_imply_7 ?_
  refine lv_iconst (v := 1) hx hb dX9_imply_8 (by decide) ?_
  refine lv_iand hx hb dX9_imply_9 ?_
  refine zz_ieq (tgt := 14) C h dX9_imply_10 (by decide) (fun h => ?_) (fun h => ?_)
  · refine lv_iconst (v := 0) hx hb dX9_imply_14 (by decide) ?_
    refine lv_istore_n (lv' := [(3, .int (0 : Int32)), (0, .ref (ad 31)), (1, .int x1), (2, .int x2)]) hx hb dX9_imply_15 rfl hl (by decide) rfl (fun ls hl => ?_)
    exact w_X9_imply_31_b16 (F := F) C F _ _ _ _ _ _ _ h hW (lv_sub hl [1, 2, 3, 0] rfl)
  · exact zz_vret C rfl h hW dX9_imply_13
def n_X9_imply_31 (F : Nat) (S : Zs) (x1 : Int32) (x2 : Int32) : Option (Int32 × Zs) := n_X9_imply_31_e F  S x1 x2
theorem c_X9_imply_31 {l : Launch} {D : va_G} {cs ad : Nat → Nat} {F : Nat} {S : Zs} {x1 : Int32} {x2 : Int32} {q : (Int32 × Zs)} (h : n_X9_imply_31 F S x1 x2 = some q) : zMv l yX9_imply cX9_imply 4 none (zR 0 0) (xG D cs ad) [.ref (ad 31), .int x1, .int x2] S q :=
  zz_enter (by decide) (Nat.le_of_ble_eq_true rfl) (fun p e s m below meth c ls C hW hl => w_X9_imply_31_e (F := F) C h hW (lv_sub hl [0, 1, 2] rfl))
def n_X9_add_31_b34 (F : Nat)  (S : Zs)  : Option (Int32 × Zs) :=
  some (0, S)
set_option maxRecDepth 20000 in
set_option maxHeartbeats 4000000 in
theorem w_X9_add_31_b34 {F : Nat} {q : (Int32 × Zs)} {S : Zs}   {ls : Array Slot} {H : Heap} {locs : List Loc} (C : zC p s m args meth c cX9_add 2 RX9 none)  (h : n_X9_add_31_b34 F  S  = some q) (hW : zW (xG D cs ad) s S H locs) (hl : lv_has ls 2 []) : W p l e (zR 1 23) s m args below meth c H locs 0 0 (zQv (xG D cs ad) q below args s) (F0 m 34 ls []) := by
  unfold n_X9_add_31_b34 at h
  obtain ⟨hx, hb, hml, hown, hts, hret, hlk⟩ := id C
  exact zz_vret C rfl h hW dX9_add_34
def n_X9_add_31_e (F : Nat)  (S : Zs) (x1 : Int32) : Option (Int32 × Zs) :=
  zcl (n_X0_isUniversal F S x1) (fun v2 S1 => if v2 = 0 then (zcl (n_X0_subject F S1 x1) (fun v4 S3 => zcl (n_X0_target F S3 x1) (fun v6 S5 => zcl (n_X9_require_31 F S5 v4 v6) (fun v8 S7 => n_X9_add_31_b34 F  S7 )))) else (zcl (n_X0_subject F S1 x1) (fun v10 S9 => zcl (n_X0_target F S9 x1) (fun v12 S11 => zcl (n_X9_imply_31 F S11 v10 v12) (fun v14 S13 => n_X9_add_31_b34 F  S13 )))))
set_option maxRecDepth 20000 in
set_option maxHeartbeats 4000000 in
theorem w_X9_add_31_e {F : Nat} {q : (Int32 × Zs)} {S : Zs}  {x1 : Int32} {ls : Array Slot} {H : Heap} {locs : List Loc} (C : zC p s m args meth c cX9_add 2 RX9 none)  (h : n_X9_add_31_e F  S x1 = some q) (hW : zW (xG D cs ad) s S H locs) (hl : lv_has ls 2 [(0, .ref (ad 31)), (1, .int x1)]) : W p l e (zR 1 23) s m args below meth c H locs 0 0 (zQv (xG D cs ad) q below args s) (F0 m 0 ls []) := by
  unfold n_X9_add_31_e at h
  obtain ⟨hx, hb, hml, hown, hts, hret, hlk⟩ := id C
  refine lv_iload_n hx hb dX9_add_0 rfl (lv_at hl 1 rfl) ?_
  refine zz_callSi (As := [.int x1]) C hW h (fun r hr => c_X0_isUniversal hr) lk_X9_29 rfl hl.1 ⟨rfl, rfl⟩ ⟨Nat.le_of_ble_eq_true rfl, Nat.le_of_ble_eq_true rfl⟩ (Nat.le_of_ble_eq_true rfl) ⟨Nat.zero_le _, Nat.zero_le _⟩ rfl dX9_add_1 (fun v2 S1 H locs h hW => ?_)
  refine zz_ieq (tgt := 22) C h dX9_add_4 (by decide) (fun h => ?_) (fun h => ?_)
  · refine lv_aload_n hx hb dX9_add_22 rfl (lv_at hl 0 rfl) ?_
    refine lv_iload_n hx hb dX9_add_23 rfl (lv_at hl 1 rfl) ?_
    refine zz_callSi (As := [.int x1]) C hW h (fun r hr => c_X0_subject hr) lk_X9_35 rfl hl.1 ⟨rfl, rfl⟩ ⟨Nat.le_of_ble_eq_true rfl, Nat.le_of_ble_eq_true rfl⟩ (Nat.le_of_ble_eq_true rfl) ⟨Nat.zero_le _, Nat.zero_le _⟩ rfl dX9_add_24 (fun v4 S3 H locs h hW => ?_)
    refine lv_iload_n hx hb dX9_add_27 rfl (lv_at hl 1 rfl) ?_
    refine zz_callSi (As := [.int x1]) C hW h (fun r hr => c_X0_target hr) lk_X9_39 rfl hl.1 ⟨rfl, rfl⟩ ⟨Nat.le_of_ble_eq_true rfl, Nat.le_of_ble_eq_true rfl⟩ (Nat.le_of_ble_eq_true rfl) ⟨Nat.zero_le _, Nat.zero_le _⟩ rfl dX9_add_28 (fun v6 S5 H locs h hW => ?_)
    refine zz_callVv (As := [.int v4, .int v6]) C hW h (fun r hr => c_X9_require_31 hr) lk_X9_46 (hW.recv xr_31) rfl hl.1 ⟨rfl, rfl⟩ ⟨Nat.le_of_ble_eq_true rfl, Nat.le_of_ble_eq_true rfl⟩ (Nat.le_of_ble_eq_true rfl) ⟨Nat.zero_le _, Nat.zero_le _⟩ rfl dX9_add_31 (fun v8 S7 H locs h hW => ?_)
    exact w_X9_add_31_b34 (F := F) C h hW (lv_sub hl [] rfl)
  · refine lv_aload_n hx hb dX9_add_7 rfl (lv_at hl 0 rfl) ?_
    refine lv_iload_n hx hb dX9_add_8 rfl (lv_at hl 1 rfl) ?_
    refine zz_callSi (As := [.int x1]) C hW h (fun r hr => c_X0_subject hr) lk_X9_35 rfl hl.1 ⟨rfl, rfl⟩ ⟨Nat.le_of_ble_eq_true rfl, Nat.le_of_ble_eq_true rfl⟩ (Nat.le_of_ble_eq_true rfl) ⟨Nat.zero_le _, Nat.zero_le _⟩ rfl dX9_add_9 (fun v10 S9 H locs h hW => ?_)
    refine lv_iload_n hx hb dX9_add_12 rfl (lv_at hl 1 rfl) ?_
    refine zz_callSi (As := [.int x1]) C hW h (fun r hr => c_X0_target hr) lk_X9_39 rfl hl.1 ⟨rfl, rfl⟩ ⟨Nat.le_of_ble_eq_true rfl, Nat.le_of_ble_eq_true rfl⟩ (Nat.le_of_ble_eq_true rfl) ⟨Nat.zero_le _, Nat.zero_le _⟩ rfl dX9_add_13 (fun v12 S11 H locs h hW => ?_)
    refine zz_callVv (As := [.int v10, .int v12]) C hW h (fun r hr => c_X9_imply_31 hr) lk_X9_42 (hW.recv xr_31) rfl hl.1 ⟨rfl, rfl⟩ ⟨Nat.le_of_ble_eq_true rfl, Nat.le_of_ble_eq_true rfl⟩ (Nat.le_of_ble_eq_true rfl) ⟨Nat.zero_le _, Nat.zero_le _⟩ rfl dX9_add_16 (fun v14 S13 H locs h hW => ?_)
    refine lv_goto (tgt := 34) hx hb dX9_add_19 (by decide) ?_
    exact w_X9_add_31_b34 (F := F) C h hW (lv_sub hl [] rfl)
def n_X9_add_31 (F : Nat) (S : Zs) (x1 : Int32) : Option (Int32 × Zs) := n_X9_add_31_e F  S x1
theorem c_X9_add_31 {l : Launch} {D : va_G} {cs ad : Nat → Nat} {F : Nat} {S : Zs} {x1 : Int32} {q : (Int32 × Zs)} (h : n_X9_add_31 F S x1 = some q) : zMv l yX9_add cX9_add 2 none (zR 1 23) (xG D cs ad) [.ref (ad 31), .int x1] S q :=
  zz_enter (by decide) (Nat.le_of_ble_eq_true rfl) (fun p e s m below meth c ls C hW hl => w_X9_add_31_e (F := F) C h hW (lv_sub hl [0, 1] rfl))
def n_X9_consistent_31_b52 (F : Nat)  (S : Zs)  : Option (Int32 × Zs) :=
  zrb (0 : Int32) S
set_option maxRecDepth 20000 in
set_option maxHeartbeats 4000000 in
theorem w_X9_consistent_31_b52 {F : Nat} {q : (Int32 × Zs)} {S : Zs}   {ls : Array Slot} {H : Heap} {locs : List Loc} (C : zC p s m args meth c cX9_consistent 3 RX9 (some .boolean))  (h : n_X9_consistent_31_b52 F  S  = some q) (hW : zW (xG D cs ad) s S H locs) (hl : lv_has ls 3 []) : W p l e (zR 0 0) s m args below meth c H locs 0 0 (zQi (xG D cs ad) q below args s) (F0 m 52 ls []) := by
  unfold n_X9_consistent_31_b52 at h
  obtain ⟨hx, hb, hml, hown, hts, hret, hlk⟩ := id C
  refine lv_iconst (v := 0) hx hb dX9_consistent_52 (by decide) ?_
  exact zz_zret C rfl h hW dX9_consistent_53
def n_X9_consistent_31_b2_l (F : Nat) (rc2 : Zs → Int32 → Option (Int32 × Zs)) (S : Zs) (x1 : Int32) : Option (Int32 × Zs) :=
  zgf S 623 (fun v1 => if v1 ≤ x1 then (zrb (1 : Int32) S) else (zld S 33 29 x1 (fun v2 => zld S 32 24 v2 (fun v3 => zld S 34 29 x1 (fun v4 => zld S 32 24 v4 (fun v5 => zlet (v3 ||| v5) (fun v6 => zgf S 624 (fun v7 => if v7 = 0 then (if ((v6 &&& ((v6.toUInt32 >>> ((1 : Int32).toUInt32 &&& Int32.toUInt32 31)).toInt32)) &&& (5592405 : Int32)) = 0 then (zlet (x1 + (1 : Int32)) (fun v8 => rc2 S v8)) else (n_X9_consistent_31_b52 F  S )) else (n_X9_consistent_31_b52 F  S )))))))))
set_option maxRecDepth 20000 in
set_option maxHeartbeats 4000000 in
theorem w_X9_consistent_31_b2_l {F : Nat} {q : (Int32 × Zs)} {S : Zs} {rc2 : Zs → Int32 → Option (Int32 × Zs)} {x1 : Int32} {ls : Array Slot} {H : Heap} {locs : List Loc} (C : zC p s m args meth c cX9_consistent 3 RX9 (some .boolean)) (hrc2 : ∀ (S : Zs) (x1 : Int32) (H : Heap) (locs : List Loc) (ls : Array Slot), rc2 S x1 = some q → zW (xG D cs ad) s S H locs → lv_has ls 3 [(0, .ref (ad 31)), (1, .int x1)] → W p l e (zR 0 0) s m args below meth c H locs 0 0 (zQi (xG D cs ad) q below args s) (F0 m 2 ls [])) (h : n_X9_consistent_31_b2_l F rc2 S x1 = some q) (hW : zW (xG D cs ad) s S H locs) (hl : lv_has ls 3 [(0, .ref (ad 31)), (1, .int x1)]) : W p l e (zR 0 0) s m args below meth c H locs 0 0 (zQi (xG D cs ad) q below args s) (F0 m 2 ls []) := by
  unfold n_X9_consistent_31_b2_l at h
  obtain ⟨hx, hb, hml, hown, hts, hret, hlk⟩ := id C
  refine lv_iload_n hx hb dX9_consistent_2 rfl (lv_at hl 1 rfl) ?_
  refine lv_aload_n hx hb dX9_consistent_3 rfl (lv_at hl 0 rfl) ?_
  refine xg_31_3 C hW h fl_X9_21 dX9_consistent_4 (fun v1 h => ?_)
  refine zz_cge (tgt := 60) C h dX9_consistent_7 (by decide) (fun h => ?_) (fun h => ?_)
  · refine lv_iconst (v := 1) hx hb dX9_consistent_60 (by decide) ?_
    exact zz_zret C rfl h hW dX9_consistent_61
  · refine lv_aload_n hx hb dX9_consistent_10 rfl (lv_at hl 0 rfl) ?_
    refine xg_31_0 C hW fl_X9_9 dX9_consistent_11 ?_
    refine lv_aload_n hx hb dX9_consistent_14 rfl (lv_at hl 0 rfl) ?_
    refine xg_31_1 C hW fl_X9_15 dX9_consistent_15 ?_
    refine lv_iload_n hx hb dX9_consistent_18 rfl (lv_at hl 1 rfl) ?_
    refine xl_33 C hW h dX9_consistent_19 (fun v2 h => ?_)
    refine xl_32 C hW h dX9_consistent_20 (fun v3 h => ?_)
    refine lv_aload_n hx hb dX9_consistent_21 rfl (lv_at hl 0 rfl) ?_
    refine xg_31_0 C hW fl_X9_9 dX9_consistent_22 ?_
    refine lv_aload_n hx hb dX9_consistent_25 rfl (lv_at hl 0 rfl) ?_
    refine xg_31_2 C hW fl_X9_18 dX9_consistent_26 ?_
    refine lv_iload_n hx hb dX9_consistent_29 rfl (lv_at hl 1 rfl) ?_
    refine xl_34 C hW h dX9_consistent_30 (fun v4 h => ?_)
    refine xl_32 C hW h dX9_consistent_31 (fun v5 h => ?_)
    refine lv_ior hx hb dX9_consistent_32 ?_
    refine zz_leti h (fun v6 h => ?_)
    refine lv_istore_n (lv' := [(2, .int v6), (0, .ref (ad 31)), (1, .int x1)]) hx hb dX9_consistent_33 rfl hl (by decide) rfl (fun ls hl => ?_)
    refine lv_aload_n hx hb dX9_consistent_34 rfl (lv_at hl 1 rfl) ?_
    refine xg_31_4 C hW h fl_X9_25 dX9_consistent_35 (fun v7 h => ?_)
    refine zz_ine (tgt := 52) C h dX9_consistent_38 (by decide) (fun h => ?_) (fun h => ?_)
    · exact w_X9_consistent_31_b52 (F := F) C h hW (lv_sub hl [] rfl)
    · refine lv_iload_n hx hb dX9_consistent_41 rfl (lv_at hl 0 rfl) ?_
      refine lv_iload_n hx hb dX9_consistent_42 rfl (lv_at hl 0 rfl) ?_
      refine lv_iconst (v := 1) hx hb dX9_consistent_43 (by decide) ?_
      refine lv_iushr hx hb dX9_consistent_44 rfl ?_
      refine lv_iand hx hb dX9_consistent_45 ?_
      refine lv_ldc (v := 5592405) hx hb hown (hts _ ct_X9_49) dX9_consistent_46 ?_
      refine lv_iand hx hb dX9_consistent_48 ?_
      refine zz_ieq (tgt := 54) C h dX9_consistent_49 (by decide) (fun h => ?_) (fun h => ?_)
      · obtain ⟨v8, ev8, h⟩ := zz_name h
        refine lv_iinc (v := v8) (lv' := [(1, .int v8), (2, .int v6), (0, .ref (ad 31))]) hx hb dX9_consistent_54 hl (k := 2) rfl ev8.symm (by decide) rfl (fun ls hl => ?_)
        refine lv_goto (tgt := 2) hx hb dX9_consistent_57 (by decide) ?_
        exact hrc2 _ _ _ _ _ h hW (lv_sub hl [2, 0] rfl)
      · exact w_X9_consistent_31_b52 (F := F) C h hW (lv_sub hl [] rfl)
def n_X9_consistent_31_b2 (F : Nat)  (S : Zs) (x1 : Int32) : Option (Int32 × Zs) :=
  zfix (fun (rc : (Zs × Int32) → Option (Int32 × Zs)) (u : (Zs × Int32)) => n_X9_consistent_31_b2_l F  (fun S x1 => rc (S, x1)) u.1 u.2) F (S, x1)
theorem w_X9_consistent_31_b2 {F : Nat} {q : (Int32 × Zs)}  (C : zC p s m args meth c cX9_consistent 3 RX9 (some .boolean))  : ∀ (n : Nat) (S : Zs) (x1 : Int32) (H : Heap) (locs : List Loc) (ls : Array Slot), zfix (fun (rc : (Zs × Int32) → Option (Int32 × Zs)) (u : (Zs × Int32)) => n_X9_consistent_31_b2_l F  (fun S x1 => rc (S, x1)) u.1 u.2) n (S, x1) = some q → zW (xG D cs ad) s S H locs → lv_has ls 3 [(0, .ref (ad 31)), (1, .int x1)] → W p l e (zR 0 0) s m args below meth c H locs 0 0 (zQi (xG D cs ad) q below args s) (F0 m 2 ls []) := by
  intro n
  induction n with
  | zero => intro S x1 H locs ls h; exact absurd h (fun h => by cases h)
  | succ n ih => intro S x1 H locs ls h hW hl; exact w_X9_consistent_31_b2_l (F := F) C (fun S x1 H locs ls h hW hl => ih S x1 H locs ls h hW hl) h hW hl
def n_X9_consistent_31_e (F : Nat)  (S : Zs)  : Option (Int32 × Zs) :=
  n_X9_consistent_31_b2 F  S (0 : Int32)
set_option maxRecDepth 20000 in
set_option maxHeartbeats 4000000 in
theorem w_X9_consistent_31_e {F : Nat} {q : (Int32 × Zs)} {S : Zs}   {ls : Array Slot} {H : Heap} {locs : List Loc} (C : zC p s m args meth c cX9_consistent 3 RX9 (some .boolean))  (h : n_X9_consistent_31_e F  S  = some q) (hW : zW (xG D cs ad) s S H locs) (hl : lv_has ls 3 [(0, .ref (ad 31))]) : W p l e (zR 0 0) s m args below meth c H locs 0 0 (zQi (xG D cs ad) q below args s) (F0 m 0 ls []) := by
  unfold n_X9_consistent_31_e at h
  obtain ⟨hx, hb, hml, hown, hts, hret, hlk⟩ := id C
  refine lv_iconst (v := 0) hx hb dX9_consistent_0 (by decide) ?_
  refine lv_istore_n (lv' := [(1, .int (0 : Int32)), (0, .ref (ad 31))]) hx hb dX9_consistent_1 rfl hl (by decide) rfl (fun ls hl => ?_)
  exact w_X9_consistent_31_b2 (F := F) C F _ _ _ _ _ h hW (lv_sub hl [1, 0] rfl)
def n_X9_consistent_31 (F : Nat) (S : Zs)  : Option (Int32 × Zs) := n_X9_consistent_31_e F  S 
theorem c_X9_consistent_31 {l : Launch} {D : va_G} {cs ad : Nat → Nat} {F : Nat} {S : Zs}  {q : (Int32 × Zs)} (h : n_X9_consistent_31 F S  = some q) : zMi l yX9_consistent cX9_consistent 3 (some .boolean) (zR 0 0) (xG D cs ad) [.ref (ad 31)] S q :=
  zz_enter (by decide) (Nat.le_of_ble_eq_true rfl) (fun p e s m below meth c ls C hW hl => w_X9_consistent_31_e (F := F) C h hW (lv_sub hl [0] rfl))
def n_X4_holdsWith_30_b55 (F : Nat)  (S : Zs) (t0 : Int32) : Option (Int32 × Zs) :=
  zrb t0 S
set_option maxRecDepth 20000 in
set_option maxHeartbeats 4000000 in
theorem w_X4_holdsWith_30_b55 {F : Nat} {q : (Int32 × Zs)} {S : Zs}  {t0 : Int32} {ls : Array Slot} {H : Heap} {locs : List Loc} (C : zC p s m args meth c cX4_holdsWith 5 RX4 (some .boolean))  (h : n_X4_holdsWith_30_b55 F  S t0 = some q) (hW : zW (xG D cs ad) s S H locs) (hl : lv_has ls 5 []) : W p l e (zR 2 44) s m args below meth c H locs 0 0 (zQi (xG D cs ad) q below args s) (F0 m 55 ls [.int t0]) := by
  unfold n_X4_holdsWith_30_b55 at h
  obtain ⟨hx, hb, hml, hown, hts, hret, hlk⟩ := id C
  exact zz_zret C rfl h hW dX4_holdsWith_55
def n_X4_holdsWith_30_e (F : Nat)  (S : Zs) (x1 : Int32) (x2 : Int32) (x3 : Int32) (x4 : Int32) : Option (Int32 × Zs) :=
  zcl (n_X9_clear_31 F S ) (fun v2 S1 => zcl (n_X9_addLiving_31 F S1 x1) (fun v4 S3 => zcl (n_X9_add_31 F S3 x2) (fun v6 S5 => zcl (n_X9_add_31 F S5 x3) (fun v8 S7 => zcl (n_X9_add_31 F S7 x4) (fun v10 S9 => zcl (n_X9_consistent_31 F S9 ) (fun v12 S11 => if v12 = 0 then (n_X4_holdsWith_30_b55 F  S11 (1 : Int32)) else (n_X4_holdsWith_30_b55 F  S11 (0 : Int32))))))))
set_option maxRecDepth 20000 in
set_option maxHeartbeats 4000000 in
theorem w_X4_holdsWith_30_e {F : Nat} {q : (Int32 × Zs)} {S : Zs}  {x1 : Int32} {x2 : Int32} {x3 : Int32} {x4 : Int32} {ls : Array Slot} {H : Heap} {locs : List Loc} (C : zC p s m args meth c cX4_holdsWith 5 RX4 (some .boolean))  (h : n_X4_holdsWith_30_e F  S x1 x2 x3 x4 = some q) (hW : zW (xG D cs ad) s S H locs) (hl : lv_has ls 5 [(0, .ref (ad 30)), (1, .int x1), (2, .int x2), (3, .int x3), (4, .int x4)]) : W p l e (zR 2 44) s m args below meth c H locs 0 0 (zQi (xG D cs ad) q below args s) (F0 m 0 ls []) := by
  unfold n_X4_holdsWith_30_e at h
  obtain ⟨hx, hb, hml, hown, hts, hret, hlk⟩ := id C
  refine lv_aload_n hx hb dX4_holdsWith_0 rfl (lv_at hl 0 rfl) ?_
  refine xg_30_0 C hW fl_X4_12 dX4_holdsWith_1 ?_
  refine zz_callVv (As := []) C hW h (fun r hr => c_X9_clear_31 hr) lk_X4_84 (hW.recv xr_31) rfl hl.1 ⟨rfl, rfl⟩ ⟨Nat.le_of_ble_eq_true rfl, Nat.le_of_ble_eq_true rfl⟩ (Nat.le_of_ble_eq_true rfl) ⟨Nat.zero_le _, Nat.zero_le _⟩ rfl dX4_holdsWith_4 (fun v2 S1 H locs h hW => ?_)
  refine lv_aload_n hx hb dX4_holdsWith_7 rfl (lv_at hl 0 rfl) ?_
  refine xg_30_0 C hW fl_X4_12 dX4_holdsWith_8 ?_
  refine lv_iload_n hx hb dX4_holdsWith_11 rfl (lv_at hl 1 rfl) ?_
  refine zz_callVv (As := [.int x1]) C hW h (fun r hr => c_X9_addLiving_31 hr) lk_X4_87 (hW.recv xr_31) rfl hl.1 ⟨rfl, rfl⟩ ⟨Nat.le_of_ble_eq_true rfl, Nat.le_of_ble_eq_true rfl⟩ (Nat.le_of_ble_eq_true rfl) ⟨Nat.zero_le _, Nat.zero_le _⟩ rfl dX4_holdsWith_12 (fun v4 S3 H locs h hW => ?_)
  refine lv_aload_n hx hb dX4_holdsWith_15 rfl (lv_at hl 0 rfl) ?_
  refine xg_30_0 C hW fl_X4_12 dX4_holdsWith_16 ?_
  refine lv_iload_n hx hb dX4_holdsWith_19 rfl (lv_at hl 2 rfl) ?_
  refine zz_callVv (As := [.int x2]) C hW h (fun r hr => c_X9_add_31 hr) lk_X4_91 (hW.recv xr_31) rfl hl.1 ⟨rfl, rfl⟩ ⟨Nat.le_of_ble_eq_true rfl, Nat.le_of_ble_eq_true rfl⟩ (Nat.le_of_ble_eq_true rfl) ⟨Nat.zero_le _, Nat.zero_le _⟩ rfl dX4_holdsWith_20 (fun v6 S5 H locs h hW => ?_)
  refine lv_aload_n hx hb dX4_holdsWith_23 rfl (lv_at hl 0 rfl) ?_
  refine xg_30_0 C hW fl_X4_12 dX4_holdsWith_24 ?_
  refine lv_iload_n hx hb dX4_holdsWith_27 rfl (lv_at hl 3 rfl) ?_
  refine zz_callVv (As := [.int x3]) C hW h (fun r hr => c_X9_add_31 hr) lk_X4_91 (hW.recv xr_31) rfl hl.1 ⟨rfl, rfl⟩ ⟨Nat.le_of_ble_eq_true rfl, Nat.le_of_ble_eq_true rfl⟩ (Nat.le_of_ble_eq_true rfl) ⟨Nat.zero_le _, Nat.zero_le _⟩ rfl dX4_holdsWith_28 (fun v8 S7 H locs h hW => ?_)
  refine lv_aload_n hx hb dX4_holdsWith_31 rfl (lv_at hl 0 rfl) ?_
  refine xg_30_0 C hW fl_X4_12 dX4_holdsWith_32 ?_
  refine lv_iload hx hb dX4_holdsWith_35 (lv_at hl 4 rfl) ?_
  refine zz_callVv (As := [.int x4]) C hW h (fun r hr => c_X9_add_31 hr) lk_X4_91 (hW.recv xr_31) rfl hl.1 ⟨rfl, rfl⟩ ⟨Nat.le_of_ble_eq_true rfl, Nat.le_of_ble_eq_true rfl⟩ (Nat.le_of_ble_eq_true rfl) ⟨Nat.zero_le _, Nat.zero_le _⟩ rfl dX4_holdsWith_37 (fun v10 S9 H locs h hW => ?_)
  refine lv_aload_n hx hb dX4_holdsWith_40 rfl (lv_at hl 0 rfl) ?_
  refine xg_30_0 C hW fl_X4_12 dX4_holdsWith_41 ?_
  refine zz_callVi (As := []) C hW h (fun r hr => c_X9_consistent_31 hr) lk_X4_94 (hW.recv xr_31) rfl hl.1 ⟨rfl, rfl⟩ ⟨Nat.le_of_ble_eq_true rfl, Nat.le_of_ble_eq_true rfl⟩ (Nat.le_of_ble_eq_true rfl) ⟨Nat.zero_le _, Nat.zero_le _⟩ rfl dX4_holdsWith_44 (fun v12 S11 H locs h hW => ?_)
  refine zz_ine (tgt := 54) C h dX4_holdsWith_47 (by decide) (fun h => ?_) (fun h => ?_)
  · refine lv_iconst (v := 0) hx hb dX4_holdsWith_54 (by decide) ?_
    exact w_X4_holdsWith_30_b55 (F := F) C h hW (lv_sub hl [] rfl)
  · refine lv_iconst (v := 1) hx hb dX4_holdsWith_50 (by decide) ?_
    refine lv_goto (tgt := 55) hx hb dX4_holdsWith_51 (by decide) ?_
    exact w_X4_holdsWith_30_b55 (F := F) C h hW (lv_sub hl [] rfl)
def n_X4_holdsWith_30 (F : Nat) (S : Zs) (x1 : Int32) (x2 : Int32) (x3 : Int32) (x4 : Int32) : Option (Int32 × Zs) := n_X4_holdsWith_30_e F  S x1 x2 x3 x4
theorem c_X4_holdsWith_30 {l : Launch} {D : va_G} {cs ad : Nat → Nat} {F : Nat} {S : Zs} {x1 : Int32} {x2 : Int32} {x3 : Int32} {x4 : Int32} {q : (Int32 × Zs)} (h : n_X4_holdsWith_30 F S x1 x2 x3 x4 = some q) : zMi l yX4_holdsWith cX4_holdsWith 5 (some .boolean) (zR 2 44) (xG D cs ad) [.ref (ad 30), .int x1, .int x2, .int x3, .int x4] S q :=
  zz_enter (by decide) (Nat.le_of_ble_eq_true rfl) (fun p e s m below meth c ls C hW hl => w_X4_holdsWith_30_e (F := F) C h hW (lv_sub hl [0, 1, 2, 3, 4] rfl))
def n_X4_mustLive_30_b51_l (F : Nat) (rc51 : Zs → Int32 → Int32 → Int32 → Int32 → Option (Int32 × Zs)) (S : Zs) (x5 : Int32) (x6 : Int32) (x7 : Int32) (x8 : Int32) : Option (Int32 × Zs) :=
  if (nI 8) ≤ x8 then (some ((-1 : Int32), S)) else (zlt xt_55 8 x8 (fun v1 => zcl (n_X4_holdsWith_30 F S v1 x5 x6 x7) (fun v3 S2 => if v3 = 0 then (zlet (x8 + (1 : Int32)) (fun v4 => rc51 S2 x5 x6 x7 v4)) else (zlt xt_55 8 x8 (fun v5 => some (v5, S2))))))
set_option maxRecDepth 20000 in
set_option maxHeartbeats 4000000 in
theorem w_X4_mustLive_30_b51_l {F : Nat} {q : (Int32 × Zs)} {S : Zs} {rc51 : Zs → Int32 → Int32 → Int32 → Int32 → Option (Int32 × Zs)} {x5 : Int32} {x6 : Int32} {x7 : Int32} {x8 : Int32} {ls : Array Slot} {H : Heap} {locs : List Loc} (C : zC p s m args meth c cX4_mustLive 9 RX4 (some .int)) (hrc51 : ∀ (S : Zs) (x5 : Int32) (x6 : Int32) (x7 : Int32) (x8 : Int32) (H : Heap) (locs : List Loc) (ls : Array Slot), rc51 S x5 x6 x7 x8 = some q → zW (xG D cs ad) s S H locs → lv_has ls 9 [(0, .ref (ad 30)), (5, .int x5), (6, .int x6), (7, .int x7), (8, .int x8)] → W p l e (zR 3 68) s m args below meth c H locs 0 0 (zQi (xG D cs ad) q below args s) (F0 m 51 ls [])) (h : n_X4_mustLive_30_b51_l F rc51 S x5 x6 x7 x8 = some q) (hW : zW (xG D cs ad) s S H locs) (hl : lv_has ls 9 [(0, .ref (ad 30)), (5, .int x5), (6, .int x6), (7, .int x7), (8, .int x8)]) : W p l e (zR 3 68) s m args below meth c H locs 0 0 (zQi (xG D cs ad) q below args s) (F0 m 51 ls []) := by
  unfold n_X4_mustLive_30_b51_l at h
  obtain ⟨hx, hb, hml, hown, hts, hret, hlk⟩ := id C
  refine lv_iload hx hb dX4_mustLive_51 (lv_at hl 4 rfl) ?_
  refine xst_55 C hW fl_X4_81 dX4_mustLive_53 ?_
  refine xtn_55 C hW dX4_mustLive_56 ?_
  refine zz_cge (tgt := 92) C h dX4_mustLive_57 (by decide) (fun h => ?_) (fun h => ?_)
  · refine lv_iconst (v := -1) hx hb dX4_mustLive_92 (by decide) ?_
    exact zz_iret C rfl h hW dX4_mustLive_93
  · refine lv_aload_n hx hb dX4_mustLive_60 rfl (lv_at hl 0 rfl) ?_
    refine xst_55 C hW fl_X4_81 dX4_mustLive_61 ?_
    refine lv_iload hx hb dX4_mustLive_64 (lv_at hl 4 rfl) ?_
    refine xtl_55 C hW h dX4_mustLive_66 (fun v1 h => ?_)
    refine lv_iload hx hb dX4_mustLive_67 (lv_at hl 1 rfl) ?_
    refine lv_iload hx hb dX4_mustLive_69 (lv_at hl 2 rfl) ?_
    refine lv_iload hx hb dX4_mustLive_71 (lv_at hl 3 rfl) ?_
    refine zz_callVi (As := [.int v1, .int x5, .int x6, .int x7]) C hW h (fun r hr => c_X4_holdsWith_30 hr) lk_X4_77 (hW.recv xr_30) rfl hl.1 ⟨rfl, rfl⟩ ⟨Nat.le_of_ble_eq_true rfl, Nat.le_of_ble_eq_true rfl⟩ (Nat.le_of_ble_eq_true rfl) ⟨Nat.zero_le _, Nat.zero_le _⟩ rfl dX4_mustLive_73 (fun v3 S2 H locs h hW => ?_)
    refine zz_ieq (tgt := 86) C h dX4_mustLive_76 (by decide) (fun h => ?_) (fun h => ?_)
    · obtain ⟨v4, ev4, h⟩ := zz_name h
      refine lv_iinc (v := v4) (lv' := [(8, .int v4), (0, .ref (ad 30)), (5, .int x5), (6, .int x6), (7, .int x7)]) hx hb dX4_mustLive_86 hl (k := 4) rfl ev4.symm (by decide) rfl (fun ls hl => ?_)
      refine lv_goto (tgt := 51) hx hb dX4_mustLive_89 (by decide) ?_
      exact hrc51 _ _ _ _ _ _ _ _ h hW (lv_sub hl [1, 2, 3, 4, 0] rfl)
    · refine xst_55 C hW fl_X4_81 dX4_mustLive_79 ?_
      refine lv_iload hx hb dX4_mustLive_82 (lv_at hl 4 rfl) ?_
      refine xtl_55 C hW h dX4_mustLive_84 (fun v5 h => ?_)
      exact zz_iret C rfl h hW dX4_mustLive_85
def n_X4_mustLive_30_b51 (F : Nat)  (S : Zs) (x5 : Int32) (x6 : Int32) (x7 : Int32) (x8 : Int32) : Option (Int32 × Zs) :=
  zfix (fun (rc : (Zs × Int32 × Int32 × Int32 × Int32) → Option (Int32 × Zs)) (u : (Zs × Int32 × Int32 × Int32 × Int32)) => n_X4_mustLive_30_b51_l F  (fun S x5 x6 x7 x8 => rc (S, x5, x6, x7, x8)) u.1 u.2.1 u.2.2.1 u.2.2.2.1 u.2.2.2.2) F (S, x5, x6, x7, x8)
theorem w_X4_mustLive_30_b51 {F : Nat} {q : (Int32 × Zs)}  (C : zC p s m args meth c cX4_mustLive 9 RX4 (some .int))  : ∀ (n : Nat) (S : Zs) (x5 : Int32) (x6 : Int32) (x7 : Int32) (x8 : Int32) (H : Heap) (locs : List Loc) (ls : Array Slot), zfix (fun (rc : (Zs × Int32 × Int32 × Int32 × Int32) → Option (Int32 × Zs)) (u : (Zs × Int32 × Int32 × Int32 × Int32)) => n_X4_mustLive_30_b51_l F  (fun S x5 x6 x7 x8 => rc (S, x5, x6, x7, x8)) u.1 u.2.1 u.2.2.1 u.2.2.2.1 u.2.2.2.2) n (S, x5, x6, x7, x8) = some q → zW (xG D cs ad) s S H locs → lv_has ls 9 [(0, .ref (ad 30)), (5, .int x5), (6, .int x6), (7, .int x7), (8, .int x8)] → W p l e (zR 3 68) s m args below meth c H locs 0 0 (zQi (xG D cs ad) q below args s) (F0 m 51 ls []) := by
  intro n
  induction n with
  | zero => intro S x5 x6 x7 x8 H locs ls h; exact absurd h (fun h => by cases h)
  | succ n ih => intro S x5 x6 x7 x8 H locs ls h hW hl; exact w_X4_mustLive_30_b51_l (F := F) C (fun S x5 x6 x7 x8 H locs ls h hW hl => ih S x5 x6 x7 x8 H locs ls h hW hl) h hW hl
def n_X4_mustLive_30_e (F : Nat)  (S : Zs) (x1 : Int32) (x2 : Int32) (x3 : Int32) (x4 : Int32) : Option (Int32 × Zs) :=
  zcl (n_X4_firstPremise F S x4 x1 (2 : Int32) (4 : Int32)) (fun v2 S1 => zcl (n_X4_secondPremise F S1 x4 x2 (2 : Int32) (0 : Int32)) (fun v4 S3 => zcl (n_X0_make F S3 x3 (0 : Int32) (4 : Int32)) (fun v6 S5 => zcl (n_X0_contrary F S5 v6) (fun v8 S7 => zcl (n_X4_holdsWith_30 F S7 (7 : Int32) v2 v4 v8) (fun v10 S9 => if v10 = 0 then (some ((-1 : Int32), S9)) else (n_X4_mustLive_30_b51 F  S9 v2 v4 v8 (0 : Int32)))))))
set_option maxRecDepth 20000 in
set_option maxHeartbeats 4000000 in
theorem w_X4_mustLive_30_e {F : Nat} {q : (Int32 × Zs)} {S : Zs}  {x1 : Int32} {x2 : Int32} {x3 : Int32} {x4 : Int32} {ls : Array Slot} {H : Heap} {locs : List Loc} (C : zC p s m args meth c cX4_mustLive 9 RX4 (some .int))  (h : n_X4_mustLive_30_e F  S x1 x2 x3 x4 = some q) (hW : zW (xG D cs ad) s S H locs) (hl : lv_has ls 9 [(0, .ref (ad 30)), (1, .int x1), (2, .int x2), (3, .int x3), (4, .int x4)]) : W p l e (zR 3 68) s m args below meth c H locs 0 0 (zQi (xG D cs ad) q below args s) (F0 m 0 ls []) := by
  unfold n_X4_mustLive_30_e at h
  obtain ⟨hx, hb, hml, hown, hts, hret, hlk⟩ := id C
  refine lv_iload hx hb dX4_mustLive_0 (lv_at hl 4 rfl) ?_
  refine lv_iload_n hx hb dX4_mustLive_2 rfl (lv_at hl 1 rfl) ?_
  refine lv_iconst (v := 2) hx hb dX4_mustLive_3 (by decide) ?_
  refine lv_iconst (v := 4) hx hb dX4_mustLive_4 (by decide) ?_
  refine zz_callSi (As := [.int x4, .int x1, .int (2 : Int32), .int (4 : Int32)]) C hW h (fun r hr => c_X4_firstPremise hr) lk_X4_67 rfl hl.1 ⟨rfl, rfl⟩ ⟨Nat.le_of_ble_eq_true rfl, Nat.le_of_ble_eq_true rfl⟩ (Nat.le_of_ble_eq_true rfl) ⟨Nat.zero_le _, Nat.zero_le _⟩ rfl dX4_mustLive_5 (fun v2 S1 H locs h hW => ?_)
  refine lv_istore (lv' := [(5, .int v2), (0, .ref (ad 30)), (1, .int x1), (2, .int x2), (3, .int x3), (4, .int x4)]) hx hb dX4_mustLive_8 hl (by decide) rfl (fun ls hl => ?_)
  refine lv_iload hx hb dX4_mustLive_10 (lv_at hl 5 rfl) ?_
  refine lv_iload_n hx hb dX4_mustLive_12 rfl (lv_at hl 3 rfl) ?_
  refine lv_iconst (v := 2) hx hb dX4_mustLive_13 (by decide) ?_
  refine lv_iconst (v := 0) hx hb dX4_mustLive_14 (by decide) ?_
  refine zz_callSi (As := [.int x4, .int x2, .int (2 : Int32), .int (0 : Int32)]) C hW h (fun r hr => c_X4_secondPremise hr) lk_X4_71 rfl hl.1 ⟨rfl, rfl⟩ ⟨Nat.le_of_ble_eq_true rfl, Nat.le_of_ble_eq_true rfl⟩ (Nat.le_of_ble_eq_true rfl) ⟨Nat.zero_le _, Nat.zero_le _⟩ rfl dX4_mustLive_15 (fun v4 S3 H locs h hW => ?_)
  refine lv_istore (lv' := [(6, .int v4), (5, .int v2), (0, .ref (ad 30)), (1, .int x1), (2, .int x2), (3, .int x3), (4, .int x4)]) hx hb dX4_mustLive_18 hl (by decide) rfl (fun ls hl => ?_)
  refine lv_iload_n hx hb dX4_mustLive_20 rfl (lv_at hl 5 rfl) ?_
  refine lv_iconst (v := 0) hx hb dX4_mustLive_21 (by decide) ?_
  refine lv_iconst (v := 4) hx hb dX4_mustLive_22 (by decide) ?_
  refine zz_callSi (As := [.int x3, .int (0 : Int32), .int (4 : Int32)]) C hW h (fun r hr => c_X0_make hr) lk_X4_18 rfl hl.1 ⟨rfl, rfl⟩ ⟨Nat.le_of_ble_eq_true rfl, Nat.le_of_ble_eq_true rfl⟩ (Nat.le_of_ble_eq_true rfl) ⟨Nat.zero_le _, Nat.zero_le _⟩ rfl dX4_mustLive_23 (fun v6 S5 H locs h hW => ?_)
  refine zz_callSi (As := [.int v6]) C hW h (fun r hr => c_X0_contrary hr) lk_X4_74 rfl hl.1 ⟨rfl, rfl⟩ ⟨Nat.le_of_ble_eq_true rfl, Nat.le_of_ble_eq_true rfl⟩ (Nat.le_of_ble_eq_true rfl) ⟨Nat.zero_le _, Nat.zero_le _⟩ rfl dX4_mustLive_26 (fun v8 S7 H locs h hW => ?_)
  refine lv_istore (lv' := [(7, .int v8), (6, .int v4), (5, .int v2), (0, .ref (ad 30)), (1, .int x1), (2, .int x2), (3, .int x3), (4, .int x4)]) hx hb dX4_mustLive_29 hl (by decide) rfl (fun ls hl => ?_)
  refine lv_aload_n hx hb dX4_mustLive_31 rfl (lv_at hl 3 rfl) ?_
  refine lv_bipush (v := 7) hx hb dX4_mustLive_32 (by decide) ?_
  refine lv_iload hx hb dX4_mustLive_34 (lv_at hl 2 rfl) ?_
  refine lv_iload hx hb dX4_mustLive_36 (lv_at hl 1 rfl) ?_
  refine lv_iload hx hb dX4_mustLive_38 (lv_at hl 0 rfl) ?_
  refine zz_callVi (As := [.int (7 : Int32), .int v2, .int v4, .int v8]) C hW h (fun r hr => c_X4_holdsWith_30 hr) lk_X4_77 (hW.recv xr_30) rfl hl.1 ⟨rfl, rfl⟩ ⟨Nat.le_of_ble_eq_true rfl, Nat.le_of_ble_eq_true rfl⟩ (Nat.le_of_ble_eq_true rfl) ⟨Nat.zero_le _, Nat.zero_le _⟩ rfl dX4_mustLive_40 (fun v10 S9 H locs h hW => ?_)
  refine zz_ine (tgt := 48) C h dX4_mustLive_43 (by decide) (fun h => ?_) (fun h => ?_)
  · refine lv_iconst (v := 0) hx hb dX4_mustLive_48 (by decide) ?_
    refine lv_istore (lv' := [(8, .int (0 : Int32)), (7, .int v8), (6, .int v4), (5, .int v2), (0, .ref (ad 30)), (1, .int x1), (2, .int x2), (3, .int x3), (4, .int x4)]) hx hb dX4_mustLive_49 hl (by decide) rfl (fun ls hl => ?_)
    exact w_X4_mustLive_30_b51 (F := F) C F _ _ _ _ _ _ _ _ h hW (lv_sub hl [4, 3, 2, 1, 0] rfl)
  · refine lv_iconst (v := -1) hx hb dX4_mustLive_46 (by decide) ?_
    exact zz_iret C rfl h hW dX4_mustLive_47
def n_X4_mustLive_30 (F : Nat) (S : Zs) (x1 : Int32) (x2 : Int32) (x3 : Int32) (x4 : Int32) : Option (Int32 × Zs) := n_X4_mustLive_30_e F  S x1 x2 x3 x4
theorem c_X4_mustLive_30 {l : Launch} {D : va_G} {cs ad : Nat → Nat} {F : Nat} {S : Zs} {x1 : Int32} {x2 : Int32} {x3 : Int32} {x4 : Int32} {q : (Int32 × Zs)} (h : n_X4_mustLive_30 F S x1 x2 x3 x4 = some q) : zMi l yX4_mustLive cX4_mustLive 9 (some .int) (zR 3 68) (xG D cs ad) [.ref (ad 30), .int x1, .int x2, .int x3, .int x4] S q :=
  zz_enter (by decide) (Nat.le_of_ble_eq_true rfl) (fun p e s m below meth c ls C hW hl => w_X4_mustLive_30_e (F := F) C h hW (lv_sub hl [0, 1, 2, 3, 4] rfl))
def n_X4_isOfAll_b37 (F : Nat)  (S : Zs) (t0 : Int32) : Option (Int32 × Zs) :=
  zrb t0 S
set_option maxRecDepth 20000 in
set_option maxHeartbeats 4000000 in
theorem w_X4_isOfAll_b37 {F : Nat} {q : (Int32 × Zs)} {S : Zs}  {t0 : Int32} {ls : Array Slot} {H : Heap} {locs : List Loc} (C : zC p s m args meth c cX4_isOfAll 3 RX4 (some .boolean))  (h : n_X4_isOfAll_b37 F  S t0 = some q) (hW : zW (xG D cs ad) s S H locs) (hl : lv_has ls 3 []) : W p l e (zR 1 20) s m args below meth c H locs 0 0 (zQi (xG D cs ad) q below args s) (F0 m 37 ls [.int t0]) := by
  unfold n_X4_isOfAll_b37 at h
  obtain ⟨hx, hb, hml, hown, hts, hret, hlk⟩ := id C
  exact zz_zret C rfl h hW dX4_isOfAll_37
def n_X4_isOfAll_b36 (F : Nat)  (S : Zs)  : Option (Int32 × Zs) :=
  n_X4_isOfAll_b37 F  S (0 : Int32)
set_option maxRecDepth 20000 in
set_option maxHeartbeats 4000000 in
theorem w_X4_isOfAll_b36 {F : Nat} {q : (Int32 × Zs)} {S : Zs}   {ls : Array Slot} {H : Heap} {locs : List Loc} (C : zC p s m args meth c cX4_isOfAll 3 RX4 (some .boolean))  (h : n_X4_isOfAll_b36 F  S  = some q) (hW : zW (xG D cs ad) s S H locs) (hl : lv_has ls 3 []) : W p l e (zR 1 20) s m args below meth c H locs 0 0 (zQi (xG D cs ad) q below args s) (F0 m 36 ls []) := by
  unfold n_X4_isOfAll_b36 at h
  obtain ⟨hx, hb, hml, hown, hts, hret, hlk⟩ := id C
  refine lv_iconst (v := 0) hx hb dX4_isOfAll_36 (by decide) ?_
  exact w_X4_isOfAll_b37 (F := F) C h hW (lv_sub hl [] rfl)
def n_X4_isOfAll_b32 (F : Nat)  (S : Zs)  : Option (Int32 × Zs) :=
  n_X4_isOfAll_b37 F  S (1 : Int32)
set_option maxRecDepth 20000 in
set_option maxHeartbeats 4000000 in
theorem w_X4_isOfAll_b32 {F : Nat} {q : (Int32 × Zs)} {S : Zs}   {ls : Array Slot} {H : Heap} {locs : List Loc} (C : zC p s m args meth c cX4_isOfAll 3 RX4 (some .boolean))  (h : n_X4_isOfAll_b32 F  S  = some q) (hW : zW (xG D cs ad) s S H locs) (hl : lv_has ls 3 []) : W p l e (zR 1 20) s m args below meth c H locs 0 0 (zQi (xG D cs ad) q below args s) (F0 m 32 ls []) := by
  unfold n_X4_isOfAll_b32 at h
  obtain ⟨hx, hb, hml, hown, hts, hret, hlk⟩ := id C
  refine lv_iconst (v := 1) hx hb dX4_isOfAll_32 (by decide) ?_
  refine lv_goto (tgt := 37) hx hb dX4_isOfAll_33 (by decide) ?_
  exact w_X4_isOfAll_b37 (F := F) C h hW (lv_sub hl [] rfl)
def n_X4_isOfAll_b18 (F : Nat)  (S : Zs) (x0 : Int32) (x1 : Int32) (x2 : Int32) : Option (Int32 × Zs) :=
  zcl (n_X0_predicate F S x0) (fun v2 S1 => if x1 = v2 then (if (x2 &&& (1 : Int32)) = 0 then (n_X4_isOfAll_b36 F  S1 ) else (n_X4_isOfAll_b32 F  S1 )) else (n_X4_isOfAll_b36 F  S1 ))
set_option maxRecDepth 20000 in
set_option maxHeartbeats 4000000 in
theorem w_X4_isOfAll_b18 {F : Nat} {q : (Int32 × Zs)} {S : Zs}  {x0 : Int32} {x1 : Int32} {x2 : Int32} {ls : Array Slot} {H : Heap} {locs : List Loc} (C : zC p s m args meth c cX4_isOfAll 3 RX4 (some .boolean))  (h : n_X4_isOfAll_b18 F  S x0 x1 x2 = some q) (hW : zW (xG D cs ad) s S H locs) (hl : lv_has ls 3 [(0, .int x0), (1, .int x1), (2, .int x2)]) : W p l e (zR 1 20) s m args below meth c H locs 0 0 (zQi (xG D cs ad) q below args s) (F0 m 18 ls []) := by
  unfold n_X4_isOfAll_b18 at h
  obtain ⟨hx, hb, hml, hown, hts, hret, hlk⟩ := id C
  refine lv_iload_n hx hb dX4_isOfAll_18 rfl (lv_at hl 1 rfl) ?_
  refine lv_iload_n hx hb dX4_isOfAll_19 rfl (lv_at hl 0 rfl) ?_
  refine zz_callSi (As := [.int x0]) C hW h (fun r hr => c_X0_predicate hr) lk_X4_28 rfl hl.1 ⟨rfl, rfl⟩ ⟨Nat.le_of_ble_eq_true rfl, Nat.le_of_ble_eq_true rfl⟩ (Nat.le_of_ble_eq_true rfl) ⟨Nat.zero_le _, Nat.zero_le _⟩ rfl dX4_isOfAll_20 (fun v2 S1 H locs h hW => ?_)
  refine zz_cne (tgt := 36) C h dX4_isOfAll_23 (by decide) (fun h => ?_) (fun h => ?_)
  · exact w_X4_isOfAll_b36 (F := F) C h hW (lv_sub hl [] rfl)
  · refine lv_iload_n hx hb dX4_isOfAll_26 rfl (lv_at hl 2 rfl) ?_
    refine lv_iconst (v := 1) hx hb dX4_isOfAll_27 (by decide) ?_
    refine lv_iand hx hb dX4_isOfAll_28 ?_
    refine zz_ieq (tgt := 36) C h dX4_isOfAll_29 (by decide) (fun h => ?_) (fun h => ?_)
    · exact w_X4_isOfAll_b36 (F := F) C h hW (lv_sub hl [] rfl)
    · exact w_X4_isOfAll_b32 (F := F) C h hW (lv_sub hl [] rfl)
def n_X4_isOfAll_e (F : Nat)  (S : Zs) (x0 : Int32) (x1 : Int32) : Option (Int32 × Zs) :=
  zcl (n_X0_form F S x0) (fun v2 S1 => zcl (n_X0_subject F S1 x0) (fun v4 S3 => if x1 = v4 then (if v2 < (2 : Int32) then (n_X4_isOfAll_b32 F  S3 ) else (n_X4_isOfAll_b18 F  S3 x0 x1 v2)) else (n_X4_isOfAll_b18 F  S3 x0 x1 v2)))
set_option maxRecDepth 20000 in
set_option maxHeartbeats 4000000 in
theorem w_X4_isOfAll_e {F : Nat} {q : (Int32 × Zs)} {S : Zs}  {x0 : Int32} {x1 : Int32} {ls : Array Slot} {H : Heap} {locs : List Loc} (C : zC p s m args meth c cX4_isOfAll 3 RX4 (some .boolean))  (h : n_X4_isOfAll_e F  S x0 x1 = some q) (hW : zW (xG D cs ad) s S H locs) (hl : lv_has ls 3 [(0, .int x0), (1, .int x1)]) : W p l e (zR 1 20) s m args below meth c H locs 0 0 (zQi (xG D cs ad) q below args s) (F0 m 0 ls []) := by
  unfold n_X4_isOfAll_e at h
  obtain ⟨hx, hb, hml, hown, hts, hret, hlk⟩ := id C
  refine lv_iload_n hx hb dX4_isOfAll_0 rfl (lv_at hl 0 rfl) ?_
  refine zz_callSi (As := [.int x0]) C hW h (fun r hr => c_X0_form hr) lk_X4_39 rfl hl.1 ⟨rfl, rfl⟩ ⟨Nat.le_of_ble_eq_true rfl, Nat.le_of_ble_eq_true rfl⟩ (Nat.le_of_ble_eq_true rfl) ⟨Nat.zero_le _, Nat.zero_le _⟩ rfl dX4_isOfAll_1 (fun v2 S1 H locs h hW => ?_)
  refine lv_istore_n (lv' := [(2, .int v2), (0, .int x0), (1, .int x1)]) hx hb dX4_isOfAll_4 rfl hl (by decide) rfl (fun ls hl => ?_)
  refine lv_iload_n hx hb dX4_isOfAll_5 rfl (lv_at hl 2 rfl) ?_
  refine lv_iload_n hx hb dX4_isOfAll_6 rfl (lv_at hl 1 rfl) ?_
  refine zz_callSi (As := [.int x0]) C hW h (fun r hr => c_X0_subject hr) lk_X4_24 rfl hl.1 ⟨rfl, rfl⟩ ⟨Nat.le_of_ble_eq_true rfl, Nat.le_of_ble_eq_true rfl⟩ (Nat.le_of_ble_eq_true rfl) ⟨Nat.zero_le _, Nat.zero_le _⟩ rfl dX4_isOfAll_7 (fun v4 S3 H locs h hW => ?_)
  refine zz_cne (tgt := 18) C h dX4_isOfAll_10 (by decide) (fun h => ?_) (fun h => ?_)
  · exact w_X4_isOfAll_b18 (F := F) C h hW (lv_sub hl [1, 2, 0] rfl)
  · refine lv_iload_n hx hb dX4_isOfAll_13 rfl (lv_at hl 0 rfl) ?_
    refine lv_iconst (v := 2) hx hb dX4_isOfAll_14 (by decide) ?_
    refine zz_clt (tgt := 32) C h dX4_isOfAll_15 (by decide) (fun h => ?_) (fun h => ?_)
    · exact w_X4_isOfAll_b32 (F := F) C h hW (lv_sub hl [] rfl)
    · exact w_X4_isOfAll_b18 (F := F) C h hW (lv_sub hl [1, 2, 0] rfl)
def n_X4_isOfAll (F : Nat) (S : Zs) (x0 : Int32) (x1 : Int32) : Option (Int32 × Zs) := n_X4_isOfAll_e F  S x0 x1
theorem c_X4_isOfAll {l : Launch} {D : va_G} {cs ad : Nat → Nat} {F : Nat} {S : Zs} {x0 : Int32} {x1 : Int32} {q : (Int32 × Zs)} (h : n_X4_isOfAll F S x0 x1 = some q) : zMi l yX4_isOfAll cX4_isOfAll 3 (some .boolean) (zR 1 20) (xG D cs ad) [.int x0, .int x1] S q :=
  zz_enter (by decide) (Nat.le_of_ble_eq_true rfl) (fun p e s m below meth c ls C hW hl => w_X4_isOfAll_e (F := F) C h hW (lv_sub hl [0, 1] rfl))
end ZM
