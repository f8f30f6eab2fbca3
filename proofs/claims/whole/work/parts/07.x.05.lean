section ZM
variable {p : Program} {l : Launch} {e : Env} {s : State} {m : MethodId} {args : Array Value} {below : List Frame} {meth : Method} {c : Code} {D : va_G} {cs ad : Nat → Nat}
def n_X5_settle_35_b215 (F : Nat)  (S : Zs)  : Option (Int32 × Zs) :=
  some (0, S)
set_option maxRecDepth 20000 in
set_option maxHeartbeats 4000000 in
theorem w_X5_settle_35_b215 {F : Nat} {q : (Int32 × Zs)} {S : Zs}   {ls : Array Slot} {H : Heap} {locs : List Loc} (C : zC p s m args meth c cX5_settle 3 RX5 none)  (h : n_X5_settle_35_b215 F  S  = some q) (hW : zW (xG D cs ad) s S H locs) (hl : lv_has ls 3 []) : W p l e (zR 4 99) s m args below meth c H locs 0 0 (zQv (xG D cs ad) q below args s) (F0 m 215 ls []) := by
  unfold n_X5_settle_35_b215 at h
  obtain ⟨hx, hb, hml, hown, hts, hret, hlk⟩ := id C
  exact zz_vret C rfl h hW dX5_settle_215
def n_X5_settle_35_b187_l (F : Nat) (rc187 : Zs → Int32 → Option (Int32 × Zs)) (S : Zs) (x2 : Int32) : Option (Int32 × Zs) :=
  if (2304 : Int32) ≤ x2 then (n_X5_settle_35_b215 F  S ) else (zgf S 707 (fun v1 => zgf S 706 (fun v2 => if v2 ≤ v1 then (n_X5_settle_35_b215 F  S ) else (zcl (n_X5_settleShortest_35 F S ) (fun v4 S3 => zlet (x2 + (1 : Int32)) (fun v5 => rc187 S3 v5))))))
set_option maxRecDepth 20000 in
set_option maxHeartbeats 4000000 in
theorem w_X5_settle_35_b187_l {F : Nat} {q : (Int32 × Zs)} {S : Zs} {rc187 : Zs → Int32 → Option (Int32 × Zs)} {x2 : Int32} {ls : Array Slot} {H : Heap} {locs : List Loc} (C : zC p s m args meth c cX5_settle 3 RX5 none) (hrc187 : ∀ (S : Zs) (x2 : Int32) (H : Heap) (locs : List Loc) (ls : Array Slot), rc187 S x2 = some q → zW (xG D cs ad) s S H locs → lv_has ls 3 [(0, .ref (ad 35)), (2, .int x2)] → W p l e (zR 4 99) s m args below meth c H locs 0 0 (zQv (xG D cs ad) q below args s) (F0 m 187 ls [])) (h : n_X5_settle_35_b187_l F rc187 S x2 = some q) (hW : zW (xG D cs ad) s S H locs) (hl : lv_has ls 3 [(0, .ref (ad 35)), (2, .int x2)]) : W p l e (zR 4 99) s m args below meth c H locs 0 0 (zQv (xG D cs ad) q below args s) (F0 m 187 ls []) := by
  unfold n_X5_settle_35_b187_l at h
  obtain ⟨hx, hb, hml, hown, hts, hret, hlk⟩ := id C
  refine lv_iload_n hx hb dX5_settle_187 rfl (lv_at hl 1 rfl) ?_
  refine lv_sipush (v := 2304) hx hb dX5_settle_188 (by decide) ?_
  refine zz_cge (tgt := 215) C h dX5_settle_191 (by decide) (fun h => ?_) (fun h => ?_)
  · exact w_X5_settle_35_b215 (F := F) C h hW (lv_sub hl [] rfl)
  · refine lv_aload_n hx hb dX5_settle_194 rfl (lv_at hl 0 rfl) ?_
    refine xg_35_7 C hW h fl_X5_74 dX5_settle_195 (fun v1 h => ?_)
    refine lv_aload_n hx hb dX5_settle_198 rfl (lv_at hl 0 rfl) ?_
    refine xg_35_6 C hW h fl_X5_57 dX5_settle_199 (fun v2 h => ?_)
    refine zz_cge (tgt := 215) C h dX5_settle_202 (by decide) (fun h => ?_) (fun h => ?_)
    · exact w_X5_settle_35_b215 (F := F) C h hW (lv_sub hl [] rfl)
    · refine lv_aload_n hx hb dX5_settle_205 rfl (lv_at hl 0 rfl) ?_
      refine zz_callVv (As := []) C hW h (fun r hr => c_X5_settleShortest_35 hr) lk_X5_80 (hW.recv xr_35) rfl hl.1 ⟨rfl, rfl⟩ ⟨Nat.le_of_ble_eq_true rfl, Nat.le_of_ble_eq_true rfl⟩ (Nat.le_of_ble_eq_true rfl) ⟨Nat.zero_le _, Nat.zero_le _⟩ rfl dX5_settle_206 (fun v4 S3 H locs h hW => ?_)
      obtain ⟨v5, ev5, h⟩ := zz_name h
      refine lv_iinc (v := v5) (lv' := [(2, .int v5), (0, .ref (ad 35))]) hx hb dX5_settle_209 hl (k := 1) rfl ev5.symm (by decide) rfl (fun ls hl => ?_)
      refine lv_goto (tgt := 187) hx hb dX5_settle_212 (by decide) ?_
      exact hrc187 _ _ _ _ _ h hW (lv_sub hl [1, 0] rfl)
def n_X5_settle_35_b187 (F : Nat)  (S : Zs) (x2 : Int32) : Option (Int32 × Zs) :=
  zfix (fun (rc : (Zs × Int32) → Option (Int32 × Zs)) (u : (Zs × Int32)) => n_X5_settle_35_b187_l F  (fun S x2 => rc (S, x2)) u.1 u.2) F (S, x2)
theorem w_X5_settle_35_b187 {F : Nat} {q : (Int32 × Zs)}  (C : zC p s m args meth c cX5_settle 3 RX5 none)  : ∀ (n : Nat) (S : Zs) (x2 : Int32) (H : Heap) (locs : List Loc) (ls : Array Slot), zfix (fun (rc : (Zs × Int32) → Option (Int32 × Zs)) (u : (Zs × Int32)) => n_X5_settle_35_b187_l F  (fun S x2 => rc (S, x2)) u.1 u.2) n (S, x2) = some q → zW (xG D cs ad) s S H locs → lv_has ls 3 [(0, .ref (ad 35)), (2, .int x2)] → W p l e (zR 4 99) s m args below meth c H locs 0 0 (zQv (xG D cs ad) q below args s) (F0 m 187 ls []) := by
  intro n
  induction n with
  | zero => intro S x2 H locs ls h; exact absurd h (fun h => by cases h)
  | succ n ih => intro S x2 H locs ls h hW hl; exact w_X5_settle_35_b187_l (F := F) C (fun S x2 H locs ls h hW hl => ih S x2 H locs ls h hW hl) h hW hl
def n_X5_settle_35_b169 (F : Nat) (rc133 : Zs → Int32 → Option (Int32 × Zs)) (S : Zs) (x2 : Int32) : Option (Int32 × Zs) :=
  zlet (x2 + (1 : Int32)) (fun v1 => rc133 S v1)
set_option maxRecDepth 20000 in
set_option maxHeartbeats 4000000 in
theorem w_X5_settle_35_b169 {F : Nat} {q : (Int32 × Zs)} {S : Zs} {rc133 : Zs → Int32 → Option (Int32 × Zs)} {x2 : Int32} {ls : Array Slot} {H : Heap} {locs : List Loc} (C : zC p s m args meth c cX5_settle 3 RX5 none) (hrc133 : ∀ (S : Zs) (x2 : Int32) (H : Heap) (locs : List Loc) (ls : Array Slot), rc133 S x2 = some q → zW (xG D cs ad) s S H locs → lv_has ls 3 [(0, .ref (ad 35)), (2, .int x2)] → W p l e (zR 4 99) s m args below meth c H locs 0 0 (zQv (xG D cs ad) q below args s) (F0 m 133 ls [])) (h : n_X5_settle_35_b169 F rc133 S x2 = some q) (hW : zW (xG D cs ad) s S H locs) (hl : lv_has ls 3 [(0, .ref (ad 35)), (2, .int x2)]) : W p l e (zR 4 99) s m args below meth c H locs 0 0 (zQv (xG D cs ad) q below args s) (F0 m 169 ls []) := by
  unfold n_X5_settle_35_b169 at h
  obtain ⟨hx, hb, hml, hown, hts, hret, hlk⟩ := id C
  obtain ⟨v1, ev1, h⟩ := zz_name h
  refine lv_iinc (v := v1) (lv' := [(2, .int v1), (0, .ref (ad 35))]) hx hb dX5_settle_169 hl (k := 1) rfl ev1.symm (by decide) rfl (fun ls hl => ?_)
  refine lv_goto (tgt := 133) hx hb dX5_settle_172 (by decide) ?_
  exact hrc133 _ _ _ _ _ h hW (lv_sub hl [1, 0] rfl)
def n_X5_settle_35_b133_l (F : Nat) (rc133 : Zs → Int32 → Option (Int32 × Zs)) (S : Zs) (x2 : Int32) : Option (Int32 × Zs) :=
  zgf S 62 (fun v1 => if v1 ≤ x2 then (zpf S 707 (0 : Int32) (fun S2 => zpf S2 708 (0 : Int32) (fun S3 => n_X5_settle_35_b187 F  S3 (0 : Int32)))) else (zcl (n_X2_isActive_3 F S x2) (fun v5 S4 => if v5 = 0 then (n_X5_settle_35_b169 F rc133 S4 x2) else (zld S4 4 16 x2 (fun v6 => zcl (n_X5_offer_35 F S4 v6 (0 : Int32)) (fun v8 S7 => n_X5_settle_35_b169 F rc133 S7 x2))))))
set_option maxRecDepth 20000 in
set_option maxHeartbeats 4000000 in
theorem w_X5_settle_35_b133_l {F : Nat} {q : (Int32 × Zs)} {S : Zs} {rc133 : Zs → Int32 → Option (Int32 × Zs)} {x2 : Int32} {ls : Array Slot} {H : Heap} {locs : List Loc} (C : zC p s m args meth c cX5_settle 3 RX5 none) (hrc133 : ∀ (S : Zs) (x2 : Int32) (H : Heap) (locs : List Loc) (ls : Array Slot), rc133 S x2 = some q → zW (xG D cs ad) s S H locs → lv_has ls 3 [(0, .ref (ad 35)), (2, .int x2)] → W p l e (zR 4 99) s m args below meth c H locs 0 0 (zQv (xG D cs ad) q below args s) (F0 m 133 ls [])) (h : n_X5_settle_35_b133_l F rc133 S x2 = some q) (hW : zW (xG D cs ad) s S H locs) (hl : lv_has ls 3 [(0, .ref (ad 35)), (2, .int x2)]) : W p l e (zR 4 99) s m args below meth c H locs 0 0 (zQv (xG D cs ad) q below args s) (F0 m 133 ls []) := by
  unfold n_X5_settle_35_b133_l at h
  obtain ⟨hx, hb, hml, hown, hts, hret, hlk⟩ := id C
  refine lv_iload_n hx hb dX5_settle_133 rfl (lv_at hl 1 rfl) ?_
  refine lv_aload_n hx hb dX5_settle_134 rfl (lv_at hl 0 rfl) ?_
  refine xg_35_0 C hW fl_X5_31 dX5_settle_135 ?_
  refine xg_3_2 C hW h fl_X5_60 dX5_settle_138 (fun v1 h => ?_)
  refine zz_cge (tgt := 175) C h dX5_settle_141 (by decide) (fun h => ?_) (fun h => ?_)
  · refine lv_aload_n hx hb dX5_settle_175 rfl (lv_at hl 0 rfl) ?_
    refine lv_iconst (v := 0) hx hb dX5_settle_176 (by decide) ?_
    refine xp_35_7 C hW h fl_X5_74 dX5_settle_177 (fun S2 H locs h hW => ?_)
    refine lv_aload_n hx hb dX5_settle_180 rfl (lv_at hl 0 rfl) ?_
    refine lv_iconst (v := 0) hx hb dX5_settle_181 (by decide) ?_
    refine xp_35_8 C hW h fl_X5_77 dX5_settle_182 (fun S3 H locs h hW => ?_)
    refine lv_iconst (v := 0) hx hb dX5_settle_185 (by decide) ?_
    refine lv_istore_n (lv' := [(2, .int (0 : Int32)), (0, .ref (ad 35))]) hx hb dX5_settle_186 rfl hl (by decide) rfl (fun ls hl => ?_)
    exact w_X5_settle_35_b187 (F := F) C F _ _ _ _ _ h hW (lv_sub hl [1, 0] rfl)
  · refine lv_aload_n hx hb dX5_settle_144 rfl (lv_at hl 0 rfl) ?_
    refine xg_35_0 C hW fl_X5_31 dX5_settle_145 ?_
    refine lv_iload_n hx hb dX5_settle_148 rfl (lv_at hl 1 rfl) ?_
    refine zz_callVi (As := [.int x2]) C hW h (fun r hr => c_X2_isActive_3 hr) lk_X5_63 (hW.recv xr_3) rfl hl.1 ⟨rfl, rfl⟩ ⟨Nat.le_of_ble_eq_true rfl, Nat.le_of_ble_eq_true rfl⟩ (Nat.le_of_ble_eq_true rfl) ⟨Nat.zero_le _, Nat.zero_le _⟩ rfl dX5_settle_149 (fun v5 S4 H locs h hW => ?_)
    refine zz_ieq (tgt := 169) C h dX5_settle_152 (by decide) (fun h => ?_) (fun h => ?_)
    · exact w_X5_settle_35_b169 (F := F) C hrc133 h hW (lv_sub hl [0, 1] rfl)
    · refine lv_aload_n hx hb dX5_settle_155 rfl (lv_at hl 0 rfl) ?_
      refine lv_aload_n hx hb dX5_settle_156 rfl (lv_at hl 0 rfl) ?_
      refine xg_35_0 C hW fl_X5_31 dX5_settle_157 ?_
      refine xg_3_0 C hW fl_X5_67 dX5_settle_160 ?_
      refine lv_iload_n hx hb dX5_settle_163 rfl (lv_at hl 1 rfl) ?_
      refine xl_4 C hW h dX5_settle_164 (fun v6 h => ?_)
      refine lv_iconst (v := 0) hx hb dX5_settle_165 (by decide) ?_
      refine zz_callVv (As := [.int v6, .int (0 : Int32)]) C hW h (fun r hr => c_X5_offer_35 hr) lk_X5_70 (hW.recv xr_35) rfl hl.1 ⟨rfl, rfl⟩ ⟨Nat.le_of_ble_eq_true rfl, Nat.le_of_ble_eq_true rfl⟩ (Nat.le_of_ble_eq_true rfl) ⟨Nat.zero_le _, Nat.zero_le _⟩ rfl dX5_settle_166 (fun v8 S7 H locs h hW => ?_)
      exact w_X5_settle_35_b169 (F := F) C hrc133 h hW (lv_sub hl [0, 1] rfl)
def n_X5_settle_35_b133 (F : Nat)  (S : Zs) (x2 : Int32) : Option (Int32 × Zs) :=
  zfix (fun (rc : (Zs × Int32) → Option (Int32 × Zs)) (u : (Zs × Int32)) => n_X5_settle_35_b133_l F  (fun S x2 => rc (S, x2)) u.1 u.2) F (S, x2)
theorem w_X5_settle_35_b133 {F : Nat} {q : (Int32 × Zs)}  (C : zC p s m args meth c cX5_settle 3 RX5 none)  : ∀ (n : Nat) (S : Zs) (x2 : Int32) (H : Heap) (locs : List Loc) (ls : Array Slot), zfix (fun (rc : (Zs × Int32) → Option (Int32 × Zs)) (u : (Zs × Int32)) => n_X5_settle_35_b133_l F  (fun S x2 => rc (S, x2)) u.1 u.2) n (S, x2) = some q → zW (xG D cs ad) s S H locs → lv_has ls 3 [(0, .ref (ad 35)), (2, .int x2)] → W p l e (zR 4 99) s m args below meth c H locs 0 0 (zQv (xG D cs ad) q below args s) (F0 m 133 ls []) := by
  intro n
  induction n with
  | zero => intro S x2 H locs ls h; exact absurd h (fun h => by cases h)
  | succ n ih => intro S x2 H locs ls h hW hl; exact w_X5_settle_35_b133_l (F := F) C (fun S x2 H locs ls h hW hl => ih S x2 H locs ls h hW hl) h hW hl
def n_X5_settle_35_b97_l (F : Nat) (rc97 : Zs → Int32 → Option (Int32 × Zs)) (S : Zs) (x2 : Int32) : Option (Int32 × Zs) :=
  if (nI 96) ≤ x2 then (zpf S 706 (0 : Int32) (fun S1 => n_X5_settle_35_b133 F  S1 (0 : Int32))) else (zst S 38 96 x2 (0 : Int32) (fun S2 => zst S2 39 96 x2 (0 : Int32) (fun S3 => zlet (x2 + (1 : Int32)) (fun v4 => rc97 S3 v4))))
set_option maxRecDepth 20000 in
set_option maxHeartbeats 4000000 in
theorem w_X5_settle_35_b97_l {F : Nat} {q : (Int32 × Zs)} {S : Zs} {rc97 : Zs → Int32 → Option (Int32 × Zs)} {x2 : Int32} {ls : Array Slot} {H : Heap} {locs : List Loc} (C : zC p s m args meth c cX5_settle 3 RX5 none) (hrc97 : ∀ (S : Zs) (x2 : Int32) (H : Heap) (locs : List Loc) (ls : Array Slot), rc97 S x2 = some q → zW (xG D cs ad) s S H locs → lv_has ls 3 [(0, .ref (ad 35)), (2, .int x2)] → W p l e (zR 4 99) s m args below meth c H locs 0 0 (zQv (xG D cs ad) q below args s) (F0 m 97 ls [])) (h : n_X5_settle_35_b97_l F rc97 S x2 = some q) (hW : zW (xG D cs ad) s S H locs) (hl : lv_has ls 3 [(0, .ref (ad 35)), (2, .int x2)]) : W p l e (zR 4 99) s m args below meth c H locs 0 0 (zQv (xG D cs ad) q below args s) (F0 m 97 ls []) := by
  unfold n_X5_settle_35_b97_l at h
  obtain ⟨hx, hb, hml, hown, hts, hret, hlk⟩ := id C
  refine lv_iload_n hx hb dX5_settle_97 rfl (lv_at hl 1 rfl) ?_
  refine lv_aload_n hx hb dX5_settle_98 rfl (lv_at hl 0 rfl) ?_
  refine xg_35_3 C hW fl_X5_18 dX5_settle_99 ?_
  refine xn_38 C hW dX5_settle_102 ?_
  refine zz_cge (tgt := 126) C h dX5_settle_103 (by decide) (fun h => ?_) (fun h => ?_)
  · refine lv_aload_n hx hb dX5_settle_126 rfl (lv_at hl 0 rfl) ?_
    refine lv_iconst (v := 0) hx hb dX5_settle_127 (by decide) ?_
    refine xp_35_6 C hW h fl_X5_57 dX5_settle_128 (fun S1 H locs h hW => ?_)
    refine lv_iconst (v := 0) hx hb dX5_settle_131 (by decide) ?_
    refine lv_istore_n (lv' := [(2, .int (0 : Int32)), (0, .ref (ad 35))]) hx hb dX5_settle_132 rfl hl (by decide) rfl (fun ls hl => ?_)
    exact w_X5_settle_35_b133 (F := F) C F _ _ _ _ _ h hW (lv_sub hl [1, 0] rfl)
  · refine lv_aload_n hx hb dX5_settle_106 rfl (lv_at hl 0 rfl) ?_
    refine xg_35_3 C hW fl_X5_18 dX5_settle_107 ?_
    refine lv_iload_n hx hb dX5_settle_110 rfl (lv_at hl 1 rfl) ?_
    refine lv_iconst (v := 0) hx hb dX5_settle_111 (by decide) ?_
    refine xs_38 C hW h dX5_settle_112 (fun S2 H locs h hW => ?_)
    refine lv_aload_n hx hb dX5_settle_113 rfl (lv_at hl 0 rfl) ?_
    refine xg_35_4 C hW fl_X5_21 dX5_settle_114 ?_
    refine lv_iload_n hx hb dX5_settle_117 rfl (lv_at hl 1 rfl) ?_
    refine lv_iconst (v := 0) hx hb dX5_settle_118 (by decide) ?_
    refine xs_39 C hW h dX5_settle_119 (fun S3 H locs h hW => ?_)
    obtain ⟨v4, ev4, h⟩ := zz_name h
    refine lv_iinc (v := v4) (lv' := [(2, .int v4), (0, .ref (ad 35))]) hx hb dX5_settle_120 hl (k := 1) rfl ev4.symm (by decide) rfl (fun ls hl => ?_)
    refine lv_goto (tgt := 97) hx hb dX5_settle_123 (by decide) ?_
    exact hrc97 _ _ _ _ _ h hW (lv_sub hl [1, 0] rfl)
def n_X5_settle_35_b97 (F : Nat)  (S : Zs) (x2 : Int32) : Option (Int32 × Zs) :=
  zfix (fun (rc : (Zs × Int32) → Option (Int32 × Zs)) (u : (Zs × Int32)) => n_X5_settle_35_b97_l F  (fun S x2 => rc (S, x2)) u.1 u.2) F (S, x2)
theorem w_X5_settle_35_b97 {F : Nat} {q : (Int32 × Zs)}  (C : zC p s m args meth c cX5_settle 3 RX5 none)  : ∀ (n : Nat) (S : Zs) (x2 : Int32) (H : Heap) (locs : List Loc) (ls : Array Slot), zfix (fun (rc : (Zs × Int32) → Option (Int32 × Zs)) (u : (Zs × Int32)) => n_X5_settle_35_b97_l F  (fun S x2 => rc (S, x2)) u.1 u.2) n (S, x2) = some q → zW (xG D cs ad) s S H locs → lv_has ls 3 [(0, .ref (ad 35)), (2, .int x2)] → W p l e (zR 4 99) s m args below meth c H locs 0 0 (zQv (xG D cs ad) q below args s) (F0 m 97 ls []) := by
  intro n
  induction n with
  | zero => intro S x2 H locs ls h; exact absurd h (fun h => by cases h)
  | succ n ih => intro S x2 H locs ls h hW hl; exact w_X5_settle_35_b97_l (F := F) C (fun S x2 H locs ls h hW hl => ih S x2 H locs ls h hW hl) h hW hl
def n_X5_settle_35_b74_l (F : Nat) (rc74 : Zs → Int32 → Option (Int32 × Zs)) (S : Zs) (x2 : Int32) : Option (Int32 × Zs) :=
  if (2304 : Int32) ≤ x2 then (n_X5_settle_35_b97 F  S (0 : Int32)) else (zst S 36 2304 x2 (268435456 : Int32) (fun S1 => zlet (x2 + (1 : Int32)) (fun v2 => rc74 S1 v2)))
set_option maxRecDepth 20000 in
set_option maxHeartbeats 4000000 in
theorem w_X5_settle_35_b74_l {F : Nat} {q : (Int32 × Zs)} {S : Zs} {rc74 : Zs → Int32 → Option (Int32 × Zs)} {x2 : Int32} {ls : Array Slot} {H : Heap} {locs : List Loc} (C : zC p s m args meth c cX5_settle 3 RX5 none) (hrc74 : ∀ (S : Zs) (x2 : Int32) (H : Heap) (locs : List Loc) (ls : Array Slot), rc74 S x2 = some q → zW (xG D cs ad) s S H locs → lv_has ls 3 [(0, .ref (ad 35)), (2, .int x2)] → W p l e (zR 4 99) s m args below meth c H locs 0 0 (zQv (xG D cs ad) q below args s) (F0 m 74 ls [])) (h : n_X5_settle_35_b74_l F rc74 S x2 = some q) (hW : zW (xG D cs ad) s S H locs) (hl : lv_has ls 3 [(0, .ref (ad 35)), (2, .int x2)]) : W p l e (zR 4 99) s m args below meth c H locs 0 0 (zQv (xG D cs ad) q below args s) (F0 m 74 ls []) := by
  unfold n_X5_settle_35_b74_l at h
  obtain ⟨hx, hb, hml, hown, hts, hret, hlk⟩ := id C
  refine lv_iload_n hx hb dX5_settle_74 rfl (lv_at hl 1 rfl) ?_
  refine lv_sipush (v := 2304) hx hb dX5_settle_75 (by decide) ?_
  refine zz_cge (tgt := 95) C h dX5_settle_78 (by decide) (fun h => ?_) (fun h => ?_)
  · refine lv_iconst (v := 0) hx hb dX5_settle_95 (by decide) ?_
    refine lv_istore_n (lv' := [(2, .int (0 : Int32)), (0, .ref (ad 35))]) hx hb dX5_settle_96 rfl hl (by decide) rfl (fun ls hl => ?_)
    exact w_X5_settle_35_b97 (F := F) C F _ _ _ _ _ h hW (lv_sub hl [1, 0] rfl)
  · refine lv_aload_n hx hb dX5_settle_81 rfl (lv_at hl 0 rfl) ?_
    refine xg_35_1 C hW fl_X5_9 dX5_settle_82 ?_
    refine lv_iload_n hx hb dX5_settle_85 rfl (lv_at hl 1 rfl) ?_
    refine lv_ldc (v := 268435456) hx hb hown (hts _ ct_X5_38) dX5_settle_86 ?_
    refine xs_36 C hW h dX5_settle_88 (fun S1 H locs h hW => ?_)
    obtain ⟨v2, ev2, h⟩ := zz_name h
    refine lv_iinc (v := v2) (lv' := [(2, .int v2), (0, .ref (ad 35))]) hx hb dX5_settle_89 hl (k := 1) rfl ev2.symm (by decide) rfl (fun ls hl => ?_)
    refine lv_goto (tgt := 74) hx hb dX5_settle_92 (by decide) ?_
    exact hrc74 _ _ _ _ _ h hW (lv_sub hl [1, 0] rfl)
def n_X5_settle_35_b74 (F : Nat)  (S : Zs) (x2 : Int32) : Option (Int32 × Zs) :=
  zfix (fun (rc : (Zs × Int32) → Option (Int32 × Zs)) (u : (Zs × Int32)) => n_X5_settle_35_b74_l F  (fun S x2 => rc (S, x2)) u.1 u.2) F (S, x2)
theorem w_X5_settle_35_b74 {F : Nat} {q : (Int32 × Zs)}  (C : zC p s m args meth c cX5_settle 3 RX5 none)  : ∀ (n : Nat) (S : Zs) (x2 : Int32) (H : Heap) (locs : List Loc) (ls : Array Slot), zfix (fun (rc : (Zs × Int32) → Option (Int32 × Zs)) (u : (Zs × Int32)) => n_X5_settle_35_b74_l F  (fun S x2 => rc (S, x2)) u.1 u.2) n (S, x2) = some q → zW (xG D cs ad) s S H locs → lv_has ls 3 [(0, .ref (ad 35)), (2, .int x2)] → W p l e (zR 4 99) s m args below meth c H locs 0 0 (zQv (xG D cs ad) q below args s) (F0 m 74 ls []) := by
  intro n
  induction n with
  | zero => intro S x2 H locs ls h; exact absurd h (fun h => by cases h)
  | succ n ih => intro S x2 H locs ls h hW hl; exact w_X5_settle_35_b74_l (F := F) C (fun S x2 H locs ls h hW hl => ih S x2 H locs ls h hW hl) h hW hl
def n_X5_settle_35_b45 (F : Nat)  (S : Zs) (x1 : Int32) : Option (Int32 × Zs) :=
  zpf S 709 x1 (fun S1 => zgf S1 65 (fun v2 => zpf S1 710 v2 (fun S3 => zgf S3 66 (fun v4 => zpf S3 711 v4 (fun S5 => n_X5_settle_35_b74 F  S5 (0 : Int32))))))
set_option maxRecDepth 20000 in
set_option maxHeartbeats 4000000 in
theorem w_X5_settle_35_b45 {F : Nat} {q : (Int32 × Zs)} {S : Zs}  {x1 : Int32} {ls : Array Slot} {H : Heap} {locs : List Loc} (C : zC p s m args meth c cX5_settle 3 RX5 none)  (h : n_X5_settle_35_b45 F  S x1 = some q) (hW : zW (xG D cs ad) s S H locs) (hl : lv_has ls 3 [(0, .ref (ad 35)), (1, .int x1)]) : W p l e (zR 4 99) s m args below meth c H locs 0 0 (zQv (xG D cs ad) q below args s) (F0 m 45 ls []) := by
  unfold n_X5_settle_35_b45 at h
  obtain ⟨hx, hb, hml, hown, hts, hret, hlk⟩ := id C
  refine lv_aload_n hx hb dX5_settle_45 rfl (lv_at hl 0 rfl) ?_
  refine lv_iload_n hx hb dX5_settle_46 rfl (lv_at hl 1 rfl) ?_
  refine xp_35_9 C hW h fl_X5_27 dX5_settle_47 (fun S1 H locs h hW => ?_)
  refine lv_aload_n hx hb dX5_settle_50 rfl (lv_at hl 0 rfl) ?_
  refine lv_aload_n hx hb dX5_settle_51 rfl (lv_at hl 0 rfl) ?_
  refine xg_35_0 C hW fl_X5_31 dX5_settle_52 ?_
  refine xg_3_5 C hW h fl_X5_48 dX5_settle_55 (fun v2 h => ?_)
  refine xp_35_10 C hW h fl_X5_45 dX5_settle_58 (fun S3 H locs h hW => ?_)
  refine lv_aload_n hx hb dX5_settle_61 rfl (lv_at hl 0 rfl) ?_
  refine lv_aload_n hx hb dX5_settle_62 rfl (lv_at hl 0 rfl) ?_
  refine xg_35_0 C hW fl_X5_31 dX5_settle_63 ?_
  refine xg_3_6 C hW h fl_X5_54 dX5_settle_66 (fun v4 h => ?_)
  refine xp_35_11 C hW h fl_X5_51 dX5_settle_69 (fun S5 H locs h hW => ?_)
  refine lv_iconst (v := 0) hx hb dX5_settle_72 (by decide) ?_
  refine lv_istore_n (lv' := [(2, .int (0 : Int32)), (0, .ref (ad 35)), (1, .int x1)]) hx hb dX5_settle_73 rfl hl (by decide) rfl (fun ls hl => ?_)
  exact w_X5_settle_35_b74 (F := F) C F _ _ _ _ _ h hW (lv_sub hl [1, 0] rfl)
def n_X5_settle_35_e (F : Nat)  (S : Zs)  : Option (Int32 × Zs) :=
  zcl (n_X2_active_3 F S ) (fun v2 S1 => zgf S1 709 (fun v3 => if v3 = v2 then (zgf S1 710 (fun v4 => zgf S1 65 (fun v5 => if v4 = v5 then (zgf S1 711 (fun v6 => zgf S1 66 (fun v7 => if v6 = v7 then (some (0, S1)) else (n_X5_settle_35_b45 F  S1 v2)))) else (n_X5_settle_35_b45 F  S1 v2)))) else (n_X5_settle_35_b45 F  S1 v2)))
set_option maxRecDepth 20000 in
set_option maxHeartbeats 4000000 in
theorem w_X5_settle_35_e {F : Nat} {q : (Int32 × Zs)} {S : Zs}   {ls : Array Slot} {H : Heap} {locs : List Loc} (C : zC p s m args meth c cX5_settle 3 RX5 none)  (h : n_X5_settle_35_e F  S  = some q) (hW : zW (xG D cs ad) s S H locs) (hl : lv_has ls 3 [(0, .ref (ad 35))]) : W p l e (zR 4 99) s m args below meth c H locs 0 0 (zQv (xG D cs ad) q below args s) (F0 m 0 ls []) := by
  unfold n_X5_settle_35_e at h
  obtain ⟨hx, hb, hml, hown, hts, hret, hlk⟩ := id C
  refine lv_aload_n hx hb dX5_settle_0 rfl (lv_at hl 0 rfl) ?_
  refine xg_35_0 C hW fl_X5_31 dX5_settle_1 ?_
  refine zz_callVi (As := []) C hW h (fun r hr => c_X2_active_3 hr) lk_X5_39 (hW.recv xr_3) rfl hl.1 ⟨rfl, rfl⟩ ⟨Nat.le_of_ble_eq_true rfl, Nat.le_of_ble_eq_true rfl⟩ (Nat.le_of_ble_eq_true rfl) ⟨Nat.zero_le _, Nat.zero_le _⟩ rfl dX5_settle_4 (fun v2 S1 H locs h hW => ?_)
  refine lv_istore_n (lv' := [(1, .int v2), (0, .ref (ad 35))]) hx hb dX5_settle_7 rfl hl (by decide) rfl (fun ls hl => ?_)
  refine lv_aload_n hx hb dX5_settle_8 rfl (lv_at hl 1 rfl) ?_
  refine xg_35_9 C hW h fl_X5_27 dX5_settle_9 (fun v3 h => ?_)
  refine lv_iload_n hx hb dX5_settle_12 rfl (lv_at hl 0 rfl) ?_
  refine zz_cne (tgt := 45) C h dX5_settle_13 (by decide) (fun h => ?_) (fun h => ?_)
  · exact w_X5_settle_35_b45 (F := F) C h hW (lv_sub hl [1, 0] rfl)
  · refine lv_aload_n hx hb dX5_settle_16 rfl (lv_at hl 1 rfl) ?_
    refine xg_35_10 C hW h fl_X5_45 dX5_settle_17 (fun v4 h => ?_)
    refine lv_aload_n hx hb dX5_settle_20 rfl (lv_at hl 1 rfl) ?_
    refine xg_35_0 C hW fl_X5_31 dX5_settle_21 ?_
    refine xg_3_5 C hW h fl_X5_48 dX5_settle_24 (fun v5 h => ?_)
    refine zz_cne (tgt := 45) C h dX5_settle_27 (by decide) (fun h => ?_) (fun h => ?_)
    · exact w_X5_settle_35_b45 (F := F) C h hW (lv_sub hl [1, 0] rfl)
    · refine lv_aload_n hx hb dX5_settle_30 rfl (lv_at hl 1 rfl) ?_
      refine xg_35_11 C hW h fl_X5_51 dX5_settle_31 (fun v6 h => ?_)
      refine lv_aload_n hx hb dX5_settle_34 rfl (lv_at hl 1 rfl) ?_
      refine xg_35_0 C hW fl_X5_31 dX5_settle_35 ?_
      refine xg_3_6 C hW h fl_X5_54 dX5_settle_38 (fun v7 h => ?_)
      refine zz_cne (tgt := 45) C h dX5_settle_41 (by decide) (fun h => ?_) (fun h => ?_)
      · exact w_X5_settle_35_b45 (F := F) C h hW (lv_sub hl [1, 0] rfl)
      · exact zz_vret C rfl h hW dX5_settle_44
def n_X5_settle_35 (F : Nat) (S : Zs)  : Option (Int32 × Zs) := n_X5_settle_35_e F  S 
theorem c_X5_settle_35 {l : Launch} {D : va_G} {cs ad : Nat → Nat} {F : Nat} {S : Zs}  {q : (Int32 × Zs)} (h : n_X5_settle_35 F S  = some q) : zMv l yX5_settle cX5_settle 3 none (zR 4 99) (xG D cs ad) [.ref (ad 35)] S q :=
  zz_enter (by decide) (Nat.le_of_ble_eq_true rfl) (fun p e s m below meth c ls C hW hl => w_X5_settle_35_e (F := F) C h hW (lv_sub hl [0] rfl))
def n_X5_stepsTo_35_b26 (F : Nat)  (S : Zs) (t0 : Int32) : Option (Int32 × Zs) :=
  some (t0, S)
set_option maxRecDepth 20000 in
set_option maxHeartbeats 4000000 in
theorem w_X5_stepsTo_35_b26 {F : Nat} {q : (Int32 × Zs)} {S : Zs}  {t0 : Int32} {ls : Array Slot} {H : Heap} {locs : List Loc} (C : zC p s m args meth c cX5_stepsTo 2 RX5 (some .int))  (h : n_X5_stepsTo_35_b26 F  S t0 = some q) (hW : zW (xG D cs ad) s S H locs) (hl : lv_has ls 2 []) : W p l e (zR 5 121) s m args below meth c H locs 0 0 (zQi (xG D cs ad) q below args s) (F0 m 26 ls [.int t0]) := by
  unfold n_X5_stepsTo_35_b26 at h
  obtain ⟨hx, hb, hml, hown, hts, hret, hlk⟩ := id C
  exact zz_iret C rfl h hW dX5_stepsTo_26
def n_X5_stepsTo_35_e (F : Nat)  (S : Zs) (x1 : Int32) : Option (Int32 × Zs) :=
  zcl (n_X5_settle_35 F S ) (fun v2 S1 => zld S1 36 2304 x1 (fun v3 => if (268435456 : Int32) ≤ v3 then (n_X5_stepsTo_35_b26 F  S1 (-2 : Int32)) else (zld S1 36 2304 x1 (fun v4 => n_X5_stepsTo_35_b26 F  S1 v4))))
set_option maxRecDepth 20000 in
set_option maxHeartbeats 4000000 in
theorem w_X5_stepsTo_35_e {F : Nat} {q : (Int32 × Zs)} {S : Zs}  {x1 : Int32} {ls : Array Slot} {H : Heap} {locs : List Loc} (C : zC p s m args meth c cX5_stepsTo 2 RX5 (some .int))  (h : n_X5_stepsTo_35_e F  S x1 = some q) (hW : zW (xG D cs ad) s S H locs) (hl : lv_has ls 2 [(0, .ref (ad 35)), (1, .int x1)]) : W p l e (zR 5 121) s m args below meth c H locs 0 0 (zQi (xG D cs ad) q below args s) (F0 m 0 ls []) := by
  unfold n_X5_stepsTo_35_e at h
  obtain ⟨hx, hb, hml, hown, hts, hret, hlk⟩ := id C
  refine lv_aload_n hx hb dX5_stepsTo_0 rfl (lv_at hl 0 rfl) ?_
  refine zz_callVv (As := []) C hW h (fun r hr => c_X5_settle_35 hr) lk_X5_35 (hW.recv xr_35) rfl hl.1 ⟨rfl, rfl⟩ ⟨Nat.le_of_ble_eq_true rfl, Nat.le_of_ble_eq_true rfl⟩ (Nat.le_of_ble_eq_true rfl) ⟨Nat.zero_le _, Nat.zero_le _⟩ rfl dX5_stepsTo_1 (fun v2 S1 H locs h hW => ?_)
  refine lv_aload_n hx hb dX5_stepsTo_4 rfl (lv_at hl 0 rfl) ?_
  refine xg_35_1 C hW fl_X5_9 dX5_stepsTo_5 ?_
  refine lv_iload_n hx hb dX5_stepsTo_8 rfl (lv_at hl 1 rfl) ?_
  refine xl_36 C hW h dX5_stepsTo_9 (fun v3 h => ?_)
  refine lv_ldc (v := 268435456) hx hb hown (hts _ ct_X5_38) dX5_stepsTo_10 ?_
  refine zz_cge (tgt := 24) C h dX5_stepsTo_12 (by decide) (fun h => ?_) (fun h => ?_)
  · refine lv_bipush (v := -2) hx hb dX5_stepsTo_24 (by decide) ?_
    exact w_X5_stepsTo_35_b26 (F := F) C h hW (lv_sub hl [] rfl)
  · refine lv_aload_n hx hb dX5_stepsTo_15 rfl (lv_at hl 0 rfl) ?_
    refine xg_35_1 C hW fl_X5_9 dX5_stepsTo_16 ?_
    refine lv_iload_n hx hb dX5_stepsTo_19 rfl (lv_at hl 1 rfl) ?_
    refine xl_36 C hW h dX5_stepsTo_20 (fun v4 h => ?_)
    refine lv_goto (tgt := 26) hx hb dX5_stepsTo_21 (by decide) ?_
    exact w_X5_stepsTo_35_b26 (F := F) C h hW (lv_sub hl [] rfl)
def n_X5_stepsTo_35 (F : Nat) (S : Zs) (x1 : Int32) : Option (Int32 × Zs) := n_X5_stepsTo_35_e F  S x1
theorem c_X5_stepsTo_35 {l : Launch} {D : va_G} {cs ad : Nat → Nat} {F : Nat} {S : Zs} {x1 : Int32} {q : (Int32 × Zs)} (h : n_X5_stepsTo_35 F S x1 = some q) : zMi l yX5_stepsTo cX5_stepsTo 2 (some .int) (zR 5 121) (xG D cs ad) [.ref (ad 35), .int x1] S q :=
  zz_enter (by decide) (Nat.le_of_ble_eq_true rfl) (fun p e s m below meth c ls C hW hl => w_X5_stepsTo_35_e (F := F) C h hW (lv_sub hl [0, 1] rfl))
def n_X4_singlePremise_b35 (F : Nat)  (S : Zs) (t0 : Int32) : Option (Int32 × Zs) :=
  some (t0, S)
set_option maxRecDepth 20000 in
set_option maxHeartbeats 4000000 in
theorem w_X4_singlePremise_b35 {F : Nat} {q : (Int32 × Zs)} {S : Zs}  {t0 : Int32} {ls : Array Slot} {H : Heap} {locs : List Loc} (C : zC p s m args meth c cX4_singlePremise 3 RX4 (some .int))  (h : n_X4_singlePremise_b35 F  S t0 = some q) (hW : zW (xG D cs ad) s S H locs) (hl : lv_has ls 3 []) : W p l e (zR 2 46) s m args below meth c H locs 0 0 (zQi (xG D cs ad) q below args s) (F0 m 35 ls [.int t0]) := by
  unfold n_X4_singlePremise_b35 at h
  obtain ⟨hx, hb, hml, hown, hts, hret, hlk⟩ := id C
  exact zz_iret C rfl h hW dX4_singlePremise_35
def n_X4_singlePremise_e (F : Nat)  (S : Zs) (x0 : Int32) (x1 : Int32) : Option (Int32 × Zs) :=
  zcl (n_X0_form F S x1) (fun v2 S1 => if x0 = (21 : Int32) then (if v2 < (2 : Int32) then (n_X4_singlePremise_b35 F  S1 (-2 : Int32)) else (zcl (n_X0_subject F S1 x1) (fun v6 S5 => zcl (n_X0_predicate F S5 x1) (fun v8 S7 => zcl (n_X0_make F S7 (v2 - (2 : Int32)) v6 v8) (fun v10 S9 => n_X4_singlePremise_b35 F  S9 v10))))) else (zcl (n_X4_singleConclusion F S1 x0 x1) (fun v4 S3 => some (v4, S3))))
set_option maxRecDepth 20000 in
set_option maxHeartbeats 4000000 in
theorem w_X4_singlePremise_e {F : Nat} {q : (Int32 × Zs)} {S : Zs}  {x0 : Int32} {x1 : Int32} {ls : Array Slot} {H : Heap} {locs : List Loc} (C : zC p s m args meth c cX4_singlePremise 3 RX4 (some .int))  (h : n_X4_singlePremise_e F  S x0 x1 = some q) (hW : zW (xG D cs ad) s S H locs) (hl : lv_has ls 3 [(0, .int x0), (1, .int x1)]) : W p l e (zR 2 46) s m args below meth c H locs 0 0 (zQi (xG D cs ad) q below args s) (F0 m 0 ls []) := by
  unfold n_X4_singlePremise_e at h
  obtain ⟨hx, hb, hml, hown, hts, hret, hlk⟩ := id C
  refine lv_iload_n hx hb dX4_singlePremise_0 rfl (lv_at hl 1 rfl) ?_
  refine zz_callSi (As := [.int x1]) C hW h (fun r hr => c_X0_form hr) lk_X4_39 rfl hl.1 ⟨rfl, rfl⟩ ⟨Nat.le_of_ble_eq_true rfl, Nat.le_of_ble_eq_true rfl⟩ (Nat.le_of_ble_eq_true rfl) ⟨Nat.zero_le _, Nat.zero_le _⟩ rfl dX4_singlePremise_1 (fun v2 S1 H locs h hW => ?_)
  refine lv_istore_n (lv' := [(2, .int v2), (0, .int x0), (1, .int x1)]) hx hb dX4_singlePremise_4 rfl hl (by decide) rfl (fun ls hl => ?_)
  refine lv_iload_n hx hb dX4_singlePremise_5 rfl (lv_at hl 1 rfl) ?_
  refine lv_bipush (v := 21) hx hb dX4_singlePremise_6 (by decide) ?_
  refine zz_cne (tgt := 36) C h dX4_singlePremise_8 (by decide) (fun h => ?_) (fun h => ?_)
  · refine lv_iload_n hx hb dX4_singlePremise_36 rfl (lv_at hl 1 rfl) ?_
    refine lv_iload_n hx hb dX4_singlePremise_37 rfl (lv_at hl 2 rfl) ?_
    refine zz_callSi (As := [.int x0, .int x1]) C hW h (fun r hr => c_X4_singleConclusion hr) lk_X4_31 rfl hl.1 ⟨rfl, rfl⟩ ⟨Nat.le_of_ble_eq_true rfl, Nat.le_of_ble_eq_true rfl⟩ (Nat.le_of_ble_eq_true rfl) ⟨Nat.zero_le _, Nat.zero_le _⟩ rfl dX4_singlePremise_38 (fun v4 S3 H locs h hW => ?_)
    exact zz_iret C rfl h hW dX4_singlePremise_41
  · refine lv_iload_n hx hb dX4_singlePremise_11 rfl (lv_at hl 0 rfl) ?_
    refine lv_iconst (v := 2) hx hb dX4_singlePremise_12 (by decide) ?_
    refine zz_clt (tgt := 33) C h dX4_singlePremise_13 (by decide) (fun h => ?_) (fun h => ?_)
    · refine lv_bipush (v := -2) hx hb dX4_singlePremise_33 (by decide) ?_
      exact w_X4_singlePremise_b35 (F := F) C h hW (lv_sub hl [] rfl)
    · refine lv_iload_n hx hb dX4_singlePremise_16 rfl (lv_at hl 0 rfl) ?_
      refine lv_iconst (v := 2) hx hb dX4_singlePremise_17 (by decide) ?_
      refine lv_isub hx hb dX4_singlePremise_18 ?_
      refine lv_iload_n hx hb dX4_singlePremise_19 rfl (lv_at hl 2 rfl) ?_
      refine zz_callSi (As := [.int x1]) C hW h (fun r hr => c_X0_subject hr) lk_X4_24 rfl hl.1 ⟨rfl, rfl⟩ ⟨Nat.le_of_ble_eq_true rfl, Nat.le_of_ble_eq_true rfl⟩ (Nat.le_of_ble_eq_true rfl) ⟨Nat.zero_le _, Nat.zero_le _⟩ rfl dX4_singlePremise_20 (fun v6 S5 H locs h hW => ?_)
      refine lv_iload_n hx hb dX4_singlePremise_23 rfl (lv_at hl 2 rfl) ?_
      refine zz_callSi (As := [.int x1]) C hW h (fun r hr => c_X0_predicate hr) lk_X4_28 rfl hl.1 ⟨rfl, rfl⟩ ⟨Nat.le_of_ble_eq_true rfl, Nat.le_of_ble_eq_true rfl⟩ (Nat.le_of_ble_eq_true rfl) ⟨Nat.zero_le _, Nat.zero_le _⟩ rfl dX4_singlePremise_24 (fun v8 S7 H locs h hW => ?_)
      refine zz_callSi (As := [.int (v2 - (2 : Int32)), .int v6, .int v8]) C hW h (fun r hr => c_X0_make hr) lk_X4_18 rfl hl.1 ⟨rfl, rfl⟩ ⟨Nat.le_of_ble_eq_true rfl, Nat.le_of_ble_eq_true rfl⟩ (Nat.le_of_ble_eq_true rfl) ⟨Nat.zero_le _, Nat.zero_le _⟩ rfl dX4_singlePremise_27 (fun v10 S9 H locs h hW => ?_)
      refine lv_goto (tgt := 35) hx hb dX4_singlePremise_30 (by decide) ?_
      exact w_X4_singlePremise_b35 (F := F) C h hW (lv_sub hl [] rfl)
def n_X4_singlePremise (F : Nat) (S : Zs) (x0 : Int32) (x1 : Int32) : Option (Int32 × Zs) := n_X4_singlePremise_e F  S x0 x1
theorem c_X4_singlePremise {l : Launch} {D : va_G} {cs ad : Nat → Nat} {F : Nat} {S : Zs} {x0 : Int32} {x1 : Int32} {q : (Int32 × Zs)} (h : n_X4_singlePremise F S x0 x1 = some q) : zMi l yX4_singlePremise cX4_singlePremise 3 (some .int) (zR 2 46) (xG D cs ad) [.int x0, .int x1] S q :=
  zz_enter (by decide) (Nat.le_of_ble_eq_true rfl) (fun p e s m below meth c ls C hW hl => w_X4_singlePremise_e (F := F) C h hW (lv_sub hl [0, 1] rfl))
def n_X5_findSingle_35_b49 (F : Nat)  (S : Zs)  : Option (Int32 × Zs) :=
  some (0, S)
set_option maxRecDepth 20000 in
set_option maxHeartbeats 4000000 in
theorem w_X5_findSingle_35_b49 {F : Nat} {q : (Int32 × Zs)} {S : Zs}   {ls : Array Slot} {H : Heap} {locs : List Loc} (C : zC p s m args meth c cX5_findSingle 4 RX5 none)  (h : n_X5_findSingle_35_b49 F  S  = some q) (hW : zW (xG D cs ad) s S H locs) (hl : lv_has ls 4 []) : W p l e (zR 3 68) s m args below meth c H locs 0 0 (zQv (xG D cs ad) q below args s) (F0 m 49 ls []) := by
  unfold n_X5_findSingle_35_b49 at h
  obtain ⟨hx, hb, hml, hown, hts, hret, hlk⟩ := id C
  exact zz_vret C rfl h hW dX5_findSingle_49
def n_X5_findSingle_35_e (F : Nat)  (S : Zs) (x1 : Int32) (x2 : Int32) : Option (Int32 × Zs) :=
  zcl (n_X4_singlePremise F S x1 x2) (fun v2 S1 => if v2 < 0 then (n_X5_findSingle_35_b49 F  S1 ) else (zld S1 36 2304 v2 (fun v3 => zld S1 36 2304 x2 (fun v4 => if (v3 + (1 : Int32)) = v4 then (zgf S1 710 (fun v5 => zcl (n_X4_isAlive F S1 x1 v2 v5) (fun v7 S6 => if v7 = 0 then (n_X5_findSingle_35_b49 F  S6 ) else (zpf S6 712 x1 (fun S8 => zpf S8 713 v2 (fun S9 => n_X5_findSingle_35_b49 F  S9 )))))) else (n_X5_findSingle_35_b49 F  S1 )))))
set_option maxRecDepth 20000 in
set_option maxHeartbeats 4000000 in
theorem w_X5_findSingle_35_e {F : Nat} {q : (Int32 × Zs)} {S : Zs}  {x1 : Int32} {x2 : Int32} {ls : Array Slot} {H : Heap} {locs : List Loc} (C : zC p s m args meth c cX5_findSingle 4 RX5 none)  (h : n_X5_findSingle_35_e F  S x1 x2 = some q) (hW : zW (xG D cs ad) s S H locs) (hl : lv_has ls 4 [(0, .ref (ad 35)), (1, .int x1), (2, .int x2)]) : W p l e (zR 3 68) s m args below meth c H locs 0 0 (zQv (xG D cs ad) q below args s) (F0 m 0 ls []) := by
  unfold n_X5_findSingle_35_e at h
  obtain ⟨hx, hb, hml, hown, hts, hret, hlk⟩ := id C
  refine lv_iload_n hx hb dX5_findSingle_0 rfl (lv_at hl 1 rfl) ?_
  refine lv_iload_n hx hb dX5_findSingle_1 rfl (lv_at hl 2 rfl) ?_
  refine zz_callSi (As := [.int x1, .int x2]) C hW h (fun r hr => c_X4_singlePremise hr) lk_X5_173 rfl hl.1 ⟨rfl, rfl⟩ ⟨Nat.le_of_ble_eq_true rfl, Nat.le_of_ble_eq_true rfl⟩ (Nat.le_of_ble_eq_true rfl) ⟨Nat.zero_le _, Nat.zero_le _⟩ rfl dX5_findSingle_2 (fun v2 S1 H locs h hW => ?_)
  refine lv_istore_n (lv' := [(3, .int v2), (0, .ref (ad 35)), (1, .int x1), (2, .int x2)]) hx hb dX5_findSingle_5 rfl hl (by decide) rfl (fun ls hl => ?_)
  refine lv_iload_n hx hb dX5_findSingle_6 rfl (lv_at hl 0 rfl) ?_
  refine zz_ilt (tgt := 49) C h dX5_findSingle_7 (by decide) (fun h => ?_) (fun h => ?_)
  · exact w_X5_findSingle_35_b49 (F := F) C h hW (lv_sub hl [] rfl)
  · refine lv_aload_n hx hb dX5_findSingle_10 rfl (lv_at hl 1 rfl) ?_
    refine xg_35_1 C hW fl_X5_9 dX5_findSingle_11 ?_
    refine lv_iload_n hx hb dX5_findSingle_14 rfl (lv_at hl 0 rfl) ?_
    refine xl_36 C hW h dX5_findSingle_15 (fun v3 h => ?_)
    refine lv_iconst (v := 1) hx hb dX5_findSingle_16 (by decide) ?_
    refine lv_iadd hx hb dX5_findSingle_17 ?_
    refine lv_aload_n hx hb dX5_findSingle_18 rfl (lv_at hl 1 rfl) ?_
    refine xg_35_1 C hW fl_X5_9 dX5_findSingle_19 ?_
    refine lv_iload_n hx hb dX5_findSingle_22 rfl (lv_at hl 3 rfl) ?_
    refine xl_36 C hW h dX5_findSingle_23 (fun v4 h => ?_)
    refine zz_cne (tgt := 49) C h dX5_findSingle_24 (by decide) (fun h => ?_) (fun h => ?_)
    · exact w_X5_findSingle_35_b49 (F := F) C h hW (lv_sub hl [] rfl)
    · refine lv_iload_n hx hb dX5_findSingle_27 rfl (lv_at hl 2 rfl) ?_
      refine lv_iload_n hx hb dX5_findSingle_28 rfl (lv_at hl 0 rfl) ?_
      refine lv_aload_n hx hb dX5_findSingle_29 rfl (lv_at hl 1 rfl) ?_
      refine xg_35_10 C hW h fl_X5_45 dX5_findSingle_30 (fun v5 h => ?_)
      refine zz_callSi (As := [.int x1, .int v2, .int v5]) C hW h (fun r hr => c_X4_isAlive hr) lk_X5_119 rfl hl.1 ⟨rfl, rfl⟩ ⟨Nat.le_of_ble_eq_true rfl, Nat.le_of_ble_eq_true rfl⟩ (Nat.le_of_ble_eq_true rfl) ⟨Nat.zero_le _, Nat.zero_le _⟩ rfl dX5_findSingle_33 (fun v7 S6 H locs h hW => ?_)
      refine zz_ieq (tgt := 49) C h dX5_findSingle_36 (by decide) (fun h => ?_) (fun h => ?_)
      · exact w_X5_findSingle_35_b49 (F := F) C h hW (lv_sub hl [] rfl)
      · refine lv_aload_n hx hb dX5_findSingle_39 rfl (lv_at hl 1 rfl) ?_
        refine lv_iload_n hx hb dX5_findSingle_40 rfl (lv_at hl 2 rfl) ?_
        refine xp_35_12 C hW h fl_X5_158 dX5_findSingle_41 (fun S8 H locs h hW => ?_)
        refine lv_aload_n hx hb dX5_findSingle_44 rfl (lv_at hl 1 rfl) ?_
        refine lv_iload_n hx hb dX5_findSingle_45 rfl (lv_at hl 0 rfl) ?_
        refine xp_35_13 C hW h fl_X5_161 dX5_findSingle_46 (fun S9 H locs h hW => ?_)
        exact w_X5_findSingle_35_b49 (F := F) C h hW (lv_sub hl [] rfl)
def n_X5_findSingle_35 (F : Nat) (S : Zs) (x1 : Int32) (x2 : Int32) : Option (Int32 × Zs) := n_X5_findSingle_35_e F  S x1 x2
theorem c_X5_findSingle_35 {l : Launch} {D : va_G} {cs ad : Nat → Nat} {F : Nat} {S : Zs} {x1 : Int32} {x2 : Int32} {q : (Int32 × Zs)} (h : n_X5_findSingle_35 F S x1 x2 = some q) : zMv l yX5_findSingle cX5_findSingle 4 none (zR 3 68) (xG D cs ad) [.ref (ad 35), .int x1, .int x2] S q :=
  zz_enter (by decide) (Nat.le_of_ble_eq_true rfl) (fun p e s m below meth c ls C hW hl => w_X5_findSingle_35_e (F := F) C h hW (lv_sub hl [0, 1, 2] rfl))
def n_X5_findPair_35_b120 (F : Nat) (rc22 : Zs → Int32 → Int32 → Int32 → Int32 → Option (Int32 × Zs)) (S : Zs) (x1 : Int32) (x2 : Int32) (x3 : Int32) (x4 : Int32) : Option (Int32 × Zs) :=
  zlet (x4 + (1 : Int32)) (fun v1 => rc22 S x1 x2 x3 v1)
set_option maxRecDepth 20000 in
set_option maxHeartbeats 4000000 in
theorem w_X5_findPair_35_b120 {F : Nat} {q : (Int32 × Zs)} {S : Zs} {rc22 : Zs → Int32 → Int32 → Int32 → Int32 → Option (Int32 × Zs)} {x1 : Int32} {x2 : Int32} {x3 : Int32} {x4 : Int32} {ls : Array Slot} {H : Heap} {locs : List Loc} (C : zC p s m args meth c cX5_findPair 7 RX5 none) (hrc22 : ∀ (S : Zs) (x1 : Int32) (x2 : Int32) (x3 : Int32) (x4 : Int32) (H : Heap) (locs : List Loc) (ls : Array Slot), rc22 S x1 x2 x3 x4 = some q → zW (xG D cs ad) s S H locs → lv_has ls 7 [(0, .ref (ad 35)), (1, .int x1), (2, .int x2), (3, .int x3), (4, .int x4)] → W p l e (zR 2 45) s m args below meth c H locs 0 0 (zQv (xG D cs ad) q below args s) (F0 m 22 ls [])) (h : n_X5_findPair_35_b120 F rc22 S x1 x2 x3 x4 = some q) (hW : zW (xG D cs ad) s S H locs) (hl : lv_has ls 7 [(0, .ref (ad 35)), (1, .int x1), (2, .int x2), (3, .int x3), (4, .int x4)]) : W p l e (zR 2 45) s m args below meth c H locs 0 0 (zQv (xG D cs ad) q below args s) (F0 m 120 ls []) := by
  unfold n_X5_findPair_35_b120 at h
  obtain ⟨hx, hb, hml, hown, hts, hret, hlk⟩ := id C
  obtain ⟨v1, ev1, h⟩ := zz_name h
  refine lv_iinc (v := v1) (lv' := [(4, .int v1), (0, .ref (ad 35)), (1, .int x1), (2, .int x2), (3, .int x3)]) hx hb dX5_findPair_120 hl (k := 4) rfl ev1.symm (by decide) rfl (fun ls hl => ?_)
  refine lv_goto (tgt := 22) hx hb dX5_findPair_123 (by decide) ?_
  exact hrc22 _ _ _ _ _ _ _ _ h hW (lv_sub hl [1, 2, 3, 4, 0] rfl)
def n_X5_findPair_35_b22_l (F : Nat) (rc22 : Zs → Int32 → Int32 → Int32 → Int32 → Option (Int32 × Zs)) (S : Zs) (x1 : Int32) (x2 : Int32) (x3 : Int32) (x4 : Int32) : Option (Int32 × Zs) :=
  if (24 : Int32) ≤ x4 then (some (0, S)) else (zlt xt_52 19 x1 (fun v1 => zcl (n_X0_predicate F S x2) (fun v3 S2 => zcl (n_X4_firstPremise F S2 x3 v1 x4 v3) (fun v5 S4 => zlt xt_53 19 x1 (fun v6 => zcl (n_X0_subject F S4 x2) (fun v8 S7 => zcl (n_X4_secondPremise F S7 x3 v6 x4 v8) (fun v10 S9 => zld S9 36 2304 v5 (fun v11 => zld S9 36 2304 v10 (fun v12 => zld S9 36 2304 x2 (fun v13 => if ((v11 + v12) + (1 : Int32)) = v13 then (zgf S9 710 (fun v14 => zcl (n_X4_isAlive F S9 x1 v5 v14) (fun v16 S15 => if v16 = 0 then (n_X5_findPair_35_b120 F rc22 S15 x1 x2 x3 x4) else (zpf S15 712 x1 (fun S17 => zpf S17 713 v5 (fun S18 => zpf S18 714 v10 (fun S19 => some (0, S19)))))))) else (n_X5_findPair_35_b120 F rc22 S9 x1 x2 x3 x4)))))))))))
set_option maxRecDepth 20000 in
set_option maxHeartbeats 4000000 in
theorem w_X5_findPair_35_b22_l {F : Nat} {q : (Int32 × Zs)} {S : Zs} {rc22 : Zs → Int32 → Int32 → Int32 → Int32 → Option (Int32 × Zs)} {x1 : Int32} {x2 : Int32} {x3 : Int32} {x4 : Int32} {ls : Array Slot} {H : Heap} {locs : List Loc} (C : zC p s m args meth c cX5_findPair 7 RX5 none) (hrc22 : ∀ (S : Zs) (x1 : Int32) (x2 : Int32) (x3 : Int32) (x4 : Int32) (H : Heap) (locs : List Loc) (ls : Array Slot), rc22 S x1 x2 x3 x4 = some q → zW (xG D cs ad) s S H locs → lv_has ls 7 [(0, .ref (ad 35)), (1, .int x1), (2, .int x2), (3, .int x3), (4, .int x4)] → W p l e (zR 2 45) s m args below meth c H locs 0 0 (zQv (xG D cs ad) q below args s) (F0 m 22 ls [])) (h : n_X5_findPair_35_b22_l F rc22 S x1 x2 x3 x4 = some q) (hW : zW (xG D cs ad) s S H locs) (hl : lv_has ls 7 [(0, .ref (ad 35)), (1, .int x1), (2, .int x2), (3, .int x3), (4, .int x4)]) : W p l e (zR 2 45) s m args below meth c H locs 0 0 (zQv (xG D cs ad) q below args s) (F0 m 22 ls []) := by
  unfold n_X5_findPair_35_b22_l at h
  obtain ⟨hx, hb, hml, hown, hts, hret, hlk⟩ := id C
  refine lv_iload hx hb dX5_findPair_22 (lv_at hl 4 rfl) ?_
  refine lv_bipush (v := 24) hx hb dX5_findPair_24 (by decide) ?_
  refine zz_cge (tgt := 126) C h dX5_findPair_26 (by decide) (fun h => ?_) (fun h => ?_)
  · exact zz_vret C rfl h hW dX5_findPair_126
  · refine lv_iload_n hx hb dX5_findPair_29 rfl (lv_at hl 3 rfl) ?_
    refine xst_52 C hW fl_X5_123 dX5_findPair_30 ?_
    refine lv_iload_n hx hb dX5_findPair_33 rfl (lv_at hl 1 rfl) ?_
    refine xtl_52 C hW h dX5_findPair_34 (fun v1 h => ?_)
    refine lv_iload hx hb dX5_findPair_35 (lv_at hl 4 rfl) ?_
    refine lv_iload_n hx hb dX5_findPair_37 rfl (lv_at hl 2 rfl) ?_
    refine zz_callSi (As := [.int x2]) C hW h (fun r hr => c_X0_predicate hr) lk_X5_89 rfl hl.1 ⟨rfl, rfl⟩ ⟨Nat.le_of_ble_eq_true rfl, Nat.le_of_ble_eq_true rfl⟩ (Nat.le_of_ble_eq_true rfl) ⟨Nat.zero_le _, Nat.zero_le _⟩ rfl dX5_findPair_38 (fun v3 S2 H locs h hW => ?_)
    refine zz_callSi (As := [.int x3, .int v1, .int x4, .int v3]) C hW h (fun r hr => c_X4_firstPremise hr) lk_X5_155 rfl hl.1 ⟨rfl, rfl⟩ ⟨Nat.le_of_ble_eq_true rfl, Nat.le_of_ble_eq_true rfl⟩ (Nat.le_of_ble_eq_true rfl) ⟨Nat.zero_le _, Nat.zero_le _⟩ rfl dX5_findPair_41 (fun v5 S4 H locs h hW => ?_)
    refine lv_istore (lv' := [(5, .int v5), (0, .ref (ad 35)), (1, .int x1), (2, .int x2), (3, .int x3), (4, .int x4)]) hx hb dX5_findPair_44 hl (by decide) rfl (fun ls hl => ?_)
    refine lv_iload_n hx hb dX5_findPair_46 rfl (lv_at hl 4 rfl) ?_
    refine xst_53 C hW fl_X5_135 dX5_findPair_47 ?_
    refine lv_iload_n hx hb dX5_findPair_50 rfl (lv_at hl 2 rfl) ?_
    refine xtl_53 C hW h dX5_findPair_51 (fun v6 h => ?_)
    refine lv_iload hx hb dX5_findPair_52 (lv_at hl 5 rfl) ?_
    refine lv_iload_n hx hb dX5_findPair_54 rfl (lv_at hl 3 rfl) ?_
    refine zz_callSi (As := [.int x2]) C hW h (fun r hr => c_X0_subject hr) lk_X5_98 rfl hl.1 ⟨rfl, rfl⟩ ⟨Nat.le_of_ble_eq_true rfl, Nat.le_of_ble_eq_true rfl⟩ (Nat.le_of_ble_eq_true rfl) ⟨Nat.zero_le _, Nat.zero_le _⟩ rfl dX5_findPair_55 (fun v8 S7 H locs h hW => ?_)
    refine zz_callSi (As := [.int x3, .int v6, .int x4, .int v8]) C hW h (fun r hr => c_X4_secondPremise hr) lk_X5_141 rfl hl.1 ⟨rfl, rfl⟩ ⟨Nat.le_of_ble_eq_true rfl, Nat.le_of_ble_eq_true rfl⟩ (Nat.le_of_ble_eq_true rfl) ⟨Nat.zero_le _, Nat.zero_le _⟩ rfl dX5_findPair_58 (fun v10 S9 H locs h hW => ?_)
    refine lv_istore (lv' := [(6, .int v10), (5, .int v5), (0, .ref (ad 35)), (1, .int x1), (2, .int x2), (3, .int x3), (4, .int x4)]) hx hb dX5_findPair_61 hl (by decide) rfl (fun ls hl => ?_)
    refine lv_aload_n hx hb dX5_findPair_63 rfl (lv_at hl 2 rfl) ?_
    refine xg_35_1 C hW fl_X5_9 dX5_findPair_64 ?_
    refine lv_iload hx hb dX5_findPair_67 (lv_at hl 1 rfl) ?_
    refine xl_36 C hW h dX5_findPair_69 (fun v11 h => ?_)
    refine lv_aload_n hx hb dX5_findPair_70 rfl (lv_at hl 2 rfl) ?_
    refine xg_35_1 C hW fl_X5_9 dX5_findPair_71 ?_
    refine lv_iload hx hb dX5_findPair_74 (lv_at hl 0 rfl) ?_
    refine xl_36 C hW h dX5_findPair_76 (fun v12 h => ?_)
    refine lv_iadd hx hb dX5_findPair_77 ?_
    refine lv_iconst (v := 1) hx hb dX5_findPair_78 (by decide) ?_
    refine lv_iadd hx hb dX5_findPair_79 ?_
    refine lv_aload_n hx hb dX5_findPair_80 rfl (lv_at hl 2 rfl) ?_
    refine xg_35_1 C hW fl_X5_9 dX5_findPair_81 ?_
    refine lv_iload_n hx hb dX5_findPair_84 rfl (lv_at hl 4 rfl) ?_
    refine xl_36 C hW h dX5_findPair_85 (fun v13 h => ?_)
    refine zz_cne (tgt := 120) C h dX5_findPair_86 (by decide) (fun h => ?_) (fun h => ?_)
    · exact w_X5_findPair_35_b120 (F := F) C hrc22 h hW (lv_sub hl [2, 3, 4, 5, 6] rfl)
    · refine lv_iload_n hx hb dX5_findPair_89 rfl (lv_at hl 3 rfl) ?_
      refine lv_iload hx hb dX5_findPair_90 (lv_at hl 1 rfl) ?_
      refine lv_aload_n hx hb dX5_findPair_92 rfl (lv_at hl 2 rfl) ?_
      refine xg_35_10 C hW h fl_X5_45 dX5_findPair_93 (fun v14 h => ?_)
      refine zz_callSi (As := [.int x1, .int v5, .int v14]) C hW h (fun r hr => c_X4_isAlive hr) lk_X5_119 rfl hl.1 ⟨rfl, rfl⟩ ⟨Nat.le_of_ble_eq_true rfl, Nat.le_of_ble_eq_true rfl⟩ (Nat.le_of_ble_eq_true rfl) ⟨Nat.zero_le _, Nat.zero_le _⟩ rfl dX5_findPair_96 (fun v16 S15 H locs h hW => ?_)
      refine zz_ieq (tgt := 120) C h dX5_findPair_99 (by decide) (fun h => ?_) (fun h => ?_)
      · exact w_X5_findPair_35_b120 (F := F) C hrc22 h hW (lv_sub hl [2, 3, 4, 5, 6] rfl)
      · refine lv_aload_n hx hb dX5_findPair_102 rfl (lv_at hl 2 rfl) ?_
        refine lv_iload_n hx hb dX5_findPair_103 rfl (lv_at hl 3 rfl) ?_
        refine xp_35_12 C hW h fl_X5_158 dX5_findPair_104 (fun S17 H locs h hW => ?_)
        refine lv_aload_n hx hb dX5_findPair_107 rfl (lv_at hl 2 rfl) ?_
        refine lv_iload hx hb dX5_findPair_108 (lv_at hl 1 rfl) ?_
        refine xp_35_13 C hW h fl_X5_161 dX5_findPair_110 (fun S18 H locs h hW => ?_)
        refine lv_aload_n hx hb dX5_findPair_113 rfl (lv_at hl 2 rfl) ?_
        refine lv_iload hx hb dX5_findPair_114 (lv_at hl 0 rfl) ?_
        refine xp_35_14 C hW h fl_X5_164 dX5_findPair_116 (fun S19 H locs h hW => ?_)
        exact zz_vret C rfl h hW dX5_findPair_119
def n_X5_findPair_35_b22 (F : Nat)  (S : Zs) (x1 : Int32) (x2 : Int32) (x3 : Int32) (x4 : Int32) : Option (Int32 × Zs) :=
  zfix (fun (rc : (Zs × Int32 × Int32 × Int32 × Int32) → Option (Int32 × Zs)) (u : (Zs × Int32 × Int32 × Int32 × Int32)) => n_X5_findPair_35_b22_l F  (fun S x1 x2 x3 x4 => rc (S, x1, x2, x3, x4)) u.1 u.2.1 u.2.2.1 u.2.2.2.1 u.2.2.2.2) F (S, x1, x2, x3, x4)
theorem w_X5_findPair_35_b22 {F : Nat} {q : (Int32 × Zs)}  (C : zC p s m args meth c cX5_findPair 7 RX5 none)  : ∀ (n : Nat) (S : Zs) (x1 : Int32) (x2 : Int32) (x3 : Int32) (x4 : Int32) (H : Heap) (locs : List Loc) (ls : Array Slot), zfix (fun (rc : (Zs × Int32 × Int32 × Int32 × Int32) → Option (Int32 × Zs)) (u : (Zs × Int32 × Int32 × Int32 × Int32)) => n_X5_findPair_35_b22_l F  (fun S x1 x2 x3 x4 => rc (S, x1, x2, x3, x4)) u.1 u.2.1 u.2.2.1 u.2.2.2.1 u.2.2.2.2) n (S, x1, x2, x3, x4) = some q → zW (xG D cs ad) s S H locs → lv_has ls 7 [(0, .ref (ad 35)), (1, .int x1), (2, .int x2), (3, .int x3), (4, .int x4)] → W p l e (zR 2 45) s m args below meth c H locs 0 0 (zQv (xG D cs ad) q below args s) (F0 m 22 ls []) := by
  intro n
  induction n with
  | zero => intro S x1 x2 x3 x4 H locs ls h; exact absurd h (fun h => by cases h)
  | succ n ih => intro S x1 x2 x3 x4 H locs ls h hW hl; exact w_X5_findPair_35_b22_l (F := F) C (fun S x1 x2 x3 x4 H locs ls h hW hl => ih S x1 x2 x3 x4 H locs ls h hW hl) h hW hl
def n_X5_findPair_35_e (F : Nat)  (S : Zs) (x1 : Int32) (x2 : Int32) : Option (Int32 × Zs) :=
  zcl (n_X0_form F S x2) (fun v2 S1 => zlt xt_54 19 x1 (fun v3 => if v2 = v3 then (zlt xt_51 19 x1 (fun v4 => n_X5_findPair_35_b22 F  S1 x1 x2 v4 (0 : Int32))) else (some (0, S1))))
set_option maxRecDepth 20000 in
set_option maxHeartbeats 4000000 in
theorem w_X5_findPair_35_e {F : Nat} {q : (Int32 × Zs)} {S : Zs}  {x1 : Int32} {x2 : Int32} {ls : Array Slot} {H : Heap} {locs : List Loc} (C : zC p s m args meth c cX5_findPair 7 RX5 none)  (h : n_X5_findPair_35_e F  S x1 x2 = some q) (hW : zW (xG D cs ad) s S H locs) (hl : lv_has ls 7 [(0, .ref (ad 35)), (1, .int x1), (2, .int x2)]) : W p l e (zR 2 45) s m args below meth c H locs 0 0 (zQv (xG D cs ad) q below args s) (F0 m 0 ls []) := by
  unfold n_X5_findPair_35_e at h
  obtain ⟨hx, hb, hml, hown, hts, hret, hlk⟩ := id C
  refine lv_iload_n hx hb dX5_findPair_0 rfl (lv_at hl 2 rfl) ?_
  refine zz_callSi (As := [.int x2]) C hW h (fun r hr => c_X0_form hr) lk_X5_95 rfl hl.1 ⟨rfl, rfl⟩ ⟨Nat.le_of_ble_eq_true rfl, Nat.le_of_ble_eq_true rfl⟩ (Nat.le_of_ble_eq_true rfl) ⟨Nat.zero_le _, Nat.zero_le _⟩ rfl dX5_findPair_1 (fun v2 S1 H locs h hW => ?_)
  refine xst_54 C hW fl_X5_138 dX5_findPair_4 ?_
  refine lv_iload_n hx hb dX5_findPair_7 rfl (lv_at hl 1 rfl) ?_
  refine xtl_54 C hW h dX5_findPair_8 (fun v3 h => ?_)
  refine zz_ceq (tgt := 13) C h dX5_findPair_9 (by decide) (fun h => ?_) (fun h => ?_)
  · refine xst_51 C hW fl_X5_126 dX5_findPair_13 ?_
    refine lv_iload_n hx hb dX5_findPair_16 rfl (lv_at hl 1 rfl) ?_
    refine xtl_51 C hW h dX5_findPair_17 (fun v4 h => ?_)
    refine lv_istore_n (lv' := [(3, .int v4), (0, .ref (ad 35)), (1, .int x1), (2, .int x2)]) hx hb dX5_findPair_18 rfl hl (by decide) rfl (fun ls hl => ?_)
    refine lv_iconst (v := 0) hx hb dX5_findPair_19 (by decide) ?_
    refine lv_istore (lv' := [(4, .int (0 : Int32)), (3, .int v4), (0, .ref (ad 35)), (1, .int x1), (2, .int x2)]) hx hb dX5_findPair_20 hl (by decide) rfl (fun ls hl => ?_)
    exact w_X5_findPair_35_b22 (F := F) C F _ _ _ _ _ _ _ _ h hW (lv_sub hl [2, 3, 4, 1, 0] rfl)
  · exact zz_vret C rfl h hW dX5_findPair_12
def n_X5_findPair_35 (F : Nat) (S : Zs) (x1 : Int32) (x2 : Int32) : Option (Int32 × Zs) := n_X5_findPair_35_e F  S x1 x2
theorem c_X5_findPair_35 {l : Launch} {D : va_G} {cs ad : Nat → Nat} {F : Nat} {S : Zs} {x1 : Int32} {x2 : Int32} {q : (Int32 × Zs)} (h : n_X5_findPair_35 F S x1 x2 = some q) : zMv l yX5_findPair cX5_findPair 7 none (zR 2 45) (xG D cs ad) [.ref (ad 35), .int x1, .int x2] S q :=
  zz_enter (by decide) (Nat.le_of_ble_eq_true rfl) (fun p e s m below meth c ls C hW hl => w_X5_findPair_35_e (F := F) C h hW (lv_sub hl [0, 1, 2] rfl))
def n_X5_findLast_35_b75 (F : Nat)  (S : Zs)  : Option (Int32 × Zs) :=
  some (0, S)
set_option maxRecDepth 20000 in
set_option maxHeartbeats 4000000 in
theorem w_X5_findLast_35_b75 {F : Nat} {q : (Int32 × Zs)} {S : Zs}   {ls : Array Slot} {H : Heap} {locs : List Loc} (C : zC p s m args meth c cX5_findLast 3 RX5 none)  (h : n_X5_findLast_35_b75 F  S  = some q) (hW : zW (xG D cs ad) s S H locs) (hl : lv_has ls 3 []) : W p l e (zR 4 91) s m args below meth c H locs 0 0 (zQv (xG D cs ad) q below args s) (F0 m 75 ls []) := by
  unfold n_X5_findLast_35_b75 at h
  obtain ⟨hx, hb, hml, hown, hts, hret, hlk⟩ := id C
  exact zz_vret C rfl h hW dX5_findLast_75
def n_X5_findLast_35_b69 (F : Nat) (rc17 : Zs → Int32 → Int32 → Option (Int32 × Zs)) (S : Zs) (x1 : Int32) (x2 : Int32) : Option (Int32 × Zs) :=
  zlet (x2 + (1 : Int32)) (fun v1 => rc17 S x1 v1)
set_option maxRecDepth 20000 in
set_option maxHeartbeats 4000000 in
theorem w_X5_findLast_35_b69 {F : Nat} {q : (Int32 × Zs)} {S : Zs} {rc17 : Zs → Int32 → Int32 → Option (Int32 × Zs)} {x1 : Int32} {x2 : Int32} {ls : Array Slot} {H : Heap} {locs : List Loc} (C : zC p s m args meth c cX5_findLast 3 RX5 none) (hrc17 : ∀ (S : Zs) (x1 : Int32) (x2 : Int32) (H : Heap) (locs : List Loc) (ls : Array Slot), rc17 S x1 x2 = some q → zW (xG D cs ad) s S H locs → lv_has ls 3 [(0, .ref (ad 35)), (1, .int x1), (2, .int x2)] → W p l e (zR 4 91) s m args below meth c H locs 0 0 (zQv (xG D cs ad) q below args s) (F0 m 17 ls [])) (h : n_X5_findLast_35_b69 F rc17 S x1 x2 = some q) (hW : zW (xG D cs ad) s S H locs) (hl : lv_has ls 3 [(0, .ref (ad 35)), (1, .int x1), (2, .int x2)]) : W p l e (zR 4 91) s m args below meth c H locs 0 0 (zQv (xG D cs ad) q below args s) (F0 m 69 ls []) := by
  unfold n_X5_findLast_35_b69 at h
  obtain ⟨hx, hb, hml, hown, hts, hret, hlk⟩ := id C
  obtain ⟨v1, ev1, h⟩ := zz_name h
  refine lv_iinc (v := v1) (lv' := [(2, .int v1), (0, .ref (ad 35)), (1, .int x1)]) hx hb dX5_findLast_69 hl (k := 2) rfl ev1.symm (by decide) rfl (fun ls hl => ?_)
  refine lv_goto (tgt := 17) hx hb dX5_findLast_72 (by decide) ?_
  exact hrc17 _ _ _ _ _ _ h hW (lv_sub hl [1, 2, 0] rfl)
def n_X5_findLast_35_b17_l (F : Nat) (rc17 : Zs → Int32 → Int32 → Option (Int32 × Zs)) (S : Zs) (x1 : Int32) (x2 : Int32) : Option (Int32 × Zs) :=
  if (22 : Int32) ≤ x2 then (n_X5_findLast_35_b75 F  S ) else (zld S 36 2304 x1 (fun v1 => if v1 ≤ 0 then (n_X5_findLast_35_b75 F  S ) else (zgf S 712 (fun v2 => if v2 = (-1 : Int32) then (zcl (n_X5_isAllowed_35 F S x2) (fun v4 S3 => if v4 = 0 then (n_X5_findLast_35_b69 F rc17 S3 x1 x2) else (if (19 : Int32) ≤ x2 then (zcl (n_X5_findSingle_35 F S3 x2 x1) (fun v6 S5 => n_X5_findLast_35_b69 F rc17 S5 x1 x2)) else (zcl (n_X5_findPair_35 F S3 x2 x1) (fun v8 S7 => n_X5_findLast_35_b69 F rc17 S7 x1 x2))))) else (n_X5_findLast_35_b75 F  S )))))
set_option maxRecDepth 20000 in
set_option maxHeartbeats 4000000 in
theorem w_X5_findLast_35_b17_l {F : Nat} {q : (Int32 × Zs)} {S : Zs} {rc17 : Zs → Int32 → Int32 → Option (Int32 × Zs)} {x1 : Int32} {x2 : Int32} {ls : Array Slot} {H : Heap} {locs : List Loc} (C : zC p s m args meth c cX5_findLast 3 RX5 none) (hrc17 : ∀ (S : Zs) (x1 : Int32) (x2 : Int32) (H : Heap) (locs : List Loc) (ls : Array Slot), rc17 S x1 x2 = some q → zW (xG D cs ad) s S H locs → lv_has ls 3 [(0, .ref (ad 35)), (1, .int x1), (2, .int x2)] → W p l e (zR 4 91) s m args below meth c H locs 0 0 (zQv (xG D cs ad) q below args s) (F0 m 17 ls [])) (h : n_X5_findLast_35_b17_l F rc17 S x1 x2 = some q) (hW : zW (xG D cs ad) s S H locs) (hl : lv_has ls 3 [(0, .ref (ad 35)), (1, .int x1), (2, .int x2)]) : W p l e (zR 4 91) s m args below meth c H locs 0 0 (zQv (xG D cs ad) q below args s) (F0 m 17 ls []) := by
  unfold n_X5_findLast_35_b17_l at h
  obtain ⟨hx, hb, hml, hown, hts, hret, hlk⟩ := id C
  refine lv_iload_n hx hb dX5_findLast_17 rfl (lv_at hl 2 rfl) ?_
  refine lv_bipush (v := 22) hx hb dX5_findLast_18 (by decide) ?_
  refine zz_cge (tgt := 75) C h dX5_findLast_20 (by decide) (fun h => ?_) (fun h => ?_)
  · exact w_X5_findLast_35_b75 (F := F) C h hW (lv_sub hl [] rfl)
  · refine lv_aload_n hx hb dX5_findLast_23 rfl (lv_at hl 0 rfl) ?_
    refine xg_35_1 C hW fl_X5_9 dX5_findLast_24 ?_
    refine lv_iload_n hx hb dX5_findLast_27 rfl (lv_at hl 1 rfl) ?_
    refine xl_36 C hW h dX5_findLast_28 (fun v1 h => ?_)
    refine zz_ile (tgt := 75) C h dX5_findLast_29 (by decide) (fun h => ?_) (fun h => ?_)
    · exact w_X5_findLast_35_b75 (F := F) C h hW (lv_sub hl [] rfl)
    · refine lv_aload_n hx hb dX5_findLast_32 rfl (lv_at hl 0 rfl) ?_
      refine xg_35_12 C hW h fl_X5_158 dX5_findLast_33 (fun v2 h => ?_)
      refine lv_iconst (v := -1) hx hb dX5_findLast_36 (by decide) ?_
      refine zz_cne (tgt := 75) C h dX5_findLast_37 (by decide) (fun h => ?_) (fun h => ?_)
      · exact w_X5_findLast_35_b75 (F := F) C h hW (lv_sub hl [] rfl)
      · refine lv_aload_n hx hb dX5_findLast_40 rfl (lv_at hl 0 rfl) ?_
        refine lv_iload_n hx hb dX5_findLast_41 rfl (lv_at hl 2 rfl) ?_
        refine zz_callVi (As := [.int x2]) C hW h (fun r hr => c_X5_isAllowed_35 hr) lk_X5_116 (hW.recv xr_35) rfl hl.1 ⟨rfl, rfl⟩ ⟨Nat.le_of_ble_eq_true rfl, Nat.le_of_ble_eq_true rfl⟩ (Nat.le_of_ble_eq_true rfl) ⟨Nat.zero_le _, Nat.zero_le _⟩ rfl dX5_findLast_42 (fun v4 S3 H locs h hW => ?_)
        refine zz_ieq (tgt := 69) C h dX5_findLast_45 (by decide) (fun h => ?_) (fun h => ?_)
        · exact w_X5_findLast_35_b69 (F := F) C hrc17 h hW (lv_sub hl [0, 1, 2] rfl)
        · refine lv_iload_n hx hb dX5_findLast_48 rfl (lv_at hl 2 rfl) ?_
          refine lv_bipush (v := 19) hx hb dX5_findLast_49 (by decide) ?_
          refine zz_cge (tgt := 63) C h dX5_findLast_51 (by decide) (fun h => ?_) (fun h => ?_)
          · refine lv_aload_n hx hb dX5_findLast_63 rfl (lv_at hl 0 rfl) ?_
            refine lv_iload_n hx hb dX5_findLast_64 rfl (lv_at hl 2 rfl) ?_
            refine lv_iload_n hx hb dX5_findLast_65 rfl (lv_at hl 1 rfl) ?_
            refine zz_callVv (As := [.int x2, .int x1]) C hW h (fun r hr => c_X5_findSingle_35 hr) lk_X5_170 (hW.recv xr_35) rfl hl.1 ⟨rfl, rfl⟩ ⟨Nat.le_of_ble_eq_true rfl, Nat.le_of_ble_eq_true rfl⟩ (Nat.le_of_ble_eq_true rfl) ⟨Nat.zero_le _, Nat.zero_le _⟩ rfl dX5_findLast_66 (fun v6 S5 H locs h hW => ?_)
            exact w_X5_findLast_35_b69 (F := F) C hrc17 h hW (lv_sub hl [0, 1, 2] rfl)
          · refine lv_aload_n hx hb dX5_findLast_54 rfl (lv_at hl 0 rfl) ?_
            refine lv_iload_n hx hb dX5_findLast_55 rfl (lv_at hl 2 rfl) ?_
            refine lv_iload_n hx hb dX5_findLast_56 rfl (lv_at hl 1 rfl) ?_
            refine zz_callVv (As := [.int x2, .int x1]) C hW h (fun r hr => c_X5_findPair_35 hr) lk_X5_167 (hW.recv xr_35) rfl hl.1 ⟨rfl, rfl⟩ ⟨Nat.le_of_ble_eq_true rfl, Nat.le_of_ble_eq_true rfl⟩ (Nat.le_of_ble_eq_true rfl) ⟨Nat.zero_le _, Nat.zero_le _⟩ rfl dX5_findLast_57 (fun v8 S7 H locs h hW => ?_)
            refine lv_goto (tgt := 69) hx hb dX5_findLast_60 (by decide) ?_
            exact w_X5_findLast_35_b69 (F := F) C hrc17 h hW (lv_sub hl [0, 1, 2] rfl)
def n_X5_findLast_35_b17 (F : Nat)  (S : Zs) (x1 : Int32) (x2 : Int32) : Option (Int32 × Zs) :=
  zfix (fun (rc : (Zs × Int32 × Int32) → Option (Int32 × Zs)) (u : (Zs × Int32 × Int32)) => n_X5_findLast_35_b17_l F  (fun S x1 x2 => rc (S, x1, x2)) u.1 u.2.1 u.2.2) F (S, x1, x2)
theorem w_X5_findLast_35_b17 {F : Nat} {q : (Int32 × Zs)}  (C : zC p s m args meth c cX5_findLast 3 RX5 none)  : ∀ (n : Nat) (S : Zs) (x1 : Int32) (x2 : Int32) (H : Heap) (locs : List Loc) (ls : Array Slot), zfix (fun (rc : (Zs × Int32 × Int32) → Option (Int32 × Zs)) (u : (Zs × Int32 × Int32)) => n_X5_findLast_35_b17_l F  (fun S x1 x2 => rc (S, x1, x2)) u.1 u.2.1 u.2.2) n (S, x1, x2) = some q → zW (xG D cs ad) s S H locs → lv_has ls 3 [(0, .ref (ad 35)), (1, .int x1), (2, .int x2)] → W p l e (zR 4 91) s m args below meth c H locs 0 0 (zQv (xG D cs ad) q below args s) (F0 m 17 ls []) := by
  intro n
  induction n with
  | zero => intro S x1 x2 H locs ls h; exact absurd h (fun h => by cases h)
  | succ n ih => intro S x1 x2 H locs ls h hW hl; exact w_X5_findLast_35_b17_l (F := F) C (fun S x1 x2 H locs ls h hW hl => ih S x1 x2 H locs ls h hW hl) h hW hl
def n_X5_findLast_35_e (F : Nat)  (S : Zs) (x1 : Int32) : Option (Int32 × Zs) :=
  zpf S 712 (-1 : Int32) (fun S1 => zpf S1 713 (-1 : Int32) (fun S2 => zpf S2 714 (-1 : Int32) (fun S3 => n_X5_findLast_35_b17 F  S3 x1 (0 : Int32))))
set_option maxRecDepth 20000 in
set_option maxHeartbeats 4000000 in
theorem w_X5_findLast_35_e {F : Nat} {q : (Int32 × Zs)} {S : Zs}  {x1 : Int32} {ls : Array Slot} {H : Heap} {locs : List Loc} (C : zC p s m args meth c cX5_findLast 3 RX5 none)  (h : n_X5_findLast_35_e F  S x1 = some q) (hW : zW (xG D cs ad) s S H locs) (hl : lv_has ls 3 [(0, .ref (ad 35)), (1, .int x1)]) : W p l e (zR 4 91) s m args below meth c H locs 0 0 (zQv (xG D cs ad) q below args s) (F0 m 0 ls []) := by
  unfold n_X5_findLast_35_e at h
  obtain ⟨hx, hb, hml, hown, hts, hret, hlk⟩ := id C
  refine lv_aload_n hx hb dX5_findLast_0 rfl (lv_at hl 0 rfl) ?_
  refine lv_iconst (v := -1) hx hb dX5_findLast_1 (by decide) ?_
  refine xp_35_12 C hW h fl_X5_158 dX5_findLast_2 (fun S1 H locs h hW => ?_)
  refine lv_aload_n hx hb dX5_findLast_5 rfl (lv_at hl 0 rfl) ?_
  refine lv_iconst (v := -1) hx hb dX5_findLast_6 (by decide) ?_
  refine xp_35_13 C hW h fl_X5_161 dX5_findLast_7 (fun S2 H locs h hW => ?_)
  refine lv_aload_n hx hb dX5_findLast_10 rfl (lv_at hl 0 rfl) ?_
  refine lv_iconst (v := -1) hx hb dX5_findLast_11 (by decide) ?_
  refine xp_35_14 C hW h fl_X5_164 dX5_findLast_12 (fun S3 H locs h hW => ?_)
  refine lv_iconst (v := 0) hx hb dX5_findLast_15 (by decide) ?_
  refine lv_istore_n (lv' := [(2, .int (0 : Int32)), (0, .ref (ad 35)), (1, .int x1)]) hx hb dX5_findLast_16 rfl hl (by decide) rfl (fun ls hl => ?_)
  exact w_X5_findLast_35_b17 (F := F) C F _ _ _ _ _ _ h hW (lv_sub hl [1, 2, 0] rfl)
def n_X5_findLast_35 (F : Nat) (S : Zs) (x1 : Int32) : Option (Int32 × Zs) := n_X5_findLast_35_e F  S x1
theorem c_X5_findLast_35 {l : Launch} {D : va_G} {cs ad : Nat → Nat} {F : Nat} {S : Zs} {x1 : Int32} {q : (Int32 × Zs)} (h : n_X5_findLast_35 F S x1 = some q) : zMv l yX5_findLast cX5_findLast 3 none (zR 4 91) (xG D cs ad) [.ref (ad 35), .int x1] S q :=
  zz_enter (by decide) (Nat.le_of_ble_eq_true rfl) (fun p e s m below meth c ls C hW hl => w_X5_findLast_35_e (F := F) C h hW (lv_sub hl [0, 1] rfl))
def n_X11_proof_0_b66 (F : Nat)  (S : Zs) (x2 : Int32) : Option (Int32 × Zs) :=
  some (x2, S)
set_option maxRecDepth 20000 in
set_option maxHeartbeats 4000000 in
theorem w_X11_proof_0_b66 {F : Nat} {q : (Int32 × Zs)} {S : Zs}  {x2 : Int32} {ls : Array Slot} {H : Heap} {locs : List Loc} (C : zC p s m args meth c cX11_proof 3 RX11 (some .int))  (h : n_X11_proof_0_b66 F  S x2 = some q) (hW : zW (xG D cs ad) s S H locs) (hl : lv_has ls 3 [(2, .int x2)]) : W p l e (zR 6 142) s m args below meth c H locs 0 0 (zQi (xG D cs ad) q below args s) (F0 m 66 ls []) := by
  unfold n_X11_proof_0_b66 at h
  obtain ⟨hx, hb, hml, hown, hts, hret, hlk⟩ := id C
  refine lv_iload_n hx hb dX11_proof_66 rfl (lv_at hl 0 rfl) ?_
  exact zz_iret C rfl h hW dX11_proof_67
def n_X11_proof_0_e (F : Nat)  (S : Zs) (x1 : Int32) : Option (Int32 × Zs) :=
  zcl (n_X0_isCode F S x1) (fun v2 S1 => if v2 = 0 then (some ((-1 : Int32), S1)) else (zcl (n_X5_stepsTo_35 F S1 x1) (fun v4 S3 => if v4 < 0 then (n_X11_proof_0_b66 F  S3 v4) else (zcl (n_X5_findLast_35 F S3 x1) (fun v6 S5 => zgf S5 712 (fun v7 => zgf S5 713 (fun v8 => zcl (n_X11_tellTwo_0 F S5 v7 v8) (fun v10 S9 => zgf S9 714 (fun v11 => zst S9 47 24 (2 : Int32) v11 (fun S12 => zpf S12 10 (3 : Int32) (fun S13 => n_X11_proof_0_b66 F  S13 v4)))))))))))
set_option maxRecDepth 20000 in
set_option maxHeartbeats 4000000 in
theorem w_X11_proof_0_e {F : Nat} {q : (Int32 × Zs)} {S : Zs}  {x1 : Int32} {ls : Array Slot} {H : Heap} {locs : List Loc} (C : zC p s m args meth c cX11_proof 3 RX11 (some .int))  (h : n_X11_proof_0_e F  S x1 = some q) (hW : zW (xG D cs ad) s S H locs) (hl : lv_has ls 3 [(0, .ref (ad 0)), (1, .int x1)]) : W p l e (zR 6 142) s m args below meth c H locs 0 0 (zQi (xG D cs ad) q below args s) (F0 m 0 ls []) := by
  unfold n_X11_proof_0_e at h
  obtain ⟨hx, hb, hml, hown, hts, hret, hlk⟩ := id C
  refine lv_iload_n hx hb dX11_proof_0 rfl (lv_at hl 1 rfl) ?_
  refine zz_callSi (As := [.int x1]) C hW h (fun r hr => c_X0_isCode hr) lk_X11_126 rfl hl.1 ⟨rfl, rfl⟩ ⟨Nat.le_of_ble_eq_true rfl, Nat.le_of_ble_eq_true rfl⟩ (Nat.le_of_ble_eq_true rfl) ⟨Nat.zero_le _, Nat.zero_le _⟩ rfl dX11_proof_1 (fun v2 S1 H locs h hW => ?_)
  refine zz_ine (tgt := 9) C h dX11_proof_4 (by decide) (fun h => ?_) (fun h => ?_)
  · refine lv_aload_n hx hb dX11_proof_9 rfl (lv_at hl 0 rfl) ?_
    refine xg_0_7 C hW fl_X11_67 dX11_proof_10 ?_
    refine lv_iload_n hx hb dX11_proof_13 rfl (lv_at hl 1 rfl) ?_
    refine zz_callVi (As := [.int x1]) C hW h (fun r hr => c_X5_stepsTo_35 hr) lk_X11_252 (hW.recv xr_35) rfl hl.1 ⟨rfl, rfl⟩ ⟨Nat.le_of_ble_eq_true rfl, Nat.le_of_ble_eq_true rfl⟩ (Nat.le_of_ble_eq_true rfl) ⟨Nat.zero_le _, Nat.zero_le _⟩ rfl dX11_proof_14 (fun v4 S3 H locs h hW => ?_)
    refine lv_istore_n (lv' := [(2, .int v4), (0, .ref (ad 0)), (1, .int x1)]) hx hb dX11_proof_17 rfl hl (by decide) rfl (fun ls hl => ?_)
    refine lv_iload_n hx hb dX11_proof_18 rfl (lv_at hl 0 rfl) ?_
    refine zz_ilt (tgt := 66) C h dX11_proof_19 (by decide) (fun h => ?_) (fun h => ?_)
    · exact w_X11_proof_0_b66 (F := F) C h hW (lv_sub hl [0] rfl)
    · refine lv_aload_n hx hb dX11_proof_22 rfl (lv_at hl 1 rfl) ?_
      refine xg_0_7 C hW fl_X11_67 dX11_proof_23 ?_
      refine lv_iload_n hx hb dX11_proof_26 rfl (lv_at hl 2 rfl) ?_
      refine zz_callVv (As := [.int x1]) C hW h (fun r hr => c_X5_findLast_35 hr) lk_X11_255 (hW.recv xr_35) rfl hl.1 ⟨rfl, rfl⟩ ⟨Nat.le_of_ble_eq_true rfl, Nat.le_of_ble_eq_true rfl⟩ (Nat.le_of_ble_eq_true rfl) ⟨Nat.zero_le _, Nat.zero_le _⟩ rfl dX11_proof_27 (fun v6 S5 H locs h hW => ?_)
      refine lv_aload_n hx hb dX11_proof_30 rfl (lv_at hl 1 rfl) ?_
      refine lv_aload_n hx hb dX11_proof_31 rfl (lv_at hl 1 rfl) ?_
      refine xg_0_7 C hW fl_X11_67 dX11_proof_32 ?_
      refine xg_35_12 C hW h fl_X11_258 dX11_proof_35 (fun v7 h => ?_)
      refine lv_aload_n hx hb dX11_proof_38 rfl (lv_at hl 1 rfl) ?_
      refine xg_0_7 C hW fl_X11_67 dX11_proof_39 ?_
      refine xg_35_13 C hW h fl_X11_261 dX11_proof_42 (fun v8 h => ?_)
      refine zz_callVv (As := [.int v7, .int v8]) C hW h (fun r hr => c_X11_tellTwo_0 hr) lk_X11_229 (hW.recv xr_0) rfl hl.1 ⟨rfl, rfl⟩ ⟨Nat.le_of_ble_eq_true rfl, Nat.le_of_ble_eq_true rfl⟩ (Nat.le_of_ble_eq_true rfl) ⟨Nat.zero_le _, Nat.zero_le _⟩ rfl dX11_proof_45 (fun v10 S9 H locs h hW => ?_)
      refine lv_aload_n hx hb dX11_proof_48 rfl (lv_at hl 1 rfl) ?_
      refine xg_0_9 C hW fl_X11_78 dX11_proof_49 ?_
      refine lv_iconst (v := 2) hx hb dX11_proof_52 (by decide) ?_
      refine lv_aload_n hx hb dX11_proof_53 rfl (lv_at hl 1 rfl) ?_
      refine xg_0_7 C hW fl_X11_67 dX11_proof_54 ?_
      refine xg_35_14 C hW h fl_X11_264 dX11_proof_57 (fun v11 h => ?_)
      refine xs_47 C hW h dX11_proof_60 (fun S12 H locs h hW => ?_)
      refine lv_aload_n hx hb dX11_proof_61 rfl (lv_at hl 1 rfl) ?_
      refine lv_iconst (v := 3) hx hb dX11_proof_62 (by decide) ?_
      refine xp_0_10 C hW h fl_X11_82 dX11_proof_63 (fun S13 H locs h hW => ?_)
      exact w_X11_proof_0_b66 (F := F) C h hW (lv_sub hl [0] rfl)
  · refine lv_iconst (v := -1) hx hb dX11_proof_7 (by decide) ?_
    exact zz_iret C rfl h hW dX11_proof_8
def n_X11_proof_0 (F : Nat) (S : Zs) (x1 : Int32) : Option (Int32 × Zs) := n_X11_proof_0_e F  S x1
theorem c_X11_proof_0 {l : Launch} {D : va_G} {cs ad : Nat → Nat} {F : Nat} {S : Zs} {x1 : Int32} {q : (Int32 × Zs)} (h : n_X11_proof_0 F S x1 = some q) : zMi l yX11_proof cX11_proof 3 (some .int) (zR 6 142) (xG D cs ad) [.ref (ad 0), .int x1] S q :=
  zz_enter (by decide) (Nat.le_of_ble_eq_true rfl) (fun p e s m below meth c ls C hW hl => w_X11_proof_0_e (F := F) C h hW (lv_sub hl [0, 1] rfl))
def n_X5_firstSaying_35_b45 (F : Nat)  (S : Zs) (x2 : Int32) : Option (Int32 × Zs) :=
  some (x2, S)
set_option maxRecDepth 20000 in
set_option maxHeartbeats 4000000 in
theorem w_X5_firstSaying_35_b45 {F : Nat} {q : (Int32 × Zs)} {S : Zs}  {x2 : Int32} {ls : Array Slot} {H : Heap} {locs : List Loc} (C : zC p s m args meth c cX5_firstSaying 3 RX5 (some .int))  (h : n_X5_firstSaying_35_b45 F  S x2 = some q) (hW : zW (xG D cs ad) s S H locs) (hl : lv_has ls 3 [(2, .int x2)]) : W p l e (zR 1 21) s m args below meth c H locs 0 0 (zQi (xG D cs ad) q below args s) (F0 m 45 ls []) := by
  unfold n_X5_firstSaying_35_b45 at h
  obtain ⟨hx, hb, hml, hown, hts, hret, hlk⟩ := id C
  refine lv_iload_n hx hb dX5_firstSaying_45 rfl (lv_at hl 0 rfl) ?_
  exact zz_iret C rfl h hW dX5_firstSaying_46
def n_X5_firstSaying_35_b39 (F : Nat) (rc2 : Zs → Int32 → Int32 → Option (Int32 × Zs)) (S : Zs) (x1 : Int32) (x2 : Int32) : Option (Int32 × Zs) :=
  zlet (x2 + (1 : Int32)) (fun v1 => rc2 S x1 v1)
set_option maxRecDepth 20000 in
set_option maxHeartbeats 4000000 in
theorem w_X5_firstSaying_35_b39 {F : Nat} {q : (Int32 × Zs)} {S : Zs} {rc2 : Zs → Int32 → Int32 → Option (Int32 × Zs)} {x1 : Int32} {x2 : Int32} {ls : Array Slot} {H : Heap} {locs : List Loc} (C : zC p s m args meth c cX5_firstSaying 3 RX5 (some .int)) (hrc2 : ∀ (S : Zs) (x1 : Int32) (x2 : Int32) (H : Heap) (locs : List Loc) (ls : Array Slot), rc2 S x1 x2 = some q → zW (xG D cs ad) s S H locs → lv_has ls 3 [(0, .ref (ad 35)), (1, .int x1), (2, .int x2)] → W p l e (zR 1 21) s m args below meth c H locs 0 0 (zQi (xG D cs ad) q below args s) (F0 m 2 ls [])) (h : n_X5_firstSaying_35_b39 F rc2 S x1 x2 = some q) (hW : zW (xG D cs ad) s S H locs) (hl : lv_has ls 3 [(0, .ref (ad 35)), (1, .int x1), (2, .int x2)]) : W p l e (zR 1 21) s m args below meth c H locs 0 0 (zQi (xG D cs ad) q below args s) (F0 m 39 ls []) := by
  unfold n_X5_firstSaying_35_b39 at h
  obtain ⟨hx, hb, hml, hown, hts, hret, hlk⟩ := id C
  obtain ⟨v1, ev1, h⟩ := zz_name h
  refine lv_iinc (v := v1) (lv' := [(2, .int v1), (0, .ref (ad 35)), (1, .int x1)]) hx hb dX5_firstSaying_39 hl (k := 2) rfl ev1.symm (by decide) rfl (fun ls hl => ?_)
  refine lv_goto (tgt := 2) hx hb dX5_firstSaying_42 (by decide) ?_
  exact hrc2 _ _ _ _ _ _ h hW (lv_sub hl [1, 2, 0] rfl)
def n_X5_firstSaying_35_b2_l (F : Nat) (rc2 : Zs → Int32 → Int32 → Option (Int32 × Zs)) (S : Zs) (x1 : Int32) (x2 : Int32) : Option (Int32 × Zs) :=
  zgf S 62 (fun v1 => if (v1 - (1 : Int32)) ≤ x2 then (n_X5_firstSaying_35_b45 F  S x2) else (zcl (n_X2_isActive_3 F S x2) (fun v3 S2 => if v3 = 0 then (n_X5_firstSaying_35_b39 F rc2 S2 x1 x2) else (zld S2 4 16 x2 (fun v4 => if v4 = x1 then (n_X5_firstSaying_35_b45 F  S2 x2) else (n_X5_firstSaying_35_b39 F rc2 S2 x1 x2))))))
set_option maxRecDepth 20000 in
set_option maxHeartbeats 4000000 in
theorem w_X5_firstSaying_35_b2_l {F : Nat} {q : (Int32 × Zs)} {S : Zs} {rc2 : Zs → Int32 → Int32 → Option (Int32 × Zs)} {x1 : Int32} {x2 : Int32} {ls : Array Slot} {H : Heap} {locs : List Loc} (C : zC p s m args meth c cX5_firstSaying 3 RX5 (some .int)) (hrc2 : ∀ (S : Zs) (x1 : Int32) (x2 : Int32) (H : Heap) (locs : List Loc) (ls : Array Slot), rc2 S x1 x2 = some q → zW (xG D cs ad) s S H locs → lv_has ls 3 [(0, .ref (ad 35)), (1, .int x1), (2, .int x2)] → W p l e (zR 1 21) s m args below meth c H locs 0 0 (zQi (xG D cs ad) q below args s) (F0 m 2 ls [])) (h : n_X5_firstSaying_35_b2_l F rc2 S x1 x2 = some q) (hW : zW (xG D cs ad) s S H locs) (hl : lv_has ls 3 [(0, .ref (ad 35)), (1, .int x1), (2, .int x2)]) : W p l e (zR 1 21) s m args below meth c H locs 0 0 (zQi (xG D cs ad) q below args s) (F0 m 2 ls []) := by
  unfold n_X5_firstSaying_35_b2_l at h
  obtain ⟨hx, hb, hml, hown, hts, hret, hlk⟩ := id C
  refine lv_iload_n hx hb dX5_firstSaying_2 rfl (lv_at hl 2 rfl) ?_
  refine lv_aload_n hx hb dX5_firstSaying_3 rfl (lv_at hl 0 rfl) ?_
  refine xg_35_0 C hW fl_X5_31 dX5_firstSaying_4 ?_
  refine xg_3_2 C hW h fl_X5_60 dX5_firstSaying_7 (fun v1 h => ?_)
  refine lv_iconst (v := 1) hx hb dX5_firstSaying_10 (by decide) ?_
  refine lv_isub hx hb dX5_firstSaying_11 ?_
  refine zz_cge (tgt := 45) C h dX5_firstSaying_12 (by decide) (fun h => ?_) (fun h => ?_)
  · exact w_X5_firstSaying_35_b45 (F := F) C h hW (lv_sub hl [2] rfl)
  · refine lv_aload_n hx hb dX5_firstSaying_15 rfl (lv_at hl 0 rfl) ?_
    refine xg_35_0 C hW fl_X5_31 dX5_firstSaying_16 ?_
    refine lv_iload_n hx hb dX5_firstSaying_19 rfl (lv_at hl 2 rfl) ?_
    refine zz_callVi (As := [.int x2]) C hW h (fun r hr => c_X2_isActive_3 hr) lk_X5_63 (hW.recv xr_3) rfl hl.1 ⟨rfl, rfl⟩ ⟨Nat.le_of_ble_eq_true rfl, Nat.le_of_ble_eq_true rfl⟩ (Nat.le_of_ble_eq_true rfl) ⟨Nat.zero_le _, Nat.zero_le _⟩ rfl dX5_firstSaying_20 (fun v3 S2 H locs h hW => ?_)
    refine zz_ieq (tgt := 39) C h dX5_firstSaying_23 (by decide) (fun h => ?_) (fun h => ?_)
    · exact w_X5_firstSaying_35_b39 (F := F) C hrc2 h hW (lv_sub hl [0, 1, 2] rfl)
    · refine lv_aload_n hx hb dX5_firstSaying_26 rfl (lv_at hl 0 rfl) ?_
      refine xg_35_0 C hW fl_X5_31 dX5_firstSaying_27 ?_
      refine xg_3_0 C hW fl_X5_67 dX5_firstSaying_30 ?_
      refine lv_iload_n hx hb dX5_firstSaying_33 rfl (lv_at hl 2 rfl) ?_
      refine xl_4 C hW h dX5_firstSaying_34 (fun v4 h => ?_)
      refine lv_iload_n hx hb dX5_firstSaying_35 rfl (lv_at hl 1 rfl) ?_
      refine zz_ceq (tgt := 45) C h dX5_firstSaying_36 (by decide) (fun h => ?_) (fun h => ?_)
      · exact w_X5_firstSaying_35_b45 (F := F) C h hW (lv_sub hl [2] rfl)
      · exact w_X5_firstSaying_35_b39 (F := F) C hrc2 h hW (lv_sub hl [0, 1, 2] rfl)
def n_X5_firstSaying_35_b2 (F : Nat)  (S : Zs) (x1 : Int32) (x2 : Int32) : Option (Int32 × Zs) :=
  zfix (fun (rc : (Zs × Int32 × Int32) → Option (Int32 × Zs)) (u : (Zs × Int32 × Int32)) => n_X5_firstSaying_35_b2_l F  (fun S x1 x2 => rc (S, x1, x2)) u.1 u.2.1 u.2.2) F (S, x1, x2)
theorem w_X5_firstSaying_35_b2 {F : Nat} {q : (Int32 × Zs)}  (C : zC p s m args meth c cX5_firstSaying 3 RX5 (some .int))  : ∀ (n : Nat) (S : Zs) (x1 : Int32) (x2 : Int32) (H : Heap) (locs : List Loc) (ls : Array Slot), zfix (fun (rc : (Zs × Int32 × Int32) → Option (Int32 × Zs)) (u : (Zs × Int32 × Int32)) => n_X5_firstSaying_35_b2_l F  (fun S x1 x2 => rc (S, x1, x2)) u.1 u.2.1 u.2.2) n (S, x1, x2) = some q → zW (xG D cs ad) s S H locs → lv_has ls 3 [(0, .ref (ad 35)), (1, .int x1), (2, .int x2)] → W p l e (zR 1 21) s m args below meth c H locs 0 0 (zQi (xG D cs ad) q below args s) (F0 m 2 ls []) := by
  intro n
  induction n with
  | zero => intro S x1 x2 H locs ls h; exact absurd h (fun h => by cases h)
  | succ n ih => intro S x1 x2 H locs ls h hW hl; exact w_X5_firstSaying_35_b2_l (F := F) C (fun S x1 x2 H locs ls h hW hl => ih S x1 x2 H locs ls h hW hl) h hW hl
def n_X5_firstSaying_35_e (F : Nat)  (S : Zs) (x1 : Int32) : Option (Int32 × Zs) :=
  n_X5_firstSaying_35_b2 F  S x1 (0 : Int32)
set_option maxRecDepth 20000 in
set_option maxHeartbeats 4000000 in
theorem w_X5_firstSaying_35_e {F : Nat} {q : (Int32 × Zs)} {S : Zs}  {x1 : Int32} {ls : Array Slot} {H : Heap} {locs : List Loc} (C : zC p s m args meth c cX5_firstSaying 3 RX5 (some .int))  (h : n_X5_firstSaying_35_e F  S x1 = some q) (hW : zW (xG D cs ad) s S H locs) (hl : lv_has ls 3 [(0, .ref (ad 35)), (1, .int x1)]) : W p l e (zR 1 21) s m args below meth c H locs 0 0 (zQi (xG D cs ad) q below args s) (F0 m 0 ls []) := by
  unfold n_X5_firstSaying_35_e at h
  obtain ⟨hx, hb, hml, hown, hts, hret, hlk⟩ := id C
  refine lv_iconst (v := 0) hx hb dX5_firstSaying_0 (by decide) ?_
  refine lv_istore_n (lv' := [(2, .int (0 : Int32)), (0, .ref (ad 35)), (1, .int x1)]) hx hb dX5_firstSaying_1 rfl hl (by decide) rfl (fun ls hl => ?_)
  exact w_X5_firstSaying_35_b2 (F := F) C F _ _ _ _ _ _ h hW (lv_sub hl [1, 2, 0] rfl)
def n_X5_firstSaying_35 (F : Nat) (S : Zs) (x1 : Int32) : Option (Int32 × Zs) := n_X5_firstSaying_35_e F  S x1
theorem c_X5_firstSaying_35 {l : Launch} {D : va_G} {cs ad : Nat → Nat} {F : Nat} {S : Zs} {x1 : Int32} {q : (Int32 × Zs)} (h : n_X5_firstSaying_35 F S x1 = some q) : zMi l yX5_firstSaying cX5_firstSaying 3 (some .int) (zR 1 21) (xG D cs ad) [.ref (ad 35), .int x1] S q :=
  zz_enter (by decide) (Nat.le_of_ble_eq_true rfl) (fun p e s m below meth c ls C hW hl => w_X5_firstSaying_35_e (F := F) C h hW (lv_sub hl [0, 1] rfl))
def n_X5_traceOne_35_b137 (F : Nat)  (S : Zs)  : Option (Int32 × Zs) :=
  some (0, S)
set_option maxRecDepth 20000 in
set_option maxHeartbeats 4000000 in
theorem w_X5_traceOne_35_b137 {F : Nat} {q : (Int32 × Zs)} {S : Zs}   {ls : Array Slot} {H : Heap} {locs : List Loc} (C : zC p s m args meth c cX5_traceOne 3 RX5 none)  (h : n_X5_traceOne_35_b137 F  S  = some q) (hW : zW (xG D cs ad) s S H locs) (hl : lv_has ls 3 []) : W p l e (zR 5 113) s m args below meth c H locs 0 0 (zQv (xG D cs ad) q below args s) (F0 m 137 ls []) := by
  unfold n_X5_traceOne_35_b137 at h
  obtain ⟨hx, hb, hml, hown, hts, hret, hlk⟩ := id C
  exact zz_vret C rfl h hW dX5_traceOne_137
def n_X5_traceOne_35_b105 (F : Nat)  (S : Zs) (x2 : Int32) : Option (Int32 × Zs) :=
  zgf S 714 (fun v1 => if v1 = (-1 : Int32) then (n_X5_traceOne_35_b137 F  S ) else (zgf S 714 (fun v2 => zgf S 714 (fun v3 => zld S 40 2304 v3 (fun v4 => zlet (if v4 < (x2 + (1 : Int32)) then (x2 + (1 : Int32)) else v4) (fun v5 => zst S 40 2304 v2 v5 (fun S6 => n_X5_traceOne_35_b137 F  S6 )))))))
set_option maxRecDepth 20000 in
set_option maxHeartbeats 4000000 in
theorem w_X5_traceOne_35_b105 {F : Nat} {q : (Int32 × Zs)} {S : Zs}  {x2 : Int32} {ls : Array Slot} {H : Heap} {locs : List Loc} (C : zC p s m args meth c cX5_traceOne 3 RX5 none)  (h : n_X5_traceOne_35_b105 F  S x2 = some q) (hW : zW (xG D cs ad) s S H locs) (hl : lv_has ls 3 [(0, .ref (ad 35)), (2, .int x2)]) : W p l e (zR 5 113) s m args below meth c H locs 0 0 (zQv (xG D cs ad) q below args s) (F0 m 105 ls []) := by
  unfold n_X5_traceOne_35_b105 at h
  obtain ⟨hx, hb, hml, hown, hts, hret, hlk⟩ := id C
  refine lv_aload_n hx hb dX5_traceOne_105 rfl (lv_at hl 0 rfl) ?_
  refine xg_35_14 C hW h fl_X5_164 dX5_traceOne_106 (fun v1 h => ?_)
  refine lv_iconst (v := -1) hx hb dX5_traceOne_109 (by decide) ?_
  refine zz_ceq (tgt := 137) C h dX5_traceOne_110 (by decide) (fun h => ?_) (fun h => ?_)
  · exact w_X5_traceOne_35_b137 (F := F) C h hW (lv_sub hl [] rfl)
  · refine lv_aload_n hx hb dX5_traceOne_113 rfl (lv_at hl 0 rfl) ?_
    refine xg_35_5 C hW fl_X5_24 dX5_traceOne_114 ?_
    refine lv_aload_n hx hb dX5_traceOne_117 rfl (lv_at hl 0 rfl) ?_
    refine xg_35_14 C hW h fl_X5_164 dX5_traceOne_118 (fun v2 h => ?_)
    refine lv_aload_n hx hb dX5_traceOne_121 rfl (lv_at hl 0 rfl) ?_
    refine xg_35_5 C hW fl_X5_24 dX5_traceOne_122 ?_
    refine lv_aload_n hx hb dX5_traceOne_125 rfl (lv_at hl 0 rfl) ?_
    refine xg_35_14 C hW h fl_X5_164 dX5_traceOne_126 (fun v3 h => ?_)
    refine xl_40 C hW h dX5_traceOne_129 (fun v4 h => ?_)
    refine lv_iload_n hx hb dX5_traceOne_130 rfl (lv_at hl 1 rfl) ?_
    refine lv_iconst (v := 1) hx hb dX5_traceOne_131 (by decide) ?_
    refine lv_iadd hx hb dX5_traceOne_132 ?_
    refine va_mmax hx hb (hml.trans hl.1.symm) hown (hts _ lkm_X5_191) (hts _ sm_max) (hts _ it_Math) (hts _ cd_max) (Nat.le_of_ble_eq_true rfl) (Nat.le_of_ble_eq_true rfl) (Nat.zero_le _) (Nat.zero_le _) dX5_traceOne_133 ?_
    refine zz_leti h (fun v5 h => ?_)
    refine xs_40 C hW h dX5_traceOne_136 (fun S6 H locs h hW => ?_)
    exact w_X5_traceOne_35_b137 (F := F) C h hW (lv_sub hl [] rfl)
def n_X5_traceOne_35_b73 (F : Nat)  (S : Zs) (x2 : Int32) : Option (Int32 × Zs) :=
  zgf S 713 (fun v1 => if v1 = (-1 : Int32) then (n_X5_traceOne_35_b105 F  S x2) else (zgf S 713 (fun v2 => zgf S 713 (fun v3 => zld S 40 2304 v3 (fun v4 => zlet (if v4 < (x2 + (1 : Int32)) then (x2 + (1 : Int32)) else v4) (fun v5 => zst S 40 2304 v2 v5 (fun S6 => n_X5_traceOne_35_b105 F  S6 x2)))))))
set_option maxRecDepth 20000 in
set_option maxHeartbeats 4000000 in
theorem w_X5_traceOne_35_b73 {F : Nat} {q : (Int32 × Zs)} {S : Zs}  {x2 : Int32} {ls : Array Slot} {H : Heap} {locs : List Loc} (C : zC p s m args meth c cX5_traceOne 3 RX5 none)  (h : n_X5_traceOne_35_b73 F  S x2 = some q) (hW : zW (xG D cs ad) s S H locs) (hl : lv_has ls 3 [(0, .ref (ad 35)), (2, .int x2)]) : W p l e (zR 5 113) s m args below meth c H locs 0 0 (zQv (xG D cs ad) q below args s) (F0 m 73 ls []) := by
  unfold n_X5_traceOne_35_b73 at h
  obtain ⟨hx, hb, hml, hown, hts, hret, hlk⟩ := id C
  refine lv_aload_n hx hb dX5_traceOne_73 rfl (lv_at hl 0 rfl) ?_
  refine xg_35_13 C hW h fl_X5_161 dX5_traceOne_74 (fun v1 h => ?_)
  refine lv_iconst (v := -1) hx hb dX5_traceOne_77 (by decide) ?_
  refine zz_ceq (tgt := 105) C h dX5_traceOne_78 (by decide) (fun h => ?_) (fun h => ?_)
  · exact w_X5_traceOne_35_b105 (F := F) C h hW (lv_sub hl [0, 1] rfl)
  · refine lv_aload_n hx hb dX5_traceOne_81 rfl (lv_at hl 0 rfl) ?_
    refine xg_35_5 C hW fl_X5_24 dX5_traceOne_82 ?_
    refine lv_aload_n hx hb dX5_traceOne_85 rfl (lv_at hl 0 rfl) ?_
    refine xg_35_13 C hW h fl_X5_161 dX5_traceOne_86 (fun v2 h => ?_)
    refine lv_aload_n hx hb dX5_traceOne_89 rfl (lv_at hl 0 rfl) ?_
    refine xg_35_5 C hW fl_X5_24 dX5_traceOne_90 ?_
    refine lv_aload_n hx hb dX5_traceOne_93 rfl (lv_at hl 0 rfl) ?_
    refine xg_35_13 C hW h fl_X5_161 dX5_traceOne_94 (fun v3 h => ?_)
    refine xl_40 C hW h dX5_traceOne_97 (fun v4 h => ?_)
    refine lv_iload_n hx hb dX5_traceOne_98 rfl (lv_at hl 1 rfl) ?_
    refine lv_iconst (v := 1) hx hb dX5_traceOne_99 (by decide) ?_
    refine lv_iadd hx hb dX5_traceOne_100 ?_
    refine va_mmax hx hb (hml.trans hl.1.symm) hown (hts _ lkm_X5_191) (hts _ sm_max) (hts _ it_Math) (hts _ cd_max) (Nat.le_of_ble_eq_true rfl) (Nat.le_of_ble_eq_true rfl) (Nat.zero_le _) (Nat.zero_le _) dX5_traceOne_101 ?_
    refine zz_leti h (fun v5 h => ?_)
    refine xs_40 C hW h dX5_traceOne_104 (fun S6 H locs h hW => ?_)
    exact w_X5_traceOne_35_b105 (F := F) C h hW (lv_sub hl [0, 1] rfl)
def n_X5_traceOne_35_e (F : Nat)  (S : Zs) (x1 : Int32) : Option (Int32 × Zs) :=
  zld S 40 2304 x1 (fun v1 => zld S 36 2304 x1 (fun v2 => if v2 = 0 then (zgf S 715 (fun v9 => zcl (n_X5_firstSaying_35 F S x1) (fun v11 S10 => zpf S10 715 (v9 ||| ((1 : Int32) <<< (v11 &&& 31))) (fun S12 => zgf S12 717 (fun v13 => zlet (if v13 < v1 then v1 else v13) (fun v14 => zpf S12 717 v14 (fun S15 => some (0, S15)))))))) else (zcl (n_X5_findLast_35 F S x1) (fun v4 S3 => zgf S3 712 (fun v5 => if v5 = (-1 : Int32) then (n_X5_traceOne_35_b73 F  S3 v1) else (zgf S3 716 (fun v6 => zgf S3 712 (fun v7 => zpf S3 716 (v6 ||| ((1 : Int32) <<< (v7 &&& 31))) (fun S8 => n_X5_traceOne_35_b73 F  S8 v1)))))))))
set_option maxRecDepth 20000 in
set_option maxHeartbeats 4000000 in
theorem w_X5_traceOne_35_e {F : Nat} {q : (Int32 × Zs)} {S : Zs}  {x1 : Int32} {ls : Array Slot} {H : Heap} {locs : List Loc} (C : zC p s m args meth c cX5_traceOne 3 RX5 none)  (h : n_X5_traceOne_35_e F  S x1 = some q) (hW : zW (xG D cs ad) s S H locs) (hl : lv_has ls 3 [(0, .ref (ad 35)), (1, .int x1)]) : W p l e (zR 5 113) s m args below meth c H locs 0 0 (zQv (xG D cs ad) q below args s) (F0 m 0 ls []) := by
  unfold n_X5_traceOne_35_e at h
  obtain ⟨hx, hb, hml, hown, hts, hret, hlk⟩ := id C
  refine lv_aload_n hx hb dX5_traceOne_0 rfl (lv_at hl 0 rfl) ?_
  refine xg_35_5 C hW fl_X5_24 dX5_traceOne_1 ?_
  refine lv_iload_n hx hb dX5_traceOne_4 rfl (lv_at hl 1 rfl) ?_
  refine xl_40 C hW h dX5_traceOne_5 (fun v1 h => ?_)
  refine lv_istore_n (lv' := [(2, .int v1), (0, .ref (ad 35)), (1, .int x1)]) hx hb dX5_traceOne_6 rfl hl (by decide) rfl (fun ls hl => ?_)
  refine lv_aload_n hx hb dX5_traceOne_7 rfl (lv_at hl 1 rfl) ?_
  refine xg_35_1 C hW fl_X5_9 dX5_traceOne_8 ?_
  refine lv_iload_n hx hb dX5_traceOne_11 rfl (lv_at hl 2 rfl) ?_
  refine xl_36 C hW h dX5_traceOne_12 (fun v2 h => ?_)
  refine zz_ine (tgt := 45) C h dX5_traceOne_13 (by decide) (fun h => ?_) (fun h => ?_)
  · refine lv_aload_n hx hb dX5_traceOne_45 rfl (lv_at hl 1 rfl) ?_
    refine lv_iload_n hx hb dX5_traceOne_46 rfl (lv_at hl 2 rfl) ?_
    refine zz_callVv (As := [.int x1]) C hW h (fun r hr => c_X5_findLast_35 hr) lk_X5_194 (hW.recv xr_35) rfl hl.1 ⟨rfl, rfl⟩ ⟨Nat.le_of_ble_eq_true rfl, Nat.le_of_ble_eq_true rfl⟩ (Nat.le_of_ble_eq_true rfl) ⟨Nat.zero_le _, Nat.zero_le _⟩ rfl dX5_traceOne_47 (fun v4 S3 H locs h hW => ?_)
    refine lv_aload_n hx hb dX5_traceOne_50 rfl (lv_at hl 1 rfl) ?_
    refine xg_35_12 C hW h fl_X5_158 dX5_traceOne_51 (fun v5 h => ?_)
    refine lv_iconst (v := -1) hx hb dX5_traceOne_54 (by decide) ?_
    refine zz_ceq (tgt := 73) C h dX5_traceOne_55 (by decide) (fun h => ?_) (fun h => ?_)
    · exact w_X5_traceOne_35_b73 (F := F) C h hW (lv_sub hl [1, 0] rfl)
    · refine lv_aload_n hx hb dX5_traceOne_58 rfl (lv_at hl 1 rfl) ?_
      refine lv_dup hx hb dX5_traceOne_59 rfl ?_
      refine xg_35_16 C hW h fl_X5_179 dX5_traceOne_60 (fun v6 h => ?_)
      refine lv_iconst (v := 1) hx hb dX5_traceOne_63 (by decide) ?_
      refine lv_aload_n hx hb dX5_traceOne_64 rfl (lv_at hl 1 rfl) ?_
      refine xg_35_12 C hW h fl_X5_158 dX5_traceOne_65 (fun v7 h => ?_)
      refine lv_ishl hx hb dX5_traceOne_68 ?_
      refine lv_ior hx hb dX5_traceOne_69 ?_
      refine xp_35_16 C hW h fl_X5_179 dX5_traceOne_70 (fun S8 H locs h hW => ?_)
      exact w_X5_traceOne_35_b73 (F := F) C h hW (lv_sub hl [1, 0] rfl)
  · refine lv_aload_n hx hb dX5_traceOne_16 rfl (lv_at hl 1 rfl) ?_
    refine lv_dup hx hb dX5_traceOne_17 rfl ?_
    refine xg_35_15 C hW h fl_X5_176 dX5_traceOne_18 (fun v9 h => ?_)
    refine lv_iconst (v := 1) hx hb dX5_traceOne_21 (by decide) ?_
    refine lv_aload_n hx hb dX5_traceOne_22 rfl (lv_at hl 1 rfl) ?_
    refine lv_iload_n hx hb dX5_traceOne_23 rfl (lv_at hl 2 rfl) ?_
    refine zz_callVi (As := [.int x1]) C hW h (fun r hr => c_X5_firstSaying_35 hr) lk_X5_188 (hW.recv xr_35) rfl hl.1 ⟨rfl, rfl⟩ ⟨Nat.le_of_ble_eq_true rfl, Nat.le_of_ble_eq_true rfl⟩ (Nat.le_of_ble_eq_true rfl) ⟨Nat.zero_le _, Nat.zero_le _⟩ rfl dX5_traceOne_24 (fun v11 S10 H locs h hW => ?_)
    refine lv_ishl hx hb dX5_traceOne_27 ?_
    refine lv_ior hx hb dX5_traceOne_28 ?_
    refine xp_35_15 C hW h fl_X5_176 dX5_traceOne_29 (fun S12 H locs h hW => ?_)
    refine lv_aload_n hx hb dX5_traceOne_32 rfl (lv_at hl 1 rfl) ?_
    refine lv_aload_n hx hb dX5_traceOne_33 rfl (lv_at hl 1 rfl) ?_
    refine xg_35_17 C hW h fl_X5_182 dX5_traceOne_34 (fun v13 h => ?_)
    refine lv_iload_n hx hb dX5_traceOne_37 rfl (lv_at hl 0 rfl) ?_
    refine va_mmax hx hb (hml.trans hl.1.symm) hown (hts _ lkm_X5_191) (hts _ sm_max) (hts _ it_Math) (hts _ cd_max) (Nat.le_of_ble_eq_true rfl) (Nat.le_of_ble_eq_true rfl) (Nat.zero_le _) (Nat.zero_le _) dX5_traceOne_38 ?_
    refine zz_leti h (fun v14 h => ?_)
    refine xp_35_17 C hW h fl_X5_182 dX5_traceOne_41 (fun S15 H locs h hW => ?_)
    exact zz_vret C rfl h hW dX5_traceOne_44
def n_X5_traceOne_35 (F : Nat) (S : Zs) (x1 : Int32) : Option (Int32 × Zs) := n_X5_traceOne_35_e F  S x1
theorem c_X5_traceOne_35 {l : Launch} {D : va_G} {cs ad : Nat → Nat} {F : Nat} {S : Zs} {x1 : Int32} {q : (Int32 × Zs)} (h : n_X5_traceOne_35 F S x1 = some q) : zMv l yX5_traceOne cX5_traceOne 3 none (zR 5 113) (xG D cs ad) [.ref (ad 35), .int x1] S q :=
  zz_enter (by decide) (Nat.le_of_ble_eq_true rfl) (fun p e s m below meth c ls C hW hl => w_X5_traceOne_35_e (F := F) C h hW (lv_sub hl [0, 1] rfl))
def n_X5_trace_35_b80 (F : Nat) (rc51 : Zs → Int32 → Option (Int32 × Zs)) (S : Zs) (x2 : Int32) : Option (Int32 × Zs) :=
  zlet (x2 + (-1 : Int32)) (fun v1 => rc51 S v1)
set_option maxRecDepth 20000 in
set_option maxHeartbeats 4000000 in
theorem w_X5_trace_35_b80 {F : Nat} {q : (Int32 × Zs)} {S : Zs} {rc51 : Zs → Int32 → Option (Int32 × Zs)} {x2 : Int32} {ls : Array Slot} {H : Heap} {locs : List Loc} (C : zC p s m args meth c cX5_trace 3 RX5 none) (hrc51 : ∀ (S : Zs) (x2 : Int32) (H : Heap) (locs : List Loc) (ls : Array Slot), rc51 S x2 = some q → zW (xG D cs ad) s S H locs → lv_has ls 3 [(0, .ref (ad 35)), (2, .int x2)] → W p l e (zR 6 135) s m args below meth c H locs 0 0 (zQv (xG D cs ad) q below args s) (F0 m 51 ls [])) (h : n_X5_trace_35_b80 F rc51 S x2 = some q) (hW : zW (xG D cs ad) s S H locs) (hl : lv_has ls 3 [(0, .ref (ad 35)), (2, .int x2)]) : W p l e (zR 6 135) s m args below meth c H locs 0 0 (zQv (xG D cs ad) q below args s) (F0 m 80 ls []) := by
  unfold n_X5_trace_35_b80 at h
  obtain ⟨hx, hb, hml, hown, hts, hret, hlk⟩ := id C
  obtain ⟨v1, ev1, h⟩ := zz_name h
  refine lv_iinc (v := v1) (lv' := [(2, .int v1), (0, .ref (ad 35))]) hx hb dX5_trace_80 hl (k := 1) rfl ev1.symm (by decide) rfl (fun ls hl => ?_)
  refine lv_goto (tgt := 51) hx hb dX5_trace_83 (by decide) ?_
  exact hrc51 _ _ _ _ _ h hW (lv_sub hl [1, 0] rfl)
def n_X5_trace_35_b51_l (F : Nat) (rc51 : Zs → Int32 → Option (Int32 × Zs)) (S : Zs) (x2 : Int32) : Option (Int32 × Zs) :=
  if x2 < 0 then (some (0, S)) else (zld S 37 2304 x2 (fun v1 => zld S 40 2304 v1 (fun v2 => if v2 = (-1 : Int32) then (n_X5_trace_35_b80 F rc51 S x2) else (zld S 37 2304 x2 (fun v3 => zcl (n_X5_traceOne_35 F S v3) (fun v5 S4 => n_X5_trace_35_b80 F rc51 S4 x2))))))
set_option maxRecDepth 20000 in
set_option maxHeartbeats 4000000 in
theorem w_X5_trace_35_b51_l {F : Nat} {q : (Int32 × Zs)} {S : Zs} {rc51 : Zs → Int32 → Option (Int32 × Zs)} {x2 : Int32} {ls : Array Slot} {H : Heap} {locs : List Loc} (C : zC p s m args meth c cX5_trace 3 RX5 none) (hrc51 : ∀ (S : Zs) (x2 : Int32) (H : Heap) (locs : List Loc) (ls : Array Slot), rc51 S x2 = some q → zW (xG D cs ad) s S H locs → lv_has ls 3 [(0, .ref (ad 35)), (2, .int x2)] → W p l e (zR 6 135) s m args below meth c H locs 0 0 (zQv (xG D cs ad) q below args s) (F0 m 51 ls [])) (h : n_X5_trace_35_b51_l F rc51 S x2 = some q) (hW : zW (xG D cs ad) s S H locs) (hl : lv_has ls 3 [(0, .ref (ad 35)), (2, .int x2)]) : W p l e (zR 6 135) s m args below meth c H locs 0 0 (zQv (xG D cs ad) q below args s) (F0 m 51 ls []) := by
  unfold n_X5_trace_35_b51_l at h
  obtain ⟨hx, hb, hml, hown, hts, hret, hlk⟩ := id C
  refine lv_iload_n hx hb dX5_trace_51 rfl (lv_at hl 1 rfl) ?_
  refine zz_ilt (tgt := 86) C h dX5_trace_52 (by decide) (fun h => ?_) (fun h => ?_)
  · exact zz_vret C rfl h hW dX5_trace_86
  · refine lv_aload_n hx hb dX5_trace_55 rfl (lv_at hl 0 rfl) ?_
    refine xg_35_5 C hW fl_X5_24 dX5_trace_56 ?_
    refine lv_aload_n hx hb dX5_trace_59 rfl (lv_at hl 0 rfl) ?_
    refine xg_35_2 C hW fl_X5_15 dX5_trace_60 ?_
    refine lv_iload_n hx hb dX5_trace_63 rfl (lv_at hl 1 rfl) ?_
    refine xl_37 C hW h dX5_trace_64 (fun v1 h => ?_)
    refine xl_40 C hW h dX5_trace_65 (fun v2 h => ?_)
    refine lv_iconst (v := -1) hx hb dX5_trace_66 (by decide) ?_
    refine zz_ceq (tgt := 80) C h dX5_trace_67 (by decide) (fun h => ?_) (fun h => ?_)
    · exact w_X5_trace_35_b80 (F := F) C hrc51 h hW (lv_sub hl [0, 1] rfl)
    · refine lv_aload_n hx hb dX5_trace_70 rfl (lv_at hl 0 rfl) ?_
      refine lv_aload_n hx hb dX5_trace_71 rfl (lv_at hl 0 rfl) ?_
      refine xg_35_2 C hW fl_X5_15 dX5_trace_72 ?_
      refine lv_iload_n hx hb dX5_trace_75 rfl (lv_at hl 1 rfl) ?_
      refine xl_37 C hW h dX5_trace_76 (fun v3 h => ?_)
      refine zz_callVv (As := [.int v3]) C hW h (fun r hr => c_X5_traceOne_35 hr) lk_X5_185 (hW.recv xr_35) rfl hl.1 ⟨rfl, rfl⟩ ⟨Nat.le_of_ble_eq_true rfl, Nat.le_of_ble_eq_true rfl⟩ (Nat.le_of_ble_eq_true rfl) ⟨Nat.zero_le _, Nat.zero_le _⟩ rfl dX5_trace_77 (fun v5 S4 H locs h hW => ?_)
      exact w_X5_trace_35_b80 (F := F) C hrc51 h hW (lv_sub hl [0, 1] rfl)
def n_X5_trace_35_b51 (F : Nat)  (S : Zs) (x2 : Int32) : Option (Int32 × Zs) :=
  zfix (fun (rc : (Zs × Int32) → Option (Int32 × Zs)) (u : (Zs × Int32)) => n_X5_trace_35_b51_l F  (fun S x2 => rc (S, x2)) u.1 u.2) F (S, x2)
theorem w_X5_trace_35_b51 {F : Nat} {q : (Int32 × Zs)}  (C : zC p s m args meth c cX5_trace 3 RX5 none)  : ∀ (n : Nat) (S : Zs) (x2 : Int32) (H : Heap) (locs : List Loc) (ls : Array Slot), zfix (fun (rc : (Zs × Int32) → Option (Int32 × Zs)) (u : (Zs × Int32)) => n_X5_trace_35_b51_l F  (fun S x2 => rc (S, x2)) u.1 u.2) n (S, x2) = some q → zW (xG D cs ad) s S H locs → lv_has ls 3 [(0, .ref (ad 35)), (2, .int x2)] → W p l e (zR 6 135) s m args below meth c H locs 0 0 (zQv (xG D cs ad) q below args s) (F0 m 51 ls []) := by
  intro n
  induction n with
  | zero => intro S x2 H locs ls h; exact absurd h (fun h => by cases h)
  | succ n ih => intro S x2 H locs ls h hW hl; exact w_X5_trace_35_b51_l (F := F) C (fun S x2 H locs ls h hW hl => ih S x2 H locs ls h hW hl) h hW hl
def n_X5_trace_35_b2_l (F : Nat) (rc2 : Zs → Int32 → Int32 → Option (Int32 × Zs)) (S : Zs) (x1 : Int32) (x2 : Int32) : Option (Int32 × Zs) :=
  if (2304 : Int32) ≤ x2 then (zst S 40 2304 x1 (0 : Int32) (fun S1 => zpf S1 715 (0 : Int32) (fun S2 => zpf S2 716 (0 : Int32) (fun S3 => zpf S3 717 (0 : Int32) (fun S4 => zgf S4 707 (fun v5 => zlet (v5 - (1 : Int32)) (fun v6 => n_X5_trace_35_b51 F  S4 v6))))))) else (zst S 40 2304 x2 (-1 : Int32) (fun S7 => zlet (x2 + (1 : Int32)) (fun v8 => rc2 S7 x1 v8)))
set_option maxRecDepth 20000 in
set_option maxHeartbeats 4000000 in
theorem w_X5_trace_35_b2_l {F : Nat} {q : (Int32 × Zs)} {S : Zs} {rc2 : Zs → Int32 → Int32 → Option (Int32 × Zs)} {x1 : Int32} {x2 : Int32} {ls : Array Slot} {H : Heap} {locs : List Loc} (C : zC p s m args meth c cX5_trace 3 RX5 none) (hrc2 : ∀ (S : Zs) (x1 : Int32) (x2 : Int32) (H : Heap) (locs : List Loc) (ls : Array Slot), rc2 S x1 x2 = some q → zW (xG D cs ad) s S H locs → lv_has ls 3 [(0, .ref (ad 35)), (1, .int x1), (2, .int x2)] → W p l e (zR 6 135) s m args below meth c H locs 0 0 (zQv (xG D cs ad) q below args s) (F0 m 2 ls [])) (h : n_X5_trace_35_b2_l F rc2 S x1 x2 = some q) (hW : zW (xG D cs ad) s S H locs) (hl : lv_has ls 3 [(0, .ref (ad 35)), (1, .int x1), (2, .int x2)]) : W p l e (zR 6 135) s m args below meth c H locs 0 0 (zQv (xG D cs ad) q below args s) (F0 m 2 ls []) := by
  unfold n_X5_trace_35_b2_l at h
  obtain ⟨hx, hb, hml, hown, hts, hret, hlk⟩ := id C
  refine lv_iload_n hx hb dX5_trace_2 rfl (lv_at hl 2 rfl) ?_
  refine lv_sipush (v := 2304) hx hb dX5_trace_3 (by decide) ?_
  refine zz_cge (tgt := 22) C h dX5_trace_6 (by decide) (fun h => ?_) (fun h => ?_)
  · refine lv_aload_n hx hb dX5_trace_22 rfl (lv_at hl 0 rfl) ?_
    refine xg_35_5 C hW fl_X5_24 dX5_trace_23 ?_
    refine lv_iload_n hx hb dX5_trace_26 rfl (lv_at hl 1 rfl) ?_
    refine lv_iconst (v := 0) hx hb dX5_trace_27 (by decide) ?_
    refine xs_40 C hW h dX5_trace_28 (fun S1 H locs h hW => ?_)
    refine lv_aload_n hx hb dX5_trace_29 rfl (lv_at hl 0 rfl) ?_
    refine lv_iconst (v := 0) hx hb dX5_trace_30 (by decide) ?_
    refine xp_35_15 C hW h fl_X5_176 dX5_trace_31 (fun S2 H locs h hW => ?_)
    refine lv_aload_n hx hb dX5_trace_34 rfl (lv_at hl 0 rfl) ?_
    refine lv_iconst (v := 0) hx hb dX5_trace_35 (by decide) ?_
    refine xp_35_16 C hW h fl_X5_179 dX5_trace_36 (fun S3 H locs h hW => ?_)
    refine lv_aload_n hx hb dX5_trace_39 rfl (lv_at hl 0 rfl) ?_
    refine lv_iconst (v := 0) hx hb dX5_trace_40 (by decide) ?_
    refine xp_35_17 C hW h fl_X5_182 dX5_trace_41 (fun S4 H locs h hW => ?_)
    refine lv_aload_n hx hb dX5_trace_44 rfl (lv_at hl 0 rfl) ?_
    refine xg_35_7 C hW h fl_X5_74 dX5_trace_45 (fun v5 h => ?_)
    refine lv_iconst (v := 1) hx hb dX5_trace_48 (by decide) ?_
    refine lv_isub hx hb dX5_trace_49 ?_
    refine zz_leti h (fun v6 h => ?_)
    refine lv_istore_n (lv' := [(2, .int v6), (0, .ref (ad 35)), (1, .int x1)]) hx hb dX5_trace_50 rfl hl (by decide) rfl (fun ls hl => ?_)
    exact w_X5_trace_35_b51 (F := F) C F _ _ _ _ _ h hW (lv_sub hl [1, 0] rfl)
  · refine lv_aload_n hx hb dX5_trace_9 rfl (lv_at hl 0 rfl) ?_
    refine xg_35_5 C hW fl_X5_24 dX5_trace_10 ?_
    refine lv_iload_n hx hb dX5_trace_13 rfl (lv_at hl 2 rfl) ?_
    refine lv_iconst (v := -1) hx hb dX5_trace_14 (by decide) ?_
    refine xs_40 C hW h dX5_trace_15 (fun S7 H locs h hW => ?_)
    obtain ⟨v8, ev8, h⟩ := zz_name h
    refine lv_iinc (v := v8) (lv' := [(2, .int v8), (0, .ref (ad 35)), (1, .int x1)]) hx hb dX5_trace_16 hl (k := 2) rfl ev8.symm (by decide) rfl (fun ls hl => ?_)
    refine lv_goto (tgt := 2) hx hb dX5_trace_19 (by decide) ?_
    exact hrc2 _ _ _ _ _ _ h hW (lv_sub hl [1, 2, 0] rfl)
def n_X5_trace_35_b2 (F : Nat)  (S : Zs) (x1 : Int32) (x2 : Int32) : Option (Int32 × Zs) :=
  zfix (fun (rc : (Zs × Int32 × Int32) → Option (Int32 × Zs)) (u : (Zs × Int32 × Int32)) => n_X5_trace_35_b2_l F  (fun S x1 x2 => rc (S, x1, x2)) u.1 u.2.1 u.2.2) F (S, x1, x2)
theorem w_X5_trace_35_b2 {F : Nat} {q : (Int32 × Zs)}  (C : zC p s m args meth c cX5_trace 3 RX5 none)  : ∀ (n : Nat) (S : Zs) (x1 : Int32) (x2 : Int32) (H : Heap) (locs : List Loc) (ls : Array Slot), zfix (fun (rc : (Zs × Int32 × Int32) → Option (Int32 × Zs)) (u : (Zs × Int32 × Int32)) => n_X5_trace_35_b2_l F  (fun S x1 x2 => rc (S, x1, x2)) u.1 u.2.1 u.2.2) n (S, x1, x2) = some q → zW (xG D cs ad) s S H locs → lv_has ls 3 [(0, .ref (ad 35)), (1, .int x1), (2, .int x2)] → W p l e (zR 6 135) s m args below meth c H locs 0 0 (zQv (xG D cs ad) q below args s) (F0 m 2 ls []) := by
  intro n
  induction n with
  | zero => intro S x1 x2 H locs ls h; exact absurd h (fun h => by cases h)
  | succ n ih => intro S x1 x2 H locs ls h hW hl; exact w_X5_trace_35_b2_l (F := F) C (fun S x1 x2 H locs ls h hW hl => ih S x1 x2 H locs ls h hW hl) h hW hl
def n_X5_trace_35_e (F : Nat)  (S : Zs) (x1 : Int32) : Option (Int32 × Zs) :=
  n_X5_trace_35_b2 F  S x1 (0 : Int32)
set_option maxRecDepth 20000 in
set_option maxHeartbeats 4000000 in
theorem w_X5_trace_35_e {F : Nat} {q : (Int32 × Zs)} {S : Zs}  {x1 : Int32} {ls : Array Slot} {H : Heap} {locs : List Loc} (C : zC p s m args meth c cX5_trace 3 RX5 none)  (h : n_X5_trace_35_e F  S x1 = some q) (hW : zW (xG D cs ad) s S H locs) (hl : lv_has ls 3 [(0, .ref (ad 35)), (1, .int x1)]) : W p l e (zR 6 135) s m args below meth c H locs 0 0 (zQv (xG D cs ad) q below args s) (F0 m 0 ls []) := by
  unfold n_X5_trace_35_e at h
  obtain ⟨hx, hb, hml, hown, hts, hret, hlk⟩ := id C
  refine lv_iconst (v := 0) hx hb dX5_trace_0 (by decide) ?_
  refine lv_istore_n (lv' := [(2, .int (0 : Int32)), (0, .ref (ad 35)), (1, .int x1)]) hx hb dX5_trace_1 rfl hl (by decide) rfl (fun ls hl => ?_)
  exact w_X5_trace_35_b2 (F := F) C F _ _ _ _ _ _ h hW (lv_sub hl [1, 2, 0] rfl)
def n_X5_trace_35 (F : Nat) (S : Zs) (x1 : Int32) : Option (Int32 × Zs) := n_X5_trace_35_e F  S x1
theorem c_X5_trace_35 {l : Launch} {D : va_G} {cs ad : Nat → Nat} {F : Nat} {S : Zs} {x1 : Int32} {q : (Int32 × Zs)} (h : n_X5_trace_35 F S x1 = some q) : zMv l yX5_trace cX5_trace 3 none (zR 6 135) (xG D cs ad) [.ref (ad 35), .int x1] S q :=
  zz_enter (by decide) (Nat.le_of_ble_eq_true rfl) (fun p e s m below meth c ls C hW hl => w_X5_trace_35_e (F := F) C h hW (lv_sub hl [0, 1] rfl))
def n_X11_rests_0_e (F : Nat)  (S : Zs) (x1 : Int32) : Option (Int32 × Zs) :=
  zcl (n_X0_isCode F S x1) (fun v2 S1 => if v2 = 0 then (some ((-1 : Int32), S1)) else (zcl (n_X5_stepsTo_35 F S1 x1) (fun v4 S3 => if 0 ≤ v4 then (zcl (n_X5_trace_35 F S3 x1) (fun v6 S5 => zgf S5 716 (fun v7 => zgf S5 717 (fun v8 => zcl (n_X11_tellTwo_0 F S5 v7 v8) (fun v10 S9 => zgf S9 715 (fun v11 => some (v11, S9))))))) else (some ((-2 : Int32), S3)))))
set_option maxRecDepth 20000 in
set_option maxHeartbeats 4000000 in
theorem w_X11_rests_0_e {F : Nat} {q : (Int32 × Zs)} {S : Zs}  {x1 : Int32} {ls : Array Slot} {H : Heap} {locs : List Loc} (C : zC p s m args meth c cX11_rests 2 RX11 (some .int))  (h : n_X11_rests_0_e F  S x1 = some q) (hW : zW (xG D cs ad) s S H locs) (hl : lv_has ls 2 [(0, .ref (ad 0)), (1, .int x1)]) : W p l e (zR 7 157) s m args below meth c H locs 0 0 (zQi (xG D cs ad) q below args s) (F0 m 0 ls []) := by
  unfold n_X11_rests_0_e at h
  obtain ⟨hx, hb, hml, hown, hts, hret, hlk⟩ := id C
  refine lv_iload_n hx hb dX11_rests_0 rfl (lv_at hl 1 rfl) ?_
  refine zz_callSi (As := [.int x1]) C hW h (fun r hr => c_X0_isCode hr) lk_X11_126 rfl hl.1 ⟨rfl, rfl⟩ ⟨Nat.le_of_ble_eq_true rfl, Nat.le_of_ble_eq_true rfl⟩ (Nat.le_of_ble_eq_true rfl) ⟨Nat.zero_le _, Nat.zero_le _⟩ rfl dX11_rests_1 (fun v2 S1 H locs h hW => ?_)
  refine zz_ine (tgt := 9) C h dX11_rests_4 (by decide) (fun h => ?_) (fun h => ?_)
  · refine lv_aload_n hx hb dX11_rests_9 rfl (lv_at hl 0 rfl) ?_
    refine xg_0_7 C hW fl_X11_67 dX11_rests_10 ?_
    refine lv_iload_n hx hb dX11_rests_13 rfl (lv_at hl 1 rfl) ?_
    refine zz_callVi (As := [.int x1]) C hW h (fun r hr => c_X5_stepsTo_35 hr) lk_X11_252 (hW.recv xr_35) rfl hl.1 ⟨rfl, rfl⟩ ⟨Nat.le_of_ble_eq_true rfl, Nat.le_of_ble_eq_true rfl⟩ (Nat.le_of_ble_eq_true rfl) ⟨Nat.zero_le _, Nat.zero_le _⟩ rfl dX11_rests_14 (fun v4 S3 H locs h hW => ?_)
    refine zz_ige (tgt := 23) C h dX11_rests_17 (by decide) (fun h => ?_) (fun h => ?_)
    · refine lv_aload_n hx hb dX11_rests_23 rfl (lv_at hl 0 rfl) ?_
      refine xg_0_7 C hW fl_X11_67 dX11_rests_24 ?_
      refine lv_iload_n hx hb dX11_rests_27 rfl (lv_at hl 1 rfl) ?_
      refine zz_callVv (As := [.int x1]) C hW h (fun r hr => c_X5_trace_35 hr) lk_X11_267 (hW.recv xr_35) rfl hl.1 ⟨rfl, rfl⟩ ⟨Nat.le_of_ble_eq_true rfl, Nat.le_of_ble_eq_true rfl⟩ (Nat.le_of_ble_eq_true rfl) ⟨Nat.zero_le _, Nat.zero_le _⟩ rfl dX11_rests_28 (fun v6 S5 H locs h hW => ?_)
      refine lv_aload_n hx hb dX11_rests_31 rfl (lv_at hl 0 rfl) ?_
      refine lv_aload_n hx hb dX11_rests_32 rfl (lv_at hl 0 rfl) ?_
      refine xg_0_7 C hW fl_X11_67 dX11_rests_33 ?_
      refine xg_35_16 C hW h fl_X11_270 dX11_rests_36 (fun v7 h => ?_)
      refine lv_aload_n hx hb dX11_rests_39 rfl (lv_at hl 0 rfl) ?_
      refine xg_0_7 C hW fl_X11_67 dX11_rests_40 ?_
      refine xg_35_17 C hW h fl_X11_273 dX11_rests_43 (fun v8 h => ?_)
      refine zz_callVv (As := [.int v7, .int v8]) C hW h (fun r hr => c_X11_tellTwo_0 hr) lk_X11_229 (hW.recv xr_0) rfl hl.1 ⟨rfl, rfl⟩ ⟨Nat.le_of_ble_eq_true rfl, Nat.le_of_ble_eq_true rfl⟩ (Nat.le_of_ble_eq_true rfl) ⟨Nat.zero_le _, Nat.zero_le _⟩ rfl dX11_rests_46 (fun v10 S9 H locs h hW => ?_)
      refine lv_aload_n hx hb dX11_rests_49 rfl (lv_at hl 0 rfl) ?_
      refine xg_0_7 C hW fl_X11_67 dX11_rests_50 ?_
      refine xg_35_15 C hW h fl_X11_276 dX11_rests_53 (fun v11 h => ?_)
      exact zz_iret C rfl h hW dX11_rests_56
    · refine lv_bipush (v := -2) hx hb dX11_rests_20 (by decide) ?_
      exact zz_iret C rfl h hW dX11_rests_22
  · refine lv_iconst (v := -1) hx hb dX11_rests_7 (by decide) ?_
    exact zz_iret C rfl h hW dX11_rests_8
def n_X11_rests_0 (F : Nat) (S : Zs) (x1 : Int32) : Option (Int32 × Zs) := n_X11_rests_0_e F  S x1
theorem c_X11_rests_0 {l : Launch} {D : va_G} {cs ad : Nat → Nat} {F : Nat} {S : Zs} {x1 : Int32} {q : (Int32 × Zs)} (h : n_X11_rests_0 F S x1 = some q) : zMi l yX11_rests cX11_rests 2 (some .int) (zR 7 157) (xG D cs ad) [.ref (ad 0), .int x1] S q :=
  zz_enter (by decide) (Nat.le_of_ble_eq_true rfl) (fun p e s m below meth c ls C hW hl => w_X11_rests_0_e (F := F) C h hW (lv_sub hl [0, 1] rfl))
def n_X11_proved_0_e (F : Nat)  (S : Zs)  : Option (Int32 × Zs) :=
  zcl (n_X5_settle_35 F S ) (fun v2 S1 => zgf S1 708 (fun v3 => zcl (n_X11_tellOne_0 F S1 v3) (fun v5 S4 => zgf S4 707 (fun v6 => some (v6, S4)))))
set_option maxRecDepth 20000 in
set_option maxHeartbeats 4000000 in
theorem w_X11_proved_0_e {F : Nat} {q : (Int32 × Zs)} {S : Zs}   {ls : Array Slot} {H : Heap} {locs : List Loc} (C : zC p s m args meth c cX11_proved 1 RX11 (some .int))  (h : n_X11_proved_0_e F  S  = some q) (hW : zW (xG D cs ad) s S H locs) (hl : lv_has ls 1 [(0, .ref (ad 0))]) : W p l e (zR 5 121) s m args below meth c H locs 0 0 (zQi (xG D cs ad) q below args s) (F0 m 0 ls []) := by
  unfold n_X11_proved_0_e at h
  obtain ⟨hx, hb, hml, hown, hts, hret, hlk⟩ := id C
  refine lv_aload_n hx hb dX11_proved_0 rfl (lv_at hl 0 rfl) ?_
  refine xg_0_7 C hW fl_X11_67 dX11_proved_1 ?_
  refine zz_callVv (As := []) C hW h (fun r hr => c_X5_settle_35 hr) lk_X11_279 (hW.recv xr_35) rfl hl.1 ⟨rfl, rfl⟩ ⟨Nat.le_of_ble_eq_true rfl, Nat.le_of_ble_eq_true rfl⟩ (Nat.le_of_ble_eq_true rfl) ⟨Nat.zero_le _, Nat.zero_le _⟩ rfl dX11_proved_4 (fun v2 S1 H locs h hW => ?_)
  refine lv_aload_n hx hb dX11_proved_7 rfl (lv_at hl 0 rfl) ?_
  refine lv_aload_n hx hb dX11_proved_8 rfl (lv_at hl 0 rfl) ?_
  refine xg_0_7 C hW fl_X11_67 dX11_proved_9 ?_
  refine xg_35_8 C hW h fl_X11_281 dX11_proved_12 (fun v3 h => ?_)
  refine zz_callVv (As := [.int v3]) C hW h (fun r hr => c_X11_tellOne_0 hr) lk_X11_182 (hW.recv xr_0) rfl hl.1 ⟨rfl, rfl⟩ ⟨Nat.le_of_ble_eq_true rfl, Nat.le_of_ble_eq_true rfl⟩ (Nat.le_of_ble_eq_true rfl) ⟨Nat.zero_le _, Nat.zero_le _⟩ rfl dX11_proved_15 (fun v5 S4 H locs h hW => ?_)
  refine lv_aload_n hx hb dX11_proved_18 rfl (lv_at hl 0 rfl) ?_
  refine xg_0_7 C hW fl_X11_67 dX11_proved_19 ?_
  refine xg_35_7 C hW h fl_X11_284 dX11_proved_22 (fun v6 h => ?_)
  exact zz_iret C rfl h hW dX11_proved_25
def n_X11_proved_0 (F : Nat) (S : Zs)  : Option (Int32 × Zs) := n_X11_proved_0_e F  S 
theorem c_X11_proved_0 {l : Launch} {D : va_G} {cs ad : Nat → Nat} {F : Nat} {S : Zs}  {q : (Int32 × Zs)} (h : n_X11_proved_0 F S  = some q) : zMi l yX11_proved cX11_proved 1 (some .int) (zR 5 121) (xG D cs ad) [.ref (ad 0)] S q :=
  zz_enter (by decide) (Nat.le_of_ble_eq_true rfl) (fun p e s m below meth c ls C hW hl => w_X11_proved_0_e (F := F) C h hW (lv_sub hl [0] rfl))
def n_X11_gap_0_b60 (F : Nat) (rc4 : Zs → Int32 → Int32 → Option (Int32 × Zs)) (S : Zs) (x1 : Int32) (x2 : Int32) : Option (Int32 × Zs) :=
  zlet (x2 + (1 : Int32)) (fun v1 => rc4 S x1 v1)
set_option maxRecDepth 20000 in
set_option maxHeartbeats 4000000 in
theorem w_X11_gap_0_b60 {F : Nat} {q : (Int32 × Zs)} {S : Zs} {rc4 : Zs → Int32 → Int32 → Option (Int32 × Zs)} {x1 : Int32} {x2 : Int32} {ls : Array Slot} {H : Heap} {locs : List Loc} (C : zC p s m args meth c cX11_gap 4 RX11 (some .int)) (hrc4 : ∀ (S : Zs) (x1 : Int32) (x2 : Int32) (H : Heap) (locs : List Loc) (ls : Array Slot), rc4 S x1 x2 = some q → zW (xG D cs ad) s S H locs → lv_has ls 4 [(0, .ref (ad 0)), (1, .int x1), (2, .int x2)] → W p l e (zR 6 142) s m args below meth c H locs 0 0 (zQi (xG D cs ad) q below args s) (F0 m 4 ls [])) (h : n_X11_gap_0_b60 F rc4 S x1 x2 = some q) (hW : zW (xG D cs ad) s S H locs) (hl : lv_has ls 4 [(0, .ref (ad 0)), (1, .int x1), (2, .int x2)]) : W p l e (zR 6 142) s m args below meth c H locs 0 0 (zQi (xG D cs ad) q below args s) (F0 m 60 ls []) := by
  unfold n_X11_gap_0_b60 at h
  obtain ⟨hx, hb, hml, hown, hts, hret, hlk⟩ := id C
  obtain ⟨v1, ev1, h⟩ := zz_name h
  refine lv_iinc (v := v1) (lv' := [(2, .int v1), (0, .ref (ad 0)), (1, .int x1)]) hx hb dX11_gap_60 hl (k := 2) rfl ev1.symm (by decide) rfl (fun ls hl => ?_)
  refine lv_goto (tgt := 4) hx hb dX11_gap_63 (by decide) ?_
  exact hrc4 _ _ _ _ _ _ h hW (lv_sub hl [1, 2, 0] rfl)
def n_X11_gap_0_b4_l (F : Nat) (rc4 : Zs → Int32 → Int32 → Option (Int32 × Zs)) (S : Zs) (x1 : Int32) (x2 : Int32) : Option (Int32 × Zs) :=
  zgf S 68 (fun v1 => if v1 ≤ x2 then (some (x1, S)) else (zld S 6 6 x2 (fun v2 => zcl (n_X2_active_3 F S ) (fun v4 S3 => zcl (n_X1_entails_13 F S3 v4 v2) (fun v6 S5 => if v6 = 0 then (n_X11_gap_0_b60 F rc4 S5 x1 x2) else (zcl (n_X5_stepsTo_35 F S5 v2) (fun v8 S7 => if 0 ≤ v8 then (n_X11_gap_0_b60 F rc4 S7 x1 x2) else (zlet (x1 ||| ((1 : Int32) <<< (x2 &&& 31))) (fun v9 => n_X11_gap_0_b60 F rc4 S7 v9 x2)))))))))
set_option maxRecDepth 20000 in
set_option maxHeartbeats 4000000 in
theorem w_X11_gap_0_b4_l {F : Nat} {q : (Int32 × Zs)} {S : Zs} {rc4 : Zs → Int32 → Int32 → Option (Int32 × Zs)} {x1 : Int32} {x2 : Int32} {ls : Array Slot} {H : Heap} {locs : List Loc} (C : zC p s m args meth c cX11_gap 4 RX11 (some .int)) (hrc4 : ∀ (S : Zs) (x1 : Int32) (x2 : Int32) (H : Heap) (locs : List Loc) (ls : Array Slot), rc4 S x1 x2 = some q → zW (xG D cs ad) s S H locs → lv_has ls 4 [(0, .ref (ad 0)), (1, .int x1), (2, .int x2)] → W p l e (zR 6 142) s m args below meth c H locs 0 0 (zQi (xG D cs ad) q below args s) (F0 m 4 ls [])) (h : n_X11_gap_0_b4_l F rc4 S x1 x2 = some q) (hW : zW (xG D cs ad) s S H locs) (hl : lv_has ls 4 [(0, .ref (ad 0)), (1, .int x1), (2, .int x2)]) : W p l e (zR 6 142) s m args below meth c H locs 0 0 (zQi (xG D cs ad) q below args s) (F0 m 4 ls []) := by
  unfold n_X11_gap_0_b4_l at h
  obtain ⟨hx, hb, hml, hown, hts, hret, hlk⟩ := id C
  refine lv_iload_n hx hb dX11_gap_4 rfl (lv_at hl 2 rfl) ?_
  refine lv_aload_n hx hb dX11_gap_5 rfl (lv_at hl 0 rfl) ?_
  refine xg_0_1 C hW fl_X11_27 dX11_gap_6 ?_
  refine xg_3_8 C hW h fl_X11_132 dX11_gap_9 (fun v1 h => ?_)
  refine zz_cge (tgt := 66) C h dX11_gap_12 (by decide) (fun h => ?_) (fun h => ?_)
  · refine lv_iload_n hx hb dX11_gap_66 rfl (lv_at hl 1 rfl) ?_
    exact zz_iret C rfl h hW dX11_gap_67
  · refine lv_aload_n hx hb dX11_gap_15 rfl (lv_at hl 0 rfl) ?_
    refine xg_0_1 C hW fl_X11_27 dX11_gap_16 ?_
    refine xg_3_7 C hW fl_X11_287 dX11_gap_19 ?_
    refine lv_iload_n hx hb dX11_gap_22 rfl (lv_at hl 2 rfl) ?_
    refine xl_6 C hW h dX11_gap_23 (fun v2 h => ?_)
    refine lv_istore_n (lv' := [(3, .int v2), (0, .ref (ad 0)), (1, .int x1), (2, .int x2)]) hx hb dX11_gap_24 rfl hl (by decide) rfl (fun ls hl => ?_)
    refine lv_aload_n hx hb dX11_gap_25 rfl (lv_at hl 1 rfl) ?_
    refine xg_0_2 C hW fl_X11_31 dX11_gap_26 ?_
    refine lv_aload_n hx hb dX11_gap_29 rfl (lv_at hl 1 rfl) ?_
    refine xg_0_1 C hW fl_X11_27 dX11_gap_30 ?_
    refine zz_callVi (As := []) C hW h (fun r hr => c_X2_active_3 hr) lk_X11_144 (hW.recv xr_3) rfl hl.1 ⟨rfl, rfl⟩ ⟨Nat.le_of_ble_eq_true rfl, Nat.le_of_ble_eq_true rfl⟩ (Nat.le_of_ble_eq_true rfl) ⟨Nat.zero_le _, Nat.zero_le _⟩ rfl dX11_gap_33 (fun v4 S3 H locs h hW => ?_)
    refine lv_iload_n hx hb dX11_gap_36 rfl (lv_at hl 0 rfl) ?_
    refine zz_callVi (As := [.int v4, .int v2]) C hW h (fun r hr => c_X1_entails_13 hr) lk_X11_151 (hW.recv xr_13) rfl hl.1 ⟨rfl, rfl⟩ ⟨Nat.le_of_ble_eq_true rfl, Nat.le_of_ble_eq_true rfl⟩ (Nat.le_of_ble_eq_true rfl) ⟨Nat.zero_le _, Nat.zero_le _⟩ rfl dX11_gap_37 (fun v6 S5 H locs h hW => ?_)
    refine zz_ieq (tgt := 60) C h dX11_gap_40 (by decide) (fun h => ?_) (fun h => ?_)
    · exact w_X11_gap_0_b60 (F := F) C hrc4 h hW (lv_sub hl [1, 2, 3] rfl)
    · refine lv_aload_n hx hb dX11_gap_43 rfl (lv_at hl 1 rfl) ?_
      refine xg_0_7 C hW fl_X11_67 dX11_gap_44 ?_
      refine lv_iload_n hx hb dX11_gap_47 rfl (lv_at hl 0 rfl) ?_
      refine zz_callVi (As := [.int v2]) C hW h (fun r hr => c_X5_stepsTo_35 hr) lk_X11_252 (hW.recv xr_35) rfl hl.1 ⟨rfl, rfl⟩ ⟨Nat.le_of_ble_eq_true rfl, Nat.le_of_ble_eq_true rfl⟩ (Nat.le_of_ble_eq_true rfl) ⟨Nat.zero_le _, Nat.zero_le _⟩ rfl dX11_gap_48 (fun v8 S7 H locs h hW => ?_)
      refine zz_ige (tgt := 60) C h dX11_gap_51 (by decide) (fun h => ?_) (fun h => ?_)
      · exact w_X11_gap_0_b60 (F := F) C hrc4 h hW (lv_sub hl [1, 2, 3] rfl)
      · refine lv_iload_n hx hb dX11_gap_54 rfl (lv_at hl 2 rfl) ?_
        refine lv_iconst (v := 1) hx hb dX11_gap_55 (by decide) ?_
        refine lv_iload_n hx hb dX11_gap_56 rfl (lv_at hl 3 rfl) ?_
        refine lv_ishl hx hb dX11_gap_57 ?_
        refine lv_ior hx hb dX11_gap_58 ?_
        refine zz_leti h (fun v9 h => ?_)
        refine lv_istore_n (lv' := [(1, .int v9), (3, .int v2), (0, .ref (ad 0)), (2, .int x2)]) hx hb dX11_gap_59 rfl hl (by decide) rfl (fun ls hl => ?_)
        exact w_X11_gap_0_b60 (F := F) C hrc4 h hW (lv_sub hl [2, 0, 3] rfl)
def n_X11_gap_0_b4 (F : Nat)  (S : Zs) (x1 : Int32) (x2 : Int32) : Option (Int32 × Zs) :=
  zfix (fun (rc : (Zs × Int32 × Int32) → Option (Int32 × Zs)) (u : (Zs × Int32 × Int32)) => n_X11_gap_0_b4_l F  (fun S x1 x2 => rc (S, x1, x2)) u.1 u.2.1 u.2.2) F (S, x1, x2)
theorem w_X11_gap_0_b4 {F : Nat} {q : (Int32 × Zs)}  (C : zC p s m args meth c cX11_gap 4 RX11 (some .int))  : ∀ (n : Nat) (S : Zs) (x1 : Int32) (x2 : Int32) (H : Heap) (locs : List Loc) (ls : Array Slot), zfix (fun (rc : (Zs × Int32 × Int32) → Option (Int32 × Zs)) (u : (Zs × Int32 × Int32)) => n_X11_gap_0_b4_l F  (fun S x1 x2 => rc (S, x1, x2)) u.1 u.2.1 u.2.2) n (S, x1, x2) = some q → zW (xG D cs ad) s S H locs → lv_has ls 4 [(0, .ref (ad 0)), (1, .int x1), (2, .int x2)] → W p l e (zR 6 142) s m args below meth c H locs 0 0 (zQi (xG D cs ad) q below args s) (F0 m 4 ls []) := by
  intro n
  induction n with
  | zero => intro S x1 x2 H locs ls h; exact absurd h (fun h => by cases h)
  | succ n ih => intro S x1 x2 H locs ls h hW hl; exact w_X11_gap_0_b4_l (F := F) C (fun S x1 x2 H locs ls h hW hl => ih S x1 x2 H locs ls h hW hl) h hW hl
def n_X11_gap_0_e (F : Nat)  (S : Zs)  : Option (Int32 × Zs) :=
  n_X11_gap_0_b4 F  S (0 : Int32) (0 : Int32)
set_option maxRecDepth 20000 in
set_option maxHeartbeats 4000000 in
theorem w_X11_gap_0_e {F : Nat} {q : (Int32 × Zs)} {S : Zs}   {ls : Array Slot} {H : Heap} {locs : List Loc} (C : zC p s m args meth c cX11_gap 4 RX11 (some .int))  (h : n_X11_gap_0_e F  S  = some q) (hW : zW (xG D cs ad) s S H locs) (hl : lv_has ls 4 [(0, .ref (ad 0))]) : W p l e (zR 6 142) s m args below meth c H locs 0 0 (zQi (xG D cs ad) q below args s) (F0 m 0 ls []) := by
  unfold n_X11_gap_0_e at h
  obtain ⟨hx, hb, hml, hown, hts, hret, hlk⟩ := id C
  refine lv_iconst (v := 0) hx hb dX11_gap_0 (by decide) ?_
  refine lv_istore_n (lv' := [(1, .int (0 : Int32)), (0, .ref (ad 0))]) hx hb dX11_gap_1 rfl hl (by decide) rfl (fun ls hl => ?_)
  refine lv_iconst (v := 0) hx hb dX11_gap_2 (by decide) ?_
  refine lv_istore_n (lv' := [(2, .int (0 : Int32)), (1, .int (0 : Int32)), (0, .ref (ad 0))]) hx hb dX11_gap_3 rfl hl (by decide) rfl (fun ls hl => ?_)
  exact w_X11_gap_0_b4 (F := F) C F _ _ _ _ _ _ h hW (lv_sub hl [2, 1, 0] rfl)
def n_X11_gap_0 (F : Nat) (S : Zs)  : Option (Int32 × Zs) := n_X11_gap_0_e F  S 
theorem c_X11_gap_0 {l : Launch} {D : va_G} {cs ad : Nat → Nat} {F : Nat} {S : Zs}  {q : (Int32 × Zs)} (h : n_X11_gap_0 F S  = some q) : zMi l yX11_gap cX11_gap 4 (some .int) (zR 6 142) (xG D cs ad) [.ref (ad 0)] S q :=
  zz_enter (by decide) (Nat.le_of_ble_eq_true rfl) (fun p e s m below meth c ls C hW hl => w_X11_gap_0_e (F := F) C h hW (lv_sub hl [0] rfl))
def n_X8_takeNumber_1_b40 (F : Nat)  (S : Zs) (t0 : Int32) : Option (Int32 × Zs) :=
  some (t0, S)
set_option maxRecDepth 20000 in
set_option maxHeartbeats 4000000 in
theorem w_X8_takeNumber_1_b40 {F : Nat} {q : (Int32 × Zs)} {S : Zs}  {t0 : Int32} {ls : Array Slot} {H : Heap} {locs : List Loc} (C : zC p s m args meth c cX8_takeNumber 3 RX8 (some .int))  (h : n_X8_takeNumber_1_b40 F  S t0 = some q) (hW : zW (xG D cs ad) s S H locs) (hl : lv_has ls 3 []) : W p l e (zR 2 43) s m args below meth c H locs 0 0 (zQi (xG D cs ad) q below args s) (F0 m 40 ls [.int t0]) := by
  unfold n_X8_takeNumber_1_b40 at h
  obtain ⟨hx, hb, hml, hown, hts, hret, hlk⟩ := id C
  exact zz_iret C rfl h hW dX8_takeNumber_40
def n_X8_takeNumber_1_e (F : Nat)  (S : Zs)  : Option (Int32 × Zs) :=
  zcl (n_X8_takeWithin_1 F S (48 : Int32) (57 : Int32)) (fun v2 S1 => if v2 = (-1 : Int32) then (some ((-1 : Int32), S1)) else (zcl (n_X8_takeWithin_1 F S1 (48 : Int32) (57 : Int32)) (fun v4 S3 => if v4 = (-1 : Int32) then (n_X8_takeNumber_1_b40 F  S3 v2) else (n_X8_takeNumber_1_b40 F  S3 (((10 : Int32) * v2) + v4)))))
set_option maxRecDepth 20000 in
set_option maxHeartbeats 4000000 in
theorem w_X8_takeNumber_1_e {F : Nat} {q : (Int32 × Zs)} {S : Zs}   {ls : Array Slot} {H : Heap} {locs : List Loc} (C : zC p s m args meth c cX8_takeNumber 3 RX8 (some .int))  (h : n_X8_takeNumber_1_e F  S  = some q) (hW : zW (xG D cs ad) s S H locs) (hl : lv_has ls 3 [(0, .ref (ad 1))]) : W p l e (zR 2 43) s m args below meth c H locs 0 0 (zQi (xG D cs ad) q below args s) (F0 m 0 ls []) := by
  unfold n_X8_takeNumber_1_e at h
  obtain ⟨hx, hb, hml, hown, hts, hret, hlk⟩ := id C
  refine lv_aload_n hx hb dX8_takeNumber_0 rfl (lv_at hl 0 rfl) ?_
  refine lv_bipush (v := 48) hx hb dX8_takeNumber_1 (by decide) ?_
  refine lv_bipush (v := 57) hx hb dX8_takeNumber_3 (by decide) ?_
  refine zz_callVi (As := [.int (48 : Int32), .int (57 : Int32)]) C hW h (fun r hr => c_X8_takeWithin_1 hr) lk_X8_30 (hW.recv xr_1) rfl hl.1 ⟨rfl, rfl⟩ ⟨Nat.le_of_ble_eq_true rfl, Nat.le_of_ble_eq_true rfl⟩ (Nat.le_of_ble_eq_true rfl) ⟨Nat.zero_le _, Nat.zero_le _⟩ rfl dX8_takeNumber_5 (fun v2 S1 H locs h hW => ?_)
  refine lv_istore_n (lv' := [(1, .int v2), (0, .ref (ad 1))]) hx hb dX8_takeNumber_8 rfl hl (by decide) rfl (fun ls hl => ?_)
  refine lv_iload_n hx hb dX8_takeNumber_9 rfl (lv_at hl 0 rfl) ?_
  refine lv_iconst (v := -1) hx hb dX8_takeNumber_10 (by decide) ?_
  refine zz_cne (tgt := 16) C h dX8_takeNumber_11 (by decide) (fun h => ?_) (fun h => ?_)
  · refine lv_aload_n hx hb dX8_takeNumber_16 rfl (lv_at hl 1 rfl) ?_
    refine lv_bipush (v := 48) hx hb dX8_takeNumber_17 (by decide) ?_
    refine lv_bipush (v := 57) hx hb dX8_takeNumber_19 (by decide) ?_
    refine zz_callVi (As := [.int (48 : Int32), .int (57 : Int32)]) C hW h (fun r hr => c_X8_takeWithin_1 hr) lk_X8_30 (hW.recv xr_1) rfl hl.1 ⟨rfl, rfl⟩ ⟨Nat.le_of_ble_eq_true rfl, Nat.le_of_ble_eq_true rfl⟩ (Nat.le_of_ble_eq_true rfl) ⟨Nat.zero_le _, Nat.zero_le _⟩ rfl dX8_takeNumber_21 (fun v4 S3 H locs h hW => ?_)
    refine lv_istore_n (lv' := [(2, .int v4), (1, .int v2), (0, .ref (ad 1))]) hx hb dX8_takeNumber_24 rfl hl (by decide) rfl (fun ls hl => ?_)
    refine lv_iload_n hx hb dX8_takeNumber_25 rfl (lv_at hl 0 rfl) ?_
    refine lv_iconst (v := -1) hx hb dX8_takeNumber_26 (by decide) ?_
    refine zz_cne (tgt := 34) C h dX8_takeNumber_27 (by decide) (fun h => ?_) (fun h => ?_)
    · refine lv_bipush (v := 10) hx hb dX8_takeNumber_34 (by decide) ?_
      refine lv_iload_n hx hb dX8_takeNumber_36 rfl (lv_at hl 1 rfl) ?_
      refine lv_imul hx hb dX8_takeNumber_37 ?_
      refine lv_iload_n hx hb dX8_takeNumber_38 rfl (lv_at hl 0 rfl) ?_
      refine lv_iadd hx hb dX8_takeNumber_39 ?_
      exact w_X8_takeNumber_1_b40 (F := F) C h hW (lv_sub hl [] rfl)
    · refine lv_iload_n hx hb dX8_takeNumber_30 rfl (lv_at hl 1 rfl) ?_
      refine lv_goto (tgt := 40) hx hb dX8_takeNumber_31 (by decide) ?_
      exact w_X8_takeNumber_1_b40 (F := F) C h hW (lv_sub hl [] rfl)
  · refine lv_iconst (v := -1) hx hb dX8_takeNumber_14 (by decide) ?_
    exact zz_iret C rfl h hW dX8_takeNumber_15
def n_X8_takeNumber_1 (F : Nat) (S : Zs)  : Option (Int32 × Zs) := n_X8_takeNumber_1_e F  S 
theorem c_X8_takeNumber_1 {l : Launch} {D : va_G} {cs ad : Nat → Nat} {F : Nat} {S : Zs}  {q : (Int32 × Zs)} (h : n_X8_takeNumber_1 F S  = some q) : zMi l yX8_takeNumber cX8_takeNumber 3 (some .int) (zR 2 43) (xG D cs ad) [.ref (ad 1)] S q :=
  zz_enter (by decide) (Nat.le_of_ble_eq_true rfl) (fun p e s m below meth c ls C hW hl => w_X8_takeNumber_1_e (F := F) C h hW (lv_sub hl [0] rfl))
def n_X3_readLine_41_1_b33 (F : Nat)  (S : Zs)  : Option (Int32 × Zs) :=
  zrb (0 : Int32) S
set_option maxRecDepth 20000 in
set_option maxHeartbeats 4000000 in
theorem w_X3_readLine_41_1_b33 {F : Nat} {q : (Int32 × Zs)} {S : Zs}   {ls : Array Slot} {H : Heap} {locs : List Loc} (C : zC p s m args meth c cX3_readLine 3 RX3 (some .boolean))  (h : n_X3_readLine_41_1_b33 F  S  = some q) (hW : zW (xG D cs ad) s S H locs) (hl : lv_has ls 3 []) : W p l e (zR 4 88) s m args below meth c H locs 0 0 (zQi (xG D cs ad) q below args s) (F0 m 33 ls []) := by
  unfold n_X3_readLine_41_1_b33 at h
  obtain ⟨hx, hb, hml, hown, hts, hret, hlk⟩ := id C
  refine lv_iconst (v := 0) hx hb dX3_readLine_33 (by decide) ?_
  exact zz_zret C rfl h hW dX3_readLine_34
def n_X3_readLine_41_1_b120 (F : Nat)  (S : Zs) (t0 : Int32) : Option (Int32 × Zs) :=
  zrb t0 S
set_option maxRecDepth 20000 in
set_option maxHeartbeats 4000000 in
theorem w_X3_readLine_41_1_b120 {F : Nat} {q : (Int32 × Zs)} {S : Zs}  {t0 : Int32} {ls : Array Slot} {H : Heap} {locs : List Loc} (C : zC p s m args meth c cX3_readLine 3 RX3 (some .boolean))  (h : n_X3_readLine_41_1_b120 F  S t0 = some q) (hW : zW (xG D cs ad) s S H locs) (hl : lv_has ls 3 []) : W p l e (zR 4 88) s m args below meth c H locs 0 0 (zQi (xG D cs ad) q below args s) (F0 m 120 ls [.int t0]) := by
  unfold n_X3_readLine_41_1_b120 at h
  obtain ⟨hx, hb, hml, hown, hts, hret, hlk⟩ := id C
  exact zz_zret C rfl h hW dX3_readLine_120
def n_X3_readLine_41_1_b95 (F : Nat)  (S : Zs) (x2 : Int32) : Option (Int32 × Zs) :=
  zcl (n_X8_takeCode_1 F S ) (fun v2 S1 => zst S1 42 40 x2 v2 (fun S3 => zld S3 42 40 x2 (fun v4 => if v4 = (-1 : Int32) then (n_X3_readLine_41_1_b120 F  S3 (0 : Int32)) else (n_X3_readLine_41_1_b120 F  S3 (1 : Int32)))))
set_option maxRecDepth 20000 in
set_option maxHeartbeats 4000000 in
theorem w_X3_readLine_41_1_b95 {F : Nat} {q : (Int32 × Zs)} {S : Zs}  {x2 : Int32} {ls : Array Slot} {H : Heap} {locs : List Loc} (C : zC p s m args meth c cX3_readLine 3 RX3 (some .boolean))  (h : n_X3_readLine_41_1_b95 F  S x2 = some q) (hW : zW (xG D cs ad) s S H locs) (hl : lv_has ls 3 [(0, .ref (ad 41)), (1, .ref (ad 1)), (2, .int x2)]) : W p l e (zR 4 88) s m args below meth c H locs 0 0 (zQi (xG D cs ad) q below args s) (F0 m 95 ls []) := by
  unfold n_X3_readLine_41_1_b95 at h
  obtain ⟨hx, hb, hml, hown, hts, hret, hlk⟩ := id C
  refine lv_aload_n hx hb dX3_readLine_95 rfl (lv_at hl 0 rfl) ?_
  refine xg_41_1 C hW fl_X3_11 dX3_readLine_96 ?_
  refine lv_iload_n hx hb dX3_readLine_99 rfl (lv_at hl 2 rfl) ?_
  refine lv_aload_n hx hb dX3_readLine_100 rfl (lv_at hl 1 rfl) ?_
  refine zz_callVi (As := []) C hW h (fun r hr => c_X8_takeCode_1 hr) lk_X3_71 (hW.recv xr_1) rfl hl.1 ⟨rfl, rfl⟩ ⟨Nat.le_of_ble_eq_true rfl, Nat.le_of_ble_eq_true rfl⟩ (Nat.le_of_ble_eq_true rfl) ⟨Nat.zero_le _, Nat.zero_le _⟩ rfl dX3_readLine_101 (fun v2 S1 H locs h hW => ?_)
  refine xs_42 C hW h dX3_readLine_104 (fun S3 H locs h hW => ?_)
  refine lv_aload_n hx hb dX3_readLine_105 rfl (lv_at hl 0 rfl) ?_
  refine xg_41_1 C hW fl_X3_11 dX3_readLine_106 ?_
  refine lv_iload_n hx hb dX3_readLine_109 rfl (lv_at hl 2 rfl) ?_
  refine xl_42 C hW h dX3_readLine_110 (fun v4 h => ?_)
  refine lv_iconst (v := -1) hx hb dX3_readLine_111 (by decide) ?_
  refine zz_ceq (tgt := 119) C h dX3_readLine_112 (by decide) (fun h => ?_) (fun h => ?_)
  · refine lv_iconst (v := 0) hx hb dX3_readLine_119 (by decide) ?_
    exact w_X3_readLine_41_1_b120 (F := F) C h hW (lv_sub hl [] rfl)
  · refine lv_iconst (v := 1) hx hb dX3_readLine_115 (by decide) ?_
    refine lv_goto (tgt := 120) hx hb dX3_readLine_116 (by decide) ?_
    exact w_X3_readLine_41_1_b120 (F := F) C h hW (lv_sub hl [] rfl)
def n_X3_readLine_41_1_e (F : Nat)  (S : Zs) (x2 : Int32) : Option (Int32 × Zs) :=
  zcl (n_X8_takeWithin_1 F S (48 : Int32) (51 : Int32)) (fun v2 S1 => zst S1 43 40 x2 v2 (fun S3 => zld S3 43 40 x2 (fun v4 => if v4 = (-1 : Int32) then (n_X3_readLine_41_1_b33 F  S3 ) else (zcl (n_X8_take_1 F S3 (58 : Int32)) (fun v6 S5 => if v6 = 0 then (n_X3_readLine_41_1_b33 F  S5 ) else (zcl (n_X8_takeNumber_1 F S5 ) (fun v8 S7 => zst S7 44 40 x2 v8 (fun S9 => zld S9 44 40 x2 (fun v10 => if v10 = (-1 : Int32) then (zrb (0 : Int32) S9) else (zst S9 45 40 x2 (-1 : Int32) (fun S11 => zcl (n_X8_take_1 F S11 (43 : Int32)) (fun v13 S12 => if v13 = 0 then (n_X3_readLine_41_1_b95 F  S12 x2) else (zcl (n_X8_takeNumber_1 F S12 ) (fun v15 S14 => zst S14 45 40 x2 v15 (fun S16 => zld S16 45 40 x2 (fun v17 => if v17 = (-1 : Int32) then (zrb (0 : Int32) S16) else (n_X3_readLine_41_1_b95 F  S16 x2)))))))))))))))))
set_option maxRecDepth 20000 in
set_option maxHeartbeats 4000000 in
theorem w_X3_readLine_41_1_e {F : Nat} {q : (Int32 × Zs)} {S : Zs}  {x2 : Int32} {ls : Array Slot} {H : Heap} {locs : List Loc} (C : zC p s m args meth c cX3_readLine 3 RX3 (some .boolean))  (h : n_X3_readLine_41_1_e F  S x2 = some q) (hW : zW (xG D cs ad) s S H locs) (hl : lv_has ls 3 [(0, .ref (ad 41)), (1, .ref (ad 1)), (2, .int x2)]) : W p l e (zR 4 88) s m args below meth c H locs 0 0 (zQi (xG D cs ad) q below args s) (F0 m 0 ls []) := by
  unfold n_X3_readLine_41_1_e at h
  obtain ⟨hx, hb, hml, hown, hts, hret, hlk⟩ := id C
  refine lv_aload_n hx hb dX3_readLine_0 rfl (lv_at hl 0 rfl) ?_
  refine xg_41_2 C hW fl_X3_15 dX3_readLine_1 ?_
  refine lv_iload_n hx hb dX3_readLine_4 rfl (lv_at hl 2 rfl) ?_
  refine lv_aload_n hx hb dX3_readLine_5 rfl (lv_at hl 1 rfl) ?_
  refine lv_bipush (v := 48) hx hb dX3_readLine_6 (by decide) ?_
  refine lv_bipush (v := 51) hx hb dX3_readLine_8 (by decide) ?_
  refine zz_callVi (As := [.int (48 : Int32), .int (51 : Int32)]) C hW h (fun r hr => c_X8_takeWithin_1 hr) lk_X3_64 (hW.recv xr_1) rfl hl.1 ⟨rfl, rfl⟩ ⟨Nat.le_of_ble_eq_true rfl, Nat.le_of_ble_eq_true rfl⟩ (Nat.le_of_ble_eq_true rfl) ⟨Nat.zero_le _, Nat.zero_le _⟩ rfl dX3_readLine_10 (fun v2 S1 H locs h hW => ?_)
  refine xs_43 C hW h dX3_readLine_13 (fun S3 H locs h hW => ?_)
  refine lv_aload_n hx hb dX3_readLine_14 rfl (lv_at hl 0 rfl) ?_
  refine xg_41_2 C hW fl_X3_15 dX3_readLine_15 ?_
  refine lv_iload_n hx hb dX3_readLine_18 rfl (lv_at hl 2 rfl) ?_
  refine xl_43 C hW h dX3_readLine_19 (fun v4 h => ?_)
  refine lv_iconst (v := -1) hx hb dX3_readLine_20 (by decide) ?_
  refine zz_ceq (tgt := 33) C h dX3_readLine_21 (by decide) (fun h => ?_) (fun h => ?_)
  · exact w_X3_readLine_41_1_b33 (F := F) C h hW (lv_sub hl [] rfl)
  · refine lv_aload_n hx hb dX3_readLine_24 rfl (lv_at hl 1 rfl) ?_
    refine lv_bipush (v := 58) hx hb dX3_readLine_25 (by decide) ?_
    refine zz_callVi (As := [.int (58 : Int32)]) C hW h (fun r hr => c_X8_take_1 hr) lk_X3_60 (hW.recv xr_1) rfl hl.1 ⟨rfl, rfl⟩ ⟨Nat.le_of_ble_eq_true rfl, Nat.le_of_ble_eq_true rfl⟩ (Nat.le_of_ble_eq_true rfl) ⟨Nat.zero_le _, Nat.zero_le _⟩ rfl dX3_readLine_27 (fun v6 S5 H locs h hW => ?_)
    refine zz_ine (tgt := 35) C h dX3_readLine_30 (by decide) (fun h => ?_) (fun h => ?_)
    · refine lv_aload_n hx hb dX3_readLine_35 rfl (lv_at hl 0 rfl) ?_
      refine xg_41_3 C hW fl_X3_18 dX3_readLine_36 ?_
      refine lv_iload_n hx hb dX3_readLine_39 rfl (lv_at hl 2 rfl) ?_
      refine lv_aload_n hx hb dX3_readLine_40 rfl (lv_at hl 1 rfl) ?_
      refine zz_callVi (As := []) C hW h (fun r hr => c_X8_takeNumber_1 hr) lk_X3_68 (hW.recv xr_1) rfl hl.1 ⟨rfl, rfl⟩ ⟨Nat.le_of_ble_eq_true rfl, Nat.le_of_ble_eq_true rfl⟩ (Nat.le_of_ble_eq_true rfl) ⟨Nat.zero_le _, Nat.zero_le _⟩ rfl dX3_readLine_41 (fun v8 S7 H locs h hW => ?_)
      refine xs_44 C hW h dX3_readLine_44 (fun S9 H locs h hW => ?_)
      refine lv_aload_n hx hb dX3_readLine_45 rfl (lv_at hl 0 rfl) ?_
      refine xg_41_3 C hW fl_X3_18 dX3_readLine_46 ?_
      refine lv_iload_n hx hb dX3_readLine_49 rfl (lv_at hl 2 rfl) ?_
      refine xl_44 C hW h dX3_readLine_50 (fun v10 h => ?_)
      refine lv_iconst (v := -1) hx hb dX3_readLine_51 (by decide) ?_
      refine zz_cne (tgt := 57) C h dX3_readLine_52 (by decide) (fun h => ?_) (fun h => ?_)
      · refine lv_aload_n hx hb dX3_readLine_57 rfl (lv_at hl 0 rfl) ?_
        refine xg_41_4 C hW fl_X3_21 dX3_readLine_58 ?_
        refine lv_iload_n hx hb dX3_readLine_61 rfl (lv_at hl 2 rfl) ?_
        refine lv_iconst (v := -1) hx hb dX3_readLine_62 (by decide) ?_
        refine xs_45 C hW h dX3_readLine_63 (fun S11 H locs h hW => ?_)
        refine lv_aload_n hx hb dX3_readLine_64 rfl (lv_at hl 1 rfl) ?_
        refine lv_bipush (v := 43) hx hb dX3_readLine_65 (by decide) ?_
        refine zz_callVi (As := [.int (43 : Int32)]) C hW h (fun r hr => c_X8_take_1 hr) lk_X3_60 (hW.recv xr_1) rfl hl.1 ⟨rfl, rfl⟩ ⟨Nat.le_of_ble_eq_true rfl, Nat.le_of_ble_eq_true rfl⟩ (Nat.le_of_ble_eq_true rfl) ⟨Nat.zero_le _, Nat.zero_le _⟩ rfl dX3_readLine_67 (fun v13 S12 H locs h hW => ?_)
        refine zz_ieq (tgt := 95) C h dX3_readLine_70 (by decide) (fun h => ?_) (fun h => ?_)
        · exact w_X3_readLine_41_1_b95 (F := F) C h hW (lv_sub hl [0, 1, 2] rfl)
        · refine lv_aload_n hx hb dX3_readLine_73 rfl (lv_at hl 0 rfl) ?_
          refine xg_41_4 C hW fl_X3_21 dX3_readLine_74 ?_
          refine lv_iload_n hx hb dX3_readLine_77 rfl (lv_at hl 2 rfl) ?_
          refine lv_aload_n hx hb dX3_readLine_78 rfl (lv_at hl 1 rfl) ?_
          refine zz_callVi (As := []) C hW h (fun r hr => c_X8_takeNumber_1 hr) lk_X3_68 (hW.recv xr_1) rfl hl.1 ⟨rfl, rfl⟩ ⟨Nat.le_of_ble_eq_true rfl, Nat.le_of_ble_eq_true rfl⟩ (Nat.le_of_ble_eq_true rfl) ⟨Nat.zero_le _, Nat.zero_le _⟩ rfl dX3_readLine_79 (fun v15 S14 H locs h hW => ?_)
          refine xs_45 C hW h dX3_readLine_82 (fun S16 H locs h hW => ?_)
          refine lv_aload_n hx hb dX3_readLine_83 rfl (lv_at hl 0 rfl) ?_
          refine xg_41_4 C hW fl_X3_21 dX3_readLine_84 ?_
          refine lv_iload_n hx hb dX3_readLine_87 rfl (lv_at hl 2 rfl) ?_
          refine xl_45 C hW h dX3_readLine_88 (fun v17 h => ?_)
          refine lv_iconst (v := -1) hx hb dX3_readLine_89 (by decide) ?_
          refine zz_cne (tgt := 95) C h dX3_readLine_90 (by decide) (fun h => ?_) (fun h => ?_)
          · exact w_X3_readLine_41_1_b95 (F := F) C h hW (lv_sub hl [0, 1, 2] rfl)
          · refine lv_iconst (v := 0) hx hb dX3_readLine_93 (by decide) ?_
            exact zz_zret C rfl h hW dX3_readLine_94
      · refine lv_iconst (v := 0) hx hb dX3_readLine_55 (by decide) ?_
        exact zz_zret C rfl h hW dX3_readLine_56
    · exact w_X3_readLine_41_1_b33 (F := F) C h hW (lv_sub hl [] rfl)
def n_X3_readLine_41_1 (F : Nat) (S : Zs) (x2 : Int32) : Option (Int32 × Zs) := n_X3_readLine_41_1_e F  S x2
theorem c_X3_readLine_41_1 {l : Launch} {D : va_G} {cs ad : Nat → Nat} {F : Nat} {S : Zs} {x2 : Int32} {q : (Int32 × Zs)} (h : n_X3_readLine_41_1 F S x2 = some q) : zMi l yX3_readLine cX3_readLine 3 (some .boolean) (zR 4 88) (xG D cs ad) [.ref (ad 41), .ref (ad 1), .int x2] S q :=
  zz_enter (by decide) (Nat.le_of_ble_eq_true rfl) (fun p e s m below meth c ls C hW hl => w_X3_readLine_41_1_e (F := F) C h hW (lv_sub hl [0, 1, 2] rfl))
def n_X3_read_41_1_b79 (F : Nat)  (S : Zs) (t0 : Int32) : Option (Int32 × Zs) :=
  some (t0, S)
set_option maxRecDepth 20000 in
set_option maxHeartbeats 4000000 in
theorem w_X3_read_41_1_b79 {F : Nat} {q : (Int32 × Zs)} {S : Zs}  {t0 : Int32} {ls : Array Slot} {H : Heap} {locs : List Loc} (C : zC p s m args meth c cX3_read 4 RX3 (some .int))  (h : n_X3_read_41_1_b79 F  S t0 = some q) (hW : zW (xG D cs ad) s S H locs) (hl : lv_has ls 4 []) : W p l e (zR 5 110) s m args below meth c H locs 0 0 (zQi (xG D cs ad) q below args s) (F0 m 79 ls [.int t0]) := by
  unfold n_X3_read_41_1_b79 at h
  obtain ⟨hx, hb, hml, hown, hts, hret, hlk⟩ := id C
  exact zz_iret C rfl h hW dX3_read_79
def n_X3_read_41_1_b59 (F : Nat)  (S : Zs) (x2 : Int32) : Option (Int32 × Zs) :=
  zcl (n_X8_isRead_1 F S ) (fun v2 S1 => if v2 = 0 then (zcl (n_X8_wrong_1 F S1 ) (fun v4 S3 => n_X3_read_41_1_b79 F  S3 v4)) else (zgf S1 826 (fun v5 => n_X3_read_41_1_b79 F  S1 (x2 - v5))))
set_option maxRecDepth 20000 in
set_option maxHeartbeats 4000000 in
theorem w_X3_read_41_1_b59 {F : Nat} {q : (Int32 × Zs)} {S : Zs}  {x2 : Int32} {ls : Array Slot} {H : Heap} {locs : List Loc} (C : zC p s m args meth c cX3_read 4 RX3 (some .int))  (h : n_X3_read_41_1_b59 F  S x2 = some q) (hW : zW (xG D cs ad) s S H locs) (hl : lv_has ls 4 [(0, .ref (ad 41)), (1, .ref (ad 1)), (2, .int x2)]) : W p l e (zR 5 110) s m args below meth c H locs 0 0 (zQi (xG D cs ad) q below args s) (F0 m 59 ls []) := by
  unfold n_X3_read_41_1_b59 at h
  obtain ⟨hx, hb, hml, hown, hts, hret, hlk⟩ := id C
  refine lv_aload_n hx hb dX3_read_59 rfl (lv_at hl 1 rfl) ?_
  refine zz_callVi (As := []) C hW h (fun r hr => c_X8_isRead_1 hr) lk_X3_48 (hW.recv xr_1) rfl hl.1 ⟨rfl, rfl⟩ ⟨Nat.le_of_ble_eq_true rfl, Nat.le_of_ble_eq_true rfl⟩ (Nat.le_of_ble_eq_true rfl) ⟨Nat.zero_le _, Nat.zero_le _⟩ rfl dX3_read_60 (fun v2 S1 H locs h hW => ?_)
  refine zz_ieq (tgt := 75) C h dX3_read_63 (by decide) (fun h => ?_) (fun h => ?_)
  · refine lv_aload_n hx hb dX3_read_75 rfl (lv_at hl 1 rfl) ?_
    refine zz_callVi (As := []) C hW h (fun r hr => c_X8_wrong_1 hr) lk_X3_56 (hW.recv xr_1) rfl hl.1 ⟨rfl, rfl⟩ ⟨Nat.le_of_ble_eq_true rfl, Nat.le_of_ble_eq_true rfl⟩ (Nat.le_of_ble_eq_true rfl) ⟨Nat.zero_le _, Nat.zero_le _⟩ rfl dX3_read_76 (fun v4 S3 H locs h hW => ?_)
    exact w_X3_read_41_1_b79 (F := F) C h hW (lv_sub hl [] rfl)
  · refine lv_iload_n hx hb dX3_read_66 rfl (lv_at hl 2 rfl) ?_
    refine lv_aload_n hx hb dX3_read_67 rfl (lv_at hl 0 rfl) ?_
    refine xg_41_6 C hW h fl_X3_35 dX3_read_68 (fun v5 h => ?_)
    refine lv_isub hx hb dX3_read_71 ?_
    refine lv_goto (tgt := 79) hx hb dX3_read_72 (by decide) ?_
    exact w_X3_read_41_1_b79 (F := F) C h hW (lv_sub hl [] rfl)
def n_X3_read_41_1_b22_l (F : Nat) (rc22 : Zs → Int32 → Int32 → Option (Int32 × Zs)) (S : Zs) (x2 : Int32) (x3 : Int32) : Option (Int32 × Zs) :=
  if x3 = 0 then (n_X3_read_41_1_b59 F  S x2) else (if (40 : Int32) ≤ x2 then (n_X3_read_41_1_b59 F  S x2) else (zcl (n_X3_readLine_41_1 F S x2) (fun v2 S1 => if v2 = 0 then (zcl (n_X8_wrong_1 F S1 ) (fun v7 S6 => some (v7, S6))) else (zlet (x2 + (1 : Int32)) (fun v3 => zcl (n_X8_take_1 F S1 (59 : Int32)) (fun v5 S4 => rc22 S4 v3 v5))))))
set_option maxRecDepth 20000 in
set_option maxHeartbeats 4000000 in
theorem w_X3_read_41_1_b22_l {F : Nat} {q : (Int32 × Zs)} {S : Zs} {rc22 : Zs → Int32 → Int32 → Option (Int32 × Zs)} {x2 : Int32} {x3 : Int32} {ls : Array Slot} {H : Heap} {locs : List Loc} (C : zC p s m args meth c cX3_read 4 RX3 (some .int)) (hrc22 : ∀ (S : Zs) (x2 : Int32) (x3 : Int32) (H : Heap) (locs : List Loc) (ls : Array Slot), rc22 S x2 x3 = some q → zW (xG D cs ad) s S H locs → lv_has ls 4 [(0, .ref (ad 41)), (1, .ref (ad 1)), (2, .int x2), (3, .int x3)] → W p l e (zR 5 110) s m args below meth c H locs 0 0 (zQi (xG D cs ad) q below args s) (F0 m 22 ls [])) (h : n_X3_read_41_1_b22_l F rc22 S x2 x3 = some q) (hW : zW (xG D cs ad) s S H locs) (hl : lv_has ls 4 [(0, .ref (ad 41)), (1, .ref (ad 1)), (2, .int x2), (3, .int x3)]) : W p l e (zR 5 110) s m args below meth c H locs 0 0 (zQi (xG D cs ad) q below args s) (F0 m 22 ls []) := by
  unfold n_X3_read_41_1_b22_l at h
  obtain ⟨hx, hb, hml, hown, hts, hret, hlk⟩ := id C
  refine lv_iload_n hx hb dX3_read_22 rfl (lv_at hl 3 rfl) ?_
  refine zz_ieq (tgt := 59) C h dX3_read_23 (by decide) (fun h => ?_) (fun h => ?_)
  · exact w_X3_read_41_1_b59 (F := F) C h hW (lv_sub hl [0, 1, 2] rfl)
  · refine lv_iload_n hx hb dX3_read_26 rfl (lv_at hl 2 rfl) ?_
    refine lv_bipush (v := 40) hx hb dX3_read_27 (by decide) ?_
    refine zz_cge (tgt := 59) C h dX3_read_29 (by decide) (fun h => ?_) (fun h => ?_)
    · exact w_X3_read_41_1_b59 (F := F) C h hW (lv_sub hl [0, 1, 2] rfl)
    · refine lv_aload_n hx hb dX3_read_32 rfl (lv_at hl 0 rfl) ?_
      refine lv_aload_n hx hb dX3_read_33 rfl (lv_at hl 1 rfl) ?_
      refine lv_iload_n hx hb dX3_read_34 rfl (lv_at hl 2 rfl) ?_
      refine zz_callVi (As := [.ref (ad 1), .int x2]) C hW h (fun r hr => c_X3_readLine_41_1 hr) lk_X3_52 (hW.recv xr_41) rfl hl.1 ⟨rfl, rfl⟩ ⟨Nat.le_of_ble_eq_true rfl, Nat.le_of_ble_eq_true rfl⟩ (Nat.le_of_ble_eq_true rfl) ⟨Nat.zero_le _, Nat.zero_le _⟩ rfl dX3_read_35 (fun v2 S1 H locs h hW => ?_)
      refine zz_ine (tgt := 46) C h dX3_read_38 (by decide) (fun h => ?_) (fun h => ?_)
      · obtain ⟨v3, ev3, h⟩ := zz_name h
        refine lv_iinc (v := v3) (lv' := [(2, .int v3), (0, .ref (ad 41)), (1, .ref (ad 1)), (3, .int x3)]) hx hb dX3_read_46 hl (k := 2) rfl ev3.symm (by decide) rfl (fun ls hl => ?_)
        refine lv_aload_n hx hb dX3_read_49 rfl (lv_at hl 2 rfl) ?_
        refine lv_bipush (v := 59) hx hb dX3_read_50 (by decide) ?_
        refine zz_callVi (As := [.int (59 : Int32)]) C hW h (fun r hr => c_X8_take_1 hr) lk_X3_60 (hW.recv xr_1) rfl hl.1 ⟨rfl, rfl⟩ ⟨Nat.le_of_ble_eq_true rfl, Nat.le_of_ble_eq_true rfl⟩ (Nat.le_of_ble_eq_true rfl) ⟨Nat.zero_le _, Nat.zero_le _⟩ rfl dX3_read_52 (fun v5 S4 H locs h hW => ?_)
        refine lv_istore_n (lv' := [(3, .int v5), (2, .int v3), (0, .ref (ad 41)), (1, .ref (ad 1))]) hx hb dX3_read_55 rfl hl (by decide) rfl (fun ls hl => ?_)
        refine lv_goto (tgt := 22) hx hb dX3_read_56 (by decide) ?_
        exact hrc22 _ _ _ _ _ _ h hW (lv_sub hl [2, 3, 1, 0] rfl)
      · refine lv_aload_n hx hb dX3_read_41 rfl (lv_at hl 1 rfl) ?_
        refine zz_callVi (As := []) C hW h (fun r hr => c_X8_wrong_1 hr) lk_X3_56 (hW.recv xr_1) rfl hl.1 ⟨rfl, rfl⟩ ⟨Nat.le_of_ble_eq_true rfl, Nat.le_of_ble_eq_true rfl⟩ (Nat.le_of_ble_eq_true rfl) ⟨Nat.zero_le _, Nat.zero_le _⟩ rfl dX3_read_42 (fun v7 S6 H locs h hW => ?_)
        exact zz_iret C rfl h hW dX3_read_45
def n_X3_read_41_1_b22 (F : Nat)  (S : Zs) (x2 : Int32) (x3 : Int32) : Option (Int32 × Zs) :=
  zfix (fun (rc : (Zs × Int32 × Int32) → Option (Int32 × Zs)) (u : (Zs × Int32 × Int32)) => n_X3_read_41_1_b22_l F  (fun S x2 x3 => rc (S, x2, x3)) u.1 u.2.1 u.2.2) F (S, x2, x3)
theorem w_X3_read_41_1_b22 {F : Nat} {q : (Int32 × Zs)}  (C : zC p s m args meth c cX3_read 4 RX3 (some .int))  : ∀ (n : Nat) (S : Zs) (x2 : Int32) (x3 : Int32) (H : Heap) (locs : List Loc) (ls : Array Slot), zfix (fun (rc : (Zs × Int32 × Int32) → Option (Int32 × Zs)) (u : (Zs × Int32 × Int32)) => n_X3_read_41_1_b22_l F  (fun S x2 x3 => rc (S, x2, x3)) u.1 u.2.1 u.2.2) n (S, x2, x3) = some q → zW (xG D cs ad) s S H locs → lv_has ls 4 [(0, .ref (ad 41)), (1, .ref (ad 1)), (2, .int x2), (3, .int x3)] → W p l e (zR 5 110) s m args below meth c H locs 0 0 (zQi (xG D cs ad) q below args s) (F0 m 22 ls []) := by
  intro n
  induction n with
  | zero => intro S x2 x3 H locs ls h; exact absurd h (fun h => by cases h)
  | succ n ih => intro S x2 x3 H locs ls h hW hl; exact w_X3_read_41_1_b22_l (F := F) C (fun S x2 x3 H locs ls h hW hl => ih S x2 x3 H locs ls h hW hl) h hW hl
def n_X3_read_41_1_b21 (F : Nat)  (S : Zs) (x2 : Int32) (t0 : Int32) : Option (Int32 × Zs) :=
  n_X3_read_41_1_b22 F  S x2 t0
set_option maxRecDepth 20000 in
set_option maxHeartbeats 4000000 in
theorem w_X3_read_41_1_b21 {F : Nat} {q : (Int32 × Zs)} {S : Zs}  {x2 : Int32} {t0 : Int32} {ls : Array Slot} {H : Heap} {locs : List Loc} (C : zC p s m args meth c cX3_read 4 RX3 (some .int))  (h : n_X3_read_41_1_b21 F  S x2 t0 = some q) (hW : zW (xG D cs ad) s S H locs) (hl : lv_has ls 4 [(0, .ref (ad 41)), (1, .ref (ad 1)), (2, .int x2)]) : W p l e (zR 5 110) s m args below meth c H locs 0 0 (zQi (xG D cs ad) q below args s) (F0 m 21 ls [.int t0]) := by
  unfold n_X3_read_41_1_b21 at h
  obtain ⟨hx, hb, hml, hown, hts, hret, hlk⟩ := id C
  refine lv_istore_n (lv' := [(3, .int t0), (0, .ref (ad 41)), (1, .ref (ad 1)), (2, .int x2)]) hx hb dX3_read_21 rfl hl (by decide) rfl (fun ls hl => ?_)
  exact w_X3_read_41_1_b22 (F := F) C F _ _ _ _ _ _ h hW (lv_sub hl [1, 2, 3, 0] rfl)
def n_X3_read_41_1_e (F : Nat)  (S : Zs)  : Option (Int32 × Zs) :=
  zcl (n_X8_open_1 F S ) (fun v2 S1 => zgf S1 826 (fun v3 => zcl (n_X8_isRead_1 F S1 ) (fun v5 S4 => if v5 = 0 then (n_X3_read_41_1_b21 F  S4 v3 (1 : Int32)) else (n_X3_read_41_1_b21 F  S4 v3 (0 : Int32)))))
set_option maxRecDepth 20000 in
set_option maxHeartbeats 4000000 in
theorem w_X3_read_41_1_e {F : Nat} {q : (Int32 × Zs)} {S : Zs}   {ls : Array Slot} {H : Heap} {locs : List Loc} (C : zC p s m args meth c cX3_read 4 RX3 (some .int))  (h : n_X3_read_41_1_e F  S  = some q) (hW : zW (xG D cs ad) s S H locs) (hl : lv_has ls 4 [(0, .ref (ad 41)), (1, .ref (ad 1))]) : W p l e (zR 5 110) s m args below meth c H locs 0 0 (zQi (xG D cs ad) q below args s) (F0 m 0 ls []) := by
  unfold n_X3_read_41_1_e at h
  obtain ⟨hx, hb, hml, hown, hts, hret, hlk⟩ := id C
  refine lv_aload_n hx hb dX3_read_0 rfl (lv_at hl 1 rfl) ?_
  refine zz_callVv (As := []) C hW h (fun r hr => c_X8_open_1 hr) lk_X3_43 (hW.recv xr_1) rfl hl.1 ⟨rfl, rfl⟩ ⟨Nat.le_of_ble_eq_true rfl, Nat.le_of_ble_eq_true rfl⟩ (Nat.le_of_ble_eq_true rfl) ⟨Nat.zero_le _, Nat.zero_le _⟩ rfl dX3_read_1 (fun v2 S1 H locs h hW => ?_)
  refine lv_aload_n hx hb dX3_read_4 rfl (lv_at hl 0 rfl) ?_
  refine xg_41_6 C hW h fl_X3_35 dX3_read_5 (fun v3 h => ?_)
  refine lv_istore_n (lv' := [(2, .int v3), (0, .ref (ad 41)), (1, .ref (ad 1))]) hx hb dX3_read_8 rfl hl (by decide) rfl (fun ls hl => ?_)
  refine lv_aload_n hx hb dX3_read_9 rfl (lv_at hl 2 rfl) ?_
  refine zz_callVi (As := []) C hW h (fun r hr => c_X8_isRead_1 hr) lk_X3_48 (hW.recv xr_1) rfl hl.1 ⟨rfl, rfl⟩ ⟨Nat.le_of_ble_eq_true rfl, Nat.le_of_ble_eq_true rfl⟩ (Nat.le_of_ble_eq_true rfl) ⟨Nat.zero_le _, Nat.zero_le _⟩ rfl dX3_read_10 (fun v5 S4 H locs h hW => ?_)
  refine zz_ine (tgt := 20) C h dX3_read_13 (by decide) (fun h => ?_) (fun h => ?_)
  · refine lv_iconst (v := 0) hx hb dX3_read_20 (by decide) ?_
    exact w_X3_read_41_1_b21 (F := F) C h hW (lv_sub hl [1, 2, 0] rfl)
  · refine lv_iconst (v := 1) hx hb dX3_read_16 (by decide) ?_
    refine lv_goto (tgt := 21) hx hb dX3_read_17 (by decide) ?_
    exact w_X3_read_41_1_b21 (F := F) C h hW (lv_sub hl [1, 2, 0] rfl)
def n_X3_read_41_1 (F : Nat) (S : Zs)  : Option (Int32 × Zs) := n_X3_read_41_1_e F  S 
theorem c_X3_read_41_1 {l : Launch} {D : va_G} {cs ad : Nat → Nat} {F : Nat} {S : Zs}  {q : (Int32 × Zs)} (h : n_X3_read_41_1 F S  = some q) : zMi l yX3_read cX3_read 4 (some .int) (zR 5 110) (xG D cs ad) [.ref (ad 41), .ref (ad 1)] S q :=
  zz_enter (by decide) (Nat.le_of_ble_eq_true rfl) (fun p e s m below meth c ls C hW hl => w_X3_read_41_1_e (F := F) C h hW (lv_sub hl [0, 1] rfl))
def n_X3_isKnown_41_b30 (F : Nat)  (S : Zs) (t0 : Int32) : Option (Int32 × Zs) :=
  zrb t0 S
set_option maxRecDepth 20000 in
set_option maxHeartbeats 4000000 in
theorem w_X3_isKnown_41_b30 {F : Nat} {q : (Int32 × Zs)} {S : Zs}  {t0 : Int32} {ls : Array Slot} {H : Heap} {locs : List Loc} (C : zC p s m args meth c cX3_isKnown 3 RX3 (some .boolean))  (h : n_X3_isKnown_41_b30 F  S t0 = some q) (hW : zW (xG D cs ad) s S H locs) (hl : lv_has ls 3 []) : W p l e (zR 1 21) s m args below meth c H locs 0 0 (zQi (xG D cs ad) q below args s) (F0 m 30 ls [.int t0]) := by
  unfold n_X3_isKnown_41_b30 at h
  obtain ⟨hx, hb, hml, hown, hts, hret, hlk⟩ := id C
  exact zz_zret C rfl h hW dX3_isKnown_30
def n_X3_isKnown_41_e (F : Nat)  (S : Zs) (x1 : Int32) (x2 : Int32) : Option (Int32 × Zs) :=
  if (16 : Int32) ≤ x1 then (if x2 ≤ (x1 - (16 : Int32)) then (n_X3_isKnown_41_b30 F  S (0 : Int32)) else (n_X3_isKnown_41_b30 F  S (1 : Int32))) else (zcl (n_X2_isActive_3 F S x1) (fun v2 S1 => n_X3_isKnown_41_b30 F  S1 v2))
set_option maxRecDepth 20000 in
set_option maxHeartbeats 4000000 in
theorem w_X3_isKnown_41_e {F : Nat} {q : (Int32 × Zs)} {S : Zs}  {x1 : Int32} {x2 : Int32} {ls : Array Slot} {H : Heap} {locs : List Loc} (C : zC p s m args meth c cX3_isKnown 3 RX3 (some .boolean))  (h : n_X3_isKnown_41_e F  S x1 x2 = some q) (hW : zW (xG D cs ad) s S H locs) (hl : lv_has ls 3 [(0, .ref (ad 41)), (1, .int x1), (2, .int x2)]) : W p l e (zR 1 21) s m args below meth c H locs 0 0 (zQi (xG D cs ad) q below args s) (F0 m 0 ls []) := by
  unfold n_X3_isKnown_41_e at h
  obtain ⟨hx, hb, hml, hown, hts, hret, hlk⟩ := id C
  refine lv_iload_n hx hb dX3_isKnown_0 rfl (lv_at hl 1 rfl) ?_
  refine lv_bipush (v := 16) hx hb dX3_isKnown_1 (by decide) ?_
  refine zz_cge (tgt := 17) C h dX3_isKnown_3 (by decide) (fun h => ?_) (fun h => ?_)
  · refine lv_iload_n hx hb dX3_isKnown_17 rfl (lv_at hl 1 rfl) ?_
    refine lv_bipush (v := 16) hx hb dX3_isKnown_18 (by decide) ?_
    refine lv_isub hx hb dX3_isKnown_20 ?_
    refine lv_iload_n hx hb dX3_isKnown_21 rfl (lv_at hl 2 rfl) ?_
    refine zz_cge (tgt := 29) C h dX3_isKnown_22 (by decide) (fun h => ?_) (fun h => ?_)
    · refine lv_iconst (v := 0) hx hb dX3_isKnown_29 (by decide) ?_
      exact w_X3_isKnown_41_b30 (F := F) C h hW (lv_sub hl [] rfl)
    · refine lv_iconst (v := 1) hx hb dX3_isKnown_25 (by decide) ?_
      refine lv_goto (tgt := 30) hx hb dX3_isKnown_26 (by decide) ?_
      exact w_X3_isKnown_41_b30 (F := F) C h hW (lv_sub hl [] rfl)
  · refine lv_aload_n hx hb dX3_isKnown_6 rfl (lv_at hl 0 rfl) ?_
    refine xg_41_0 C hW fl_X3_27 dX3_isKnown_7 ?_
    refine lv_iload_n hx hb dX3_isKnown_10 rfl (lv_at hl 1 rfl) ?_
    refine zz_callVi (As := [.int x1]) C hW h (fun r hr => c_X2_isActive_3 hr) lk_X3_92 (hW.recv xr_3) rfl hl.1 ⟨rfl, rfl⟩ ⟨Nat.le_of_ble_eq_true rfl, Nat.le_of_ble_eq_true rfl⟩ (Nat.le_of_ble_eq_true rfl) ⟨Nat.zero_le _, Nat.zero_le _⟩ rfl dX3_isKnown_11 (fun v2 S1 H locs h hW => ?_)
    refine lv_goto (tgt := 30) hx hb dX3_isKnown_14 (by decide) ?_
    exact w_X3_isKnown_41_b30 (F := F) C h hW (lv_sub hl [] rfl)
def n_X3_isKnown_41 (F : Nat) (S : Zs) (x1 : Int32) (x2 : Int32) : Option (Int32 × Zs) := n_X3_isKnown_41_e F  S x1 x2
theorem c_X3_isKnown_41 {l : Launch} {D : va_G} {cs ad : Nat → Nat} {F : Nat} {S : Zs} {x1 : Int32} {x2 : Int32} {q : (Int32 × Zs)} (h : n_X3_isKnown_41 F S x1 x2 = some q) : zMi l yX3_isKnown cX3_isKnown 3 (some .boolean) (zR 1 21) (xG D cs ad) [.ref (ad 41), .int x1, .int x2] S q :=
  zz_enter (by decide) (Nat.le_of_ble_eq_true rfl) (fun p e s m below meth c ls C hW hl => w_X3_isKnown_41_e (F := F) C h hW (lv_sub hl [0, 1, 2] rfl))
def n_X3_codeOf_41_b27 (F : Nat)  (S : Zs) (t0 : Int32) : Option (Int32 × Zs) :=
  some (t0, S)
set_option maxRecDepth 20000 in
set_option maxHeartbeats 4000000 in
theorem w_X3_codeOf_41_b27 {F : Nat} {q : (Int32 × Zs)} {S : Zs}  {t0 : Int32} {ls : Array Slot} {H : Heap} {locs : List Loc} (C : zC p s m args meth c cX3_codeOf 2 RX3 (some .int))  (h : n_X3_codeOf_41_b27 F  S t0 = some q) (hW : zW (xG D cs ad) s S H locs) (hl : lv_has ls 2 []) : W p l e (zR 0 0) s m args below meth c H locs 0 0 (zQi (xG D cs ad) q below args s) (F0 m 27 ls [.int t0]) := by
  unfold n_X3_codeOf_41_b27 at h
  obtain ⟨hx, hb, hml, hown, hts, hret, hlk⟩ := id C
  exact zz_iret C rfl h hW dX3_codeOf_27
def n_X3_codeOf_41_e (F : Nat)  (S : Zs) (x1 : Int32) : Option (Int32 × Zs) :=
  if (16 : Int32) ≤ x1 then (zld S 42 40 (x1 - (16 : Int32)) (fun v1 => n_X3_codeOf_41_b27 F  S v1)) else (zld S 4 16 x1 (fun v2 => n_X3_codeOf_41_b27 F  S v2))
set_option maxRecDepth 20000 in
set_option maxHeartbeats 4000000 in
theorem w_X3_codeOf_41_e {F : Nat} {q : (Int32 × Zs)} {S : Zs}  {x1 : Int32} {ls : Array Slot} {H : Heap} {locs : List Loc} (C : zC p s m args meth c cX3_codeOf 2 RX3 (some .int))  (h : n_X3_codeOf_41_e F  S x1 = some q) (hW : zW (xG D cs ad) s S H locs) (hl : lv_has ls 2 [(0, .ref (ad 41)), (1, .int x1)]) : W p l e (zR 0 0) s m args below meth c H locs 0 0 (zQi (xG D cs ad) q below args s) (F0 m 0 ls []) := by
  unfold n_X3_codeOf_41_e at h
  obtain ⟨hx, hb, hml, hown, hts, hret, hlk⟩ := id C
  refine lv_iload_n hx hb dX3_codeOf_0 rfl (lv_at hl 1 rfl) ?_
  refine lv_bipush (v := 16) hx hb dX3_codeOf_1 (by decide) ?_
  refine zz_cge (tgt := 18) C h dX3_codeOf_3 (by decide) (fun h => ?_) (fun h => ?_)
  · refine lv_aload_n hx hb dX3_codeOf_18 rfl (lv_at hl 0 rfl) ?_
    refine xg_41_1 C hW fl_X3_11 dX3_codeOf_19 ?_
    refine lv_iload_n hx hb dX3_codeOf_22 rfl (lv_at hl 1 rfl) ?_
    refine lv_bipush (v := 16) hx hb dX3_codeOf_23 (by decide) ?_
    refine lv_isub hx hb dX3_codeOf_25 ?_
    refine xl_42 C hW h dX3_codeOf_26 (fun v1 h => ?_)
    exact w_X3_codeOf_41_b27 (F := F) C h hW (lv_sub hl [] rfl)
  · refine lv_aload_n hx hb dX3_codeOf_6 rfl (lv_at hl 0 rfl) ?_
    refine xg_41_0 C hW fl_X3_27 dX3_codeOf_7 ?_
    refine xg_3_0 C hW fl_X3_98 dX3_codeOf_10 ?_
    refine lv_iload_n hx hb dX3_codeOf_13 rfl (lv_at hl 1 rfl) ?_
    refine xl_4 C hW h dX3_codeOf_14 (fun v2 h => ?_)
    refine lv_goto (tgt := 27) hx hb dX3_codeOf_15 (by decide) ?_
    exact w_X3_codeOf_41_b27 (F := F) C h hW (lv_sub hl [] rfl)
def n_X3_codeOf_41 (F : Nat) (S : Zs) (x1 : Int32) : Option (Int32 × Zs) := n_X3_codeOf_41_e F  S x1
theorem c_X3_codeOf_41 {l : Launch} {D : va_G} {cs ad : Nat → Nat} {F : Nat} {S : Zs} {x1 : Int32} {q : (Int32 × Zs)} (h : n_X3_codeOf_41 F S x1 = some q) : zMi l yX3_codeOf cX3_codeOf 2 (some .int) (zR 0 0) (xG D cs ad) [.ref (ad 41), .int x1] S q :=
  zz_enter (by decide) (Nat.le_of_ble_eq_true rfl) (fun p e s m below meth c ls C hW hl => w_X3_codeOf_41_e (F := F) C h hW (lv_sub hl [0, 1] rfl))
def n_X3_hasTermsOfTwo_b46 (F : Nat) (rc2 : Zs → Int32 → Int32 → Int32 → Int32 → Option (Int32 × Zs)) (S : Zs) (x0 : Int32) (x1 : Int32) (x2 : Int32) (x3 : Int32) : Option (Int32 × Zs) :=
  zlet (x3 + (1 : Int32)) (fun v1 => rc2 S x0 x1 x2 v1)
set_option maxRecDepth 20000 in
set_option maxHeartbeats 4000000 in
theorem w_X3_hasTermsOfTwo_b46 {F : Nat} {q : (Int32 × Zs)} {S : Zs} {rc2 : Zs → Int32 → Int32 → Int32 → Int32 → Option (Int32 × Zs)} {x0 : Int32} {x1 : Int32} {x2 : Int32} {x3 : Int32} {ls : Array Slot} {H : Heap} {locs : List Loc} (C : zC p s m args meth c cX3_hasTermsOfTwo 4 RX3 (some .boolean)) (hrc2 : ∀ (S : Zs) (x0 : Int32) (x1 : Int32) (x2 : Int32) (x3 : Int32) (H : Heap) (locs : List Loc) (ls : Array Slot), rc2 S x0 x1 x2 x3 = some q → zW (xG D cs ad) s S H locs → lv_has ls 4 [(0, .int x0), (1, .int x1), (2, .int x2), (3, .int x3)] → W p l e (zR 2 41) s m args below meth c H locs 0 0 (zQi (xG D cs ad) q below args s) (F0 m 2 ls [])) (h : n_X3_hasTermsOfTwo_b46 F rc2 S x0 x1 x2 x3 = some q) (hW : zW (xG D cs ad) s S H locs) (hl : lv_has ls 4 [(0, .int x0), (1, .int x1), (2, .int x2), (3, .int x3)]) : W p l e (zR 2 41) s m args below meth c H locs 0 0 (zQi (xG D cs ad) q below args s) (F0 m 46 ls []) := by
  unfold n_X3_hasTermsOfTwo_b46 at h
  obtain ⟨hx, hb, hml, hown, hts, hret, hlk⟩ := id C
  obtain ⟨v1, ev1, h⟩ := zz_name h
  refine lv_iinc (v := v1) (lv' := [(3, .int v1), (0, .int x0), (1, .int x1), (2, .int x2)]) hx hb dX3_hasTermsOfTwo_46 hl (k := 3) rfl ev1.symm (by decide) rfl (fun ls hl => ?_)
  refine lv_goto (tgt := 2) hx hb dX3_hasTermsOfTwo_49 (by decide) ?_
  exact hrc2 _ _ _ _ _ _ _ _ h hW (lv_sub hl [1, 2, 3, 0] rfl)
def n_X3_hasTermsOfTwo_b2_l (F : Nat) (rc2 : Zs → Int32 → Int32 → Int32 → Int32 → Option (Int32 × Zs)) (S : Zs) (x0 : Int32) (x1 : Int32) (x2 : Int32) (x3 : Int32) : Option (Int32 × Zs) :=
  if (4 : Int32) < x3 then (zrb (0 : Int32) S) else (zcl (n_X4_middleOfFirst F S x3 x0) (fun v2 S1 => zcl (n_X4_middleOfSecond F S1 x3 x1) (fun v4 S3 => if v2 = v4 then (zcl (n_X4_majorOf F S3 x3 x0) (fun v6 S5 => zcl (n_X0_predicate F S5 x2) (fun v8 S7 => if v6 = v8 then (zcl (n_X4_minorOf F S7 x3 x1) (fun v10 S9 => zcl (n_X0_subject F S9 x2) (fun v12 S11 => if v10 = v12 then (zrb (1 : Int32) S11) else (n_X3_hasTermsOfTwo_b46 F rc2 S11 x0 x1 x2 x3)))) else (n_X3_hasTermsOfTwo_b46 F rc2 S7 x0 x1 x2 x3)))) else (n_X3_hasTermsOfTwo_b46 F rc2 S3 x0 x1 x2 x3))))
set_option maxRecDepth 20000 in
set_option maxHeartbeats 4000000 in
theorem w_X3_hasTermsOfTwo_b2_l {F : Nat} {q : (Int32 × Zs)} {S : Zs} {rc2 : Zs → Int32 → Int32 → Int32 → Int32 → Option (Int32 × Zs)} {x0 : Int32} {x1 : Int32} {x2 : Int32} {x3 : Int32} {ls : Array Slot} {H : Heap} {locs : List Loc} (C : zC p s m args meth c cX3_hasTermsOfTwo 4 RX3 (some .boolean)) (hrc2 : ∀ (S : Zs) (x0 : Int32) (x1 : Int32) (x2 : Int32) (x3 : Int32) (H : Heap) (locs : List Loc) (ls : Array Slot), rc2 S x0 x1 x2 x3 = some q → zW (xG D cs ad) s S H locs → lv_has ls 4 [(0, .int x0), (1, .int x1), (2, .int x2), (3, .int x3)] → W p l e (zR 2 41) s m args below meth c H locs 0 0 (zQi (xG D cs ad) q below args s) (F0 m 2 ls [])) (h : n_X3_hasTermsOfTwo_b2_l F rc2 S x0 x1 x2 x3 = some q) (hW : zW (xG D cs ad) s S H locs) (hl : lv_has ls 4 [(0, .int x0), (1, .int x1), (2, .int x2), (3, .int x3)]) : W p l e (zR 2 41) s m args below meth c H locs 0 0 (zQi (xG D cs ad) q below args s) (F0 m 2 ls []) := by
  unfold n_X3_hasTermsOfTwo_b2_l at h
  obtain ⟨hx, hb, hml, hown, hts, hret, hlk⟩ := id C
  refine lv_iload_n hx hb dX3_hasTermsOfTwo_2 rfl (lv_at hl 3 rfl) ?_
  refine lv_iconst (v := 4) hx hb dX3_hasTermsOfTwo_3 (by decide) ?_
  refine zz_cgt (tgt := 52) C h dX3_hasTermsOfTwo_4 (by decide) (fun h => ?_) (fun h => ?_)
  · refine lv_iconst (v := 0) hx hb dX3_hasTermsOfTwo_52 (by decide) ?_
    exact zz_zret C rfl h hW dX3_hasTermsOfTwo_53
  · refine lv_iload_n hx hb dX3_hasTermsOfTwo_7 rfl (lv_at hl 3 rfl) ?_
    refine lv_iload_n hx hb dX3_hasTermsOfTwo_8 rfl (lv_at hl 0 rfl) ?_
    refine zz_callSi (As := [.int x3, .int x0]) C hW h (fun r hr => c_X4_middleOfFirst hr) lk_X3_107 rfl hl.1 ⟨rfl, rfl⟩ ⟨Nat.le_of_ble_eq_true rfl, Nat.le_of_ble_eq_true rfl⟩ (Nat.le_of_ble_eq_true rfl) ⟨Nat.zero_le _, Nat.zero_le _⟩ rfl dX3_hasTermsOfTwo_9 (fun v2 S1 H locs h hW => ?_)
    refine lv_iload_n hx hb dX3_hasTermsOfTwo_12 rfl (lv_at hl 3 rfl) ?_
    refine lv_iload_n hx hb dX3_hasTermsOfTwo_13 rfl (lv_at hl 1 rfl) ?_
    refine zz_callSi (As := [.int x3, .int x1]) C hW h (fun r hr => c_X4_middleOfSecond hr) lk_X3_113 rfl hl.1 ⟨rfl, rfl⟩ ⟨Nat.le_of_ble_eq_true rfl, Nat.le_of_ble_eq_true rfl⟩ (Nat.le_of_ble_eq_true rfl) ⟨Nat.zero_le _, Nat.zero_le _⟩ rfl dX3_hasTermsOfTwo_14 (fun v4 S3 H locs h hW => ?_)
    refine zz_cne (tgt := 46) C h dX3_hasTermsOfTwo_17 (by decide) (fun h => ?_) (fun h => ?_)
    · exact w_X3_hasTermsOfTwo_b46 (F := F) C hrc2 h hW (lv_sub hl [0, 1, 2, 3] rfl)
    · refine lv_iload_n hx hb dX3_hasTermsOfTwo_20 rfl (lv_at hl 3 rfl) ?_
      refine lv_iload_n hx hb dX3_hasTermsOfTwo_21 rfl (lv_at hl 0 rfl) ?_
      refine zz_callSi (As := [.int x3, .int x0]) C hW h (fun r hr => c_X4_majorOf hr) lk_X3_116 rfl hl.1 ⟨rfl, rfl⟩ ⟨Nat.le_of_ble_eq_true rfl, Nat.le_of_ble_eq_true rfl⟩ (Nat.le_of_ble_eq_true rfl) ⟨Nat.zero_le _, Nat.zero_le _⟩ rfl dX3_hasTermsOfTwo_22 (fun v6 S5 H locs h hW => ?_)
      refine lv_iload_n hx hb dX3_hasTermsOfTwo_25 rfl (lv_at hl 2 rfl) ?_
      refine zz_callSi (As := [.int x2]) C hW h (fun r hr => c_X0_predicate hr) lk_X3_104 rfl hl.1 ⟨rfl, rfl⟩ ⟨Nat.le_of_ble_eq_true rfl, Nat.le_of_ble_eq_true rfl⟩ (Nat.le_of_ble_eq_true rfl) ⟨Nat.zero_le _, Nat.zero_le _⟩ rfl dX3_hasTermsOfTwo_26 (fun v8 S7 H locs h hW => ?_)
      refine zz_cne (tgt := 46) C h dX3_hasTermsOfTwo_29 (by decide) (fun h => ?_) (fun h => ?_)
      · exact w_X3_hasTermsOfTwo_b46 (F := F) C hrc2 h hW (lv_sub hl [0, 1, 2, 3] rfl)
      · refine lv_iload_n hx hb dX3_hasTermsOfTwo_32 rfl (lv_at hl 3 rfl) ?_
        refine lv_iload_n hx hb dX3_hasTermsOfTwo_33 rfl (lv_at hl 1 rfl) ?_
        refine zz_callSi (As := [.int x3, .int x1]) C hW h (fun r hr => c_X4_minorOf hr) lk_X3_119 rfl hl.1 ⟨rfl, rfl⟩ ⟨Nat.le_of_ble_eq_true rfl, Nat.le_of_ble_eq_true rfl⟩ (Nat.le_of_ble_eq_true rfl) ⟨Nat.zero_le _, Nat.zero_le _⟩ rfl dX3_hasTermsOfTwo_34 (fun v10 S9 H locs h hW => ?_)
        refine lv_iload_n hx hb dX3_hasTermsOfTwo_37 rfl (lv_at hl 2 rfl) ?_
        refine zz_callSi (As := [.int x2]) C hW h (fun r hr => c_X0_subject hr) lk_X3_99 rfl hl.1 ⟨rfl, rfl⟩ ⟨Nat.le_of_ble_eq_true rfl, Nat.le_of_ble_eq_true rfl⟩ (Nat.le_of_ble_eq_true rfl) ⟨Nat.zero_le _, Nat.zero_le _⟩ rfl dX3_hasTermsOfTwo_38 (fun v12 S11 H locs h hW => ?_)
        refine zz_cne (tgt := 46) C h dX3_hasTermsOfTwo_41 (by decide) (fun h => ?_) (fun h => ?_)
        · exact w_X3_hasTermsOfTwo_b46 (F := F) C hrc2 h hW (lv_sub hl [0, 1, 2, 3] rfl)
        · refine lv_iconst (v := 1) hx hb dX3_hasTermsOfTwo_44 (by decide) ?_
          exact zz_zret C rfl h hW dX3_hasTermsOfTwo_45
def n_X3_hasTermsOfTwo_b2 (F : Nat)  (S : Zs) (x0 : Int32) (x1 : Int32) (x2 : Int32) (x3 : Int32) : Option (Int32 × Zs) :=
  zfix (fun (rc : (Zs × Int32 × Int32 × Int32 × Int32) → Option (Int32 × Zs)) (u : (Zs × Int32 × Int32 × Int32 × Int32)) => n_X3_hasTermsOfTwo_b2_l F  (fun S x0 x1 x2 x3 => rc (S, x0, x1, x2, x3)) u.1 u.2.1 u.2.2.1 u.2.2.2.1 u.2.2.2.2) F (S, x0, x1, x2, x3)
theorem w_X3_hasTermsOfTwo_b2 {F : Nat} {q : (Int32 × Zs)}  (C : zC p s m args meth c cX3_hasTermsOfTwo 4 RX3 (some .boolean))  : ∀ (n : Nat) (S : Zs) (x0 : Int32) (x1 : Int32) (x2 : Int32) (x3 : Int32) (H : Heap) (locs : List Loc) (ls : Array Slot), zfix (fun (rc : (Zs × Int32 × Int32 × Int32 × Int32) → Option (Int32 × Zs)) (u : (Zs × Int32 × Int32 × Int32 × Int32)) => n_X3_hasTermsOfTwo_b2_l F  (fun S x0 x1 x2 x3 => rc (S, x0, x1, x2, x3)) u.1 u.2.1 u.2.2.1 u.2.2.2.1 u.2.2.2.2) n (S, x0, x1, x2, x3) = some q → zW (xG D cs ad) s S H locs → lv_has ls 4 [(0, .int x0), (1, .int x1), (2, .int x2), (3, .int x3)] → W p l e (zR 2 41) s m args below meth c H locs 0 0 (zQi (xG D cs ad) q below args s) (F0 m 2 ls []) := by
  intro n
  induction n with
  | zero => intro S x0 x1 x2 x3 H locs ls h; exact absurd h (fun h => by cases h)
  | succ n ih => intro S x0 x1 x2 x3 H locs ls h hW hl; exact w_X3_hasTermsOfTwo_b2_l (F := F) C (fun S x0 x1 x2 x3 H locs ls h hW hl => ih S x0 x1 x2 x3 H locs ls h hW hl) h hW hl
def n_X3_hasTermsOfTwo_e (F : Nat)  (S : Zs) (x0 : Int32) (x1 : Int32) (x2 : Int32) : Option (Int32 × Zs) :=
  n_X3_hasTermsOfTwo_b2 F  S x0 x1 x2 (1 : Int32)
set_option maxRecDepth 20000 in
set_option maxHeartbeats 4000000 in
theorem w_X3_hasTermsOfTwo_e {F : Nat} {q : (Int32 × Zs)} {S : Zs}  {x0 : Int32} {x1 : Int32} {x2 : Int32} {ls : Array Slot} {H : Heap} {locs : List Loc} (C : zC p s m args meth c cX3_hasTermsOfTwo 4 RX3 (some .boolean))  (h : n_X3_hasTermsOfTwo_e F  S x0 x1 x2 = some q) (hW : zW (xG D cs ad) s S H locs) (hl : lv_has ls 4 [(0, .int x0), (1, .int x1), (2, .int x2)]) : W p l e (zR 2 41) s m args below meth c H locs 0 0 (zQi (xG D cs ad) q below args s) (F0 m 0 ls []) := by
  unfold n_X3_hasTermsOfTwo_e at h
  obtain ⟨hx, hb, hml, hown, hts, hret, hlk⟩ := id C
  refine lv_iconst (v := 1) hx hb dX3_hasTermsOfTwo_0 (by decide) ?_
  refine lv_istore_n (lv' := [(3, .int (1 : Int32)), (0, .int x0), (1, .int x1), (2, .int x2)]) hx hb dX3_hasTermsOfTwo_1 rfl hl (by decide) rfl (fun ls hl => ?_)
  exact w_X3_hasTermsOfTwo_b2 (F := F) C F _ _ _ _ _ _ _ _ h hW (lv_sub hl [1, 2, 3, 0] rfl)
def n_X3_hasTermsOfTwo (F : Nat) (S : Zs) (x0 : Int32) (x1 : Int32) (x2 : Int32) : Option (Int32 × Zs) := n_X3_hasTermsOfTwo_e F  S x0 x1 x2
theorem c_X3_hasTermsOfTwo {l : Launch} {D : va_G} {cs ad : Nat → Nat} {F : Nat} {S : Zs} {x0 : Int32} {x1 : Int32} {x2 : Int32} {q : (Int32 × Zs)} (h : n_X3_hasTermsOfTwo F S x0 x1 x2 = some q) : zMi l yX3_hasTermsOfTwo cX3_hasTermsOfTwo 4 (some .boolean) (zR 2 41) (xG D cs ad) [.int x0, .int x1, .int x2] S q :=
  zz_enter (by decide) (Nat.le_of_ble_eq_true rfl) (fun p e s m below meth c ls C hW hl => w_X3_hasTermsOfTwo_e (F := F) C h hW (lv_sub hl [0, 1, 2] rfl))
def n_X3_tryMood_41_b50 (F : Nat)  (S : Zs) (t0 : Int32) : Option (Int32 × Zs) :=
  some (t0, S)
set_option maxRecDepth 20000 in
set_option maxHeartbeats 4000000 in
theorem w_X3_tryMood_41_b50 {F : Nat} {q : (Int32 × Zs)} {S : Zs}  {t0 : Int32} {ls : Array Slot} {H : Heap} {locs : List Loc} (C : zC p s m args meth c cX3_tryMood 5 RX3 (some .int))  (h : n_X3_tryMood_41_b50 F  S t0 = some q) (hW : zW (xG D cs ad) s S H locs) (hl : lv_has ls 5 []) : W p l e (zR 3 69) s m args below meth c H locs 0 0 (zQi (xG D cs ad) q below args s) (F0 m 50 ls [.int t0]) := by
  unfold n_X3_tryMood_41_b50 at h
  obtain ⟨hx, hb, hml, hown, hts, hret, hlk⟩ := id C
  exact zz_iret C rfl h hW dX3_tryMood_50
def n_X3_tryMood_41_e (F : Nat)  (S : Zs) (x1 : Int32) (x2 : Int32) (x3 : Int32) (x4 : Int32) : Option (Int32 × Zs) :=
  zcl (n_X4_conclusion F S x1 x2 x3) (fun v2 S1 => if v2 = x4 then (zgf S1 66 (fun v3 => if ((v3 >>> (x1 &&& 31)) &&& (1 : Int32)) = 0 then (some ((5 : Int32), S1)) else (zgf S1 65 (fun v4 => zcl (n_X4_isAlive F S1 x1 x2 v4) (fun v6 S5 => if v6 = 0 then (n_X3_tryMood_41_b50 F  S5 (6 : Int32)) else (n_X3_tryMood_41_b50 F  S5 (0 : Int32))))))) else (some ((4 : Int32), S1)))
set_option maxRecDepth 20000 in
set_option maxHeartbeats 4000000 in
theorem w_X3_tryMood_41_e {F : Nat} {q : (Int32 × Zs)} {S : Zs}  {x1 : Int32} {x2 : Int32} {x3 : Int32} {x4 : Int32} {ls : Array Slot} {H : Heap} {locs : List Loc} (C : zC p s m args meth c cX3_tryMood 5 RX3 (some .int))  (h : n_X3_tryMood_41_e F  S x1 x2 x3 x4 = some q) (hW : zW (xG D cs ad) s S H locs) (hl : lv_has ls 5 [(0, .ref (ad 41)), (1, .int x1), (2, .int x2), (3, .int x3), (4, .int x4)]) : W p l e (zR 3 69) s m args below meth c H locs 0 0 (zQi (xG D cs ad) q below args s) (F0 m 0 ls []) := by
  unfold n_X3_tryMood_41_e at h
  obtain ⟨hx, hb, hml, hown, hts, hret, hlk⟩ := id C
  refine lv_iload_n hx hb dX3_tryMood_0 rfl (lv_at hl 1 rfl) ?_
  refine lv_iload_n hx hb dX3_tryMood_1 rfl (lv_at hl 2 rfl) ?_
  refine lv_iload_n hx hb dX3_tryMood_2 rfl (lv_at hl 3 rfl) ?_
  refine zz_callSi (As := [.int x1, .int x2, .int x3]) C hW h (fun r hr => c_X4_conclusion hr) lk_X3_131 rfl hl.1 ⟨rfl, rfl⟩ ⟨Nat.le_of_ble_eq_true rfl, Nat.le_of_ble_eq_true rfl⟩ (Nat.le_of_ble_eq_true rfl) ⟨Nat.zero_le _, Nat.zero_le _⟩ rfl dX3_tryMood_3 (fun v2 S1 H locs h hW => ?_)
  refine lv_iload hx hb dX3_tryMood_6 (lv_at hl 4 rfl) ?_
  refine zz_ceq (tgt := 13) C h dX3_tryMood_8 (by decide) (fun h => ?_) (fun h => ?_)
  · refine lv_aload_n hx hb dX3_tryMood_13 rfl (lv_at hl 0 rfl) ?_
    refine xg_41_0 C hW fl_X3_27 dX3_tryMood_14 ?_
    refine xg_3_6 C hW h fl_X3_134 dX3_tryMood_17 (fun v3 h => ?_)
    refine lv_iload_n hx hb dX3_tryMood_20 rfl (lv_at hl 1 rfl) ?_
    refine lv_ishr hx hb dX3_tryMood_21 ?_
    refine lv_iconst (v := 1) hx hb dX3_tryMood_22 (by decide) ?_
    refine lv_iand hx hb dX3_tryMood_23 ?_
    refine zz_ine (tgt := 29) C h dX3_tryMood_24 (by decide) (fun h => ?_) (fun h => ?_)
    · refine lv_iload_n hx hb dX3_tryMood_29 rfl (lv_at hl 1 rfl) ?_
      refine lv_iload_n hx hb dX3_tryMood_30 rfl (lv_at hl 2 rfl) ?_
      refine lv_aload_n hx hb dX3_tryMood_31 rfl (lv_at hl 0 rfl) ?_
      refine xg_41_0 C hW fl_X3_27 dX3_tryMood_32 ?_
      refine xg_3_5 C hW h fl_X3_137 dX3_tryMood_35 (fun v4 h => ?_)
      refine zz_callSi (As := [.int x1, .int x2, .int v4]) C hW h (fun r hr => c_X4_isAlive hr) lk_X3_140 rfl hl.1 ⟨rfl, rfl⟩ ⟨Nat.le_of_ble_eq_true rfl, Nat.le_of_ble_eq_true rfl⟩ (Nat.le_of_ble_eq_true rfl) ⟨Nat.zero_le _, Nat.zero_le _⟩ rfl dX3_tryMood_38 (fun v6 S5 H locs h hW => ?_)
      refine zz_ieq (tgt := 48) C h dX3_tryMood_41 (by decide) (fun h => ?_) (fun h => ?_)
      · refine lv_bipush (v := 6) hx hb dX3_tryMood_48 (by decide) ?_
        exact w_X3_tryMood_41_b50 (F := F) C h hW (lv_sub hl [] rfl)
      · refine lv_iconst (v := 0) hx hb dX3_tryMood_44 (by decide) ?_
        refine lv_goto (tgt := 50) hx hb dX3_tryMood_45 (by decide) ?_
        exact w_X3_tryMood_41_b50 (F := F) C h hW (lv_sub hl [] rfl)
    · refine lv_iconst (v := 5) hx hb dX3_tryMood_27 (by decide) ?_
      exact zz_iret C rfl h hW dX3_tryMood_28
  · refine lv_iconst (v := 4) hx hb dX3_tryMood_11 (by decide) ?_
    exact zz_iret C rfl h hW dX3_tryMood_12
def n_X3_tryMood_41 (F : Nat) (S : Zs) (x1 : Int32) (x2 : Int32) (x3 : Int32) (x4 : Int32) : Option (Int32 × Zs) := n_X3_tryMood_41_e F  S x1 x2 x3 x4
theorem c_X3_tryMood_41 {l : Launch} {D : va_G} {cs ad : Nat → Nat} {F : Nat} {S : Zs} {x1 : Int32} {x2 : Int32} {x3 : Int32} {x4 : Int32} {q : (Int32 × Zs)} (h : n_X3_tryMood_41 F S x1 x2 x3 x4 = some q) : zMi l yX3_tryMood cX3_tryMood 5 (some .int) (zR 3 69) (xG D cs ad) [.ref (ad 41), .int x1, .int x2, .int x3, .int x4] S q :=
  zz_enter (by decide) (Nat.le_of_ble_eq_true rfl) (fun p e s m below meth c ls C hW hl => w_X3_tryMood_41_e (F := F) C h hW (lv_sub hl [0, 1, 2, 3, 4] rfl))
def n_X3_tryMoods_41_b101 (F : Nat) (rc34 : Zs → Int32 → Int32 → Int32 → Int32 → Int32 → Int32 → Option (Int32 × Zs)) (S : Zs) (x1 : Int32) (x2 : Int32) (x3 : Int32) (x4 : Int32) (x6 : Int32) (x7 : Int32) (x8 : Int32) : Option (Int32 × Zs) :=
  if x8 = 0 then (zst S 46 40 x1 x7 (fun S3 => some ((0 : Int32), S3))) else (zlet (if x4 < x8 then x8 else x4) (fun v1 => zlet (x7 + (1 : Int32)) (fun v2 => rc34 S x1 x2 x3 v1 x6 v2)))
set_option maxRecDepth 20000 in
set_option maxHeartbeats 4000000 in
theorem w_X3_tryMoods_41_b101 {F : Nat} {q : (Int32 × Zs)} {S : Zs} {rc34 : Zs → Int32 → Int32 → Int32 → Int32 → Int32 → Int32 → Option (Int32 × Zs)} {x1 : Int32} {x2 : Int32} {x3 : Int32} {x4 : Int32} {x6 : Int32} {x7 : Int32} {x8 : Int32} {ls : Array Slot} {H : Heap} {locs : List Loc} (C : zC p s m args meth c cX3_tryMoods 10 RX3 (some .int)) (hrc34 : ∀ (S : Zs) (x1 : Int32) (x2 : Int32) (x3 : Int32) (x4 : Int32) (x6 : Int32) (x7 : Int32) (H : Heap) (locs : List Loc) (ls : Array Slot), rc34 S x1 x2 x3 x4 x6 x7 = some q → zW (xG D cs ad) s S H locs → lv_has ls 10 [(0, .ref (ad 41)), (1, .int x1), (2, .int x2), (3, .int x3), (4, .int x4), (6, .int x6), (7, .int x7)] → W p l e (zR 4 93) s m args below meth c H locs 0 0 (zQi (xG D cs ad) q below args s) (F0 m 34 ls [])) (h : n_X3_tryMoods_41_b101 F rc34 S x1 x2 x3 x4 x6 x7 x8 = some q) (hW : zW (xG D cs ad) s S H locs) (hl : lv_has ls 10 [(0, .ref (ad 41)), (1, .int x1), (2, .int x2), (3, .int x3), (4, .int x4), (6, .int x6), (7, .int x7), (8, .int x8)]) : W p l e (zR 4 93) s m args below meth c H locs 0 0 (zQi (xG D cs ad) q below args s) (F0 m 101 ls []) := by
  unfold n_X3_tryMoods_41_b101 at h
  obtain ⟨hx, hb, hml, hown, hts, hret, hlk⟩ := id C
  refine lv_iload hx hb dX3_tryMoods_101 (lv_at hl 7 rfl) ?_
  refine zz_ine (tgt := 116) C h dX3_tryMoods_103 (by decide) (fun h => ?_) (fun h => ?_)
  · refine lv_iload hx hb dX3_tryMoods_116 (lv_at hl 4 rfl) ?_
    refine lv_iload hx hb dX3_tryMoods_118 (lv_at hl 7 rfl) ?_
    refine va_mmax hx hb (hml.trans hl.1.symm) hown (hts _ lkm_X3_126) (hts _ sm_max) (hts _ it_Math) (hts _ cd_max) (Nat.le_of_ble_eq_true rfl) (Nat.le_of_ble_eq_true rfl) (Nat.zero_le _) (Nat.zero_le _) dX3_tryMoods_120 ?_
    refine zz_leti h (fun v1 h => ?_)
    refine lv_istore (lv' := [(4, .int v1), (0, .ref (ad 41)), (1, .int x1), (2, .int x2), (3, .int x3), (6, .int x6), (7, .int x7), (8, .int x8)]) hx hb dX3_tryMoods_123 hl (by decide) rfl (fun ls hl => ?_)
    obtain ⟨v2, ev2, h⟩ := zz_name h
    refine lv_iinc (v := v2) (lv' := [(7, .int v2), (4, .int v1), (0, .ref (ad 41)), (1, .int x1), (2, .int x2), (3, .int x3), (6, .int x6), (8, .int x8)]) hx hb dX3_tryMoods_125 hl (k := 6) rfl ev2.symm (by decide) rfl (fun ls hl => ?_)
    refine lv_goto (tgt := 34) hx hb dX3_tryMoods_128 (by decide) ?_
    exact hrc34 _ _ _ _ _ _ _ _ _ _ h hW (lv_sub hl [2, 3, 4, 5, 1, 6, 0] rfl)
  · refine lv_aload_n hx hb dX3_tryMoods_106 rfl (lv_at hl 0 rfl) ?_
    refine xg_41_5 C hW fl_X3_24 dX3_tryMoods_107 ?_
    refine lv_iload_n hx hb dX3_tryMoods_110 rfl (lv_at hl 1 rfl) ?_
    refine lv_iload hx hb dX3_tryMoods_111 (lv_at hl 6 rfl) ?_
    refine xs_46 C hW h dX3_tryMoods_113 (fun S3 H locs h hW => ?_)
    refine lv_iconst (v := 0) hx hb dX3_tryMoods_114 (by decide) ?_
    exact zz_iret C rfl h hW dX3_tryMoods_115
def n_X3_tryMoods_41_b99 (F : Nat) (rc34 : Zs → Int32 → Int32 → Int32 → Int32 → Int32 → Int32 → Option (Int32 × Zs)) (S : Zs) (x1 : Int32) (x2 : Int32) (x3 : Int32) (x4 : Int32) (x6 : Int32) (x7 : Int32) (t0 : Int32) : Option (Int32 × Zs) :=
  n_X3_tryMoods_41_b101 F rc34 S x1 x2 x3 x4 x6 x7 t0
set_option maxRecDepth 20000 in
set_option maxHeartbeats 4000000 in
theorem w_X3_tryMoods_41_b99 {F : Nat} {q : (Int32 × Zs)} {S : Zs} {rc34 : Zs → Int32 → Int32 → Int32 → Int32 → Int32 → Int32 → Option (Int32 × Zs)} {x1 : Int32} {x2 : Int32} {x3 : Int32} {x4 : Int32} {x6 : Int32} {x7 : Int32} {t0 : Int32} {ls : Array Slot} {H : Heap} {locs : List Loc} (C : zC p s m args meth c cX3_tryMoods 10 RX3 (some .int)) (hrc34 : ∀ (S : Zs) (x1 : Int32) (x2 : Int32) (x3 : Int32) (x4 : Int32) (x6 : Int32) (x7 : Int32) (H : Heap) (locs : List Loc) (ls : Array Slot), rc34 S x1 x2 x3 x4 x6 x7 = some q → zW (xG D cs ad) s S H locs → lv_has ls 10 [(0, .ref (ad 41)), (1, .int x1), (2, .int x2), (3, .int x3), (4, .int x4), (6, .int x6), (7, .int x7)] → W p l e (zR 4 93) s m args below meth c H locs 0 0 (zQi (xG D cs ad) q below args s) (F0 m 34 ls [])) (h : n_X3_tryMoods_41_b99 F rc34 S x1 x2 x3 x4 x6 x7 t0 = some q) (hW : zW (xG D cs ad) s S H locs) (hl : lv_has ls 10 [(0, .ref (ad 41)), (1, .int x1), (2, .int x2), (3, .int x3), (4, .int x4), (6, .int x6), (7, .int x7)]) : W p l e (zR 4 93) s m args below meth c H locs 0 0 (zQi (xG D cs ad) q below args s) (F0 m 99 ls [.int t0]) := by
  unfold n_X3_tryMoods_41_b99 at h
  obtain ⟨hx, hb, hml, hown, hts, hret, hlk⟩ := id C
  refine lv_istore (lv' := [(8, .int t0), (0, .ref (ad 41)), (1, .int x1), (2, .int x2), (3, .int x3), (4, .int x4), (6, .int x6), (7, .int x7)]) hx hb dX3_tryMoods_99 hl (by decide) rfl (fun ls hl => ?_)
  exact w_X3_tryMoods_41_b101 (F := F) C hrc34 h hW (lv_sub hl [1, 2, 3, 4, 5, 6, 7, 0] rfl)
def n_X3_tryMoods_41_b34_l (F : Nat) (rc34 : Zs → Int32 → Int32 → Int32 → Int32 → Int32 → Int32 → Option (Int32 × Zs)) (S : Zs) (x1 : Int32) (x2 : Int32) (x3 : Int32) (x4 : Int32) (x6 : Int32) (x7 : Int32) : Option (Int32 × Zs) :=
  if x6 ≤ x7 then (some (x4, S)) else (zld S 42 40 x1 (fun v1 => zcl (n_X3_tryMood_41 F S x7 x2 x3 v1) (fun v3 S2 => if v3 = 0 then (n_X3_tryMoods_41_b101 F rc34 S2 x1 x2 x3 x4 x6 x7 v3) else (if x3 = (-1 : Int32) then (n_X3_tryMoods_41_b101 F rc34 S2 x1 x2 x3 x4 x6 x7 v3) else (zld S2 42 40 x1 (fun v4 => zcl (n_X3_tryMood_41 F S2 x7 x3 x2 v4) (fun v6 S5 => if v6 = 0 then (n_X3_tryMoods_41_b99 F rc34 S5 x1 x2 x3 x4 x6 x7 (0 : Int32)) else (zlet (if v3 < v6 then v6 else v3) (fun v7 => n_X3_tryMoods_41_b99 F rc34 S5 x1 x2 x3 x4 x6 x7 v7)))))))))
set_option maxRecDepth 20000 in
set_option maxHeartbeats 4000000 in
theorem w_X3_tryMoods_41_b34_l {F : Nat} {q : (Int32 × Zs)} {S : Zs} {rc34 : Zs → Int32 → Int32 → Int32 → Int32 → Int32 → Int32 → Option (Int32 × Zs)} {x1 : Int32} {x2 : Int32} {x3 : Int32} {x4 : Int32} {x6 : Int32} {x7 : Int32} {ls : Array Slot} {H : Heap} {locs : List Loc} (C : zC p s m args meth c cX3_tryMoods 10 RX3 (some .int)) (hrc34 : ∀ (S : Zs) (x1 : Int32) (x2 : Int32) (x3 : Int32) (x4 : Int32) (x6 : Int32) (x7 : Int32) (H : Heap) (locs : List Loc) (ls : Array Slot), rc34 S x1 x2 x3 x4 x6 x7 = some q → zW (xG D cs ad) s S H locs → lv_has ls 10 [(0, .ref (ad 41)), (1, .int x1), (2, .int x2), (3, .int x3), (4, .int x4), (6, .int x6), (7, .int x7)] → W p l e (zR 4 93) s m args below meth c H locs 0 0 (zQi (xG D cs ad) q below args s) (F0 m 34 ls [])) (h : n_X3_tryMoods_41_b34_l F rc34 S x1 x2 x3 x4 x6 x7 = some q) (hW : zW (xG D cs ad) s S H locs) (hl : lv_has ls 10 [(0, .ref (ad 41)), (1, .int x1), (2, .int x2), (3, .int x3), (4, .int x4), (6, .int x6), (7, .int x7)]) : W p l e (zR 4 93) s m args below meth c H locs 0 0 (zQi (xG D cs ad) q below args s) (F0 m 34 ls []) := by
  unfold n_X3_tryMoods_41_b34_l at h
  obtain ⟨hx, hb, hml, hown, hts, hret, hlk⟩ := id C
  refine lv_iload hx hb dX3_tryMoods_34 (lv_at hl 6 rfl) ?_
  refine lv_iload hx hb dX3_tryMoods_36 (lv_at hl 5 rfl) ?_
  refine zz_cge (tgt := 131) C h dX3_tryMoods_38 (by decide) (fun h => ?_) (fun h => ?_)
  · refine lv_iload hx hb dX3_tryMoods_131 (lv_at hl 4 rfl) ?_
    exact zz_iret C rfl h hW dX3_tryMoods_133
  · refine lv_aload_n hx hb dX3_tryMoods_41 rfl (lv_at hl 0 rfl) ?_
    refine lv_iload hx hb dX3_tryMoods_42 (lv_at hl 6 rfl) ?_
    refine lv_iload_n hx hb dX3_tryMoods_44 rfl (lv_at hl 2 rfl) ?_
    refine lv_iload_n hx hb dX3_tryMoods_45 rfl (lv_at hl 3 rfl) ?_
    refine lv_aload_n hx hb dX3_tryMoods_46 rfl (lv_at hl 0 rfl) ?_
    refine xg_41_1 C hW fl_X3_11 dX3_tryMoods_47 ?_
    refine lv_iload_n hx hb dX3_tryMoods_50 rfl (lv_at hl 1 rfl) ?_
    refine xl_42 C hW h dX3_tryMoods_51 (fun v1 h => ?_)
    refine zz_callVi (As := [.int x7, .int x2, .int x3, .int v1]) C hW h (fun r hr => c_X3_tryMood_41 hr) lk_X3_122 (hW.recv xr_41) rfl hl.1 ⟨rfl, rfl⟩ ⟨Nat.le_of_ble_eq_true rfl, Nat.le_of_ble_eq_true rfl⟩ (Nat.le_of_ble_eq_true rfl) ⟨Nat.zero_le _, Nat.zero_le _⟩ rfl dX3_tryMoods_52 (fun v3 S2 H locs h hW => ?_)
    refine lv_istore (lv' := [(8, .int v3), (0, .ref (ad 41)), (1, .int x1), (2, .int x2), (3, .int x3), (4, .int x4), (6, .int x6), (7, .int x7)]) hx hb dX3_tryMoods_55 hl (by decide) rfl (fun ls hl => ?_)
    refine lv_iload hx hb dX3_tryMoods_57 (lv_at hl 0 rfl) ?_
    refine zz_ieq (tgt := 101) C h dX3_tryMoods_59 (by decide) (fun h => ?_) (fun h => ?_)
    · exact w_X3_tryMoods_41_b101 (F := F) C hrc34 h hW (lv_sub hl [1, 2, 3, 4, 5, 6, 7, 0] rfl)
    · refine lv_iload_n hx hb dX3_tryMoods_62 rfl (lv_at hl 4 rfl) ?_
      refine lv_iconst (v := -1) hx hb dX3_tryMoods_63 (by decide) ?_
      refine zz_ceq (tgt := 101) C h dX3_tryMoods_64 (by decide) (fun h => ?_) (fun h => ?_)
      · exact w_X3_tryMoods_41_b101 (F := F) C hrc34 h hW (lv_sub hl [1, 2, 3, 4, 5, 6, 7, 0] rfl)
      · refine lv_aload_n hx hb dX3_tryMoods_67 rfl (lv_at hl 1 rfl) ?_
        refine lv_iload hx hb dX3_tryMoods_68 (lv_at hl 7 rfl) ?_
        refine lv_iload_n hx hb dX3_tryMoods_70 rfl (lv_at hl 4 rfl) ?_
        refine lv_iload_n hx hb dX3_tryMoods_71 rfl (lv_at hl 3 rfl) ?_
        refine lv_aload_n hx hb dX3_tryMoods_72 rfl (lv_at hl 1 rfl) ?_
        refine xg_41_1 C hW fl_X3_11 dX3_tryMoods_73 ?_
        refine lv_iload_n hx hb dX3_tryMoods_76 rfl (lv_at hl 2 rfl) ?_
        refine xl_42 C hW h dX3_tryMoods_77 (fun v4 h => ?_)
        refine zz_callVi (As := [.int x7, .int x3, .int x2, .int v4]) C hW h (fun r hr => c_X3_tryMood_41 hr) lk_X3_122 (hW.recv xr_41) rfl hl.1 ⟨rfl, rfl⟩ ⟨Nat.le_of_ble_eq_true rfl, Nat.le_of_ble_eq_true rfl⟩ (Nat.le_of_ble_eq_true rfl) ⟨Nat.zero_le _, Nat.zero_le _⟩ rfl dX3_tryMoods_78 (fun v6 S5 H locs h hW => ?_)
        refine lv_istore (lv' := [(9, .int v6), (8, .int v3), (0, .ref (ad 41)), (1, .int x1), (2, .int x2), (3, .int x3), (4, .int x4), (6, .int x6), (7, .int x7)]) hx hb dX3_tryMoods_81 hl (by decide) rfl (fun ls hl => ?_)
        refine lv_iload hx hb dX3_tryMoods_83 (lv_at hl 0 rfl) ?_
        refine zz_ine (tgt := 92) C h dX3_tryMoods_85 (by decide) (fun h => ?_) (fun h => ?_)
        · refine lv_iload hx hb dX3_tryMoods_92 (lv_at hl 1 rfl) ?_
          refine lv_iload hx hb dX3_tryMoods_94 (lv_at hl 0 rfl) ?_
          refine va_mmax hx hb (hml.trans hl.1.symm) hown (hts _ lkm_X3_126) (hts _ sm_max) (hts _ it_Math) (hts _ cd_max) (Nat.le_of_ble_eq_true rfl) (Nat.le_of_ble_eq_true rfl) (Nat.zero_le _) (Nat.zero_le _) dX3_tryMoods_96 ?_
          refine zz_leti h (fun v7 h => ?_)
          exact w_X3_tryMoods_41_b99 (F := F) C hrc34 h hW (lv_sub hl [2, 3, 4, 5, 6, 7, 8] rfl)
        · refine lv_iconst (v := 0) hx hb dX3_tryMoods_88 (by decide) ?_
          refine lv_goto (tgt := 99) hx hb dX3_tryMoods_89 (by decide) ?_
          exact w_X3_tryMoods_41_b99 (F := F) C hrc34 h hW (lv_sub hl [2, 3, 4, 5, 6, 7, 8] rfl)
def n_X3_tryMoods_41_b34 (F : Nat)  (S : Zs) (x1 : Int32) (x2 : Int32) (x3 : Int32) (x4 : Int32) (x6 : Int32) (x7 : Int32) : Option (Int32 × Zs) :=
  zfix (fun (rc : (Zs × Int32 × Int32 × Int32 × Int32 × Int32 × Int32) → Option (Int32 × Zs)) (u : (Zs × Int32 × Int32 × Int32 × Int32 × Int32 × Int32)) => n_X3_tryMoods_41_b34_l F  (fun S x1 x2 x3 x4 x6 x7 => rc (S, x1, x2, x3, x4, x6, x7)) u.1 u.2.1 u.2.2.1 u.2.2.2.1 u.2.2.2.2.1 u.2.2.2.2.2.1 u.2.2.2.2.2.2) F (S, x1, x2, x3, x4, x6, x7)
theorem w_X3_tryMoods_41_b34 {F : Nat} {q : (Int32 × Zs)}  (C : zC p s m args meth c cX3_tryMoods 10 RX3 (some .int))  : ∀ (n : Nat) (S : Zs) (x1 : Int32) (x2 : Int32) (x3 : Int32) (x4 : Int32) (x6 : Int32) (x7 : Int32) (H : Heap) (locs : List Loc) (ls : Array Slot), zfix (fun (rc : (Zs × Int32 × Int32 × Int32 × Int32 × Int32 × Int32) → Option (Int32 × Zs)) (u : (Zs × Int32 × Int32 × Int32 × Int32 × Int32 × Int32)) => n_X3_tryMoods_41_b34_l F  (fun S x1 x2 x3 x4 x6 x7 => rc (S, x1, x2, x3, x4, x6, x7)) u.1 u.2.1 u.2.2.1 u.2.2.2.1 u.2.2.2.2.1 u.2.2.2.2.2.1 u.2.2.2.2.2.2) n (S, x1, x2, x3, x4, x6, x7) = some q → zW (xG D cs ad) s S H locs → lv_has ls 10 [(0, .ref (ad 41)), (1, .int x1), (2, .int x2), (3, .int x3), (4, .int x4), (6, .int x6), (7, .int x7)] → W p l e (zR 4 93) s m args below meth c H locs 0 0 (zQi (xG D cs ad) q below args s) (F0 m 34 ls []) := by
  intro n
  induction n with
  | zero => intro S x1 x2 x3 x4 x6 x7 H locs ls h; exact absurd h (fun h => by cases h)
  | succ n ih => intro S x1 x2 x3 x4 x6 x7 H locs ls h hW hl; exact w_X3_tryMoods_41_b34_l (F := F) C (fun S x1 x2 x3 x4 x6 x7 H locs ls h hW hl => ih S x1 x2 x3 x4 x6 x7 H locs ls h hW hl) h hW hl
def n_X3_tryMoods_41_b28 (F : Nat)  (S : Zs) (x1 : Int32) (x2 : Int32) (x3 : Int32) (x4 : Int32) (x5 : Int32) (t0 : Int32) : Option (Int32 × Zs) :=
  n_X3_tryMoods_41_b34 F  S x1 x2 x3 x4 t0 x5
set_option maxRecDepth 20000 in
set_option maxHeartbeats 4000000 in
theorem w_X3_tryMoods_41_b28 {F : Nat} {q : (Int32 × Zs)} {S : Zs}  {x1 : Int32} {x2 : Int32} {x3 : Int32} {x4 : Int32} {x5 : Int32} {t0 : Int32} {ls : Array Slot} {H : Heap} {locs : List Loc} (C : zC p s m args meth c cX3_tryMoods 10 RX3 (some .int))  (h : n_X3_tryMoods_41_b28 F  S x1 x2 x3 x4 x5 t0 = some q) (hW : zW (xG D cs ad) s S H locs) (hl : lv_has ls 10 [(0, .ref (ad 41)), (1, .int x1), (2, .int x2), (3, .int x3), (4, .int x4), (5, .int x5)]) : W p l e (zR 4 93) s m args below meth c H locs 0 0 (zQi (xG D cs ad) q below args s) (F0 m 28 ls [.int t0]) := by
  unfold n_X3_tryMoods_41_b28 at h
  obtain ⟨hx, hb, hml, hown, hts, hret, hlk⟩ := id C
  refine lv_istore (lv' := [(6, .int t0), (0, .ref (ad 41)), (1, .int x1), (2, .int x2), (3, .int x3), (4, .int x4), (5, .int x5)]) hx hb dX3_tryMoods_28 hl (by decide) rfl (fun ls hl => ?_)
  refine lv_iload hx hb dX3_tryMoods_30 (lv_at hl 6 rfl) ?_
  refine lv_istore (lv' := [(7, .int x5), (6, .int t0), (0, .ref (ad 41)), (1, .int x1), (2, .int x2), (3, .int x3), (4, .int x4), (5, .int x5)]) hx hb dX3_tryMoods_32 hl (by decide) rfl (fun ls hl => ?_)
  exact w_X3_tryMoods_41_b34 (F := F) C F _ _ _ _ _ _ _ _ _ _ h hW (lv_sub hl [2, 3, 4, 5, 6, 1, 0] rfl)
def n_X3_tryMoods_41_b14 (F : Nat)  (S : Zs) (x1 : Int32) (x2 : Int32) (x3 : Int32) (x4 : Int32) (t0 : Int32) : Option (Int32 × Zs) :=
  if x3 = (-1 : Int32) then (n_X3_tryMoods_41_b28 F  S x1 x2 x3 x4 t0 (22 : Int32)) else (n_X3_tryMoods_41_b28 F  S x1 x2 x3 x4 t0 (19 : Int32))
set_option maxRecDepth 20000 in
set_option maxHeartbeats 4000000 in
theorem w_X3_tryMoods_41_b14 {F : Nat} {q : (Int32 × Zs)} {S : Zs}  {x1 : Int32} {x2 : Int32} {x3 : Int32} {x4 : Int32} {t0 : Int32} {ls : Array Slot} {H : Heap} {locs : List Loc} (C : zC p s m args meth c cX3_tryMoods 10 RX3 (some .int))  (h : n_X3_tryMoods_41_b14 F  S x1 x2 x3 x4 t0 = some q) (hW : zW (xG D cs ad) s S H locs) (hl : lv_has ls 10 [(0, .ref (ad 41)), (1, .int x1), (2, .int x2), (3, .int x3), (4, .int x4)]) : W p l e (zR 4 93) s m args below meth c H locs 0 0 (zQi (xG D cs ad) q below args s) (F0 m 14 ls [.int t0]) := by
  unfold n_X3_tryMoods_41_b14 at h
  obtain ⟨hx, hb, hml, hown, hts, hret, hlk⟩ := id C
  refine lv_istore (lv' := [(5, .int t0), (0, .ref (ad 41)), (1, .int x1), (2, .int x2), (3, .int x3), (4, .int x4)]) hx hb dX3_tryMoods_14 hl (by decide) rfl (fun ls hl => ?_)
  refine lv_iload_n hx hb dX3_tryMoods_16 rfl (lv_at hl 4 rfl) ?_
  refine lv_iconst (v := -1) hx hb dX3_tryMoods_17 (by decide) ?_
  refine zz_cne (tgt := 26) C h dX3_tryMoods_18 (by decide) (fun h => ?_) (fun h => ?_)
  · refine lv_bipush (v := 19) hx hb dX3_tryMoods_26 (by decide) ?_
    exact w_X3_tryMoods_41_b28 (F := F) C h hW (lv_sub hl [1, 2, 3, 4, 5, 0] rfl)
  · refine lv_bipush (v := 22) hx hb dX3_tryMoods_21 (by decide) ?_
    refine lv_goto (tgt := 28) hx hb dX3_tryMoods_23 (by decide) ?_
    exact w_X3_tryMoods_41_b28 (F := F) C h hW (lv_sub hl [1, 2, 3, 4, 5, 0] rfl)
def n_X3_tryMoods_41_e (F : Nat)  (S : Zs) (x1 : Int32) (x2 : Int32) (x3 : Int32) : Option (Int32 × Zs) :=
  if x3 = (-1 : Int32) then (n_X3_tryMoods_41_b14 F  S x1 x2 x3 (4 : Int32) (19 : Int32)) else (n_X3_tryMoods_41_b14 F  S x1 x2 x3 (4 : Int32) (0 : Int32))
set_option maxRecDepth 20000 in
set_option maxHeartbeats 4000000 in
theorem w_X3_tryMoods_41_e {F : Nat} {q : (Int32 × Zs)} {S : Zs}  {x1 : Int32} {x2 : Int32} {x3 : Int32} {ls : Array Slot} {H : Heap} {locs : List Loc} (C : zC p s m args meth c cX3_tryMoods 10 RX3 (some .int))  (h : n_X3_tryMoods_41_e F  S x1 x2 x3 = some q) (hW : zW (xG D cs ad) s S H locs) (hl : lv_has ls 10 [(0, .ref (ad 41)), (1, .int x1), (2, .int x2), (3, .int x3)]) : W p l e (zR 4 93) s m args below meth c H locs 0 0 (zQi (xG D cs ad) q below args s) (F0 m 0 ls []) := by
  unfold n_X3_tryMoods_41_e at h
  obtain ⟨hx, hb, hml, hown, hts, hret, hlk⟩ := id C
  refine lv_iconst (v := 4) hx hb dX3_tryMoods_0 (by decide) ?_
  refine lv_istore (lv' := [(4, .int (4 : Int32)), (0, .ref (ad 41)), (1, .int x1), (2, .int x2), (3, .int x3)]) hx hb dX3_tryMoods_1 hl (by decide) rfl (fun ls hl => ?_)
  refine lv_iload_n hx hb dX3_tryMoods_3 rfl (lv_at hl 4 rfl) ?_
  refine lv_iconst (v := -1) hx hb dX3_tryMoods_4 (by decide) ?_
  refine zz_cne (tgt := 13) C h dX3_tryMoods_5 (by decide) (fun h => ?_) (fun h => ?_)
  · refine lv_iconst (v := 0) hx hb dX3_tryMoods_13 (by decide) ?_
    exact w_X3_tryMoods_41_b14 (F := F) C h hW (lv_sub hl [1, 2, 3, 4, 0] rfl)
  · refine lv_bipush (v := 19) hx hb dX3_tryMoods_8 (by decide) ?_
    refine lv_goto (tgt := 14) hx hb dX3_tryMoods_10 (by decide) ?_
    exact w_X3_tryMoods_41_b14 (F := F) C h hW (lv_sub hl [1, 2, 3, 4, 0] rfl)
def n_X3_tryMoods_41 (F : Nat) (S : Zs) (x1 : Int32) (x2 : Int32) (x3 : Int32) : Option (Int32 × Zs) := n_X3_tryMoods_41_e F  S x1 x2 x3
theorem c_X3_tryMoods_41 {l : Launch} {D : va_G} {cs ad : Nat → Nat} {F : Nat} {S : Zs} {x1 : Int32} {x2 : Int32} {x3 : Int32} {q : (Int32 × Zs)} (h : n_X3_tryMoods_41 F S x1 x2 x3 = some q) : zMi l yX3_tryMoods cX3_tryMoods 10 (some .int) (zR 4 93) (xG D cs ad) [.ref (ad 41), .int x1, .int x2, .int x3] S q :=
  zz_enter (by decide) (Nat.le_of_ble_eq_true rfl) (fun p e s m below meth c ls C hW hl => w_X3_tryMoods_41_e (F := F) C h hW (lv_sub hl [0, 1, 2, 3] rfl))
def n_X3_hasTermsOfOne_b59 (F : Nat)  (S : Zs) (t0 : Int32) : Option (Int32 × Zs) :=
  zrb t0 S
set_option maxRecDepth 20000 in
set_option maxHeartbeats 4000000 in
theorem w_X3_hasTermsOfOne_b59 {F : Nat} {q : (Int32 × Zs)} {S : Zs}  {t0 : Int32} {ls : Array Slot} {H : Heap} {locs : List Loc} (C : zC p s m args meth c cX3_hasTermsOfOne 6 RX3 (some .boolean))  (h : n_X3_hasTermsOfOne_b59 F  S t0 = some q) (hW : zW (xG D cs ad) s S H locs) (hl : lv_has ls 6 []) : W p l e (zR 1 20) s m args below meth c H locs 0 0 (zQi (xG D cs ad) q below args s) (F0 m 59 ls [.int t0]) := by
  unfold n_X3_hasTermsOfOne_b59 at h
  obtain ⟨hx, hb, hml, hown, hts, hret, hlk⟩ := id C
  exact zz_zret C rfl h hW dX3_hasTermsOfOne_59
def n_X3_hasTermsOfOne_b58 (F : Nat)  (S : Zs)  : Option (Int32 × Zs) :=
  n_X3_hasTermsOfOne_b59 F  S (0 : Int32)
set_option maxRecDepth 20000 in
set_option maxHeartbeats 4000000 in
theorem w_X3_hasTermsOfOne_b58 {F : Nat} {q : (Int32 × Zs)} {S : Zs}   {ls : Array Slot} {H : Heap} {locs : List Loc} (C : zC p s m args meth c cX3_hasTermsOfOne 6 RX3 (some .boolean))  (h : n_X3_hasTermsOfOne_b58 F  S  = some q) (hW : zW (xG D cs ad) s S H locs) (hl : lv_has ls 6 []) : W p l e (zR 1 20) s m args below meth c H locs 0 0 (zQi (xG D cs ad) q below args s) (F0 m 58 ls []) := by
  unfold n_X3_hasTermsOfOne_b58 at h
  obtain ⟨hx, hb, hml, hown, hts, hret, hlk⟩ := id C
  refine lv_iconst (v := 0) hx hb dX3_hasTermsOfOne_58 (by decide) ?_
  exact w_X3_hasTermsOfOne_b59 (F := F) C h hW (lv_sub hl [] rfl)
def n_X3_hasTermsOfOne_b54 (F : Nat)  (S : Zs)  : Option (Int32 × Zs) :=
  n_X3_hasTermsOfOne_b59 F  S (1 : Int32)
set_option maxRecDepth 20000 in
set_option maxHeartbeats 4000000 in
theorem w_X3_hasTermsOfOne_b54 {F : Nat} {q : (Int32 × Zs)} {S : Zs}   {ls : Array Slot} {H : Heap} {locs : List Loc} (C : zC p s m args meth c cX3_hasTermsOfOne 6 RX3 (some .boolean))  (h : n_X3_hasTermsOfOne_b54 F  S  = some q) (hW : zW (xG D cs ad) s S H locs) (hl : lv_has ls 6 []) : W p l e (zR 1 20) s m args below meth c H locs 0 0 (zQi (xG D cs ad) q below args s) (F0 m 54 ls []) := by
  unfold n_X3_hasTermsOfOne_b54 at h
  obtain ⟨hx, hb, hml, hown, hts, hret, hlk⟩ := id C
  refine lv_iconst (v := 1) hx hb dX3_hasTermsOfOne_54 (by decide) ?_
  refine lv_goto (tgt := 59) hx hb dX3_hasTermsOfOne_55 (by decide) ?_
  exact w_X3_hasTermsOfOne_b59 (F := F) C h hW (lv_sub hl [] rfl)
def n_X3_hasTermsOfOne_b34 (F : Nat)  (S : Zs) (x2 : Int32) (x3 : Int32) (x4 : Int32) (x5 : Int32) : Option (Int32 × Zs) :=
  if x4 = x2 then (if x5 = x3 then (n_X3_hasTermsOfOne_b54 F  S ) else (if x5 = (x3 ^^^ (1 : Int32)) then (n_X3_hasTermsOfOne_b54 F  S ) else (n_X3_hasTermsOfOne_b58 F  S ))) else (n_X3_hasTermsOfOne_b58 F  S )
set_option maxRecDepth 20000 in
set_option maxHeartbeats 4000000 in
theorem w_X3_hasTermsOfOne_b34 {F : Nat} {q : (Int32 × Zs)} {S : Zs}  {x2 : Int32} {x3 : Int32} {x4 : Int32} {x5 : Int32} {ls : Array Slot} {H : Heap} {locs : List Loc} (C : zC p s m args meth c cX3_hasTermsOfOne 6 RX3 (some .boolean))  (h : n_X3_hasTermsOfOne_b34 F  S x2 x3 x4 x5 = some q) (hW : zW (xG D cs ad) s S H locs) (hl : lv_has ls 6 [(2, .int x2), (3, .int x3), (4, .int x4), (5, .int x5)]) : W p l e (zR 1 20) s m args below meth c H locs 0 0 (zQi (xG D cs ad) q below args s) (F0 m 34 ls []) := by
  unfold n_X3_hasTermsOfOne_b34 at h
  obtain ⟨hx, hb, hml, hown, hts, hret, hlk⟩ := id C
  refine lv_iload hx hb dX3_hasTermsOfOne_34 (lv_at hl 2 rfl) ?_
  refine lv_iload_n hx hb dX3_hasTermsOfOne_36 rfl (lv_at hl 0 rfl) ?_
  refine zz_cne (tgt := 58) C h dX3_hasTermsOfOne_37 (by decide) (fun h => ?_) (fun h => ?_)
  · exact w_X3_hasTermsOfOne_b58 (F := F) C h hW (lv_sub hl [] rfl)
  · refine lv_iload hx hb dX3_hasTermsOfOne_40 (lv_at hl 3 rfl) ?_
    refine lv_iload_n hx hb dX3_hasTermsOfOne_42 rfl (lv_at hl 1 rfl) ?_
    refine zz_ceq (tgt := 54) C h dX3_hasTermsOfOne_43 (by decide) (fun h => ?_) (fun h => ?_)
    · exact w_X3_hasTermsOfOne_b54 (F := F) C h hW (lv_sub hl [] rfl)
    · refine lv_iload hx hb dX3_hasTermsOfOne_46 (lv_at hl 3 rfl) ?_
      refine lv_iload_n hx hb dX3_hasTermsOfOne_48 rfl (lv_at hl 1 rfl) ?_
      refine lv_iconst (v := 1) hx hb dX3_hasTermsOfOne_49 (by decide) ?_
      refine lv_ixor hx hb dX3_hasTermsOfOne_50 ?_
      refine zz_cne (tgt := 58) C h dX3_hasTermsOfOne_51 (by decide) (fun h => ?_) (fun h => ?_)
      · exact w_X3_hasTermsOfOne_b58 (F := F) C h hW (lv_sub hl [] rfl)
      · exact w_X3_hasTermsOfOne_b54 (F := F) C h hW (lv_sub hl [] rfl)
def n_X3_hasTermsOfOne_e (F : Nat)  (S : Zs) (x0 : Int32) (x1 : Int32) : Option (Int32 × Zs) :=
  zcl (n_X0_subject F S x0) (fun v2 S1 => zcl (n_X0_predicate F S1 x0) (fun v4 S3 => zcl (n_X0_subject F S3 x1) (fun v6 S5 => zcl (n_X0_predicate F S5 x1) (fun v8 S7 => if v6 = v4 then (if v8 = v2 then (n_X3_hasTermsOfOne_b54 F  S7 ) else (n_X3_hasTermsOfOne_b34 F  S7 v2 v4 v6 v8)) else (n_X3_hasTermsOfOne_b34 F  S7 v2 v4 v6 v8)))))
set_option maxRecDepth 20000 in
set_option maxHeartbeats 4000000 in
theorem w_X3_hasTermsOfOne_e {F : Nat} {q : (Int32 × Zs)} {S : Zs}  {x0 : Int32} {x1 : Int32} {ls : Array Slot} {H : Heap} {locs : List Loc} (C : zC p s m args meth c cX3_hasTermsOfOne 6 RX3 (some .boolean))  (h : n_X3_hasTermsOfOne_e F  S x0 x1 = some q) (hW : zW (xG D cs ad) s S H locs) (hl : lv_has ls 6 [(0, .int x0), (1, .int x1)]) : W p l e (zR 1 20) s m args below meth c H locs 0 0 (zQi (xG D cs ad) q below args s) (F0 m 0 ls []) := by
  unfold n_X3_hasTermsOfOne_e at h
  obtain ⟨hx, hb, hml, hown, hts, hret, hlk⟩ := id C
  refine lv_iload_n hx hb dX3_hasTermsOfOne_0 rfl (lv_at hl 0 rfl) ?_
  refine zz_callSi (As := [.int x0]) C hW h (fun r hr => c_X0_subject hr) lk_X3_99 rfl hl.1 ⟨rfl, rfl⟩ ⟨Nat.le_of_ble_eq_true rfl, Nat.le_of_ble_eq_true rfl⟩ (Nat.le_of_ble_eq_true rfl) ⟨Nat.zero_le _, Nat.zero_le _⟩ rfl dX3_hasTermsOfOne_1 (fun v2 S1 H locs h hW => ?_)
  refine lv_istore_n (lv' := [(2, .int v2), (0, .int x0), (1, .int x1)]) hx hb dX3_hasTermsOfOne_4 rfl hl (by decide) rfl (fun ls hl => ?_)
  refine lv_iload_n hx hb dX3_hasTermsOfOne_5 rfl (lv_at hl 1 rfl) ?_
  refine zz_callSi (As := [.int x0]) C hW h (fun r hr => c_X0_predicate hr) lk_X3_104 rfl hl.1 ⟨rfl, rfl⟩ ⟨Nat.le_of_ble_eq_true rfl, Nat.le_of_ble_eq_true rfl⟩ (Nat.le_of_ble_eq_true rfl) ⟨Nat.zero_le _, Nat.zero_le _⟩ rfl dX3_hasTermsOfOne_6 (fun v4 S3 H locs h hW => ?_)
  refine lv_istore_n (lv' := [(3, .int v4), (2, .int v2), (0, .int x0), (1, .int x1)]) hx hb dX3_hasTermsOfOne_9 rfl hl (by decide) rfl (fun ls hl => ?_)
  refine lv_iload_n hx hb dX3_hasTermsOfOne_10 rfl (lv_at hl 3 rfl) ?_
  refine zz_callSi (As := [.int x1]) C hW h (fun r hr => c_X0_subject hr) lk_X3_99 rfl hl.1 ⟨rfl, rfl⟩ ⟨Nat.le_of_ble_eq_true rfl, Nat.le_of_ble_eq_true rfl⟩ (Nat.le_of_ble_eq_true rfl) ⟨Nat.zero_le _, Nat.zero_le _⟩ rfl dX3_hasTermsOfOne_11 (fun v6 S5 H locs h hW => ?_)
  refine lv_istore (lv' := [(4, .int v6), (3, .int v4), (2, .int v2), (0, .int x0), (1, .int x1)]) hx hb dX3_hasTermsOfOne_14 hl (by decide) rfl (fun ls hl => ?_)
  refine lv_iload_n hx hb dX3_hasTermsOfOne_16 rfl (lv_at hl 4 rfl) ?_
  refine zz_callSi (As := [.int x1]) C hW h (fun r hr => c_X0_predicate hr) lk_X3_104 rfl hl.1 ⟨rfl, rfl⟩ ⟨Nat.le_of_ble_eq_true rfl, Nat.le_of_ble_eq_true rfl⟩ (Nat.le_of_ble_eq_true rfl) ⟨Nat.zero_le _, Nat.zero_le _⟩ rfl dX3_hasTermsOfOne_17 (fun v8 S7 H locs h hW => ?_)
  refine lv_istore (lv' := [(5, .int v8), (4, .int v6), (3, .int v4), (2, .int v2), (0, .int x0), (1, .int x1)]) hx hb dX3_hasTermsOfOne_20 hl (by decide) rfl (fun ls hl => ?_)
  refine lv_iload hx hb dX3_hasTermsOfOne_22 (lv_at hl 1 rfl) ?_
  refine lv_iload_n hx hb dX3_hasTermsOfOne_24 rfl (lv_at hl 2 rfl) ?_
  refine zz_cne (tgt := 34) C h dX3_hasTermsOfOne_25 (by decide) (fun h => ?_) (fun h => ?_)
  · exact w_X3_hasTermsOfOne_b34 (F := F) C h hW (lv_sub hl [3, 2, 1, 0] rfl)
  · refine lv_iload hx hb dX3_hasTermsOfOne_28 (lv_at hl 0 rfl) ?_
    refine lv_iload_n hx hb dX3_hasTermsOfOne_30 rfl (lv_at hl 3 rfl) ?_
    refine zz_ceq (tgt := 54) C h dX3_hasTermsOfOne_31 (by decide) (fun h => ?_) (fun h => ?_)
    · exact w_X3_hasTermsOfOne_b54 (F := F) C h hW (lv_sub hl [] rfl)
    · exact w_X3_hasTermsOfOne_b34 (F := F) C h hW (lv_sub hl [3, 2, 1, 0] rfl)
def n_X3_hasTermsOfOne (F : Nat) (S : Zs) (x0 : Int32) (x1 : Int32) : Option (Int32 × Zs) := n_X3_hasTermsOfOne_e F  S x0 x1
theorem c_X3_hasTermsOfOne {l : Launch} {D : va_G} {cs ad : Nat → Nat} {F : Nat} {S : Zs} {x0 : Int32} {x1 : Int32} {q : (Int32 × Zs)} (h : n_X3_hasTermsOfOne F S x0 x1 = some q) : zMi l yX3_hasTermsOfOne cX3_hasTermsOfOne 6 (some .boolean) (zR 1 20) (xG D cs ad) [.int x0, .int x1] S q :=
  zz_enter (by decide) (Nat.le_of_ble_eq_true rfl) (fun p e s m below meth c ls C hW hl => w_X3_hasTermsOfOne_e (F := F) C h hW (lv_sub hl [0, 1] rfl))
def n_X3_weigh_41_b38 (F : Nat)  (S : Zs)  : Option (Int32 × Zs) :=
  some ((1 : Int32), S)
set_option maxRecDepth 20000 in
set_option maxHeartbeats 4000000 in
theorem w_X3_weigh_41_b38 {F : Nat} {q : (Int32 × Zs)} {S : Zs}   {ls : Array Slot} {H : Heap} {locs : List Loc} (C : zC p s m args meth c cX3_weigh 4 RX3 (some .int))  (h : n_X3_weigh_41_b38 F  S  = some q) (hW : zW (xG D cs ad) s S H locs) (hl : lv_has ls 4 []) : W p l e (zR 5 122) s m args below meth c H locs 0 0 (zQi (xG D cs ad) q below args s) (F0 m 38 ls []) := by
  unfold n_X3_weigh_41_b38 at h
  obtain ⟨hx, hb, hml, hown, hts, hret, hlk⟩ := id C
  refine lv_iconst (v := 1) hx hb dX3_weigh_38 (by decide) ?_
  exact zz_iret C rfl h hW dX3_weigh_39
def n_X3_weigh_41_b135 (F : Nat)  (S : Zs) (x1 : Int32) (x2 : Int32) (x3 : Int32) : Option (Int32 × Zs) :=
  zcl (n_X3_tryMoods_41 F S x1 x2 x3) (fun v2 S1 => some (v2, S1))
set_option maxRecDepth 20000 in
set_option maxHeartbeats 4000000 in
theorem w_X3_weigh_41_b135 {F : Nat} {q : (Int32 × Zs)} {S : Zs}  {x1 : Int32} {x2 : Int32} {x3 : Int32} {ls : Array Slot} {H : Heap} {locs : List Loc} (C : zC p s m args meth c cX3_weigh 4 RX3 (some .int))  (h : n_X3_weigh_41_b135 F  S x1 x2 x3 = some q) (hW : zW (xG D cs ad) s S H locs) (hl : lv_has ls 4 [(0, .ref (ad 41)), (1, .int x1), (2, .int x2), (3, .int x3)]) : W p l e (zR 5 122) s m args below meth c H locs 0 0 (zQi (xG D cs ad) q below args s) (F0 m 135 ls []) := by
  unfold n_X3_weigh_41_b135 at h
  obtain ⟨hx, hb, hml, hown, hts, hret, hlk⟩ := id C
  refine lv_aload_n hx hb dX3_weigh_135 rfl (lv_at hl 0 rfl) ?_
  refine lv_iload_n hx hb dX3_weigh_136 rfl (lv_at hl 1 rfl) ?_
  refine lv_iload_n hx hb dX3_weigh_137 rfl (lv_at hl 2 rfl) ?_
  refine lv_iload_n hx hb dX3_weigh_138 rfl (lv_at hl 3 rfl) ?_
  refine zz_callVi (As := [.int x1, .int x2, .int x3]) C hW h (fun r hr => c_X3_tryMoods_41 hr) lk_X3_84 (hW.recv xr_41) rfl hl.1 ⟨rfl, rfl⟩ ⟨Nat.le_of_ble_eq_true rfl, Nat.le_of_ble_eq_true rfl⟩ (Nat.le_of_ble_eq_true rfl) ⟨Nat.zero_le _, Nat.zero_le _⟩ rfl dX3_weigh_139 (fun v2 S1 H locs h hW => ?_)
  exact zz_iret C rfl h hW dX3_weigh_142
def n_X3_weigh_41_b93 (F : Nat)  (S : Zs) (t0 : Int32) : Option (Int32 × Zs) :=
  some (t0, S)
set_option maxRecDepth 20000 in
set_option maxHeartbeats 4000000 in
theorem w_X3_weigh_41_b93 {F : Nat} {q : (Int32 × Zs)} {S : Zs}  {t0 : Int32} {ls : Array Slot} {H : Heap} {locs : List Loc} (C : zC p s m args meth c cX3_weigh 4 RX3 (some .int))  (h : n_X3_weigh_41_b93 F  S t0 = some q) (hW : zW (xG D cs ad) s S H locs) (hl : lv_has ls 4 []) : W p l e (zR 5 122) s m args below meth c H locs 0 0 (zQi (xG D cs ad) q below args s) (F0 m 93 ls [.int t0]) := by
  unfold n_X3_weigh_41_b93 at h
  obtain ⟨hx, hb, hml, hown, hts, hret, hlk⟩ := id C
  exact zz_iret C rfl h hW dX3_weigh_93
def n_X3_weigh_41_b40 (F : Nat)  (S : Zs) (x1 : Int32) : Option (Int32 × Zs) :=
  if x1 < (24 : Int32) then (zld S 44 40 x1 (fun v1 => zcl (n_X3_codeOf_41 F S v1) (fun v3 S2 => zld S2 45 40 x1 (fun v4 => if v4 = (-1 : Int32) then (zld S2 42 40 x1 (fun v14 => zcl (n_X3_hasTermsOfOne F S2 v3 v14) (fun v16 S15 => if v16 = 0 then (n_X3_weigh_41_b93 F  S15 (3 : Int32)) else (zcl (n_X3_tryMoods_41 F S15 x1 v3 (-1 : Int32)) (fun v18 S17 => n_X3_weigh_41_b93 F  S17 v18))))) else (zld S2 45 40 x1 (fun v5 => zcl (n_X3_codeOf_41 F S2 v5) (fun v7 S6 => zld S6 42 40 x1 (fun v8 => zcl (n_X3_hasTermsOfTwo F S6 v3 v7 v8) (fun v10 S9 => if v10 = 0 then (zld S9 42 40 x1 (fun v11 => zcl (n_X3_hasTermsOfTwo F S9 v7 v3 v11) (fun v13 S12 => if v13 = 0 then (some ((3 : Int32), S12)) else (n_X3_weigh_41_b135 F  S12 x1 v3 v7)))) else (n_X3_weigh_41_b135 F  S9 x1 v3 v7)))))))))) else (some ((2 : Int32), S))
set_option maxRecDepth 20000 in
set_option maxHeartbeats 4000000 in
theorem w_X3_weigh_41_b40 {F : Nat} {q : (Int32 × Zs)} {S : Zs}  {x1 : Int32} {ls : Array Slot} {H : Heap} {locs : List Loc} (C : zC p s m args meth c cX3_weigh 4 RX3 (some .int))  (h : n_X3_weigh_41_b40 F  S x1 = some q) (hW : zW (xG D cs ad) s S H locs) (hl : lv_has ls 4 [(0, .ref (ad 41)), (1, .int x1)]) : W p l e (zR 5 122) s m args below meth c H locs 0 0 (zQi (xG D cs ad) q below args s) (F0 m 40 ls []) := by
  unfold n_X3_weigh_41_b40 at h
  obtain ⟨hx, hb, hml, hown, hts, hret, hlk⟩ := id C
  refine lv_iload_n hx hb dX3_weigh_40 rfl (lv_at hl 1 rfl) ?_
  refine lv_bipush (v := 24) hx hb dX3_weigh_41 (by decide) ?_
  refine zz_clt (tgt := 48) C h dX3_weigh_43 (by decide) (fun h => ?_) (fun h => ?_)
  · refine lv_aload_n hx hb dX3_weigh_48 rfl (lv_at hl 0 rfl) ?_
    refine lv_aload_n hx hb dX3_weigh_49 rfl (lv_at hl 0 rfl) ?_
    refine xg_41_3 C hW fl_X3_18 dX3_weigh_50 ?_
    refine lv_iload_n hx hb dX3_weigh_53 rfl (lv_at hl 1 rfl) ?_
    refine xl_44 C hW h dX3_weigh_54 (fun v1 h => ?_)
    refine zz_callVi (As := [.int v1]) C hW h (fun r hr => c_X3_codeOf_41 hr) lk_X3_78 (hW.recv xr_41) rfl hl.1 ⟨rfl, rfl⟩ ⟨Nat.le_of_ble_eq_true rfl, Nat.le_of_ble_eq_true rfl⟩ (Nat.le_of_ble_eq_true rfl) ⟨Nat.zero_le _, Nat.zero_le _⟩ rfl dX3_weigh_55 (fun v3 S2 H locs h hW => ?_)
    refine lv_istore_n (lv' := [(2, .int v3), (0, .ref (ad 41)), (1, .int x1)]) hx hb dX3_weigh_58 rfl hl (by decide) rfl (fun ls hl => ?_)
    refine lv_aload_n hx hb dX3_weigh_59 rfl (lv_at hl 1 rfl) ?_
    refine xg_41_4 C hW fl_X3_21 dX3_weigh_60 ?_
    refine lv_iload_n hx hb dX3_weigh_63 rfl (lv_at hl 2 rfl) ?_
    refine xl_45 C hW h dX3_weigh_64 (fun v4 h => ?_)
    refine lv_iconst (v := -1) hx hb dX3_weigh_65 (by decide) ?_
    refine zz_cne (tgt := 94) C h dX3_weigh_66 (by decide) (fun h => ?_) (fun h => ?_)
    · refine lv_aload_n hx hb dX3_weigh_94 rfl (lv_at hl 1 rfl) ?_
      refine lv_aload_n hx hb dX3_weigh_95 rfl (lv_at hl 1 rfl) ?_
      refine xg_41_4 C hW fl_X3_21 dX3_weigh_96 ?_
      refine lv_iload_n hx hb dX3_weigh_99 rfl (lv_at hl 2 rfl) ?_
      refine xl_45 C hW h dX3_weigh_100 (fun v5 h => ?_)
      refine zz_callVi (As := [.int v5]) C hW h (fun r hr => c_X3_codeOf_41 hr) lk_X3_78 (hW.recv xr_41) rfl hl.1 ⟨rfl, rfl⟩ ⟨Nat.le_of_ble_eq_true rfl, Nat.le_of_ble_eq_true rfl⟩ (Nat.le_of_ble_eq_true rfl) ⟨Nat.zero_le _, Nat.zero_le _⟩ rfl dX3_weigh_101 (fun v7 S6 H locs h hW => ?_)
      refine lv_istore_n (lv' := [(3, .int v7), (2, .int v3), (0, .ref (ad 41)), (1, .int x1)]) hx hb dX3_weigh_104 rfl hl (by decide) rfl (fun ls hl => ?_)
      refine lv_iload_n hx hb dX3_weigh_105 rfl (lv_at hl 1 rfl) ?_
      refine lv_iload_n hx hb dX3_weigh_106 rfl (lv_at hl 0 rfl) ?_
      refine lv_aload_n hx hb dX3_weigh_107 rfl (lv_at hl 2 rfl) ?_
      refine xg_41_1 C hW fl_X3_11 dX3_weigh_108 ?_
      refine lv_iload_n hx hb dX3_weigh_111 rfl (lv_at hl 3 rfl) ?_
      refine xl_42 C hW h dX3_weigh_112 (fun v8 h => ?_)
      refine zz_callSi (As := [.int v3, .int v7, .int v8]) C hW h (fun r hr => c_X3_hasTermsOfTwo hr) lk_X3_88 rfl hl.1 ⟨rfl, rfl⟩ ⟨Nat.le_of_ble_eq_true rfl, Nat.le_of_ble_eq_true rfl⟩ (Nat.le_of_ble_eq_true rfl) ⟨Nat.zero_le _, Nat.zero_le _⟩ rfl dX3_weigh_113 (fun v10 S9 H locs h hW => ?_)
      refine zz_ine (tgt := 135) C h dX3_weigh_116 (by decide) (fun h => ?_) (fun h => ?_)
      · exact w_X3_weigh_41_b135 (F := F) C h hW (lv_sub hl [2, 3, 1, 0] rfl)
      · refine lv_iload_n hx hb dX3_weigh_119 rfl (lv_at hl 0 rfl) ?_
        refine lv_iload_n hx hb dX3_weigh_120 rfl (lv_at hl 1 rfl) ?_
        refine lv_aload_n hx hb dX3_weigh_121 rfl (lv_at hl 2 rfl) ?_
        refine xg_41_1 C hW fl_X3_11 dX3_weigh_122 ?_
        refine lv_iload_n hx hb dX3_weigh_125 rfl (lv_at hl 3 rfl) ?_
        refine xl_42 C hW h dX3_weigh_126 (fun v11 h => ?_)
        refine zz_callSi (As := [.int v7, .int v3, .int v11]) C hW h (fun r hr => c_X3_hasTermsOfTwo hr) lk_X3_88 rfl hl.1 ⟨rfl, rfl⟩ ⟨Nat.le_of_ble_eq_true rfl, Nat.le_of_ble_eq_true rfl⟩ (Nat.le_of_ble_eq_true rfl) ⟨Nat.zero_le _, Nat.zero_le _⟩ rfl dX3_weigh_127 (fun v13 S12 H locs h hW => ?_)
        refine zz_ine (tgt := 135) C h dX3_weigh_130 (by decide) (fun h => ?_) (fun h => ?_)
        · exact w_X3_weigh_41_b135 (F := F) C h hW (lv_sub hl [2, 3, 1, 0] rfl)
        · refine lv_iconst (v := 3) hx hb dX3_weigh_133 (by decide) ?_
          exact zz_iret C rfl h hW dX3_weigh_134
    · refine lv_iload_n hx hb dX3_weigh_69 rfl (lv_at hl 0 rfl) ?_
      refine lv_aload_n hx hb dX3_weigh_70 rfl (lv_at hl 1 rfl) ?_
      refine xg_41_1 C hW fl_X3_11 dX3_weigh_71 ?_
      refine lv_iload_n hx hb dX3_weigh_74 rfl (lv_at hl 2 rfl) ?_
      refine xl_42 C hW h dX3_weigh_75 (fun v14 h => ?_)
      refine zz_callSi (As := [.int v3, .int v14]) C hW h (fun r hr => c_X3_hasTermsOfOne hr) lk_X3_81 rfl hl.1 ⟨rfl, rfl⟩ ⟨Nat.le_of_ble_eq_true rfl, Nat.le_of_ble_eq_true rfl⟩ (Nat.le_of_ble_eq_true rfl) ⟨Nat.zero_le _, Nat.zero_le _⟩ rfl dX3_weigh_76 (fun v16 S15 H locs h hW => ?_)
      refine zz_ieq (tgt := 92) C h dX3_weigh_79 (by decide) (fun h => ?_) (fun h => ?_)
      · refine lv_iconst (v := 3) hx hb dX3_weigh_92 (by decide) ?_
        exact w_X3_weigh_41_b93 (F := F) C h hW (lv_sub hl [] rfl)
      · refine lv_aload_n hx hb dX3_weigh_82 rfl (lv_at hl 1 rfl) ?_
        refine lv_iload_n hx hb dX3_weigh_83 rfl (lv_at hl 2 rfl) ?_
        refine lv_iload_n hx hb dX3_weigh_84 rfl (lv_at hl 0 rfl) ?_
        refine lv_iconst (v := -1) hx hb dX3_weigh_85 (by decide) ?_
        refine zz_callVi (As := [.int x1, .int v3, .int (-1 : Int32)]) C hW h (fun r hr => c_X3_tryMoods_41 hr) lk_X3_84 (hW.recv xr_41) rfl hl.1 ⟨rfl, rfl⟩ ⟨Nat.le_of_ble_eq_true rfl, Nat.le_of_ble_eq_true rfl⟩ (Nat.le_of_ble_eq_true rfl) ⟨Nat.zero_le _, Nat.zero_le _⟩ rfl dX3_weigh_86 (fun v18 S17 H locs h hW => ?_)
        refine lv_goto (tgt := 93) hx hb dX3_weigh_89 (by decide) ?_
        exact w_X3_weigh_41_b93 (F := F) C h hW (lv_sub hl [] rfl)
  · refine lv_iconst (v := 2) hx hb dX3_weigh_46 (by decide) ?_
    exact zz_iret C rfl h hW dX3_weigh_47
def n_X3_weigh_41_e (F : Nat)  (S : Zs) (x1 : Int32) : Option (Int32 × Zs) :=
  zld S 44 40 x1 (fun v1 => zcl (n_X3_isKnown_41 F S v1 x1) (fun v3 S2 => if v3 = 0 then (n_X3_weigh_41_b38 F  S2 ) else (zld S2 45 40 x1 (fun v4 => if v4 = (-1 : Int32) then (n_X3_weigh_41_b40 F  S2 x1) else (zld S2 45 40 x1 (fun v5 => zcl (n_X3_isKnown_41 F S2 v5 x1) (fun v7 S6 => if v7 = 0 then (n_X3_weigh_41_b38 F  S6 ) else (n_X3_weigh_41_b40 F  S6 x1))))))))
set_option maxRecDepth 20000 in
set_option maxHeartbeats 4000000 in
theorem w_X3_weigh_41_e {F : Nat} {q : (Int32 × Zs)} {S : Zs}  {x1 : Int32} {ls : Array Slot} {H : Heap} {locs : List Loc} (C : zC p s m args meth c cX3_weigh 4 RX3 (some .int))  (h : n_X3_weigh_41_e F  S x1 = some q) (hW : zW (xG D cs ad) s S H locs) (hl : lv_has ls 4 [(0, .ref (ad 41)), (1, .int x1)]) : W p l e (zR 5 122) s m args below meth c H locs 0 0 (zQi (xG D cs ad) q below args s) (F0 m 0 ls []) := by
  unfold n_X3_weigh_41_e at h
  obtain ⟨hx, hb, hml, hown, hts, hret, hlk⟩ := id C
  refine lv_aload_n hx hb dX3_weigh_0 rfl (lv_at hl 0 rfl) ?_
  refine lv_aload_n hx hb dX3_weigh_1 rfl (lv_at hl 0 rfl) ?_
  refine xg_41_3 C hW fl_X3_18 dX3_weigh_2 ?_
  refine lv_iload_n hx hb dX3_weigh_5 rfl (lv_at hl 1 rfl) ?_
  refine xl_44 C hW h dX3_weigh_6 (fun v1 h => ?_)
  refine lv_iload_n hx hb dX3_weigh_7 rfl (lv_at hl 1 rfl) ?_
  refine zz_callVi (As := [.int v1, .int x1]) C hW h (fun r hr => c_X3_isKnown_41 hr) lk_X3_74 (hW.recv xr_41) rfl hl.1 ⟨rfl, rfl⟩ ⟨Nat.le_of_ble_eq_true rfl, Nat.le_of_ble_eq_true rfl⟩ (Nat.le_of_ble_eq_true rfl) ⟨Nat.zero_le _, Nat.zero_le _⟩ rfl dX3_weigh_8 (fun v3 S2 H locs h hW => ?_)
  refine zz_ieq (tgt := 38) C h dX3_weigh_11 (by decide) (fun h => ?_) (fun h => ?_)
  · exact w_X3_weigh_41_b38 (F := F) C h hW (lv_sub hl [] rfl)
  · refine lv_aload_n hx hb dX3_weigh_14 rfl (lv_at hl 0 rfl) ?_
    refine xg_41_4 C hW fl_X3_21 dX3_weigh_15 ?_
    refine lv_iload_n hx hb dX3_weigh_18 rfl (lv_at hl 1 rfl) ?_
    refine xl_45 C hW h dX3_weigh_19 (fun v4 h => ?_)
    refine lv_iconst (v := -1) hx hb dX3_weigh_20 (by decide) ?_
    refine zz_ceq (tgt := 40) C h dX3_weigh_21 (by decide) (fun h => ?_) (fun h => ?_)
    · exact w_X3_weigh_41_b40 (F := F) C h hW (lv_sub hl [0, 1] rfl)
    · refine lv_aload_n hx hb dX3_weigh_24 rfl (lv_at hl 0 rfl) ?_
      refine lv_aload_n hx hb dX3_weigh_25 rfl (lv_at hl 0 rfl) ?_
      refine xg_41_4 C hW fl_X3_21 dX3_weigh_26 ?_
      refine lv_iload_n hx hb dX3_weigh_29 rfl (lv_at hl 1 rfl) ?_
      refine xl_45 C hW h dX3_weigh_30 (fun v5 h => ?_)
      refine lv_iload_n hx hb dX3_weigh_31 rfl (lv_at hl 1 rfl) ?_
      refine zz_callVi (As := [.int v5, .int x1]) C hW h (fun r hr => c_X3_isKnown_41 hr) lk_X3_74 (hW.recv xr_41) rfl hl.1 ⟨rfl, rfl⟩ ⟨Nat.le_of_ble_eq_true rfl, Nat.le_of_ble_eq_true rfl⟩ (Nat.le_of_ble_eq_true rfl) ⟨Nat.zero_le _, Nat.zero_le _⟩ rfl dX3_weigh_32 (fun v7 S6 H locs h hW => ?_)
      refine zz_ine (tgt := 40) C h dX3_weigh_35 (by decide) (fun h => ?_) (fun h => ?_)
      · exact w_X3_weigh_41_b40 (F := F) C h hW (lv_sub hl [0, 1] rfl)
      · exact w_X3_weigh_41_b38 (F := F) C h hW (lv_sub hl [] rfl)
def n_X3_weigh_41 (F : Nat) (S : Zs) (x1 : Int32) : Option (Int32 × Zs) := n_X3_weigh_41_e F  S x1
theorem c_X3_weigh_41 {l : Launch} {D : va_G} {cs ad : Nat → Nat} {F : Nat} {S : Zs} {x1 : Int32} {q : (Int32 × Zs)} (h : n_X3_weigh_41 F S x1 = some q) : zMi l yX3_weigh cX3_weigh 4 (some .int) (zR 5 122) (xG D cs ad) [.ref (ad 41), .int x1] S q :=
  zz_enter (by decide) (Nat.le_of_ble_eq_true rfl) (fun p e s m below meth c ls C hW hl => w_X3_weigh_41_e (F := F) C h hW (lv_sub hl [0, 1] rfl))
end ZM
