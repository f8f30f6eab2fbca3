section LWL
variable {p : Program} {l : Launch} {e : Env} {s : State} {m : MethodId} {below : List Frame} {meth : Method} {c : Code} {Q : State → Prop} {D : va_G} {cs ad am : Nat → Nat} {o b L i : Nat} {xs : Nat → Int32} {F : Nat} {Rel : Zs → Zs → Prop}
set_option maxHeartbeats 4000000 in
set_option maxRecDepth 20000 in
theorem lc_24 (hS : S_chain F Rel) (C : zC p s m #[Value.ref b] meth c code 7 RL ret) (hX : va_X b L xs s s.heap) (hbl : b < s.heap.size) (hi : i ≤ 320) (h1 : vp_in (nI i + 1) L) (h2 : vp_in (nI i + 2) L) (h3 : vp_in (nI i + 3) L) (h4 : vp_in (nI i + 4) L)  (nxt : ∀ (X M : Zs) (f : Nat → Int64) (H : Heap) (locs : List Loc) (K N : Nat) (ls : Array Slot), Rel X M → lW D cs ad am o s X M f H locs → K ≤ 1000 + 2 * (i + 5) → N ≤ 100000 + 40 * (i + 5) → lv_has ls 7 [(0, .ref b), (1, .ref (ad 0)), (2, .ref (am 0)), (3, .ref o), (4, .int (nI i))] → W p l e room_1 s m #[Value.ref b] below meth c H locs K N Q (F0 m 1670 ls [])) {X M : Zs} {f : Nat → Int64} {H : Heap} {locs : List Loc} {K N : Nat} {ls : Array Slot} (hR : Rel X M) (hW : lW D cs ad am o s X M f H locs) (hK : K ≤ 1000 + 2 * i) (hN : N ≤ 100000 + 40 * i) (hl : lv_has ls 7 [(0, .ref b), (1, .ref (ad 0)), (2, .ref (am 0)), (3, .ref o), (4, .int (nI i))]) : W p l e room_1 s m #[Value.ref b] below meth c H locs K N Q (F0 m 935 ls []) := by
  obtain ⟨hx, hb, hml, hown, hts, hret, hlk⟩ := id C
  have hbA : ¬ lA s b := Nat.not_le.mpr hbl
  have hK2 : K ≤ 2000 := by omega
  have hN2 : N ≤ 200000 := by omega
  refine lv_aload_n hx hb dL_law_935 rfl (lv_at hl 1 rfl) ?_
  refine lv_aload_n hx hb dL_law_936 rfl (lv_at hl 0 rfl) ?_
  refine lv_iload hx hb dL_law_937 (lv_at hl 4 rfl) ?_
  refine lv_iconst (v := 1) hx hb dL_law_939 (by decide) ?_
  refine lv_iadd hx hb dL_law_940 ?_
  refine va_sld hx hb hX hbl hbA hW.2.2.2.2.2.2 h1 dL_law_941 ?_
  refine lv_aload_n hx hb dL_law_942 rfl (lv_at hl 0 rfl) ?_
  refine lv_iload hx hb dL_law_943 (lv_at hl 4 rfl) ?_
  refine lv_iconst (v := 2) hx hb dL_law_945 (by decide) ?_
  refine lv_iadd hx hb dL_law_946 ?_
  refine va_sld hx hb hX hbl hbA hW.2.2.2.2.2.2 h2 dL_law_947 ?_
  obtain ⟨r, X2, M2, ex, em, hR2⟩ := hS X M hR (xs (nI i + 1).toNatClampNeg) (xs (nI i + 2).toNatClampNeg)
  refine lz_callx (As := [.int (xs (nI i + 1).toNatClampNeg), .int (xs (nI i + 2).toNatClampNeg)]) C hW (c_X11_chain_0 ex) lk_L_132 rfl hl.1 ⟨rfl, rfl⟩ ⟨Nat.le_of_ble_eq_true rfl, Nat.le_of_ble_eq_true rfl⟩ (Nat.le_of_ble_eq_true rfl) ⟨Nat.le_trans hK2 (by decide), Nat.le_trans hN2 (by decide)⟩ rfl dL_law_948 (fun H locs hW => ?_)
  refine lv_aload_n hx hb dL_law_951 rfl (lv_at hl 2 rfl) ?_
  refine lv_aload_n hx hb dL_law_952 rfl (lv_at hl 0 rfl) ?_
  refine lv_iload hx hb dL_law_953 (lv_at hl 4 rfl) ?_
  refine lv_iconst (v := 1) hx hb dL_law_955 (by decide) ?_
  refine lv_iadd hx hb dL_law_956 ?_
  refine va_sld hx hb hX hbl hbA hW.2.2.2.2.2.2 h1 dL_law_957 ?_
  refine lv_aload_n hx hb dL_law_958 rfl (lv_at hl 0 rfl) ?_
  refine lv_iload hx hb dL_law_959 (lv_at hl 4 rfl) ?_
  refine lv_iconst (v := 2) hx hb dL_law_961 (by decide) ?_
  refine lv_iadd hx hb dL_law_962 ?_
  refine va_sld hx hb hX hbl hbA hW.2.2.2.2.2.2 h2 dL_law_963 ?_
  refine lz_callm (As := [.int (xs (nI i + 1).toNatClampNeg), .int (xs (nI i + 2).toNatClampNeg)]) C hW (c_X12_chain_0 em) lk_L_135 rfl hl.1 ⟨rfl, rfl⟩ ⟨Nat.le_of_ble_eq_true rfl, Nat.le_of_ble_eq_true rfl⟩ (Nat.le_of_ble_eq_true rfl) ⟨Nat.le_trans hK2 (by decide), Nat.le_trans hN2 (by decide)⟩ rfl dL_law_964 (fun H locs hW => ?_)
  refine lv_icmp_eq (tgt := 1670) hx hb dL_law_967 (by decide) (fun _ => ?_) (fun g => absurd rfl g)
  exact nxt X2 M2 f H locs K N ls hR2 hW (by omega) (by omega) hl
set_option maxHeartbeats 4000000 in
set_option maxRecDepth 20000 in
theorem lc_25 (hS : S_sorts F Rel) (C : zC p s m #[Value.ref b] meth c code 7 RL ret) (hX : va_X b L xs s s.heap) (hbl : b < s.heap.size) (hi : i ≤ 320) (h1 : vp_in (nI i + 1) L) (h2 : vp_in (nI i + 2) L) (h3 : vp_in (nI i + 3) L) (h4 : vp_in (nI i + 4) L)  (nxt : ∀ (X M : Zs) (f : Nat → Int64) (H : Heap) (locs : List Loc) (K N : Nat) (ls : Array Slot), Rel X M → lW D cs ad am o s X M f H locs → K ≤ 1000 + 2 * (i + 5) → N ≤ 100000 + 40 * (i + 5) → lv_has ls 7 [(0, .ref b), (1, .ref (ad 0)), (2, .ref (am 0)), (3, .ref o), (4, .int (nI i))] → W p l e room_1 s m #[Value.ref b] below meth c H locs K N Q (F0 m 1670 ls [])) {X M : Zs} {f : Nat → Int64} {H : Heap} {locs : List Loc} {K N : Nat} {ls : Array Slot} (hR : Rel X M) (hW : lW D cs ad am o s X M f H locs) (hK : K ≤ 1000 + 2 * i) (hN : N ≤ 100000 + 40 * i) (hl : lv_has ls 7 [(0, .ref b), (1, .ref (ad 0)), (2, .ref (am 0)), (3, .ref o), (4, .int (nI i))]) : W p l e room_1 s m #[Value.ref b] below meth c H locs K N Q (F0 m 972 ls []) := by
  obtain ⟨hx, hb, hml, hown, hts, hret, hlk⟩ := id C
  have hbA : ¬ lA s b := Nat.not_le.mpr hbl
  have hK2 : K ≤ 2000 := by omega
  have hN2 : N ≤ 200000 := by omega
  refine lv_aload_n hx hb dL_law_972 rfl (lv_at hl 1 rfl) ?_
  obtain ⟨r, X2, M2, ex, em, hR2⟩ := hS X M hR 
  refine lz_callx (As := []) C hW (c_X11_sorts_0 ex) lk_L_136 rfl hl.1 ⟨rfl, rfl⟩ ⟨Nat.le_of_ble_eq_true rfl, Nat.le_of_ble_eq_true rfl⟩ (Nat.le_of_ble_eq_true rfl) ⟨Nat.le_trans hK2 (by decide), Nat.le_trans hN2 (by decide)⟩ rfl dL_law_973 (fun H locs hW => ?_)
  refine lv_aload_n hx hb dL_law_976 rfl (lv_at hl 2 rfl) ?_
  refine lz_callm (As := []) C hW (c_X12_sorts_0 em) lk_L_139 rfl hl.1 ⟨rfl, rfl⟩ ⟨Nat.le_of_ble_eq_true rfl, Nat.le_of_ble_eq_true rfl⟩ (Nat.le_of_ble_eq_true rfl) ⟨Nat.le_trans hK2 (by decide), Nat.le_trans hN2 (by decide)⟩ rfl dL_law_977 (fun H locs hW => ?_)
  refine lv_icmp_eq (tgt := 1670) hx hb dL_law_980 (by decide) (fun _ => ?_) (fun g => absurd rfl g)
  exact nxt X2 M2 f H locs K N ls hR2 hW (by omega) (by omega) hl
set_option maxHeartbeats 4000000 in
set_option maxRecDepth 20000 in
theorem lc_26 (hS : S_sort F Rel) (C : zC p s m #[Value.ref b] meth c code 7 RL ret) (hX : va_X b L xs s s.heap) (hbl : b < s.heap.size) (hi : i ≤ 320) (h1 : vp_in (nI i + 1) L) (h2 : vp_in (nI i + 2) L) (h3 : vp_in (nI i + 3) L) (h4 : vp_in (nI i + 4) L)  (nxt : ∀ (X M : Zs) (f : Nat → Int64) (H : Heap) (locs : List Loc) (K N : Nat) (ls : Array Slot), Rel X M → lW D cs ad am o s X M f H locs → K ≤ 1000 + 2 * (i + 5) → N ≤ 100000 + 40 * (i + 5) → lv_has ls 7 [(0, .ref b), (1, .ref (ad 0)), (2, .ref (am 0)), (3, .ref o), (4, .int (nI i))] → W p l e room_1 s m #[Value.ref b] below meth c H locs K N Q (F0 m 1670 ls [])) {X M : Zs} {f : Nat → Int64} {H : Heap} {locs : List Loc} {K N : Nat} {ls : Array Slot} (hR : Rel X M) (hW : lW D cs ad am o s X M f H locs) (hK : K ≤ 1000 + 2 * i) (hN : N ≤ 100000 + 40 * i) (hl : lv_has ls 7 [(0, .ref b), (1, .ref (ad 0)), (2, .ref (am 0)), (3, .ref o), (4, .int (nI i))]) : W p l e room_1 s m #[Value.ref b] below meth c H locs K N Q (F0 m 985 ls []) := by
  obtain ⟨hx, hb, hml, hown, hts, hret, hlk⟩ := id C
  have hbA : ¬ lA s b := Nat.not_le.mpr hbl
  have hK2 : K ≤ 2000 := by omega
  have hN2 : N ≤ 200000 := by omega
  refine lv_aload_n hx hb dL_law_985 rfl (lv_at hl 1 rfl) ?_
  refine lv_aload_n hx hb dL_law_986 rfl (lv_at hl 0 rfl) ?_
  refine lv_iload hx hb dL_law_987 (lv_at hl 4 rfl) ?_
  refine lv_iconst (v := 1) hx hb dL_law_989 (by decide) ?_
  refine lv_iadd hx hb dL_law_990 ?_
  refine va_sld hx hb hX hbl hbA hW.2.2.2.2.2.2 h1 dL_law_991 ?_
  obtain ⟨r, X2, M2, ex, em, hR2⟩ := hS X M hR (xs (nI i + 1).toNatClampNeg)
  refine lz_callx (As := [.int (xs (nI i + 1).toNatClampNeg)]) C hW (c_X11_sort_0 ex) lk_L_140 rfl hl.1 ⟨rfl, rfl⟩ ⟨Nat.le_of_ble_eq_true rfl, Nat.le_of_ble_eq_true rfl⟩ (Nat.le_of_ble_eq_true rfl) ⟨Nat.le_trans hK2 (by decide), Nat.le_trans hN2 (by decide)⟩ rfl dL_law_992 (fun H locs hW => ?_)
  refine lv_aload_n hx hb dL_law_995 rfl (lv_at hl 2 rfl) ?_
  refine lv_aload_n hx hb dL_law_996 rfl (lv_at hl 0 rfl) ?_
  refine lv_iload hx hb dL_law_997 (lv_at hl 4 rfl) ?_
  refine lv_iconst (v := 1) hx hb dL_law_999 (by decide) ?_
  refine lv_iadd hx hb dL_law_1000 ?_
  refine va_sld hx hb hX hbl hbA hW.2.2.2.2.2.2 h1 dL_law_1001 ?_
  refine lz_callm (As := [.int (xs (nI i + 1).toNatClampNeg)]) C hW (c_X12_sort_0 em) lk_L_143 rfl hl.1 ⟨rfl, rfl⟩ ⟨Nat.le_of_ble_eq_true rfl, Nat.le_of_ble_eq_true rfl⟩ (Nat.le_of_ble_eq_true rfl) ⟨Nat.le_trans hK2 (by decide), Nat.le_trans hN2 (by decide)⟩ rfl dL_law_1002 (fun H locs hW => ?_)
  refine lv_icmp_eq (tgt := 1670) hx hb dL_law_1005 (by decide) (fun _ => ?_) (fun g => absurd rfl g)
  exact nxt X2 M2 f H locs K N ls hR2 hW (by omega) (by omega) hl
set_option maxHeartbeats 4000000 in
set_option maxRecDepth 20000 in
theorem lc_27 (hS : S_both F Rel) (C : zC p s m #[Value.ref b] meth c code 7 RL ret) (hX : va_X b L xs s s.heap) (hbl : b < s.heap.size) (hi : i ≤ 320) (h1 : vp_in (nI i + 1) L) (h2 : vp_in (nI i + 2) L) (h3 : vp_in (nI i + 3) L) (h4 : vp_in (nI i + 4) L)  (nxt : ∀ (X M : Zs) (f : Nat → Int64) (H : Heap) (locs : List Loc) (K N : Nat) (ls : Array Slot), Rel X M → lW D cs ad am o s X M f H locs → K ≤ 1000 + 2 * (i + 5) → N ≤ 100000 + 40 * (i + 5) → lv_has ls 7 [(0, .ref b), (1, .ref (ad 0)), (2, .ref (am 0)), (3, .ref o), (4, .int (nI i))] → W p l e room_1 s m #[Value.ref b] below meth c H locs K N Q (F0 m 1670 ls [])) {X M : Zs} {f : Nat → Int64} {H : Heap} {locs : List Loc} {K N : Nat} {ls : Array Slot} (hR : Rel X M) (hW : lW D cs ad am o s X M f H locs) (hK : K ≤ 1000 + 2 * i) (hN : N ≤ 100000 + 40 * i) (hl : lv_has ls 7 [(0, .ref b), (1, .ref (ad 0)), (2, .ref (am 0)), (3, .ref o), (4, .int (nI i))]) : W p l e room_1 s m #[Value.ref b] below meth c H locs K N Q (F0 m 1010 ls []) := by
  obtain ⟨hx, hb, hml, hown, hts, hret, hlk⟩ := id C
  have hbA : ¬ lA s b := Nat.not_le.mpr hbl
  have hK2 : K ≤ 2000 := by omega
  have hN2 : N ≤ 200000 := by omega
  refine lv_aload_n hx hb dL_law_1010 rfl (lv_at hl 1 rfl) ?_
  refine lv_aload_n hx hb dL_law_1011 rfl (lv_at hl 0 rfl) ?_
  refine lv_iload hx hb dL_law_1012 (lv_at hl 4 rfl) ?_
  refine lv_iconst (v := 1) hx hb dL_law_1014 (by decide) ?_
  refine lv_iadd hx hb dL_law_1015 ?_
  refine va_sld hx hb hX hbl hbA hW.2.2.2.2.2.2 h1 dL_law_1016 ?_
  refine lv_aload_n hx hb dL_law_1017 rfl (lv_at hl 0 rfl) ?_
  refine lv_iload hx hb dL_law_1018 (lv_at hl 4 rfl) ?_
  refine lv_iconst (v := 2) hx hb dL_law_1020 (by decide) ?_
  refine lv_iadd hx hb dL_law_1021 ?_
  refine va_sld hx hb hX hbl hbA hW.2.2.2.2.2.2 h2 dL_law_1022 ?_
  obtain ⟨r, X2, M2, ex, em, hR2⟩ := hS X M hR (xs (nI i + 1).toNatClampNeg) (xs (nI i + 2).toNatClampNeg)
  refine lz_callx (As := [.int (xs (nI i + 1).toNatClampNeg), .int (xs (nI i + 2).toNatClampNeg)]) C hW (c_X11_both_0 ex) lk_L_144 rfl hl.1 ⟨rfl, rfl⟩ ⟨Nat.le_of_ble_eq_true rfl, Nat.le_of_ble_eq_true rfl⟩ (Nat.le_of_ble_eq_true rfl) ⟨Nat.le_trans hK2 (by decide), Nat.le_trans hN2 (by decide)⟩ rfl dL_law_1023 (fun H locs hW => ?_)
  refine lv_aload_n hx hb dL_law_1026 rfl (lv_at hl 2 rfl) ?_
  refine lv_aload_n hx hb dL_law_1027 rfl (lv_at hl 0 rfl) ?_
  refine lv_iload hx hb dL_law_1028 (lv_at hl 4 rfl) ?_
  refine lv_iconst (v := 1) hx hb dL_law_1030 (by decide) ?_
  refine lv_iadd hx hb dL_law_1031 ?_
  refine va_sld hx hb hX hbl hbA hW.2.2.2.2.2.2 h1 dL_law_1032 ?_
  refine lv_aload_n hx hb dL_law_1033 rfl (lv_at hl 0 rfl) ?_
  refine lv_iload hx hb dL_law_1034 (lv_at hl 4 rfl) ?_
  refine lv_iconst (v := 2) hx hb dL_law_1036 (by decide) ?_
  refine lv_iadd hx hb dL_law_1037 ?_
  refine va_sld hx hb hX hbl hbA hW.2.2.2.2.2.2 h2 dL_law_1038 ?_
  refine lz_callm (As := [.int (xs (nI i + 1).toNatClampNeg), .int (xs (nI i + 2).toNatClampNeg)]) C hW (c_X12_both_0 em) lk_L_147 rfl hl.1 ⟨rfl, rfl⟩ ⟨Nat.le_of_ble_eq_true rfl, Nat.le_of_ble_eq_true rfl⟩ (Nat.le_of_ble_eq_true rfl) ⟨Nat.le_trans hK2 (by decide), Nat.le_trans hN2 (by decide)⟩ rfl dL_law_1039 (fun H locs hW => ?_)
  refine lv_icmp_eq (tgt := 1670) hx hb dL_law_1042 (by decide) (fun _ => ?_) (fun g => absurd rfl g)
  exact nxt X2 M2 f H locs K N ls hR2 hW (by omega) (by omega) hl
set_option maxHeartbeats 4000000 in
set_option maxRecDepth 20000 in
theorem lc_28 (hS : S_town F Rel) (C : zC p s m #[Value.ref b] meth c code 7 RL ret) (hX : va_X b L xs s s.heap) (hbl : b < s.heap.size) (hi : i ≤ 320) (h1 : vp_in (nI i + 1) L) (h2 : vp_in (nI i + 2) L) (h3 : vp_in (nI i + 3) L) (h4 : vp_in (nI i + 4) L)  (nxt : ∀ (X M : Zs) (f : Nat → Int64) (H : Heap) (locs : List Loc) (K N : Nat) (ls : Array Slot), Rel X M → lW D cs ad am o s X M f H locs → K ≤ 1000 + 2 * (i + 5) → N ≤ 100000 + 40 * (i + 5) → lv_has ls 7 [(0, .ref b), (1, .ref (ad 0)), (2, .ref (am 0)), (3, .ref o), (4, .int (nI i))] → W p l e room_1 s m #[Value.ref b] below meth c H locs K N Q (F0 m 1670 ls [])) {X M : Zs} {f : Nat → Int64} {H : Heap} {locs : List Loc} {K N : Nat} {ls : Array Slot} (hR : Rel X M) (hW : lW D cs ad am o s X M f H locs) (hK : K ≤ 1000 + 2 * i) (hN : N ≤ 100000 + 40 * i) (hl : lv_has ls 7 [(0, .ref b), (1, .ref (ad 0)), (2, .ref (am 0)), (3, .ref o), (4, .int (nI i))]) : W p l e room_1 s m #[Value.ref b] below meth c H locs K N Q (F0 m 1047 ls []) := by
  obtain ⟨hx, hb, hml, hown, hts, hret, hlk⟩ := id C
  have hbA : ¬ lA s b := Nat.not_le.mpr hbl
  have hK2 : K ≤ 2000 := by omega
  have hN2 : N ≤ 200000 := by omega
  refine lv_aload_n hx hb dL_law_1047 rfl (lv_at hl 1 rfl) ?_
  obtain ⟨r, X2, M2, ex, em, hR2⟩ := hS X M hR 
  refine lz_callx (As := []) C hW (c_X11_town_0 ex) lk_L_148 rfl hl.1 ⟨rfl, rfl⟩ ⟨Nat.le_of_ble_eq_true rfl, Nat.le_of_ble_eq_true rfl⟩ (Nat.le_of_ble_eq_true rfl) ⟨Nat.le_trans hK2 (by decide), Nat.le_trans hN2 (by decide)⟩ rfl dL_law_1048 (fun H locs hW => ?_)
  refine lv_aload_n hx hb dL_law_1051 rfl (lv_at hl 2 rfl) ?_
  refine lz_callm (As := []) C hW (c_X12_town_0 em) lk_L_151 rfl hl.1 ⟨rfl, rfl⟩ ⟨Nat.le_of_ble_eq_true rfl, Nat.le_of_ble_eq_true rfl⟩ (Nat.le_of_ble_eq_true rfl) ⟨Nat.le_trans hK2 (by decide), Nat.le_trans hN2 (by decide)⟩ rfl dL_law_1052 (fun H locs hW => ?_)
  refine lv_icmp_eq (tgt := 1670) hx hb dL_law_1055 (by decide) (fun _ => ?_) (fun g => absurd rfl g)
  exact nxt X2 M2 f H locs K N ls hR2 hW (by omega) (by omega) hl
set_option maxHeartbeats 4000000 in
set_option maxRecDepth 20000 in
theorem lc_29 (hS : S_refute F Rel) (C : zC p s m #[Value.ref b] meth c code 7 RL ret) (hX : va_X b L xs s s.heap) (hbl : b < s.heap.size) (hi : i ≤ 320) (h1 : vp_in (nI i + 1) L) (h2 : vp_in (nI i + 2) L) (h3 : vp_in (nI i + 3) L) (h4 : vp_in (nI i + 4) L)  (nxt : ∀ (X M : Zs) (f : Nat → Int64) (H : Heap) (locs : List Loc) (K N : Nat) (ls : Array Slot), Rel X M → lW D cs ad am o s X M f H locs → K ≤ 1000 + 2 * (i + 5) → N ≤ 100000 + 40 * (i + 5) → lv_has ls 7 [(0, .ref b), (1, .ref (ad 0)), (2, .ref (am 0)), (3, .ref o), (4, .int (nI i))] → W p l e room_1 s m #[Value.ref b] below meth c H locs K N Q (F0 m 1670 ls [])) {X M : Zs} {f : Nat → Int64} {H : Heap} {locs : List Loc} {K N : Nat} {ls : Array Slot} (hR : Rel X M) (hW : lW D cs ad am o s X M f H locs) (hK : K ≤ 1000 + 2 * i) (hN : N ≤ 100000 + 40 * i) (hl : lv_has ls 7 [(0, .ref b), (1, .ref (ad 0)), (2, .ref (am 0)), (3, .ref o), (4, .int (nI i))]) : W p l e room_1 s m #[Value.ref b] below meth c H locs K N Q (F0 m 1060 ls []) := by
  obtain ⟨hx, hb, hml, hown, hts, hret, hlk⟩ := id C
  have hbA : ¬ lA s b := Nat.not_le.mpr hbl
  have hK2 : K ≤ 2000 := by omega
  have hN2 : N ≤ 200000 := by omega
  refine lv_aload_n hx hb dL_law_1060 rfl (lv_at hl 1 rfl) ?_
  refine lv_aload_n hx hb dL_law_1061 rfl (lv_at hl 0 rfl) ?_
  refine lv_iload hx hb dL_law_1062 (lv_at hl 4 rfl) ?_
  refine lv_iconst (v := 1) hx hb dL_law_1064 (by decide) ?_
  refine lv_iadd hx hb dL_law_1065 ?_
  refine va_sld hx hb hX hbl hbA hW.2.2.2.2.2.2 h1 dL_law_1066 ?_
  obtain ⟨r, X2, M2, ex, em, hR2⟩ := hS X M hR (xs (nI i + 1).toNatClampNeg)
  refine lz_callx (As := [.int (xs (nI i + 1).toNatClampNeg)]) C hW (c_X11_refute_0 ex) lk_L_152 rfl hl.1 ⟨rfl, rfl⟩ ⟨Nat.le_of_ble_eq_true rfl, Nat.le_of_ble_eq_true rfl⟩ (Nat.le_of_ble_eq_true rfl) ⟨Nat.le_trans hK2 (by decide), Nat.le_trans hN2 (by decide)⟩ rfl dL_law_1067 (fun H locs hW => ?_)
  refine lv_aload_n hx hb dL_law_1070 rfl (lv_at hl 2 rfl) ?_
  refine lv_aload_n hx hb dL_law_1071 rfl (lv_at hl 0 rfl) ?_
  refine lv_iload hx hb dL_law_1072 (lv_at hl 4 rfl) ?_
  refine lv_iconst (v := 1) hx hb dL_law_1074 (by decide) ?_
  refine lv_iadd hx hb dL_law_1075 ?_
  refine va_sld hx hb hX hbl hbA hW.2.2.2.2.2.2 h1 dL_law_1076 ?_
  refine lz_callm (As := [.int (xs (nI i + 1).toNatClampNeg)]) C hW (c_X12_refute_0 em) lk_L_155 rfl hl.1 ⟨rfl, rfl⟩ ⟨Nat.le_of_ble_eq_true rfl, Nat.le_of_ble_eq_true rfl⟩ (Nat.le_of_ble_eq_true rfl) ⟨Nat.le_trans hK2 (by decide), Nat.le_trans hN2 (by decide)⟩ rfl dL_law_1077 (fun H locs hW => ?_)
  refine lv_icmp_eq (tgt := 1670) hx hb dL_law_1080 (by decide) (fun _ => ?_) (fun g => absurd rfl g)
  exact nxt X2 M2 f H locs K N ls hR2 hW (by omega) (by omega) hl
set_option maxHeartbeats 4000000 in
set_option maxRecDepth 20000 in
theorem lc_30 (hS : S_judge F Rel) (C : zC p s m #[Value.ref b] meth c code 7 RL ret) (hX : va_X b L xs s s.heap) (hbl : b < s.heap.size) (hi : i ≤ 320) (h1 : vp_in (nI i + 1) L) (h2 : vp_in (nI i + 2) L) (h3 : vp_in (nI i + 3) L) (h4 : vp_in (nI i + 4) L)  (nxt : ∀ (X M : Zs) (f : Nat → Int64) (H : Heap) (locs : List Loc) (K N : Nat) (ls : Array Slot), Rel X M → lW D cs ad am o s X M f H locs → K ≤ 1000 + 2 * (i + 5) → N ≤ 100000 + 40 * (i + 5) → lv_has ls 7 [(0, .ref b), (1, .ref (ad 0)), (2, .ref (am 0)), (3, .ref o), (4, .int (nI i))] → W p l e room_1 s m #[Value.ref b] below meth c H locs K N Q (F0 m 1670 ls [])) {X M : Zs} {f : Nat → Int64} {H : Heap} {locs : List Loc} {K N : Nat} {ls : Array Slot} (hR : Rel X M) (hW : lW D cs ad am o s X M f H locs) (hK : K ≤ 1000 + 2 * i) (hN : N ≤ 100000 + 40 * i) (hl : lv_has ls 7 [(0, .ref b), (1, .ref (ad 0)), (2, .ref (am 0)), (3, .ref o), (4, .int (nI i))]) : W p l e room_1 s m #[Value.ref b] below meth c H locs K N Q (F0 m 1085 ls []) := by
  obtain ⟨hx, hb, hml, hown, hts, hret, hlk⟩ := id C
  have hbA : ¬ lA s b := Nat.not_le.mpr hbl
  have hK2 : K ≤ 2000 := by omega
  have hN2 : N ≤ 200000 := by omega
  refine lv_aload_n hx hb dL_law_1085 rfl (lv_at hl 1 rfl) ?_
  refine lv_aload_n hx hb dL_law_1086 rfl (lv_at hl 0 rfl) ?_
  refine lv_iload hx hb dL_law_1087 (lv_at hl 4 rfl) ?_
  refine lv_iconst (v := 1) hx hb dL_law_1089 (by decide) ?_
  refine lv_iadd hx hb dL_law_1090 ?_
  refine va_sld hx hb hX hbl hbA hW.2.2.2.2.2.2 h1 dL_law_1091 ?_
  refine lv_aload_n hx hb dL_law_1092 rfl (lv_at hl 0 rfl) ?_
  refine lv_iload hx hb dL_law_1093 (lv_at hl 4 rfl) ?_
  refine lv_iconst (v := 2) hx hb dL_law_1095 (by decide) ?_
  refine lv_iadd hx hb dL_law_1096 ?_
  refine va_sld hx hb hX hbl hbA hW.2.2.2.2.2.2 h2 dL_law_1097 ?_
  refine lv_aload_n hx hb dL_law_1098 rfl (lv_at hl 0 rfl) ?_
  refine lv_iload hx hb dL_law_1099 (lv_at hl 4 rfl) ?_
  refine lv_iconst (v := 3) hx hb dL_law_1101 (by decide) ?_
  refine lv_iadd hx hb dL_law_1102 ?_
  refine va_sld hx hb hX hbl hbA hW.2.2.2.2.2.2 h3 dL_law_1103 ?_
  obtain ⟨r, X2, M2, ex, em, hR2⟩ := hS X M hR (xs (nI i + 1).toNatClampNeg) (xs (nI i + 2).toNatClampNeg) (xs (nI i + 3).toNatClampNeg)
  refine lz_callx (As := [.int (xs (nI i + 1).toNatClampNeg), .int (xs (nI i + 2).toNatClampNeg), .int (xs (nI i + 3).toNatClampNeg)]) C hW (c_X11_judge_0 ex) lk_L_156 rfl hl.1 ⟨rfl, rfl⟩ ⟨Nat.le_of_ble_eq_true rfl, Nat.le_of_ble_eq_true rfl⟩ (Nat.le_of_ble_eq_true rfl) ⟨Nat.le_trans hK2 (by decide), Nat.le_trans hN2 (by decide)⟩ rfl dL_law_1104 (fun H locs hW => ?_)
  refine lv_aload_n hx hb dL_law_1107 rfl (lv_at hl 2 rfl) ?_
  refine lv_aload_n hx hb dL_law_1108 rfl (lv_at hl 0 rfl) ?_
  refine lv_iload hx hb dL_law_1109 (lv_at hl 4 rfl) ?_
  refine lv_iconst (v := 1) hx hb dL_law_1111 (by decide) ?_
  refine lv_iadd hx hb dL_law_1112 ?_
  refine va_sld hx hb hX hbl hbA hW.2.2.2.2.2.2 h1 dL_law_1113 ?_
  refine lv_aload_n hx hb dL_law_1114 rfl (lv_at hl 0 rfl) ?_
  refine lv_iload hx hb dL_law_1115 (lv_at hl 4 rfl) ?_
  refine lv_iconst (v := 2) hx hb dL_law_1117 (by decide) ?_
  refine lv_iadd hx hb dL_law_1118 ?_
  refine va_sld hx hb hX hbl hbA hW.2.2.2.2.2.2 h2 dL_law_1119 ?_
  refine lv_aload_n hx hb dL_law_1120 rfl (lv_at hl 0 rfl) ?_
  refine lv_iload hx hb dL_law_1121 (lv_at hl 4 rfl) ?_
  refine lv_iconst (v := 3) hx hb dL_law_1123 (by decide) ?_
  refine lv_iadd hx hb dL_law_1124 ?_
  refine va_sld hx hb hX hbl hbA hW.2.2.2.2.2.2 h3 dL_law_1125 ?_
  refine lz_callm (As := [.int (xs (nI i + 1).toNatClampNeg), .int (xs (nI i + 2).toNatClampNeg), .int (xs (nI i + 3).toNatClampNeg)]) C hW (c_X12_judge_0 em) lk_L_160 rfl hl.1 ⟨rfl, rfl⟩ ⟨Nat.le_of_ble_eq_true rfl, Nat.le_of_ble_eq_true rfl⟩ (Nat.le_of_ble_eq_true rfl) ⟨Nat.le_trans hK2 (by decide), Nat.le_trans hN2 (by decide)⟩ rfl dL_law_1126 (fun H locs hW => ?_)
  refine lv_icmp_eq (tgt := 1670) hx hb dL_law_1129 (by decide) (fun _ => ?_) (fun g => absurd rfl g)
  exact nxt X2 M2 f H locs K N ls hR2 hW (by omega) (by omega) hl
set_option maxHeartbeats 4000000 in
set_option maxRecDepth 20000 in
theorem lc_31 (hS : S_mood F Rel) (C : zC p s m #[Value.ref b] meth c code 7 RL ret) (hX : va_X b L xs s s.heap) (hbl : b < s.heap.size) (hi : i ≤ 320) (h1 : vp_in (nI i + 1) L) (h2 : vp_in (nI i + 2) L) (h3 : vp_in (nI i + 3) L) (h4 : vp_in (nI i + 4) L)  (nxt : ∀ (X M : Zs) (f : Nat → Int64) (H : Heap) (locs : List Loc) (K N : Nat) (ls : Array Slot), Rel X M → lW D cs ad am o s X M f H locs → K ≤ 1000 + 2 * (i + 5) → N ≤ 100000 + 40 * (i + 5) → lv_has ls 7 [(0, .ref b), (1, .ref (ad 0)), (2, .ref (am 0)), (3, .ref o), (4, .int (nI i))] → W p l e room_1 s m #[Value.ref b] below meth c H locs K N Q (F0 m 1670 ls [])) {X M : Zs} {f : Nat → Int64} {H : Heap} {locs : List Loc} {K N : Nat} {ls : Array Slot} (hR : Rel X M) (hW : lW D cs ad am o s X M f H locs) (hK : K ≤ 1000 + 2 * i) (hN : N ≤ 100000 + 40 * i) (hl : lv_has ls 7 [(0, .ref b), (1, .ref (ad 0)), (2, .ref (am 0)), (3, .ref o), (4, .int (nI i))]) : W p l e room_1 s m #[Value.ref b] below meth c H locs K N Q (F0 m 1134 ls []) := by
  obtain ⟨hx, hb, hml, hown, hts, hret, hlk⟩ := id C
  have hbA : ¬ lA s b := Nat.not_le.mpr hbl
  have hK2 : K ≤ 2000 := by omega
  have hN2 : N ≤ 200000 := by omega
  refine lv_aload_n hx hb dL_law_1134 rfl (lv_at hl 1 rfl) ?_
  refine lv_aload_n hx hb dL_law_1135 rfl (lv_at hl 0 rfl) ?_
  refine lv_iload hx hb dL_law_1136 (lv_at hl 4 rfl) ?_
  refine lv_iconst (v := 1) hx hb dL_law_1138 (by decide) ?_
  refine lv_iadd hx hb dL_law_1139 ?_
  refine va_sld hx hb hX hbl hbA hW.2.2.2.2.2.2 h1 dL_law_1140 ?_
  refine lv_aload_n hx hb dL_law_1141 rfl (lv_at hl 0 rfl) ?_
  refine lv_iload hx hb dL_law_1142 (lv_at hl 4 rfl) ?_
  refine lv_iconst (v := 2) hx hb dL_law_1144 (by decide) ?_
  refine lv_iadd hx hb dL_law_1145 ?_
  refine va_sld hx hb hX hbl hbA hW.2.2.2.2.2.2 h2 dL_law_1146 ?_
  refine lv_aload_n hx hb dL_law_1147 rfl (lv_at hl 0 rfl) ?_
  refine lv_iload hx hb dL_law_1148 (lv_at hl 4 rfl) ?_
  refine lv_iconst (v := 3) hx hb dL_law_1150 (by decide) ?_
  refine lv_iadd hx hb dL_law_1151 ?_
  refine va_sld hx hb hX hbl hbA hW.2.2.2.2.2.2 h3 dL_law_1152 ?_
  refine lv_aload_n hx hb dL_law_1153 rfl (lv_at hl 0 rfl) ?_
  refine lv_iload hx hb dL_law_1154 (lv_at hl 4 rfl) ?_
  refine lv_iconst (v := 4) hx hb dL_law_1156 (by decide) ?_
  refine lv_iadd hx hb dL_law_1157 ?_
  refine va_sld hx hb hX hbl hbA hW.2.2.2.2.2.2 h4 dL_law_1158 ?_
  obtain ⟨r, X2, M2, ex, em, hR2⟩ := hS X M hR (xs (nI i + 1).toNatClampNeg) (xs (nI i + 2).toNatClampNeg) (xs (nI i + 3).toNatClampNeg) (xs (nI i + 4).toNatClampNeg)
  refine lz_callx (As := [.int (xs (nI i + 1).toNatClampNeg), .int (xs (nI i + 2).toNatClampNeg), .int (xs (nI i + 3).toNatClampNeg), .int (xs (nI i + 4).toNatClampNeg)]) C hW (c_X11_mood_0 ex) lk_L_161 rfl hl.1 ⟨rfl, rfl⟩ ⟨Nat.le_of_ble_eq_true rfl, Nat.le_of_ble_eq_true rfl⟩ (Nat.le_of_ble_eq_true rfl) ⟨Nat.le_trans hK2 (by decide), Nat.le_trans hN2 (by decide)⟩ rfl dL_law_1159 (fun H locs hW => ?_)
  refine lv_aload_n hx hb dL_law_1162 rfl (lv_at hl 2 rfl) ?_
  refine lv_aload_n hx hb dL_law_1163 rfl (lv_at hl 0 rfl) ?_
  refine lv_iload hx hb dL_law_1164 (lv_at hl 4 rfl) ?_
  refine lv_iconst (v := 1) hx hb dL_law_1166 (by decide) ?_
  refine lv_iadd hx hb dL_law_1167 ?_
  refine va_sld hx hb hX hbl hbA hW.2.2.2.2.2.2 h1 dL_law_1168 ?_
  refine lv_aload_n hx hb dL_law_1169 rfl (lv_at hl 0 rfl) ?_
  refine lv_iload hx hb dL_law_1170 (lv_at hl 4 rfl) ?_
  refine lv_iconst (v := 2) hx hb dL_law_1172 (by decide) ?_
  refine lv_iadd hx hb dL_law_1173 ?_
  refine va_sld hx hb hX hbl hbA hW.2.2.2.2.2.2 h2 dL_law_1174 ?_
  refine lv_aload_n hx hb dL_law_1175 rfl (lv_at hl 0 rfl) ?_
  refine lv_iload hx hb dL_law_1176 (lv_at hl 4 rfl) ?_
  refine lv_iconst (v := 3) hx hb dL_law_1178 (by decide) ?_
  refine lv_iadd hx hb dL_law_1179 ?_
  refine va_sld hx hb hX hbl hbA hW.2.2.2.2.2.2 h3 dL_law_1180 ?_
  refine lv_aload_n hx hb dL_law_1181 rfl (lv_at hl 0 rfl) ?_
  refine lv_iload hx hb dL_law_1182 (lv_at hl 4 rfl) ?_
  refine lv_iconst (v := 4) hx hb dL_law_1184 (by decide) ?_
  refine lv_iadd hx hb dL_law_1185 ?_
  refine va_sld hx hb hX hbl hbA hW.2.2.2.2.2.2 h4 dL_law_1186 ?_
  refine lz_callm (As := [.int (xs (nI i + 1).toNatClampNeg), .int (xs (nI i + 2).toNatClampNeg), .int (xs (nI i + 3).toNatClampNeg), .int (xs (nI i + 4).toNatClampNeg)]) C hW (c_X12_mood_0 em) lk_L_164 rfl hl.1 ⟨rfl, rfl⟩ ⟨Nat.le_of_ble_eq_true rfl, Nat.le_of_ble_eq_true rfl⟩ (Nat.le_of_ble_eq_true rfl) ⟨Nat.le_trans hK2 (by decide), Nat.le_trans hN2 (by decide)⟩ rfl dL_law_1187 (fun H locs hW => ?_)
  refine lv_icmp_eq (tgt := 1670) hx hb dL_law_1190 (by decide) (fun _ => ?_) (fun g => absurd rfl g)
  exact nxt X2 M2 f H locs K N ls hR2 hW (by omega) (by omega) hl
set_option maxHeartbeats 4000000 in
set_option maxRecDepth 20000 in
theorem lc_32 (hS : S_figure F Rel) (C : zC p s m #[Value.ref b] meth c code 7 RL ret) (hX : va_X b L xs s s.heap) (hbl : b < s.heap.size) (hi : i ≤ 320) (h1 : vp_in (nI i + 1) L) (h2 : vp_in (nI i + 2) L) (h3 : vp_in (nI i + 3) L) (h4 : vp_in (nI i + 4) L)  (nxt : ∀ (X M : Zs) (f : Nat → Int64) (H : Heap) (locs : List Loc) (K N : Nat) (ls : Array Slot), Rel X M → lW D cs ad am o s X M f H locs → K ≤ 1000 + 2 * (i + 5) → N ≤ 100000 + 40 * (i + 5) → lv_has ls 7 [(0, .ref b), (1, .ref (ad 0)), (2, .ref (am 0)), (3, .ref o), (4, .int (nI i))] → W p l e room_1 s m #[Value.ref b] below meth c H locs K N Q (F0 m 1670 ls [])) {X M : Zs} {f : Nat → Int64} {H : Heap} {locs : List Loc} {K N : Nat} {ls : Array Slot} (hR : Rel X M) (hW : lW D cs ad am o s X M f H locs) (hK : K ≤ 1000 + 2 * i) (hN : N ≤ 100000 + 40 * i) (hl : lv_has ls 7 [(0, .ref b), (1, .ref (ad 0)), (2, .ref (am 0)), (3, .ref o), (4, .int (nI i))]) : W p l e room_1 s m #[Value.ref b] below meth c H locs K N Q (F0 m 1195 ls []) := by
  obtain ⟨hx, hb, hml, hown, hts, hret, hlk⟩ := id C
  have hbA : ¬ lA s b := Nat.not_le.mpr hbl
  have hK2 : K ≤ 2000 := by omega
  have hN2 : N ≤ 200000 := by omega
  refine lv_aload_n hx hb dL_law_1195 rfl (lv_at hl 1 rfl) ?_
  refine lv_aload_n hx hb dL_law_1196 rfl (lv_at hl 0 rfl) ?_
  refine lv_iload hx hb dL_law_1197 (lv_at hl 4 rfl) ?_
  refine lv_iconst (v := 1) hx hb dL_law_1199 (by decide) ?_
  refine lv_iadd hx hb dL_law_1200 ?_
  refine va_sld hx hb hX hbl hbA hW.2.2.2.2.2.2 h1 dL_law_1201 ?_
  obtain ⟨r, X2, M2, ex, em, hR2⟩ := hS X M hR (xs (nI i + 1).toNatClampNeg)
  refine lz_callx (As := [.int (xs (nI i + 1).toNatClampNeg)]) C hW (c_X11_figure_0 ex) lk_L_165 rfl hl.1 ⟨rfl, rfl⟩ ⟨Nat.le_of_ble_eq_true rfl, Nat.le_of_ble_eq_true rfl⟩ (Nat.le_of_ble_eq_true rfl) ⟨Nat.le_trans hK2 (by decide), Nat.le_trans hN2 (by decide)⟩ rfl dL_law_1202 (fun H locs hW => ?_)
  refine lv_aload_n hx hb dL_law_1205 rfl (lv_at hl 2 rfl) ?_
  refine lv_aload_n hx hb dL_law_1206 rfl (lv_at hl 0 rfl) ?_
  refine lv_iload hx hb dL_law_1207 (lv_at hl 4 rfl) ?_
  refine lv_iconst (v := 1) hx hb dL_law_1209 (by decide) ?_
  refine lv_iadd hx hb dL_law_1210 ?_
  refine va_sld hx hb hX hbl hbA hW.2.2.2.2.2.2 h1 dL_law_1211 ?_
  refine lz_callm (As := [.int (xs (nI i + 1).toNatClampNeg)]) C hW (c_X12_figure_0 em) lk_L_168 rfl hl.1 ⟨rfl, rfl⟩ ⟨Nat.le_of_ble_eq_true rfl, Nat.le_of_ble_eq_true rfl⟩ (Nat.le_of_ble_eq_true rfl) ⟨Nat.le_trans hK2 (by decide), Nat.le_trans hN2 (by decide)⟩ rfl dL_law_1212 (fun H locs hW => ?_)
  refine lv_icmp_eq (tgt := 1670) hx hb dL_law_1215 (by decide) (fun _ => ?_) (fun g => absurd rfl g)
  exact nxt X2 M2 f H locs K N ls hR2 hW (by omega) (by omega) hl
set_option maxHeartbeats 4000000 in
set_option maxRecDepth 20000 in
theorem lc_33 (hS : S_forms F Rel) (C : zC p s m #[Value.ref b] meth c code 7 RL ret) (hX : va_X b L xs s s.heap) (hbl : b < s.heap.size) (hi : i ≤ 320) (h1 : vp_in (nI i + 1) L) (h2 : vp_in (nI i + 2) L) (h3 : vp_in (nI i + 3) L) (h4 : vp_in (nI i + 4) L)  (nxt : ∀ (X M : Zs) (f : Nat → Int64) (H : Heap) (locs : List Loc) (K N : Nat) (ls : Array Slot), Rel X M → lW D cs ad am o s X M f H locs → K ≤ 1000 + 2 * (i + 5) → N ≤ 100000 + 40 * (i + 5) → lv_has ls 7 [(0, .ref b), (1, .ref (ad 0)), (2, .ref (am 0)), (3, .ref o), (4, .int (nI i))] → W p l e room_1 s m #[Value.ref b] below meth c H locs K N Q (F0 m 1670 ls [])) {X M : Zs} {f : Nat → Int64} {H : Heap} {locs : List Loc} {K N : Nat} {ls : Array Slot} (hR : Rel X M) (hW : lW D cs ad am o s X M f H locs) (hK : K ≤ 1000 + 2 * i) (hN : N ≤ 100000 + 40 * i) (hl : lv_has ls 7 [(0, .ref b), (1, .ref (ad 0)), (2, .ref (am 0)), (3, .ref o), (4, .int (nI i))]) : W p l e room_1 s m #[Value.ref b] below meth c H locs K N Q (F0 m 1220 ls []) := by
  obtain ⟨hx, hb, hml, hown, hts, hret, hlk⟩ := id C
  have hbA : ¬ lA s b := Nat.not_le.mpr hbl
  have hK2 : K ≤ 2000 := by omega
  have hN2 : N ≤ 200000 := by omega
  refine lv_aload_n hx hb dL_law_1220 rfl (lv_at hl 1 rfl) ?_
  refine lv_aload_n hx hb dL_law_1221 rfl (lv_at hl 0 rfl) ?_
  refine lv_iload hx hb dL_law_1222 (lv_at hl 4 rfl) ?_
  refine lv_iconst (v := 1) hx hb dL_law_1224 (by decide) ?_
  refine lv_iadd hx hb dL_law_1225 ?_
  refine va_sld hx hb hX hbl hbA hW.2.2.2.2.2.2 h1 dL_law_1226 ?_
  refine lv_aload_n hx hb dL_law_1227 rfl (lv_at hl 0 rfl) ?_
  refine lv_iload hx hb dL_law_1228 (lv_at hl 4 rfl) ?_
  refine lv_iconst (v := 2) hx hb dL_law_1230 (by decide) ?_
  refine lv_iadd hx hb dL_law_1231 ?_
  refine va_sld hx hb hX hbl hbA hW.2.2.2.2.2.2 h2 dL_law_1232 ?_
  obtain ⟨r, X2, M2, ex, em, hR2⟩ := hS X M hR (xs (nI i + 1).toNatClampNeg) (xs (nI i + 2).toNatClampNeg)
  refine lz_callx (As := [.int (xs (nI i + 1).toNatClampNeg), .int (xs (nI i + 2).toNatClampNeg)]) C hW (c_X11_forms_0 ex) lk_L_169 rfl hl.1 ⟨rfl, rfl⟩ ⟨Nat.le_of_ble_eq_true rfl, Nat.le_of_ble_eq_true rfl⟩ (Nat.le_of_ble_eq_true rfl) ⟨Nat.le_trans hK2 (by decide), Nat.le_trans hN2 (by decide)⟩ rfl dL_law_1233 (fun H locs hW => ?_)
  refine lv_aload_n hx hb dL_law_1236 rfl (lv_at hl 2 rfl) ?_
  refine lv_aload_n hx hb dL_law_1237 rfl (lv_at hl 0 rfl) ?_
  refine lv_iload hx hb dL_law_1238 (lv_at hl 4 rfl) ?_
  refine lv_iconst (v := 1) hx hb dL_law_1240 (by decide) ?_
  refine lv_iadd hx hb dL_law_1241 ?_
  refine va_sld hx hb hX hbl hbA hW.2.2.2.2.2.2 h1 dL_law_1242 ?_
  refine lv_aload_n hx hb dL_law_1243 rfl (lv_at hl 0 rfl) ?_
  refine lv_iload hx hb dL_law_1244 (lv_at hl 4 rfl) ?_
  refine lv_iconst (v := 2) hx hb dL_law_1246 (by decide) ?_
  refine lv_iadd hx hb dL_law_1247 ?_
  refine va_sld hx hb hX hbl hbA hW.2.2.2.2.2.2 h2 dL_law_1248 ?_
  refine lz_callm (As := [.int (xs (nI i + 1).toNatClampNeg), .int (xs (nI i + 2).toNatClampNeg)]) C hW (c_X12_forms_0 em) lk_L_172 rfl hl.1 ⟨rfl, rfl⟩ ⟨Nat.le_of_ble_eq_true rfl, Nat.le_of_ble_eq_true rfl⟩ (Nat.le_of_ble_eq_true rfl) ⟨Nat.le_trans hK2 (by decide), Nat.le_trans hN2 (by decide)⟩ rfl dL_law_1249 (fun H locs hW => ?_)
  refine lv_icmp_eq (tgt := 1670) hx hb dL_law_1252 (by decide) (fun _ => ?_) (fun g => absurd rfl g)
  exact nxt X2 M2 f H locs K N ls hR2 hW (by omega) (by omega) hl
set_option maxHeartbeats 4000000 in
set_option maxRecDepth 20000 in
theorem lc_34 (hS : S_allow F Rel) (C : zC p s m #[Value.ref b] meth c code 7 RL ret) (hX : va_X b L xs s s.heap) (hbl : b < s.heap.size) (hi : i ≤ 320) (h1 : vp_in (nI i + 1) L) (h2 : vp_in (nI i + 2) L) (h3 : vp_in (nI i + 3) L) (h4 : vp_in (nI i + 4) L)  (nxt : ∀ (X M : Zs) (f : Nat → Int64) (H : Heap) (locs : List Loc) (K N : Nat) (ls : Array Slot), Rel X M → lW D cs ad am o s X M f H locs → K ≤ 1000 + 2 * (i + 5) → N ≤ 100000 + 40 * (i + 5) → lv_has ls 7 [(0, .ref b), (1, .ref (ad 0)), (2, .ref (am 0)), (3, .ref o), (4, .int (nI i))] → W p l e room_1 s m #[Value.ref b] below meth c H locs K N Q (F0 m 1670 ls [])) {X M : Zs} {f : Nat → Int64} {H : Heap} {locs : List Loc} {K N : Nat} {ls : Array Slot} (hR : Rel X M) (hW : lW D cs ad am o s X M f H locs) (hK : K ≤ 1000 + 2 * i) (hN : N ≤ 100000 + 40 * i) (hl : lv_has ls 7 [(0, .ref b), (1, .ref (ad 0)), (2, .ref (am 0)), (3, .ref o), (4, .int (nI i))]) : W p l e room_1 s m #[Value.ref b] below meth c H locs K N Q (F0 m 1257 ls []) := by
  obtain ⟨hx, hb, hml, hown, hts, hret, hlk⟩ := id C
  have hbA : ¬ lA s b := Nat.not_le.mpr hbl
  have hK2 : K ≤ 2000 := by omega
  have hN2 : N ≤ 200000 := by omega
  refine lv_aload_n hx hb dL_law_1257 rfl (lv_at hl 1 rfl) ?_
  refine lv_aload_n hx hb dL_law_1258 rfl (lv_at hl 0 rfl) ?_
  refine lv_iload hx hb dL_law_1259 (lv_at hl 4 rfl) ?_
  refine lv_iconst (v := 1) hx hb dL_law_1261 (by decide) ?_
  refine lv_iadd hx hb dL_law_1262 ?_
  refine va_sld hx hb hX hbl hbA hW.2.2.2.2.2.2 h1 dL_law_1263 ?_
  obtain ⟨r, X2, M2, ex, em, hR2⟩ := hS X M hR (xs (nI i + 1).toNatClampNeg)
  refine lz_callx (As := [.int (xs (nI i + 1).toNatClampNeg)]) C hW (c_X11_allow_0 ex) lk_L_173 rfl hl.1 ⟨rfl, rfl⟩ ⟨Nat.le_of_ble_eq_true rfl, Nat.le_of_ble_eq_true rfl⟩ (Nat.le_of_ble_eq_true rfl) ⟨Nat.le_trans hK2 (by decide), Nat.le_trans hN2 (by decide)⟩ rfl dL_law_1264 (fun H locs hW => ?_)
  refine lv_aload_n hx hb dL_law_1267 rfl (lv_at hl 2 rfl) ?_
  refine lv_aload_n hx hb dL_law_1268 rfl (lv_at hl 0 rfl) ?_
  refine lv_iload hx hb dL_law_1269 (lv_at hl 4 rfl) ?_
  refine lv_iconst (v := 1) hx hb dL_law_1271 (by decide) ?_
  refine lv_iadd hx hb dL_law_1272 ?_
  refine va_sld hx hb hX hbl hbA hW.2.2.2.2.2.2 h1 dL_law_1273 ?_
  refine lz_callm (As := [.int (xs (nI i + 1).toNatClampNeg)]) C hW (c_X12_allow_0 em) lk_L_176 rfl hl.1 ⟨rfl, rfl⟩ ⟨Nat.le_of_ble_eq_true rfl, Nat.le_of_ble_eq_true rfl⟩ (Nat.le_of_ble_eq_true rfl) ⟨Nat.le_trans hK2 (by decide), Nat.le_trans hN2 (by decide)⟩ rfl dL_law_1274 (fun H locs hW => ?_)
  refine lv_icmp_eq (tgt := 1670) hx hb dL_law_1277 (by decide) (fun _ => ?_) (fun g => absurd rfl g)
  exact nxt X2 M2 f H locs K N ls hR2 hW (by omega) (by omega) hl
set_option maxHeartbeats 4000000 in
set_option maxRecDepth 20000 in
theorem lc_35 (hS : S_step F Rel) (C : zC p s m #[Value.ref b] meth c code 7 RL ret) (hX : va_X b L xs s s.heap) (hbl : b < s.heap.size) (hi : i ≤ 320) (h1 : vp_in (nI i + 1) L) (h2 : vp_in (nI i + 2) L) (h3 : vp_in (nI i + 3) L) (h4 : vp_in (nI i + 4) L)  (nxt : ∀ (X M : Zs) (f : Nat → Int64) (H : Heap) (locs : List Loc) (K N : Nat) (ls : Array Slot), Rel X M → lW D cs ad am o s X M f H locs → K ≤ 1000 + 2 * (i + 5) → N ≤ 100000 + 40 * (i + 5) → lv_has ls 7 [(0, .ref b), (1, .ref (ad 0)), (2, .ref (am 0)), (3, .ref o), (4, .int (nI i))] → W p l e room_1 s m #[Value.ref b] below meth c H locs K N Q (F0 m 1670 ls [])) {X M : Zs} {f : Nat → Int64} {H : Heap} {locs : List Loc} {K N : Nat} {ls : Array Slot} (hR : Rel X M) (hW : lW D cs ad am o s X M f H locs) (hK : K ≤ 1000 + 2 * i) (hN : N ≤ 100000 + 40 * i) (hl : lv_has ls 7 [(0, .ref b), (1, .ref (ad 0)), (2, .ref (am 0)), (3, .ref o), (4, .int (nI i))]) : W p l e room_1 s m #[Value.ref b] below meth c H locs K N Q (F0 m 1282 ls []) := by
  obtain ⟨hx, hb, hml, hown, hts, hret, hlk⟩ := id C
  have hbA : ¬ lA s b := Nat.not_le.mpr hbl
  have hK2 : K ≤ 2000 := by omega
  have hN2 : N ≤ 200000 := by omega
  refine lv_aload_n hx hb dL_law_1282 rfl (lv_at hl 1 rfl) ?_
  refine lv_aload_n hx hb dL_law_1283 rfl (lv_at hl 0 rfl) ?_
  refine lv_iload hx hb dL_law_1284 (lv_at hl 4 rfl) ?_
  refine lv_iconst (v := 1) hx hb dL_law_1286 (by decide) ?_
  refine lv_iadd hx hb dL_law_1287 ?_
  refine va_sld hx hb hX hbl hbA hW.2.2.2.2.2.2 h1 dL_law_1288 ?_
  refine lv_aload_n hx hb dL_law_1289 rfl (lv_at hl 0 rfl) ?_
  refine lv_iload hx hb dL_law_1290 (lv_at hl 4 rfl) ?_
  refine lv_iconst (v := 2) hx hb dL_law_1292 (by decide) ?_
  refine lv_iadd hx hb dL_law_1293 ?_
  refine va_sld hx hb hX hbl hbA hW.2.2.2.2.2.2 h2 dL_law_1294 ?_
  refine lv_aload_n hx hb dL_law_1295 rfl (lv_at hl 0 rfl) ?_
  refine lv_iload hx hb dL_law_1296 (lv_at hl 4 rfl) ?_
  refine lv_iconst (v := 3) hx hb dL_law_1298 (by decide) ?_
  refine lv_iadd hx hb dL_law_1299 ?_
  refine va_sld hx hb hX hbl hbA hW.2.2.2.2.2.2 h3 dL_law_1300 ?_
  obtain ⟨r, X2, M2, ex, em, hR2⟩ := hS X M hR (xs (nI i + 1).toNatClampNeg) (xs (nI i + 2).toNatClampNeg) (xs (nI i + 3).toNatClampNeg)
  refine lz_callx (As := [.int (xs (nI i + 1).toNatClampNeg), .int (xs (nI i + 2).toNatClampNeg), .int (xs (nI i + 3).toNatClampNeg)]) C hW (c_X11_step_0 ex) lk_L_177 rfl hl.1 ⟨rfl, rfl⟩ ⟨Nat.le_of_ble_eq_true rfl, Nat.le_of_ble_eq_true rfl⟩ (Nat.le_of_ble_eq_true rfl) ⟨Nat.le_trans hK2 (by decide), Nat.le_trans hN2 (by decide)⟩ rfl dL_law_1301 (fun H locs hW => ?_)
  refine lv_aload_n hx hb dL_law_1304 rfl (lv_at hl 2 rfl) ?_
  refine lv_aload_n hx hb dL_law_1305 rfl (lv_at hl 0 rfl) ?_
  refine lv_iload hx hb dL_law_1306 (lv_at hl 4 rfl) ?_
  refine lv_iconst (v := 1) hx hb dL_law_1308 (by decide) ?_
  refine lv_iadd hx hb dL_law_1309 ?_
  refine va_sld hx hb hX hbl hbA hW.2.2.2.2.2.2 h1 dL_law_1310 ?_
  refine lv_aload_n hx hb dL_law_1311 rfl (lv_at hl 0 rfl) ?_
  refine lv_iload hx hb dL_law_1312 (lv_at hl 4 rfl) ?_
  refine lv_iconst (v := 2) hx hb dL_law_1314 (by decide) ?_
  refine lv_iadd hx hb dL_law_1315 ?_
  refine va_sld hx hb hX hbl hbA hW.2.2.2.2.2.2 h2 dL_law_1316 ?_
  refine lv_aload_n hx hb dL_law_1317 rfl (lv_at hl 0 rfl) ?_
  refine lv_iload hx hb dL_law_1318 (lv_at hl 4 rfl) ?_
  refine lv_iconst (v := 3) hx hb dL_law_1320 (by decide) ?_
  refine lv_iadd hx hb dL_law_1321 ?_
  refine va_sld hx hb hX hbl hbA hW.2.2.2.2.2.2 h3 dL_law_1322 ?_
  refine lz_callm (As := [.int (xs (nI i + 1).toNatClampNeg), .int (xs (nI i + 2).toNatClampNeg), .int (xs (nI i + 3).toNatClampNeg)]) C hW (c_X12_step_0 em) lk_L_180 rfl hl.1 ⟨rfl, rfl⟩ ⟨Nat.le_of_ble_eq_true rfl, Nat.le_of_ble_eq_true rfl⟩ (Nat.le_of_ble_eq_true rfl) ⟨Nat.le_trans hK2 (by decide), Nat.le_trans hN2 (by decide)⟩ rfl dL_law_1323 (fun H locs hW => ?_)
  refine lv_icmp_eq (tgt := 1670) hx hb dL_law_1326 (by decide) (fun _ => ?_) (fun g => absurd rfl g)
  exact nxt X2 M2 f H locs K N ls hR2 hW (by omega) (by omega) hl
set_option maxHeartbeats 4000000 in
set_option maxRecDepth 20000 in
theorem lc_36 (hS : S_proof F Rel) (C : zC p s m #[Value.ref b] meth c code 7 RL ret) (hX : va_X b L xs s s.heap) (hbl : b < s.heap.size) (hi : i ≤ 320) (h1 : vp_in (nI i + 1) L) (h2 : vp_in (nI i + 2) L) (h3 : vp_in (nI i + 3) L) (h4 : vp_in (nI i + 4) L)  (nxt : ∀ (X M : Zs) (f : Nat → Int64) (H : Heap) (locs : List Loc) (K N : Nat) (ls : Array Slot), Rel X M → lW D cs ad am o s X M f H locs → K ≤ 1000 + 2 * (i + 5) → N ≤ 100000 + 40 * (i + 5) → lv_has ls 7 [(0, .ref b), (1, .ref (ad 0)), (2, .ref (am 0)), (3, .ref o), (4, .int (nI i))] → W p l e room_1 s m #[Value.ref b] below meth c H locs K N Q (F0 m 1670 ls [])) {X M : Zs} {f : Nat → Int64} {H : Heap} {locs : List Loc} {K N : Nat} {ls : Array Slot} (hR : Rel X M) (hW : lW D cs ad am o s X M f H locs) (hK : K ≤ 1000 + 2 * i) (hN : N ≤ 100000 + 40 * i) (hl : lv_has ls 7 [(0, .ref b), (1, .ref (ad 0)), (2, .ref (am 0)), (3, .ref o), (4, .int (nI i))]) : W p l e room_1 s m #[Value.ref b] below meth c H locs K N Q (F0 m 1331 ls []) := by
  obtain ⟨hx, hb, hml, hown, hts, hret, hlk⟩ := id C
  have hbA : ¬ lA s b := Nat.not_le.mpr hbl
  have hK2 : K ≤ 2000 := by omega
  have hN2 : N ≤ 200000 := by omega
  refine lv_aload_n hx hb dL_law_1331 rfl (lv_at hl 1 rfl) ?_
  refine lv_aload_n hx hb dL_law_1332 rfl (lv_at hl 0 rfl) ?_
  refine lv_iload hx hb dL_law_1333 (lv_at hl 4 rfl) ?_
  refine lv_iconst (v := 1) hx hb dL_law_1335 (by decide) ?_
  refine lv_iadd hx hb dL_law_1336 ?_
  refine va_sld hx hb hX hbl hbA hW.2.2.2.2.2.2 h1 dL_law_1337 ?_
  obtain ⟨r, X2, M2, ex, em, hR2⟩ := hS X M hR (xs (nI i + 1).toNatClampNeg)
  refine lz_callx (As := [.int (xs (nI i + 1).toNatClampNeg)]) C hW (c_X11_proof_0 ex) lk_L_181 rfl hl.1 ⟨rfl, rfl⟩ ⟨Nat.le_of_ble_eq_true rfl, Nat.le_of_ble_eq_true rfl⟩ (Nat.le_of_ble_eq_true rfl) ⟨Nat.le_trans hK2 (by decide), Nat.le_trans hN2 (by decide)⟩ rfl dL_law_1338 (fun H locs hW => ?_)
  refine lv_aload_n hx hb dL_law_1341 rfl (lv_at hl 2 rfl) ?_
  refine lv_aload_n hx hb dL_law_1342 rfl (lv_at hl 0 rfl) ?_
  refine lv_iload hx hb dL_law_1343 (lv_at hl 4 rfl) ?_
  refine lv_iconst (v := 1) hx hb dL_law_1345 (by decide) ?_
  refine lv_iadd hx hb dL_law_1346 ?_
  refine va_sld hx hb hX hbl hbA hW.2.2.2.2.2.2 h1 dL_law_1347 ?_
  refine lz_callm (As := [.int (xs (nI i + 1).toNatClampNeg)]) C hW (c_X12_proof_0 em) lk_L_184 rfl hl.1 ⟨rfl, rfl⟩ ⟨Nat.le_of_ble_eq_true rfl, Nat.le_of_ble_eq_true rfl⟩ (Nat.le_of_ble_eq_true rfl) ⟨Nat.le_trans hK2 (by decide), Nat.le_trans hN2 (by decide)⟩ rfl dL_law_1348 (fun H locs hW => ?_)
  refine lv_icmp_eq (tgt := 1670) hx hb dL_law_1351 (by decide) (fun _ => ?_) (fun g => absurd rfl g)
  exact nxt X2 M2 f H locs K N ls hR2 hW (by omega) (by omega) hl
set_option maxHeartbeats 4000000 in
set_option maxRecDepth 20000 in
theorem lc_37 (hS : S_rests F Rel) (C : zC p s m #[Value.ref b] meth c code 7 RL ret) (hX : va_X b L xs s s.heap) (hbl : b < s.heap.size) (hi : i ≤ 320) (h1 : vp_in (nI i + 1) L) (h2 : vp_in (nI i + 2) L) (h3 : vp_in (nI i + 3) L) (h4 : vp_in (nI i + 4) L)  (nxt : ∀ (X M : Zs) (f : Nat → Int64) (H : Heap) (locs : List Loc) (K N : Nat) (ls : Array Slot), Rel X M → lW D cs ad am o s X M f H locs → K ≤ 1000 + 2 * (i + 5) → N ≤ 100000 + 40 * (i + 5) → lv_has ls 7 [(0, .ref b), (1, .ref (ad 0)), (2, .ref (am 0)), (3, .ref o), (4, .int (nI i))] → W p l e room_1 s m #[Value.ref b] below meth c H locs K N Q (F0 m 1670 ls [])) {X M : Zs} {f : Nat → Int64} {H : Heap} {locs : List Loc} {K N : Nat} {ls : Array Slot} (hR : Rel X M) (hW : lW D cs ad am o s X M f H locs) (hK : K ≤ 1000 + 2 * i) (hN : N ≤ 100000 + 40 * i) (hl : lv_has ls 7 [(0, .ref b), (1, .ref (ad 0)), (2, .ref (am 0)), (3, .ref o), (4, .int (nI i))]) : W p l e room_1 s m #[Value.ref b] below meth c H locs K N Q (F0 m 1356 ls []) := by
  obtain ⟨hx, hb, hml, hown, hts, hret, hlk⟩ := id C
  have hbA : ¬ lA s b := Nat.not_le.mpr hbl
  have hK2 : K ≤ 2000 := by omega
  have hN2 : N ≤ 200000 := by omega
  refine lv_aload_n hx hb dL_law_1356 rfl (lv_at hl 1 rfl) ?_
  refine lv_aload_n hx hb dL_law_1357 rfl (lv_at hl 0 rfl) ?_
  refine lv_iload hx hb dL_law_1358 (lv_at hl 4 rfl) ?_
  refine lv_iconst (v := 1) hx hb dL_law_1360 (by decide) ?_
  refine lv_iadd hx hb dL_law_1361 ?_
  refine va_sld hx hb hX hbl hbA hW.2.2.2.2.2.2 h1 dL_law_1362 ?_
  obtain ⟨r, X2, M2, ex, em, hR2⟩ := hS X M hR (xs (nI i + 1).toNatClampNeg)
  refine lz_callx (As := [.int (xs (nI i + 1).toNatClampNeg)]) C hW (c_X11_rests_0 ex) lk_L_185 rfl hl.1 ⟨rfl, rfl⟩ ⟨Nat.le_of_ble_eq_true rfl, Nat.le_of_ble_eq_true rfl⟩ (Nat.le_of_ble_eq_true rfl) ⟨Nat.le_trans hK2 (by decide), Nat.le_trans hN2 (by decide)⟩ rfl dL_law_1363 (fun H locs hW => ?_)
  refine lv_aload_n hx hb dL_law_1366 rfl (lv_at hl 2 rfl) ?_
  refine lv_aload_n hx hb dL_law_1367 rfl (lv_at hl 0 rfl) ?_
  refine lv_iload hx hb dL_law_1368 (lv_at hl 4 rfl) ?_
  refine lv_iconst (v := 1) hx hb dL_law_1370 (by decide) ?_
  refine lv_iadd hx hb dL_law_1371 ?_
  refine va_sld hx hb hX hbl hbA hW.2.2.2.2.2.2 h1 dL_law_1372 ?_
  refine lz_callm (As := [.int (xs (nI i + 1).toNatClampNeg)]) C hW (c_X12_rests_0 em) lk_L_188 rfl hl.1 ⟨rfl, rfl⟩ ⟨Nat.le_of_ble_eq_true rfl, Nat.le_of_ble_eq_true rfl⟩ (Nat.le_of_ble_eq_true rfl) ⟨Nat.le_trans hK2 (by decide), Nat.le_trans hN2 (by decide)⟩ rfl dL_law_1373 (fun H locs hW => ?_)
  refine lv_icmp_eq (tgt := 1670) hx hb dL_law_1376 (by decide) (fun _ => ?_) (fun g => absurd rfl g)
  exact nxt X2 M2 f H locs K N ls hR2 hW (by omega) (by omega) hl
set_option maxHeartbeats 4000000 in
set_option maxRecDepth 20000 in
theorem lc_38 (hS : S_proved F Rel) (C : zC p s m #[Value.ref b] meth c code 7 RL ret) (hX : va_X b L xs s s.heap) (hbl : b < s.heap.size) (hi : i ≤ 320) (h1 : vp_in (nI i + 1) L) (h2 : vp_in (nI i + 2) L) (h3 : vp_in (nI i + 3) L) (h4 : vp_in (nI i + 4) L)  (nxt : ∀ (X M : Zs) (f : Nat → Int64) (H : Heap) (locs : List Loc) (K N : Nat) (ls : Array Slot), Rel X M → lW D cs ad am o s X M f H locs → K ≤ 1000 + 2 * (i + 5) → N ≤ 100000 + 40 * (i + 5) → lv_has ls 7 [(0, .ref b), (1, .ref (ad 0)), (2, .ref (am 0)), (3, .ref o), (4, .int (nI i))] → W p l e room_1 s m #[Value.ref b] below meth c H locs K N Q (F0 m 1670 ls [])) {X M : Zs} {f : Nat → Int64} {H : Heap} {locs : List Loc} {K N : Nat} {ls : Array Slot} (hR : Rel X M) (hW : lW D cs ad am o s X M f H locs) (hK : K ≤ 1000 + 2 * i) (hN : N ≤ 100000 + 40 * i) (hl : lv_has ls 7 [(0, .ref b), (1, .ref (ad 0)), (2, .ref (am 0)), (3, .ref o), (4, .int (nI i))]) : W p l e room_1 s m #[Value.ref b] below meth c H locs K N Q (F0 m 1381 ls []) := by
  obtain ⟨hx, hb, hml, hown, hts, hret, hlk⟩ := id C
  have hbA : ¬ lA s b := Nat.not_le.mpr hbl
  have hK2 : K ≤ 2000 := by omega
  have hN2 : N ≤ 200000 := by omega
  refine lv_aload_n hx hb dL_law_1381 rfl (lv_at hl 1 rfl) ?_
  obtain ⟨r, X2, M2, ex, em, hR2⟩ := hS X M hR 
  refine lz_callx (As := []) C hW (c_X11_proved_0 ex) lk_L_189 rfl hl.1 ⟨rfl, rfl⟩ ⟨Nat.le_of_ble_eq_true rfl, Nat.le_of_ble_eq_true rfl⟩ (Nat.le_of_ble_eq_true rfl) ⟨Nat.le_trans hK2 (by decide), Nat.le_trans hN2 (by decide)⟩ rfl dL_law_1382 (fun H locs hW => ?_)
  refine lv_aload_n hx hb dL_law_1385 rfl (lv_at hl 2 rfl) ?_
  refine lz_callm (As := []) C hW (c_X12_proved_0 em) lk_L_192 rfl hl.1 ⟨rfl, rfl⟩ ⟨Nat.le_of_ble_eq_true rfl, Nat.le_of_ble_eq_true rfl⟩ (Nat.le_of_ble_eq_true rfl) ⟨Nat.le_trans hK2 (by decide), Nat.le_trans hN2 (by decide)⟩ rfl dL_law_1386 (fun H locs hW => ?_)
  refine lv_icmp_eq (tgt := 1670) hx hb dL_law_1389 (by decide) (fun _ => ?_) (fun g => absurd rfl g)
  exact nxt X2 M2 f H locs K N ls hR2 hW (by omega) (by omega) hl
set_option maxHeartbeats 4000000 in
set_option maxRecDepth 20000 in
theorem lc_39 (hS : S_gap F Rel) (C : zC p s m #[Value.ref b] meth c code 7 RL ret) (hX : va_X b L xs s s.heap) (hbl : b < s.heap.size) (hi : i ≤ 320) (h1 : vp_in (nI i + 1) L) (h2 : vp_in (nI i + 2) L) (h3 : vp_in (nI i + 3) L) (h4 : vp_in (nI i + 4) L)  (nxt : ∀ (X M : Zs) (f : Nat → Int64) (H : Heap) (locs : List Loc) (K N : Nat) (ls : Array Slot), Rel X M → lW D cs ad am o s X M f H locs → K ≤ 1000 + 2 * (i + 5) → N ≤ 100000 + 40 * (i + 5) → lv_has ls 7 [(0, .ref b), (1, .ref (ad 0)), (2, .ref (am 0)), (3, .ref o), (4, .int (nI i))] → W p l e room_1 s m #[Value.ref b] below meth c H locs K N Q (F0 m 1670 ls [])) {X M : Zs} {f : Nat → Int64} {H : Heap} {locs : List Loc} {K N : Nat} {ls : Array Slot} (hR : Rel X M) (hW : lW D cs ad am o s X M f H locs) (hK : K ≤ 1000 + 2 * i) (hN : N ≤ 100000 + 40 * i) (hl : lv_has ls 7 [(0, .ref b), (1, .ref (ad 0)), (2, .ref (am 0)), (3, .ref o), (4, .int (nI i))]) : W p l e room_1 s m #[Value.ref b] below meth c H locs K N Q (F0 m 1394 ls []) := by
  obtain ⟨hx, hb, hml, hown, hts, hret, hlk⟩ := id C
  have hbA : ¬ lA s b := Nat.not_le.mpr hbl
  have hK2 : K ≤ 2000 := by omega
  have hN2 : N ≤ 200000 := by omega
  refine lv_aload_n hx hb dL_law_1394 rfl (lv_at hl 1 rfl) ?_
  obtain ⟨r, X2, M2, ex, em, hR2⟩ := hS X M hR 
  refine lz_callx (As := []) C hW (c_X11_gap_0 ex) lk_L_193 rfl hl.1 ⟨rfl, rfl⟩ ⟨Nat.le_of_ble_eq_true rfl, Nat.le_of_ble_eq_true rfl⟩ (Nat.le_of_ble_eq_true rfl) ⟨Nat.le_trans hK2 (by decide), Nat.le_trans hN2 (by decide)⟩ rfl dL_law_1395 (fun H locs hW => ?_)
  refine lv_aload_n hx hb dL_law_1398 rfl (lv_at hl 2 rfl) ?_
  refine lz_callm (As := []) C hW (c_X12_gap_0 em) lk_L_196 rfl hl.1 ⟨rfl, rfl⟩ ⟨Nat.le_of_ble_eq_true rfl, Nat.le_of_ble_eq_true rfl⟩ (Nat.le_of_ble_eq_true rfl) ⟨Nat.le_trans hK2 (by decide), Nat.le_trans hN2 (by decide)⟩ rfl dL_law_1399 (fun H locs hW => ?_)
  refine lv_icmp_eq (tgt := 1670) hx hb dL_law_1402 (by decide) (fun _ => ?_) (fun g => absurd rfl g)
  exact nxt X2 M2 f H locs K N ls hR2 hW (by omega) (by omega) hl
set_option maxHeartbeats 4000000 in
set_option maxRecDepth 20000 in
theorem lc_40 (hS : S_plead F Rel) (C : zC p s m #[Value.ref b] meth c code 7 RL ret) (hX : va_X b L xs s s.heap) (hbl : b < s.heap.size) (hi : i ≤ 320) (h1 : vp_in (nI i + 1) L) (h2 : vp_in (nI i + 2) L) (h3 : vp_in (nI i + 3) L) (h4 : vp_in (nI i + 4) L)  (nxt : ∀ (X M : Zs) (f : Nat → Int64) (H : Heap) (locs : List Loc) (K N : Nat) (ls : Array Slot), Rel X M → lW D cs ad am o s X M f H locs → K ≤ 1000 + 2 * (i + 5) → N ≤ 100000 + 40 * (i + 5) → lv_has ls 7 [(0, .ref b), (1, .ref (ad 0)), (2, .ref (am 0)), (3, .ref o), (4, .int (nI i))] → W p l e room_1 s m #[Value.ref b] below meth c H locs K N Q (F0 m 1670 ls [])) {X M : Zs} {f : Nat → Int64} {H : Heap} {locs : List Loc} {K N : Nat} {ls : Array Slot} (hR : Rel X M) (hW : lW D cs ad am o s X M f H locs) (hK : K ≤ 1000 + 2 * i) (hN : N ≤ 100000 + 40 * i) (hl : lv_has ls 7 [(0, .ref b), (1, .ref (ad 0)), (2, .ref (am 0)), (3, .ref o), (4, .int (nI i))]) : W p l e room_1 s m #[Value.ref b] below meth c H locs K N Q (F0 m 1407 ls []) := by
  obtain ⟨hx, hb, hml, hown, hts, hret, hlk⟩ := id C
  have hbA : ¬ lA s b := Nat.not_le.mpr hbl
  have hK2 : K ≤ 2000 := by omega
  have hN2 : N ≤ 200000 := by omega
  refine lv_aload_n hx hb dL_law_1407 rfl (lv_at hl 1 rfl) ?_
  obtain ⟨r, X2, M2, ex, em, hR2⟩ := hS X M hR 
  refine lz_callx (As := []) C hW (c_X11_plead_0 ex) lk_L_197 rfl hl.1 ⟨rfl, rfl⟩ ⟨Nat.le_of_ble_eq_true rfl, Nat.le_of_ble_eq_true rfl⟩ (Nat.le_of_ble_eq_true rfl) ⟨Nat.le_trans hK2 (by decide), Nat.le_trans hN2 (by decide)⟩ rfl dL_law_1408 (fun H locs hW => ?_)
  refine lv_aload_n hx hb dL_law_1411 rfl (lv_at hl 2 rfl) ?_
  refine lz_callm (As := []) C hW (c_X12_plead_0 em) lk_L_200 rfl hl.1 ⟨rfl, rfl⟩ ⟨Nat.le_of_ble_eq_true rfl, Nat.le_of_ble_eq_true rfl⟩ (Nat.le_of_ble_eq_true rfl) ⟨Nat.le_trans hK2 (by decide), Nat.le_trans hN2 (by decide)⟩ rfl dL_law_1412 (fun H locs hW => ?_)
  refine lv_icmp_eq (tgt := 1670) hx hb dL_law_1415 (by decide) (fun _ => ?_) (fun g => absurd rfl g)
  exact nxt X2 M2 f H locs K N ls hR2 hW (by omega) (by omega) hl
set_option maxHeartbeats 4000000 in
set_option maxRecDepth 20000 in
theorem lc_41 (hS : S_pleaded F Rel) (C : zC p s m #[Value.ref b] meth c code 7 RL ret) (hX : va_X b L xs s s.heap) (hbl : b < s.heap.size) (hi : i ≤ 320) (h1 : vp_in (nI i + 1) L) (h2 : vp_in (nI i + 2) L) (h3 : vp_in (nI i + 3) L) (h4 : vp_in (nI i + 4) L) (hT : ∀ a0 a1 : Int32, lTr p l e s m #[Value.ref b] below meth c Q D cs ad am o 1434 [.int a0, .int a1] (fun X => (∃ q, n_X11_pleaded_0 F X a0 a1 = some q) ∨ bad_pleaded X a0 a1) (o_pleaded F a0 a1)) (nxt : ∀ (X M : Zs) (f : Nat → Int64) (H : Heap) (locs : List Loc) (K N : Nat) (ls : Array Slot), Rel X M → lW D cs ad am o s X M f H locs → K ≤ 1000 + 2 * (i + 5) → N ≤ 100000 + 40 * (i + 5) → lv_has ls 7 [(0, .ref b), (1, .ref (ad 0)), (2, .ref (am 0)), (3, .ref o), (4, .int (nI i))] → W p l e room_1 s m #[Value.ref b] below meth c H locs K N Q (F0 m 1670 ls [])) {X M : Zs} {f : Nat → Int64} {H : Heap} {locs : List Loc} {K N : Nat} {ls : Array Slot} (hR : Rel X M) (hW : lW D cs ad am o s X M f H locs) (hK : K ≤ 1000 + 2 * i) (hN : N ≤ 100000 + 40 * i) (hl : lv_has ls 7 [(0, .ref b), (1, .ref (ad 0)), (2, .ref (am 0)), (3, .ref o), (4, .int (nI i))]) : W p l e room_1 s m #[Value.ref b] below meth c H locs K N Q (F0 m 1420 ls []) := by
  obtain ⟨hx, hb, hml, hown, hts, hret, hlk⟩ := id C
  have hbA : ¬ lA s b := Nat.not_le.mpr hbl
  have hK2 : K ≤ 2000 := by omega
  have hN2 : N ≤ 200000 := by omega
  refine lv_aload_n hx hb dL_law_1420 rfl (lv_at hl 1 rfl) ?_
  refine lv_aload_n hx hb dL_law_1421 rfl (lv_at hl 0 rfl) ?_
  refine lv_iload hx hb dL_law_1422 (lv_at hl 4 rfl) ?_
  refine lv_iconst (v := 1) hx hb dL_law_1424 (by decide) ?_
  refine lv_iadd hx hb dL_law_1425 ?_
  refine va_sld hx hb hX hbl hbA hW.2.2.2.2.2.2 h1 dL_law_1426 ?_
  refine lv_aload_n hx hb dL_law_1427 rfl (lv_at hl 0 rfl) ?_
  refine lv_iload hx hb dL_law_1428 (lv_at hl 4 rfl) ?_
  refine lv_iconst (v := 2) hx hb dL_law_1430 (by decide) ?_
  refine lv_iadd hx hb dL_law_1431 ?_
  refine va_sld hx hb hX hbl hbA hW.2.2.2.2.2.2 h2 dL_law_1432 ?_
  refine lv_aload_n hx hb dL_law_1433 rfl (lv_at hl 3 rfl) ?_
  obtain ⟨r, M2, em, hcs⟩ := hS X M hR (xs (nI i + 1).toNatClampNeg) (xs (nI i + 2).toNatClampNeg)
  refine hT (xs (nI i + 1).toNatClampNeg) (xs (nI i + 2).toNatClampNeg) X M f H locs K N ls hW (hcs.elim (fun h => Or.inl ⟨_, h.choose_spec.1⟩) (fun h => Or.inr h.2.1)) hK2 hN2 hl.1 (fun k X2 f2 H locs ho hW => ?_)
  have hK2 : K + 2 ≤ 2002 := by omega
  have hN2 : N + 40 ≤ 200040 := by omega
  refine lv_istore (lv' := [(5, .int k), (0, .ref b), (1, .ref (ad 0)), (2, .ref (am 0)), (3, .ref o), (4, .int (nI i))]) hx hb dL_law_1437 hl (by decide) rfl (fun ls hl => ?_)
  refine lv_aload_n hx hb dL_law_1439 rfl (lv_at hl 3 rfl) ?_
  refine lv_aload_n hx hb dL_law_1440 rfl (lv_at hl 1 rfl) ?_
  refine lv_iload hx hb dL_law_1441 (lv_at hl 5 rfl) ?_
  refine lv_iconst (v := 1) hx hb dL_law_1443 (by decide) ?_
  refine lv_iadd hx hb dL_law_1444 ?_
  refine va_sld hx hb hX hbl hbA hW.2.2.2.2.2.2 h1 dL_law_1445 ?_
  refine lv_aload_n hx hb dL_law_1446 rfl (lv_at hl 1 rfl) ?_
  refine lv_iload hx hb dL_law_1447 (lv_at hl 5 rfl) ?_
  refine lv_iconst (v := 2) hx hb dL_law_1449 (by decide) ?_
  refine lv_iadd hx hb dL_law_1450 ?_
  refine va_sld hx hb hX hbl hbA hW.2.2.2.2.2.2 h2 dL_law_1451 ?_
  refine lz_callm (As := [.int (xs (nI i + 1).toNatClampNeg), .int (xs (nI i + 2).toNatClampNeg)]) C hW (c_X12_pleaded_0 em) lk_L_203 rfl hl.1 ⟨rfl, rfl⟩ ⟨Nat.le_of_ble_eq_true rfl, Nat.le_of_ble_eq_true rfl⟩ (Nat.le_of_ble_eq_true rfl) ⟨Nat.le_trans hK2 (by decide), Nat.le_trans hN2 (by decide)⟩ rfl dL_law_1452 (fun H locs hW => ?_)
  refine lv_istore (lv' := [(6, .int r), (5, .int k), (0, .ref b), (1, .ref (ad 0)), (2, .ref (am 0)), (3, .ref o), (4, .int (nI i))]) hx hb dL_law_1455 hl (by decide) rfl (fun ls hl => ?_)
  refine lv_aload_n hx hb dL_law_1457 rfl (lv_at hl 4 rfl) ?_
  refine lz_callm (As := []) C hW (c_X12_thrown_0 (F := F) (S := M2) (q := (M2.1 0 0, M2)) rfl) lk_L_46 rfl hl.1 ⟨rfl, rfl⟩ ⟨Nat.le_of_ble_eq_true rfl, Nat.le_of_ble_eq_true rfl⟩ (Nat.le_of_ble_eq_true rfl) ⟨Nat.le_trans hK2 (by decide), Nat.le_trans hN2 (by decide)⟩ rfl dL_law_1458 (fun H locs hW => ?_)
  refine lv_iload hx hb dL_law_1461 (lv_at hl 1 rfl) ?_
  rcases ho with ⟨r2, ex, rfl, hf⟩ | ⟨hbad, hk1, hX2, hf2⟩
  · rcases hcs with ⟨X3, ex3, hnb, hth, hR2⟩ | ⟨ex3, hbad, hth, hR2⟩
    · rw [ex] at ex3
      cases ex3
      refine lv_icmp_eq (tgt := 1468) hx hb dL_law_1463 (by decide) (fun _ => ?_) (fun g => absurd hth g)
      refine lv_iload hx hb dL_law_1468 (lv_at hl 1 rfl) ?_
      refine lv_if_ne (tgt := 1485) hx hb dL_law_1470 (by decide) (fun g => absurd rfl g) (fun _ => ?_)
      refine lv_aload_n hx hb dL_law_1473 rfl (lv_at hl 5 rfl) ?_
      refine lv_iconst (v := 0) hx hb dL_law_1474 (by decide) ?_
      refine va_lald (f := f2) hx hb hW.2.2.2.2.1 hW.2.2.1 0 4 rfl rfl (zin_of (i := 0) (n := 1) (by decide)) dL_law_1475 ?_
      refine lv_iload hx hb dL_law_1476 (lv_at hl 0 rfl) ?_
      refine lv_i2l hx hb dL_law_1478 rfl ?_
      refine W.lcmp hx hb dL_law_1479 ?_
      refine lv_if_eq (tgt := 1485) hx hb dL_law_1480 (by decide) (fun _ => ?_) (fun g => absurd (by rw [hf]; exact lg_cmp_self _) g)
      refine lv_goto (tgt := 1670) hx hb dL_law_1485 (by decide) ?_
      exact nxt _ _ _ H locs (K + 2) (N + 40) ls hR2 hW (by omega) (by omega) (lv_sub hl [2, 3, 4, 5, 6] rfl)
    · rw [ex] at ex3; cases ex3
  · rcases hcs with ⟨X3, ex3, hnb, hth, hR2⟩ | ⟨ex3, hbad2, hth, hR2⟩
    · exact absurd hbad hnb
    · refine lv_icmp_eq (tgt := 1468) hx hb dL_law_1463 (by decide) (fun _ => ?_) (fun g => absurd (hth.trans hk1.symm) g)
      refine lv_iload hx hb dL_law_1468 (lv_at hl 1 rfl) ?_
      refine lv_if_ne (tgt := 1485) hx hb dL_law_1470 (by decide) (fun _ => ?_) (fun g => absurd g (by rw [hk1]; decide))
      refine lv_goto (tgt := 1670) hx hb dL_law_1485 (by decide) ?_
      exact nxt _ _ _ H locs (K + 2) (N + 40) ls (by rw [hX2]; exact hR2) hW (by omega) (by omega) (lv_sub hl [2, 3, 4, 5, 6] rfl)
set_option maxHeartbeats 4000000 in
set_option maxRecDepth 20000 in
theorem lc_42 (hS : S_stands F Rel) (C : zC p s m #[Value.ref b] meth c code 7 RL ret) (hX : va_X b L xs s s.heap) (hbl : b < s.heap.size) (hi : i ≤ 320) (h1 : vp_in (nI i + 1) L) (h2 : vp_in (nI i + 2) L) (h3 : vp_in (nI i + 3) L) (h4 : vp_in (nI i + 4) L)  (nxt : ∀ (X M : Zs) (f : Nat → Int64) (H : Heap) (locs : List Loc) (K N : Nat) (ls : Array Slot), Rel X M → lW D cs ad am o s X M f H locs → K ≤ 1000 + 2 * (i + 5) → N ≤ 100000 + 40 * (i + 5) → lv_has ls 7 [(0, .ref b), (1, .ref (ad 0)), (2, .ref (am 0)), (3, .ref o), (4, .int (nI i))] → W p l e room_1 s m #[Value.ref b] below meth c H locs K N Q (F0 m 1670 ls [])) {X M : Zs} {f : Nat → Int64} {H : Heap} {locs : List Loc} {K N : Nat} {ls : Array Slot} (hR : Rel X M) (hW : lW D cs ad am o s X M f H locs) (hK : K ≤ 1000 + 2 * i) (hN : N ≤ 100000 + 40 * i) (hl : lv_has ls 7 [(0, .ref b), (1, .ref (ad 0)), (2, .ref (am 0)), (3, .ref o), (4, .int (nI i))]) : W p l e room_1 s m #[Value.ref b] below meth c H locs K N Q (F0 m 1488 ls []) := by
  obtain ⟨hx, hb, hml, hown, hts, hret, hlk⟩ := id C
  have hbA : ¬ lA s b := Nat.not_le.mpr hbl
  have hK2 : K ≤ 2000 := by omega
  have hN2 : N ≤ 200000 := by omega
  refine lv_aload_n hx hb dL_law_1488 rfl (lv_at hl 1 rfl) ?_
  obtain ⟨r, X2, M2, ex, em, hR2⟩ := hS X M hR 
  refine lz_callx (As := []) C hW (c_X11_stands_0 ex) lk_L_204 rfl hl.1 ⟨rfl, rfl⟩ ⟨Nat.le_of_ble_eq_true rfl, Nat.le_of_ble_eq_true rfl⟩ (Nat.le_of_ble_eq_true rfl) ⟨Nat.le_trans hK2 (by decide), Nat.le_trans hN2 (by decide)⟩ rfl dL_law_1489 (fun H locs hW => ?_)
  refine lv_aload_n hx hb dL_law_1492 rfl (lv_at hl 2 rfl) ?_
  refine lz_callm (As := []) C hW (c_X12_stands_0 em) lk_L_207 rfl hl.1 ⟨rfl, rfl⟩ ⟨Nat.le_of_ble_eq_true rfl, Nat.le_of_ble_eq_true rfl⟩ (Nat.le_of_ble_eq_true rfl) ⟨Nat.le_trans hK2 (by decide), Nat.le_trans hN2 (by decide)⟩ rfl dL_law_1493 (fun H locs hW => ?_)
  refine lv_icmp_eq (tgt := 1670) hx hb dL_law_1496 (by decide) (fun _ => ?_) (fun g => absurd rfl g)
  exact nxt X2 M2 f H locs K N ls hR2 hW (by omega) (by omega) hl
set_option maxHeartbeats 4000000 in
set_option maxRecDepth 20000 in
theorem lc_43 (hS : S_marks F Rel) (C : zC p s m #[Value.ref b] meth c code 7 RL ret) (hX : va_X b L xs s s.heap) (hbl : b < s.heap.size) (hi : i ≤ 320) (h1 : vp_in (nI i + 1) L) (h2 : vp_in (nI i + 2) L) (h3 : vp_in (nI i + 3) L) (h4 : vp_in (nI i + 4) L)  (nxt : ∀ (X M : Zs) (f : Nat → Int64) (H : Heap) (locs : List Loc) (K N : Nat) (ls : Array Slot), Rel X M → lW D cs ad am o s X M f H locs → K ≤ 1000 + 2 * (i + 5) → N ≤ 100000 + 40 * (i + 5) → lv_has ls 7 [(0, .ref b), (1, .ref (ad 0)), (2, .ref (am 0)), (3, .ref o), (4, .int (nI i))] → W p l e room_1 s m #[Value.ref b] below meth c H locs K N Q (F0 m 1670 ls [])) {X M : Zs} {f : Nat → Int64} {H : Heap} {locs : List Loc} {K N : Nat} {ls : Array Slot} (hR : Rel X M) (hW : lW D cs ad am o s X M f H locs) (hK : K ≤ 1000 + 2 * i) (hN : N ≤ 100000 + 40 * i) (hl : lv_has ls 7 [(0, .ref b), (1, .ref (ad 0)), (2, .ref (am 0)), (3, .ref o), (4, .int (nI i))]) : W p l e room_1 s m #[Value.ref b] below meth c H locs K N Q (F0 m 1501 ls []) := by
  obtain ⟨hx, hb, hml, hown, hts, hret, hlk⟩ := id C
  have hbA : ¬ lA s b := Nat.not_le.mpr hbl
  have hK2 : K ≤ 2000 := by omega
  have hN2 : N ≤ 200000 := by omega
  refine lv_aload_n hx hb dL_law_1501 rfl (lv_at hl 1 rfl) ?_
  refine lv_aload_n hx hb dL_law_1502 rfl (lv_at hl 0 rfl) ?_
  refine lv_iload hx hb dL_law_1503 (lv_at hl 4 rfl) ?_
  refine lv_iconst (v := 1) hx hb dL_law_1505 (by decide) ?_
  refine lv_iadd hx hb dL_law_1506 ?_
  refine va_sld hx hb hX hbl hbA hW.2.2.2.2.2.2 h1 dL_law_1507 ?_
  obtain ⟨r, X2, M2, ex, em, hR2⟩ := hS X M hR (xs (nI i + 1).toNatClampNeg)
  refine lz_callx (As := [.int (xs (nI i + 1).toNatClampNeg)]) C hW (c_X11_marks_0 ex) lk_L_208 rfl hl.1 ⟨rfl, rfl⟩ ⟨Nat.le_of_ble_eq_true rfl, Nat.le_of_ble_eq_true rfl⟩ (Nat.le_of_ble_eq_true rfl) ⟨Nat.le_trans hK2 (by decide), Nat.le_trans hN2 (by decide)⟩ rfl dL_law_1508 (fun H locs hW => ?_)
  refine lv_aload_n hx hb dL_law_1511 rfl (lv_at hl 2 rfl) ?_
  refine lv_aload_n hx hb dL_law_1512 rfl (lv_at hl 0 rfl) ?_
  refine lv_iload hx hb dL_law_1513 (lv_at hl 4 rfl) ?_
  refine lv_iconst (v := 1) hx hb dL_law_1515 (by decide) ?_
  refine lv_iadd hx hb dL_law_1516 ?_
  refine va_sld hx hb hX hbl hbA hW.2.2.2.2.2.2 h1 dL_law_1517 ?_
  refine lz_callm (As := [.int (xs (nI i + 1).toNatClampNeg)]) C hW (c_X12_marks_0 em) lk_L_211 rfl hl.1 ⟨rfl, rfl⟩ ⟨Nat.le_of_ble_eq_true rfl, Nat.le_of_ble_eq_true rfl⟩ (Nat.le_of_ble_eq_true rfl) ⟨Nat.le_trans hK2 (by decide), Nat.le_trans hN2 (by decide)⟩ rfl dL_law_1518 (fun H locs hW => ?_)
  refine lv_icmp_eq (tgt := 1670) hx hb dL_law_1521 (by decide) (fun _ => ?_) (fun g => absurd rfl g)
  exact nxt X2 M2 f H locs K N ls hR2 hW (by omega) (by omega) hl
set_option maxHeartbeats 4000000 in
set_option maxRecDepth 20000 in
theorem lc_44 (hS : S_strike F Rel) (C : zC p s m #[Value.ref b] meth c code 7 RL ret) (hX : va_X b L xs s s.heap) (hbl : b < s.heap.size) (hi : i ≤ 320) (h1 : vp_in (nI i + 1) L) (h2 : vp_in (nI i + 2) L) (h3 : vp_in (nI i + 3) L) (h4 : vp_in (nI i + 4) L)  (nxt : ∀ (X M : Zs) (f : Nat → Int64) (H : Heap) (locs : List Loc) (K N : Nat) (ls : Array Slot), Rel X M → lW D cs ad am o s X M f H locs → K ≤ 1000 + 2 * (i + 5) → N ≤ 100000 + 40 * (i + 5) → lv_has ls 7 [(0, .ref b), (1, .ref (ad 0)), (2, .ref (am 0)), (3, .ref o), (4, .int (nI i))] → W p l e room_1 s m #[Value.ref b] below meth c H locs K N Q (F0 m 1670 ls [])) {X M : Zs} {f : Nat → Int64} {H : Heap} {locs : List Loc} {K N : Nat} {ls : Array Slot} (hR : Rel X M) (hW : lW D cs ad am o s X M f H locs) (hK : K ≤ 1000 + 2 * i) (hN : N ≤ 100000 + 40 * i) (hl : lv_has ls 7 [(0, .ref b), (1, .ref (ad 0)), (2, .ref (am 0)), (3, .ref o), (4, .int (nI i))]) : W p l e room_1 s m #[Value.ref b] below meth c H locs K N Q (F0 m 1526 ls []) := by
  obtain ⟨hx, hb, hml, hown, hts, hret, hlk⟩ := id C
  have hbA : ¬ lA s b := Nat.not_le.mpr hbl
  have hK2 : K ≤ 2000 := by omega
  have hN2 : N ≤ 200000 := by omega
  refine lv_aload_n hx hb dL_law_1526 rfl (lv_at hl 1 rfl) ?_
  obtain ⟨r, X2, M2, ex, em, hR2⟩ := hS X M hR 
  refine lz_callx (As := []) C hW (c_X11_strike_0 ex) lk_L_212 rfl hl.1 ⟨rfl, rfl⟩ ⟨Nat.le_of_ble_eq_true rfl, Nat.le_of_ble_eq_true rfl⟩ (Nat.le_of_ble_eq_true rfl) ⟨Nat.le_trans hK2 (by decide), Nat.le_trans hN2 (by decide)⟩ rfl dL_law_1527 (fun H locs hW => ?_)
  refine lv_aload_n hx hb dL_law_1530 rfl (lv_at hl 2 rfl) ?_
  refine lz_callm (As := []) C hW (c_X12_strike_0 em) lk_L_215 rfl hl.1 ⟨rfl, rfl⟩ ⟨Nat.le_of_ble_eq_true rfl, Nat.le_of_ble_eq_true rfl⟩ (Nat.le_of_ble_eq_true rfl) ⟨Nat.le_trans hK2 (by decide), Nat.le_trans hN2 (by decide)⟩ rfl dL_law_1531 (fun H locs hW => ?_)
  refine lv_icmp_eq (tgt := 1670) hx hb dL_law_1534 (by decide) (fun _ => ?_) (fun g => absurd rfl g)
  exact nxt X2 M2 f H locs K N ls hR2 hW (by omega) (by omega) hl
set_option maxHeartbeats 4000000 in
set_option maxRecDepth 20000 in
theorem lc_45 (hS : S_keep F Rel) (C : zC p s m #[Value.ref b] meth c code 7 RL ret) (hX : va_X b L xs s s.heap) (hbl : b < s.heap.size) (hi : i ≤ 320) (h1 : vp_in (nI i + 1) L) (h2 : vp_in (nI i + 2) L) (h3 : vp_in (nI i + 3) L) (h4 : vp_in (nI i + 4) L)  (nxt : ∀ (X M : Zs) (f : Nat → Int64) (H : Heap) (locs : List Loc) (K N : Nat) (ls : Array Slot), Rel X M → lW D cs ad am o s X M f H locs → K ≤ 1000 + 2 * (i + 5) → N ≤ 100000 + 40 * (i + 5) → lv_has ls 7 [(0, .ref b), (1, .ref (ad 0)), (2, .ref (am 0)), (3, .ref o), (4, .int (nI i))] → W p l e room_1 s m #[Value.ref b] below meth c H locs K N Q (F0 m 1670 ls [])) {X M : Zs} {f : Nat → Int64} {H : Heap} {locs : List Loc} {K N : Nat} {ls : Array Slot} (hR : Rel X M) (hW : lW D cs ad am o s X M f H locs) (hK : K ≤ 1000 + 2 * i) (hN : N ≤ 100000 + 40 * i) (hl : lv_has ls 7 [(0, .ref b), (1, .ref (ad 0)), (2, .ref (am 0)), (3, .ref o), (4, .int (nI i))]) : W p l e room_1 s m #[Value.ref b] below meth c H locs K N Q (F0 m 1539 ls []) := by
  obtain ⟨hx, hb, hml, hown, hts, hret, hlk⟩ := id C
  have hbA : ¬ lA s b := Nat.not_le.mpr hbl
  have hK2 : K ≤ 2000 := by omega
  have hN2 : N ≤ 200000 := by omega
  refine lv_aload_n hx hb dL_law_1539 rfl (lv_at hl 1 rfl) ?_
  refine lv_aload_n hx hb dL_law_1540 rfl (lv_at hl 0 rfl) ?_
  refine lv_iload hx hb dL_law_1541 (lv_at hl 4 rfl) ?_
  refine lv_iconst (v := 1) hx hb dL_law_1543 (by decide) ?_
  refine lv_iadd hx hb dL_law_1544 ?_
  refine va_sld hx hb hX hbl hbA hW.2.2.2.2.2.2 h1 dL_law_1545 ?_
  obtain ⟨r, X2, M2, ex, em, hR2⟩ := hS X M hR (xs (nI i + 1).toNatClampNeg)
  refine lz_callx (As := [.int (xs (nI i + 1).toNatClampNeg)]) C hW (c_X11_keep_0 ex) lk_L_216 rfl hl.1 ⟨rfl, rfl⟩ ⟨Nat.le_of_ble_eq_true rfl, Nat.le_of_ble_eq_true rfl⟩ (Nat.le_of_ble_eq_true rfl) ⟨Nat.le_trans hK2 (by decide), Nat.le_trans hN2 (by decide)⟩ rfl dL_law_1546 (fun H locs hW => ?_)
  refine lv_aload_n hx hb dL_law_1549 rfl (lv_at hl 2 rfl) ?_
  refine lv_aload_n hx hb dL_law_1550 rfl (lv_at hl 0 rfl) ?_
  refine lv_iload hx hb dL_law_1551 (lv_at hl 4 rfl) ?_
  refine lv_iconst (v := 1) hx hb dL_law_1553 (by decide) ?_
  refine lv_iadd hx hb dL_law_1554 ?_
  refine va_sld hx hb hX hbl hbA hW.2.2.2.2.2.2 h1 dL_law_1555 ?_
  refine lz_callm (As := [.int (xs (nI i + 1).toNatClampNeg)]) C hW (c_X12_keep_0 em) lk_L_219 rfl hl.1 ⟨rfl, rfl⟩ ⟨Nat.le_of_ble_eq_true rfl, Nat.le_of_ble_eq_true rfl⟩ (Nat.le_of_ble_eq_true rfl) ⟨Nat.le_trans hK2 (by decide), Nat.le_trans hN2 (by decide)⟩ rfl dL_law_1556 (fun H locs hW => ?_)
  refine lv_icmp_eq (tgt := 1670) hx hb dL_law_1559 (by decide) (fun _ => ?_) (fun g => absurd rfl g)
  exact nxt X2 M2 f H locs K N ls hR2 hW (by omega) (by omega) hl
set_option maxHeartbeats 4000000 in
set_option maxRecDepth 20000 in
theorem lc_46 (hS : S_again F Rel) (C : zC p s m #[Value.ref b] meth c code 7 RL ret) (hX : va_X b L xs s s.heap) (hbl : b < s.heap.size) (hi : i ≤ 320) (h1 : vp_in (nI i + 1) L) (h2 : vp_in (nI i + 2) L) (h3 : vp_in (nI i + 3) L) (h4 : vp_in (nI i + 4) L)  (nxt : ∀ (X M : Zs) (f : Nat → Int64) (H : Heap) (locs : List Loc) (K N : Nat) (ls : Array Slot), Rel X M → lW D cs ad am o s X M f H locs → K ≤ 1000 + 2 * (i + 5) → N ≤ 100000 + 40 * (i + 5) → lv_has ls 7 [(0, .ref b), (1, .ref (ad 0)), (2, .ref (am 0)), (3, .ref o), (4, .int (nI i))] → W p l e room_1 s m #[Value.ref b] below meth c H locs K N Q (F0 m 1670 ls [])) {X M : Zs} {f : Nat → Int64} {H : Heap} {locs : List Loc} {K N : Nat} {ls : Array Slot} (hR : Rel X M) (hW : lW D cs ad am o s X M f H locs) (hK : K ≤ 1000 + 2 * i) (hN : N ≤ 100000 + 40 * i) (hl : lv_has ls 7 [(0, .ref b), (1, .ref (ad 0)), (2, .ref (am 0)), (3, .ref o), (4, .int (nI i))]) : W p l e room_1 s m #[Value.ref b] below meth c H locs K N Q (F0 m 1564 ls []) := by
  obtain ⟨hx, hb, hml, hown, hts, hret, hlk⟩ := id C
  have hbA : ¬ lA s b := Nat.not_le.mpr hbl
  have hK2 : K ≤ 2000 := by omega
  have hN2 : N ≤ 200000 := by omega
  refine lv_aload_n hx hb dL_law_1564 rfl (lv_at hl 1 rfl) ?_
  refine lv_aload_n hx hb dL_law_1565 rfl (lv_at hl 0 rfl) ?_
  refine lv_iload hx hb dL_law_1566 (lv_at hl 4 rfl) ?_
  refine lv_iconst (v := 1) hx hb dL_law_1568 (by decide) ?_
  refine lv_iadd hx hb dL_law_1569 ?_
  refine va_sld hx hb hX hbl hbA hW.2.2.2.2.2.2 h1 dL_law_1570 ?_
  obtain ⟨r, X2, M2, ex, em, hR2⟩ := hS X M hR (xs (nI i + 1).toNatClampNeg)
  refine lz_callx (As := [.int (xs (nI i + 1).toNatClampNeg)]) C hW (c_X11_again_0 ex) lk_L_220 rfl hl.1 ⟨rfl, rfl⟩ ⟨Nat.le_of_ble_eq_true rfl, Nat.le_of_ble_eq_true rfl⟩ (Nat.le_of_ble_eq_true rfl) ⟨Nat.le_trans hK2 (by decide), Nat.le_trans hN2 (by decide)⟩ rfl dL_law_1571 (fun H locs hW => ?_)
  refine lv_aload_n hx hb dL_law_1574 rfl (lv_at hl 2 rfl) ?_
  refine lv_aload_n hx hb dL_law_1575 rfl (lv_at hl 0 rfl) ?_
  refine lv_iload hx hb dL_law_1576 (lv_at hl 4 rfl) ?_
  refine lv_iconst (v := 1) hx hb dL_law_1578 (by decide) ?_
  refine lv_iadd hx hb dL_law_1579 ?_
  refine va_sld hx hb hX hbl hbA hW.2.2.2.2.2.2 h1 dL_law_1580 ?_
  refine lz_callm (As := [.int (xs (nI i + 1).toNatClampNeg)]) C hW (c_X12_again_0 em) lk_L_223 rfl hl.1 ⟨rfl, rfl⟩ ⟨Nat.le_of_ble_eq_true rfl, Nat.le_of_ble_eq_true rfl⟩ (Nat.le_of_ble_eq_true rfl) ⟨Nat.le_trans hK2 (by decide), Nat.le_trans hN2 (by decide)⟩ rfl dL_law_1581 (fun H locs hW => ?_)
  refine lv_icmp_eq (tgt := 1670) hx hb dL_law_1584 (by decide) (fun _ => ?_) (fun g => absurd rfl g)
  exact nxt X2 M2 f H locs K N ls hR2 hW (by omega) (by omega) hl
set_option maxHeartbeats 4000000 in
set_option maxRecDepth 20000 in
theorem lc_47 (hS : S_count F Rel) (C : zC p s m #[Value.ref b] meth c code 7 RL ret) (hX : va_X b L xs s s.heap) (hbl : b < s.heap.size) (hi : i ≤ 320) (h1 : vp_in (nI i + 1) L) (h2 : vp_in (nI i + 2) L) (h3 : vp_in (nI i + 3) L) (h4 : vp_in (nI i + 4) L)  (nxt : ∀ (X M : Zs) (f : Nat → Int64) (H : Heap) (locs : List Loc) (K N : Nat) (ls : Array Slot), Rel X M → lW D cs ad am o s X M f H locs → K ≤ 1000 + 2 * (i + 5) → N ≤ 100000 + 40 * (i + 5) → lv_has ls 7 [(0, .ref b), (1, .ref (ad 0)), (2, .ref (am 0)), (3, .ref o), (4, .int (nI i))] → W p l e room_1 s m #[Value.ref b] below meth c H locs K N Q (F0 m 1670 ls [])) {X M : Zs} {f : Nat → Int64} {H : Heap} {locs : List Loc} {K N : Nat} {ls : Array Slot} (hR : Rel X M) (hW : lW D cs ad am o s X M f H locs) (hK : K ≤ 1000 + 2 * i) (hN : N ≤ 100000 + 40 * i) (hl : lv_has ls 7 [(0, .ref b), (1, .ref (ad 0)), (2, .ref (am 0)), (3, .ref o), (4, .int (nI i))]) : W p l e room_1 s m #[Value.ref b] below meth c H locs K N Q (F0 m 1589 ls []) := by
  obtain ⟨hx, hb, hml, hown, hts, hret, hlk⟩ := id C
  have hbA : ¬ lA s b := Nat.not_le.mpr hbl
  have hK2 : K ≤ 2000 := by omega
  have hN2 : N ≤ 200000 := by omega
  refine lv_aload_n hx hb dL_law_1589 rfl (lv_at hl 1 rfl) ?_
  refine lv_aload_n hx hb dL_law_1590 rfl (lv_at hl 0 rfl) ?_
  refine lv_iload hx hb dL_law_1591 (lv_at hl 4 rfl) ?_
  refine lv_iconst (v := 1) hx hb dL_law_1593 (by decide) ?_
  refine lv_iadd hx hb dL_law_1594 ?_
  refine va_sld hx hb hX hbl hbA hW.2.2.2.2.2.2 h1 dL_law_1595 ?_
  obtain ⟨r, X2, M2, ex, em, hR2⟩ := hS X M hR (xs (nI i + 1).toNatClampNeg)
  refine lz_callx (As := [.int (xs (nI i + 1).toNatClampNeg)]) C hW (c_X11_count_0 ex) lk_L_224 rfl hl.1 ⟨rfl, rfl⟩ ⟨Nat.le_of_ble_eq_true rfl, Nat.le_of_ble_eq_true rfl⟩ (Nat.le_of_ble_eq_true rfl) ⟨Nat.le_trans hK2 (by decide), Nat.le_trans hN2 (by decide)⟩ rfl dL_law_1596 (fun H locs hW => ?_)
  refine lv_aload_n hx hb dL_law_1599 rfl (lv_at hl 2 rfl) ?_
  refine lv_aload_n hx hb dL_law_1600 rfl (lv_at hl 0 rfl) ?_
  refine lv_iload hx hb dL_law_1601 (lv_at hl 4 rfl) ?_
  refine lv_iconst (v := 1) hx hb dL_law_1603 (by decide) ?_
  refine lv_iadd hx hb dL_law_1604 ?_
  refine va_sld hx hb hX hbl hbA hW.2.2.2.2.2.2 h1 dL_law_1605 ?_
  refine lz_callm (As := [.int (xs (nI i + 1).toNatClampNeg)]) C hW (c_X12_count_0 em) lk_L_227 rfl hl.1 ⟨rfl, rfl⟩ ⟨Nat.le_of_ble_eq_true rfl, Nat.le_of_ble_eq_true rfl⟩ (Nat.le_of_ble_eq_true rfl) ⟨Nat.le_trans hK2 (by decide), Nat.le_trans hN2 (by decide)⟩ rfl dL_law_1606 (fun H locs hW => ?_)
  refine lv_icmp_eq (tgt := 1670) hx hb dL_law_1609 (by decide) (fun _ => ?_) (fun g => absurd rfl g)
  exact nxt X2 M2 f H locs K N ls hR2 hW (by omega) (by omega) hl
set_option maxHeartbeats 4000000 in
set_option maxRecDepth 20000 in
theorem lc_48 (hS : S_row F Rel) (C : zC p s m #[Value.ref b] meth c code 7 RL ret) (hX : va_X b L xs s s.heap) (hbl : b < s.heap.size) (hi : i ≤ 320) (h1 : vp_in (nI i + 1) L) (h2 : vp_in (nI i + 2) L) (h3 : vp_in (nI i + 3) L) (h4 : vp_in (nI i + 4) L) (hT : ∀ a0 : Int32, lTr p l e s m #[Value.ref b] below meth c Q D cs ad am o 1622 [.int a0] (fun X => (∃ q, n_X11_row_0 F X a0 = some q) ∨ bad_row X a0) (o_row F a0)) (nxt : ∀ (X M : Zs) (f : Nat → Int64) (H : Heap) (locs : List Loc) (K N : Nat) (ls : Array Slot), Rel X M → lW D cs ad am o s X M f H locs → K ≤ 1000 + 2 * (i + 5) → N ≤ 100000 + 40 * (i + 5) → lv_has ls 7 [(0, .ref b), (1, .ref (ad 0)), (2, .ref (am 0)), (3, .ref o), (4, .int (nI i))] → W p l e room_1 s m #[Value.ref b] below meth c H locs K N Q (F0 m 1670 ls [])) {X M : Zs} {f : Nat → Int64} {H : Heap} {locs : List Loc} {K N : Nat} {ls : Array Slot} (hR : Rel X M) (hW : lW D cs ad am o s X M f H locs) (hK : K ≤ 1000 + 2 * i) (hN : N ≤ 100000 + 40 * i) (hl : lv_has ls 7 [(0, .ref b), (1, .ref (ad 0)), (2, .ref (am 0)), (3, .ref o), (4, .int (nI i))]) : W p l e room_1 s m #[Value.ref b] below meth c H locs K N Q (F0 m 1614 ls []) := by
  obtain ⟨hx, hb, hml, hown, hts, hret, hlk⟩ := id C
  have hbA : ¬ lA s b := Nat.not_le.mpr hbl
  have hK2 : K ≤ 2000 := by omega
  have hN2 : N ≤ 200000 := by omega
  refine lv_aload_n hx hb dL_law_1614 rfl (lv_at hl 1 rfl) ?_
  refine lv_aload_n hx hb dL_law_1615 rfl (lv_at hl 0 rfl) ?_
  refine lv_iload hx hb dL_law_1616 (lv_at hl 4 rfl) ?_
  refine lv_iconst (v := 1) hx hb dL_law_1618 (by decide) ?_
  refine lv_iadd hx hb dL_law_1619 ?_
  refine va_sld hx hb hX hbl hbA hW.2.2.2.2.2.2 h1 dL_law_1620 ?_
  refine lv_aload_n hx hb dL_law_1621 rfl (lv_at hl 3 rfl) ?_
  obtain ⟨r, M2, em, hcs⟩ := hS X M hR (xs (nI i + 1).toNatClampNeg)
  refine hT (xs (nI i + 1).toNatClampNeg) X M f H locs K N ls hW (hcs.elim (fun h => Or.inl ⟨_, h.choose_spec.1⟩) (fun h => Or.inr h.2.1)) hK2 hN2 hl.1 (fun k X2 f2 H locs ho hW => ?_)
  have hK2 : K + 2 ≤ 2002 := by omega
  have hN2 : N + 40 ≤ 200040 := by omega
  refine lv_istore (lv' := [(5, .int k), (0, .ref b), (1, .ref (ad 0)), (2, .ref (am 0)), (3, .ref o), (4, .int (nI i))]) hx hb dL_law_1625 hl (by decide) rfl (fun ls hl => ?_)
  refine lv_aload_n hx hb dL_law_1627 rfl (lv_at hl 3 rfl) ?_
  refine lv_aload_n hx hb dL_law_1628 rfl (lv_at hl 1 rfl) ?_
  refine lv_iload hx hb dL_law_1629 (lv_at hl 5 rfl) ?_
  refine lv_iconst (v := 1) hx hb dL_law_1631 (by decide) ?_
  refine lv_iadd hx hb dL_law_1632 ?_
  refine va_sld hx hb hX hbl hbA hW.2.2.2.2.2.2 h1 dL_law_1633 ?_
  refine lz_callm (As := [.int (xs (nI i + 1).toNatClampNeg)]) C hW (c_X12_row_0 em) lk_L_231 rfl hl.1 ⟨rfl, rfl⟩ ⟨Nat.le_of_ble_eq_true rfl, Nat.le_of_ble_eq_true rfl⟩ (Nat.le_of_ble_eq_true rfl) ⟨Nat.le_trans hK2 (by decide), Nat.le_trans hN2 (by decide)⟩ rfl dL_law_1634 (fun H locs hW => ?_)
  refine lv_istore (lv' := [(6, .int r), (5, .int k), (0, .ref b), (1, .ref (ad 0)), (2, .ref (am 0)), (3, .ref o), (4, .int (nI i))]) hx hb dL_law_1637 hl (by decide) rfl (fun ls hl => ?_)
  refine lv_aload_n hx hb dL_law_1639 rfl (lv_at hl 4 rfl) ?_
  refine lz_callm (As := []) C hW (c_X12_thrown_0 (F := F) (S := M2) (q := (M2.1 0 0, M2)) rfl) lk_L_46 rfl hl.1 ⟨rfl, rfl⟩ ⟨Nat.le_of_ble_eq_true rfl, Nat.le_of_ble_eq_true rfl⟩ (Nat.le_of_ble_eq_true rfl) ⟨Nat.le_trans hK2 (by decide), Nat.le_trans hN2 (by decide)⟩ rfl dL_law_1640 (fun H locs hW => ?_)
  refine lv_iload hx hb dL_law_1643 (lv_at hl 1 rfl) ?_
  rcases ho with ⟨r2, ex, rfl, hf⟩ | ⟨hbad, hk1, hX2, hf2⟩
  · rcases hcs with ⟨X3, ex3, hnb, hth, hR2⟩ | ⟨ex3, hbad, hth, hR2⟩
    · rw [ex] at ex3
      cases ex3
      refine lv_icmp_eq (tgt := 1650) hx hb dL_law_1645 (by decide) (fun _ => ?_) (fun g => absurd hth g)
      refine lv_iload hx hb dL_law_1650 (lv_at hl 1 rfl) ?_
      refine lv_if_ne (tgt := 1667) hx hb dL_law_1652 (by decide) (fun g => absurd rfl g) (fun _ => ?_)
      refine lv_aload_n hx hb dL_law_1655 rfl (lv_at hl 5 rfl) ?_
      refine lv_iconst (v := 0) hx hb dL_law_1656 (by decide) ?_
      refine va_lald (f := f2) hx hb hW.2.2.2.2.1 hW.2.2.1 0 4 rfl rfl (zin_of (i := 0) (n := 1) (by decide)) dL_law_1657 ?_
      refine lv_iload hx hb dL_law_1658 (lv_at hl 0 rfl) ?_
      refine lv_i2l hx hb dL_law_1660 rfl ?_
      refine W.lcmp hx hb dL_law_1661 ?_
      refine lv_if_eq (tgt := 1667) hx hb dL_law_1662 (by decide) (fun _ => ?_) (fun g => absurd (by rw [hf]; exact lg_cmp_self _) g)
      refine lv_goto (tgt := 1670) hx hb dL_law_1667 (by decide) ?_
      exact nxt _ _ _ H locs (K + 2) (N + 40) ls hR2 hW (by omega) (by omega) (lv_sub hl [2, 3, 4, 5, 6] rfl)
    · rw [ex] at ex3; cases ex3
  · rcases hcs with ⟨X3, ex3, hnb, hth, hR2⟩ | ⟨ex3, hbad2, hth, hR2⟩
    · exact absurd hbad hnb
    · refine lv_icmp_eq (tgt := 1650) hx hb dL_law_1645 (by decide) (fun _ => ?_) (fun g => absurd (hth.trans hk1.symm) g)
      refine lv_iload hx hb dL_law_1650 (lv_at hl 1 rfl) ?_
      refine lv_if_ne (tgt := 1667) hx hb dL_law_1652 (by decide) (fun _ => ?_) (fun g => absurd g (by rw [hk1]; decide))
      refine lv_goto (tgt := 1670) hx hb dL_law_1667 (by decide) ?_
      exact nxt _ _ _ H locs (K + 2) (N + 40) ls (by rw [hX2]; exact hR2) hW (by omega) (by omega) (lv_sub hl [2, 3, 4, 5, 6] rfl)
end LWL
