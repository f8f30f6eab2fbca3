section LWL
variable {p : Program} {l : Launch} {e : Env} {s : State} {m : MethodId} {below : List Frame} {meth : Method} {c : Code} {Q : State → Prop} {D : va_G} {cs ad am : Nat → Nat} {o b L i : Nat} {xs : Nat → Int32} {F : Nat} {Rel : Zs → Zs → Prop}
set_option maxHeartbeats 4000000 in
set_option maxRecDepth 100000 in
/-- the law's loop, out of what the calls answer: no step of it looks into a method -/
theorem law_loop (hL : L ≤ 320) (C : zC p s m #[Value.ref b] meth c code 7 RL ret) (hX : va_X b L xs s s.heap) (hbl : b < s.heap.size) (s_0 : S_sign F Rel) (s_1 : S_end F Rel) (s_2 : S_told F Rel) (s_3 : S_saying F Rel) (s_4 : S_mark F Rel) (s_5 : S_lives F Rel) (s_6 : S_want F Rel) (s_7 : S_forget F Rel) (s_8 : S_sheet F Rel) (s_9 : S_holds F Rel) (s_10 : S_follows F Rel) (s_11 : S_decided F Rel) (s_12 : S_from F Rel) (s_13 : S_needs F Rel) (s_14 : S_fewest F Rel) (s_15 : S_idle F Rel) (s_16 : S_alike F Rel) (s_17 : S_clash F Rel) (s_18 : S_liars F Rel) (s_19 : S_truth F Rel) (s_20 : S_trusts F Rel) (s_21 : S_convicts F Rel) (s_22 : S_all F Rel) (s_23 : S_empty F Rel) (s_24 : S_chain F Rel) (s_25 : S_sorts F Rel) (s_26 : S_sort F Rel) (s_27 : S_both F Rel) (s_28 : S_town F Rel) (s_29 : S_refute F Rel) (s_30 : S_judge F Rel) (s_31 : S_mood F Rel) (s_32 : S_figure F Rel) (s_33 : S_forms F Rel) (s_34 : S_allow F Rel) (s_35 : S_step F Rel) (s_36 : S_proof F Rel) (s_37 : S_rests F Rel) (s_38 : S_proved F Rel) (s_39 : S_gap F Rel) (s_40 : S_plead F Rel) (s_41 : S_pleaded F Rel) (s_42 : S_stands F Rel) (s_43 : S_marks F Rel) (s_44 : S_strike F Rel) (s_45 : S_keep F Rel) (s_46 : S_again F Rel) (s_47 : S_count F Rel) (s_48 : S_row F Rel) (t_3 : ∀ a0 a1 : Int32, lTr p l e s m #[Value.ref b] below meth c Q D cs ad am o 325 [.int a0, .int a1] (fun X => (∃ q, n_X11_saying_0 F X a0 a1 = some q) ∨ bad_saying X a0 a1) (o_saying F a0 a1)) (t_41 : ∀ a0 a1 : Int32, lTr p l e s m #[Value.ref b] below meth c Q D cs ad am o 1434 [.int a0, .int a1] (fun X => (∃ q, n_X11_pleaded_0 F X a0 a1 = some q) ∨ bad_pleaded X a0 a1) (o_pleaded F a0 a1)) (t_48 : ∀ a0 : Int32, lTr p l e s m #[Value.ref b] below meth c Q D cs ad am o 1622 [.int a0] (fun X => (∃ q, n_X11_row_0 F X a0 = some q) ∨ bad_row X a0) (o_row F a0)) (fin : ∀ (H : Heap) (locs : List Loc) (K N : Nat) (ls : Array Slot), va_S (lA s) s.heap H locs → K ≤ 600128 → N ≤ 7301098 → W p l e room_1 s m #[Value.ref b] below meth c H locs K N Q (F0 m 1676 ls [])) :
    ∀ (n i : Nat) (X M : Zs) (f : Nat → Int64) (H : Heap) (locs : List Loc) (K N : Nat) (ls : Array Slot), i ≤ L → L + 1 ≤ i + n → Rel X M → lW D cs ad am o s X M f H locs → K ≤ 1000 + 2 * i → N ≤ 100000 + 40 * i → lv_has ls 7 [(0, .ref b), (1, .ref (ad 0)), (2, .ref (am 0)), (3, .ref o), (4, .int (nI i))] → W p l e room_1 s m #[Value.ref b] below meth c H locs K N Q (F0 m 23 ls []) := by
  intro n
  induction n with
  | zero => intro i X M f H locs K N ls h1 h2; exact absurd h2 (by omega)
  | succ n ih =>
    intro i X M f H locs K N ls hi hin hR hW hK hN hl
    obtain ⟨hx, hb, hml, hown, hts, hret, hlk⟩ := id C
    have hbA : ¬ lA s b := Nat.not_le.mpr hbl
    refine lv_iload hx hb dL_law_23 (lv_at hl 4 rfl) ?_
    refine lv_aload_n hx hb dL_law_25 rfl (lv_at hl 0 rfl) ?_
    refine va_slen hx hb hX hbl hbA hW.2.2.2.2.2.2 dL_law_26 ?_
    refine lv_iconst (v := 5) hx hb dL_law_27 (by decide) ?_
    refine lv_isub hx hb dL_law_28 ?_
    refine lv_icmp_gt (tgt := 1676) hx hb dL_law_29 (by decide) (fun g => ?_) (fun g => ?_)
    · exact fin H locs K N ls hW.2.2.2.2.2.2 (by omega) (by omega)
    · have hle : i + 5 ≤ L := by
        rcases Nat.lt_or_ge L (i + 5) with q | q
        · refine absurd ?_ g
          rw [Int32.lt_iff_toInt_lt]
          have e1 : (Int32.ofNat L - 5).toInt = (L : Int) - 5 := pk_sub_toInt (a := L) (b := 5) (by omega) (by omega)
          have e2 : (nI i).toInt = (i : Int) := nI_toInt (by omega)
          rw [e1, e2]
          omega
        · exact q
      have h0 : vp_in (nI i) L := vp_in_nI (by omega) (by omega)
      have h1 : vp_in (nI i + 1) L := by rw [show nI i + 1 = nI (i + 1) from nI_add i 1]; exact vp_in_nI (by omega) (by omega)
      have h2 : vp_in (nI i + 2) L := by rw [show nI i + 2 = nI (i + 2) from nI_add i 2]; exact vp_in_nI (by omega) (by omega)
      have h3 : vp_in (nI i + 3) L := by rw [show nI i + 3 = nI (i + 3) from nI_add i 3]; exact vp_in_nI (by omega) (by omega)
      have h4 : vp_in (nI i + 4) L := by rw [show nI i + 4 = nI (i + 4) from nI_add i 4]; exact vp_in_nI (by omega) (by omega)
      have nxt : ∀ (X M : Zs) (f : Nat → Int64) (H : Heap) (locs : List Loc) (K N : Nat) (ls : Array Slot), Rel X M → lW D cs ad am o s X M f H locs → K ≤ 1000 + 2 * (i + 5) → N ≤ 100000 + 40 * (i + 5) → lv_has ls 7 [(0, .ref b), (1, .ref (ad 0)), (2, .ref (am 0)), (3, .ref o), (4, .int (nI i))] → W p l e room_1 s m #[Value.ref b] below meth c H locs K N Q (F0 m 1670 ls []) := by
        intro X M f H locs K N ls hR hW hK hN hl
        refine lv_iinc (v := nI (i + 5)) (lv' := [(4, .int (nI (i + 5))), (0, .ref b), (1, .ref (ad 0)), (2, .ref (am 0)), (3, .ref o)]) hx hb dL_law_1670 hl (k := 4) rfl (nI_add i 5) (by decide) rfl (fun ls hl => ?_)
        refine lv_goto (tgt := 23) hx hb dL_law_1673 (by decide) ?_
        exact ih (i + 5) X M f H locs K N ls hle (by omega) hR hW hK hN (lv_sub hl [1, 2, 3, 4, 0] rfl)
      refine lv_aload_n hx hb dL_law_32 rfl (lv_at hl 0 rfl) ?_
      refine lv_iload hx hb dL_law_33 (lv_at hl 4 rfl) ?_
      refine va_sld hx hb hX hbl hbA hW.2.2.2.2.2.2 h0 dL_law_35 ?_
      refine lv_bipush (v := 63) hx hb dL_law_36 (by decide) ?_
      refine lv_iand hx hb dL_law_38 ?_
      refine lv_topi (fun z ez => ?_)
      by_cases e0 : z = (0 : Int32)
      · refine lv_tableIn (off := 209) (tgt := 248) hx hb dL_law_39 (by rw [e0]; decide) (by rw [e0]; decide) (by rw [e0]; rfl) (by decide) ?_
        exact lc_0 s_0 C hX hbl (by omega) h1 h2 h3 h4 nxt hR hW hK hN hl
      by_cases e1 : z = (1 : Int32)
      · refine lv_tableIn (off := 234) (tgt := 273) hx hb dL_law_39 (by rw [e1]; decide) (by rw [e1]; decide) (by rw [e1]; rfl) (by decide) ?_
        exact lc_1 s_1 C hX hbl (by omega) h1 h2 h3 h4 nxt hR hW hK hN hl
      by_cases e2 : z = (2 : Int32)
      · refine lv_tableIn (off := 259) (tgt := 298) hx hb dL_law_39 (by rw [e2]; decide) (by rw [e2]; decide) (by rw [e2]; rfl) (by decide) ?_
        exact lc_2 s_2 C hX hbl (by omega) h1 h2 h3 h4 nxt hR hW hK hN hl
      by_cases e3 : z = (3 : Int32)
      · refine lv_tableIn (off := 272) (tgt := 311) hx hb dL_law_39 (by rw [e3]; decide) (by rw [e3]; decide) (by rw [e3]; rfl) (by decide) ?_
        exact lc_3 s_3 C hX hbl (by omega) h1 h2 h3 h4 t_3 nxt hR hW hK hN hl
      by_cases e4 : z = (4 : Int32)
      · refine lv_tableIn (off := 340) (tgt := 379) hx hb dL_law_39 (by rw [e4]; decide) (by rw [e4]; decide) (by rw [e4]; rfl) (by decide) ?_
        exact lc_4 s_4 C hX hbl (by omega) h1 h2 h3 h4 nxt hR hW hK hN hl
      by_cases e5 : z = (5 : Int32)
      · refine lv_tableIn (off := 405) (tgt := 444) hx hb dL_law_39 (by rw [e5]; decide) (by rw [e5]; decide) (by rw [e5]; rfl) (by decide) ?_
        exact lc_5 s_5 C hX hbl (by omega) h1 h2 h3 h4 nxt hR hW hK hN hl
      by_cases e6 : z = (6 : Int32)
      · refine lv_tableIn (off := 458) (tgt := 497) hx hb dL_law_39 (by rw [e6]; decide) (by rw [e6]; decide) (by rw [e6]; rfl) (by decide) ?_
        exact lc_6 s_6 C hX hbl (by omega) h1 h2 h3 h4 nxt hR hW hK hN hl
      by_cases e7 : z = (7 : Int32)
      · refine lv_tableIn (off := 483) (tgt := 522) hx hb dL_law_39 (by rw [e7]; decide) (by rw [e7]; decide) (by rw [e7]; rfl) (by decide) ?_
        exact lc_7 s_7 C hX hbl (by omega) h1 h2 h3 h4 nxt hR hW hK hN hl
      by_cases e8 : z = (8 : Int32)
      · refine lv_tableIn (off := 496) (tgt := 535) hx hb dL_law_39 (by rw [e8]; decide) (by rw [e8]; decide) (by rw [e8]; rfl) (by decide) ?_
        exact lc_8 s_8 C hX hbl (by omega) h1 h2 h3 h4 nxt hR hW hK hN hl
      by_cases e9 : z = (9 : Int32)
      · refine lv_tableIn (off := 557) (tgt := 596) hx hb dL_law_39 (by rw [e9]; decide) (by rw [e9]; decide) (by rw [e9]; rfl) (by decide) ?_
        exact lc_9 s_9 C hX hbl (by omega) h1 h2 h3 h4 nxt hR hW hK hN hl
      by_cases e10 : z = (10 : Int32)
      · refine lv_tableIn (off := 570) (tgt := 609) hx hb dL_law_39 (by rw [e10]; decide) (by rw [e10]; decide) (by rw [e10]; rfl) (by decide) ?_
        exact lc_10 s_10 C hX hbl (by omega) h1 h2 h3 h4 nxt hR hW hK hN hl
      by_cases e11 : z = (11 : Int32)
      · refine lv_tableIn (off := 595) (tgt := 634) hx hb dL_law_39 (by rw [e11]; decide) (by rw [e11]; decide) (by rw [e11]; rfl) (by decide) ?_
        exact lc_11 s_11 C hX hbl (by omega) h1 h2 h3 h4 nxt hR hW hK hN hl
      by_cases e12 : z = (12 : Int32)
      · refine lv_tableIn (off := 620) (tgt := 659) hx hb dL_law_39 (by rw [e12]; decide) (by rw [e12]; decide) (by rw [e12]; rfl) (by decide) ?_
        exact lc_12 s_12 C hX hbl (by omega) h1 h2 h3 h4 nxt hR hW hK hN hl
      by_cases e13 : z = (13 : Int32)
      · refine lv_tableIn (off := 657) (tgt := 696) hx hb dL_law_39 (by rw [e13]; decide) (by rw [e13]; decide) (by rw [e13]; rfl) (by decide) ?_
        exact lc_13 s_13 C hX hbl (by omega) h1 h2 h3 h4 nxt hR hW hK hN hl
      by_cases e14 : z = (14 : Int32)
      · refine lv_tableIn (off := 682) (tgt := 721) hx hb dL_law_39 (by rw [e14]; decide) (by rw [e14]; decide) (by rw [e14]; rfl) (by decide) ?_
        exact lc_14 s_14 C hX hbl (by omega) h1 h2 h3 h4 nxt hR hW hK hN hl
      by_cases e15 : z = (15 : Int32)
      · refine lv_tableIn (off := 695) (tgt := 734) hx hb dL_law_39 (by rw [e15]; decide) (by rw [e15]; decide) (by rw [e15]; rfl) (by decide) ?_
        exact lc_15 s_15 C hX hbl (by omega) h1 h2 h3 h4 nxt hR hW hK hN hl
      by_cases e16 : z = (16 : Int32)
      · refine lv_tableIn (off := 708) (tgt := 747) hx hb dL_law_39 (by rw [e16]; decide) (by rw [e16]; decide) (by rw [e16]; rfl) (by decide) ?_
        exact lc_16 s_16 C hX hbl (by omega) h1 h2 h3 h4 nxt hR hW hK hN hl
      by_cases e17 : z = (17 : Int32)
      · refine lv_tableIn (off := 745) (tgt := 784) hx hb dL_law_39 (by rw [e17]; decide) (by rw [e17]; decide) (by rw [e17]; rfl) (by decide) ?_
        exact lc_17 s_17 C hX hbl (by omega) h1 h2 h3 h4 nxt hR hW hK hN hl
      by_cases e18 : z = (18 : Int32)
      · refine lv_tableIn (off := 758) (tgt := 797) hx hb dL_law_39 (by rw [e18]; decide) (by rw [e18]; decide) (by rw [e18]; rfl) (by decide) ?_
        exact lc_18 s_18 C hX hbl (by omega) h1 h2 h3 h4 nxt hR hW hK hN hl
      by_cases e19 : z = (19 : Int32)
      · refine lv_tableIn (off := 771) (tgt := 810) hx hb dL_law_39 (by rw [e19]; decide) (by rw [e19]; decide) (by rw [e19]; rfl) (by decide) ?_
        exact lc_19 s_19 C hX hbl (by omega) h1 h2 h3 h4 nxt hR hW hK hN hl
      by_cases e20 : z = (20 : Int32)
      · refine lv_tableIn (off := 796) (tgt := 835) hx hb dL_law_39 (by rw [e20]; decide) (by rw [e20]; decide) (by rw [e20]; rfl) (by decide) ?_
        exact lc_20 s_20 C hX hbl (by omega) h1 h2 h3 h4 nxt hR hW hK hN hl
      by_cases e21 : z = (21 : Int32)
      · refine lv_tableIn (off := 833) (tgt := 872) hx hb dL_law_39 (by rw [e21]; decide) (by rw [e21]; decide) (by rw [e21]; rfl) (by decide) ?_
        exact lc_21 s_21 C hX hbl (by omega) h1 h2 h3 h4 nxt hR hW hK hN hl
      by_cases e22 : z = (22 : Int32)
      · refine lv_tableIn (off := 858) (tgt := 897) hx hb dL_law_39 (by rw [e22]; decide) (by rw [e22]; decide) (by rw [e22]; rfl) (by decide) ?_
        exact lc_22 s_22 C hX hbl (by omega) h1 h2 h3 h4 nxt hR hW hK hN hl
      by_cases e23 : z = (23 : Int32)
      · refine lv_tableIn (off := 883) (tgt := 922) hx hb dL_law_39 (by rw [e23]; decide) (by rw [e23]; decide) (by rw [e23]; rfl) (by decide) ?_
        exact lc_23 s_23 C hX hbl (by omega) h1 h2 h3 h4 nxt hR hW hK hN hl
      by_cases e24 : z = (24 : Int32)
      · refine lv_tableIn (off := 896) (tgt := 935) hx hb dL_law_39 (by rw [e24]; decide) (by rw [e24]; decide) (by rw [e24]; rfl) (by decide) ?_
        exact lc_24 s_24 C hX hbl (by omega) h1 h2 h3 h4 nxt hR hW hK hN hl
      by_cases e25 : z = (25 : Int32)
      · refine lv_tableIn (off := 933) (tgt := 972) hx hb dL_law_39 (by rw [e25]; decide) (by rw [e25]; decide) (by rw [e25]; rfl) (by decide) ?_
        exact lc_25 s_25 C hX hbl (by omega) h1 h2 h3 h4 nxt hR hW hK hN hl
      by_cases e26 : z = (26 : Int32)
      · refine lv_tableIn (off := 946) (tgt := 985) hx hb dL_law_39 (by rw [e26]; decide) (by rw [e26]; decide) (by rw [e26]; rfl) (by decide) ?_
        exact lc_26 s_26 C hX hbl (by omega) h1 h2 h3 h4 nxt hR hW hK hN hl
      by_cases e27 : z = (27 : Int32)
      · refine lv_tableIn (off := 971) (tgt := 1010) hx hb dL_law_39 (by rw [e27]; decide) (by rw [e27]; decide) (by rw [e27]; rfl) (by decide) ?_
        exact lc_27 s_27 C hX hbl (by omega) h1 h2 h3 h4 nxt hR hW hK hN hl
      by_cases e28 : z = (28 : Int32)
      · refine lv_tableIn (off := 1008) (tgt := 1047) hx hb dL_law_39 (by rw [e28]; decide) (by rw [e28]; decide) (by rw [e28]; rfl) (by decide) ?_
        exact lc_28 s_28 C hX hbl (by omega) h1 h2 h3 h4 nxt hR hW hK hN hl
      by_cases e29 : z = (29 : Int32)
      · refine lv_tableIn (off := 1021) (tgt := 1060) hx hb dL_law_39 (by rw [e29]; decide) (by rw [e29]; decide) (by rw [e29]; rfl) (by decide) ?_
        exact lc_29 s_29 C hX hbl (by omega) h1 h2 h3 h4 nxt hR hW hK hN hl
      by_cases e30 : z = (30 : Int32)
      · refine lv_tableIn (off := 1046) (tgt := 1085) hx hb dL_law_39 (by rw [e30]; decide) (by rw [e30]; decide) (by rw [e30]; rfl) (by decide) ?_
        exact lc_30 s_30 C hX hbl (by omega) h1 h2 h3 h4 nxt hR hW hK hN hl
      by_cases e31 : z = (31 : Int32)
      · refine lv_tableIn (off := 1095) (tgt := 1134) hx hb dL_law_39 (by rw [e31]; decide) (by rw [e31]; decide) (by rw [e31]; rfl) (by decide) ?_
        exact lc_31 s_31 C hX hbl (by omega) h1 h2 h3 h4 nxt hR hW hK hN hl
      by_cases e32 : z = (32 : Int32)
      · refine lv_tableIn (off := 1156) (tgt := 1195) hx hb dL_law_39 (by rw [e32]; decide) (by rw [e32]; decide) (by rw [e32]; rfl) (by decide) ?_
        exact lc_32 s_32 C hX hbl (by omega) h1 h2 h3 h4 nxt hR hW hK hN hl
      by_cases e33 : z = (33 : Int32)
      · refine lv_tableIn (off := 1181) (tgt := 1220) hx hb dL_law_39 (by rw [e33]; decide) (by rw [e33]; decide) (by rw [e33]; rfl) (by decide) ?_
        exact lc_33 s_33 C hX hbl (by omega) h1 h2 h3 h4 nxt hR hW hK hN hl
      by_cases e34 : z = (34 : Int32)
      · refine lv_tableIn (off := 1218) (tgt := 1257) hx hb dL_law_39 (by rw [e34]; decide) (by rw [e34]; decide) (by rw [e34]; rfl) (by decide) ?_
        exact lc_34 s_34 C hX hbl (by omega) h1 h2 h3 h4 nxt hR hW hK hN hl
      by_cases e35 : z = (35 : Int32)
      · refine lv_tableIn (off := 1243) (tgt := 1282) hx hb dL_law_39 (by rw [e35]; decide) (by rw [e35]; decide) (by rw [e35]; rfl) (by decide) ?_
        exact lc_35 s_35 C hX hbl (by omega) h1 h2 h3 h4 nxt hR hW hK hN hl
      by_cases e36 : z = (36 : Int32)
      · refine lv_tableIn (off := 1292) (tgt := 1331) hx hb dL_law_39 (by rw [e36]; decide) (by rw [e36]; decide) (by rw [e36]; rfl) (by decide) ?_
        exact lc_36 s_36 C hX hbl (by omega) h1 h2 h3 h4 nxt hR hW hK hN hl
      by_cases e37 : z = (37 : Int32)
      · refine lv_tableIn (off := 1317) (tgt := 1356) hx hb dL_law_39 (by rw [e37]; decide) (by rw [e37]; decide) (by rw [e37]; rfl) (by decide) ?_
        exact lc_37 s_37 C hX hbl (by omega) h1 h2 h3 h4 nxt hR hW hK hN hl
      by_cases e38 : z = (38 : Int32)
      · refine lv_tableIn (off := 1342) (tgt := 1381) hx hb dL_law_39 (by rw [e38]; decide) (by rw [e38]; decide) (by rw [e38]; rfl) (by decide) ?_
        exact lc_38 s_38 C hX hbl (by omega) h1 h2 h3 h4 nxt hR hW hK hN hl
      by_cases e39 : z = (39 : Int32)
      · refine lv_tableIn (off := 1355) (tgt := 1394) hx hb dL_law_39 (by rw [e39]; decide) (by rw [e39]; decide) (by rw [e39]; rfl) (by decide) ?_
        exact lc_39 s_39 C hX hbl (by omega) h1 h2 h3 h4 nxt hR hW hK hN hl
      by_cases e40 : z = (40 : Int32)
      · refine lv_tableIn (off := 1368) (tgt := 1407) hx hb dL_law_39 (by rw [e40]; decide) (by rw [e40]; decide) (by rw [e40]; rfl) (by decide) ?_
        exact lc_40 s_40 C hX hbl (by omega) h1 h2 h3 h4 nxt hR hW hK hN hl
      by_cases e41 : z = (41 : Int32)
      · refine lv_tableIn (off := 1381) (tgt := 1420) hx hb dL_law_39 (by rw [e41]; decide) (by rw [e41]; decide) (by rw [e41]; rfl) (by decide) ?_
        exact lc_41 s_41 C hX hbl (by omega) h1 h2 h3 h4 t_41 nxt hR hW hK hN hl
      by_cases e42 : z = (42 : Int32)
      · refine lv_tableIn (off := 1449) (tgt := 1488) hx hb dL_law_39 (by rw [e42]; decide) (by rw [e42]; decide) (by rw [e42]; rfl) (by decide) ?_
        exact lc_42 s_42 C hX hbl (by omega) h1 h2 h3 h4 nxt hR hW hK hN hl
      by_cases e43 : z = (43 : Int32)
      · refine lv_tableIn (off := 1462) (tgt := 1501) hx hb dL_law_39 (by rw [e43]; decide) (by rw [e43]; decide) (by rw [e43]; rfl) (by decide) ?_
        exact lc_43 s_43 C hX hbl (by omega) h1 h2 h3 h4 nxt hR hW hK hN hl
      by_cases e44 : z = (44 : Int32)
      · refine lv_tableIn (off := 1487) (tgt := 1526) hx hb dL_law_39 (by rw [e44]; decide) (by rw [e44]; decide) (by rw [e44]; rfl) (by decide) ?_
        exact lc_44 s_44 C hX hbl (by omega) h1 h2 h3 h4 nxt hR hW hK hN hl
      by_cases e45 : z = (45 : Int32)
      · refine lv_tableIn (off := 1500) (tgt := 1539) hx hb dL_law_39 (by rw [e45]; decide) (by rw [e45]; decide) (by rw [e45]; rfl) (by decide) ?_
        exact lc_45 s_45 C hX hbl (by omega) h1 h2 h3 h4 nxt hR hW hK hN hl
      by_cases e46 : z = (46 : Int32)
      · refine lv_tableIn (off := 1525) (tgt := 1564) hx hb dL_law_39 (by rw [e46]; decide) (by rw [e46]; decide) (by rw [e46]; rfl) (by decide) ?_
        exact lc_46 s_46 C hX hbl (by omega) h1 h2 h3 h4 nxt hR hW hK hN hl
      by_cases e47 : z = (47 : Int32)
      · refine lv_tableIn (off := 1550) (tgt := 1589) hx hb dL_law_39 (by rw [e47]; decide) (by rw [e47]; decide) (by rw [e47]; rfl) (by decide) ?_
        exact lc_47 s_47 C hX hbl (by omega) h1 h2 h3 h4 nxt hR hW hK hN hl
      by_cases e48 : z = (48 : Int32)
      · refine lv_tableIn (off := 1575) (tgt := 1614) hx hb dL_law_39 (by rw [e48]; decide) (by rw [e48]; decide) (by rw [e48]; rfl) (by decide) ?_
        exact lc_48 s_48 C hX hbl (by omega) h1 h2 h3 h4 t_48 nxt hR hW hK hN hl
      refine lv_tableOut (tgt := 1670) hx hb dL_law_39 (zsw_out (fun k h1 h2 => ?_)) (by decide) ?_
      · rcases (show k = 0 ∨ k = 1 ∨ k = 2 ∨ k = 3 ∨ k = 4 ∨ k = 5 ∨ k = 6 ∨ k = 7 ∨ k = 8 ∨ k = 9 ∨ k = 10 ∨ k = 11 ∨ k = 12 ∨ k = 13 ∨ k = 14 ∨ k = 15 ∨ k = 16 ∨ k = 17 ∨ k = 18 ∨ k = 19 ∨ k = 20 ∨ k = 21 ∨ k = 22 ∨ k = 23 ∨ k = 24 ∨ k = 25 ∨ k = 26 ∨ k = 27 ∨ k = 28 ∨ k = 29 ∨ k = 30 ∨ k = 31 ∨ k = 32 ∨ k = 33 ∨ k = 34 ∨ k = 35 ∨ k = 36 ∨ k = 37 ∨ k = 38 ∨ k = 39 ∨ k = 40 ∨ k = 41 ∨ k = 42 ∨ k = 43 ∨ k = 44 ∨ k = 45 ∨ k = 46 ∨ k = 47 ∨ k = 48 by omega) with rfl | rfl | rfl | rfl | rfl | rfl | rfl | rfl | rfl | rfl | rfl | rfl | rfl | rfl | rfl | rfl | rfl | rfl | rfl | rfl | rfl | rfl | rfl | rfl | rfl | rfl | rfl | rfl | rfl | rfl | rfl | rfl | rfl | rfl | rfl | rfl | rfl | rfl | rfl | rfl | rfl | rfl | rfl | rfl | rfl | rfl | rfl | rfl | rfl
        · exact e0
        · exact e1
        · exact e2
        · exact e3
        · exact e4
        · exact e5
        · exact e6
        · exact e7
        · exact e8
        · exact e9
        · exact e10
        · exact e11
        · exact e12
        · exact e13
        · exact e14
        · exact e15
        · exact e16
        · exact e17
        · exact e18
        · exact e19
        · exact e20
        · exact e21
        · exact e22
        · exact e23
        · exact e24
        · exact e25
        · exact e26
        · exact e27
        · exact e28
        · exact e29
        · exact e30
        · exact e31
        · exact e32
        · exact e33
        · exact e34
        · exact e35
        · exact e36
        · exact e37
        · exact e38
        · exact e39
        · exact e40
        · exact e41
        · exact e42
        · exact e43
        · exact e44
        · exact e45
        · exact e46
        · exact e47
        · exact e48
      · exact nxt X M f H locs K N ls hR hW (by omega) (by omega) hl
end LWL
