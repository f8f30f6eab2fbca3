theorem in_X11st : Cond.instantiable RX11 11 ∈ lw_ok := lw_at 117 (by decide +kernel) (by decide +kernel)
theorem in_X12st : Cond.instantiable RX12 44 ∈ lw_ok := lw_at 1378 (by decide +kernel) (by decide +kernel)
theorem cl_L_8 : Cond.classLink RL 8 RX11 ∈ lw_ok := lw_at 116 (by decide +kernel) (by decide +kernel)
theorem cl_L_23 : Cond.classLink RL 23 RX12 ∈ lw_ok := lw_at 1984 (by decide +kernel) (by decide +kernel)
theorem cd_X11_init : Cond.code yX11_init cX11_init 4 none ∈ lw_ok := lw_at 120 (by decide +kernel) (by decide +kernel)
theorem im_X11_init : Cond.instanceMethod yX11_init ∈ lw_ok := lw_at 119 (by decide +kernel) (by decide +kernel)
theorem li_L_22 : zLI RL 22 yX11_init cX11_init 4 0 := ⟨cd_X11_init, Or.inl (lw_at 118 (by decide +kernel) (by decide +kernel)), im_X11_init, it_X11, rfl, by decide +kernel⟩
theorem cd_X12_init : Cond.code yX12_init cX12_init 1 none ∈ lw_ok := lw_at 1987 (by decide +kernel) (by decide +kernel)
theorem im_X12_init : Cond.instanceMethod yX12_init ∈ lw_ok := lw_at 1986 (by decide +kernel) (by decide +kernel)
theorem li_L_25 : zLI RL 25 yX12_init cX12_init 1 0 := ⟨cd_X12_init, Or.inl (lw_at 1985 (by decide +kernel) (by decide +kernel)), im_X12_init, it_X12, rfl, by decide +kernel⟩
theorem lw_ngo : ∀ w ∈ lw_ng, w.onTables = true := by decide +kernel
set_option maxHeartbeats 4000000 in
set_option maxRecDepth 100000 in
/-- THE LAW, from its entry, out of a simulation of the calls -/
theorem whole_start_sim {p : Program} {e : Env} {s : State} {m : MethodId} {below : List Frame} {meth : Method} {c : Code} (l : Launch) {b L : Nat} {xs : Nat → Int32} (hL : L ≤ 320) (C0 : lw_At p s m meth c b L xs) {F : Nat} {Rel : Zs → Zs → Prop} (R0 : Rel X0 M0) (s_0 : S_sign F Rel) (s_1 : S_end F Rel) (s_2 : S_told F Rel) (s_3 : S_saying F Rel) (s_4 : S_mark F Rel) (s_5 : S_lives F Rel) (s_6 : S_want F Rel) (s_7 : S_forget F Rel) (s_8 : S_sheet F Rel) (s_9 : S_holds F Rel) (s_10 : S_follows F Rel) (s_11 : S_decided F Rel) (s_12 : S_from F Rel) (s_13 : S_needs F Rel) (s_14 : S_fewest F Rel) (s_15 : S_idle F Rel) (s_16 : S_alike F Rel) (s_17 : S_clash F Rel) (s_18 : S_liars F Rel) (s_19 : S_truth F Rel) (s_20 : S_trusts F Rel) (s_21 : S_convicts F Rel) (s_22 : S_all F Rel) (s_23 : S_empty F Rel) (s_24 : S_chain F Rel) (s_25 : S_sorts F Rel) (s_26 : S_sort F Rel) (s_27 : S_both F Rel) (s_28 : S_town F Rel) (s_29 : S_refute F Rel) (s_30 : S_judge F Rel) (s_31 : S_mood F Rel) (s_32 : S_figure F Rel) (s_33 : S_forms F Rel) (s_34 : S_allow F Rel) (s_35 : S_step F Rel) (s_36 : S_proof F Rel) (s_37 : S_rests F Rel) (s_38 : S_proved F Rel) (s_39 : S_gap F Rel) (s_40 : S_plead F Rel) (s_41 : S_pleaded F Rel) (s_42 : S_stands F Rel) (s_43 : S_marks F Rel) (s_44 : S_strike F Rel) (s_45 : S_keep F Rel) (s_46 : S_again F Rel) (s_47 : S_count F Rel) (s_48 : S_row F Rel) (hst : l.stackTraces = false) : W p l e room_1 s m #[Value.ref b] below meth c s.heap [] 0 0 (lw_Z below #[Value.ref b] s) (entryFrame m ([Value.ref b] : List Value).toArray 7) := by
  obtain ⟨hx, hb, hr, hml, hown, hts, hX, hbl, hlocks, hgv⟩ := id C0
  have hs := flat_of_before _ hgv
  have hok : ∀ w ∈ lw_ok, w.before #[Value.ref b] s = true := fun w hw => hts w (lw_ok_in w hw)
  have C : zC p s m #[Value.ref b] meth c code 7 RL ret := ⟨hx, hb, hml, hown, hok, hr, hlocks⟩
  have hzT : zTh (lA s) s := ⟨fun w hw => va_Nw.of (lw_ngo w hw) (hts w (lw_ngt w hw)), va_Nw.of rfl (hts (.castable eN eN) (by decide +kernel)), vx_Zqof (hts (.laysStatic Bundle.tN "UNASSIGNED_STACK" Bundle.steD) (by decide +kernel)) (hts (.initialized Bundle.tN) (by decide +kernel)) (hs (.isRef (.static Bundle.tN "UNASSIGNED_STACK" Bundle.steD)) (by decide +kernel)) (s_lA s), vx_Zqof (hts (.laysStatic Bundle.tN "SUPPRESSED_SENTINEL" Bundle.listD) (by decide +kernel)) (hts (.initialized Bundle.tN) (by decide +kernel)) (hs (.isRef (.static Bundle.tN "SUPPRESSED_SENTINEL" Bundle.listD)) (by decide +kernel)) (s_lA s)⟩
  obtain ⟨c0, i0, k0⟩ := u_known (C := RX1) (T := TX1) (N := 6) (n := 6) hok inX1 (hok _ in_X1st)
  obtain ⟨c1, i1, k1⟩ := u_known (C := RX2) (T := TX2) (N := 15) (n := 15) hok inX2 (hok _ in_X2st)
  obtain ⟨c2, i2, k2⟩ := u_known (C := RX3) (T := TX3) (N := 7) (n := 7) hok inX3 (hok _ in_X3st)
  obtain ⟨c3, i3, k3⟩ := u_known (C := RX4) (T := TX4) (N := 1) (n := 1) hok inX4 (hok _ in_X4st)
  obtain ⟨c4, i4, k4⟩ := u_known (C := RX5) (T := TX5) (N := 18) (n := 18) hok inX5 (hok _ in_X5st)
  obtain ⟨c5, i5, k5⟩ := u_known (C := RX6) (T := TX6) (N := 6) (n := 6) hok inX6 (hok _ in_X6st)
  obtain ⟨c6, i6, k6⟩ := u_known (C := RX7) (T := TX7) (N := 5) (n := 5) hok inX7 (hok _ in_X7st)
  obtain ⟨c7, i7, k7⟩ := u_known (C := RX8) (T := TX8) (N := 3) (n := 3) hok inX8 (hok _ in_X8st)
  obtain ⟨c8, i8, k8⟩ := u_known (C := RX9) (T := TX9) (N := 5) (n := 5) hok inX9 (hok _ in_X9st)
  obtain ⟨c9, i9, k9⟩ := u_known (C := RX10) (T := TX10) (N := 6) (n := 6) hok inX10 (hok _ in_X10st)
  obtain ⟨c10, i10, k10⟩ := u_known (C := RX11) (T := TX11) (N := 11) (n := 11) hok inX11 (hok _ in_X11st)
  obtain ⟨c11, i11, k11⟩ := u_known (C := RX12) (T := TX12) (N := 44) (n := 44) hok inX12 (hok _ in_X12st)
  obtain ⟨dC, dI, hKc⟩ : ∃ (dC : Nat → ClassId) (dI : Nat → Nat → Nat), ∀ (k : Nat) (q : vw_C), vwCl[k]? = some q → u_Kn s q.1 q.2.1 q.2.2 (dC k) (dI k) := by
    refine ⟨fun k => ([c0, c1, c2, c3, c4, c5, c6, c7, c8, c9, c10, c11] : List ClassId).getD k 0, fun k => ([i0, i1, i2, i3, i4, i5, i6, i7, i8, i9, i10, i11] : List (Nat → Nat)).getD k (fun _ => 0), ?_⟩
    intro k q hq
    match k, hq with
    | 0, hq => cases hq; exact k0
    | 1, hq => cases hq; exact k1
    | 2, hq => cases hq; exact k2
    | 3, hq => cases hq; exact k3
    | 4, hq => cases hq; exact k4
    | 5, hq => cases hq; exact k5
    | 6, hq => cases hq; exact k6
    | 7, hq => cases hq; exact k7
    | 8, hq => cases hq; exact k8
    | 9, hq => cases hq; exact k9
    | 10, hq => cases hq; exact k10
    | 11, hq => cases hq; exact k11
    | k + 12, hq => simp [vwCl] at hq
  obtain ⟨a0, A0, B0⟩ := s_arr (ty := .int) (fun _ h => by cases h) (hok _ ac_I)
  obtain ⟨a1, A1, B1⟩ := s_arr (ty := .char) (fun _ h => by cases h) (hok _ ac_C)
  obtain ⟨a2, A2, B2⟩ := s_arr (ty := .byte) (fun _ h => by cases h) (hok _ ac_B)
  obtain ⟨a3, A3, B3⟩ := s_arr (ty := .boolean) (fun _ h => by cases h) (hok _ ac_Z)
  obtain ⟨a4, A4, B4⟩ := s_arr (ty := .long) (fun _ h => by cases h) (hok _ ac_J)
  obtain ⟨cs, hcs⟩ : ∃ cs : Nat → Nat, va_K (dC, dI) vwCl (tyC cs) s := by
    refine ⟨fun k => ([a0, a1, a2, a3, a4] : List Nat).getD k 0, hKc, ?_⟩
    intro k q hq
    match k, hq with
    | 0, hq => cases hq; exact ⟨A0, B0⟩
    | 1, hq => cases hq; exact ⟨A1, B1⟩
    | 2, hq => cases hq; exact ⟨A2, B2⟩
    | 3, hq => cases hq; exact ⟨A3, B3⟩
    | 4, hq => cases hq; exact ⟨A4, B4⟩
    | k + 5, hq => simp [tyC] at hq
  obtain ⟨t50, z50, y50⟩ := s_st50 hts hs
  obtain ⟨t51, z51, y51⟩ := s_st51 hts hs
  obtain ⟨t52, z52, y52⟩ := s_st52 hts hs
  obtain ⟨t53, z53, y53⟩ := s_st53 hts hs
  obtain ⟨t54, z54, y54⟩ := s_st54 hts hs
  obtain ⟨t55, z55, y55⟩ := s_st55 hts hs
  obtain ⟨adK, adV, hSt, hEv⟩ := s_str hs
  have V : zV (dC, dI) cs (lA s) s [] s.heap [] := ⟨fun k q h => by simp at h, ⟨fun i j p q h => by simp at h, fun k q h => by simp at h⟩, hcs, s_nest hts, va_S.rf, fun q h => h⟩
  have hl := lv_entry ([.ref b]) (n := 7) (Nat.le_of_ble_eq_true rfl)
  rw [lg_entry_eq]
  generalize (lg_sl ([.ref b]) ++ List.replicate (7 - (lg_sl ([.ref b])).length) Slot.unset).toArray = ls at hl ⊢
  have hl : lv_has ls 7 [(0, .ref b)] := hl
  refine zi_new (ci := 10) (T := TX11) (N := 11) (ty := tyX11) (fs := [.null, .null, .null, .null, .null, .null, .null, .null, .null, .null, .int 0]) C V inX11 tyX11_ok cl_L_8 in_X11st it_X11 rfl (by decide +kernel) (Nat.le_of_ble_eq_true rfl) (Nat.le_of_ble_eq_true rfl) dL_law_0 (fun q1 H V => ?_)
  refine lv_dup hx hb dL_law_3 rfl ?_
  refine zi_call (wr := []) (As := []) C V (i_X11_init q1) li_L_22 rfl hl.1 ⟨rfl, rfl⟩ ⟨Nat.le_of_ble_eq_true rfl, Nat.le_of_ble_eq_true rfl⟩ (Nat.le_of_ble_eq_true rfl) ⟨Nat.le_of_ble_eq_true rfl, Nat.le_of_ble_eq_true rfl⟩ rfl dL_law_4 (fun u H locs V => ?_)
  refine lv_astore_n (lv' := [(1, .ref q1), (0, .ref b)]) hx hb dL_law_7 rfl hl (by decide) rfl (fun ls hl => ?_)
  have V : zV (dC, dI) cs (lA s) s (xw cs (fun k => if k = 0 then q1 else u k) X0) H locs := V
  refine zi_new (ci := 11) (T := TX12) (N := 44) (ty := tyX12) (fs := [.int 0, .int 0, .null, .int 0, .null, .null, .int 0, .int 0, .int 0, .int 0, .null, .int 0, .null, .int 0, .int 0, .int 0, .int 0, .null, .int 0, .null, .int 0, .null, .null, .null, .int 0, .null, .null, .null, .null, .int 0, .int 0, .int 0, .int 0, .int 0, .null, .int 0, .int 0, .null, .null, .null, .null, .null, .null, .null]) C V inX12 tyX12_ok cl_L_23 in_X12st it_X12 rfl (by decide +kernel) (Nat.le_of_ble_eq_true rfl) (Nat.le_of_ble_eq_true rfl) dL_law_8 (fun q2 H V => ?_)
  refine lv_dup hx hb dL_law_11 rfl ?_
  refine zi_call (wr := xw cs (fun k => if k = 0 then q1 else u k) X0) (As := []) C V (i_X12_init q2) li_L_25 rfl hl.1 ⟨rfl, rfl⟩ ⟨Nat.le_of_ble_eq_true rfl, Nat.le_of_ble_eq_true rfl⟩ (Nat.le_of_ble_eq_true rfl) ⟨Nat.le_of_ble_eq_true rfl, Nat.le_of_ble_eq_true rfl⟩ rfl dL_law_12 (fun v H locs V => ?_)
  refine lv_astore_n (lv' := [(2, .ref q2), (1, .ref q1), (0, .ref b)]) hx hb dL_law_15 rfl hl (by decide) rfl (fun ls hl => ?_)
  refine lv_iconst (v := 1) hx hb dL_law_16 (by decide) ?_
  refine zi_newa (at_ := .long) (ty := .long) (cB := cs 4) (t0 := 4) (a0 := (1, .inr (.inl fun _ => 0))) (n0 := 1) C V rfl (fun _ h => by cases h) rfl ac_J (fun _ => rfl) (by decide) (by decide) (by decide) (Nat.le_of_ble_eq_true rfl) (Nat.le_of_ble_eq_true rfl) dL_law_17 (fun o H V => ?_)
  refine lv_astore_n (lv' := [(3, .ref o), (2, .ref q2), (1, .ref q1), (0, .ref b)]) hx hb dL_law_19 rfl hl (by decide) rfl (fun ls hl => ?_)
  refine lv_iconst (v := 0) hx hb dL_law_20 (by decide) ?_
  refine lv_istore (lv' := [(4, .int 0), (3, .ref o), (2, .ref q2), (1, .ref q1), (0, .ref b)]) hx hb dL_law_21 hl (by decide) rfl (fun ls hl => ?_)
  obtain ⟨ad, had⟩ : ∃ ad : Nat → Nat, ad = fun k => if k = 0 then q1 else if k < 48 then u k else if k = 50 then t50 else if k = 51 then t51 else if k = 52 then t52 else if k = 53 then t53 else if k = 54 then t54 else t55 := ⟨_, rfl⟩
  obtain ⟨am, ham⟩ : ∃ am : Nat → Nat, am = fun k => if k = 0 then q2 else if k < 23 then v k else if k < 33 then adK (k - 30) else adV (k - 33) := ⟨_, rfl⟩
  have hl : lv_has ls 7 [(4, .int 0), (3, .ref o), (2, .ref (am 0)), (1, .ref (ad 0)), (0, .ref b)] := by rw [had, ham]; exact hl
  have V : zV (dC, dI) cs (lA s) s ((xw cs ad X0 ++ mw cs am M0) ++ lO cs o (fun _ => 0)) H locs := by rw [had, ham]; exact V
  have hD : va_D (lA s) (xw cs ad X0 ++ (mw cs am M0 ++ lO cs o (fun _ => 0))) := by rw [← List.append_assoc]; exact V.2.1
  have hPx := va_left (va_left V.1)
  have hPm := va_right (va_left V.1)
  have hPo := va_right V.1
  have sx : ∀ q, xA ad q → lA s q := by
    rintro q ⟨k, hk, rfl⟩
    obtain ⟨p, h1, h2⟩ := lw_has (xw_fst cs ad X0) hk
    have := (va_leftD hD).2 k p h1
    rw [h2] at this; exact this
  have sm : ∀ q, mA am q → lA s q := by
    rintro q ⟨k, hk, rfl⟩
    obtain ⟨p, h1, h2⟩ := lw_has (mw_fst cs am M0) hk
    have := (va_leftD (lw_rightD hD)).2 k p h1
    rw [h2] at this; exact this
  have e50 : ad 50 = t50 := by rw [had]; rfl
  have e51 : ad 51 = t51 := by rw [had]; rfl
  have e52 : ad 52 = t52 := by rw [had]; rfl
  have e53 : ad 53 = t53 := by rw [had]; rfl
  have e54 : ad 54 = t54 := by rw [had]; rfl
  have e55 : ad 55 = t55 := by rw [had]; rfl
  have hxZ : xZ ad s := by
    unfold xZ
    rw [e50, e51, e52, e53, e54, e55]
    exact ⟨⟨z50.narrow sx, y50.narrow sx⟩, ⟨z51.narrow sx, y51.narrow sx⟩, ⟨z52.narrow sx, y52.narrow sx⟩, ⟨z53.narrow sx, y53.narrow sx⟩, ⟨z54.narrow sx, y54.narrow sx⟩, ⟨z55.narrow sx, y55.narrow sx⟩⟩
  have fK : (fun i => am (30 + i)) = fun i => if i < 3 then adK i else am (30 + i) := by
    funext i
    by_cases hi : i < 3
    · rw [if_pos hi, ham]
      show (if 30 + i = 0 then q2 else if 30 + i < 23 then v (30 + i) else if 30 + i < 33 then adK (30 + i - 30) else adV (30 + i - 33)) = adK i
      rw [if_neg (by omega), if_neg (by omega), if_pos (by omega), show 30 + i - 30 = i by omega]
    · rw [if_neg hi]
  have gK : ∀ i, i < 3 → am (30 + i) = adK i := fun i hi => by have := congrFun fK i; rw [if_pos hi] at this; exact this
  have gV : ∀ i, am (33 + i) = adV i := by
    intro i
    rw [ham]
    show (if 33 + i = 0 then q2 else if 33 + i < 23 then v (33 + i) else if 33 + i < 33 then adK (33 + i - 30) else adV (33 + i - 33)) = adV i
    rw [if_neg (by omega), if_neg (by omega), if_neg (by omega), show 33 + i - 33 = i by omega]
  have hSt2 : vk_S 3 mLen mByt (fun i => am (30 + i)) (fun i => am (33 + i)) (mA am) s s.heap := by
    have h2 := hSt.narrow sm
    refine ⟨fun i hi => ?_, fun i j hi hj e => h2.2 i j hi hj ?_⟩
    · have h3 := h2.1 i hi
      rw [← gK i hi, ← gV i] at h3
      exact h3
    · rw [← gK i hi, ← gK j hj]; exact e
  have hR0 : vk_R "SomeAreNoneIsModel" 64 "AEIO" (am 30) s := vk_R.of (hts _ (by decide +kernel)) (by rw [show am 30 = adK 0 from gK 0 (by decide)]; exact hEv 0 (by decide))
  have hR1 : vk_R "SomeAreNoneIsModel" 339 "1111222233334443344" (am 31) s := vk_R.of (hts _ (by decide +kernel)) (by rw [show am 31 = adK 1 from gK 1 (by decide)]; exact hEv 1 (by decide))
  have hR2 : vk_R "SomeAreNoneIsModel" 341 "AAAEAEAIIEIOEAEAEEEIOAOOIAIAIIOAOEIOAEEIAIEIOAAIEAOEAOAAI" (am 32) s := vk_R.of (hts _ (by decide +kernel)) (by rw [show am 32 = adK 2 from gK 2 (by decide)]; exact hEv 2 (by decide))
  have hmZ : mZ am s := ⟨hR0, hR1, hR2, hSt2, (va_Zof (hts (.laysStatic "java/lang/String" "COMPACT_STRINGS" "Z") (by decide +kernel)) (hts (.initialized "java/lang/String") (by decide +kernel)) (va_eqi (hs (Cond.eq (.static "java/lang/String" "COMPACT_STRINGS" "Z") (.int 1)) (by decide +kernel))) (s_lA s)).narrow sm, (va_Zqof (hts (.laysStatic "jdk/internal/util/Preconditions" "SIOOBE_FORMATTER" "Ljava/util/function/BiFunction;") (by decide +kernel)) (hts (.initialized "jdk/internal/util/Preconditions") (by decide +kernel)) (hs (Cond.isRef (.static "jdk/internal/util/Preconditions" "SIOOBE_FORMATTER" "Ljava/util/function/BiFunction;")) (by decide +kernel)) (s_lA s)).narrow sm⟩
  have hW : lW (dC, dI) cs ad am o s X0 M0 (fun _ => 0) H locs := ⟨hPx, hPm, hPo, hD, hcs, ⟨hxZ, hmZ, V.2.2.2.1⟩, V.2.2.2.2.1⟩
  refine law_loop hL C hX hbl s_0 s_1 s_2 s_3 s_4 s_5 s_6 s_7 s_8 s_9 s_10 s_11 s_12 s_13 s_14 s_15 s_16 s_17 s_18 s_19 s_20 s_21 s_22 s_23 s_24 s_25 s_26 s_27 s_28 s_29 s_30 s_31 s_32 s_33 s_34 s_35 s_36 s_37 s_38 s_39 s_40 s_41 s_42 s_43 s_44 s_45 s_46 s_47 s_48 (tr_saying hst C hzT (dC, dI) cs ad am o) (tr_pleaded hst C hzT (dC, dI) cs ad am o) (tr_row hst C hzT (dC, dI) cs ad am o) (fun H locs K N ls hS hk hn => ?_) (L + 1) 0 X0 M0 (fun _ => 0) H locs _ _ ls (Nat.zero_le L) (by omega) R0 hW (by decide) (by decide) (lv_sub hl [4, 3, 2, 1, 0] rfl)
  refine lv_iconst (v := 1) hx hb dL_law_1676 (by decide) ?_
  refine va_forget (fun q hq => hS.2.2 q hq) ?_
  refine W.widen hk hn ?_
  exact lw_ret hx hb hr hlocks dL_law_1677
