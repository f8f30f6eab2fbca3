theorem inX11 : ∀ w ∈ u_ws RX11 TX11 11, w ∈ lw_ok := by decide +kernel
theorem inX1 : ∀ w ∈ u_ws RX1 TX1 6, w ∈ lw_ok := by decide +kernel
theorem inX2 : ∀ w ∈ u_ws RX2 TX2 15, w ∈ lw_ok := by decide +kernel
theorem inX3 : ∀ w ∈ u_ws RX3 TX3 7, w ∈ lw_ok := by decide +kernel
theorem inX4 : ∀ w ∈ u_ws RX4 TX4 1, w ∈ lw_ok := by decide +kernel
theorem inX5 : ∀ w ∈ u_ws RX5 TX5 18, w ∈ lw_ok := by decide +kernel
theorem inX6 : ∀ w ∈ u_ws RX6 TX6 6, w ∈ lw_ok := by decide +kernel
theorem inX7 : ∀ w ∈ u_ws RX7 TX7 5, w ∈ lw_ok := by decide +kernel
theorem inX8 : ∀ w ∈ u_ws RX8 TX8 3, w ∈ lw_ok := by decide +kernel
theorem inX9 : ∀ w ∈ u_ws RX9 TX9 5, w ∈ lw_ok := by decide +kernel
theorem inX10 : ∀ w ∈ u_ws RX10 TX10 6, w ∈ lw_ok := by decide +kernel
theorem inX12 : ∀ w ∈ u_ws RX12 TX12 44, w ∈ lw_ok := by decide +kernel
def xw (cs : Nat → ClassId) (ad : Nat → Nat) (S : Zs) : va_W := [(ad 0, .inr (10, [.ref (ad 1), .ref (ad 3), .ref (ad 13), .ref (ad 23), .ref (ad 24), .ref (ad 26), .ref (ad 30), .ref (ad 35), .ref (ad 41), .ref (ad 47), .int (S.1 0 10)])),
  (ad 1, .inr (7, [.ref (ad 2), .int (S.1 0 21), .int (S.1 0 22)])),
  (ad 2, .inl (cs 1, 80, .inl (S.1 2))),
  (ad 3, .inr (1, [.ref (ad 4), .ref (ad 5), .int (S.1 0 62), .int (S.1 0 63), .int (S.1 0 64), .int (S.1 0 65), .int (S.1 0 66), .ref (ad 6), .int (S.1 0 68), .ref (ad 7), .ref (ad 8), .ref (ad 9), .ref (ad 10), .ref (ad 11), .ref (ad 12)])),
  (ad 4, .inl (cs 0, 16, .inl (S.1 4))),
  (ad 5, .inl (cs 0, 16, .inl (S.1 5))),
  (ad 6, .inl (cs 0, 6, .inl (S.1 6))),
  (ad 7, .inl (cs 3, 3, .inl (S.1 7))),
  (ad 8, .inl (cs 0, 3, .inl (S.1 8))),
  (ad 9, .inl (cs 0, 3, .inl (S.1 9))),
  (ad 10, .inl (cs 0, 3, .inl (S.1 10))),
  (ad 11, .inl (cs 0, 3, .inl (S.1 11))),
  (ad 12, .inl (cs 0, 3, .inl (S.1 12))),
  (ad 13, .inr (0, [.ref (ad 3), .ref (ad 14), .ref (ad 18), .ref (ad 22), .int (S.1 0 264), .int (S.1 0 265)])),
  (ad 14, .inr (8, [.ref (ad 15), .ref (ad 16), .ref (ad 17), .int (S.1 0 283), .int (S.1 0 284)])),
  (ad 15, .inl (cs 0, 24, .inl (S.1 15))),
  (ad 16, .inl (cs 0, 29, .inl (S.1 16))),
  (ad 17, .inl (cs 0, 29, .inl (S.1 17))),
  (ad 18, .inr (8, [.ref (ad 19), .ref (ad 20), .ref (ad 21), .int (S.1 0 363), .int (S.1 0 364)])),
  (ad 19, .inl (cs 0, 24, .inl (S.1 19))),
  (ad 20, .inl (cs 0, 29, .inl (S.1 20))),
  (ad 21, .inl (cs 0, 29, .inl (S.1 21))),
  (ad 22, .inl (cs 0, 24, .inl (S.1 22))),
  (ad 23, .inr (5, [.ref (ad 3), .ref (ad 13), .int (S.1 0 462), .int (S.1 0 463), .int (S.1 0 464), .int (S.1 0 465)])),
  (ad 24, .inr (6, [.ref (ad 3), .ref (ad 25), .int (S.1 0 482), .int (S.1 0 483), .int (S.1 0 484)])),
  (ad 25, .inl (cs 4, 64, .inr (.inl S.2))),
  (ad 26, .inr (9, [.ref (ad 3), .ref (ad 13), .ref (ad 24), .ref (ad 27), .ref (ad 28), .ref (ad 29)])),
  (ad 27, .inl (cs 0, 12, .inl (S.1 27))),
  (ad 28, .inl (cs 0, 12, .inl (S.1 28))),
  (ad 29, .inl (cs 2, 4096, .inl (S.1 29))),
  (ad 30, .inr (3, [.ref (ad 31)])),
  (ad 31, .inr (8, [.ref (ad 32), .ref (ad 33), .ref (ad 34), .int (S.1 0 623), .int (S.1 0 624)])),
  (ad 32, .inl (cs 0, 24, .inl (S.1 32))),
  (ad 33, .inl (cs 0, 29, .inl (S.1 33))),
  (ad 34, .inl (cs 0, 29, .inl (S.1 34))),
  (ad 35, .inr (4, [.ref (ad 3), .ref (ad 36), .ref (ad 37), .ref (ad 38), .ref (ad 39), .ref (ad 40), .int (S.1 0 706), .int (S.1 0 707), .int (S.1 0 708), .int (S.1 0 709), .int (S.1 0 710), .int (S.1 0 711), .int (S.1 0 712), .int (S.1 0 713), .int (S.1 0 714), .int (S.1 0 715), .int (S.1 0 716), .int (S.1 0 717)])),
  (ad 36, .inl (cs 0, 2304, .inl (S.1 36))),
  (ad 37, .inl (cs 0, 2304, .inl (S.1 37))),
  (ad 38, .inl (cs 0, 96, .inl (S.1 38))),
  (ad 39, .inl (cs 0, 96, .inl (S.1 39))),
  (ad 40, .inl (cs 0, 2304, .inl (S.1 40))),
  (ad 41, .inr (2, [.ref (ad 3), .ref (ad 42), .ref (ad 43), .ref (ad 44), .ref (ad 45), .ref (ad 46), .int (S.1 0 826)])),
  (ad 42, .inl (cs 0, 40, .inl (S.1 42))),
  (ad 43, .inl (cs 0, 40, .inl (S.1 43))),
  (ad 44, .inl (cs 0, 40, .inl (S.1 44))),
  (ad 45, .inl (cs 0, 40, .inl (S.1 45))),
  (ad 46, .inl (cs 0, 40, .inl (S.1 46))),
  (ad 47, .inl (cs 0, 24, .inl (S.1 47)))]
def xA (ad : Nat → Nat) : Nat → Prop := fun q => ∃ k, k < 48 ∧ q = ad k
def xt_50 : Nat → Int64 := fun j => ([(-6148914691236517206), (-3689348814741910324), (-1085102592571150096), (-71777214294589696), (-281470681808896), (-4294967296)] : List Int64).getD j 0
def xt_51 : Nat → Int32 := fun j => ([(1), (1), (1), (1), (2), (2), (2), (2), (3), (3), (3), (3), (4), (4), (4), (3), (3), (4), (4)] : List Int32).getD j 0
def xt_52 : Nat → Int32 := fun j => ([(0), (1), (0), (1), (1), (0), (1), (0), (2), (0), (3), (1), (0), (2), (1), (0), (1), (1), (0)] : List Int32).getD j 0
def xt_53 : Nat → Int32 := fun j => ([(0), (0), (2), (2), (0), (1), (2), (3), (0), (2), (0), (2), (1), (0), (2), (0), (0), (0), (0)] : List Int32).getD j 0
def xt_54 : Nat → Int32 := fun j => ([(0), (1), (2), (3), (1), (1), (3), (3), (2), (2), (3), (3), (1), (2), (3), (2), (3), (3), (2)] : List Int32).getD j 0
def xt_55 : Nat → Int32 := fun j => ([(0), (1), (2), (4), (3), (5), (6), (7)] : List Int32).getD j 0
def xZ (ad : Nat → Nat) (U : State) : Prop := (va_Z "SomeAreNoneIs$Sorts" "WITHIN" "[J" (.ref (ad 50)) (xA ad) U U.heap ∧ va_T .long (ad 50) 6 (fun j => .long (xt_50 j)) (xA ad) U U.heap) ∧ (va_Z "SomeAreNoneIs$Moods" "FIGURES" "[I" (.ref (ad 51)) (xA ad) U U.heap ∧ va_T .int (ad 51) 19 (fun j => .int (xt_51 j)) (xA ad) U U.heap) ∧ (va_Z "SomeAreNoneIs$Moods" "FIRSTS" "[I" (.ref (ad 52)) (xA ad) U U.heap ∧ va_T .int (ad 52) 19 (fun j => .int (xt_52 j)) (xA ad) U U.heap) ∧ (va_Z "SomeAreNoneIs$Moods" "SECONDS" "[I" (.ref (ad 53)) (xA ad) U U.heap ∧ va_T .int (ad 53) 19 (fun j => .int (xt_53 j)) (xA ad) U U.heap) ∧ (va_Z "SomeAreNoneIs$Moods" "THIRDS" "[I" (.ref (ad 54)) (xA ad) U U.heap ∧ va_T .int (ad 54) 19 (fun j => .int (xt_54 j)) (xA ad) U U.heap) ∧ (va_Z "SomeAreNoneIs$Moods" "BY_SIZE" "[I" (.ref (ad 55)) (xA ad) U U.heap ∧ va_T .int (ad 55) 8 (fun j => .int (xt_55 j)) (xA ad) U U.heap)
def xG (D : va_G) (cs : Nat → ClassId) (ad : Nat → Nat) : zG := (D, [(cs 0, .int), (cs 1, .char), (cs 2, .byte), (cs 3, .boolean), (cs 4, .long)], xA ad, xw cs ad, xZ ad)
theorem zZ_to {C n d : String} {v : Value} {A : Nat → Prop} {s U : State} (hq : ∀ q : Nat, q < s.heap.size → ¬ A q → U.heap[q]? = s.heap[q]?) (hv : s.vm.Alike U.vm) (h : va_Z C n d v A s s.heap) : va_Z C n d v A U U.heap := va_Z.moved hv (h.kept hq)
theorem zT_to {ty : FieldType} {t N : Nat} {f : Nat → Value} {A : Nat → Prop} {s U : State} (hq : ∀ q : Nat, q < s.heap.size → ¬ A q → U.heap[q]? = s.heap[q]?) (hv : s.vm.Alike U.vm) (h : va_T ty t N f A s s.heap) : va_T ty t N f A U U.heap := va_T.moved hv (h.kept hq)
theorem zV_alike {s U : State} (h : s.WarmedH U.vm ∨ U.vm = s.vm) : s.vm.Alike U.vm := h.elim (fun h => h.alike) (fun h => h ▸ Vm.Alike.refl _)
theorem xG_st (D : va_G) (cs : Nat → ClassId) (ad : Nat → Nat) : zSt (xG D cs ad) := by
  intro s U _ hq hv h
  have hv := zV_alike hv
  obtain ⟨h0, h1, h2, h3, h4, h5⟩ := h
  exact ⟨⟨zZ_to hq hv h0.1, zT_to hq hv h0.2⟩, ⟨zZ_to hq hv h1.1, zT_to hq hv h1.2⟩, ⟨zZ_to hq hv h2.1, zT_to hq hv h2.2⟩, ⟨zZ_to hq hv h3.1, zT_to hq hv h3.2⟩, ⟨zZ_to hq hv h4.1, zT_to hq hv h4.2⟩, ⟨zZ_to hq hv h5.1, zT_to hq hv h5.2⟩⟩
def mw (cs : Nat → ClassId) (ad : Nat → Nat) (S : Zs) : va_W := [(ad 0, .inr (11, [.int (S.1 0 0), .int (S.1 0 1), .ref (ad 1), .int (S.1 0 3), .ref (ad 2), .ref (ad 3), .int (S.1 0 6), .int (S.1 0 7), .int (S.1 0 8), .int (S.1 0 9), .ref (ad 4), .int (S.1 0 11), .ref (ad 5), .int (S.1 0 13), .int (S.1 0 14), .int (S.1 0 15), .int (S.1 0 16), .ref (ad 6), .int (S.1 0 18), .ref (ad 7), .int (S.1 0 20), .ref (ad 8), .ref (ad 9), .ref (ad 10), .int (S.1 0 24), .ref (ad 11), .ref (ad 12), .ref (ad 13), .ref (ad 14), .int (S.1 0 29), .int (S.1 0 30), .int (S.1 0 31), .int (S.1 0 32), .int (S.1 0 33), .ref (ad 15), .int (S.1 0 35), .int (S.1 0 36), .ref (ad 16), .ref (ad 17), .ref (ad 18), .ref (ad 19), .ref (ad 20), .ref (ad 21), .ref (ad 22)])),
  (ad 1, .inl (cs 0, 32, .inl (S.1 1))),
  (ad 2, .inl (cs 0, 16, .inl (S.1 2))),
  (ad 3, .inl (cs 0, 16, .inl (S.1 3))),
  (ad 4, .inl (cs 0, 6, .inl (S.1 4))),
  (ad 5, .inl (cs 0, 80, .inl (S.1 5))),
  (ad 6, .inl (cs 0, 18, .inl (S.1 6))),
  (ad 7, .inl (cs 0, 24, .inl (S.1 7))),
  (ad 8, .inl (cs 0, 24, .inl (S.1 8))),
  (ad 9, .inl (cs 0, 29, .inl (S.1 9))),
  (ad 10, .inl (cs 0, 29, .inl (S.1 10))),
  (ad 11, .inl (cs 0, 4096, .inl (S.1 11))),
  (ad 12, .inl (cs 0, 4096, .inl (S.1 12))),
  (ad 13, .inl (cs 0, 3, .inl (S.1 13))),
  (ad 14, .inl (cs 0, 2304, .inl (S.1 14))),
  (ad 15, .inl (cs 0, 1, .inl (S.1 15))),
  (ad 16, .inl (cs 0, 40, .inl (S.1 16))),
  (ad 17, .inl (cs 0, 40, .inl (S.1 17))),
  (ad 18, .inl (cs 0, 40, .inl (S.1 18))),
  (ad 19, .inl (cs 0, 40, .inl (S.1 19))),
  (ad 20, .inl (cs 0, 40, .inl (S.1 20))),
  (ad 21, .inl (cs 3, 3, .inl (S.1 21))),
  (ad 22, .inl (cs 0, 15, .inl (S.1 22)))]
def mA (ad : Nat → Nat) : Nat → Prop := fun q => ∃ k, k < 23 ∧ q = ad k
def mLen : List Nat := [4, 19, 57]
def mByt : List (List Int32) := [[65, 69, 73, 79], [49, 49, 49, 49, 50, 50, 50, 50, 51, 51, 51, 51, 52, 52, 52, 51, 51, 52, 52], [65, 65, 65, 69, 65, 69, 65, 73, 73, 69, 73, 79, 69, 65, 69, 65, 69, 69, 69, 73, 79, 65, 79, 79, 73, 65, 73, 65, 73, 73, 79, 65, 79, 69, 73, 79, 65, 69, 69, 73, 65, 73, 69, 73, 79, 65, 65, 73, 69, 65, 79, 69, 65, 79, 65, 65, 73]]
def mZ (ad : Nat → Nat) (U : State) : Prop := vk_R "SomeAreNoneIsModel" 64 "AEIO" (ad 30) U ∧ vk_R "SomeAreNoneIsModel" 339 "1111222233334443344" (ad 31) U ∧ vk_R "SomeAreNoneIsModel" 341 "AAAEAEAIIEIOEAEAEEEIOAOOIAIAIIOAOEIOAEEIAIEIOAAIEAOEAOAAI" (ad 32) U ∧ vk_S 3 mLen mByt (fun i => ad (30 + i)) (fun i => ad (33 + i)) (mA ad) U U.heap ∧ va_Z "java/lang/String" "COMPACT_STRINGS" "Z" (.int 1) (mA ad) U U.heap ∧ va_Zq "jdk/internal/util/Preconditions" "SIOOBE_FORMATTER" "Ljava/util/function/BiFunction;" (mA ad) U U.heap
def mG (D : va_G) (cs : Nat → ClassId) (ad : Nat → Nat) : zG := (D, [(cs 0, .int), (cs 1, .char), (cs 2, .byte), (cs 3, .boolean), (cs 4, .long)], mA ad, mw cs ad, mZ ad)
theorem mG_st (D : va_G) (cs : Nat → ClassId) (ad : Nat → Nat) : zSt (mG D cs ad) := by
  intro s U _ hq hw h
  have hv := zV_alike hw
  obtain ⟨h0, h1, h2, h3, h4, h5⟩ := h
  have key : ∀ {own tx : String} {k a : Nat}, vk_R own k tx a s → vk_R own k tx a U := fun z => hw.elim (fun g => vk_R.warm g z) (fun g => vk_R.same g z)
  exact ⟨key h0, key h1, key h2, vk_S.moved hv (h3.kept hq), zZ_to hq hv h4, va_Zq.moved hv (h5.kept hq)⟩
