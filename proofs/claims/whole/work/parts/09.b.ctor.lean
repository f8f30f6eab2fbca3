theorem lo_X11_1 : Cond.methodLink RX11 1 Lib.objectInit ∈ lw_ok := lw_at 121 (by decide +kernel) (by decide +kernel)
theorem im_obj : Cond.instanceMethod Lib.objectInit ∈ lw_ok := lw_at 122 (by decide +kernel) (by decide +kernel)
theorem cd_obj : Cond.code Lib.objectInit ⟨#[0xb1]⟩ 1 none ∈ lw_ok := lw_at 123 (by decide +kernel) (by decide +kernel)
theorem cl_X11_7 : Cond.classLink RX11 7 RX2 ∈ lw_ok := lw_at 124 (by decide +kernel) (by decide +kernel)
theorem in_X2st : Cond.instantiable RX2 15 ∈ lw_ok := lw_at 125 (by decide +kernel) (by decide +kernel)
theorem lo_X2_3 : Cond.methodLink RX2 3 Lib.objectInit ∈ lw_ok := lw_at 129 (by decide +kernel) (by decide +kernel)
theorem ac_I : Cond.arrayClass .int ∈ lw_ok := lw_at 199 (by decide +kernel) (by decide +kernel)
theorem fk_X2_9 : Cond.fieldLink RX2 9 "SomeAreNoneIs$Docket" "codes" "[I" ∈ lw_ok := lw_at 131 (by decide +kernel) (by decide +kernel)
theorem fk_X2_15 : Cond.fieldLink RX2 15 "SomeAreNoneIs$Docket" "witnesses" "[I" ∈ lw_ok := lw_at 137 (by decide +kernel) (by decide +kernel)
theorem ct_X2_18 : Cond.constant RX2 18 (4194303) ∈ lw_ok := lw_at 130 (by decide +kernel) (by decide +kernel)
theorem fk_X2_19 : Cond.fieldLink RX2 19 "SomeAreNoneIs$Docket" "allowed" "I" ∈ lw_ok := lw_at 152 (by decide +kernel) (by decide +kernel)
theorem fk_X2_23 : Cond.fieldLink RX2 23 "SomeAreNoneIs$Docket" "wanted" "[I" ∈ lw_ok := lw_at 156 (by decide +kernel) (by decide +kernel)
theorem ac_Z : Cond.arrayClass .boolean ∈ lw_ok := lw_at 200 (by decide +kernel) (by decide +kernel)
theorem fk_X2_26 : Cond.fieldLink RX2 26 "SomeAreNoneIs$Docket" "kept" "[Z" ∈ lw_ok := lw_at 162 (by decide +kernel) (by decide +kernel)
theorem fk_X2_30 : Cond.fieldLink RX2 30 "SomeAreNoneIs$Docket" "keptSayings" "[I" ∈ lw_ok := lw_at 163 (by decide +kernel) (by decide +kernel)
theorem fk_X2_33 : Cond.fieldLink RX2 33 "SomeAreNoneIs$Docket" "keptDoubted" "[I" ∈ lw_ok := lw_at 164 (by decide +kernel) (by decide +kernel)
theorem fk_X2_36 : Cond.fieldLink RX2 36 "SomeAreNoneIs$Docket" "keptWithdrawn" "[I" ∈ lw_ok := lw_at 165 (by decide +kernel) (by decide +kernel)
theorem fk_X2_39 : Cond.fieldLink RX2 39 "SomeAreNoneIs$Docket" "keptLiving" "[I" ∈ lw_ok := lw_at 166 (by decide +kernel) (by decide +kernel)
theorem fk_X2_42 : Cond.fieldLink RX2 42 "SomeAreNoneIs$Docket" "keptAllowed" "[I" ∈ lw_ok := lw_at 167 (by decide +kernel) (by decide +kernel)
theorem cd_X2_init : Cond.code yX2_init cX2_init 1 none ∈ lw_ok := lw_at 128 (by decide +kernel) (by decide +kernel)
theorem im_X2_init : Cond.instanceMethod yX2_init ∈ lw_ok := lw_at 127 (by decide +kernel) (by decide +kernel)
theorem li_X11_9 : zLI RX11 9 yX2_init cX2_init 1 0 := ⟨cd_X2_init, Or.inr (lw_nat 126 (by decide +kernel) (by decide +kernel)), im_X2_init, it_X2, rfl, by decide +kernel⟩
theorem cl_X11_10 : Cond.classLink RX11 10 RX1 ∈ lw_ok := lw_at 201 (by decide +kernel) (by decide +kernel)
theorem in_X1st : Cond.instantiable RX1 6 ∈ lw_ok := lw_at 202 (by decide +kernel) (by decide +kernel)
theorem lo_X1_3 : Cond.methodLink RX1 3 Lib.objectInit ∈ lw_ok := lw_at 206 (by decide +kernel) (by decide +kernel)
theorem cl_X1_9 : Cond.classLink RX1 9 RX9 ∈ lw_ok := lw_at 207 (by decide +kernel) (by decide +kernel)
theorem in_X9st : Cond.instantiable RX9 5 ∈ lw_ok := lw_at 208 (by decide +kernel) (by decide +kernel)
theorem lo_X9_3 : Cond.methodLink RX9 3 Lib.objectInit ∈ lw_ok := lw_at 212 (by decide +kernel) (by decide +kernel)
theorem fk_X9_9 : Cond.fieldLink RX9 9 "SomeAreNoneIs$Theory" "brings" "[I" ∈ lw_ok := lw_at 213 (by decide +kernel) (by decide +kernel)
theorem fk_X9_15 : Cond.fieldLink RX9 15 "SomeAreNoneIs$Theory" "needX" "[I" ∈ lw_ok := lw_at 214 (by decide +kernel) (by decide +kernel)
theorem fk_X9_18 : Cond.fieldLink RX9 18 "SomeAreNoneIs$Theory" "needY" "[I" ∈ lw_ok := lw_at 215 (by decide +kernel) (by decide +kernel)
theorem cd_X9_init : Cond.code yX9_init cX9_init 1 none ∈ lw_ok := lw_at 211 (by decide +kernel) (by decide +kernel)
theorem im_X9_init : Cond.instanceMethod yX9_init ∈ lw_ok := lw_at 210 (by decide +kernel) (by decide +kernel)
theorem li_X1_11 : zLI RX1 11 yX9_init cX9_init 1 0 := ⟨cd_X9_init, Or.inr (lw_nat 209 (by decide +kernel) (by decide +kernel)), im_X9_init, it_X9, rfl, by decide +kernel⟩
theorem fk_X1_12 : Cond.fieldLink RX1 12 "SomeAreNoneIs$Court" "base" "LSomeAreNoneIs$Theory;" ∈ lw_ok := lw_at 231 (by decide +kernel) (by decide +kernel)
theorem fk_X1_18 : Cond.fieldLink RX1 18 "SomeAreNoneIs$Court" "trial" "LSomeAreNoneIs$Theory;" ∈ lw_ok := lw_at 232 (by decide +kernel) (by decide +kernel)
theorem fk_X1_21 : Cond.fieldLink RX1 21 "SomeAreNoneIs$Court" "distances" "[I" ∈ lw_ok := lw_at 233 (by decide +kernel) (by decide +kernel)
theorem fk_X1_25 : Cond.fieldLink RX1 25 "SomeAreNoneIs$Court" "baseSayings" "I" ∈ lw_ok := lw_at 234 (by decide +kernel) (by decide +kernel)
theorem fk_X1_29 : Cond.fieldLink RX1 29 "SomeAreNoneIs$Court" "baseLiving" "I" ∈ lw_ok := lw_at 235 (by decide +kernel) (by decide +kernel)
theorem fk_X1_32 : Cond.fieldLink RX1 32 "SomeAreNoneIs$Court" "docket" "LSomeAreNoneIs$Docket;" ∈ lw_ok := lw_at 230 (by decide +kernel) (by decide +kernel)
theorem cd_X1_init : Cond.code yX1_init cX1_init 2 none ∈ lw_ok := lw_at 205 (by decide +kernel) (by decide +kernel)
theorem im_X1_init : Cond.instanceMethod yX1_init ∈ lw_ok := lw_at 204 (by decide +kernel) (by decide +kernel)
theorem li_X11_12 : zLI RX11 12 yX1_init cX1_init 2 1 := ⟨cd_X1_init, Or.inl (lw_at 203 (by decide +kernel) (by decide +kernel)), im_X1_init, it_X1, rfl, by decide +kernel⟩
theorem cl_X11_15 : Cond.classLink RX11 15 RX7 ∈ lw_ok := lw_at 249 (by decide +kernel) (by decide +kernel)
theorem in_X7st : Cond.instantiable RX7 5 ∈ lw_ok := lw_at 250 (by decide +kernel) (by decide +kernel)
theorem lo_X7_3 : Cond.methodLink RX7 3 Lib.objectInit ∈ lw_ok := lw_at 254 (by decide +kernel) (by decide +kernel)
theorem ac_J : Cond.arrayClass .long ∈ lw_ok := lw_at 272 (by decide +kernel) (by decide +kernel)
theorem fk_X7_11 : Cond.fieldLink RX7 11 "SomeAreNoneIs$Sorts" "words" "[J" ∈ lw_ok := lw_at 256 (by decide +kernel) (by decide +kernel)
theorem fk_X7_15 : Cond.fieldLink RX7 15 "SomeAreNoneIs$Sorts" "settledSayings" "I" ∈ lw_ok := lw_at 259 (by decide +kernel) (by decide +kernel)
theorem fk_X7_19 : Cond.fieldLink RX7 19 "SomeAreNoneIs$Sorts" "settledExtra" "I" ∈ lw_ok := lw_at 260 (by decide +kernel) (by decide +kernel)
theorem fk_X7_22 : Cond.fieldLink RX7 22 "SomeAreNoneIs$Sorts" "docket" "LSomeAreNoneIs$Docket;" ∈ lw_ok := lw_at 255 (by decide +kernel) (by decide +kernel)
theorem cd_X7_init : Cond.code yX7_init cX7_init 2 none ∈ lw_ok := lw_at 253 (by decide +kernel) (by decide +kernel)
theorem im_X7_init : Cond.instanceMethod yX7_init ∈ lw_ok := lw_at 252 (by decide +kernel) (by decide +kernel)
theorem li_X11_17 : zLI RX11 17 yX7_init cX7_init 2 1 := ⟨cd_X7_init, Or.inl (lw_at 251 (by decide +kernel) (by decide +kernel)), im_X7_init, it_X7, rfl, by decide +kernel⟩
theorem cl_X11_18 : Cond.classLink RX11 18 RX8 ∈ lw_ok := lw_at 273 (by decide +kernel) (by decide +kernel)
theorem in_X8st : Cond.instantiable RX8 3 ∈ lw_ok := lw_at 274 (by decide +kernel) (by decide +kernel)
theorem lo_X8_3 : Cond.methodLink RX8 3 Lib.objectInit ∈ lw_ok := lw_at 278 (by decide +kernel) (by decide +kernel)
theorem ac_C : Cond.arrayClass .char ∈ lw_ok := lw_at 290 (by decide +kernel) (by decide +kernel)
theorem fk_X8_11 : Cond.fieldLink RX8 11 "SomeAreNoneIs$Text" "signs" "[C" ∈ lw_ok := lw_at 279 (by decide +kernel) (by decide +kernel)
theorem cd_X8_init : Cond.code yX8_init cX8_init 1 none ∈ lw_ok := lw_at 277 (by decide +kernel) (by decide +kernel)
theorem im_X8_init : Cond.instanceMethod yX8_init ∈ lw_ok := lw_at 276 (by decide +kernel) (by decide +kernel)
theorem li_X11_20 : zLI RX11 20 yX8_init cX8_init 1 0 := ⟨cd_X8_init, Or.inr (lw_nat 275 (by decide +kernel) (by decide +kernel)), im_X8_init, it_X8, rfl, by decide +kernel⟩
theorem fk_X11_21 : Cond.fieldLink RX11 21 "SomeAreNoneIs" "text" "LSomeAreNoneIs$Text;" ∈ lw_ok := lw_at 453 (by decide +kernel) (by decide +kernel)
theorem fk_X11_27 : Cond.fieldLink RX11 27 "SomeAreNoneIs" "docket" "LSomeAreNoneIs$Docket;" ∈ lw_ok := lw_at 454 (by decide +kernel) (by decide +kernel)
theorem fk_X11_31 : Cond.fieldLink RX11 31 "SomeAreNoneIs" "court" "LSomeAreNoneIs$Court;" ∈ lw_ok := lw_at 455 (by decide +kernel) (by decide +kernel)
theorem cl_X11_35 : Cond.classLink RX11 35 RX6 ∈ lw_ok := lw_at 291 (by decide +kernel) (by decide +kernel)
theorem in_X6st : Cond.instantiable RX6 6 ∈ lw_ok := lw_at 292 (by decide +kernel) (by decide +kernel)
theorem lo_X6_3 : Cond.methodLink RX6 3 Lib.objectInit ∈ lw_ok := lw_at 296 (by decide +kernel) (by decide +kernel)
theorem fk_X6_9 : Cond.fieldLink RX6 9 "SomeAreNoneIs$Search" "docket" "LSomeAreNoneIs$Docket;" ∈ lw_ok := lw_at 297 (by decide +kernel) (by decide +kernel)
theorem fk_X6_15 : Cond.fieldLink RX6 15 "SomeAreNoneIs$Search" "court" "LSomeAreNoneIs$Court;" ∈ lw_ok := lw_at 298 (by decide +kernel) (by decide +kernel)
theorem cd_X6_init : Cond.code yX6_init cX6_init 3 none ∈ lw_ok := lw_at 295 (by decide +kernel) (by decide +kernel)
theorem im_X6_init : Cond.instanceMethod yX6_init ∈ lw_ok := lw_at 294 (by decide +kernel) (by decide +kernel)
theorem li_X11_37 : zLI RX11 37 yX6_init cX6_init 3 2 := ⟨cd_X6_init, Or.inl (lw_at 293 (by decide +kernel) (by decide +kernel)), im_X6_init, it_X6, rfl, by decide +kernel⟩
theorem fk_X11_40 : Cond.fieldLink RX11 40 "SomeAreNoneIs" "search" "LSomeAreNoneIs$Search;" ∈ lw_ok := lw_at 456 (by decide +kernel) (by decide +kernel)
theorem fk_X11_44 : Cond.fieldLink RX11 44 "SomeAreNoneIs" "people" "LSomeAreNoneIs$Sorts;" ∈ lw_ok := lw_at 457 (by decide +kernel) (by decide +kernel)
theorem cl_X11_48 : Cond.classLink RX11 48 RX10 ∈ lw_ok := lw_at 316 (by decide +kernel) (by decide +kernel)
theorem in_X10st : Cond.instantiable RX10 6 ∈ lw_ok := lw_at 317 (by decide +kernel) (by decide +kernel)
theorem lo_X10_3 : Cond.methodLink RX10 3 Lib.objectInit ∈ lw_ok := lw_at 321 (by decide +kernel) (by decide +kernel)
theorem fk_X10_9 : Cond.fieldLink RX10 9 "SomeAreNoneIs$Towns" "chosen" "[I" ∈ lw_ok := lw_at 325 (by decide +kernel) (by decide +kernel)
theorem fk_X10_15 : Cond.fieldLink RX10 15 "SomeAreNoneIs$Towns" "apart" "[I" ∈ lw_ok := lw_at 327 (by decide +kernel) (by decide +kernel)
theorem ac_B : Cond.arrayClass .byte ∈ lw_ok := lw_at 342 (by decide +kernel) (by decide +kernel)
theorem fk_X10_18 : Cond.fieldLink RX10 18 "SomeAreNoneIs$Towns" "fewestFor" "[B" ∈ lw_ok := lw_at 328 (by decide +kernel) (by decide +kernel)
theorem fk_X10_22 : Cond.fieldLink RX10 22 "SomeAreNoneIs$Towns" "docket" "LSomeAreNoneIs$Docket;" ∈ lw_ok := lw_at 322 (by decide +kernel) (by decide +kernel)
theorem fk_X10_26 : Cond.fieldLink RX10 26 "SomeAreNoneIs$Towns" "court" "LSomeAreNoneIs$Court;" ∈ lw_ok := lw_at 323 (by decide +kernel) (by decide +kernel)
theorem fk_X10_30 : Cond.fieldLink RX10 30 "SomeAreNoneIs$Towns" "people" "LSomeAreNoneIs$Sorts;" ∈ lw_ok := lw_at 324 (by decide +kernel) (by decide +kernel)
theorem cd_X10_init : Cond.code yX10_init cX10_init 4 none ∈ lw_ok := lw_at 320 (by decide +kernel) (by decide +kernel)
theorem im_X10_init : Cond.instanceMethod yX10_init ∈ lw_ok := lw_at 319 (by decide +kernel) (by decide +kernel)
theorem li_X11_50 : zLI RX11 50 yX10_init cX10_init 4 3 := ⟨cd_X10_init, Or.inl (lw_at 318 (by decide +kernel) (by decide +kernel)), im_X10_init, it_X10, rfl, by decide +kernel⟩
theorem fk_X11_53 : Cond.fieldLink RX11 53 "SomeAreNoneIs" "towns" "LSomeAreNoneIs$Towns;" ∈ lw_ok := lw_at 458 (by decide +kernel) (by decide +kernel)
theorem cl_X11_57 : Cond.classLink RX11 57 RX4 ∈ lw_ok := lw_at 343 (by decide +kernel) (by decide +kernel)
theorem in_X4st : Cond.instantiable RX4 1 ∈ lw_ok := lw_at 344 (by decide +kernel) (by decide +kernel)
theorem lo_X4_3 : Cond.methodLink RX4 3 Lib.objectInit ∈ lw_ok := lw_at 348 (by decide +kernel) (by decide +kernel)
theorem cl_X4_9 : Cond.classLink RX4 9 RX9 ∈ lw_ok := lw_at 349 (by decide +kernel) (by decide +kernel)
theorem li_X4_11 : zLI RX4 11 yX9_init cX9_init 1 0 := ⟨cd_X9_init, Or.inr (lw_nat 350 (by decide +kernel) (by decide +kernel)), im_X9_init, it_X9, rfl, by decide +kernel⟩
theorem fk_X4_12 : Cond.fieldLink RX4 12 "SomeAreNoneIs$Moods" "theory" "LSomeAreNoneIs$Theory;" ∈ lw_ok := lw_at 351 (by decide +kernel) (by decide +kernel)
theorem cd_X4_init : Cond.code yX4_init cX4_init 1 none ∈ lw_ok := lw_at 347 (by decide +kernel) (by decide +kernel)
theorem im_X4_init : Cond.instanceMethod yX4_init ∈ lw_ok := lw_at 346 (by decide +kernel) (by decide +kernel)
theorem li_X11_59 : zLI RX11 59 yX4_init cX4_init 1 0 := ⟨cd_X4_init, Or.inr (lw_nat 345 (by decide +kernel) (by decide +kernel)), im_X4_init, it_X4, rfl, by decide +kernel⟩
theorem fk_X11_60 : Cond.fieldLink RX11 60 "SomeAreNoneIs" "school" "LSomeAreNoneIs$Moods;" ∈ lw_ok := lw_at 459 (by decide +kernel) (by decide +kernel)
theorem cl_X11_64 : Cond.classLink RX11 64 RX5 ∈ lw_ok := lw_at 355 (by decide +kernel) (by decide +kernel)
theorem in_X5st : Cond.instantiable RX5 18 ∈ lw_ok := lw_at 356 (by decide +kernel) (by decide +kernel)
theorem lo_X5_3 : Cond.methodLink RX5 3 Lib.objectInit ∈ lw_ok := lw_at 360 (by decide +kernel) (by decide +kernel)
theorem fk_X5_9 : Cond.fieldLink RX5 9 "SomeAreNoneIs$Proofs" "cost" "[I" ∈ lw_ok := lw_at 362 (by decide +kernel) (by decide +kernel)
theorem fk_X5_15 : Cond.fieldLink RX5 15 "SomeAreNoneIs$Proofs" "order" "[I" ∈ lw_ok := lw_at 363 (by decide +kernel) (by decide +kernel)
theorem fk_X5_18 : Cond.fieldLink RX5 18 "SomeAreNoneIs$Proofs" "predicates" "[I" ∈ lw_ok := lw_at 364 (by decide +kernel) (by decide +kernel)
theorem fk_X5_21 : Cond.fieldLink RX5 21 "SomeAreNoneIs$Proofs" "subjects" "[I" ∈ lw_ok := lw_at 365 (by decide +kernel) (by decide +kernel)
theorem fk_X5_24 : Cond.fieldLink RX5 24 "SomeAreNoneIs$Proofs" "below" "[I" ∈ lw_ok := lw_at 366 (by decide +kernel) (by decide +kernel)
theorem fk_X5_27 : Cond.fieldLink RX5 27 "SomeAreNoneIs$Proofs" "settledSayings" "I" ∈ lw_ok := lw_at 372 (by decide +kernel) (by decide +kernel)
theorem fk_X5_31 : Cond.fieldLink RX5 31 "SomeAreNoneIs$Proofs" "docket" "LSomeAreNoneIs$Docket;" ∈ lw_ok := lw_at 361 (by decide +kernel) (by decide +kernel)
theorem cd_X5_init : Cond.code yX5_init cX5_init 2 none ∈ lw_ok := lw_at 359 (by decide +kernel) (by decide +kernel)
theorem im_X5_init : Cond.instanceMethod yX5_init ∈ lw_ok := lw_at 358 (by decide +kernel) (by decide +kernel)
theorem li_X11_66 : zLI RX11 66 yX5_init cX5_init 2 1 := ⟨cd_X5_init, Or.inl (lw_at 357 (by decide +kernel) (by decide +kernel)), im_X5_init, it_X5, rfl, by decide +kernel⟩
theorem fk_X11_67 : Cond.fieldLink RX11 67 "SomeAreNoneIs" "prover" "LSomeAreNoneIs$Proofs;" ∈ lw_ok := lw_at 460 (by decide +kernel) (by decide +kernel)
theorem cl_X11_71 : Cond.classLink RX11 71 RX3 ∈ lw_ok := lw_at 424 (by decide +kernel) (by decide +kernel)
theorem in_X3st : Cond.instantiable RX3 7 ∈ lw_ok := lw_at 425 (by decide +kernel) (by decide +kernel)
theorem lo_X3_3 : Cond.methodLink RX3 3 Lib.objectInit ∈ lw_ok := lw_at 429 (by decide +kernel) (by decide +kernel)
theorem fk_X3_11 : Cond.fieldLink RX3 11 "SomeAreNoneIs$Lawyers" "codes" "[I" ∈ lw_ok := lw_at 431 (by decide +kernel) (by decide +kernel)
theorem fk_X3_15 : Cond.fieldLink RX3 15 "SomeAreNoneIs$Lawyers" "lawyers" "[I" ∈ lw_ok := lw_at 432 (by decide +kernel) (by decide +kernel)
theorem fk_X3_18 : Cond.fieldLink RX3 18 "SomeAreNoneIs$Lawyers" "firsts" "[I" ∈ lw_ok := lw_at 433 (by decide +kernel) (by decide +kernel)
theorem fk_X3_21 : Cond.fieldLink RX3 21 "SomeAreNoneIs$Lawyers" "seconds" "[I" ∈ lw_ok := lw_at 434 (by decide +kernel) (by decide +kernel)
theorem fk_X3_24 : Cond.fieldLink RX3 24 "SomeAreNoneIs$Lawyers" "moods" "[I" ∈ lw_ok := lw_at 435 (by decide +kernel) (by decide +kernel)
theorem fk_X3_27 : Cond.fieldLink RX3 27 "SomeAreNoneIs$Lawyers" "docket" "LSomeAreNoneIs$Docket;" ∈ lw_ok := lw_at 430 (by decide +kernel) (by decide +kernel)
theorem cd_X3_init : Cond.code yX3_init cX3_init 2 none ∈ lw_ok := lw_at 428 (by decide +kernel) (by decide +kernel)
theorem im_X3_init : Cond.instanceMethod yX3_init ∈ lw_ok := lw_at 427 (by decide +kernel) (by decide +kernel)
theorem li_X11_73 : zLI RX11 73 yX3_init cX3_init 2 1 := ⟨cd_X3_init, Or.inl (lw_at 426 (by decide +kernel) (by decide +kernel)), im_X3_init, it_X3, rfl, by decide +kernel⟩
theorem fk_X11_74 : Cond.fieldLink RX11 74 "SomeAreNoneIs" "bar" "LSomeAreNoneIs$Lawyers;" ∈ lw_ok := lw_at 461 (by decide +kernel) (by decide +kernel)
theorem fk_X11_78 : Cond.fieldLink RX11 78 "SomeAreNoneIs" "numbers" "[I" ∈ lw_ok := lw_at 462 (by decide +kernel) (by decide +kernel)
theorem fk_X11_82 : Cond.fieldLink RX11 82 "SomeAreNoneIs" "numbersTold" "I" ∈ lw_ok := lw_at 463 (by decide +kernel) (by decide +kernel)
theorem lo_X12_474 : Cond.methodLink RX12 474 Lib.objectInit ∈ lw_ok := lw_at 1988 (by decide +kernel) (by decide +kernel)
theorem fk_X12_7 : Cond.fieldLink RX12 7 "SomeAreNoneIsModel" "row" "[I" ∈ lw_ok := lw_at 1992 (by decide +kernel) (by decide +kernel)
theorem fk_X12_87 : Cond.fieldLink RX12 87 "SomeAreNoneIsModel" "code" "[I" ∈ lw_ok := lw_at 1994 (by decide +kernel) (by decide +kernel)
theorem fk_X12_93 : Cond.fieldLink RX12 93 "SomeAreNoneIsModel" "witness" "[I" ∈ lw_ok := lw_at 1995 (by decide +kernel) (by decide +kernel)
theorem fk_X12_148 : Cond.fieldLink RX12 148 "SomeAreNoneIsModel" "wanted" "[I" ∈ lw_ok := lw_at 2000 (by decide +kernel) (by decide +kernel)
theorem ct_X12_479 : Cond.constant RX12 479 (4194303) ∈ lw_ok := lw_at 1989 (by decide +kernel) (by decide +kernel)
theorem fk_X12_348 : Cond.fieldLink RX12 348 "SomeAreNoneIsModel" "allowed" "I" ∈ lw_ok := lw_at 2001 (by decide +kernel) (by decide +kernel)
theorem fk_X12_37 : Cond.fieldLink RX12 37 "SomeAreNoneIsModel" "tape" "[I" ∈ lw_ok := lw_at 2002 (by decide +kernel) (by decide +kernel)
theorem fk_X12_159 : Cond.fieldLink RX12 159 "SomeAreNoneIsModel" "laid" "[I" ∈ lw_ok := lw_at 2007 (by decide +kernel) (by decide +kernel)
theorem fk_X12_162 : Cond.fieldLink RX12 162 "SomeAreNoneIsModel" "leads" "[I" ∈ lw_ok := lw_at 2009 (by decide +kernel) (by decide +kernel)
theorem fk_X12_246 : Cond.fieldLink RX12 246 "SomeAreNoneIsModel" "far" "[I" ∈ lw_ok := lw_at 2011 (by decide +kernel) (by decide +kernel)
theorem fk_X12_271 : Cond.fieldLink RX12 271 "SomeAreNoneIsModel" "needX" "[I" ∈ lw_ok := lw_at 2012 (by decide +kernel) (by decide +kernel)
theorem fk_X12_277 : Cond.fieldLink RX12 277 "SomeAreNoneIsModel" "needY" "[I" ∈ lw_ok := lw_at 2013 (by decide +kernel) (by decide +kernel)
theorem fk_X12_286 : Cond.fieldLink RX12 286 "SomeAreNoneIsModel" "leastOf" "[I" ∈ lw_ok := lw_at 2015 (by decide +kernel) (by decide +kernel)
theorem fk_X12_292 : Cond.fieldLink RX12 292 "SomeAreNoneIsModel" "cover" "[I" ∈ lw_ok := lw_at 2016 (by decide +kernel) (by decide +kernel)
theorem fk_X12_300 : Cond.fieldLink RX12 300 "SomeAreNoneIsModel" "three" "[I" ∈ lw_ok := lw_at 2017 (by decide +kernel) (by decide +kernel)
theorem fk_X12_387 : Cond.fieldLink RX12 387 "SomeAreNoneIsModel" "steps" "[I" ∈ lw_ok := lw_at 2018 (by decide +kernel) (by decide +kernel)
theorem fk_X12_410 : Cond.fieldLink RX12 410 "SomeAreNoneIsModel" "deepest" "[I" ∈ lw_ok := lw_at 2024 (by decide +kernel) (by decide +kernel)
theorem fk_X12_428 : Cond.fieldLink RX12 428 "SomeAreNoneIsModel" "stepCode" "[I" ∈ lw_ok := lw_at 2027 (by decide +kernel) (by decide +kernel)
theorem fk_X12_416 : Cond.fieldLink RX12 416 "SomeAreNoneIsModel" "stepLawyer" "[I" ∈ lw_ok := lw_at 2028 (by decide +kernel) (by decide +kernel)
theorem fk_X12_419 : Cond.fieldLink RX12 419 "SomeAreNoneIsModel" "stepOne" "[I" ∈ lw_ok := lw_at 2029 (by decide +kernel) (by decide +kernel)
theorem fk_X12_425 : Cond.fieldLink RX12 425 "SomeAreNoneIsModel" "stepOther" "[I" ∈ lw_ok := lw_at 2030 (by decide +kernel) (by decide +kernel)
theorem fk_X12_441 : Cond.fieldLink RX12 441 "SomeAreNoneIsModel" "stepMood" "[I" ∈ lw_ok := lw_at 2031 (by decide +kernel) (by decide +kernel)
theorem fk_X12_467 : Cond.fieldLink RX12 467 "SomeAreNoneIsModel" "isKept" "[Z" ∈ lw_ok := lw_at 2032 (by decide +kernel) (by decide +kernel)
theorem fk_X12_471 : Cond.fieldLink RX12 471 "SomeAreNoneIsModel" "kept" "[I" ∈ lw_ok := lw_at 2033 (by decide +kernel) (by decide +kernel)
def X0 : Zs := (fun r => if r = 0 then (fun k => if k = 66 then (4194303 : Int32) else if k = 264 then (-1 : Int32) else if k = 265 then (-1 : Int32) else if k = 483 then (-1 : Int32) else if k = 484 then (-1 : Int32) else if k = 709 then (-1 : Int32) else 0) else (fun _ => 0), fun _ => 0)
def M0 : Zs := (fun r => if r = 0 then (fun k => if k = 11 then (4194303 : Int32) else 0) else (fun _ => 0), fun _ => 0)
set_option maxRecDepth 100000 in
set_option maxHeartbeats 4000000 in
theorem i_X2_init {l : Launch} {D : va_G} {cs : Nat → Nat} {sz : Nat} (h0  : Nat) : zI l yX2_init cX2_init 1 { frames := 1, cells := 9, slots := 56, locals := 12 } D cs [(h0, .inr (1, [.null, .null, .int 0, .int 0, .int 0, .int 0, .int 0, .null, .int 0, .null, .null, .null, .null, .null, .null]))] sz [.ref h0] 9 56 (fun u => [(h0, .inr (1, [.ref (u 0), .ref (u 1), .int 0, .int 0, .int 0, .int 0, .int (4194303 : Int32), .ref (u 2), .int 0, .ref (u 3), .ref (u 4), .ref (u 5), .ref (u 6), .ref (u 7), .ref (u 8)])), ((u 0), .inl (cs 0, 16, .inl fun _ => 0)), ((u 1), .inl (cs 0, 16, .inl fun _ => 0)), ((u 2), .inl (cs 0, 6, .inl fun _ => 0)), ((u 3), .inl (cs 3, 3, .inl fun _ => 0)), ((u 4), .inl (cs 0, 3, .inl fun _ => 0)), ((u 5), .inl (cs 0, 3, .inl fun _ => 0)), ((u 6), .inl (cs 0, 3, .inl fun _ => 0)), ((u 7), .inl (cs 0, 3, .inl fun _ => 0)), ((u 8), .inl (cs 0, 3, .inl fun _ => 0))]) := by
  refine zi_enter (by decide) rfl (Nat.le_of_ble_eq_true rfl) ?_
  intro p e s m below meth c ls C hmi V hl
  have C : zC p s m [.ref h0].toArray meth c cX2_init 1 RX2 none := C
  obtain ⟨hx, hb, hml, hown, hts, hret, hlk⟩ := id C
  have hl : lv_has ls 1 [(0, .ref h0)] := hl
  refine lv_aload_n hx hb dX2_init_0 rfl (lv_at hl 0 rfl) ?_
  refine zi_obj C lo_X2_3 im_obj cd_obj hl.1 (Nat.le_of_ble_eq_true rfl) (Nat.le_of_ble_eq_true rfl) dX2_init_1 ?_
  refine lv_aload_n hx hb dX2_init_4 rfl (lv_at hl 0 rfl) ?_
  refine lv_bipush (v := 16) hx hb dX2_init_5 (by decide) ?_
  refine zi_newa (at_ := .int) (ty := .int) (cB := cs 0) (t0 := 0) (a0 := (16, .inl fun _ => 0)) (n0 := 16) C V rfl (fun _ h => by cases h) rfl ac_I (fun _ => rfl) (by decide) (by decide) (by decide) (Nat.le_of_ble_eq_true rfl) (Nat.le_of_ble_eq_true rfl) dX2_init_7 (fun q1 H V => ?_)
  have V : zV D cs (va_A [(h0, .inr (1, [.null, .null, .int 0, .int 0, .int 0, .int 0, .int 0, .null, .int 0, .null, .null, .null, .null, .null, .null]))] sz) s [(h0, .inr (1, [.null, .null, .int 0, .int 0, .int 0, .int 0, .int 0, .null, .int 0, .null, .null, .null, .null, .null, .null])), (q1, .inl (cs 0, 16, .inl fun _ => 0))] H [] := V
  refine zi_put (q0 := 0) (ci := 1) (k := 0) (T := TX2) (N := 15) (ty0 := tyX2) (ty := (.array .int)) C hmi V inX2 tyX2_ok nmX2 rfl rfl (by decide) fk_X2_9 rfl (by decide +kernel) rfl rfl (Nat.le_of_ble_eq_true rfl) dX2_init_9 (fun H locs V => ?_)
  have V : zV D cs (va_A [(h0, .inr (1, [.null, .null, .int 0, .int 0, .int 0, .int 0, .int 0, .null, .int 0, .null, .null, .null, .null, .null, .null]))] sz) s [(h0, .inr (1, [.ref q1, .null, .int 0, .int 0, .int 0, .int 0, .int 0, .null, .int 0, .null, .null, .null, .null, .null, .null])), (q1, .inl (cs 0, 16, .inl fun _ => 0))] H locs := V
  refine lv_aload_n hx hb dX2_init_12 rfl (lv_at hl 0 rfl) ?_
  refine lv_bipush (v := 16) hx hb dX2_init_13 (by decide) ?_
  refine zi_newa (at_ := .int) (ty := .int) (cB := cs 0) (t0 := 0) (a0 := (16, .inl fun _ => 0)) (n0 := 16) C V rfl (fun _ h => by cases h) rfl ac_I (fun _ => rfl) (by decide) (by decide) (by decide) (Nat.le_of_ble_eq_true rfl) (Nat.le_of_ble_eq_true rfl) dX2_init_15 (fun q2 H V => ?_)
  have V : zV D cs (va_A [(h0, .inr (1, [.null, .null, .int 0, .int 0, .int 0, .int 0, .int 0, .null, .int 0, .null, .null, .null, .null, .null, .null]))] sz) s [(h0, .inr (1, [.ref q1, .null, .int 0, .int 0, .int 0, .int 0, .int 0, .null, .int 0, .null, .null, .null, .null, .null, .null])), (q1, .inl (cs 0, 16, .inl fun _ => 0)), (q2, .inl (cs 0, 16, .inl fun _ => 0))] H locs := V
  refine zi_put (q0 := 0) (ci := 1) (k := 1) (T := TX2) (N := 15) (ty0 := tyX2) (ty := (.array .int)) C hmi V inX2 tyX2_ok nmX2 rfl rfl (by decide) fk_X2_15 rfl (by decide +kernel) rfl rfl (Nat.le_of_ble_eq_true rfl) dX2_init_17 (fun H locs V => ?_)
  have V : zV D cs (va_A [(h0, .inr (1, [.null, .null, .int 0, .int 0, .int 0, .int 0, .int 0, .null, .int 0, .null, .null, .null, .null, .null, .null]))] sz) s [(h0, .inr (1, [.ref q1, .ref q2, .int 0, .int 0, .int 0, .int 0, .int 0, .null, .int 0, .null, .null, .null, .null, .null, .null])), (q1, .inl (cs 0, 16, .inl fun _ => 0)), (q2, .inl (cs 0, 16, .inl fun _ => 0))] H locs := V
  refine lv_aload_n hx hb dX2_init_20 rfl (lv_at hl 0 rfl) ?_
  refine lv_ldc (v := 4194303) hx hb hown (hts _ ct_X2_18) dX2_init_21 ?_
  refine zi_put (q0 := 0) (ci := 1) (k := 6) (T := TX2) (N := 15) (ty0 := tyX2) (ty := .int) C hmi V inX2 tyX2_ok nmX2 rfl rfl (by decide) fk_X2_19 rfl (by decide +kernel) rfl rfl (Nat.le_of_ble_eq_true rfl) dX2_init_23 (fun H locs V => ?_)
  have V : zV D cs (va_A [(h0, .inr (1, [.null, .null, .int 0, .int 0, .int 0, .int 0, .int 0, .null, .int 0, .null, .null, .null, .null, .null, .null]))] sz) s [(h0, .inr (1, [.ref q1, .ref q2, .int 0, .int 0, .int 0, .int 0, .int (4194303 : Int32), .null, .int 0, .null, .null, .null, .null, .null, .null])), (q1, .inl (cs 0, 16, .inl fun _ => 0)), (q2, .inl (cs 0, 16, .inl fun _ => 0))] H locs := V
  refine lv_aload_n hx hb dX2_init_26 rfl (lv_at hl 0 rfl) ?_
  refine lv_bipush (v := 6) hx hb dX2_init_27 (by decide) ?_
  refine zi_newa (at_ := .int) (ty := .int) (cB := cs 0) (t0 := 0) (a0 := (6, .inl fun _ => 0)) (n0 := 6) C V rfl (fun _ h => by cases h) rfl ac_I (fun _ => rfl) (by decide) (by decide) (by decide) (Nat.le_of_ble_eq_true rfl) (Nat.le_of_ble_eq_true rfl) dX2_init_29 (fun q3 H V => ?_)
  have V : zV D cs (va_A [(h0, .inr (1, [.null, .null, .int 0, .int 0, .int 0, .int 0, .int 0, .null, .int 0, .null, .null, .null, .null, .null, .null]))] sz) s [(h0, .inr (1, [.ref q1, .ref q2, .int 0, .int 0, .int 0, .int 0, .int (4194303 : Int32), .null, .int 0, .null, .null, .null, .null, .null, .null])), (q1, .inl (cs 0, 16, .inl fun _ => 0)), (q2, .inl (cs 0, 16, .inl fun _ => 0)), (q3, .inl (cs 0, 6, .inl fun _ => 0))] H locs := V
  refine zi_put (q0 := 0) (ci := 1) (k := 7) (T := TX2) (N := 15) (ty0 := tyX2) (ty := (.array .int)) C hmi V inX2 tyX2_ok nmX2 rfl rfl (by decide) fk_X2_23 rfl (by decide +kernel) rfl rfl (Nat.le_of_ble_eq_true rfl) dX2_init_31 (fun H locs V => ?_)
  have V : zV D cs (va_A [(h0, .inr (1, [.null, .null, .int 0, .int 0, .int 0, .int 0, .int 0, .null, .int 0, .null, .null, .null, .null, .null, .null]))] sz) s [(h0, .inr (1, [.ref q1, .ref q2, .int 0, .int 0, .int 0, .int 0, .int (4194303 : Int32), .ref q3, .int 0, .null, .null, .null, .null, .null, .null])), (q1, .inl (cs 0, 16, .inl fun _ => 0)), (q2, .inl (cs 0, 16, .inl fun _ => 0)), (q3, .inl (cs 0, 6, .inl fun _ => 0))] H locs := V
  refine lv_aload_n hx hb dX2_init_34 rfl (lv_at hl 0 rfl) ?_
  refine lv_iconst (v := 3) hx hb dX2_init_35 (by decide) ?_
  refine zi_newa (at_ := .boolean) (ty := .boolean) (cB := cs 3) (t0 := 3) (a0 := (3, .inl fun _ => 0)) (n0 := 3) C V rfl (fun _ h => by cases h) rfl ac_Z (fun _ => rfl) (by decide) (by decide) (by decide) (Nat.le_of_ble_eq_true rfl) (Nat.le_of_ble_eq_true rfl) dX2_init_36 (fun q4 H V => ?_)
  have V : zV D cs (va_A [(h0, .inr (1, [.null, .null, .int 0, .int 0, .int 0, .int 0, .int 0, .null, .int 0, .null, .null, .null, .null, .null, .null]))] sz) s [(h0, .inr (1, [.ref q1, .ref q2, .int 0, .int 0, .int 0, .int 0, .int (4194303 : Int32), .ref q3, .int 0, .null, .null, .null, .null, .null, .null])), (q1, .inl (cs 0, 16, .inl fun _ => 0)), (q2, .inl (cs 0, 16, .inl fun _ => 0)), (q3, .inl (cs 0, 6, .inl fun _ => 0)), (q4, .inl (cs 3, 3, .inl fun _ => 0))] H locs := V
  refine zi_put (q0 := 0) (ci := 1) (k := 9) (T := TX2) (N := 15) (ty0 := tyX2) (ty := (.array .boolean)) C hmi V inX2 tyX2_ok nmX2 rfl rfl (by decide) fk_X2_26 rfl (by decide +kernel) rfl rfl (Nat.le_of_ble_eq_true rfl) dX2_init_38 (fun H locs V => ?_)
  have V : zV D cs (va_A [(h0, .inr (1, [.null, .null, .int 0, .int 0, .int 0, .int 0, .int 0, .null, .int 0, .null, .null, .null, .null, .null, .null]))] sz) s [(h0, .inr (1, [.ref q1, .ref q2, .int 0, .int 0, .int 0, .int 0, .int (4194303 : Int32), .ref q3, .int 0, .ref q4, .null, .null, .null, .null, .null])), (q1, .inl (cs 0, 16, .inl fun _ => 0)), (q2, .inl (cs 0, 16, .inl fun _ => 0)), (q3, .inl (cs 0, 6, .inl fun _ => 0)), (q4, .inl (cs 3, 3, .inl fun _ => 0))] H locs := V
  refine lv_aload_n hx hb dX2_init_41 rfl (lv_at hl 0 rfl) ?_
  refine lv_iconst (v := 3) hx hb dX2_init_42 (by decide) ?_
  refine zi_newa (at_ := .int) (ty := .int) (cB := cs 0) (t0 := 0) (a0 := (3, .inl fun _ => 0)) (n0 := 3) C V rfl (fun _ h => by cases h) rfl ac_I (fun _ => rfl) (by decide) (by decide) (by decide) (Nat.le_of_ble_eq_true rfl) (Nat.le_of_ble_eq_true rfl) dX2_init_43 (fun q5 H V => ?_)
  have V : zV D cs (va_A [(h0, .inr (1, [.null, .null, .int 0, .int 0, .int 0, .int 0, .int 0, .null, .int 0, .null, .null, .null, .null, .null, .null]))] sz) s [(h0, .inr (1, [.ref q1, .ref q2, .int 0, .int 0, .int 0, .int 0, .int (4194303 : Int32), .ref q3, .int 0, .ref q4, .null, .null, .null, .null, .null])), (q1, .inl (cs 0, 16, .inl fun _ => 0)), (q2, .inl (cs 0, 16, .inl fun _ => 0)), (q3, .inl (cs 0, 6, .inl fun _ => 0)), (q4, .inl (cs 3, 3, .inl fun _ => 0)), (q5, .inl (cs 0, 3, .inl fun _ => 0))] H locs := V
  refine zi_put (q0 := 0) (ci := 1) (k := 10) (T := TX2) (N := 15) (ty0 := tyX2) (ty := (.array .int)) C hmi V inX2 tyX2_ok nmX2 rfl rfl (by decide) fk_X2_30 rfl (by decide +kernel) rfl rfl (Nat.le_of_ble_eq_true rfl) dX2_init_45 (fun H locs V => ?_)
  have V : zV D cs (va_A [(h0, .inr (1, [.null, .null, .int 0, .int 0, .int 0, .int 0, .int 0, .null, .int 0, .null, .null, .null, .null, .null, .null]))] sz) s [(h0, .inr (1, [.ref q1, .ref q2, .int 0, .int 0, .int 0, .int 0, .int (4194303 : Int32), .ref q3, .int 0, .ref q4, .ref q5, .null, .null, .null, .null])), (q1, .inl (cs 0, 16, .inl fun _ => 0)), (q2, .inl (cs 0, 16, .inl fun _ => 0)), (q3, .inl (cs 0, 6, .inl fun _ => 0)), (q4, .inl (cs 3, 3, .inl fun _ => 0)), (q5, .inl (cs 0, 3, .inl fun _ => 0))] H locs := V
  refine lv_aload_n hx hb dX2_init_48 rfl (lv_at hl 0 rfl) ?_
  refine lv_iconst (v := 3) hx hb dX2_init_49 (by decide) ?_
  refine zi_newa (at_ := .int) (ty := .int) (cB := cs 0) (t0 := 0) (a0 := (3, .inl fun _ => 0)) (n0 := 3) C V rfl (fun _ h => by cases h) rfl ac_I (fun _ => rfl) (by decide) (by decide) (by decide) (Nat.le_of_ble_eq_true rfl) (Nat.le_of_ble_eq_true rfl) dX2_init_50 (fun q6 H V => ?_)
  have V : zV D cs (va_A [(h0, .inr (1, [.null, .null, .int 0, .int 0, .int 0, .int 0, .int 0, .null, .int 0, .null, .null, .null, .null, .null, .null]))] sz) s [(h0, .inr (1, [.ref q1, .ref q2, .int 0, .int 0, .int 0, .int 0, .int (4194303 : Int32), .ref q3, .int 0, .ref q4, .ref q5, .null, .null, .null, .null])), (q1, .inl (cs 0, 16, .inl fun _ => 0)), (q2, .inl (cs 0, 16, .inl fun _ => 0)), (q3, .inl (cs 0, 6, .inl fun _ => 0)), (q4, .inl (cs 3, 3, .inl fun _ => 0)), (q5, .inl (cs 0, 3, .inl fun _ => 0)), (q6, .inl (cs 0, 3, .inl fun _ => 0))] H locs := V
  refine zi_put (q0 := 0) (ci := 1) (k := 11) (T := TX2) (N := 15) (ty0 := tyX2) (ty := (.array .int)) C hmi V inX2 tyX2_ok nmX2 rfl rfl (by decide) fk_X2_33 rfl (by decide +kernel) rfl rfl (Nat.le_of_ble_eq_true rfl) dX2_init_52 (fun H locs V => ?_)
  have V : zV D cs (va_A [(h0, .inr (1, [.null, .null, .int 0, .int 0, .int 0, .int 0, .int 0, .null, .int 0, .null, .null, .null, .null, .null, .null]))] sz) s [(h0, .inr (1, [.ref q1, .ref q2, .int 0, .int 0, .int 0, .int 0, .int (4194303 : Int32), .ref q3, .int 0, .ref q4, .ref q5, .ref q6, .null, .null, .null])), (q1, .inl (cs 0, 16, .inl fun _ => 0)), (q2, .inl (cs 0, 16, .inl fun _ => 0)), (q3, .inl (cs 0, 6, .inl fun _ => 0)), (q4, .inl (cs 3, 3, .inl fun _ => 0)), (q5, .inl (cs 0, 3, .inl fun _ => 0)), (q6, .inl (cs 0, 3, .inl fun _ => 0))] H locs := V
  refine lv_aload_n hx hb dX2_init_55 rfl (lv_at hl 0 rfl) ?_
  refine lv_iconst (v := 3) hx hb dX2_init_56 (by decide) ?_
  refine zi_newa (at_ := .int) (ty := .int) (cB := cs 0) (t0 := 0) (a0 := (3, .inl fun _ => 0)) (n0 := 3) C V rfl (fun _ h => by cases h) rfl ac_I (fun _ => rfl) (by decide) (by decide) (by decide) (Nat.le_of_ble_eq_true rfl) (Nat.le_of_ble_eq_true rfl) dX2_init_57 (fun q7 H V => ?_)
  have V : zV D cs (va_A [(h0, .inr (1, [.null, .null, .int 0, .int 0, .int 0, .int 0, .int 0, .null, .int 0, .null, .null, .null, .null, .null, .null]))] sz) s [(h0, .inr (1, [.ref q1, .ref q2, .int 0, .int 0, .int 0, .int 0, .int (4194303 : Int32), .ref q3, .int 0, .ref q4, .ref q5, .ref q6, .null, .null, .null])), (q1, .inl (cs 0, 16, .inl fun _ => 0)), (q2, .inl (cs 0, 16, .inl fun _ => 0)), (q3, .inl (cs 0, 6, .inl fun _ => 0)), (q4, .inl (cs 3, 3, .inl fun _ => 0)), (q5, .inl (cs 0, 3, .inl fun _ => 0)), (q6, .inl (cs 0, 3, .inl fun _ => 0)), (q7, .inl (cs 0, 3, .inl fun _ => 0))] H locs := V
  refine zi_put (q0 := 0) (ci := 1) (k := 12) (T := TX2) (N := 15) (ty0 := tyX2) (ty := (.array .int)) C hmi V inX2 tyX2_ok nmX2 rfl rfl (by decide) fk_X2_36 rfl (by decide +kernel) rfl rfl (Nat.le_of_ble_eq_true rfl) dX2_init_59 (fun H locs V => ?_)
  have V : zV D cs (va_A [(h0, .inr (1, [.null, .null, .int 0, .int 0, .int 0, .int 0, .int 0, .null, .int 0, .null, .null, .null, .null, .null, .null]))] sz) s [(h0, .inr (1, [.ref q1, .ref q2, .int 0, .int 0, .int 0, .int 0, .int (4194303 : Int32), .ref q3, .int 0, .ref q4, .ref q5, .ref q6, .ref q7, .null, .null])), (q1, .inl (cs 0, 16, .inl fun _ => 0)), (q2, .inl (cs 0, 16, .inl fun _ => 0)), (q3, .inl (cs 0, 6, .inl fun _ => 0)), (q4, .inl (cs 3, 3, .inl fun _ => 0)), (q5, .inl (cs 0, 3, .inl fun _ => 0)), (q6, .inl (cs 0, 3, .inl fun _ => 0)), (q7, .inl (cs 0, 3, .inl fun _ => 0))] H locs := V
  refine lv_aload_n hx hb dX2_init_62 rfl (lv_at hl 0 rfl) ?_
  refine lv_iconst (v := 3) hx hb dX2_init_63 (by decide) ?_
  refine zi_newa (at_ := .int) (ty := .int) (cB := cs 0) (t0 := 0) (a0 := (3, .inl fun _ => 0)) (n0 := 3) C V rfl (fun _ h => by cases h) rfl ac_I (fun _ => rfl) (by decide) (by decide) (by decide) (Nat.le_of_ble_eq_true rfl) (Nat.le_of_ble_eq_true rfl) dX2_init_64 (fun q8 H V => ?_)
  have V : zV D cs (va_A [(h0, .inr (1, [.null, .null, .int 0, .int 0, .int 0, .int 0, .int 0, .null, .int 0, .null, .null, .null, .null, .null, .null]))] sz) s [(h0, .inr (1, [.ref q1, .ref q2, .int 0, .int 0, .int 0, .int 0, .int (4194303 : Int32), .ref q3, .int 0, .ref q4, .ref q5, .ref q6, .ref q7, .null, .null])), (q1, .inl (cs 0, 16, .inl fun _ => 0)), (q2, .inl (cs 0, 16, .inl fun _ => 0)), (q3, .inl (cs 0, 6, .inl fun _ => 0)), (q4, .inl (cs 3, 3, .inl fun _ => 0)), (q5, .inl (cs 0, 3, .inl fun _ => 0)), (q6, .inl (cs 0, 3, .inl fun _ => 0)), (q7, .inl (cs 0, 3, .inl fun _ => 0)), (q8, .inl (cs 0, 3, .inl fun _ => 0))] H locs := V
  refine zi_put (q0 := 0) (ci := 1) (k := 13) (T := TX2) (N := 15) (ty0 := tyX2) (ty := (.array .int)) C hmi V inX2 tyX2_ok nmX2 rfl rfl (by decide) fk_X2_39 rfl (by decide +kernel) rfl rfl (Nat.le_of_ble_eq_true rfl) dX2_init_66 (fun H locs V => ?_)
  have V : zV D cs (va_A [(h0, .inr (1, [.null, .null, .int 0, .int 0, .int 0, .int 0, .int 0, .null, .int 0, .null, .null, .null, .null, .null, .null]))] sz) s [(h0, .inr (1, [.ref q1, .ref q2, .int 0, .int 0, .int 0, .int 0, .int (4194303 : Int32), .ref q3, .int 0, .ref q4, .ref q5, .ref q6, .ref q7, .ref q8, .null])), (q1, .inl (cs 0, 16, .inl fun _ => 0)), (q2, .inl (cs 0, 16, .inl fun _ => 0)), (q3, .inl (cs 0, 6, .inl fun _ => 0)), (q4, .inl (cs 3, 3, .inl fun _ => 0)), (q5, .inl (cs 0, 3, .inl fun _ => 0)), (q6, .inl (cs 0, 3, .inl fun _ => 0)), (q7, .inl (cs 0, 3, .inl fun _ => 0)), (q8, .inl (cs 0, 3, .inl fun _ => 0))] H locs := V
  refine lv_aload_n hx hb dX2_init_69 rfl (lv_at hl 0 rfl) ?_
  refine lv_iconst (v := 3) hx hb dX2_init_70 (by decide) ?_
  refine zi_newa (at_ := .int) (ty := .int) (cB := cs 0) (t0 := 0) (a0 := (3, .inl fun _ => 0)) (n0 := 3) C V rfl (fun _ h => by cases h) rfl ac_I (fun _ => rfl) (by decide) (by decide) (by decide) (Nat.le_of_ble_eq_true rfl) (Nat.le_of_ble_eq_true rfl) dX2_init_71 (fun q9 H V => ?_)
  have V : zV D cs (va_A [(h0, .inr (1, [.null, .null, .int 0, .int 0, .int 0, .int 0, .int 0, .null, .int 0, .null, .null, .null, .null, .null, .null]))] sz) s [(h0, .inr (1, [.ref q1, .ref q2, .int 0, .int 0, .int 0, .int 0, .int (4194303 : Int32), .ref q3, .int 0, .ref q4, .ref q5, .ref q6, .ref q7, .ref q8, .null])), (q1, .inl (cs 0, 16, .inl fun _ => 0)), (q2, .inl (cs 0, 16, .inl fun _ => 0)), (q3, .inl (cs 0, 6, .inl fun _ => 0)), (q4, .inl (cs 3, 3, .inl fun _ => 0)), (q5, .inl (cs 0, 3, .inl fun _ => 0)), (q6, .inl (cs 0, 3, .inl fun _ => 0)), (q7, .inl (cs 0, 3, .inl fun _ => 0)), (q8, .inl (cs 0, 3, .inl fun _ => 0)), (q9, .inl (cs 0, 3, .inl fun _ => 0))] H locs := V
  refine zi_put (q0 := 0) (ci := 1) (k := 14) (T := TX2) (N := 15) (ty0 := tyX2) (ty := (.array .int)) C hmi V inX2 tyX2_ok nmX2 rfl rfl (by decide) fk_X2_42 rfl (by decide +kernel) rfl rfl (Nat.le_of_ble_eq_true rfl) dX2_init_73 (fun H locs V => ?_)
  have V : zV D cs (va_A [(h0, .inr (1, [.null, .null, .int 0, .int 0, .int 0, .int 0, .int 0, .null, .int 0, .null, .null, .null, .null, .null, .null]))] sz) s [(h0, .inr (1, [.ref q1, .ref q2, .int 0, .int 0, .int 0, .int 0, .int (4194303 : Int32), .ref q3, .int 0, .ref q4, .ref q5, .ref q6, .ref q7, .ref q8, .ref q9])), (q1, .inl (cs 0, 16, .inl fun _ => 0)), (q2, .inl (cs 0, 16, .inl fun _ => 0)), (q3, .inl (cs 0, 6, .inl fun _ => 0)), (q4, .inl (cs 3, 3, .inl fun _ => 0)), (q5, .inl (cs 0, 3, .inl fun _ => 0)), (q6, .inl (cs 0, 3, .inl fun _ => 0)), (q7, .inl (cs 0, 3, .inl fun _ => 0)), (q8, .inl (cs 0, 3, .inl fun _ => 0)), (q9, .inl (cs 0, 3, .inl fun _ => 0))] H locs := V
  exact zi_ret C V (fun k => ([q1, q2, q3, q4, q5, q6, q7, q8, q9] : List Nat).getD k 0) [0, 1, 2, 3, 4, 5, 6, 7, 8, 9] rfl (by decide) rfl dX2_init_76
set_option maxRecDepth 100000 in
set_option maxHeartbeats 4000000 in
theorem i_X9_init {l : Launch} {D : va_G} {cs : Nat → Nat} {sz : Nat} (h0  : Nat) : zI l yX9_init cX9_init 1 { frames := 1, cells := 3, slots := 82, locals := 12 } D cs [(h0, .inr (8, [.null, .null, .null, .int 0, .int 0]))] sz [.ref h0] 3 82 (fun u => [(h0, .inr (8, [.ref (u 0), .ref (u 1), .ref (u 2), .int 0, .int 0])), ((u 0), .inl (cs 0, 24, .inl fun _ => 0)), ((u 1), .inl (cs 0, 29, .inl fun _ => 0)), ((u 2), .inl (cs 0, 29, .inl fun _ => 0))]) := by
  refine zi_enter (by decide) rfl (Nat.le_of_ble_eq_true rfl) ?_
  intro p e s m below meth c ls C hmi V hl
  have C : zC p s m [.ref h0].toArray meth c cX9_init 1 RX9 none := C
  obtain ⟨hx, hb, hml, hown, hts, hret, hlk⟩ := id C
  have hl : lv_has ls 1 [(0, .ref h0)] := hl
  refine lv_aload_n hx hb dX9_init_0 rfl (lv_at hl 0 rfl) ?_
  refine zi_obj C lo_X9_3 im_obj cd_obj hl.1 (Nat.le_of_ble_eq_true rfl) (Nat.le_of_ble_eq_true rfl) dX9_init_1 ?_
  refine lv_aload_n hx hb dX9_init_4 rfl (lv_at hl 0 rfl) ?_
  refine lv_bipush (v := 24) hx hb dX9_init_5 (by decide) ?_
  refine zi_newa (at_ := .int) (ty := .int) (cB := cs 0) (t0 := 0) (a0 := (24, .inl fun _ => 0)) (n0 := 24) C V rfl (fun _ h => by cases h) rfl ac_I (fun _ => rfl) (by decide) (by decide) (by decide) (Nat.le_of_ble_eq_true rfl) (Nat.le_of_ble_eq_true rfl) dX9_init_7 (fun q1 H V => ?_)
  have V : zV D cs (va_A [(h0, .inr (8, [.null, .null, .null, .int 0, .int 0]))] sz) s [(h0, .inr (8, [.null, .null, .null, .int 0, .int 0])), (q1, .inl (cs 0, 24, .inl fun _ => 0))] H [] := V
  refine zi_put (q0 := 0) (ci := 8) (k := 0) (T := TX9) (N := 5) (ty0 := tyX9) (ty := (.array .int)) C hmi V inX9 tyX9_ok nmX9 rfl rfl (by decide) fk_X9_9 rfl (by decide +kernel) rfl rfl (Nat.le_of_ble_eq_true rfl) dX9_init_9 (fun H locs V => ?_)
  have V : zV D cs (va_A [(h0, .inr (8, [.null, .null, .null, .int 0, .int 0]))] sz) s [(h0, .inr (8, [.ref q1, .null, .null, .int 0, .int 0])), (q1, .inl (cs 0, 24, .inl fun _ => 0))] H locs := V
  refine lv_aload_n hx hb dX9_init_12 rfl (lv_at hl 0 rfl) ?_
  refine lv_bipush (v := 29) hx hb dX9_init_13 (by decide) ?_
  refine zi_newa (at_ := .int) (ty := .int) (cB := cs 0) (t0 := 0) (a0 := (29, .inl fun _ => 0)) (n0 := 29) C V rfl (fun _ h => by cases h) rfl ac_I (fun _ => rfl) (by decide) (by decide) (by decide) (Nat.le_of_ble_eq_true rfl) (Nat.le_of_ble_eq_true rfl) dX9_init_15 (fun q2 H V => ?_)
  have V : zV D cs (va_A [(h0, .inr (8, [.null, .null, .null, .int 0, .int 0]))] sz) s [(h0, .inr (8, [.ref q1, .null, .null, .int 0, .int 0])), (q1, .inl (cs 0, 24, .inl fun _ => 0)), (q2, .inl (cs 0, 29, .inl fun _ => 0))] H locs := V
  refine zi_put (q0 := 0) (ci := 8) (k := 1) (T := TX9) (N := 5) (ty0 := tyX9) (ty := (.array .int)) C hmi V inX9 tyX9_ok nmX9 rfl rfl (by decide) fk_X9_15 rfl (by decide +kernel) rfl rfl (Nat.le_of_ble_eq_true rfl) dX9_init_17 (fun H locs V => ?_)
  have V : zV D cs (va_A [(h0, .inr (8, [.null, .null, .null, .int 0, .int 0]))] sz) s [(h0, .inr (8, [.ref q1, .ref q2, .null, .int 0, .int 0])), (q1, .inl (cs 0, 24, .inl fun _ => 0)), (q2, .inl (cs 0, 29, .inl fun _ => 0))] H locs := V
  refine lv_aload_n hx hb dX9_init_20 rfl (lv_at hl 0 rfl) ?_
  refine lv_bipush (v := 29) hx hb dX9_init_21 (by decide) ?_
  refine zi_newa (at_ := .int) (ty := .int) (cB := cs 0) (t0 := 0) (a0 := (29, .inl fun _ => 0)) (n0 := 29) C V rfl (fun _ h => by cases h) rfl ac_I (fun _ => rfl) (by decide) (by decide) (by decide) (Nat.le_of_ble_eq_true rfl) (Nat.le_of_ble_eq_true rfl) dX9_init_23 (fun q3 H V => ?_)
  have V : zV D cs (va_A [(h0, .inr (8, [.null, .null, .null, .int 0, .int 0]))] sz) s [(h0, .inr (8, [.ref q1, .ref q2, .null, .int 0, .int 0])), (q1, .inl (cs 0, 24, .inl fun _ => 0)), (q2, .inl (cs 0, 29, .inl fun _ => 0)), (q3, .inl (cs 0, 29, .inl fun _ => 0))] H locs := V
  refine zi_put (q0 := 0) (ci := 8) (k := 2) (T := TX9) (N := 5) (ty0 := tyX9) (ty := (.array .int)) C hmi V inX9 tyX9_ok nmX9 rfl rfl (by decide) fk_X9_18 rfl (by decide +kernel) rfl rfl (Nat.le_of_ble_eq_true rfl) dX9_init_25 (fun H locs V => ?_)
  have V : zV D cs (va_A [(h0, .inr (8, [.null, .null, .null, .int 0, .int 0]))] sz) s [(h0, .inr (8, [.ref q1, .ref q2, .ref q3, .int 0, .int 0])), (q1, .inl (cs 0, 24, .inl fun _ => 0)), (q2, .inl (cs 0, 29, .inl fun _ => 0)), (q3, .inl (cs 0, 29, .inl fun _ => 0))] H locs := V
  exact zi_ret C V (fun k => ([q1, q2, q3] : List Nat).getD k 0) [0, 1, 2, 3] rfl (by decide) rfl dX9_init_28
set_option maxRecDepth 100000 in
set_option maxHeartbeats 4000000 in
theorem i_X1_init {l : Launch} {D : va_G} {cs : Nat → Nat} {sz : Nat} (h0 r1 : Nat) : zI l yX1_init cX1_init 2 { frames := 2, cells := 9, slots := 198, locals := 32 } D cs [(h0, .inr (0, [.null, .null, .null, .null, .int 0, .int 0]))] sz [.ref h0, .ref r1] 9 198 (fun u => [(h0, .inr (0, [.ref r1, .ref (u 0), .ref (u 4), .ref (u 8), .int (-1 : Int32), .int (-1 : Int32)])), ((u 0), .inr (8, [.ref (u 1), .ref (u 2), .ref (u 3), .int 0, .int 0])), ((u 1), .inl (cs 0, 24, .inl fun _ => 0)), ((u 2), .inl (cs 0, 29, .inl fun _ => 0)), ((u 3), .inl (cs 0, 29, .inl fun _ => 0)), ((u 4), .inr (8, [.ref (u 5), .ref (u 6), .ref (u 7), .int 0, .int 0])), ((u 5), .inl (cs 0, 24, .inl fun _ => 0)), ((u 6), .inl (cs 0, 29, .inl fun _ => 0)), ((u 7), .inl (cs 0, 29, .inl fun _ => 0)), ((u 8), .inl (cs 0, 24, .inl fun _ => 0))]) := by
  refine zi_enter (by decide) rfl (Nat.le_of_ble_eq_true rfl) ?_
  intro p e s m below meth c ls C hmi V hl
  have C : zC p s m [.ref h0, .ref r1].toArray meth c cX1_init 2 RX1 none := C
  obtain ⟨hx, hb, hml, hown, hts, hret, hlk⟩ := id C
  have hl : lv_has ls 2 [(0, .ref h0), (1, .ref r1)] := hl
  refine lv_aload_n hx hb dX1_init_0 rfl (lv_at hl 0 rfl) ?_
  refine zi_obj C lo_X1_3 im_obj cd_obj hl.1 (Nat.le_of_ble_eq_true rfl) (Nat.le_of_ble_eq_true rfl) dX1_init_1 ?_
  refine lv_aload_n hx hb dX1_init_4 rfl (lv_at hl 0 rfl) ?_
  refine zi_new (ci := 8) (T := TX9) (N := 5) (ty := tyX9) (fs := [.null, .null, .null, .int 0, .int 0]) C V inX9 tyX9_ok cl_X1_9 in_X9st it_X9 rfl (by decide +kernel) (Nat.le_of_ble_eq_true rfl) (Nat.le_of_ble_eq_true rfl) dX1_init_5 (fun q1 H V => ?_)
  have V : zV D cs (va_A [(h0, .inr (0, [.null, .null, .null, .null, .int 0, .int 0]))] sz) s [(h0, .inr (0, [.null, .null, .null, .null, .int 0, .int 0])), (q1, .inr (8, [.null, .null, .null, .int 0, .int 0]))] H [] := V
  refine lv_dup hx hb dX1_init_8 rfl ?_
  refine zi_call (wr := [(h0, .inr (0, [.null, .null, .null, .null, .int 0, .int 0]))]) (As := []) C V (i_X9_init q1 ) li_X1_11 rfl hl.1 ⟨rfl, rfl⟩ ⟨Nat.le_of_ble_eq_true rfl, Nat.le_of_ble_eq_true rfl⟩ (Nat.le_of_ble_eq_true rfl) ⟨Nat.le_of_ble_eq_true rfl, Nat.le_of_ble_eq_true rfl⟩ rfl dX1_init_9 (fun u1 H locs V => ?_)
  have V : zV D cs (va_A [(h0, .inr (0, [.null, .null, .null, .null, .int 0, .int 0]))] sz) s [(h0, .inr (0, [.null, .null, .null, .null, .int 0, .int 0])), (q1, .inr (8, [.ref (u1 0), .ref (u1 1), .ref (u1 2), .int 0, .int 0])), ((u1 0), .inl (cs 0, 24, .inl fun _ => 0)), ((u1 1), .inl (cs 0, 29, .inl fun _ => 0)), ((u1 2), .inl (cs 0, 29, .inl fun _ => 0))] H locs := V
  refine zi_put (q0 := 0) (ci := 0) (k := 1) (T := TX1) (N := 6) (ty0 := tyX1) (ty := (.object "SomeAreNoneIs$Theory")) C hmi V inX1 tyX1_ok nmX1 rfl rfl (by decide) fk_X1_12 rfl (by decide +kernel) rfl rfl (Nat.le_of_ble_eq_true rfl) dX1_init_12 (fun H locs V => ?_)
  have V : zV D cs (va_A [(h0, .inr (0, [.null, .null, .null, .null, .int 0, .int 0]))] sz) s [(h0, .inr (0, [.null, .ref q1, .null, .null, .int 0, .int 0])), (q1, .inr (8, [.ref (u1 0), .ref (u1 1), .ref (u1 2), .int 0, .int 0])), ((u1 0), .inl (cs 0, 24, .inl fun _ => 0)), ((u1 1), .inl (cs 0, 29, .inl fun _ => 0)), ((u1 2), .inl (cs 0, 29, .inl fun _ => 0))] H locs := V
  refine lv_aload_n hx hb dX1_init_15 rfl (lv_at hl 0 rfl) ?_
  refine zi_new (ci := 8) (T := TX9) (N := 5) (ty := tyX9) (fs := [.null, .null, .null, .int 0, .int 0]) C V inX9 tyX9_ok cl_X1_9 in_X9st it_X9 rfl (by decide +kernel) (Nat.le_of_ble_eq_true rfl) (Nat.le_of_ble_eq_true rfl) dX1_init_16 (fun q2 H V => ?_)
  have V : zV D cs (va_A [(h0, .inr (0, [.null, .null, .null, .null, .int 0, .int 0]))] sz) s [(h0, .inr (0, [.null, .ref q1, .null, .null, .int 0, .int 0])), (q1, .inr (8, [.ref (u1 0), .ref (u1 1), .ref (u1 2), .int 0, .int 0])), ((u1 0), .inl (cs 0, 24, .inl fun _ => 0)), ((u1 1), .inl (cs 0, 29, .inl fun _ => 0)), ((u1 2), .inl (cs 0, 29, .inl fun _ => 0)), (q2, .inr (8, [.null, .null, .null, .int 0, .int 0]))] H locs := V
  refine lv_dup hx hb dX1_init_19 rfl ?_
  refine zi_call (wr := [(h0, .inr (0, [.null, .ref q1, .null, .null, .int 0, .int 0])), (q1, .inr (8, [.ref (u1 0), .ref (u1 1), .ref (u1 2), .int 0, .int 0])), ((u1 0), .inl (cs 0, 24, .inl fun _ => 0)), ((u1 1), .inl (cs 0, 29, .inl fun _ => 0)), ((u1 2), .inl (cs 0, 29, .inl fun _ => 0))]) (As := []) C V (i_X9_init q2 ) li_X1_11 rfl hl.1 ⟨rfl, rfl⟩ ⟨Nat.le_of_ble_eq_true rfl, Nat.le_of_ble_eq_true rfl⟩ (Nat.le_of_ble_eq_true rfl) ⟨Nat.le_of_ble_eq_true rfl, Nat.le_of_ble_eq_true rfl⟩ rfl dX1_init_20 (fun u2 H locs V => ?_)
  have V : zV D cs (va_A [(h0, .inr (0, [.null, .null, .null, .null, .int 0, .int 0]))] sz) s [(h0, .inr (0, [.null, .ref q1, .null, .null, .int 0, .int 0])), (q1, .inr (8, [.ref (u1 0), .ref (u1 1), .ref (u1 2), .int 0, .int 0])), ((u1 0), .inl (cs 0, 24, .inl fun _ => 0)), ((u1 1), .inl (cs 0, 29, .inl fun _ => 0)), ((u1 2), .inl (cs 0, 29, .inl fun _ => 0)), (q2, .inr (8, [.ref (u2 0), .ref (u2 1), .ref (u2 2), .int 0, .int 0])), ((u2 0), .inl (cs 0, 24, .inl fun _ => 0)), ((u2 1), .inl (cs 0, 29, .inl fun _ => 0)), ((u2 2), .inl (cs 0, 29, .inl fun _ => 0))] H locs := V
  refine zi_put (q0 := 0) (ci := 0) (k := 2) (T := TX1) (N := 6) (ty0 := tyX1) (ty := (.object "SomeAreNoneIs$Theory")) C hmi V inX1 tyX1_ok nmX1 rfl rfl (by decide) fk_X1_18 rfl (by decide +kernel) rfl rfl (Nat.le_of_ble_eq_true rfl) dX1_init_23 (fun H locs V => ?_)
  have V : zV D cs (va_A [(h0, .inr (0, [.null, .null, .null, .null, .int 0, .int 0]))] sz) s [(h0, .inr (0, [.null, .ref q1, .ref q2, .null, .int 0, .int 0])), (q1, .inr (8, [.ref (u1 0), .ref (u1 1), .ref (u1 2), .int 0, .int 0])), ((u1 0), .inl (cs 0, 24, .inl fun _ => 0)), ((u1 1), .inl (cs 0, 29, .inl fun _ => 0)), ((u1 2), .inl (cs 0, 29, .inl fun _ => 0)), (q2, .inr (8, [.ref (u2 0), .ref (u2 1), .ref (u2 2), .int 0, .int 0])), ((u2 0), .inl (cs 0, 24, .inl fun _ => 0)), ((u2 1), .inl (cs 0, 29, .inl fun _ => 0)), ((u2 2), .inl (cs 0, 29, .inl fun _ => 0))] H locs := V
  refine lv_aload_n hx hb dX1_init_26 rfl (lv_at hl 0 rfl) ?_
  refine lv_bipush (v := 24) hx hb dX1_init_27 (by decide) ?_
  refine zi_newa (at_ := .int) (ty := .int) (cB := cs 0) (t0 := 0) (a0 := (24, .inl fun _ => 0)) (n0 := 24) C V rfl (fun _ h => by cases h) rfl ac_I (fun _ => rfl) (by decide) (by decide) (by decide) (Nat.le_of_ble_eq_true rfl) (Nat.le_of_ble_eq_true rfl) dX1_init_29 (fun q3 H V => ?_)
  have V : zV D cs (va_A [(h0, .inr (0, [.null, .null, .null, .null, .int 0, .int 0]))] sz) s [(h0, .inr (0, [.null, .ref q1, .ref q2, .null, .int 0, .int 0])), (q1, .inr (8, [.ref (u1 0), .ref (u1 1), .ref (u1 2), .int 0, .int 0])), ((u1 0), .inl (cs 0, 24, .inl fun _ => 0)), ((u1 1), .inl (cs 0, 29, .inl fun _ => 0)), ((u1 2), .inl (cs 0, 29, .inl fun _ => 0)), (q2, .inr (8, [.ref (u2 0), .ref (u2 1), .ref (u2 2), .int 0, .int 0])), ((u2 0), .inl (cs 0, 24, .inl fun _ => 0)), ((u2 1), .inl (cs 0, 29, .inl fun _ => 0)), ((u2 2), .inl (cs 0, 29, .inl fun _ => 0)), (q3, .inl (cs 0, 24, .inl fun _ => 0))] H locs := V
  refine zi_put (q0 := 0) (ci := 0) (k := 3) (T := TX1) (N := 6) (ty0 := tyX1) (ty := (.array .int)) C hmi V inX1 tyX1_ok nmX1 rfl rfl (by decide) fk_X1_21 rfl (by decide +kernel) rfl rfl (Nat.le_of_ble_eq_true rfl) dX1_init_31 (fun H locs V => ?_)
  have V : zV D cs (va_A [(h0, .inr (0, [.null, .null, .null, .null, .int 0, .int 0]))] sz) s [(h0, .inr (0, [.null, .ref q1, .ref q2, .ref q3, .int 0, .int 0])), (q1, .inr (8, [.ref (u1 0), .ref (u1 1), .ref (u1 2), .int 0, .int 0])), ((u1 0), .inl (cs 0, 24, .inl fun _ => 0)), ((u1 1), .inl (cs 0, 29, .inl fun _ => 0)), ((u1 2), .inl (cs 0, 29, .inl fun _ => 0)), (q2, .inr (8, [.ref (u2 0), .ref (u2 1), .ref (u2 2), .int 0, .int 0])), ((u2 0), .inl (cs 0, 24, .inl fun _ => 0)), ((u2 1), .inl (cs 0, 29, .inl fun _ => 0)), ((u2 2), .inl (cs 0, 29, .inl fun _ => 0)), (q3, .inl (cs 0, 24, .inl fun _ => 0))] H locs := V
  refine lv_aload_n hx hb dX1_init_34 rfl (lv_at hl 0 rfl) ?_
  refine lv_iconst (v := -1) hx hb dX1_init_35 (by decide) ?_
  refine zi_put (q0 := 0) (ci := 0) (k := 4) (T := TX1) (N := 6) (ty0 := tyX1) (ty := .int) C hmi V inX1 tyX1_ok nmX1 rfl rfl (by decide) fk_X1_25 rfl (by decide +kernel) rfl rfl (Nat.le_of_ble_eq_true rfl) dX1_init_36 (fun H locs V => ?_)
  have V : zV D cs (va_A [(h0, .inr (0, [.null, .null, .null, .null, .int 0, .int 0]))] sz) s [(h0, .inr (0, [.null, .ref q1, .ref q2, .ref q3, .int (-1 : Int32), .int 0])), (q1, .inr (8, [.ref (u1 0), .ref (u1 1), .ref (u1 2), .int 0, .int 0])), ((u1 0), .inl (cs 0, 24, .inl fun _ => 0)), ((u1 1), .inl (cs 0, 29, .inl fun _ => 0)), ((u1 2), .inl (cs 0, 29, .inl fun _ => 0)), (q2, .inr (8, [.ref (u2 0), .ref (u2 1), .ref (u2 2), .int 0, .int 0])), ((u2 0), .inl (cs 0, 24, .inl fun _ => 0)), ((u2 1), .inl (cs 0, 29, .inl fun _ => 0)), ((u2 2), .inl (cs 0, 29, .inl fun _ => 0)), (q3, .inl (cs 0, 24, .inl fun _ => 0))] H locs := V
  refine lv_aload_n hx hb dX1_init_39 rfl (lv_at hl 0 rfl) ?_
  refine lv_iconst (v := -1) hx hb dX1_init_40 (by decide) ?_
  refine zi_put (q0 := 0) (ci := 0) (k := 5) (T := TX1) (N := 6) (ty0 := tyX1) (ty := .int) C hmi V inX1 tyX1_ok nmX1 rfl rfl (by decide) fk_X1_29 rfl (by decide +kernel) rfl rfl (Nat.le_of_ble_eq_true rfl) dX1_init_41 (fun H locs V => ?_)
  have V : zV D cs (va_A [(h0, .inr (0, [.null, .null, .null, .null, .int 0, .int 0]))] sz) s [(h0, .inr (0, [.null, .ref q1, .ref q2, .ref q3, .int (-1 : Int32), .int (-1 : Int32)])), (q1, .inr (8, [.ref (u1 0), .ref (u1 1), .ref (u1 2), .int 0, .int 0])), ((u1 0), .inl (cs 0, 24, .inl fun _ => 0)), ((u1 1), .inl (cs 0, 29, .inl fun _ => 0)), ((u1 2), .inl (cs 0, 29, .inl fun _ => 0)), (q2, .inr (8, [.ref (u2 0), .ref (u2 1), .ref (u2 2), .int 0, .int 0])), ((u2 0), .inl (cs 0, 24, .inl fun _ => 0)), ((u2 1), .inl (cs 0, 29, .inl fun _ => 0)), ((u2 2), .inl (cs 0, 29, .inl fun _ => 0)), (q3, .inl (cs 0, 24, .inl fun _ => 0))] H locs := V
  refine lv_aload_n hx hb dX1_init_44 rfl (lv_at hl 0 rfl) ?_
  refine lv_aload_n hx hb dX1_init_45 rfl (lv_at hl 1 rfl) ?_
  refine zi_put (q0 := 0) (ci := 0) (k := 0) (T := TX1) (N := 6) (ty0 := tyX1) (ty := (.object "SomeAreNoneIs$Docket")) C hmi V inX1 tyX1_ok nmX1 rfl rfl (by decide) fk_X1_32 rfl (by decide +kernel) rfl rfl (Nat.le_of_ble_eq_true rfl) dX1_init_46 (fun H locs V => ?_)
  have V : zV D cs (va_A [(h0, .inr (0, [.null, .null, .null, .null, .int 0, .int 0]))] sz) s [(h0, .inr (0, [.ref r1, .ref q1, .ref q2, .ref q3, .int (-1 : Int32), .int (-1 : Int32)])), (q1, .inr (8, [.ref (u1 0), .ref (u1 1), .ref (u1 2), .int 0, .int 0])), ((u1 0), .inl (cs 0, 24, .inl fun _ => 0)), ((u1 1), .inl (cs 0, 29, .inl fun _ => 0)), ((u1 2), .inl (cs 0, 29, .inl fun _ => 0)), (q2, .inr (8, [.ref (u2 0), .ref (u2 1), .ref (u2 2), .int 0, .int 0])), ((u2 0), .inl (cs 0, 24, .inl fun _ => 0)), ((u2 1), .inl (cs 0, 29, .inl fun _ => 0)), ((u2 2), .inl (cs 0, 29, .inl fun _ => 0)), (q3, .inl (cs 0, 24, .inl fun _ => 0))] H locs := V
  exact zi_ret C V (fun k => ([q1, (u1 0), (u1 1), (u1 2), q2, (u2 0), (u2 1), (u2 2), q3] : List Nat).getD k 0) [0, 1, 2, 3, 4, 5, 6, 7, 8, 9] rfl (by decide) rfl dX1_init_49
set_option maxRecDepth 100000 in
set_option maxHeartbeats 4000000 in
theorem i_X7_init {l : Launch} {D : va_G} {cs : Nat → Nat} {sz : Nat} (h0 r1 : Nat) : zI l yX7_init cX7_init 2 { frames := 1, cells := 1, slots := 64, locals := 12 } D cs [(h0, .inr (6, [.null, .null, .int 0, .int 0, .int 0]))] sz [.ref h0, .ref r1] 1 64 (fun u => [(h0, .inr (6, [.ref r1, .ref (u 0), .int 0, .int (-1 : Int32), .int (-1 : Int32)])), ((u 0), .inl (cs 4, 64, .inr (.inl fun _ => 0)))]) := by
  refine zi_enter (by decide) rfl (Nat.le_of_ble_eq_true rfl) ?_
  intro p e s m below meth c ls C hmi V hl
  have C : zC p s m [.ref h0, .ref r1].toArray meth c cX7_init 2 RX7 none := C
  obtain ⟨hx, hb, hml, hown, hts, hret, hlk⟩ := id C
  have hl : lv_has ls 2 [(0, .ref h0), (1, .ref r1)] := hl
  refine lv_aload_n hx hb dX7_init_0 rfl (lv_at hl 0 rfl) ?_
  refine zi_obj C lo_X7_3 im_obj cd_obj hl.1 (Nat.le_of_ble_eq_true rfl) (Nat.le_of_ble_eq_true rfl) dX7_init_1 ?_
  refine lv_aload_n hx hb dX7_init_4 rfl (lv_at hl 0 rfl) ?_
  refine lv_bipush (v := 64) hx hb dX7_init_5 (by decide) ?_
  refine zi_newa (at_ := .long) (ty := .long) (cB := cs 4) (t0 := 4) (a0 := (64, .inr (.inl fun _ => 0))) (n0 := 64) C V rfl (fun _ h => by cases h) rfl ac_J (fun _ => rfl) (by decide) (by decide) (by decide) (Nat.le_of_ble_eq_true rfl) (Nat.le_of_ble_eq_true rfl) dX7_init_7 (fun q1 H V => ?_)
  have V : zV D cs (va_A [(h0, .inr (6, [.null, .null, .int 0, .int 0, .int 0]))] sz) s [(h0, .inr (6, [.null, .null, .int 0, .int 0, .int 0])), (q1, .inl (cs 4, 64, .inr (.inl fun _ => 0)))] H [] := V
  refine zi_put (q0 := 0) (ci := 6) (k := 1) (T := TX7) (N := 5) (ty0 := tyX7) (ty := (.array .long)) C hmi V inX7 tyX7_ok nmX7 rfl rfl (by decide) fk_X7_11 rfl (by decide +kernel) rfl rfl (Nat.le_of_ble_eq_true rfl) dX7_init_9 (fun H locs V => ?_)
  have V : zV D cs (va_A [(h0, .inr (6, [.null, .null, .int 0, .int 0, .int 0]))] sz) s [(h0, .inr (6, [.null, .ref q1, .int 0, .int 0, .int 0])), (q1, .inl (cs 4, 64, .inr (.inl fun _ => 0)))] H locs := V
  refine lv_aload_n hx hb dX7_init_12 rfl (lv_at hl 0 rfl) ?_
  refine lv_iconst (v := -1) hx hb dX7_init_13 (by decide) ?_
  refine zi_put (q0 := 0) (ci := 6) (k := 3) (T := TX7) (N := 5) (ty0 := tyX7) (ty := .int) C hmi V inX7 tyX7_ok nmX7 rfl rfl (by decide) fk_X7_15 rfl (by decide +kernel) rfl rfl (Nat.le_of_ble_eq_true rfl) dX7_init_14 (fun H locs V => ?_)
  have V : zV D cs (va_A [(h0, .inr (6, [.null, .null, .int 0, .int 0, .int 0]))] sz) s [(h0, .inr (6, [.null, .ref q1, .int 0, .int (-1 : Int32), .int 0])), (q1, .inl (cs 4, 64, .inr (.inl fun _ => 0)))] H locs := V
  refine lv_aload_n hx hb dX7_init_17 rfl (lv_at hl 0 rfl) ?_
  refine lv_iconst (v := -1) hx hb dX7_init_18 (by decide) ?_
  refine zi_put (q0 := 0) (ci := 6) (k := 4) (T := TX7) (N := 5) (ty0 := tyX7) (ty := .int) C hmi V inX7 tyX7_ok nmX7 rfl rfl (by decide) fk_X7_19 rfl (by decide +kernel) rfl rfl (Nat.le_of_ble_eq_true rfl) dX7_init_19 (fun H locs V => ?_)
  have V : zV D cs (va_A [(h0, .inr (6, [.null, .null, .int 0, .int 0, .int 0]))] sz) s [(h0, .inr (6, [.null, .ref q1, .int 0, .int (-1 : Int32), .int (-1 : Int32)])), (q1, .inl (cs 4, 64, .inr (.inl fun _ => 0)))] H locs := V
  refine lv_aload_n hx hb dX7_init_22 rfl (lv_at hl 0 rfl) ?_
  refine lv_aload_n hx hb dX7_init_23 rfl (lv_at hl 1 rfl) ?_
  refine zi_put (q0 := 0) (ci := 6) (k := 0) (T := TX7) (N := 5) (ty0 := tyX7) (ty := (.object "SomeAreNoneIs$Docket")) C hmi V inX7 tyX7_ok nmX7 rfl rfl (by decide) fk_X7_22 rfl (by decide +kernel) rfl rfl (Nat.le_of_ble_eq_true rfl) dX7_init_24 (fun H locs V => ?_)
  have V : zV D cs (va_A [(h0, .inr (6, [.null, .null, .int 0, .int 0, .int 0]))] sz) s [(h0, .inr (6, [.ref r1, .ref q1, .int 0, .int (-1 : Int32), .int (-1 : Int32)])), (q1, .inl (cs 4, 64, .inr (.inl fun _ => 0)))] H locs := V
  exact zi_ret C V (fun k => ([q1] : List Nat).getD k 0) [0, 1] rfl (by decide) rfl dX7_init_27
set_option maxRecDepth 100000 in
set_option maxHeartbeats 4000000 in
theorem i_X8_init {l : Launch} {D : va_G} {cs : Nat → Nat} {sz : Nat} (h0  : Nat) : zI l yX8_init cX8_init 1 { frames := 1, cells := 1, slots := 80, locals := 12 } D cs [(h0, .inr (7, [.null, .int 0, .int 0]))] sz [.ref h0] 1 80 (fun u => [(h0, .inr (7, [.ref (u 0), .int 0, .int 0])), ((u 0), .inl (cs 1, 80, .inl fun _ => 0))]) := by
  refine zi_enter (by decide) rfl (Nat.le_of_ble_eq_true rfl) ?_
  intro p e s m below meth c ls C hmi V hl
  have C : zC p s m [.ref h0].toArray meth c cX8_init 1 RX8 none := C
  obtain ⟨hx, hb, hml, hown, hts, hret, hlk⟩ := id C
  have hl : lv_has ls 1 [(0, .ref h0)] := hl
  refine lv_aload_n hx hb dX8_init_0 rfl (lv_at hl 0 rfl) ?_
  refine zi_obj C lo_X8_3 im_obj cd_obj hl.1 (Nat.le_of_ble_eq_true rfl) (Nat.le_of_ble_eq_true rfl) dX8_init_1 ?_
  refine lv_aload_n hx hb dX8_init_4 rfl (lv_at hl 0 rfl) ?_
  refine lv_bipush (v := 80) hx hb dX8_init_5 (by decide) ?_
  refine zi_newa (at_ := .char) (ty := .char) (cB := cs 1) (t0 := 1) (a0 := (80, .inl fun _ => 0)) (n0 := 80) C V rfl (fun _ h => by cases h) rfl ac_C (fun _ => rfl) (by decide) (by decide) (by decide) (Nat.le_of_ble_eq_true rfl) (Nat.le_of_ble_eq_true rfl) dX8_init_7 (fun q1 H V => ?_)
  have V : zV D cs (va_A [(h0, .inr (7, [.null, .int 0, .int 0]))] sz) s [(h0, .inr (7, [.null, .int 0, .int 0])), (q1, .inl (cs 1, 80, .inl fun _ => 0))] H [] := V
  refine zi_put (q0 := 0) (ci := 7) (k := 0) (T := TX8) (N := 3) (ty0 := tyX8) (ty := (.array .char)) C hmi V inX8 tyX8_ok nmX8 rfl rfl (by decide) fk_X8_11 rfl (by decide +kernel) rfl rfl (Nat.le_of_ble_eq_true rfl) dX8_init_9 (fun H locs V => ?_)
  have V : zV D cs (va_A [(h0, .inr (7, [.null, .int 0, .int 0]))] sz) s [(h0, .inr (7, [.ref q1, .int 0, .int 0])), (q1, .inl (cs 1, 80, .inl fun _ => 0))] H locs := V
  exact zi_ret C V (fun k => ([q1] : List Nat).getD k 0) [0, 1] rfl (by decide) rfl dX8_init_12
set_option maxRecDepth 100000 in
set_option maxHeartbeats 4000000 in
theorem i_X6_init {l : Launch} {D : va_G} {cs : Nat → Nat} {sz : Nat} (h0 r1 r2 : Nat) : zI l yX6_init cX6_init 3 { frames := 1, cells := 0, slots := 0, locals := 12 } D cs [(h0, .inr (5, [.null, .null, .int 0, .int 0, .int 0, .int 0]))] sz [.ref h0, .ref r1, .ref r2] 0 0 (fun u => [(h0, .inr (5, [.ref r1, .ref r2, .int 0, .int 0, .int 0, .int 0]))]) := by
  refine zi_enter (by decide) rfl (Nat.le_of_ble_eq_true rfl) ?_
  intro p e s m below meth c ls C hmi V hl
  have C : zC p s m [.ref h0, .ref r1, .ref r2].toArray meth c cX6_init 3 RX6 none := C
  obtain ⟨hx, hb, hml, hown, hts, hret, hlk⟩ := id C
  have hl : lv_has ls 3 [(0, .ref h0), (1, .ref r1), (2, .ref r2)] := hl
  refine lv_aload_n hx hb dX6_init_0 rfl (lv_at hl 0 rfl) ?_
  refine zi_obj C lo_X6_3 im_obj cd_obj hl.1 (Nat.le_of_ble_eq_true rfl) (Nat.le_of_ble_eq_true rfl) dX6_init_1 ?_
  refine lv_aload_n hx hb dX6_init_4 rfl (lv_at hl 0 rfl) ?_
  refine lv_aload_n hx hb dX6_init_5 rfl (lv_at hl 1 rfl) ?_
  refine zi_put (q0 := 0) (ci := 5) (k := 0) (T := TX6) (N := 6) (ty0 := tyX6) (ty := (.object "SomeAreNoneIs$Docket")) C hmi V inX6 tyX6_ok nmX6 rfl rfl (by decide) fk_X6_9 rfl (by decide +kernel) rfl rfl (Nat.le_of_ble_eq_true rfl) dX6_init_6 (fun H locs V => ?_)
  have V : zV D cs (va_A [(h0, .inr (5, [.null, .null, .int 0, .int 0, .int 0, .int 0]))] sz) s [(h0, .inr (5, [.ref r1, .null, .int 0, .int 0, .int 0, .int 0]))] H locs := V
  refine lv_aload_n hx hb dX6_init_9 rfl (lv_at hl 0 rfl) ?_
  refine lv_aload_n hx hb dX6_init_10 rfl (lv_at hl 2 rfl) ?_
  refine zi_put (q0 := 0) (ci := 5) (k := 1) (T := TX6) (N := 6) (ty0 := tyX6) (ty := (.object "SomeAreNoneIs$Court")) C hmi V inX6 tyX6_ok nmX6 rfl rfl (by decide) fk_X6_15 rfl (by decide +kernel) rfl rfl (Nat.le_of_ble_eq_true rfl) dX6_init_11 (fun H locs V => ?_)
  have V : zV D cs (va_A [(h0, .inr (5, [.null, .null, .int 0, .int 0, .int 0, .int 0]))] sz) s [(h0, .inr (5, [.ref r1, .ref r2, .int 0, .int 0, .int 0, .int 0]))] H locs := V
  exact zi_ret C V (fun k => ([] : List Nat).getD k 0) [0] rfl (by decide) rfl dX6_init_14
set_option maxRecDepth 100000 in
set_option maxHeartbeats 4000000 in
theorem i_X10_init {l : Launch} {D : va_G} {cs : Nat → Nat} {sz : Nat} (h0 r1 r2 r3 : Nat) : zI l yX10_init cX10_init 4 { frames := 1, cells := 3, slots := 4120, locals := 12 } D cs [(h0, .inr (9, [.null, .null, .null, .null, .null, .null]))] sz [.ref h0, .ref r1, .ref r2, .ref r3] 3 4120 (fun u => [(h0, .inr (9, [.ref r1, .ref r2, .ref r3, .ref (u 0), .ref (u 1), .ref (u 2)])), ((u 0), .inl (cs 0, 12, .inl fun _ => 0)), ((u 1), .inl (cs 0, 12, .inl fun _ => 0)), ((u 2), .inl (cs 2, 4096, .inl fun _ => 0))]) := by
  refine zi_enter (by decide) rfl (Nat.le_of_ble_eq_true rfl) ?_
  intro p e s m below meth c ls C hmi V hl
  have C : zC p s m [.ref h0, .ref r1, .ref r2, .ref r3].toArray meth c cX10_init 4 RX10 none := C
  obtain ⟨hx, hb, hml, hown, hts, hret, hlk⟩ := id C
  have hl : lv_has ls 4 [(0, .ref h0), (1, .ref r1), (2, .ref r2), (3, .ref r3)] := hl
  refine lv_aload_n hx hb dX10_init_0 rfl (lv_at hl 0 rfl) ?_
  refine zi_obj C lo_X10_3 im_obj cd_obj hl.1 (Nat.le_of_ble_eq_true rfl) (Nat.le_of_ble_eq_true rfl) dX10_init_1 ?_
  refine lv_aload_n hx hb dX10_init_4 rfl (lv_at hl 0 rfl) ?_
  refine lv_bipush (v := 12) hx hb dX10_init_5 (by decide) ?_
  refine zi_newa (at_ := .int) (ty := .int) (cB := cs 0) (t0 := 0) (a0 := (12, .inl fun _ => 0)) (n0 := 12) C V rfl (fun _ h => by cases h) rfl ac_I (fun _ => rfl) (by decide) (by decide) (by decide) (Nat.le_of_ble_eq_true rfl) (Nat.le_of_ble_eq_true rfl) dX10_init_7 (fun q1 H V => ?_)
  have V : zV D cs (va_A [(h0, .inr (9, [.null, .null, .null, .null, .null, .null]))] sz) s [(h0, .inr (9, [.null, .null, .null, .null, .null, .null])), (q1, .inl (cs 0, 12, .inl fun _ => 0))] H [] := V
  refine zi_put (q0 := 0) (ci := 9) (k := 3) (T := TX10) (N := 6) (ty0 := tyX10) (ty := (.array .int)) C hmi V inX10 tyX10_ok nmX10 rfl rfl (by decide) fk_X10_9 rfl (by decide +kernel) rfl rfl (Nat.le_of_ble_eq_true rfl) dX10_init_9 (fun H locs V => ?_)
  have V : zV D cs (va_A [(h0, .inr (9, [.null, .null, .null, .null, .null, .null]))] sz) s [(h0, .inr (9, [.null, .null, .null, .ref q1, .null, .null])), (q1, .inl (cs 0, 12, .inl fun _ => 0))] H locs := V
  refine lv_aload_n hx hb dX10_init_12 rfl (lv_at hl 0 rfl) ?_
  refine lv_bipush (v := 12) hx hb dX10_init_13 (by decide) ?_
  refine zi_newa (at_ := .int) (ty := .int) (cB := cs 0) (t0 := 0) (a0 := (12, .inl fun _ => 0)) (n0 := 12) C V rfl (fun _ h => by cases h) rfl ac_I (fun _ => rfl) (by decide) (by decide) (by decide) (Nat.le_of_ble_eq_true rfl) (Nat.le_of_ble_eq_true rfl) dX10_init_15 (fun q2 H V => ?_)
  have V : zV D cs (va_A [(h0, .inr (9, [.null, .null, .null, .null, .null, .null]))] sz) s [(h0, .inr (9, [.null, .null, .null, .ref q1, .null, .null])), (q1, .inl (cs 0, 12, .inl fun _ => 0)), (q2, .inl (cs 0, 12, .inl fun _ => 0))] H locs := V
  refine zi_put (q0 := 0) (ci := 9) (k := 4) (T := TX10) (N := 6) (ty0 := tyX10) (ty := (.array .int)) C hmi V inX10 tyX10_ok nmX10 rfl rfl (by decide) fk_X10_15 rfl (by decide +kernel) rfl rfl (Nat.le_of_ble_eq_true rfl) dX10_init_17 (fun H locs V => ?_)
  have V : zV D cs (va_A [(h0, .inr (9, [.null, .null, .null, .null, .null, .null]))] sz) s [(h0, .inr (9, [.null, .null, .null, .ref q1, .ref q2, .null])), (q1, .inl (cs 0, 12, .inl fun _ => 0)), (q2, .inl (cs 0, 12, .inl fun _ => 0))] H locs := V
  refine lv_aload_n hx hb dX10_init_20 rfl (lv_at hl 0 rfl) ?_
  refine lv_sipush (v := 4096) hx hb dX10_init_21 (by decide) ?_
  refine zi_newa (at_ := .byte) (ty := .byte) (cB := cs 2) (t0 := 2) (a0 := (4096, .inl fun _ => 0)) (n0 := 4096) C V rfl (fun _ h => by cases h) rfl ac_B (fun _ => rfl) (by decide) (by decide) (by decide) (Nat.le_of_ble_eq_true rfl) (Nat.le_of_ble_eq_true rfl) dX10_init_24 (fun q3 H V => ?_)
  have V : zV D cs (va_A [(h0, .inr (9, [.null, .null, .null, .null, .null, .null]))] sz) s [(h0, .inr (9, [.null, .null, .null, .ref q1, .ref q2, .null])), (q1, .inl (cs 0, 12, .inl fun _ => 0)), (q2, .inl (cs 0, 12, .inl fun _ => 0)), (q3, .inl (cs 2, 4096, .inl fun _ => 0))] H locs := V
  refine zi_put (q0 := 0) (ci := 9) (k := 5) (T := TX10) (N := 6) (ty0 := tyX10) (ty := (.array .byte)) C hmi V inX10 tyX10_ok nmX10 rfl rfl (by decide) fk_X10_18 rfl (by decide +kernel) rfl rfl (Nat.le_of_ble_eq_true rfl) dX10_init_26 (fun H locs V => ?_)
  have V : zV D cs (va_A [(h0, .inr (9, [.null, .null, .null, .null, .null, .null]))] sz) s [(h0, .inr (9, [.null, .null, .null, .ref q1, .ref q2, .ref q3])), (q1, .inl (cs 0, 12, .inl fun _ => 0)), (q2, .inl (cs 0, 12, .inl fun _ => 0)), (q3, .inl (cs 2, 4096, .inl fun _ => 0))] H locs := V
  refine lv_aload_n hx hb dX10_init_29 rfl (lv_at hl 0 rfl) ?_
  refine lv_aload_n hx hb dX10_init_30 rfl (lv_at hl 1 rfl) ?_
  refine zi_put (q0 := 0) (ci := 9) (k := 0) (T := TX10) (N := 6) (ty0 := tyX10) (ty := (.object "SomeAreNoneIs$Docket")) C hmi V inX10 tyX10_ok nmX10 rfl rfl (by decide) fk_X10_22 rfl (by decide +kernel) rfl rfl (Nat.le_of_ble_eq_true rfl) dX10_init_31 (fun H locs V => ?_)
  have V : zV D cs (va_A [(h0, .inr (9, [.null, .null, .null, .null, .null, .null]))] sz) s [(h0, .inr (9, [.ref r1, .null, .null, .ref q1, .ref q2, .ref q3])), (q1, .inl (cs 0, 12, .inl fun _ => 0)), (q2, .inl (cs 0, 12, .inl fun _ => 0)), (q3, .inl (cs 2, 4096, .inl fun _ => 0))] H locs := V
  refine lv_aload_n hx hb dX10_init_34 rfl (lv_at hl 0 rfl) ?_
  refine lv_aload_n hx hb dX10_init_35 rfl (lv_at hl 2 rfl) ?_
  refine zi_put (q0 := 0) (ci := 9) (k := 1) (T := TX10) (N := 6) (ty0 := tyX10) (ty := (.object "SomeAreNoneIs$Court")) C hmi V inX10 tyX10_ok nmX10 rfl rfl (by decide) fk_X10_26 rfl (by decide +kernel) rfl rfl (Nat.le_of_ble_eq_true rfl) dX10_init_36 (fun H locs V => ?_)
  have V : zV D cs (va_A [(h0, .inr (9, [.null, .null, .null, .null, .null, .null]))] sz) s [(h0, .inr (9, [.ref r1, .ref r2, .null, .ref q1, .ref q2, .ref q3])), (q1, .inl (cs 0, 12, .inl fun _ => 0)), (q2, .inl (cs 0, 12, .inl fun _ => 0)), (q3, .inl (cs 2, 4096, .inl fun _ => 0))] H locs := V
  refine lv_aload_n hx hb dX10_init_39 rfl (lv_at hl 0 rfl) ?_
  refine lv_aload_n hx hb dX10_init_40 rfl (lv_at hl 3 rfl) ?_
  refine zi_put (q0 := 0) (ci := 9) (k := 2) (T := TX10) (N := 6) (ty0 := tyX10) (ty := (.object "SomeAreNoneIs$Sorts")) C hmi V inX10 tyX10_ok nmX10 rfl rfl (by decide) fk_X10_30 rfl (by decide +kernel) rfl rfl (Nat.le_of_ble_eq_true rfl) dX10_init_41 (fun H locs V => ?_)
  have V : zV D cs (va_A [(h0, .inr (9, [.null, .null, .null, .null, .null, .null]))] sz) s [(h0, .inr (9, [.ref r1, .ref r2, .ref r3, .ref q1, .ref q2, .ref q3])), (q1, .inl (cs 0, 12, .inl fun _ => 0)), (q2, .inl (cs 0, 12, .inl fun _ => 0)), (q3, .inl (cs 2, 4096, .inl fun _ => 0))] H locs := V
  exact zi_ret C V (fun k => ([q1, q2, q3] : List Nat).getD k 0) [0, 1, 2, 3] rfl (by decide) rfl dX10_init_44
set_option maxRecDepth 100000 in
set_option maxHeartbeats 4000000 in
theorem i_X4_init {l : Launch} {D : va_G} {cs : Nat → Nat} {sz : Nat} (h0  : Nat) : zI l yX4_init cX4_init 1 { frames := 2, cells := 4, slots := 87, locals := 32 } D cs [(h0, .inr (3, [.null]))] sz [.ref h0] 4 87 (fun u => [(h0, .inr (3, [.ref (u 0)])), ((u 0), .inr (8, [.ref (u 1), .ref (u 2), .ref (u 3), .int 0, .int 0])), ((u 1), .inl (cs 0, 24, .inl fun _ => 0)), ((u 2), .inl (cs 0, 29, .inl fun _ => 0)), ((u 3), .inl (cs 0, 29, .inl fun _ => 0))]) := by
  refine zi_enter (by decide) rfl (Nat.le_of_ble_eq_true rfl) ?_
  intro p e s m below meth c ls C hmi V hl
  have C : zC p s m [.ref h0].toArray meth c cX4_init 1 RX4 none := C
  obtain ⟨hx, hb, hml, hown, hts, hret, hlk⟩ := id C
  have hl : lv_has ls 1 [(0, .ref h0)] := hl
  refine lv_aload_n hx hb dX4_init_0 rfl (lv_at hl 0 rfl) ?_
  refine zi_obj C lo_X4_3 im_obj cd_obj hl.1 (Nat.le_of_ble_eq_true rfl) (Nat.le_of_ble_eq_true rfl) dX4_init_1 ?_
  refine lv_aload_n hx hb dX4_init_4 rfl (lv_at hl 0 rfl) ?_
  refine zi_new (ci := 8) (T := TX9) (N := 5) (ty := tyX9) (fs := [.null, .null, .null, .int 0, .int 0]) C V inX9 tyX9_ok cl_X4_9 in_X9st it_X9 rfl (by decide +kernel) (Nat.le_of_ble_eq_true rfl) (Nat.le_of_ble_eq_true rfl) dX4_init_5 (fun q1 H V => ?_)
  have V : zV D cs (va_A [(h0, .inr (3, [.null]))] sz) s [(h0, .inr (3, [.null])), (q1, .inr (8, [.null, .null, .null, .int 0, .int 0]))] H [] := V
  refine lv_dup hx hb dX4_init_8 rfl ?_
  refine zi_call (wr := [(h0, .inr (3, [.null]))]) (As := []) C V (i_X9_init q1 ) li_X4_11 rfl hl.1 ⟨rfl, rfl⟩ ⟨Nat.le_of_ble_eq_true rfl, Nat.le_of_ble_eq_true rfl⟩ (Nat.le_of_ble_eq_true rfl) ⟨Nat.le_of_ble_eq_true rfl, Nat.le_of_ble_eq_true rfl⟩ rfl dX4_init_9 (fun u1 H locs V => ?_)
  have V : zV D cs (va_A [(h0, .inr (3, [.null]))] sz) s [(h0, .inr (3, [.null])), (q1, .inr (8, [.ref (u1 0), .ref (u1 1), .ref (u1 2), .int 0, .int 0])), ((u1 0), .inl (cs 0, 24, .inl fun _ => 0)), ((u1 1), .inl (cs 0, 29, .inl fun _ => 0)), ((u1 2), .inl (cs 0, 29, .inl fun _ => 0))] H locs := V
  refine zi_put (q0 := 0) (ci := 3) (k := 0) (T := TX4) (N := 1) (ty0 := tyX4) (ty := (.object "SomeAreNoneIs$Theory")) C hmi V inX4 tyX4_ok nmX4 rfl rfl (by decide) fk_X4_12 rfl (by decide +kernel) rfl rfl (Nat.le_of_ble_eq_true rfl) dX4_init_12 (fun H locs V => ?_)
  have V : zV D cs (va_A [(h0, .inr (3, [.null]))] sz) s [(h0, .inr (3, [.ref q1])), (q1, .inr (8, [.ref (u1 0), .ref (u1 1), .ref (u1 2), .int 0, .int 0])), ((u1 0), .inl (cs 0, 24, .inl fun _ => 0)), ((u1 1), .inl (cs 0, 29, .inl fun _ => 0)), ((u1 2), .inl (cs 0, 29, .inl fun _ => 0))] H locs := V
  exact zi_ret C V (fun k => ([q1, (u1 0), (u1 1), (u1 2)] : List Nat).getD k 0) [0, 1, 2, 3, 4] rfl (by decide) rfl dX4_init_15
set_option maxRecDepth 100000 in
set_option maxHeartbeats 4000000 in
theorem i_X5_init {l : Launch} {D : va_G} {cs : Nat → Nat} {sz : Nat} (h0 r1 : Nat) : zI l yX5_init cX5_init 2 { frames := 1, cells := 5, slots := 7104, locals := 12 } D cs [(h0, .inr (4, [.null, .null, .null, .null, .null, .null, .int 0, .int 0, .int 0, .int 0, .int 0, .int 0, .int 0, .int 0, .int 0, .int 0, .int 0, .int 0]))] sz [.ref h0, .ref r1] 5 7104 (fun u => [(h0, .inr (4, [.ref r1, .ref (u 0), .ref (u 1), .ref (u 2), .ref (u 3), .ref (u 4), .int 0, .int 0, .int 0, .int (-1 : Int32), .int 0, .int 0, .int 0, .int 0, .int 0, .int 0, .int 0, .int 0])), ((u 0), .inl (cs 0, 2304, .inl fun _ => 0)), ((u 1), .inl (cs 0, 2304, .inl fun _ => 0)), ((u 2), .inl (cs 0, 96, .inl fun _ => 0)), ((u 3), .inl (cs 0, 96, .inl fun _ => 0)), ((u 4), .inl (cs 0, 2304, .inl fun _ => 0))]) := by
  refine zi_enter (by decide) rfl (Nat.le_of_ble_eq_true rfl) ?_
  intro p e s m below meth c ls C hmi V hl
  have C : zC p s m [.ref h0, .ref r1].toArray meth c cX5_init 2 RX5 none := C
  obtain ⟨hx, hb, hml, hown, hts, hret, hlk⟩ := id C
  have hl : lv_has ls 2 [(0, .ref h0), (1, .ref r1)] := hl
  refine lv_aload_n hx hb dX5_init_0 rfl (lv_at hl 0 rfl) ?_
  refine zi_obj C lo_X5_3 im_obj cd_obj hl.1 (Nat.le_of_ble_eq_true rfl) (Nat.le_of_ble_eq_true rfl) dX5_init_1 ?_
  refine lv_aload_n hx hb dX5_init_4 rfl (lv_at hl 0 rfl) ?_
  refine lv_sipush (v := 2304) hx hb dX5_init_5 (by decide) ?_
  refine zi_newa (at_ := .int) (ty := .int) (cB := cs 0) (t0 := 0) (a0 := (2304, .inl fun _ => 0)) (n0 := 2304) C V rfl (fun _ h => by cases h) rfl ac_I (fun _ => rfl) (by decide) (by decide) (by decide) (Nat.le_of_ble_eq_true rfl) (Nat.le_of_ble_eq_true rfl) dX5_init_8 (fun q1 H V => ?_)
  have V : zV D cs (va_A [(h0, .inr (4, [.null, .null, .null, .null, .null, .null, .int 0, .int 0, .int 0, .int 0, .int 0, .int 0, .int 0, .int 0, .int 0, .int 0, .int 0, .int 0]))] sz) s [(h0, .inr (4, [.null, .null, .null, .null, .null, .null, .int 0, .int 0, .int 0, .int 0, .int 0, .int 0, .int 0, .int 0, .int 0, .int 0, .int 0, .int 0])), (q1, .inl (cs 0, 2304, .inl fun _ => 0))] H [] := V
  refine zi_put (q0 := 0) (ci := 4) (k := 1) (T := TX5) (N := 18) (ty0 := tyX5) (ty := (.array .int)) C hmi V inX5 tyX5_ok nmX5 rfl rfl (by decide) fk_X5_9 rfl (by decide +kernel) rfl rfl (Nat.le_of_ble_eq_true rfl) dX5_init_10 (fun H locs V => ?_)
  have V : zV D cs (va_A [(h0, .inr (4, [.null, .null, .null, .null, .null, .null, .int 0, .int 0, .int 0, .int 0, .int 0, .int 0, .int 0, .int 0, .int 0, .int 0, .int 0, .int 0]))] sz) s [(h0, .inr (4, [.null, .ref q1, .null, .null, .null, .null, .int 0, .int 0, .int 0, .int 0, .int 0, .int 0, .int 0, .int 0, .int 0, .int 0, .int 0, .int 0])), (q1, .inl (cs 0, 2304, .inl fun _ => 0))] H locs := V
  refine lv_aload_n hx hb dX5_init_13 rfl (lv_at hl 0 rfl) ?_
  refine lv_sipush (v := 2304) hx hb dX5_init_14 (by decide) ?_
  refine zi_newa (at_ := .int) (ty := .int) (cB := cs 0) (t0 := 0) (a0 := (2304, .inl fun _ => 0)) (n0 := 2304) C V rfl (fun _ h => by cases h) rfl ac_I (fun _ => rfl) (by decide) (by decide) (by decide) (Nat.le_of_ble_eq_true rfl) (Nat.le_of_ble_eq_true rfl) dX5_init_17 (fun q2 H V => ?_)
  have V : zV D cs (va_A [(h0, .inr (4, [.null, .null, .null, .null, .null, .null, .int 0, .int 0, .int 0, .int 0, .int 0, .int 0, .int 0, .int 0, .int 0, .int 0, .int 0, .int 0]))] sz) s [(h0, .inr (4, [.null, .ref q1, .null, .null, .null, .null, .int 0, .int 0, .int 0, .int 0, .int 0, .int 0, .int 0, .int 0, .int 0, .int 0, .int 0, .int 0])), (q1, .inl (cs 0, 2304, .inl fun _ => 0)), (q2, .inl (cs 0, 2304, .inl fun _ => 0))] H locs := V
  refine zi_put (q0 := 0) (ci := 4) (k := 2) (T := TX5) (N := 18) (ty0 := tyX5) (ty := (.array .int)) C hmi V inX5 tyX5_ok nmX5 rfl rfl (by decide) fk_X5_15 rfl (by decide +kernel) rfl rfl (Nat.le_of_ble_eq_true rfl) dX5_init_19 (fun H locs V => ?_)
  have V : zV D cs (va_A [(h0, .inr (4, [.null, .null, .null, .null, .null, .null, .int 0, .int 0, .int 0, .int 0, .int 0, .int 0, .int 0, .int 0, .int 0, .int 0, .int 0, .int 0]))] sz) s [(h0, .inr (4, [.null, .ref q1, .ref q2, .null, .null, .null, .int 0, .int 0, .int 0, .int 0, .int 0, .int 0, .int 0, .int 0, .int 0, .int 0, .int 0, .int 0])), (q1, .inl (cs 0, 2304, .inl fun _ => 0)), (q2, .inl (cs 0, 2304, .inl fun _ => 0))] H locs := V
  refine lv_aload_n hx hb dX5_init_22 rfl (lv_at hl 0 rfl) ?_
  refine lv_bipush (v := 96) hx hb dX5_init_23 (by decide) ?_
  refine zi_newa (at_ := .int) (ty := .int) (cB := cs 0) (t0 := 0) (a0 := (96, .inl fun _ => 0)) (n0 := 96) C V rfl (fun _ h => by cases h) rfl ac_I (fun _ => rfl) (by decide) (by decide) (by decide) (Nat.le_of_ble_eq_true rfl) (Nat.le_of_ble_eq_true rfl) dX5_init_25 (fun q3 H V => ?_)
  have V : zV D cs (va_A [(h0, .inr (4, [.null, .null, .null, .null, .null, .null, .int 0, .int 0, .int 0, .int 0, .int 0, .int 0, .int 0, .int 0, .int 0, .int 0, .int 0, .int 0]))] sz) s [(h0, .inr (4, [.null, .ref q1, .ref q2, .null, .null, .null, .int 0, .int 0, .int 0, .int 0, .int 0, .int 0, .int 0, .int 0, .int 0, .int 0, .int 0, .int 0])), (q1, .inl (cs 0, 2304, .inl fun _ => 0)), (q2, .inl (cs 0, 2304, .inl fun _ => 0)), (q3, .inl (cs 0, 96, .inl fun _ => 0))] H locs := V
  refine zi_put (q0 := 0) (ci := 4) (k := 3) (T := TX5) (N := 18) (ty0 := tyX5) (ty := (.array .int)) C hmi V inX5 tyX5_ok nmX5 rfl rfl (by decide) fk_X5_18 rfl (by decide +kernel) rfl rfl (Nat.le_of_ble_eq_true rfl) dX5_init_27 (fun H locs V => ?_)
  have V : zV D cs (va_A [(h0, .inr (4, [.null, .null, .null, .null, .null, .null, .int 0, .int 0, .int 0, .int 0, .int 0, .int 0, .int 0, .int 0, .int 0, .int 0, .int 0, .int 0]))] sz) s [(h0, .inr (4, [.null, .ref q1, .ref q2, .ref q3, .null, .null, .int 0, .int 0, .int 0, .int 0, .int 0, .int 0, .int 0, .int 0, .int 0, .int 0, .int 0, .int 0])), (q1, .inl (cs 0, 2304, .inl fun _ => 0)), (q2, .inl (cs 0, 2304, .inl fun _ => 0)), (q3, .inl (cs 0, 96, .inl fun _ => 0))] H locs := V
  refine lv_aload_n hx hb dX5_init_30 rfl (lv_at hl 0 rfl) ?_
  refine lv_bipush (v := 96) hx hb dX5_init_31 (by decide) ?_
  refine zi_newa (at_ := .int) (ty := .int) (cB := cs 0) (t0 := 0) (a0 := (96, .inl fun _ => 0)) (n0 := 96) C V rfl (fun _ h => by cases h) rfl ac_I (fun _ => rfl) (by decide) (by decide) (by decide) (Nat.le_of_ble_eq_true rfl) (Nat.le_of_ble_eq_true rfl) dX5_init_33 (fun q4 H V => ?_)
  have V : zV D cs (va_A [(h0, .inr (4, [.null, .null, .null, .null, .null, .null, .int 0, .int 0, .int 0, .int 0, .int 0, .int 0, .int 0, .int 0, .int 0, .int 0, .int 0, .int 0]))] sz) s [(h0, .inr (4, [.null, .ref q1, .ref q2, .ref q3, .null, .null, .int 0, .int 0, .int 0, .int 0, .int 0, .int 0, .int 0, .int 0, .int 0, .int 0, .int 0, .int 0])), (q1, .inl (cs 0, 2304, .inl fun _ => 0)), (q2, .inl (cs 0, 2304, .inl fun _ => 0)), (q3, .inl (cs 0, 96, .inl fun _ => 0)), (q4, .inl (cs 0, 96, .inl fun _ => 0))] H locs := V
  refine zi_put (q0 := 0) (ci := 4) (k := 4) (T := TX5) (N := 18) (ty0 := tyX5) (ty := (.array .int)) C hmi V inX5 tyX5_ok nmX5 rfl rfl (by decide) fk_X5_21 rfl (by decide +kernel) rfl rfl (Nat.le_of_ble_eq_true rfl) dX5_init_35 (fun H locs V => ?_)
  have V : zV D cs (va_A [(h0, .inr (4, [.null, .null, .null, .null, .null, .null, .int 0, .int 0, .int 0, .int 0, .int 0, .int 0, .int 0, .int 0, .int 0, .int 0, .int 0, .int 0]))] sz) s [(h0, .inr (4, [.null, .ref q1, .ref q2, .ref q3, .ref q4, .null, .int 0, .int 0, .int 0, .int 0, .int 0, .int 0, .int 0, .int 0, .int 0, .int 0, .int 0, .int 0])), (q1, .inl (cs 0, 2304, .inl fun _ => 0)), (q2, .inl (cs 0, 2304, .inl fun _ => 0)), (q3, .inl (cs 0, 96, .inl fun _ => 0)), (q4, .inl (cs 0, 96, .inl fun _ => 0))] H locs := V
  refine lv_aload_n hx hb dX5_init_38 rfl (lv_at hl 0 rfl) ?_
  refine lv_sipush (v := 2304) hx hb dX5_init_39 (by decide) ?_
  refine zi_newa (at_ := .int) (ty := .int) (cB := cs 0) (t0 := 0) (a0 := (2304, .inl fun _ => 0)) (n0 := 2304) C V rfl (fun _ h => by cases h) rfl ac_I (fun _ => rfl) (by decide) (by decide) (by decide) (Nat.le_of_ble_eq_true rfl) (Nat.le_of_ble_eq_true rfl) dX5_init_42 (fun q5 H V => ?_)
  have V : zV D cs (va_A [(h0, .inr (4, [.null, .null, .null, .null, .null, .null, .int 0, .int 0, .int 0, .int 0, .int 0, .int 0, .int 0, .int 0, .int 0, .int 0, .int 0, .int 0]))] sz) s [(h0, .inr (4, [.null, .ref q1, .ref q2, .ref q3, .ref q4, .null, .int 0, .int 0, .int 0, .int 0, .int 0, .int 0, .int 0, .int 0, .int 0, .int 0, .int 0, .int 0])), (q1, .inl (cs 0, 2304, .inl fun _ => 0)), (q2, .inl (cs 0, 2304, .inl fun _ => 0)), (q3, .inl (cs 0, 96, .inl fun _ => 0)), (q4, .inl (cs 0, 96, .inl fun _ => 0)), (q5, .inl (cs 0, 2304, .inl fun _ => 0))] H locs := V
  refine zi_put (q0 := 0) (ci := 4) (k := 5) (T := TX5) (N := 18) (ty0 := tyX5) (ty := (.array .int)) C hmi V inX5 tyX5_ok nmX5 rfl rfl (by decide) fk_X5_24 rfl (by decide +kernel) rfl rfl (Nat.le_of_ble_eq_true rfl) dX5_init_44 (fun H locs V => ?_)
  have V : zV D cs (va_A [(h0, .inr (4, [.null, .null, .null, .null, .null, .null, .int 0, .int 0, .int 0, .int 0, .int 0, .int 0, .int 0, .int 0, .int 0, .int 0, .int 0, .int 0]))] sz) s [(h0, .inr (4, [.null, .ref q1, .ref q2, .ref q3, .ref q4, .ref q5, .int 0, .int 0, .int 0, .int 0, .int 0, .int 0, .int 0, .int 0, .int 0, .int 0, .int 0, .int 0])), (q1, .inl (cs 0, 2304, .inl fun _ => 0)), (q2, .inl (cs 0, 2304, .inl fun _ => 0)), (q3, .inl (cs 0, 96, .inl fun _ => 0)), (q4, .inl (cs 0, 96, .inl fun _ => 0)), (q5, .inl (cs 0, 2304, .inl fun _ => 0))] H locs := V
  refine lv_aload_n hx hb dX5_init_47 rfl (lv_at hl 0 rfl) ?_
  refine lv_iconst (v := -1) hx hb dX5_init_48 (by decide) ?_
  refine zi_put (q0 := 0) (ci := 4) (k := 9) (T := TX5) (N := 18) (ty0 := tyX5) (ty := .int) C hmi V inX5 tyX5_ok nmX5 rfl rfl (by decide) fk_X5_27 rfl (by decide +kernel) rfl rfl (Nat.le_of_ble_eq_true rfl) dX5_init_49 (fun H locs V => ?_)
  have V : zV D cs (va_A [(h0, .inr (4, [.null, .null, .null, .null, .null, .null, .int 0, .int 0, .int 0, .int 0, .int 0, .int 0, .int 0, .int 0, .int 0, .int 0, .int 0, .int 0]))] sz) s [(h0, .inr (4, [.null, .ref q1, .ref q2, .ref q3, .ref q4, .ref q5, .int 0, .int 0, .int 0, .int (-1 : Int32), .int 0, .int 0, .int 0, .int 0, .int 0, .int 0, .int 0, .int 0])), (q1, .inl (cs 0, 2304, .inl fun _ => 0)), (q2, .inl (cs 0, 2304, .inl fun _ => 0)), (q3, .inl (cs 0, 96, .inl fun _ => 0)), (q4, .inl (cs 0, 96, .inl fun _ => 0)), (q5, .inl (cs 0, 2304, .inl fun _ => 0))] H locs := V
  refine lv_aload_n hx hb dX5_init_52 rfl (lv_at hl 0 rfl) ?_
  refine lv_aload_n hx hb dX5_init_53 rfl (lv_at hl 1 rfl) ?_
  refine zi_put (q0 := 0) (ci := 4) (k := 0) (T := TX5) (N := 18) (ty0 := tyX5) (ty := (.object "SomeAreNoneIs$Docket")) C hmi V inX5 tyX5_ok nmX5 rfl rfl (by decide) fk_X5_31 rfl (by decide +kernel) rfl rfl (Nat.le_of_ble_eq_true rfl) dX5_init_54 (fun H locs V => ?_)
  have V : zV D cs (va_A [(h0, .inr (4, [.null, .null, .null, .null, .null, .null, .int 0, .int 0, .int 0, .int 0, .int 0, .int 0, .int 0, .int 0, .int 0, .int 0, .int 0, .int 0]))] sz) s [(h0, .inr (4, [.ref r1, .ref q1, .ref q2, .ref q3, .ref q4, .ref q5, .int 0, .int 0, .int 0, .int (-1 : Int32), .int 0, .int 0, .int 0, .int 0, .int 0, .int 0, .int 0, .int 0])), (q1, .inl (cs 0, 2304, .inl fun _ => 0)), (q2, .inl (cs 0, 2304, .inl fun _ => 0)), (q3, .inl (cs 0, 96, .inl fun _ => 0)), (q4, .inl (cs 0, 96, .inl fun _ => 0)), (q5, .inl (cs 0, 2304, .inl fun _ => 0))] H locs := V
  exact zi_ret C V (fun k => ([q1, q2, q3, q4, q5] : List Nat).getD k 0) [0, 1, 2, 3, 4, 5] rfl (by decide) rfl dX5_init_57
set_option maxRecDepth 100000 in
set_option maxHeartbeats 4000000 in
theorem i_X3_init {l : Launch} {D : va_G} {cs : Nat → Nat} {sz : Nat} (h0 r1 : Nat) : zI l yX3_init cX3_init 2 { frames := 1, cells := 5, slots := 200, locals := 12 } D cs [(h0, .inr (2, [.null, .null, .null, .null, .null, .null, .int 0]))] sz [.ref h0, .ref r1] 5 200 (fun u => [(h0, .inr (2, [.ref r1, .ref (u 0), .ref (u 1), .ref (u 2), .ref (u 3), .ref (u 4), .int 0])), ((u 0), .inl (cs 0, 40, .inl fun _ => 0)), ((u 1), .inl (cs 0, 40, .inl fun _ => 0)), ((u 2), .inl (cs 0, 40, .inl fun _ => 0)), ((u 3), .inl (cs 0, 40, .inl fun _ => 0)), ((u 4), .inl (cs 0, 40, .inl fun _ => 0))]) := by
  refine zi_enter (by decide) rfl (Nat.le_of_ble_eq_true rfl) ?_
  intro p e s m below meth c ls C hmi V hl
  have C : zC p s m [.ref h0, .ref r1].toArray meth c cX3_init 2 RX3 none := C
  obtain ⟨hx, hb, hml, hown, hts, hret, hlk⟩ := id C
  have hl : lv_has ls 2 [(0, .ref h0), (1, .ref r1)] := hl
  refine lv_aload_n hx hb dX3_init_0 rfl (lv_at hl 0 rfl) ?_
  refine zi_obj C lo_X3_3 im_obj cd_obj hl.1 (Nat.le_of_ble_eq_true rfl) (Nat.le_of_ble_eq_true rfl) dX3_init_1 ?_
  refine lv_aload_n hx hb dX3_init_4 rfl (lv_at hl 0 rfl) ?_
  refine lv_bipush (v := 40) hx hb dX3_init_5 (by decide) ?_
  refine zi_newa (at_ := .int) (ty := .int) (cB := cs 0) (t0 := 0) (a0 := (40, .inl fun _ => 0)) (n0 := 40) C V rfl (fun _ h => by cases h) rfl ac_I (fun _ => rfl) (by decide) (by decide) (by decide) (Nat.le_of_ble_eq_true rfl) (Nat.le_of_ble_eq_true rfl) dX3_init_7 (fun q1 H V => ?_)
  have V : zV D cs (va_A [(h0, .inr (2, [.null, .null, .null, .null, .null, .null, .int 0]))] sz) s [(h0, .inr (2, [.null, .null, .null, .null, .null, .null, .int 0])), (q1, .inl (cs 0, 40, .inl fun _ => 0))] H [] := V
  refine zi_put (q0 := 0) (ci := 2) (k := 1) (T := TX3) (N := 7) (ty0 := tyX3) (ty := (.array .int)) C hmi V inX3 tyX3_ok nmX3 rfl rfl (by decide) fk_X3_11 rfl (by decide +kernel) rfl rfl (Nat.le_of_ble_eq_true rfl) dX3_init_9 (fun H locs V => ?_)
  have V : zV D cs (va_A [(h0, .inr (2, [.null, .null, .null, .null, .null, .null, .int 0]))] sz) s [(h0, .inr (2, [.null, .ref q1, .null, .null, .null, .null, .int 0])), (q1, .inl (cs 0, 40, .inl fun _ => 0))] H locs := V
  refine lv_aload_n hx hb dX3_init_12 rfl (lv_at hl 0 rfl) ?_
  refine lv_bipush (v := 40) hx hb dX3_init_13 (by decide) ?_
  refine zi_newa (at_ := .int) (ty := .int) (cB := cs 0) (t0 := 0) (a0 := (40, .inl fun _ => 0)) (n0 := 40) C V rfl (fun _ h => by cases h) rfl ac_I (fun _ => rfl) (by decide) (by decide) (by decide) (Nat.le_of_ble_eq_true rfl) (Nat.le_of_ble_eq_true rfl) dX3_init_15 (fun q2 H V => ?_)
  have V : zV D cs (va_A [(h0, .inr (2, [.null, .null, .null, .null, .null, .null, .int 0]))] sz) s [(h0, .inr (2, [.null, .ref q1, .null, .null, .null, .null, .int 0])), (q1, .inl (cs 0, 40, .inl fun _ => 0)), (q2, .inl (cs 0, 40, .inl fun _ => 0))] H locs := V
  refine zi_put (q0 := 0) (ci := 2) (k := 2) (T := TX3) (N := 7) (ty0 := tyX3) (ty := (.array .int)) C hmi V inX3 tyX3_ok nmX3 rfl rfl (by decide) fk_X3_15 rfl (by decide +kernel) rfl rfl (Nat.le_of_ble_eq_true rfl) dX3_init_17 (fun H locs V => ?_)
  have V : zV D cs (va_A [(h0, .inr (2, [.null, .null, .null, .null, .null, .null, .int 0]))] sz) s [(h0, .inr (2, [.null, .ref q1, .ref q2, .null, .null, .null, .int 0])), (q1, .inl (cs 0, 40, .inl fun _ => 0)), (q2, .inl (cs 0, 40, .inl fun _ => 0))] H locs := V
  refine lv_aload_n hx hb dX3_init_20 rfl (lv_at hl 0 rfl) ?_
  refine lv_bipush (v := 40) hx hb dX3_init_21 (by decide) ?_
  refine zi_newa (at_ := .int) (ty := .int) (cB := cs 0) (t0 := 0) (a0 := (40, .inl fun _ => 0)) (n0 := 40) C V rfl (fun _ h => by cases h) rfl ac_I (fun _ => rfl) (by decide) (by decide) (by decide) (Nat.le_of_ble_eq_true rfl) (Nat.le_of_ble_eq_true rfl) dX3_init_23 (fun q3 H V => ?_)
  have V : zV D cs (va_A [(h0, .inr (2, [.null, .null, .null, .null, .null, .null, .int 0]))] sz) s [(h0, .inr (2, [.null, .ref q1, .ref q2, .null, .null, .null, .int 0])), (q1, .inl (cs 0, 40, .inl fun _ => 0)), (q2, .inl (cs 0, 40, .inl fun _ => 0)), (q3, .inl (cs 0, 40, .inl fun _ => 0))] H locs := V
  refine zi_put (q0 := 0) (ci := 2) (k := 3) (T := TX3) (N := 7) (ty0 := tyX3) (ty := (.array .int)) C hmi V inX3 tyX3_ok nmX3 rfl rfl (by decide) fk_X3_18 rfl (by decide +kernel) rfl rfl (Nat.le_of_ble_eq_true rfl) dX3_init_25 (fun H locs V => ?_)
  have V : zV D cs (va_A [(h0, .inr (2, [.null, .null, .null, .null, .null, .null, .int 0]))] sz) s [(h0, .inr (2, [.null, .ref q1, .ref q2, .ref q3, .null, .null, .int 0])), (q1, .inl (cs 0, 40, .inl fun _ => 0)), (q2, .inl (cs 0, 40, .inl fun _ => 0)), (q3, .inl (cs 0, 40, .inl fun _ => 0))] H locs := V
  refine lv_aload_n hx hb dX3_init_28 rfl (lv_at hl 0 rfl) ?_
  refine lv_bipush (v := 40) hx hb dX3_init_29 (by decide) ?_
  refine zi_newa (at_ := .int) (ty := .int) (cB := cs 0) (t0 := 0) (a0 := (40, .inl fun _ => 0)) (n0 := 40) C V rfl (fun _ h => by cases h) rfl ac_I (fun _ => rfl) (by decide) (by decide) (by decide) (Nat.le_of_ble_eq_true rfl) (Nat.le_of_ble_eq_true rfl) dX3_init_31 (fun q4 H V => ?_)
  have V : zV D cs (va_A [(h0, .inr (2, [.null, .null, .null, .null, .null, .null, .int 0]))] sz) s [(h0, .inr (2, [.null, .ref q1, .ref q2, .ref q3, .null, .null, .int 0])), (q1, .inl (cs 0, 40, .inl fun _ => 0)), (q2, .inl (cs 0, 40, .inl fun _ => 0)), (q3, .inl (cs 0, 40, .inl fun _ => 0)), (q4, .inl (cs 0, 40, .inl fun _ => 0))] H locs := V
  refine zi_put (q0 := 0) (ci := 2) (k := 4) (T := TX3) (N := 7) (ty0 := tyX3) (ty := (.array .int)) C hmi V inX3 tyX3_ok nmX3 rfl rfl (by decide) fk_X3_21 rfl (by decide +kernel) rfl rfl (Nat.le_of_ble_eq_true rfl) dX3_init_33 (fun H locs V => ?_)
  have V : zV D cs (va_A [(h0, .inr (2, [.null, .null, .null, .null, .null, .null, .int 0]))] sz) s [(h0, .inr (2, [.null, .ref q1, .ref q2, .ref q3, .ref q4, .null, .int 0])), (q1, .inl (cs 0, 40, .inl fun _ => 0)), (q2, .inl (cs 0, 40, .inl fun _ => 0)), (q3, .inl (cs 0, 40, .inl fun _ => 0)), (q4, .inl (cs 0, 40, .inl fun _ => 0))] H locs := V
  refine lv_aload_n hx hb dX3_init_36 rfl (lv_at hl 0 rfl) ?_
  refine lv_bipush (v := 40) hx hb dX3_init_37 (by decide) ?_
  refine zi_newa (at_ := .int) (ty := .int) (cB := cs 0) (t0 := 0) (a0 := (40, .inl fun _ => 0)) (n0 := 40) C V rfl (fun _ h => by cases h) rfl ac_I (fun _ => rfl) (by decide) (by decide) (by decide) (Nat.le_of_ble_eq_true rfl) (Nat.le_of_ble_eq_true rfl) dX3_init_39 (fun q5 H V => ?_)
  have V : zV D cs (va_A [(h0, .inr (2, [.null, .null, .null, .null, .null, .null, .int 0]))] sz) s [(h0, .inr (2, [.null, .ref q1, .ref q2, .ref q3, .ref q4, .null, .int 0])), (q1, .inl (cs 0, 40, .inl fun _ => 0)), (q2, .inl (cs 0, 40, .inl fun _ => 0)), (q3, .inl (cs 0, 40, .inl fun _ => 0)), (q4, .inl (cs 0, 40, .inl fun _ => 0)), (q5, .inl (cs 0, 40, .inl fun _ => 0))] H locs := V
  refine zi_put (q0 := 0) (ci := 2) (k := 5) (T := TX3) (N := 7) (ty0 := tyX3) (ty := (.array .int)) C hmi V inX3 tyX3_ok nmX3 rfl rfl (by decide) fk_X3_24 rfl (by decide +kernel) rfl rfl (Nat.le_of_ble_eq_true rfl) dX3_init_41 (fun H locs V => ?_)
  have V : zV D cs (va_A [(h0, .inr (2, [.null, .null, .null, .null, .null, .null, .int 0]))] sz) s [(h0, .inr (2, [.null, .ref q1, .ref q2, .ref q3, .ref q4, .ref q5, .int 0])), (q1, .inl (cs 0, 40, .inl fun _ => 0)), (q2, .inl (cs 0, 40, .inl fun _ => 0)), (q3, .inl (cs 0, 40, .inl fun _ => 0)), (q4, .inl (cs 0, 40, .inl fun _ => 0)), (q5, .inl (cs 0, 40, .inl fun _ => 0))] H locs := V
  refine lv_aload_n hx hb dX3_init_44 rfl (lv_at hl 0 rfl) ?_
  refine lv_aload_n hx hb dX3_init_45 rfl (lv_at hl 1 rfl) ?_
  refine zi_put (q0 := 0) (ci := 2) (k := 0) (T := TX3) (N := 7) (ty0 := tyX3) (ty := (.object "SomeAreNoneIs$Docket")) C hmi V inX3 tyX3_ok nmX3 rfl rfl (by decide) fk_X3_27 rfl (by decide +kernel) rfl rfl (Nat.le_of_ble_eq_true rfl) dX3_init_46 (fun H locs V => ?_)
  have V : zV D cs (va_A [(h0, .inr (2, [.null, .null, .null, .null, .null, .null, .int 0]))] sz) s [(h0, .inr (2, [.ref r1, .ref q1, .ref q2, .ref q3, .ref q4, .ref q5, .int 0])), (q1, .inl (cs 0, 40, .inl fun _ => 0)), (q2, .inl (cs 0, 40, .inl fun _ => 0)), (q3, .inl (cs 0, 40, .inl fun _ => 0)), (q4, .inl (cs 0, 40, .inl fun _ => 0)), (q5, .inl (cs 0, 40, .inl fun _ => 0))] H locs := V
  exact zi_ret C V (fun k => ([q1, q2, q3, q4, q5] : List Nat).getD k 0) [0, 1, 2, 3, 4, 5] rfl (by decide) rfl dX3_init_49
