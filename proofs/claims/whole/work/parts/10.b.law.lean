theorem cd_X11_sign : Cond.code yX11_sign cX11_sign 2 (some .int) ∈ lw_ok := lw_at 490 (by decide +kernel) (by decide +kernel)
theorem im_X11_sign : Cond.instanceMethod yX11_sign ∈ lw_ok := lw_at 488 (by decide +kernel) (by decide +kernel)
theorem sl_X11_X11_sign : Cond.selects RX11 yX11_sign yX11_sign ∈ lw_ok := lw_at 489 (by decide +kernel) (by decide +kernel)
theorem lk_L_26 : zLV RL 26 RX11 yX11_sign cX11_sign 2 (some .int) 1 := ⟨cd_X11_sign, lw_at 487 (by decide +kernel) (by decide +kernel), im_X11_sign, sl_X11_X11_sign, it_X11, by decide +kernel⟩
theorem cd_X12_sign : Cond.code yX12_sign cX12_sign 3 (some .int) ∈ lw_ok := lw_at 1363 (by decide +kernel) (by decide +kernel)
theorem im_X12_sign : Cond.instanceMethod yX12_sign ∈ lw_ok := lw_at 1361 (by decide +kernel) (by decide +kernel)
theorem sl_X12_X12_sign : Cond.selects RX12 yX12_sign yX12_sign ∈ lw_ok := lw_at 1362 (by decide +kernel) (by decide +kernel)
theorem lk_L_29 : zLV RL 29 RX12 yX12_sign cX12_sign 3 (some .int) 1 := ⟨cd_X12_sign, lw_at 1360 (by decide +kernel) (by decide +kernel), im_X12_sign, sl_X12_X12_sign, it_X12, by decide +kernel⟩
theorem cd_X11_end : Cond.code yX11_end cX11_end 2 (some .boolean) ∈ lw_ok := lw_at 498 (by decide +kernel) (by decide +kernel)
theorem im_X11_end : Cond.instanceMethod yX11_end ∈ lw_ok := lw_at 496 (by decide +kernel) (by decide +kernel)
theorem sl_X11_X11_end : Cond.selects RX11 yX11_end yX11_end ∈ lw_ok := lw_at 497 (by decide +kernel) (by decide +kernel)
theorem lk_L_30 : zLV RL 30 RX11 yX11_end cX11_end 2 (some .boolean) 1 := ⟨cd_X11_end, lw_at 495 (by decide +kernel) (by decide +kernel), im_X11_end, sl_X11_X11_end, it_X11, by decide +kernel⟩
theorem cd_X12_end : Cond.code yX12_end cX12_end 2 (some .boolean) ∈ lw_ok := lw_at 1367 (by decide +kernel) (by decide +kernel)
theorem im_X12_end : Cond.instanceMethod yX12_end ∈ lw_ok := lw_at 1365 (by decide +kernel) (by decide +kernel)
theorem sl_X12_X12_end : Cond.selects RX12 yX12_end yX12_end ∈ lw_ok := lw_at 1366 (by decide +kernel) (by decide +kernel)
theorem lk_L_34 : zLV RL 34 RX12 yX12_end cX12_end 2 (some .boolean) 1 := ⟨cd_X12_end, lw_at 1364 (by decide +kernel) (by decide +kernel), im_X12_end, sl_X12_X12_end, it_X12, by decide +kernel⟩
theorem cd_X11_told : Cond.code yX11_told cX11_told 2 (some .int) ∈ lw_ok := lw_at 506 (by decide +kernel) (by decide +kernel)
theorem im_X11_told : Cond.instanceMethod yX11_told ∈ lw_ok := lw_at 504 (by decide +kernel) (by decide +kernel)
theorem sl_X11_X11_told : Cond.selects RX11 yX11_told yX11_told ∈ lw_ok := lw_at 505 (by decide +kernel) (by decide +kernel)
theorem lk_L_35 : zLV RL 35 RX11 yX11_told cX11_told 2 (some .int) 0 := ⟨cd_X11_told, lw_at 503 (by decide +kernel) (by decide +kernel), im_X11_told, sl_X11_X11_told, it_X11, by decide +kernel⟩
theorem cd_X12_told : Cond.code yX12_told cX12_told 6 (some .int) ∈ lw_ok := lw_at 1374 (by decide +kernel) (by decide +kernel)
theorem im_X12_told : Cond.instanceMethod yX12_told ∈ lw_ok := lw_at 1372 (by decide +kernel) (by decide +kernel)
theorem sl_X12_X12_told : Cond.selects RX12 yX12_told yX12_told ∈ lw_ok := lw_at 1373 (by decide +kernel) (by decide +kernel)
theorem lk_L_39 : zLV RL 39 RX12 yX12_told cX12_told 6 (some .int) 0 := ⟨cd_X12_told, lw_at 1371 (by decide +kernel) (by decide +kernel), im_X12_told, sl_X12_X12_told, it_X12, by decide +kernel⟩
theorem cd_X12_saying : Cond.code yX12_saying cX12_saying 3 (some .int) ∈ lw_ok := lw_at 1467 (by decide +kernel) (by decide +kernel)
theorem im_X12_saying : Cond.instanceMethod yX12_saying ∈ lw_ok := lw_at 1465 (by decide +kernel) (by decide +kernel)
theorem sl_X12_X12_saying : Cond.selects RX12 yX12_saying yX12_saying ∈ lw_ok := lw_at 1466 (by decide +kernel) (by decide +kernel)
theorem lk_L_45 : zLV RL 45 RX12 yX12_saying cX12_saying 3 (some .int) 2 := ⟨cd_X12_saying, lw_at 1464 (by decide +kernel) (by decide +kernel), im_X12_saying, sl_X12_X12_saying, it_X12, by decide +kernel⟩
theorem cd_X12_thrown : Cond.code yX12_thrown cX12_thrown 1 (some .int) ∈ lw_ok := lw_at 1359 (by decide +kernel) (by decide +kernel)
theorem im_X12_thrown : Cond.instanceMethod yX12_thrown ∈ lw_ok := lw_at 1357 (by decide +kernel) (by decide +kernel)
theorem sl_X12_X12_thrown : Cond.selects RX12 yX12_thrown yX12_thrown ∈ lw_ok := lw_at 1358 (by decide +kernel) (by decide +kernel)
theorem lk_L_46 : zLV RL 46 RX12 yX12_thrown cX12_thrown 1 (some .int) 0 := ⟨cd_X12_thrown, lw_at 1356 (by decide +kernel) (by decide +kernel), im_X12_thrown, sl_X12_X12_thrown, it_X12, by decide +kernel⟩
theorem cd_X11_mark : Cond.code yX11_mark cX11_mark 4 (some .boolean) ∈ lw_ok := lw_at 562 (by decide +kernel) (by decide +kernel)
theorem im_X11_mark : Cond.instanceMethod yX11_mark ∈ lw_ok := lw_at 560 (by decide +kernel) (by decide +kernel)
theorem sl_X11_X11_mark : Cond.selects RX11 yX11_mark yX11_mark ∈ lw_ok := lw_at 561 (by decide +kernel) (by decide +kernel)
theorem lk_L_49 : zLV RL 49 RX11 yX11_mark cX11_mark 4 (some .boolean) 3 := ⟨cd_X11_mark, lw_at 559 (by decide +kernel) (by decide +kernel), im_X11_mark, sl_X11_X11_mark, it_X11, by decide +kernel⟩
theorem cd_X12_mark : Cond.code yX12_mark cX12_mark 4 (some .boolean) ∈ lw_ok := lw_at 1483 (by decide +kernel) (by decide +kernel)
theorem im_X12_mark : Cond.instanceMethod yX12_mark ∈ lw_ok := lw_at 1481 (by decide +kernel) (by decide +kernel)
theorem sl_X12_X12_mark : Cond.selects RX12 yX12_mark yX12_mark ∈ lw_ok := lw_at 1482 (by decide +kernel) (by decide +kernel)
theorem lk_L_53 : zLV RL 53 RX12 yX12_mark cX12_mark 4 (some .boolean) 3 := ⟨cd_X12_mark, lw_at 1480 (by decide +kernel) (by decide +kernel), im_X12_mark, sl_X12_X12_mark, it_X12, by decide +kernel⟩
theorem cd_X11_lives : Cond.code yX11_lives cX11_lives 3 (some .boolean) ∈ lw_ok := lw_at 567 (by decide +kernel) (by decide +kernel)
theorem im_X11_lives : Cond.instanceMethod yX11_lives ∈ lw_ok := lw_at 565 (by decide +kernel) (by decide +kernel)
theorem sl_X11_X11_lives : Cond.selects RX11 yX11_lives yX11_lives ∈ lw_ok := lw_at 566 (by decide +kernel) (by decide +kernel)
theorem lk_L_54 : zLV RL 54 RX11 yX11_lives cX11_lives 3 (some .boolean) 2 := ⟨cd_X11_lives, lw_at 564 (by decide +kernel) (by decide +kernel), im_X11_lives, sl_X11_X11_lives, it_X11, by decide +kernel⟩
theorem cd_X12_lives : Cond.code yX12_lives cX12_lives 3 (some .boolean) ∈ lw_ok := lw_at 1490 (by decide +kernel) (by decide +kernel)
theorem im_X12_lives : Cond.instanceMethod yX12_lives ∈ lw_ok := lw_at 1488 (by decide +kernel) (by decide +kernel)
theorem sl_X12_X12_lives : Cond.selects RX12 yX12_lives yX12_lives ∈ lw_ok := lw_at 1489 (by decide +kernel) (by decide +kernel)
theorem lk_L_58 : zLV RL 58 RX12 yX12_lives cX12_lives 3 (some .boolean) 2 := ⟨cd_X12_lives, lw_at 1487 (by decide +kernel) (by decide +kernel), im_X12_lives, sl_X12_X12_lives, it_X12, by decide +kernel⟩
theorem cd_X11_want : Cond.code yX11_want cX11_want 2 (some .int) ∈ lw_ok := lw_at 571 (by decide +kernel) (by decide +kernel)
theorem im_X11_want : Cond.instanceMethod yX11_want ∈ lw_ok := lw_at 569 (by decide +kernel) (by decide +kernel)
theorem sl_X11_X11_want : Cond.selects RX11 yX11_want yX11_want ∈ lw_ok := lw_at 570 (by decide +kernel) (by decide +kernel)
theorem lk_L_59 : zLV RL 59 RX11 yX11_want cX11_want 2 (some .int) 1 := ⟨cd_X11_want, lw_at 568 (by decide +kernel) (by decide +kernel), im_X11_want, sl_X11_X11_want, it_X11, by decide +kernel⟩
theorem cd_X12_want : Cond.code yX12_want cX12_want 2 (some .int) ∈ lw_ok := lw_at 1495 (by decide +kernel) (by decide +kernel)
theorem im_X12_want : Cond.instanceMethod yX12_want ∈ lw_ok := lw_at 1493 (by decide +kernel) (by decide +kernel)
theorem sl_X12_X12_want : Cond.selects RX12 yX12_want yX12_want ∈ lw_ok := lw_at 1494 (by decide +kernel) (by decide +kernel)
theorem lk_L_62 : zLV RL 62 RX12 yX12_want cX12_want 2 (some .int) 1 := ⟨cd_X12_want, lw_at 1492 (by decide +kernel) (by decide +kernel), im_X12_want, sl_X12_X12_want, it_X12, by decide +kernel⟩
theorem cd_X11_forget : Cond.code yX11_forget cX11_forget 2 (some .int) ∈ lw_ok := lw_at 582 (by decide +kernel) (by decide +kernel)
theorem im_X11_forget : Cond.instanceMethod yX11_forget ∈ lw_ok := lw_at 580 (by decide +kernel) (by decide +kernel)
theorem sl_X11_X11_forget : Cond.selects RX11 yX11_forget yX11_forget ∈ lw_ok := lw_at 581 (by decide +kernel) (by decide +kernel)
theorem lk_L_63 : zLV RL 63 RX11 yX11_forget cX11_forget 2 (some .int) 0 := ⟨cd_X11_forget, lw_at 579 (by decide +kernel) (by decide +kernel), im_X11_forget, sl_X11_X11_forget, it_X11, by decide +kernel⟩
theorem cd_X12_forget : Cond.code yX12_forget cX12_forget 2 (some .int) ∈ lw_ok := lw_at 1503 (by decide +kernel) (by decide +kernel)
theorem im_X12_forget : Cond.instanceMethod yX12_forget ∈ lw_ok := lw_at 1501 (by decide +kernel) (by decide +kernel)
theorem sl_X12_X12_forget : Cond.selects RX12 yX12_forget yX12_forget ∈ lw_ok := lw_at 1502 (by decide +kernel) (by decide +kernel)
theorem lk_L_66 : zLV RL 66 RX12 yX12_forget cX12_forget 2 (some .int) 0 := ⟨cd_X12_forget, lw_at 1500 (by decide +kernel) (by decide +kernel), im_X12_forget, sl_X12_X12_forget, it_X12, by decide +kernel⟩
theorem cd_X11_sheet : Cond.code yX11_sheet cX11_sheet 5 (some .int) ∈ lw_ok := lw_at 586 (by decide +kernel) (by decide +kernel)
theorem im_X11_sheet : Cond.instanceMethod yX11_sheet ∈ lw_ok := lw_at 584 (by decide +kernel) (by decide +kernel)
theorem sl_X11_X11_sheet : Cond.selects RX11 yX11_sheet yX11_sheet ∈ lw_ok := lw_at 585 (by decide +kernel) (by decide +kernel)
theorem lk_L_67 : zLV RL 67 RX11 yX11_sheet cX11_sheet 5 (some .int) 4 := ⟨cd_X11_sheet, lw_at 583 (by decide +kernel) (by decide +kernel), im_X11_sheet, sl_X11_X11_sheet, it_X11, by decide +kernel⟩
theorem cd_X12_sheet : Cond.code yX12_sheet cX12_sheet 8 (some .int) ∈ lw_ok := lw_at 1507 (by decide +kernel) (by decide +kernel)
theorem im_X12_sheet : Cond.instanceMethod yX12_sheet ∈ lw_ok := lw_at 1505 (by decide +kernel) (by decide +kernel)
theorem sl_X12_X12_sheet : Cond.selects RX12 yX12_sheet yX12_sheet ∈ lw_ok := lw_at 1506 (by decide +kernel) (by decide +kernel)
theorem lk_L_71 : zLV RL 71 RX12 yX12_sheet cX12_sheet 8 (some .int) 4 := ⟨cd_X12_sheet, lw_at 1504 (by decide +kernel) (by decide +kernel), im_X12_sheet, sl_X12_X12_sheet, it_X12, by decide +kernel⟩
theorem cd_X11_holds : Cond.code yX11_holds cX11_holds 1 (some .int) ∈ lw_ok := lw_at 599 (by decide +kernel) (by decide +kernel)
theorem im_X11_holds : Cond.instanceMethod yX11_holds ∈ lw_ok := lw_at 597 (by decide +kernel) (by decide +kernel)
theorem sl_X11_X11_holds : Cond.selects RX11 yX11_holds yX11_holds ∈ lw_ok := lw_at 598 (by decide +kernel) (by decide +kernel)
theorem lk_L_72 : zLV RL 72 RX11 yX11_holds cX11_holds 1 (some .int) 0 := ⟨cd_X11_holds, lw_at 596 (by decide +kernel) (by decide +kernel), im_X11_holds, sl_X11_X11_holds, it_X11, by decide +kernel⟩
theorem cd_X12_holds : Cond.code yX12_holds cX12_holds 1 (some .int) ∈ lw_ok := lw_at 1512 (by decide +kernel) (by decide +kernel)
theorem im_X12_holds : Cond.instanceMethod yX12_holds ∈ lw_ok := lw_at 1510 (by decide +kernel) (by decide +kernel)
theorem sl_X12_X12_holds : Cond.selects RX12 yX12_holds yX12_holds ∈ lw_ok := lw_at 1511 (by decide +kernel) (by decide +kernel)
theorem lk_L_75 : zLV RL 75 RX12 yX12_holds cX12_holds 1 (some .int) 0 := ⟨cd_X12_holds, lw_at 1509 (by decide +kernel) (by decide +kernel), im_X12_holds, sl_X12_X12_holds, it_X12, by decide +kernel⟩
theorem cd_X11_follows : Cond.code yX11_follows cX11_follows 3 (some .int) ∈ lw_ok := lw_at 649 (by decide +kernel) (by decide +kernel)
theorem im_X11_follows : Cond.instanceMethod yX11_follows ∈ lw_ok := lw_at 647 (by decide +kernel) (by decide +kernel)
theorem sl_X11_X11_follows : Cond.selects RX11 yX11_follows yX11_follows ∈ lw_ok := lw_at 648 (by decide +kernel) (by decide +kernel)
theorem lk_L_76 : zLV RL 76 RX11 yX11_follows cX11_follows 3 (some .int) 1 := ⟨cd_X11_follows, lw_at 646 (by decide +kernel) (by decide +kernel), im_X11_follows, sl_X11_X11_follows, it_X11, by decide +kernel⟩
theorem cd_X12_follows : Cond.code yX12_follows cX12_follows 2 (some .int) ∈ lw_ok := lw_at 1564 (by decide +kernel) (by decide +kernel)
theorem im_X12_follows : Cond.instanceMethod yX12_follows ∈ lw_ok := lw_at 1562 (by decide +kernel) (by decide +kernel)
theorem sl_X12_X12_follows : Cond.selects RX12 yX12_follows yX12_follows ∈ lw_ok := lw_at 1563 (by decide +kernel) (by decide +kernel)
theorem lk_L_79 : zLV RL 79 RX12 yX12_follows cX12_follows 2 (some .int) 1 := ⟨cd_X12_follows, lw_at 1561 (by decide +kernel) (by decide +kernel), im_X12_follows, sl_X12_X12_follows, it_X12, by decide +kernel⟩
theorem cd_X11_decided : Cond.code yX11_decided cX11_decided 4 (some .int) ∈ lw_ok := lw_at 676 (by decide +kernel) (by decide +kernel)
theorem im_X11_decided : Cond.instanceMethod yX11_decided ∈ lw_ok := lw_at 674 (by decide +kernel) (by decide +kernel)
theorem sl_X11_X11_decided : Cond.selects RX11 yX11_decided yX11_decided ∈ lw_ok := lw_at 675 (by decide +kernel) (by decide +kernel)
theorem lk_L_80 : zLV RL 80 RX11 yX11_decided cX11_decided 4 (some .int) 1 := ⟨cd_X11_decided, lw_at 673 (by decide +kernel) (by decide +kernel), im_X11_decided, sl_X11_X11_decided, it_X11, by decide +kernel⟩
theorem cd_X12_decided : Cond.code yX12_decided cX12_decided 2 (some .int) ∈ lw_ok := lw_at 1583 (by decide +kernel) (by decide +kernel)
theorem im_X12_decided : Cond.instanceMethod yX12_decided ∈ lw_ok := lw_at 1581 (by decide +kernel) (by decide +kernel)
theorem sl_X12_X12_decided : Cond.selects RX12 yX12_decided yX12_decided ∈ lw_ok := lw_at 1582 (by decide +kernel) (by decide +kernel)
theorem lk_L_83 : zLV RL 83 RX12 yX12_decided cX12_decided 2 (some .int) 1 := ⟨cd_X12_decided, lw_at 1580 (by decide +kernel) (by decide +kernel), im_X12_decided, sl_X12_X12_decided, it_X12, by decide +kernel⟩
theorem cd_X11_from : Cond.code yX11_from cX11_from 3 (some .int) ∈ lw_ok := lw_at 681 (by decide +kernel) (by decide +kernel)
theorem im_X11_from : Cond.instanceMethod yX11_from ∈ lw_ok := lw_at 679 (by decide +kernel) (by decide +kernel)
theorem sl_X11_X11_from : Cond.selects RX11 yX11_from yX11_from ∈ lw_ok := lw_at 680 (by decide +kernel) (by decide +kernel)
theorem lk_L_84 : zLV RL 84 RX11 yX11_from cX11_from 3 (some .int) 2 := ⟨cd_X11_from, lw_at 678 (by decide +kernel) (by decide +kernel), im_X11_from, sl_X11_X11_from, it_X11, by decide +kernel⟩
theorem cd_X12_from : Cond.code yX12_from cX12_from 3 (some .int) ∈ lw_ok := lw_at 1587 (by decide +kernel) (by decide +kernel)
theorem im_X12_from : Cond.instanceMethod yX12_from ∈ lw_ok := lw_at 1585 (by decide +kernel) (by decide +kernel)
theorem sl_X12_X12_from : Cond.selects RX12 yX12_from yX12_from ∈ lw_ok := lw_at 1586 (by decide +kernel) (by decide +kernel)
theorem lk_L_87 : zLV RL 87 RX12 yX12_from cX12_from 3 (some .int) 2 := ⟨cd_X12_from, lw_at 1584 (by decide +kernel) (by decide +kernel), im_X12_from, sl_X12_X12_from, it_X12, by decide +kernel⟩
theorem cd_X11_needs : Cond.code yX11_needs cX11_needs 2 (some .int) ∈ lw_ok := lw_at 686 (by decide +kernel) (by decide +kernel)
theorem im_X11_needs : Cond.instanceMethod yX11_needs ∈ lw_ok := lw_at 684 (by decide +kernel) (by decide +kernel)
theorem sl_X11_X11_needs : Cond.selects RX11 yX11_needs yX11_needs ∈ lw_ok := lw_at 685 (by decide +kernel) (by decide +kernel)
theorem lk_L_88 : zLV RL 88 RX11 yX11_needs cX11_needs 2 (some .int) 1 := ⟨cd_X11_needs, lw_at 683 (by decide +kernel) (by decide +kernel), im_X11_needs, sl_X11_X11_needs, it_X11, by decide +kernel⟩
theorem cd_X12_needs : Cond.code yX12_needs cX12_needs 5 (some .int) ∈ lw_ok := lw_at 1595 (by decide +kernel) (by decide +kernel)
theorem im_X12_needs : Cond.instanceMethod yX12_needs ∈ lw_ok := lw_at 1593 (by decide +kernel) (by decide +kernel)
theorem sl_X12_X12_needs : Cond.selects RX12 yX12_needs yX12_needs ∈ lw_ok := lw_at 1594 (by decide +kernel) (by decide +kernel)
theorem lk_L_91 : zLV RL 91 RX12 yX12_needs cX12_needs 5 (some .int) 1 := ⟨cd_X12_needs, lw_at 1592 (by decide +kernel) (by decide +kernel), im_X12_needs, sl_X12_X12_needs, it_X12, by decide +kernel⟩
theorem cd_X11_fewest : Cond.code yX11_fewest cX11_fewest 1 (some .int) ∈ lw_ok := lw_at 696 (by decide +kernel) (by decide +kernel)
theorem im_X11_fewest : Cond.instanceMethod yX11_fewest ∈ lw_ok := lw_at 694 (by decide +kernel) (by decide +kernel)
theorem sl_X11_X11_fewest : Cond.selects RX11 yX11_fewest yX11_fewest ∈ lw_ok := lw_at 695 (by decide +kernel) (by decide +kernel)
theorem lk_L_92 : zLV RL 92 RX11 yX11_fewest cX11_fewest 1 (some .int) 0 := ⟨cd_X11_fewest, lw_at 693 (by decide +kernel) (by decide +kernel), im_X11_fewest, sl_X11_X11_fewest, it_X11, by decide +kernel⟩
theorem cd_X12_fewest : Cond.code yX12_fewest cX12_fewest 4 (some .int) ∈ lw_ok := lw_at 1599 (by decide +kernel) (by decide +kernel)
theorem im_X12_fewest : Cond.instanceMethod yX12_fewest ∈ lw_ok := lw_at 1597 (by decide +kernel) (by decide +kernel)
theorem sl_X12_X12_fewest : Cond.selects RX12 yX12_fewest yX12_fewest ∈ lw_ok := lw_at 1598 (by decide +kernel) (by decide +kernel)
theorem lk_L_95 : zLV RL 95 RX12 yX12_fewest cX12_fewest 4 (some .int) 0 := ⟨cd_X12_fewest, lw_at 1596 (by decide +kernel) (by decide +kernel), im_X12_fewest, sl_X12_X12_fewest, it_X12, by decide +kernel⟩
theorem cd_X11_idle : Cond.code yX11_idle cX11_idle 1 (some .int) ∈ lw_ok := lw_at 738 (by decide +kernel) (by decide +kernel)
theorem im_X11_idle : Cond.instanceMethod yX11_idle ∈ lw_ok := lw_at 736 (by decide +kernel) (by decide +kernel)
theorem sl_X11_X11_idle : Cond.selects RX11 yX11_idle yX11_idle ∈ lw_ok := lw_at 737 (by decide +kernel) (by decide +kernel)
theorem lk_L_96 : zLV RL 96 RX11 yX11_idle cX11_idle 1 (some .int) 0 := ⟨cd_X11_idle, lw_at 735 (by decide +kernel) (by decide +kernel), im_X11_idle, sl_X11_X11_idle, it_X11, by decide +kernel⟩
theorem cd_X12_idle : Cond.code yX12_idle cX12_idle 4 (some .int) ∈ lw_ok := lw_at 1611 (by decide +kernel) (by decide +kernel)
theorem im_X12_idle : Cond.instanceMethod yX12_idle ∈ lw_ok := lw_at 1609 (by decide +kernel) (by decide +kernel)
theorem sl_X12_X12_idle : Cond.selects RX12 yX12_idle yX12_idle ∈ lw_ok := lw_at 1610 (by decide +kernel) (by decide +kernel)
theorem lk_L_99 : zLV RL 99 RX12 yX12_idle cX12_idle 4 (some .int) 0 := ⟨cd_X12_idle, lw_at 1608 (by decide +kernel) (by decide +kernel), im_X12_idle, sl_X12_X12_idle, it_X12, by decide +kernel⟩
theorem cd_X11_alike : Cond.code yX11_alike cX11_alike 5 (some .int) ∈ lw_ok := lw_at 746 (by decide +kernel) (by decide +kernel)
theorem im_X11_alike : Cond.instanceMethod yX11_alike ∈ lw_ok := lw_at 744 (by decide +kernel) (by decide +kernel)
theorem sl_X11_X11_alike : Cond.selects RX11 yX11_alike yX11_alike ∈ lw_ok := lw_at 745 (by decide +kernel) (by decide +kernel)
theorem lk_L_100 : zLV RL 100 RX11 yX11_alike cX11_alike 5 (some .int) 2 := ⟨cd_X11_alike, lw_at 743 (by decide +kernel) (by decide +kernel), im_X11_alike, sl_X11_X11_alike, it_X11, by decide +kernel⟩
theorem cd_X12_alike : Cond.code yX12_alike cX12_alike 5 (some .int) ∈ lw_ok := lw_at 1615 (by decide +kernel) (by decide +kernel)
theorem im_X12_alike : Cond.instanceMethod yX12_alike ∈ lw_ok := lw_at 1613 (by decide +kernel) (by decide +kernel)
theorem sl_X12_X12_alike : Cond.selects RX12 yX12_alike yX12_alike ∈ lw_ok := lw_at 1614 (by decide +kernel) (by decide +kernel)
theorem lk_L_103 : zLV RL 103 RX12 yX12_alike cX12_alike 5 (some .int) 2 := ⟨cd_X12_alike, lw_at 1612 (by decide +kernel) (by decide +kernel), im_X12_alike, sl_X12_X12_alike, it_X12, by decide +kernel⟩
theorem cd_X11_clash : Cond.code yX11_clash cX11_clash 1 (some .int) ∈ lw_ok := lw_at 763 (by decide +kernel) (by decide +kernel)
theorem im_X11_clash : Cond.instanceMethod yX11_clash ∈ lw_ok := lw_at 761 (by decide +kernel) (by decide +kernel)
theorem sl_X11_X11_clash : Cond.selects RX11 yX11_clash yX11_clash ∈ lw_ok := lw_at 762 (by decide +kernel) (by decide +kernel)
theorem lk_L_104 : zLV RL 104 RX11 yX11_clash cX11_clash 1 (some .int) 0 := ⟨cd_X11_clash, lw_at 760 (by decide +kernel) (by decide +kernel), im_X11_clash, sl_X11_X11_clash, it_X11, by decide +kernel⟩
theorem cd_X12_clash : Cond.code yX12_clash cX12_clash 6 (some .int) ∈ lw_ok := lw_at 1623 (by decide +kernel) (by decide +kernel)
theorem im_X12_clash : Cond.instanceMethod yX12_clash ∈ lw_ok := lw_at 1621 (by decide +kernel) (by decide +kernel)
theorem sl_X12_X12_clash : Cond.selects RX12 yX12_clash yX12_clash ∈ lw_ok := lw_at 1622 (by decide +kernel) (by decide +kernel)
theorem lk_L_107 : zLV RL 107 RX12 yX12_clash cX12_clash 6 (some .int) 0 := ⟨cd_X12_clash, lw_at 1620 (by decide +kernel) (by decide +kernel), im_X12_clash, sl_X12_X12_clash, it_X12, by decide +kernel⟩
theorem cd_X11_liars : Cond.code yX11_liars cX11_liars 1 (some .int) ∈ lw_ok := lw_at 767 (by decide +kernel) (by decide +kernel)
theorem im_X11_liars : Cond.instanceMethod yX11_liars ∈ lw_ok := lw_at 765 (by decide +kernel) (by decide +kernel)
theorem sl_X11_X11_liars : Cond.selects RX11 yX11_liars yX11_liars ∈ lw_ok := lw_at 766 (by decide +kernel) (by decide +kernel)
theorem lk_L_108 : zLV RL 108 RX11 yX11_liars cX11_liars 1 (some .int) 0 := ⟨cd_X11_liars, lw_at 764 (by decide +kernel) (by decide +kernel), im_X11_liars, sl_X11_X11_liars, it_X11, by decide +kernel⟩
theorem cd_X12_liars : Cond.code yX12_liars cX12_liars 4 (some .int) ∈ lw_ok := lw_at 1627 (by decide +kernel) (by decide +kernel)
theorem im_X12_liars : Cond.instanceMethod yX12_liars ∈ lw_ok := lw_at 1625 (by decide +kernel) (by decide +kernel)
theorem sl_X12_X12_liars : Cond.selects RX12 yX12_liars yX12_liars ∈ lw_ok := lw_at 1626 (by decide +kernel) (by decide +kernel)
theorem lk_L_111 : zLV RL 111 RX12 yX12_liars cX12_liars 4 (some .int) 0 := ⟨cd_X12_liars, lw_at 1624 (by decide +kernel) (by decide +kernel), im_X12_liars, sl_X12_X12_liars, it_X12, by decide +kernel⟩
theorem cd_X11_truth : Cond.code yX11_truth cX11_truth 4 (some .int) ∈ lw_ok := lw_at 771 (by decide +kernel) (by decide +kernel)
theorem im_X11_truth : Cond.instanceMethod yX11_truth ∈ lw_ok := lw_at 769 (by decide +kernel) (by decide +kernel)
theorem sl_X11_X11_truth : Cond.selects RX11 yX11_truth yX11_truth ∈ lw_ok := lw_at 770 (by decide +kernel) (by decide +kernel)
theorem lk_L_112 : zLV RL 112 RX11 yX11_truth cX11_truth 4 (some .int) 1 := ⟨cd_X11_truth, lw_at 768 (by decide +kernel) (by decide +kernel), im_X11_truth, sl_X11_X11_truth, it_X11, by decide +kernel⟩
theorem cd_X12_truth : Cond.code yX12_truth cX12_truth 7 (some .int) ∈ lw_ok := lw_at 1635 (by decide +kernel) (by decide +kernel)
theorem im_X12_truth : Cond.instanceMethod yX12_truth ∈ lw_ok := lw_at 1633 (by decide +kernel) (by decide +kernel)
theorem sl_X12_X12_truth : Cond.selects RX12 yX12_truth yX12_truth ∈ lw_ok := lw_at 1634 (by decide +kernel) (by decide +kernel)
theorem lk_L_115 : zLV RL 115 RX12 yX12_truth cX12_truth 7 (some .int) 1 := ⟨cd_X12_truth, lw_at 1632 (by decide +kernel) (by decide +kernel), im_X12_truth, sl_X12_X12_truth, it_X12, by decide +kernel⟩
theorem cd_X11_trusts : Cond.code yX11_trusts cX11_trusts 3 (some .int) ∈ lw_ok := lw_at 780 (by decide +kernel) (by decide +kernel)
theorem im_X11_trusts : Cond.instanceMethod yX11_trusts ∈ lw_ok := lw_at 778 (by decide +kernel) (by decide +kernel)
theorem sl_X11_X11_trusts : Cond.selects RX11 yX11_trusts yX11_trusts ∈ lw_ok := lw_at 779 (by decide +kernel) (by decide +kernel)
theorem lk_L_116 : zLV RL 116 RX11 yX11_trusts cX11_trusts 3 (some .int) 2 := ⟨cd_X11_trusts, lw_at 777 (by decide +kernel) (by decide +kernel), im_X11_trusts, sl_X11_X11_trusts, it_X11, by decide +kernel⟩
theorem cd_X12_trusts : Cond.code yX12_trusts cX12_trusts 3 (some .int) ∈ lw_ok := lw_at 1640 (by decide +kernel) (by decide +kernel)
theorem im_X12_trusts : Cond.instanceMethod yX12_trusts ∈ lw_ok := lw_at 1638 (by decide +kernel) (by decide +kernel)
theorem sl_X12_X12_trusts : Cond.selects RX12 yX12_trusts yX12_trusts ∈ lw_ok := lw_at 1639 (by decide +kernel) (by decide +kernel)
theorem lk_L_119 : zLV RL 119 RX12 yX12_trusts cX12_trusts 3 (some .int) 2 := ⟨cd_X12_trusts, lw_at 1637 (by decide +kernel) (by decide +kernel), im_X12_trusts, sl_X12_X12_trusts, it_X12, by decide +kernel⟩
theorem cd_X11_convicts : Cond.code yX11_convicts cX11_convicts 2 (some .int) ∈ lw_ok := lw_at 784 (by decide +kernel) (by decide +kernel)
theorem im_X11_convicts : Cond.instanceMethod yX11_convicts ∈ lw_ok := lw_at 782 (by decide +kernel) (by decide +kernel)
theorem sl_X11_X11_convicts : Cond.selects RX11 yX11_convicts yX11_convicts ∈ lw_ok := lw_at 783 (by decide +kernel) (by decide +kernel)
theorem lk_L_120 : zLV RL 120 RX11 yX11_convicts cX11_convicts 2 (some .int) 1 := ⟨cd_X11_convicts, lw_at 781 (by decide +kernel) (by decide +kernel), im_X11_convicts, sl_X11_X11_convicts, it_X11, by decide +kernel⟩
theorem cd_X12_convicts : Cond.code yX12_convicts cX12_convicts 5 (some .int) ∈ lw_ok := lw_at 1645 (by decide +kernel) (by decide +kernel)
theorem im_X12_convicts : Cond.instanceMethod yX12_convicts ∈ lw_ok := lw_at 1643 (by decide +kernel) (by decide +kernel)
theorem sl_X12_X12_convicts : Cond.selects RX12 yX12_convicts yX12_convicts ∈ lw_ok := lw_at 1644 (by decide +kernel) (by decide +kernel)
theorem lk_L_123 : zLV RL 123 RX12 yX12_convicts cX12_convicts 5 (some .int) 1 := ⟨cd_X12_convicts, lw_at 1642 (by decide +kernel) (by decide +kernel), im_X12_convicts, sl_X12_X12_convicts, it_X12, by decide +kernel⟩
theorem cd_X11_all : Cond.code yX11_all cX11_all 2 (some .int) ∈ lw_ok := lw_at 788 (by decide +kernel) (by decide +kernel)
theorem im_X11_all : Cond.instanceMethod yX11_all ∈ lw_ok := lw_at 786 (by decide +kernel) (by decide +kernel)
theorem sl_X11_X11_all : Cond.selects RX11 yX11_all yX11_all ∈ lw_ok := lw_at 787 (by decide +kernel) (by decide +kernel)
theorem lk_L_124 : zLV RL 124 RX11 yX11_all cX11_all 2 (some .int) 1 := ⟨cd_X11_all, lw_at 785 (by decide +kernel) (by decide +kernel), im_X11_all, sl_X11_X11_all, it_X11, by decide +kernel⟩
theorem cd_X12_all : Cond.code yX12_all cX12_all 4 (some .int) ∈ lw_ok := lw_at 1649 (by decide +kernel) (by decide +kernel)
theorem im_X12_all : Cond.instanceMethod yX12_all ∈ lw_ok := lw_at 1647 (by decide +kernel) (by decide +kernel)
theorem sl_X12_X12_all : Cond.selects RX12 yX12_all yX12_all ∈ lw_ok := lw_at 1648 (by decide +kernel) (by decide +kernel)
theorem lk_L_127 : zLV RL 127 RX12 yX12_all cX12_all 4 (some .int) 1 := ⟨cd_X12_all, lw_at 1646 (by decide +kernel) (by decide +kernel), im_X12_all, sl_X12_X12_all, it_X12, by decide +kernel⟩
theorem cd_X11_empty : Cond.code yX11_empty cX11_empty 1 (some .int) ∈ lw_ok := lw_at 803 (by decide +kernel) (by decide +kernel)
theorem im_X11_empty : Cond.instanceMethod yX11_empty ∈ lw_ok := lw_at 801 (by decide +kernel) (by decide +kernel)
theorem sl_X11_X11_empty : Cond.selects RX11 yX11_empty yX11_empty ∈ lw_ok := lw_at 802 (by decide +kernel) (by decide +kernel)
theorem lk_L_128 : zLV RL 128 RX11 yX11_empty cX11_empty 1 (some .int) 0 := ⟨cd_X11_empty, lw_at 800 (by decide +kernel) (by decide +kernel), im_X11_empty, sl_X11_X11_empty, it_X11, by decide +kernel⟩
theorem cd_X12_empty : Cond.code yX12_empty cX12_empty 3 (some .int) ∈ lw_ok := lw_at 1661 (by decide +kernel) (by decide +kernel)
theorem im_X12_empty : Cond.instanceMethod yX12_empty ∈ lw_ok := lw_at 1659 (by decide +kernel) (by decide +kernel)
theorem sl_X12_X12_empty : Cond.selects RX12 yX12_empty yX12_empty ∈ lw_ok := lw_at 1660 (by decide +kernel) (by decide +kernel)
theorem lk_L_131 : zLV RL 131 RX12 yX12_empty cX12_empty 3 (some .int) 0 := ⟨cd_X12_empty, lw_at 1658 (by decide +kernel) (by decide +kernel), im_X12_empty, sl_X12_X12_empty, it_X12, by decide +kernel⟩
theorem cd_X11_chain : Cond.code yX11_chain cX11_chain 4 (some .int) ∈ lw_ok := lw_at 811 (by decide +kernel) (by decide +kernel)
theorem im_X11_chain : Cond.instanceMethod yX11_chain ∈ lw_ok := lw_at 809 (by decide +kernel) (by decide +kernel)
theorem sl_X11_X11_chain : Cond.selects RX11 yX11_chain yX11_chain ∈ lw_ok := lw_at 810 (by decide +kernel) (by decide +kernel)
theorem lk_L_132 : zLV RL 132 RX11 yX11_chain cX11_chain 4 (some .int) 2 := ⟨cd_X11_chain, lw_at 808 (by decide +kernel) (by decide +kernel), im_X11_chain, sl_X11_X11_chain, it_X11, by decide +kernel⟩
theorem cd_X12_chain : Cond.code yX12_chain cX12_chain 6 (some .int) ∈ lw_ok := lw_at 1665 (by decide +kernel) (by decide +kernel)
theorem im_X12_chain : Cond.instanceMethod yX12_chain ∈ lw_ok := lw_at 1663 (by decide +kernel) (by decide +kernel)
theorem sl_X12_X12_chain : Cond.selects RX12 yX12_chain yX12_chain ∈ lw_ok := lw_at 1664 (by decide +kernel) (by decide +kernel)
theorem lk_L_135 : zLV RL 135 RX12 yX12_chain cX12_chain 6 (some .int) 2 := ⟨cd_X12_chain, lw_at 1662 (by decide +kernel) (by decide +kernel), im_X12_chain, sl_X12_X12_chain, it_X12, by decide +kernel⟩
theorem cd_X11_sorts : Cond.code yX11_sorts cX11_sorts 1 (some .int) ∈ lw_ok := lw_at 834 (by decide +kernel) (by decide +kernel)
theorem im_X11_sorts : Cond.instanceMethod yX11_sorts ∈ lw_ok := lw_at 832 (by decide +kernel) (by decide +kernel)
theorem sl_X11_X11_sorts : Cond.selects RX11 yX11_sorts yX11_sorts ∈ lw_ok := lw_at 833 (by decide +kernel) (by decide +kernel)
theorem lk_L_136 : zLV RL 136 RX11 yX11_sorts cX11_sorts 1 (some .int) 0 := ⟨cd_X11_sorts, lw_at 831 (by decide +kernel) (by decide +kernel), im_X11_sorts, sl_X11_X11_sorts, it_X11, by decide +kernel⟩
theorem cd_X12_sorts : Cond.code yX12_sorts cX12_sorts 1 (some .int) ∈ lw_ok := lw_at 1686 (by decide +kernel) (by decide +kernel)
theorem im_X12_sorts : Cond.instanceMethod yX12_sorts ∈ lw_ok := lw_at 1684 (by decide +kernel) (by decide +kernel)
theorem sl_X12_X12_sorts : Cond.selects RX12 yX12_sorts yX12_sorts ∈ lw_ok := lw_at 1685 (by decide +kernel) (by decide +kernel)
theorem lk_L_139 : zLV RL 139 RX12 yX12_sorts cX12_sorts 1 (some .int) 0 := ⟨cd_X12_sorts, lw_at 1683 (by decide +kernel) (by decide +kernel), im_X12_sorts, sl_X12_X12_sorts, it_X12, by decide +kernel⟩
theorem cd_X11_sort : Cond.code yX11_sort cX11_sort 2 (some .int) ∈ lw_ok := lw_at 861 (by decide +kernel) (by decide +kernel)
theorem im_X11_sort : Cond.instanceMethod yX11_sort ∈ lw_ok := lw_at 859 (by decide +kernel) (by decide +kernel)
theorem sl_X11_X11_sort : Cond.selects RX11 yX11_sort yX11_sort ∈ lw_ok := lw_at 860 (by decide +kernel) (by decide +kernel)
theorem lk_L_140 : zLV RL 140 RX11 yX11_sort cX11_sort 2 (some .int) 1 := ⟨cd_X11_sort, lw_at 858 (by decide +kernel) (by decide +kernel), im_X11_sort, sl_X11_X11_sort, it_X11, by decide +kernel⟩
theorem cd_X12_sort : Cond.code yX12_sort cX12_sort 4 (some .int) ∈ lw_ok := lw_at 1704 (by decide +kernel) (by decide +kernel)
theorem im_X12_sort : Cond.instanceMethod yX12_sort ∈ lw_ok := lw_at 1702 (by decide +kernel) (by decide +kernel)
theorem sl_X12_X12_sort : Cond.selects RX12 yX12_sort yX12_sort ∈ lw_ok := lw_at 1703 (by decide +kernel) (by decide +kernel)
theorem lk_L_143 : zLV RL 143 RX12 yX12_sort cX12_sort 4 (some .int) 1 := ⟨cd_X12_sort, lw_at 1701 (by decide +kernel) (by decide +kernel), im_X12_sort, sl_X12_X12_sort, it_X12, by decide +kernel⟩
theorem cd_X11_both : Cond.code yX11_both cX11_both 3 (some .int) ∈ lw_ok := lw_at 877 (by decide +kernel) (by decide +kernel)
theorem im_X11_both : Cond.instanceMethod yX11_both ∈ lw_ok := lw_at 875 (by decide +kernel) (by decide +kernel)
theorem sl_X11_X11_both : Cond.selects RX11 yX11_both yX11_both ∈ lw_ok := lw_at 876 (by decide +kernel) (by decide +kernel)
theorem lk_L_144 : zLV RL 144 RX11 yX11_both cX11_both 3 (some .int) 2 := ⟨cd_X11_both, lw_at 874 (by decide +kernel) (by decide +kernel), im_X11_both, sl_X11_X11_both, it_X11, by decide +kernel⟩
theorem cd_X12_both : Cond.code yX12_both cX12_both 3 (some .int) ∈ lw_ok := lw_at 1708 (by decide +kernel) (by decide +kernel)
theorem im_X12_both : Cond.instanceMethod yX12_both ∈ lw_ok := lw_at 1706 (by decide +kernel) (by decide +kernel)
theorem sl_X12_X12_both : Cond.selects RX12 yX12_both yX12_both ∈ lw_ok := lw_at 1707 (by decide +kernel) (by decide +kernel)
theorem lk_L_147 : zLV RL 147 RX12 yX12_both cX12_both 3 (some .int) 2 := ⟨cd_X12_both, lw_at 1705 (by decide +kernel) (by decide +kernel), im_X12_both, sl_X12_X12_both, it_X12, by decide +kernel⟩
theorem cd_X11_town : Cond.code yX11_town cX11_town 1 (some .int) ∈ lw_ok := lw_at 885 (by decide +kernel) (by decide +kernel)
theorem im_X11_town : Cond.instanceMethod yX11_town ∈ lw_ok := lw_at 883 (by decide +kernel) (by decide +kernel)
theorem sl_X11_X11_town : Cond.selects RX11 yX11_town yX11_town ∈ lw_ok := lw_at 884 (by decide +kernel) (by decide +kernel)
theorem lk_L_148 : zLV RL 148 RX11 yX11_town cX11_town 1 (some .int) 0 := ⟨cd_X11_town, lw_at 882 (by decide +kernel) (by decide +kernel), im_X11_town, sl_X11_X11_town, it_X11, by decide +kernel⟩
theorem cd_X12_town : Cond.code yX12_town cX12_town 1 (some .int) ∈ lw_ok := lw_at 1712 (by decide +kernel) (by decide +kernel)
theorem im_X12_town : Cond.instanceMethod yX12_town ∈ lw_ok := lw_at 1710 (by decide +kernel) (by decide +kernel)
theorem sl_X12_X12_town : Cond.selects RX12 yX12_town yX12_town ∈ lw_ok := lw_at 1711 (by decide +kernel) (by decide +kernel)
theorem lk_L_151 : zLV RL 151 RX12 yX12_town cX12_town 1 (some .int) 0 := ⟨cd_X12_town, lw_at 1709 (by decide +kernel) (by decide +kernel), im_X12_town, sl_X12_X12_town, it_X12, by decide +kernel⟩
theorem cd_X11_refute : Cond.code yX11_refute cX11_refute 2 (some .int) ∈ lw_ok := lw_at 932 (by decide +kernel) (by decide +kernel)
theorem im_X11_refute : Cond.instanceMethod yX11_refute ∈ lw_ok := lw_at 930 (by decide +kernel) (by decide +kernel)
theorem sl_X11_X11_refute : Cond.selects RX11 yX11_refute yX11_refute ∈ lw_ok := lw_at 931 (by decide +kernel) (by decide +kernel)
theorem lk_L_152 : zLV RL 152 RX11 yX11_refute cX11_refute 2 (some .int) 1 := ⟨cd_X11_refute, lw_at 929 (by decide +kernel) (by decide +kernel), im_X11_refute, sl_X11_X11_refute, it_X11, by decide +kernel⟩
theorem cd_X12_refute : Cond.code yX12_refute cX12_refute 2 (some .int) ∈ lw_ok := lw_at 1732 (by decide +kernel) (by decide +kernel)
theorem im_X12_refute : Cond.instanceMethod yX12_refute ∈ lw_ok := lw_at 1730 (by decide +kernel) (by decide +kernel)
theorem sl_X12_X12_refute : Cond.selects RX12 yX12_refute yX12_refute ∈ lw_ok := lw_at 1731 (by decide +kernel) (by decide +kernel)
theorem lk_L_155 : zLV RL 155 RX12 yX12_refute cX12_refute 2 (some .int) 1 := ⟨cd_X12_refute, lw_at 1729 (by decide +kernel) (by decide +kernel), im_X12_refute, sl_X12_X12_refute, it_X12, by decide +kernel⟩
theorem cd_X11_judge : Cond.code yX11_judge cX11_judge 8 (some .int) ∈ lw_ok := lw_at 936 (by decide +kernel) (by decide +kernel)
theorem im_X11_judge : Cond.instanceMethod yX11_judge ∈ lw_ok := lw_at 934 (by decide +kernel) (by decide +kernel)
theorem sl_X11_X11_judge : Cond.selects RX11 yX11_judge yX11_judge ∈ lw_ok := lw_at 935 (by decide +kernel) (by decide +kernel)
theorem lk_L_156 : zLV RL 156 RX11 yX11_judge cX11_judge 8 (some .int) 3 := ⟨cd_X11_judge, lw_at 933 (by decide +kernel) (by decide +kernel), im_X11_judge, sl_X11_X11_judge, it_X11, by decide +kernel⟩
theorem cd_X12_judge : Cond.code yX12_judge cX12_judge 7 (some .int) ∈ lw_ok := lw_at 1736 (by decide +kernel) (by decide +kernel)
theorem im_X12_judge : Cond.instanceMethod yX12_judge ∈ lw_ok := lw_at 1734 (by decide +kernel) (by decide +kernel)
theorem sl_X12_X12_judge : Cond.selects RX12 yX12_judge yX12_judge ∈ lw_ok := lw_at 1735 (by decide +kernel) (by decide +kernel)
theorem lk_L_160 : zLV RL 160 RX12 yX12_judge cX12_judge 7 (some .int) 3 := ⟨cd_X12_judge, lw_at 1733 (by decide +kernel) (by decide +kernel), im_X12_judge, sl_X12_X12_judge, it_X12, by decide +kernel⟩
theorem cd_X11_mood : Cond.code yX11_mood cX11_mood 6 (some .int) ∈ lw_ok := lw_at 955 (by decide +kernel) (by decide +kernel)
theorem im_X11_mood : Cond.instanceMethod yX11_mood ∈ lw_ok := lw_at 953 (by decide +kernel) (by decide +kernel)
theorem sl_X11_X11_mood : Cond.selects RX11 yX11_mood yX11_mood ∈ lw_ok := lw_at 954 (by decide +kernel) (by decide +kernel)
theorem lk_L_161 : zLV RL 161 RX11 yX11_mood cX11_mood 6 (some .int) 4 := ⟨cd_X11_mood, lw_at 952 (by decide +kernel) (by decide +kernel), im_X11_mood, sl_X11_X11_mood, it_X11, by decide +kernel⟩
theorem cd_X12_mood : Cond.code yX12_mood cX12_mood 8 (some .int) ∈ lw_ok := lw_at 1744 (by decide +kernel) (by decide +kernel)
theorem im_X12_mood : Cond.instanceMethod yX12_mood ∈ lw_ok := lw_at 1742 (by decide +kernel) (by decide +kernel)
theorem sl_X12_X12_mood : Cond.selects RX12 yX12_mood yX12_mood ∈ lw_ok := lw_at 1743 (by decide +kernel) (by decide +kernel)
theorem lk_L_164 : zLV RL 164 RX12 yX12_mood cX12_mood 8 (some .int) 4 := ⟨cd_X12_mood, lw_at 1741 (by decide +kernel) (by decide +kernel), im_X12_mood, sl_X12_X12_mood, it_X12, by decide +kernel⟩
theorem cd_X11_figure : Cond.code yX11_figure cX11_figure 6 (some .int) ∈ lw_ok := lw_at 993 (by decide +kernel) (by decide +kernel)
theorem im_X11_figure : Cond.instanceMethod yX11_figure ∈ lw_ok := lw_at 991 (by decide +kernel) (by decide +kernel)
theorem sl_X11_X11_figure : Cond.selects RX11 yX11_figure yX11_figure ∈ lw_ok := lw_at 992 (by decide +kernel) (by decide +kernel)
theorem lk_L_165 : zLV RL 165 RX11 yX11_figure cX11_figure 6 (some .int) 1 := ⟨cd_X11_figure, lw_at 990 (by decide +kernel) (by decide +kernel), im_X11_figure, sl_X11_X11_figure, it_X11, by decide +kernel⟩
theorem cd_X12_figure : Cond.code yX12_figure cX12_figure 6 (some .int) ∈ lw_ok := lw_at 1776 (by decide +kernel) (by decide +kernel)
theorem im_X12_figure : Cond.instanceMethod yX12_figure ∈ lw_ok := lw_at 1774 (by decide +kernel) (by decide +kernel)
theorem sl_X12_X12_figure : Cond.selects RX12 yX12_figure yX12_figure ∈ lw_ok := lw_at 1775 (by decide +kernel) (by decide +kernel)
theorem lk_L_168 : zLV RL 168 RX12 yX12_figure cX12_figure 6 (some .int) 1 := ⟨cd_X12_figure, lw_at 1773 (by decide +kernel) (by decide +kernel), im_X12_figure, sl_X12_X12_figure, it_X12, by decide +kernel⟩
theorem cd_X11_forms : Cond.code yX11_forms cX11_forms 5 (some .int) ∈ lw_ok := lw_at 997 (by decide +kernel) (by decide +kernel)
theorem im_X11_forms : Cond.instanceMethod yX11_forms ∈ lw_ok := lw_at 995 (by decide +kernel) (by decide +kernel)
theorem sl_X11_X11_forms : Cond.selects RX11 yX11_forms yX11_forms ∈ lw_ok := lw_at 996 (by decide +kernel) (by decide +kernel)
theorem lk_L_169 : zLV RL 169 RX11 yX11_forms cX11_forms 5 (some .int) 2 := ⟨cd_X11_forms, lw_at 994 (by decide +kernel) (by decide +kernel), im_X11_forms, sl_X11_X11_forms, it_X11, by decide +kernel⟩
theorem cd_X12_forms : Cond.code yX12_forms cX12_forms 5 (some .int) ∈ lw_ok := lw_at 1780 (by decide +kernel) (by decide +kernel)
theorem im_X12_forms : Cond.instanceMethod yX12_forms ∈ lw_ok := lw_at 1778 (by decide +kernel) (by decide +kernel)
theorem sl_X12_X12_forms : Cond.selects RX12 yX12_forms yX12_forms ∈ lw_ok := lw_at 1779 (by decide +kernel) (by decide +kernel)
theorem lk_L_172 : zLV RL 172 RX12 yX12_forms cX12_forms 5 (some .int) 2 := ⟨cd_X12_forms, lw_at 1777 (by decide +kernel) (by decide +kernel), im_X12_forms, sl_X12_X12_forms, it_X12, by decide +kernel⟩
theorem cd_X11_allow : Cond.code yX11_allow cX11_allow 3 (some .int) ∈ lw_ok := lw_at 1001 (by decide +kernel) (by decide +kernel)
theorem im_X11_allow : Cond.instanceMethod yX11_allow ∈ lw_ok := lw_at 999 (by decide +kernel) (by decide +kernel)
theorem sl_X11_X11_allow : Cond.selects RX11 yX11_allow yX11_allow ∈ lw_ok := lw_at 1000 (by decide +kernel) (by decide +kernel)
theorem lk_L_173 : zLV RL 173 RX11 yX11_allow cX11_allow 3 (some .int) 1 := ⟨cd_X11_allow, lw_at 998 (by decide +kernel) (by decide +kernel), im_X11_allow, sl_X11_X11_allow, it_X11, by decide +kernel⟩
theorem cd_X12_allow : Cond.code yX12_allow cX12_allow 3 (some .int) ∈ lw_ok := lw_at 1784 (by decide +kernel) (by decide +kernel)
theorem im_X12_allow : Cond.instanceMethod yX12_allow ∈ lw_ok := lw_at 1782 (by decide +kernel) (by decide +kernel)
theorem sl_X12_X12_allow : Cond.selects RX12 yX12_allow yX12_allow ∈ lw_ok := lw_at 1783 (by decide +kernel) (by decide +kernel)
theorem lk_L_176 : zLV RL 176 RX12 yX12_allow cX12_allow 3 (some .int) 1 := ⟨cd_X12_allow, lw_at 1781 (by decide +kernel) (by decide +kernel), im_X12_allow, sl_X12_X12_allow, it_X12, by decide +kernel⟩
theorem cd_X11_step : Cond.code yX11_step cX11_step 5 (some .int) ∈ lw_ok := lw_at 1006 (by decide +kernel) (by decide +kernel)
theorem im_X11_step : Cond.instanceMethod yX11_step ∈ lw_ok := lw_at 1004 (by decide +kernel) (by decide +kernel)
theorem sl_X11_X11_step : Cond.selects RX11 yX11_step yX11_step ∈ lw_ok := lw_at 1005 (by decide +kernel) (by decide +kernel)
theorem lk_L_177 : zLV RL 177 RX11 yX11_step cX11_step 5 (some .int) 3 := ⟨cd_X11_step, lw_at 1003 (by decide +kernel) (by decide +kernel), im_X11_step, sl_X11_X11_step, it_X11, by decide +kernel⟩
theorem cd_X12_step : Cond.code yX12_step cX12_step 5 (some .int) ∈ lw_ok := lw_at 1789 (by decide +kernel) (by decide +kernel)
theorem im_X12_step : Cond.instanceMethod yX12_step ∈ lw_ok := lw_at 1787 (by decide +kernel) (by decide +kernel)
theorem sl_X12_X12_step : Cond.selects RX12 yX12_step yX12_step ∈ lw_ok := lw_at 1788 (by decide +kernel) (by decide +kernel)
theorem lk_L_180 : zLV RL 180 RX12 yX12_step cX12_step 5 (some .int) 3 := ⟨cd_X12_step, lw_at 1786 (by decide +kernel) (by decide +kernel), im_X12_step, sl_X12_X12_step, it_X12, by decide +kernel⟩
theorem cd_X11_proof : Cond.code yX11_proof cX11_proof 3 (some .int) ∈ lw_ok := lw_at 1042 (by decide +kernel) (by decide +kernel)
theorem im_X11_proof : Cond.instanceMethod yX11_proof ∈ lw_ok := lw_at 1040 (by decide +kernel) (by decide +kernel)
theorem sl_X11_X11_proof : Cond.selects RX11 yX11_proof yX11_proof ∈ lw_ok := lw_at 1041 (by decide +kernel) (by decide +kernel)
theorem lk_L_181 : zLV RL 181 RX11 yX11_proof cX11_proof 3 (some .int) 1 := ⟨cd_X11_proof, lw_at 1039 (by decide +kernel) (by decide +kernel), im_X11_proof, sl_X11_X11_proof, it_X11, by decide +kernel⟩
theorem cd_X12_proof : Cond.code yX12_proof cX12_proof 3 (some .int) ∈ lw_ok := lw_at 1875 (by decide +kernel) (by decide +kernel)
theorem im_X12_proof : Cond.instanceMethod yX12_proof ∈ lw_ok := lw_at 1873 (by decide +kernel) (by decide +kernel)
theorem sl_X12_X12_proof : Cond.selects RX12 yX12_proof yX12_proof ∈ lw_ok := lw_at 1874 (by decide +kernel) (by decide +kernel)
theorem lk_L_184 : zLV RL 184 RX12 yX12_proof cX12_proof 3 (some .int) 1 := ⟨cd_X12_proof, lw_at 1872 (by decide +kernel) (by decide +kernel), im_X12_proof, sl_X12_X12_proof, it_X12, by decide +kernel⟩
theorem cd_X11_rests : Cond.code yX11_rests cX11_rests 2 (some .int) ∈ lw_ok := lw_at 1113 (by decide +kernel) (by decide +kernel)
theorem im_X11_rests : Cond.instanceMethod yX11_rests ∈ lw_ok := lw_at 1111 (by decide +kernel) (by decide +kernel)
theorem sl_X11_X11_rests : Cond.selects RX11 yX11_rests yX11_rests ∈ lw_ok := lw_at 1112 (by decide +kernel) (by decide +kernel)
theorem lk_L_185 : zLV RL 185 RX11 yX11_rests cX11_rests 2 (some .int) 1 := ⟨cd_X11_rests, lw_at 1110 (by decide +kernel) (by decide +kernel), im_X11_rests, sl_X11_X11_rests, it_X11, by decide +kernel⟩
theorem cd_X12_rests : Cond.code yX12_rests cX12_rests 3 (some .int) ∈ lw_ok := lw_at 1897 (by decide +kernel) (by decide +kernel)
theorem im_X12_rests : Cond.instanceMethod yX12_rests ∈ lw_ok := lw_at 1895 (by decide +kernel) (by decide +kernel)
theorem sl_X12_X12_rests : Cond.selects RX12 yX12_rests yX12_rests ∈ lw_ok := lw_at 1896 (by decide +kernel) (by decide +kernel)
theorem lk_L_188 : zLV RL 188 RX12 yX12_rests cX12_rests 3 (some .int) 1 := ⟨cd_X12_rests, lw_at 1894 (by decide +kernel) (by decide +kernel), im_X12_rests, sl_X12_X12_rests, it_X12, by decide +kernel⟩
theorem cd_X11_proved : Cond.code yX11_proved cX11_proved 1 (some .int) ∈ lw_ok := lw_at 1133 (by decide +kernel) (by decide +kernel)
theorem im_X11_proved : Cond.instanceMethod yX11_proved ∈ lw_ok := lw_at 1131 (by decide +kernel) (by decide +kernel)
theorem sl_X11_X11_proved : Cond.selects RX11 yX11_proved yX11_proved ∈ lw_ok := lw_at 1132 (by decide +kernel) (by decide +kernel)
theorem lk_L_189 : zLV RL 189 RX11 yX11_proved cX11_proved 1 (some .int) 0 := ⟨cd_X11_proved, lw_at 1130 (by decide +kernel) (by decide +kernel), im_X11_proved, sl_X11_X11_proved, it_X11, by decide +kernel⟩
theorem cd_X12_proved : Cond.code yX12_proved cX12_proved 4 (some .int) ∈ lw_ok := lw_at 1906 (by decide +kernel) (by decide +kernel)
theorem im_X12_proved : Cond.instanceMethod yX12_proved ∈ lw_ok := lw_at 1904 (by decide +kernel) (by decide +kernel)
theorem sl_X12_X12_proved : Cond.selects RX12 yX12_proved yX12_proved ∈ lw_ok := lw_at 1905 (by decide +kernel) (by decide +kernel)
theorem lk_L_192 : zLV RL 192 RX12 yX12_proved cX12_proved 4 (some .int) 0 := ⟨cd_X12_proved, lw_at 1903 (by decide +kernel) (by decide +kernel), im_X12_proved, sl_X12_X12_proved, it_X12, by decide +kernel⟩
theorem cd_X11_gap : Cond.code yX11_gap cX11_gap 4 (some .int) ∈ lw_ok := lw_at 1138 (by decide +kernel) (by decide +kernel)
theorem im_X11_gap : Cond.instanceMethod yX11_gap ∈ lw_ok := lw_at 1136 (by decide +kernel) (by decide +kernel)
theorem sl_X11_X11_gap : Cond.selects RX11 yX11_gap yX11_gap ∈ lw_ok := lw_at 1137 (by decide +kernel) (by decide +kernel)
theorem lk_L_193 : zLV RL 193 RX11 yX11_gap cX11_gap 4 (some .int) 0 := ⟨cd_X11_gap, lw_at 1135 (by decide +kernel) (by decide +kernel), im_X11_gap, sl_X11_X11_gap, it_X11, by decide +kernel⟩
theorem cd_X12_gap : Cond.code yX12_gap cX12_gap 3 (some .int) ∈ lw_ok := lw_at 1910 (by decide +kernel) (by decide +kernel)
theorem im_X12_gap : Cond.instanceMethod yX12_gap ∈ lw_ok := lw_at 1908 (by decide +kernel) (by decide +kernel)
theorem sl_X12_X12_gap : Cond.selects RX12 yX12_gap yX12_gap ∈ lw_ok := lw_at 1909 (by decide +kernel) (by decide +kernel)
theorem lk_L_196 : zLV RL 196 RX12 yX12_gap cX12_gap 3 (some .int) 0 := ⟨cd_X12_gap, lw_at 1907 (by decide +kernel) (by decide +kernel), im_X12_gap, sl_X12_X12_gap, it_X12, by decide +kernel⟩
theorem cd_X11_plead : Cond.code yX11_plead cX11_plead 2 (some .int) ∈ lw_ok := lw_at 1142 (by decide +kernel) (by decide +kernel)
theorem im_X11_plead : Cond.instanceMethod yX11_plead ∈ lw_ok := lw_at 1140 (by decide +kernel) (by decide +kernel)
theorem sl_X11_X11_plead : Cond.selects RX11 yX11_plead yX11_plead ∈ lw_ok := lw_at 1141 (by decide +kernel) (by decide +kernel)
theorem lk_L_197 : zLV RL 197 RX11 yX11_plead cX11_plead 2 (some .int) 0 := ⟨cd_X11_plead, lw_at 1139 (by decide +kernel) (by decide +kernel), im_X11_plead, sl_X11_X11_plead, it_X11, by decide +kernel⟩
theorem cd_X12_plead : Cond.code yX12_plead cX12_plead 7 (some .int) ∈ lw_ok := lw_at 1914 (by decide +kernel) (by decide +kernel)
theorem im_X12_plead : Cond.instanceMethod yX12_plead ∈ lw_ok := lw_at 1912 (by decide +kernel) (by decide +kernel)
theorem sl_X12_X12_plead : Cond.selects RX12 yX12_plead yX12_plead ∈ lw_ok := lw_at 1913 (by decide +kernel) (by decide +kernel)
theorem lk_L_200 : zLV RL 200 RX12 yX12_plead cX12_plead 7 (some .int) 0 := ⟨cd_X12_plead, lw_at 1911 (by decide +kernel) (by decide +kernel), im_X12_plead, sl_X12_X12_plead, it_X12, by decide +kernel⟩
theorem cd_X12_pleaded : Cond.code yX12_pleaded cX12_pleaded 4 (some .int) ∈ lw_ok := lw_at 1942 (by decide +kernel) (by decide +kernel)
theorem im_X12_pleaded : Cond.instanceMethod yX12_pleaded ∈ lw_ok := lw_at 1940 (by decide +kernel) (by decide +kernel)
theorem sl_X12_X12_pleaded : Cond.selects RX12 yX12_pleaded yX12_pleaded ∈ lw_ok := lw_at 1941 (by decide +kernel) (by decide +kernel)
theorem lk_L_203 : zLV RL 203 RX12 yX12_pleaded cX12_pleaded 4 (some .int) 2 := ⟨cd_X12_pleaded, lw_at 1939 (by decide +kernel) (by decide +kernel), im_X12_pleaded, sl_X12_X12_pleaded, it_X12, by decide +kernel⟩
theorem cd_X11_stands : Cond.code yX11_stands cX11_stands 1 (some .int) ∈ lw_ok := lw_at 1204 (by decide +kernel) (by decide +kernel)
theorem im_X11_stands : Cond.instanceMethod yX11_stands ∈ lw_ok := lw_at 1202 (by decide +kernel) (by decide +kernel)
theorem sl_X11_X11_stands : Cond.selects RX11 yX11_stands yX11_stands ∈ lw_ok := lw_at 1203 (by decide +kernel) (by decide +kernel)
theorem lk_L_204 : zLV RL 204 RX11 yX11_stands cX11_stands 1 (some .int) 0 := ⟨cd_X11_stands, lw_at 1201 (by decide +kernel) (by decide +kernel), im_X11_stands, sl_X11_X11_stands, it_X11, by decide +kernel⟩
theorem cd_X12_stands : Cond.code yX12_stands cX12_stands 1 (some .int) ∈ lw_ok := lw_at 1946 (by decide +kernel) (by decide +kernel)
theorem im_X12_stands : Cond.instanceMethod yX12_stands ∈ lw_ok := lw_at 1944 (by decide +kernel) (by decide +kernel)
theorem sl_X12_X12_stands : Cond.selects RX12 yX12_stands yX12_stands ∈ lw_ok := lw_at 1945 (by decide +kernel) (by decide +kernel)
theorem lk_L_207 : zLV RL 207 RX12 yX12_stands cX12_stands 1 (some .int) 0 := ⟨cd_X12_stands, lw_at 1943 (by decide +kernel) (by decide +kernel), im_X12_stands, sl_X12_X12_stands, it_X12, by decide +kernel⟩
theorem cd_X11_marks : Cond.code yX11_marks cX11_marks 3 (some .int) ∈ lw_ok := lw_at 1216 (by decide +kernel) (by decide +kernel)
theorem im_X11_marks : Cond.instanceMethod yX11_marks ∈ lw_ok := lw_at 1214 (by decide +kernel) (by decide +kernel)
theorem sl_X11_X11_marks : Cond.selects RX11 yX11_marks yX11_marks ∈ lw_ok := lw_at 1215 (by decide +kernel) (by decide +kernel)
theorem lk_L_208 : zLV RL 208 RX11 yX11_marks cX11_marks 3 (some .int) 1 := ⟨cd_X11_marks, lw_at 1213 (by decide +kernel) (by decide +kernel), im_X11_marks, sl_X11_X11_marks, it_X11, by decide +kernel⟩
theorem cd_X12_marks : Cond.code yX12_marks cX12_marks 7 (some .int) ∈ lw_ok := lw_at 1958 (by decide +kernel) (by decide +kernel)
theorem im_X12_marks : Cond.instanceMethod yX12_marks ∈ lw_ok := lw_at 1956 (by decide +kernel) (by decide +kernel)
theorem sl_X12_X12_marks : Cond.selects RX12 yX12_marks yX12_marks ∈ lw_ok := lw_at 1957 (by decide +kernel) (by decide +kernel)
theorem lk_L_211 : zLV RL 211 RX12 yX12_marks cX12_marks 7 (some .int) 1 := ⟨cd_X12_marks, lw_at 1955 (by decide +kernel) (by decide +kernel), im_X12_marks, sl_X12_X12_marks, it_X12, by decide +kernel⟩
theorem cd_X11_strike : Cond.code yX11_strike cX11_strike 1 (some .int) ∈ lw_ok := lw_at 1244 (by decide +kernel) (by decide +kernel)
theorem im_X11_strike : Cond.instanceMethod yX11_strike ∈ lw_ok := lw_at 1242 (by decide +kernel) (by decide +kernel)
theorem sl_X11_X11_strike : Cond.selects RX11 yX11_strike yX11_strike ∈ lw_ok := lw_at 1243 (by decide +kernel) (by decide +kernel)
theorem lk_L_212 : zLV RL 212 RX11 yX11_strike cX11_strike 1 (some .int) 0 := ⟨cd_X11_strike, lw_at 1241 (by decide +kernel) (by decide +kernel), im_X11_strike, sl_X11_X11_strike, it_X11, by decide +kernel⟩
theorem cd_X12_strike : Cond.code yX12_strike cX12_strike 1 (some .int) ∈ lw_ok := lw_at 1970 (by decide +kernel) (by decide +kernel)
theorem im_X12_strike : Cond.instanceMethod yX12_strike ∈ lw_ok := lw_at 1968 (by decide +kernel) (by decide +kernel)
theorem sl_X12_X12_strike : Cond.selects RX12 yX12_strike yX12_strike ∈ lw_ok := lw_at 1969 (by decide +kernel) (by decide +kernel)
theorem lk_L_215 : zLV RL 215 RX12 yX12_strike cX12_strike 1 (some .int) 0 := ⟨cd_X12_strike, lw_at 1967 (by decide +kernel) (by decide +kernel), im_X12_strike, sl_X12_X12_strike, it_X12, by decide +kernel⟩
theorem cd_X11_keep : Cond.code yX11_keep cX11_keep 2 (some .boolean) ∈ lw_ok := lw_at 1248 (by decide +kernel) (by decide +kernel)
theorem im_X11_keep : Cond.instanceMethod yX11_keep ∈ lw_ok := lw_at 1246 (by decide +kernel) (by decide +kernel)
theorem sl_X11_X11_keep : Cond.selects RX11 yX11_keep yX11_keep ∈ lw_ok := lw_at 1247 (by decide +kernel) (by decide +kernel)
theorem lk_L_216 : zLV RL 216 RX11 yX11_keep cX11_keep 2 (some .boolean) 1 := ⟨cd_X11_keep, lw_at 1245 (by decide +kernel) (by decide +kernel), im_X11_keep, sl_X11_X11_keep, it_X11, by decide +kernel⟩
theorem cd_X12_keep : Cond.code yX12_keep cX12_keep 2 (some .boolean) ∈ lw_ok := lw_at 1974 (by decide +kernel) (by decide +kernel)
theorem im_X12_keep : Cond.instanceMethod yX12_keep ∈ lw_ok := lw_at 1972 (by decide +kernel) (by decide +kernel)
theorem sl_X12_X12_keep : Cond.selects RX12 yX12_keep yX12_keep ∈ lw_ok := lw_at 1973 (by decide +kernel) (by decide +kernel)
theorem lk_L_219 : zLV RL 219 RX12 yX12_keep cX12_keep 2 (some .boolean) 1 := ⟨cd_X12_keep, lw_at 1971 (by decide +kernel) (by decide +kernel), im_X12_keep, sl_X12_X12_keep, it_X12, by decide +kernel⟩
theorem cd_X11_again : Cond.code yX11_again cX11_again 2 (some .boolean) ∈ lw_ok := lw_at 1256 (by decide +kernel) (by decide +kernel)
theorem im_X11_again : Cond.instanceMethod yX11_again ∈ lw_ok := lw_at 1254 (by decide +kernel) (by decide +kernel)
theorem sl_X11_X11_again : Cond.selects RX11 yX11_again yX11_again ∈ lw_ok := lw_at 1255 (by decide +kernel) (by decide +kernel)
theorem lk_L_220 : zLV RL 220 RX11 yX11_again cX11_again 2 (some .boolean) 1 := ⟨cd_X11_again, lw_at 1253 (by decide +kernel) (by decide +kernel), im_X11_again, sl_X11_X11_again, it_X11, by decide +kernel⟩
theorem cd_X12_again : Cond.code yX12_again cX12_again 3 (some .boolean) ∈ lw_ok := lw_at 1979 (by decide +kernel) (by decide +kernel)
theorem im_X12_again : Cond.instanceMethod yX12_again ∈ lw_ok := lw_at 1977 (by decide +kernel) (by decide +kernel)
theorem sl_X12_X12_again : Cond.selects RX12 yX12_again yX12_again ∈ lw_ok := lw_at 1978 (by decide +kernel) (by decide +kernel)
theorem lk_L_223 : zLV RL 223 RX12 yX12_again cX12_again 3 (some .boolean) 1 := ⟨cd_X12_again, lw_at 1976 (by decide +kernel) (by decide +kernel), im_X12_again, sl_X12_X12_again, it_X12, by decide +kernel⟩
theorem cd_X11_count : Cond.code yX11_count cX11_count 2 (some .int) ∈ lw_ok := lw_at 1264 (by decide +kernel) (by decide +kernel)
theorem im_X11_count : Cond.instanceMethod yX11_count ∈ lw_ok := lw_at 1262 (by decide +kernel) (by decide +kernel)
theorem sl_X11_X11_count : Cond.selects RX11 yX11_count yX11_count ∈ lw_ok := lw_at 1263 (by decide +kernel) (by decide +kernel)
theorem lk_L_224 : zLV RL 224 RX11 yX11_count cX11_count 2 (some .int) 1 := ⟨cd_X11_count, lw_at 1261 (by decide +kernel) (by decide +kernel), im_X11_count, sl_X11_X11_count, it_X11, by decide +kernel⟩
theorem cd_X12_count : Cond.code yX12_count cX12_count 2 (some .int) ∈ lw_ok := lw_at 1983 (by decide +kernel) (by decide +kernel)
theorem im_X12_count : Cond.instanceMethod yX12_count ∈ lw_ok := lw_at 1981 (by decide +kernel) (by decide +kernel)
theorem sl_X12_X12_count : Cond.selects RX12 yX12_count yX12_count ∈ lw_ok := lw_at 1982 (by decide +kernel) (by decide +kernel)
theorem lk_L_227 : zLV RL 227 RX12 yX12_count cX12_count 2 (some .int) 1 := ⟨cd_X12_count, lw_at 1980 (by decide +kernel) (by decide +kernel), im_X12_count, sl_X12_X12_count, it_X12, by decide +kernel⟩
theorem cd_X12_row : Cond.code yX12_row cX12_row 2 (some .int) ∈ lw_ok := lw_at 2126 (by decide +kernel) (by decide +kernel)
theorem im_X12_row : Cond.instanceMethod yX12_row ∈ lw_ok := lw_at 2124 (by decide +kernel) (by decide +kernel)
theorem sl_X12_X12_row : Cond.selects RX12 yX12_row yX12_row ∈ lw_ok := lw_at 2125 (by decide +kernel) (by decide +kernel)
theorem lk_L_231 : zLV RL 231 RX12 yX12_row cX12_row 2 (some .int) 1 := ⟨cd_X12_row, lw_at 2123 (by decide +kernel) (by decide +kernel), im_X12_row, sl_X12_X12_row, it_X12, by decide +kernel⟩
def o_saying (F : Nat) (a b : Int32) (X : Zs) (f : Nat → Int64) (k : Int32) (X2 : Zs) (f2 : Nat → Int64) : Prop := (∃ r, n_X11_saying_0 F X a b = some (r, X2) ∧ k = 0 ∧ f2 (0 : Int32).toNatClampNeg = r.toInt64) ∨ (bad_saying X a b ∧ k = 1 ∧ X2 = X ∧ f2 = f)
def S_saying (F : Nat) (Rel : Zs → Zs → Prop) : Prop := ∀ X M, Rel X M → ∀ a b : Int32, ∃ r M2, n_X12_saying_0 F M a b = some (r, M2) ∧ ((∃ X2, n_X11_saying_0 F X a b = some (r, X2) ∧ ¬ bad_saying X a b ∧ M2.1 0 0 = 0 ∧ Rel X2 M2) ∨ (n_X11_saying_0 F X a b = none ∧ bad_saying X a b ∧ M2.1 0 0 = 1 ∧ Rel X M2))
def o_pleaded (F : Nat) (a b : Int32) (X : Zs) (f : Nat → Int64) (k : Int32) (X2 : Zs) (f2 : Nat → Int64) : Prop := (∃ r, n_X11_pleaded_0 F X a b = some (r, X2) ∧ k = 0 ∧ f2 (0 : Int32).toNatClampNeg = r.toInt64) ∨ (bad_pleaded X a b ∧ k = 1 ∧ X2 = X ∧ f2 = f)
def S_pleaded (F : Nat) (Rel : Zs → Zs → Prop) : Prop := ∀ X M, Rel X M → ∀ a b : Int32, ∃ r M2, n_X12_pleaded_0 F M a b = some (r, M2) ∧ ((∃ X2, n_X11_pleaded_0 F X a b = some (r, X2) ∧ ¬ bad_pleaded X a b ∧ M2.1 0 0 = 0 ∧ Rel X2 M2) ∨ (n_X11_pleaded_0 F X a b = none ∧ bad_pleaded X a b ∧ M2.1 0 0 = 1 ∧ Rel X M2))
def o_row (F : Nat) (a : Int32) (X : Zs) (f : Nat → Int64) (k : Int32) (X2 : Zs) (f2 : Nat → Int64) : Prop := (∃ r, n_X11_row_0 F X a = some (r, X2) ∧ k = 0 ∧ f2 (0 : Int32).toNatClampNeg = r.toInt64) ∨ (bad_row X a ∧ k = 1 ∧ X2 = X ∧ f2 = f)
def S_row (F : Nat) (Rel : Zs → Zs → Prop) : Prop := ∀ X M, Rel X M → ∀ a : Int32, ∃ r M2, n_X12_row_0 F M a = some (r, M2) ∧ ((∃ X2, n_X11_row_0 F X a = some (r, X2) ∧ ¬ bad_row X a ∧ M2.1 0 0 = 0 ∧ Rel X2 M2) ∨ (n_X11_row_0 F X a = none ∧ bad_row X a ∧ M2.1 0 0 = 1 ∧ Rel X M2))
theorem lg_cmp_self (z : Int64) : lg_cmp z z = 0 := by simp [lg_cmp]
def lTr (p : Program) (l : Launch) (e : Env) (s : State) (m : MethodId) (args : Array Value) (below : List Frame) (meth : Method) (c : Code) (Q : State → Prop) (D : va_G) (cs ad am : Nat → Nat) (o : Nat) (pc : Nat) (As : List Value) (pre : Zs → Prop) (out : Zs → (Nat → Int64) → Int32 → Zs → (Nat → Int64) → Prop) : Prop :=
  ∀ (X M : Zs) (f : Nat → Int64) (H : Heap) (locs : List Loc) (K N : Nat) (ls : Array Slot), lW D cs ad am o s X M f H locs → pre X → K ≤ 2000 → N ≤ 200000 → ls.size = 7 → (∀ (k : Int32) (X2 : Zs) (f2 : Nat → Int64) (H1 : Heap) (locs1 : List Loc), out X f k X2 f2 → lW D cs ad am o s X2 M f2 H1 locs1 → W p l e room_1 s m args below meth c H1 locs1 (K + 2) (N + 40) Q (F0 m (pc + 3) ls [.int k])) → W p l e room_1 s m args below meth c H locs K N Q (F0 m pc ls (.ref o :: (As.reverse ++ [.ref (ad 0)])))
def S_sign (F : Nat) (Rel : Zs → Zs → Prop) : Prop := ∀ X M, Rel X M → ∀ a0 : Int32, ∃ r X2 M2, n_X11_sign_0 F X a0 = some (r, X2) ∧ n_X12_sign_0 F M a0 = some (r, M2) ∧ Rel X2 M2
def S_end (F : Nat) (Rel : Zs → Zs → Prop) : Prop := ∀ X M, Rel X M → ∀ a0 : Int32, ∃ r X2 M2, n_X11_end_0 F X a0 = some (r, X2) ∧ n_X12_end_0 F M a0 = some (r, M2) ∧ Rel X2 M2
def S_told (F : Nat) (Rel : Zs → Zs → Prop) : Prop := ∀ X M, Rel X M → ∃ r X2 M2, n_X11_told_0 F X = some (r, X2) ∧ n_X12_told_0 F M = some (r, M2) ∧ Rel X2 M2
def S_mark (F : Nat) (Rel : Zs → Zs → Prop) : Prop := ∀ X M, Rel X M → ∀ a0 a1 a2 : Int32, ∃ r X2 M2, n_X11_mark_0 F X a0 a1 a2 = some (r, X2) ∧ n_X12_mark_0 F M a0 a1 a2 = some (r, M2) ∧ Rel X2 M2
def S_lives (F : Nat) (Rel : Zs → Zs → Prop) : Prop := ∀ X M, Rel X M → ∀ a0 a1 : Int32, ∃ r X2 M2, n_X11_lives_0 F X a0 a1 = some (r, X2) ∧ n_X12_lives_0 F M a0 a1 = some (r, M2) ∧ Rel X2 M2
def S_want (F : Nat) (Rel : Zs → Zs → Prop) : Prop := ∀ X M, Rel X M → ∀ a0 : Int32, ∃ r X2 M2, n_X11_want_0 F X a0 = some (r, X2) ∧ n_X12_want_0 F M a0 = some (r, M2) ∧ Rel X2 M2
def S_forget (F : Nat) (Rel : Zs → Zs → Prop) : Prop := ∀ X M, Rel X M → ∃ r X2 M2, n_X11_forget_0 F X = some (r, X2) ∧ n_X12_forget_0 F M = some (r, M2) ∧ Rel X2 M2
def S_sheet (F : Nat) (Rel : Zs → Zs → Prop) : Prop := ∀ X M, Rel X M → ∀ a0 a1 a2 a3 : Int32, ∃ r X2 M2, n_X11_sheet_0 F X a0 a1 a2 a3 = some (r, X2) ∧ n_X12_sheet_0 F M a0 a1 a2 a3 = some (r, M2) ∧ Rel X2 M2
def S_holds (F : Nat) (Rel : Zs → Zs → Prop) : Prop := ∀ X M, Rel X M → ∃ r X2 M2, n_X11_holds_0 F X = some (r, X2) ∧ n_X12_holds_0 F M = some (r, M2) ∧ Rel X2 M2
def S_follows (F : Nat) (Rel : Zs → Zs → Prop) : Prop := ∀ X M, Rel X M → ∀ a0 : Int32, ∃ r X2 M2, n_X11_follows_0 F X a0 = some (r, X2) ∧ n_X12_follows_0 F M a0 = some (r, M2) ∧ Rel X2 M2
def S_decided (F : Nat) (Rel : Zs → Zs → Prop) : Prop := ∀ X M, Rel X M → ∀ a0 : Int32, ∃ r X2 M2, n_X11_decided_0 F X a0 = some (r, X2) ∧ n_X12_decided_0 F M a0 = some (r, M2) ∧ Rel X2 M2
def S_from (F : Nat) (Rel : Zs → Zs → Prop) : Prop := ∀ X M, Rel X M → ∀ a0 a1 : Int32, ∃ r X2 M2, n_X11_from_0 F X a0 a1 = some (r, X2) ∧ n_X12_from_0 F M a0 a1 = some (r, M2) ∧ Rel X2 M2
def S_needs (F : Nat) (Rel : Zs → Zs → Prop) : Prop := ∀ X M, Rel X M → ∀ a0 : Int32, ∃ r X2 M2, n_X11_needs_0 F X a0 = some (r, X2) ∧ n_X12_needs_0 F M a0 = some (r, M2) ∧ Rel X2 M2
def S_fewest (F : Nat) (Rel : Zs → Zs → Prop) : Prop := ∀ X M, Rel X M → ∃ r X2 M2, n_X11_fewest_0 F X = some (r, X2) ∧ n_X12_fewest_0 F M = some (r, M2) ∧ Rel X2 M2
def S_idle (F : Nat) (Rel : Zs → Zs → Prop) : Prop := ∀ X M, Rel X M → ∃ r X2 M2, n_X11_idle_0 F X = some (r, X2) ∧ n_X12_idle_0 F M = some (r, M2) ∧ Rel X2 M2
def S_alike (F : Nat) (Rel : Zs → Zs → Prop) : Prop := ∀ X M, Rel X M → ∀ a0 a1 : Int32, ∃ r X2 M2, n_X11_alike_0 F X a0 a1 = some (r, X2) ∧ n_X12_alike_0 F M a0 a1 = some (r, M2) ∧ Rel X2 M2
def S_clash (F : Nat) (Rel : Zs → Zs → Prop) : Prop := ∀ X M, Rel X M → ∃ r X2 M2, n_X11_clash_0 F X = some (r, X2) ∧ n_X12_clash_0 F M = some (r, M2) ∧ Rel X2 M2
def S_liars (F : Nat) (Rel : Zs → Zs → Prop) : Prop := ∀ X M, Rel X M → ∃ r X2 M2, n_X11_liars_0 F X = some (r, X2) ∧ n_X12_liars_0 F M = some (r, M2) ∧ Rel X2 M2
def S_truth (F : Nat) (Rel : Zs → Zs → Prop) : Prop := ∀ X M, Rel X M → ∀ a0 : Int32, ∃ r X2 M2, n_X11_truth_0 F X a0 = some (r, X2) ∧ n_X12_truth_0 F M a0 = some (r, M2) ∧ Rel X2 M2
def S_trusts (F : Nat) (Rel : Zs → Zs → Prop) : Prop := ∀ X M, Rel X M → ∀ a0 a1 : Int32, ∃ r X2 M2, n_X11_trusts_0 F X a0 a1 = some (r, X2) ∧ n_X12_trusts_0 F M a0 a1 = some (r, M2) ∧ Rel X2 M2
def S_convicts (F : Nat) (Rel : Zs → Zs → Prop) : Prop := ∀ X M, Rel X M → ∀ a0 : Int32, ∃ r X2 M2, n_X11_convicts_0 F X a0 = some (r, X2) ∧ n_X12_convicts_0 F M a0 = some (r, M2) ∧ Rel X2 M2
def S_all (F : Nat) (Rel : Zs → Zs → Prop) : Prop := ∀ X M, Rel X M → ∀ a0 : Int32, ∃ r X2 M2, n_X11_all_0 F X a0 = some (r, X2) ∧ n_X12_all_0 F M a0 = some (r, M2) ∧ Rel X2 M2
def S_empty (F : Nat) (Rel : Zs → Zs → Prop) : Prop := ∀ X M, Rel X M → ∃ r X2 M2, n_X11_empty_0 F X = some (r, X2) ∧ n_X12_empty_0 F M = some (r, M2) ∧ Rel X2 M2
def S_chain (F : Nat) (Rel : Zs → Zs → Prop) : Prop := ∀ X M, Rel X M → ∀ a0 a1 : Int32, ∃ r X2 M2, n_X11_chain_0 F X a0 a1 = some (r, X2) ∧ n_X12_chain_0 F M a0 a1 = some (r, M2) ∧ Rel X2 M2
def S_sorts (F : Nat) (Rel : Zs → Zs → Prop) : Prop := ∀ X M, Rel X M → ∃ r X2 M2, n_X11_sorts_0 F X = some (r, X2) ∧ n_X12_sorts_0 F M = some (r, M2) ∧ Rel X2 M2
def S_sort (F : Nat) (Rel : Zs → Zs → Prop) : Prop := ∀ X M, Rel X M → ∀ a0 : Int32, ∃ r X2 M2, n_X11_sort_0 F X a0 = some (r, X2) ∧ n_X12_sort_0 F M a0 = some (r, M2) ∧ Rel X2 M2
def S_both (F : Nat) (Rel : Zs → Zs → Prop) : Prop := ∀ X M, Rel X M → ∀ a0 a1 : Int32, ∃ r X2 M2, n_X11_both_0 F X a0 a1 = some (r, X2) ∧ n_X12_both_0 F M a0 a1 = some (r, M2) ∧ Rel X2 M2
def S_town (F : Nat) (Rel : Zs → Zs → Prop) : Prop := ∀ X M, Rel X M → ∃ r X2 M2, n_X11_town_0 F X = some (r, X2) ∧ n_X12_town_0 F M = some (r, M2) ∧ Rel X2 M2
def S_refute (F : Nat) (Rel : Zs → Zs → Prop) : Prop := ∀ X M, Rel X M → ∀ a0 : Int32, ∃ r X2 M2, n_X11_refute_0 F X a0 = some (r, X2) ∧ n_X12_refute_0 F M a0 = some (r, M2) ∧ Rel X2 M2
def S_judge (F : Nat) (Rel : Zs → Zs → Prop) : Prop := ∀ X M, Rel X M → ∀ a0 a1 a2 : Int32, ∃ r X2 M2, n_X11_judge_0 F X a0 a1 a2 = some (r, X2) ∧ n_X12_judge_0 F M a0 a1 a2 = some (r, M2) ∧ Rel X2 M2
def S_mood (F : Nat) (Rel : Zs → Zs → Prop) : Prop := ∀ X M, Rel X M → ∀ a0 a1 a2 a3 : Int32, ∃ r X2 M2, n_X11_mood_0 F X a0 a1 a2 a3 = some (r, X2) ∧ n_X12_mood_0 F M a0 a1 a2 a3 = some (r, M2) ∧ Rel X2 M2
def S_figure (F : Nat) (Rel : Zs → Zs → Prop) : Prop := ∀ X M, Rel X M → ∀ a0 : Int32, ∃ r X2 M2, n_X11_figure_0 F X a0 = some (r, X2) ∧ n_X12_figure_0 F M a0 = some (r, M2) ∧ Rel X2 M2
def S_forms (F : Nat) (Rel : Zs → Zs → Prop) : Prop := ∀ X M, Rel X M → ∀ a0 a1 : Int32, ∃ r X2 M2, n_X11_forms_0 F X a0 a1 = some (r, X2) ∧ n_X12_forms_0 F M a0 a1 = some (r, M2) ∧ Rel X2 M2
def S_allow (F : Nat) (Rel : Zs → Zs → Prop) : Prop := ∀ X M, Rel X M → ∀ a0 : Int32, ∃ r X2 M2, n_X11_allow_0 F X a0 = some (r, X2) ∧ n_X12_allow_0 F M a0 = some (r, M2) ∧ Rel X2 M2
def S_step (F : Nat) (Rel : Zs → Zs → Prop) : Prop := ∀ X M, Rel X M → ∀ a0 a1 a2 : Int32, ∃ r X2 M2, n_X11_step_0 F X a0 a1 a2 = some (r, X2) ∧ n_X12_step_0 F M a0 a1 a2 = some (r, M2) ∧ Rel X2 M2
def S_proof (F : Nat) (Rel : Zs → Zs → Prop) : Prop := ∀ X M, Rel X M → ∀ a0 : Int32, ∃ r X2 M2, n_X11_proof_0 F X a0 = some (r, X2) ∧ n_X12_proof_0 F M a0 = some (r, M2) ∧ Rel X2 M2
def S_rests (F : Nat) (Rel : Zs → Zs → Prop) : Prop := ∀ X M, Rel X M → ∀ a0 : Int32, ∃ r X2 M2, n_X11_rests_0 F X a0 = some (r, X2) ∧ n_X12_rests_0 F M a0 = some (r, M2) ∧ Rel X2 M2
def S_proved (F : Nat) (Rel : Zs → Zs → Prop) : Prop := ∀ X M, Rel X M → ∃ r X2 M2, n_X11_proved_0 F X = some (r, X2) ∧ n_X12_proved_0 F M = some (r, M2) ∧ Rel X2 M2
def S_gap (F : Nat) (Rel : Zs → Zs → Prop) : Prop := ∀ X M, Rel X M → ∃ r X2 M2, n_X11_gap_0 F X = some (r, X2) ∧ n_X12_gap_0 F M = some (r, M2) ∧ Rel X2 M2
def S_plead (F : Nat) (Rel : Zs → Zs → Prop) : Prop := ∀ X M, Rel X M → ∃ r X2 M2, n_X11_plead_0 F X = some (r, X2) ∧ n_X12_plead_0 F M = some (r, M2) ∧ Rel X2 M2
def S_stands (F : Nat) (Rel : Zs → Zs → Prop) : Prop := ∀ X M, Rel X M → ∃ r X2 M2, n_X11_stands_0 F X = some (r, X2) ∧ n_X12_stands_0 F M = some (r, M2) ∧ Rel X2 M2
def S_marks (F : Nat) (Rel : Zs → Zs → Prop) : Prop := ∀ X M, Rel X M → ∀ a0 : Int32, ∃ r X2 M2, n_X11_marks_0 F X a0 = some (r, X2) ∧ n_X12_marks_0 F M a0 = some (r, M2) ∧ Rel X2 M2
def S_strike (F : Nat) (Rel : Zs → Zs → Prop) : Prop := ∀ X M, Rel X M → ∃ r X2 M2, n_X11_strike_0 F X = some (r, X2) ∧ n_X12_strike_0 F M = some (r, M2) ∧ Rel X2 M2
def S_keep (F : Nat) (Rel : Zs → Zs → Prop) : Prop := ∀ X M, Rel X M → ∀ a0 : Int32, ∃ r X2 M2, n_X11_keep_0 F X a0 = some (r, X2) ∧ n_X12_keep_0 F M a0 = some (r, M2) ∧ Rel X2 M2
def S_again (F : Nat) (Rel : Zs → Zs → Prop) : Prop := ∀ X M, Rel X M → ∀ a0 : Int32, ∃ r X2 M2, n_X11_again_0 F X a0 = some (r, X2) ∧ n_X12_again_0 F M a0 = some (r, M2) ∧ Rel X2 M2
def S_count (F : Nat) (Rel : Zs → Zs → Prop) : Prop := ∀ X M, Rel X M → ∀ a0 : Int32, ∃ r X2 M2, n_X11_count_0 F X a0 = some (r, X2) ∧ n_X12_count_0 F M a0 = some (r, M2) ∧ Rel X2 M2
