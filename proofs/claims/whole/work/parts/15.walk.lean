theorem kS_256 : (Int16.ofInt (256)).toInt32 = (256 : Int32) := by decide +kernel
theorem kB_m2 : (Int8.ofInt (-2)).toInt32 = (-2 : Int32) := by decide +kernel
theorem kS_999 : (Int16.ofInt (999)).toInt32 = (999 : Int32) := by decide +kernel
theorem kB_m4 : (Int8.ofInt (-4)).toInt32 = (-4 : Int32) := by decide +kernel
theorem kB_m100 : (Int8.ofInt (-100)).toInt32 = (-100 : Int32) := by decide +kernel
theorem kS_m1000 : (Int16.ofInt (-1000)).toInt32 = (-1000 : Int32) := by decide +kernel
theorem kS_2000 : (Int16.ofInt (2000)).toInt32 = (2000 : Int32) := by decide +kernel
theorem kB_100 : (Int8.ofInt (100)).toInt32 = (100 : Int32) := by decide +kernel
theorem kB_m7 : (Int8.ofInt (-7)).toInt32 = (-7 : Int32) := by decide +kernel
theorem kB_m5 : (Int8.ofInt (-5)).toInt32 = (-5 : Int32) := by decide +kernel
theorem kS_m7000 : (Int16.ofInt (-7000)).toInt32 = (-7000 : Int32) := by decide +kernel
theorem kS_m5000 : (Int16.ofInt (-5000)).toInt32 = (-5000 : Int32) := by decide +kernel
theorem kB_m3 : (Int8.ofInt (-3)).toInt32 = (-3 : Int32) := by decide +kernel
theorem ww_414 : Cond.methodLink RX5 50 yX9_endPart ∈ e_big := bw (i := 414) (by decide +kernel) rfl
theorem ww_415 : Cond.instanceMethod yX9_endPart ∈ e_big := bw (i := 415) (by decide +kernel) rfl
theorem ww_416 : Cond.selects RX9 yX9_endPart yX9_endPart ∈ e_big := bw (i := 416) (by decide +kernel) rfl
theorem ww_417 : Cond.code yX9_endPart cX9_endPart 2 none ∈ e_big := bw (i := 417) (by decide +kernel) rfl
theorem cw_X5_50 : ∀ w ∈ wsV RX5 50 RX9 yX9_endPart [Cond.code yX9_endPart cX9_endPart 2 none], w ∈ e_big := e_all5 ww_414 ww_415 ww_416 ww_75 ww_417
theorem ww_324 : Cond.methodLink RX5 15 yJ9_min_7cf53 ∈ e_big := bw (i := 324) (by decide +kernel) rfl
theorem ww_327 : Cond.methodLink RX5 29 yX9_empty ∈ e_big := bw (i := 327) (by decide +kernel) rfl
theorem ww_328 : Cond.instanceMethod yX9_empty ∈ e_big := bw (i := 328) (by decide +kernel) rfl
theorem ww_329 : Cond.selects RX9 yX9_empty yX9_empty ∈ e_big := bw (i := 329) (by decide +kernel) rfl
theorem ww_330 : Cond.code yX9_empty cX9_empty 1 none ∈ e_big := bw (i := 330) (by decide +kernel) rfl
theorem cw_X5_29 : ∀ w ∈ wsV RX5 29 RX9 yX9_empty [Cond.code yX9_empty cX9_empty 1 none], w ∈ e_big := e_all5 ww_327 ww_328 ww_329 ww_75 ww_330
theorem fl_X10_111 : e_FL RX10 111 10 10 := ⟨⟨by decide, by decide⟩, bw (i := 428) (by decide +kernel) rfl⟩
theorem fl_X10_28 : e_FL RX10 28 10 6 := ⟨⟨by decide, by decide⟩, bw (i := 424) (by decide +kernel) rfl⟩
theorem fl_X10_63 : e_FL RX10 63 10 2 := ⟨⟨by decide, by decide⟩, bw (i := 420) (by decide +kernel) rfl⟩
theorem fl_X10_93 : e_FL RX10 93 7 6 := ⟨⟨by decide, by decide⟩, bw (i := 237) (by decide +kernel) rfl⟩
theorem ww_460 : Cond.methodLink RX10 96 yX7_keptBits ∈ e_big := bw (i := 460) (by decide +kernel) rfl
theorem ww_461 : Cond.instanceMethod yX7_keptBits ∈ e_big := bw (i := 461) (by decide +kernel) rfl
theorem ww_462 : Cond.selects RX7 yX7_keptBits yX7_keptBits ∈ e_big := bw (i := 462) (by decide +kernel) rfl
theorem ww_463 : Cond.code yX7_keptBits cX7_keptBits 3 (some .int) ∈ e_big := bw (i := 463) (by decide +kernel) rfl
theorem cw_X10_96 : ∀ w ∈ wsV RX10 96 RX7 yX7_keptBits [Cond.code yX7_keptBits cX7_keptBits 3 (some .int)], w ∈ e_big := e_all5 ww_460 ww_461 ww_462 ww_83 ww_463
theorem ww_464 : Cond.methodLink RX10 99 yJ6_bitCount_0f7a4 ∈ e_big := bw (i := 464) (by decide +kernel) rfl
theorem ww_465 : Cond.static yJ6_bitCount_0f7a4 ∈ e_big := bw (i := 465) (by decide +kernel) rfl
theorem ww_466 : Cond.code yJ6_bitCount_0f7a4 cJ6_bitCount_0f7a4 1 (some .int) ∈ e_big := bw (i := 466) (by decide +kernel) rfl
theorem cw_X10_99 : ∀ w ∈ va_wsS RX10 99 yJ6_bitCount_0f7a4 [Cond.code yJ6_bitCount_0f7a4 cJ6_bitCount_0f7a4 1 (some .int)], w ∈ e_big := e_all4 ww_464 ww_465 ww_90 ww_466
theorem fl_X10_105 : e_FL RX10 105 7 7 := ⟨⟨by decide, by decide⟩, bw (i := 239) (by decide +kernel) rfl⟩
theorem fl_X10_89 : e_FL RX10 89 10 9 := ⟨⟨by decide, by decide⟩, bw (i := 427) (by decide +kernel) rfl⟩
theorem fl_X10_108 : e_FL RX10 108 7 8 := ⟨⟨by decide, by decide⟩, bw (i := 241) (by decide +kernel) rfl⟩
theorem ww_481 : Cond.methodLink RX10 118 yX10_feedOne ∈ e_big := bw (i := 481) (by decide +kernel) rfl
theorem ww_483 : Cond.instanceMethod yX10_feedOne ∈ e_big := bw (i := 483) (by decide +kernel) rfl
theorem ww_14 : Cond.selects RX10 yX10_feedOne yX10_feedOne ∈ e_big := bw (i := 14) (by decide +kernel) rfl
theorem ww_73 : Cond.initialized RX10 ∈ e_big := bw (i := 73) (by decide +kernel) rfl
theorem ww_484 : Cond.code yX10_feedOne cX10_feedOne 2 none ∈ e_big := bw (i := 484) (by decide +kernel) rfl
theorem cw_X10_118 : ∀ w ∈ wsV RX10 118 RX10 yX10_feedOne [Cond.code yX10_feedOne cX10_feedOne 2 none], w ∈ e_big := e_all5 ww_481 ww_483 ww_14 ww_73 ww_484
theorem ww_478 : Cond.methodLink RX10 114 yX10_isByte ∈ e_big := bw (i := 478) (by decide +kernel) rfl
theorem ww_479 : Cond.static yX10_isByte ∈ e_big := bw (i := 479) (by decide +kernel) rfl
theorem ww_480 : Cond.code yX10_isByte cX10_isByte 1 (some .boolean) ∈ e_big := bw (i := 480) (by decide +kernel) rfl
theorem cw_X10_114 : ∀ w ∈ va_wsS RX10 114 yX10_isByte [Cond.code yX10_isByte cX10_isByte 1 (some .boolean)], w ∈ e_big := e_all4 ww_478 ww_479 ww_73 ww_480
theorem fl_X10_24 : e_FL RX10 24 10 5 := ⟨⟨by decide, by decide⟩, bw (i := 423) (by decide +kernel) rfl⟩
theorem fl_X10_11 : e_FL RX10 11 10 0 := ⟨⟨by decide, by decide⟩, bw (i := 418) (by decide +kernel) rfl⟩
theorem ww_320 : Cond.methodLink RX10 85 yX5_readAll ∈ e_big := bw (i := 320) (by decide +kernel) rfl
theorem ww_321 : Cond.instanceMethod yX5_readAll ∈ e_big := bw (i := 321) (by decide +kernel) rfl
theorem ww_322 : Cond.selects RX5 yX5_readAll yX5_readAll ∈ e_big := bw (i := 322) (by decide +kernel) rfl
theorem ww_323 : Cond.code yX5_readAll cX5_readAll 5 (some .int) ∈ e_big := bw (i := 323) (by decide +kernel) rfl
theorem cw_X10_85 : ∀ w ∈ wsV RX10 85 RX5 yX5_readAll [Cond.code yX5_readAll cX5_readAll 5 (some .int)], w ∈ e_big := e_all5 ww_320 ww_321 ww_322 ww_74 ww_323
theorem ww_497 : Cond.methodLink RX10 122 yX7_has ∈ e_big := bw (i := 497) (by decide +kernel) rfl
theorem ww_498 : Cond.instanceMethod yX7_has ∈ e_big := bw (i := 498) (by decide +kernel) rfl
theorem ww_499 : Cond.selects RX7 yX7_has yX7_has ∈ e_big := bw (i := 499) (by decide +kernel) rfl
theorem ww_500 : Cond.code yX7_has cX7_has 2 (some .boolean) ∈ e_big := bw (i := 500) (by decide +kernel) rfl
theorem cw_X10_122 : ∀ w ∈ wsV RX10 122 RX7 yX7_has [Cond.code yX7_has cX7_has 2 (some .boolean)], w ∈ e_big := e_all5 ww_497 ww_498 ww_499 ww_83 ww_500
theorem ww_501 : Cond.methodLink RX10 125 yX7_says ∈ e_big := bw (i := 501) (by decide +kernel) rfl
theorem cw_X10_125 : ∀ w ∈ wsV RX10 125 RX7 yX7_says [Cond.code yX7_says cX7_says 4 (some .int)], w ∈ e_big := e_all5 ww_501 ww_502 ww_503 ww_83 ww_504
theorem ww_548 : Cond.methodLink RX10 284 yX7_areOpposite ∈ e_big := bw (i := 548) (by decide +kernel) rfl
theorem cw_X10_284 : ∀ w ∈ va_wsS RX10 284 yX7_areOpposite [Cond.code yX7_areOpposite cX7_areOpposite 2 (some .boolean)], w ∈ e_big := e_all4 ww_548 ww_549 ww_83 ww_550
theorem ww_554 : Cond.methodLink RX10 158 yX7_whoIsAt ∈ e_big := bw (i := 554) (by decide +kernel) rfl
theorem cw_X10_158 : ∀ w ∈ wsV RX10 158 RX7 yX7_whoIsAt [Cond.code yX7_whoIsAt cX7_whoIsAt 3 (some .int)], w ∈ e_big := e_all5 ww_554 ww_555 ww_556 ww_83 ww_557
theorem fl_X10_136 : e_FL RX10 136 7 0 := ⟨⟨by decide, by decide⟩, bw (i := 225) (by decide +kernel) rfl⟩
theorem fl_X10_145 : e_FL RX10 145 7 1 := ⟨⟨by decide, by decide⟩, bw (i := 227) (by decide +kernel) rfl⟩
theorem fl_X10_142 : e_FL RX10 142 7 2 := ⟨⟨by decide, by decide⟩, bw (i := 229) (by decide +kernel) rfl⟩
theorem fl_X10_154 : e_FL RX10 154 7 5 := ⟨⟨by decide, by decide⟩, bw (i := 235) (by decide +kernel) rfl⟩
theorem fl_X10_148 : e_FL RX10 148 7 3 := ⟨⟨by decide, by decide⟩, bw (i := 231) (by decide +kernel) rfl⟩
theorem fl_X10_151 : e_FL RX10 151 7 4 := ⟨⟨by decide, by decide⟩, bw (i := 233) (by decide +kernel) rfl⟩
theorem ww_544 : Cond.methodLink RX10 129 yX10_comes ∈ e_big := bw (i := 544) (by decide +kernel) rfl
theorem ww_546 : Cond.instanceMethod yX10_comes ∈ e_big := bw (i := 546) (by decide +kernel) rfl
theorem ww_17 : Cond.selects RX10 yX10_comes yX10_comes ∈ e_big := bw (i := 17) (by decide +kernel) rfl
theorem ww_547 : Cond.code yX10_comes cX10_comes 6 (some .int) ∈ e_big := bw (i := 547) (by decide +kernel) rfl
theorem cw_X10_129 : ∀ w ∈ wsV RX10 129 RX10 yX10_comes [Cond.code yX10_comes cX10_comes 6 (some .int)], w ∈ e_big := e_all5 ww_544 ww_546 ww_17 ww_73 ww_547
theorem ww_571 : Cond.methodLink RX10 202 yX7_mayLookAt ∈ e_big := bw (i := 571) (by decide +kernel) rfl
theorem ww_572 : Cond.instanceMethod yX7_mayLookAt ∈ e_big := bw (i := 572) (by decide +kernel) rfl
theorem ww_573 : Cond.selects RX7 yX7_mayLookAt yX7_mayLookAt ∈ e_big := bw (i := 573) (by decide +kernel) rfl
theorem ww_574 : Cond.code yX7_mayLookAt cX7_mayLookAt 3 (some .boolean) ∈ e_big := bw (i := 574) (by decide +kernel) rfl
theorem cw_X10_202 : ∀ w ∈ wsV RX10 202 RX7 yX7_mayLookAt [Cond.code yX7_mayLookAt cX7_mayLookAt 3 (some .boolean)], w ∈ e_big := e_all5 ww_571 ww_572 ww_573 ww_83 ww_574
theorem ww_562 : Cond.methodLink RX10 132 yX7_mayBeAt ∈ e_big := bw (i := 562) (by decide +kernel) rfl
theorem ww_563 : Cond.instanceMethod yX7_mayBeAt ∈ e_big := bw (i := 563) (by decide +kernel) rfl
theorem ww_564 : Cond.selects RX7 yX7_mayBeAt yX7_mayBeAt ∈ e_big := bw (i := 564) (by decide +kernel) rfl
theorem ww_565 : Cond.code yX7_mayBeAt cX7_mayBeAt 4 (some .boolean) ∈ e_big := bw (i := 565) (by decide +kernel) rfl
theorem cw_X10_132 : ∀ w ∈ wsV RX10 132 RX7 yX7_mayBeAt [Cond.code yX7_mayBeAt cX7_mayBeAt 4 (some .boolean)], w ∈ e_big := e_all5 ww_562 ww_563 ww_564 ww_83 ww_565
theorem ww_567 : Cond.methodLink RX10 139 yX10_looksAt ∈ e_big := bw (i := 567) (by decide +kernel) rfl
theorem ww_569 : Cond.instanceMethod yX10_looksAt ∈ e_big := bw (i := 569) (by decide +kernel) rfl
theorem ww_18 : Cond.selects RX10 yX10_looksAt yX10_looksAt ∈ e_big := bw (i := 18) (by decide +kernel) rfl
theorem ww_570 : Cond.code yX10_looksAt cX10_looksAt 4 (some .int) ∈ e_big := bw (i := 570) (by decide +kernel) rfl
theorem cw_X10_139 : ∀ w ∈ wsV RX10 139 RX10 yX10_looksAt [Cond.code yX10_looksAt cX10_looksAt 4 (some .int)], w ∈ e_big := e_all5 ww_567 ww_569 ww_18 ww_73 ww_570
theorem ww_580 : Cond.methodLink RX10 161 yX7_leaning ∈ e_big := bw (i := 580) (by decide +kernel) rfl
theorem cw_X10_161 : ∀ w ∈ wsV RX10 161 RX7 yX7_leaning [Cond.code yX7_leaning cX7_leaning 2 (some .int)], w ∈ e_big := e_all5 ww_580 ww_581 ww_582 ww_83 ww_583
theorem ww_616 : Cond.methodLink RX10 164 yX7_holding ∈ e_big := bw (i := 616) (by decide +kernel) rfl
theorem cw_X10_164 : ∀ w ∈ wsV RX10 164 RX7 yX7_holding [Cond.code yX7_holding cX7_holding 2 (some .int)], w ∈ e_big := e_all5 ww_616 ww_617 ww_618 ww_83 ww_619
theorem ww_640 : Cond.methodLink RX10 167 yX7_minding ∈ e_big := bw (i := 640) (by decide +kernel) rfl
theorem cw_X10_167 : ∀ w ∈ wsV RX10 167 RX7 yX7_minding [Cond.code yX7_minding cX7_minding 2 (some .int)], w ∈ e_big := e_all5 ww_640 ww_641 ww_642 ww_83 ww_643
theorem ww_666 : Cond.methodLink RX10 170 yX7_meetings ∈ e_big := bw (i := 666) (by decide +kernel) rfl
theorem ww_667 : Cond.instanceMethod yX7_meetings ∈ e_big := bw (i := 667) (by decide +kernel) rfl
theorem ww_668 : Cond.selects RX7 yX7_meetings yX7_meetings ∈ e_big := bw (i := 668) (by decide +kernel) rfl
theorem ww_669 : Cond.code yX7_meetings cX7_meetings 3 (some .int) ∈ e_big := bw (i := 669) (by decide +kernel) rfl
theorem cw_X10_170 : ∀ w ∈ wsV RX10 170 RX7 yX7_meetings [Cond.code yX7_meetings cX7_meetings 3 (some .int)], w ∈ e_big := e_all5 ww_666 ww_667 ww_668 ww_83 ww_669
theorem ww_670 : Cond.methodLink RX10 173 yX7_crossings ∈ e_big := bw (i := 670) (by decide +kernel) rfl
theorem ww_671 : Cond.instanceMethod yX7_crossings ∈ e_big := bw (i := 671) (by decide +kernel) rfl
theorem ww_672 : Cond.selects RX7 yX7_crossings yX7_crossings ∈ e_big := bw (i := 672) (by decide +kernel) rfl
theorem ww_673 : Cond.code yX7_crossings cX7_crossings 6 (some .int) ∈ e_big := bw (i := 673) (by decide +kernel) rfl
theorem cw_X10_173 : ∀ w ∈ wsV RX10 173 RX7 yX7_crossings [Cond.code yX7_crossings cX7_crossings 6 (some .int)], w ∈ e_big := e_all5 ww_670 ww_671 ww_672 ww_83 ww_673
theorem ww_681 : Cond.methodLink RX10 176 yX7_mostLookedAt ∈ e_big := bw (i := 681) (by decide +kernel) rfl
theorem ww_682 : Cond.instanceMethod yX7_mostLookedAt ∈ e_big := bw (i := 682) (by decide +kernel) rfl
theorem ww_683 : Cond.selects RX7 yX7_mostLookedAt yX7_mostLookedAt ∈ e_big := bw (i := 683) (by decide +kernel) rfl
theorem ww_684 : Cond.code yX7_mostLookedAt cX7_mostLookedAt 5 (some .int) ∈ e_big := bw (i := 684) (by decide +kernel) rfl
theorem cw_X10_176 : ∀ w ∈ wsV RX10 176 RX7 yX7_mostLookedAt [Cond.code yX7_mostLookedAt cX7_mostLookedAt 5 (some .int)], w ∈ e_big := e_all5 ww_681 ww_682 ww_683 ww_83 ww_684
theorem ww_685 : Cond.methodLink RX10 179 yX7_lookers ∈ e_big := bw (i := 685) (by decide +kernel) rfl
theorem cw_X10_179 : ∀ w ∈ wsV RX10 179 RX7 yX7_lookers [Cond.code yX7_lookers cX7_lookers 4 (some .int)], w ∈ e_big := e_all5 ww_685 ww_517 ww_518 ww_83 ww_519
theorem ww_686 : Cond.methodLink RX10 182 yX7_unseen ∈ e_big := bw (i := 686) (by decide +kernel) rfl
theorem ww_687 : Cond.instanceMethod yX7_unseen ∈ e_big := bw (i := 687) (by decide +kernel) rfl
theorem ww_688 : Cond.selects RX7 yX7_unseen yX7_unseen ∈ e_big := bw (i := 688) (by decide +kernel) rfl
theorem ww_689 : Cond.code yX7_unseen cX7_unseen 3 (some .int) ∈ e_big := bw (i := 689) (by decide +kernel) rfl
theorem cw_X10_182 : ∀ w ∈ wsV RX10 182 RX7 yX7_unseen [Cond.code yX7_unseen cX7_unseen 3 (some .int)], w ∈ e_big := e_all5 ww_686 ww_687 ww_688 ww_83 ww_689
theorem ww_698 : Cond.methodLink RX10 185 yX7_passDay ∈ e_big := bw (i := 698) (by decide +kernel) rfl
theorem ww_699 : Cond.instanceMethod yX7_passDay ∈ e_big := bw (i := 699) (by decide +kernel) rfl
theorem ww_700 : Cond.selects RX7 yX7_passDay yX7_passDay ∈ e_big := bw (i := 700) (by decide +kernel) rfl
theorem ww_701 : Cond.code yX7_passDay cX7_passDay 3 (some .int) ∈ e_big := bw (i := 701) (by decide +kernel) rfl
theorem cw_X10_185 : ∀ w ∈ wsV RX10 185 RX7 yX7_passDay [Cond.code yX7_passDay cX7_passDay 3 (some .int)], w ∈ e_big := e_all5 ww_698 ww_699 ww_700 ww_83 ww_701
/-! LeanedOut$Reader.readAll([IILLeanedOut$Text;)I -/
abbrev M_X5_readAll : e_M := (yX5_readAll, cX5_readAll, 5, (some .int))
theorem mk_X5_readAll : e_Mok M_X5_readAll 3 := ⟨by decide +kernel, by decide +kernel, by decide +kernel⟩
theorem dX5_readAll_0 : decode cX5_readAll 0 = .ok (.aload_n 1, 1) := by decide +kernel
theorem dX5_readAll_1 : decode cX5_readAll 1 = .ok (.ifnull 7, 3) := by decide +kernel
theorem dX5_readAll_4 : decode cX5_readAll 4 = .ok (.aload_n 3, 1) := by decide +kernel
theorem dX5_readAll_5 : decode cX5_readAll 5 = .ok (.ifnonnull 5, 3) := by decide +kernel
theorem dX5_readAll_10 : decode cX5_readAll 10 = .ok (.aload_n 0, 1) := by decide +kernel
theorem dX5_readAll_11 : decode cX5_readAll 11 = .ok (.aload_n 1, 1) := by decide +kernel
theorem dX5_readAll_12 : decode cX5_readAll 12 = .ok (.putfield 9, 3) := by decide +kernel
theorem dX5_readAll_15 : decode cX5_readAll 15 = .ok (.aload_n 0, 1) := by decide +kernel
theorem dX5_readAll_16 : decode cX5_readAll 16 = .ok (.iload_n 2, 1) := by decide +kernel
theorem dX5_readAll_17 : decode cX5_readAll 17 = .ok (.aload_n 1, 1) := by decide +kernel
theorem dX5_readAll_18 : decode cX5_readAll 18 = .ok (.arraylength, 1) := by decide +kernel
theorem dX5_readAll_19 : decode cX5_readAll 19 = .ok (.invokestatic 15, 3) := by decide +kernel
theorem dX5_readAll_22 : decode cX5_readAll 22 = .ok (.putfield 21, 3) := by decide +kernel
theorem dX5_readAll_25 : decode cX5_readAll 25 = .ok (.aload_n 0, 1) := by decide +kernel
theorem dX5_readAll_26 : decode cX5_readAll 26 = .ok (.aload_n 3, 1) := by decide +kernel
theorem dX5_readAll_27 : decode cX5_readAll 27 = .ok (.putfield 25, 3) := by decide +kernel
theorem dX5_readAll_30 : decode cX5_readAll 30 = .ok (.aload_n 0, 1) := by decide +kernel
theorem dX5_readAll_31 : decode cX5_readAll 31 = .ok (.getfield 25, 3) := by decide +kernel
theorem dX5_readAll_34 : decode cX5_readAll 34 = .ok (.invokevirtual 29, 3) := by decide +kernel
theorem dX5_readAll_37 : decode cX5_readAll 37 = .ok (.aload_n 0, 1) := by decide +kernel
theorem dX5_readAll_38 : decode cX5_readAll 38 = .ok (.iconst 0, 1) := by decide +kernel
theorem dX5_readAll_39 : decode cX5_readAll 39 = .ok (.putfield 34, 3) := by decide +kernel
theorem dX5_readAll_42 : decode cX5_readAll 42 = .ok (.aload_n 0, 1) := by decide +kernel
theorem dX5_readAll_43 : decode cX5_readAll 43 = .ok (.iconst (-1), 1) := by decide +kernel
theorem dX5_readAll_44 : decode cX5_readAll 44 = .ok (.putfield 37, 3) := by decide +kernel
theorem dX5_readAll_47 : decode cX5_readAll 47 = .ok (.aload_n 0, 1) := by decide +kernel
theorem dX5_readAll_48 : decode cX5_readAll 48 = .ok (.invokevirtual 40, 3) := by decide +kernel
theorem dX5_readAll_51 : decode cX5_readAll 51 = .ok (.iconst 0, 1) := by decide +kernel
theorem dX5_readAll_52 : decode cX5_readAll 52 = .ok (.istore 4, 2) := by decide +kernel
theorem dX5_readAll_54 : decode cX5_readAll 54 = .ok (.iload 4, 2) := by decide +kernel
theorem dX5_readAll_56 : decode cX5_readAll 56 = .ok (.iconst 3, 1) := by decide +kernel
theorem dX5_readAll_57 : decode cX5_readAll 57 = .ok (.if_icmp .ge 39, 3) := by decide +kernel
theorem dX5_readAll_60 : decode cX5_readAll 60 = .ok (.aload_n 0, 1) := by decide +kernel
theorem dX5_readAll_61 : decode cX5_readAll 61 = .ok (.sipush 1020, 3) := by decide +kernel
theorem dX5_readAll_64 : decode cX5_readAll 64 = .ok (.iload 4, 2) := by decide +kernel
theorem dX5_readAll_66 : decode cX5_readAll 66 = .ok (.iadd, 1) := by decide +kernel
theorem dX5_readAll_67 : decode cX5_readAll 67 = .ok (.invokevirtual 43, 3) := by decide +kernel
theorem dX5_readAll_70 : decode cX5_readAll 70 = .ok (.aload_n 0, 1) := by decide +kernel
theorem dX5_readAll_71 : decode cX5_readAll 71 = .ok (.iconst 0, 1) := by decide +kernel
theorem dX5_readAll_72 : decode cX5_readAll 72 = .ok (.invokevirtual 47, 3) := by decide +kernel
theorem dX5_readAll_75 : decode cX5_readAll 75 = .ok (.aload_n 0, 1) := by decide +kernel
theorem dX5_readAll_76 : decode cX5_readAll 76 = .ok (.bipush 59, 2) := by decide +kernel
theorem dX5_readAll_78 : decode cX5_readAll 78 = .ok (.invokevirtual 43, 3) := by decide +kernel
theorem dX5_readAll_81 : decode cX5_readAll 81 = .ok (.aload_n 0, 1) := by decide +kernel
theorem dX5_readAll_82 : decode cX5_readAll 82 = .ok (.getfield 25, 3) := by decide +kernel
theorem dX5_readAll_85 : decode cX5_readAll 85 = .ok (.iload 4, 2) := by decide +kernel
theorem dX5_readAll_87 : decode cX5_readAll 87 = .ok (.invokevirtual 50, 3) := by decide +kernel
theorem dX5_readAll_90 : decode cX5_readAll 90 = .ok (.iinc 4 1, 3) := by decide +kernel
theorem dX5_readAll_93 : decode cX5_readAll 93 = .ok (.goto (-39), 3) := by decide +kernel
theorem dX5_readAll_96 : decode cX5_readAll 96 = .ok (.aload_n 0, 1) := by decide +kernel
theorem dX5_readAll_97 : decode cX5_readAll 97 = .ok (.sipush 1000, 3) := by decide +kernel
theorem dX5_readAll_100 : decode cX5_readAll 100 = .ok (.invokevirtual 43, 3) := by decide +kernel
theorem dX5_readAll_103 : decode cX5_readAll 103 = .ok (.aload_n 0, 1) := by decide +kernel
theorem dX5_readAll_104 : decode cX5_readAll 104 = .ok (.getfield 37, 3) := by decide +kernel
theorem dX5_readAll_107 : decode cX5_readAll 107 = .ok (.ireturn, 1) := by decide +kernel
def L_X5_readAll_54 : Nat → e_S → Nat → Int32 → e_G → Option (Int32 × e_G)
  | 0, _, _, _, _ => none
  | n + 1, S, l0, l4, g =>
  if (3 : Int32) ≤ l4 then
    (f_X5_expect S l0 (1000 : Int32) g).bind fun q2 =>
    (e_gI S q2 5 l0 7).bind fun v3 =>
    some (v3, q2)
  else
    (f_X5_expect S l0 ((1020 : Int32) + l4) g).bind fun q6 =>
    (f_X5_readOr S l0 (0 : Int32) q6).bind fun q8 =>
    (f_X5_expect S l0 (59 : Int32) q8).bind fun q10 =>
    (e_gR S q10 5 l0 1).bind fun v11 =>
    (f_X9_endPart S v11 l4 q10).bind fun q14 =>
    L_X5_readAll_54 n S l0 (l4 + (1 : Int32)) q14
def f_X5_readAll (S : e_S) (l0 : Nat) (l1 : Nat) (l2 : Int32) (l3 : Nat) (g : e_G) : Option (Int32 × e_G) :=
  if e_ob S 5 l0 = true then
    (e_sR S g 5 l0 0 l1).bind fun g1 =>
    (e_aL S 0 l1).bind fun v3 =>
    (e_sI S g1 5 l0 2 (i_min l2 v3)).bind fun g6 =>
    (e_sR S g6 5 l0 1 l3).bind fun g8 =>
    (e_gR S g8 5 l0 1).bind fun v10 =>
    (f_X9_empty S v10 g8).bind fun q13 =>
    (e_sI S q13 5 l0 3 (0 : Int32)).bind fun g14 =>
    (e_sI S g14 5 l0 7 (-1 : Int32)).bind fun g16 =>
    (f_X5_step S l0 g16).bind fun q19 =>
    L_X5_readAll_54 50000 S l0 (0 : Int32) q19
  else none
theorem x_L_X5_readAll_54 {l : Launch} {D : va_G} {S : e_S} {w : Int32} {k : e_G} : ∀ (n : Nat) (l0 : Nat) (l4 : Int32) (g : e_G), L_X5_readAll_54 n S l0 l4 g = some (w, k) → X l D (e_R 73) M_X5_readAll 0 0 54 [(0, .ref l0), (4, .int l4)] [] (S, g) (some (.int w)) (S, k) := by
  intro n
  induction n with
  | zero =>
    intro l0 l4 g hf
    cases hf
  | succ n ih =>
    intro l0 l4 g hf
    rw [L_X5_readAll_54] at hf
    refine X.iload dX5_readAll_54 (j := 1) rfl ?_
    refine X.iconst dX5_readAll_56 kI_3 ?_
    refine X.icmp_ge dX5_readAll_57 (tgt := 96) rfl (fun hc => ?_) (fun hc => ?_)
    · rw [if_pos hc] at hf
      refine X.aload_n dX5_readAll_96 rfl (j := 0) rfl ?_
      refine X.sipush dX5_readAll_97 kS_1000 ?_
      obtain ⟨q2, h1, hf⟩ := ob hf
      refine Y.callV (av := [.int (1000 : Int32)]) (ci := 5) dX5_readAll_100 (c_X5_expect (l := l) (D := D) h1) cw_X5_43 (by decide) rfl mk_X5_expect (o_X5_expect (k := q2) h1) (e_R_ok (Nat.le_of_ble_eq_true rfl) (Nat.le_of_ble_eq_true rfl)) ⟨rfl, rfl⟩ (by simp [Value.category]) ?_
      refine X.aload_n dX5_readAll_103 rfl (j := 0) rfl ?_
      obtain ⟨v3, h4, hf⟩ := ob hf
      refine Y.getI dX5_readAll_104 fl_X5_37 rfl h4 ?_
      obtain ⟨e1, e2⟩ := e_ret hf
      subst e1
      subst e2
      exact X.iret dX5_readAll_107 rfl rfl
    · rw [if_neg hc] at hf
      refine X.aload_n dX5_readAll_60 rfl (j := 0) rfl ?_
      refine X.sipush dX5_readAll_61 kS_1020 ?_
      refine X.iload dX5_readAll_64 (j := 1) rfl ?_
      refine X.iadd dX5_readAll_66 ?_
      obtain ⟨q6, h5, hf⟩ := ob hf
      refine Y.callV (av := [.int ((1020 : Int32) + l4)]) (ci := 5) dX5_readAll_67 (c_X5_expect (l := l) (D := D) h5) cw_X5_43 (by decide) rfl mk_X5_expect (o_X5_expect (k := q6) h5) (e_R_ok (Nat.le_of_ble_eq_true rfl) (Nat.le_of_ble_eq_true rfl)) ⟨rfl, rfl⟩ (by simp [Value.category]) ?_
      refine X.aload_n dX5_readAll_70 rfl (j := 0) rfl ?_
      refine X.iconst dX5_readAll_71 kI_0 ?_
      obtain ⟨q8, h7, hf⟩ := ob hf
      refine Y.callV (av := [.int (0 : Int32)]) (ci := 5) dX5_readAll_72 (c_X5_readOr (l := l) (D := D) h7) cw_X5_47 (by decide) rfl mk_X5_readOr (o_X5_readOr (k := q8) h7) (e_R_ok (Nat.le_of_ble_eq_true rfl) (Nat.le_of_ble_eq_true rfl)) ⟨rfl, rfl⟩ (by simp [Value.category]) ?_
      refine X.aload_n dX5_readAll_75 rfl (j := 0) rfl ?_
      refine X.bipush dX5_readAll_76 kB_59 ?_
      obtain ⟨q10, h9, hf⟩ := ob hf
      refine Y.callV (av := [.int (59 : Int32)]) (ci := 5) dX5_readAll_78 (c_X5_expect (l := l) (D := D) h9) cw_X5_43 (by decide) rfl mk_X5_expect (o_X5_expect (k := q10) h9) (e_R_ok (Nat.le_of_ble_eq_true rfl) (Nat.le_of_ble_eq_true rfl)) ⟨rfl, rfl⟩ (by simp [Value.category]) ?_
      refine X.aload_n dX5_readAll_81 rfl (j := 0) rfl ?_
      obtain ⟨v11, h12, hf⟩ := ob hf
      refine Y.getR dX5_readAll_82 fl_X5_25 rfl h12 ?_
      refine X.iload dX5_readAll_85 (j := 1) rfl ?_
      obtain ⟨q14, h13, hf⟩ := ob hf
      refine Y.callV (av := [.int l4]) (ci := 9) dX5_readAll_87 (c_X9_endPart (l := l) (D := D) h13) cw_X5_50 (by decide) rfl mk_X9_endPart (o_X9_endPart (k := q14) h13) (e_R_ok (Nat.le_of_ble_eq_true rfl) (Nat.le_of_ble_eq_true rfl)) ⟨rfl, rfl⟩ (by simp [Value.category]) ?_
      refine X.iinc (j := 1) dX5_readAll_90 rfl (v := l4 + (1 : Int32)) (by rw [kI_1]) (Nat.le_of_ble_eq_true rfl) (lc' := [(4, .int (l4 + (1 : Int32))), (0, .ref l0)]) rfl ?_
      refine X.goto dX5_readAll_93 (tgt := 54) rfl ?_
      refine X.sub [1, 0] rfl ?_
      exact ih _ _ _ hf
theorem o_X5_readAll  {S : e_S} {w : Int32} {k : e_G} {l0 : Nat} {l1 : Nat} {l2 : Int32} {l3 : Nat} {g : e_G} (hf : f_X5_readAll S l0 l1 l2 l3 g = some (w, k)) : e_ob S 5 l0 = true := by
  unfold f_X5_readAll at hf
  by_cases hc : e_ob S 5 l0 = true
  · exact hc
  · rw [if_neg hc] at hf
    cases hf
theorem c_X5_readAll {l : Launch} {D : va_G}  {S : e_S} {w : Int32} {k : e_G} {l0 : Nat} {l1 : Nat} {l2 : Int32} {l3 : Nat} {g : e_G} (hf : f_X5_readAll S l0 l1 l2 l3 g = some (w, k)) : CT l D (e_R 73) M_X5_readAll [.ref l0, .ref l1, .int l2, .ref l3] (S, g) (some (.int w)) (S, k) := by
  refine CT.of (by decide +kernel) (Nat.le_of_ble_eq_true rfl) ?_
  have ho := o_X5_readAll hf
  unfold f_X5_readAll at hf
  rw [if_pos ho] at hf
  show X l D (e_R 73) M_X5_readAll 0 0 0 [(0, .ref l0), (1, .ref l1), (2, .int l2), (3, .ref l3)] [] (S, g) (some (.int w)) (S, k)
  refine X.aload_n dX5_readAll_0 rfl (j := 1) rfl ?_
  refine X.ifnull dX5_readAll_1 ?_
  refine X.aload_n dX5_readAll_4 rfl (j := 3) rfl ?_
  refine X.ifnonnull dX5_readAll_5 (tgt := 10) rfl ?_
  refine X.aload_n dX5_readAll_10 rfl (j := 0) rfl ?_
  refine X.aload_n dX5_readAll_11 rfl (j := 1) rfl ?_
  obtain ⟨g1, h2, hf⟩ := ob hf
  refine Y.putR dX5_readAll_12 fl_X5_9 rfl rfl h2 ?_
  refine X.aload_n dX5_readAll_15 rfl (j := 0) rfl ?_
  refine X.iload_n dX5_readAll_16 rfl (j := 2) rfl ?_
  refine X.aload_n dX5_readAll_17 rfl (j := 1) rfl ?_
  obtain ⟨v3, h4, hf⟩ := ob hf
  refine Y.alen dX5_readAll_18 (kd := 0) (by decide) h4 ?_
  refine Y.mmin dX5_readAll_19 ww_324 ww_325 ww_88 ww_326 ⟨Nat.le_of_ble_eq_true rfl, Nat.le_of_ble_eq_true rfl⟩ (by simp [Value.category]) ?_
  obtain ⟨g6, h7, hf⟩ := ob hf
  refine Y.putI dX5_readAll_22 fl_X5_21 rfl rfl rfl rfl h7 ?_
  refine X.aload_n dX5_readAll_25 rfl (j := 0) rfl ?_
  refine X.aload_n dX5_readAll_26 rfl (j := 3) rfl ?_
  obtain ⟨g8, h9, hf⟩ := ob hf
  refine Y.putR dX5_readAll_27 fl_X5_25 rfl rfl h9 ?_
  refine X.aload_n dX5_readAll_30 rfl (j := 0) rfl ?_
  obtain ⟨v10, h11, hf⟩ := ob hf
  refine Y.getR dX5_readAll_31 fl_X5_25 rfl h11 ?_
  obtain ⟨q13, h12, hf⟩ := ob hf
  refine Y.callV (av := []) (ci := 9) dX5_readAll_34 (c_X9_empty (l := l) (D := D) h12) cw_X5_29 (by decide) rfl mk_X9_empty (o_X9_empty (k := q13) h12) (e_R_ok (Nat.le_of_ble_eq_true rfl) (Nat.le_of_ble_eq_true rfl)) ⟨rfl, rfl⟩ (by simp [Value.category]) ?_
  refine X.aload_n dX5_readAll_37 rfl (j := 0) rfl ?_
  refine X.iconst dX5_readAll_38 kI_0 ?_
  obtain ⟨g14, h15, hf⟩ := ob hf
  refine Y.putI dX5_readAll_39 fl_X5_34 rfl rfl rfl rfl h15 ?_
  refine X.aload_n dX5_readAll_42 rfl (j := 0) rfl ?_
  refine X.iconst dX5_readAll_43 kI_m1 ?_
  obtain ⟨g16, h17, hf⟩ := ob hf
  refine Y.putI dX5_readAll_44 fl_X5_37 rfl rfl rfl rfl h17 ?_
  refine X.aload_n dX5_readAll_47 rfl (j := 0) rfl ?_
  obtain ⟨q19, h18, hf⟩ := ob hf
  refine Y.callV (av := []) (ci := 5) dX5_readAll_48 (c_X5_step (l := l) (D := D) h18) cw_X5_40 (by decide) rfl mk_X5_step (o_X5_step (k := q19) h18) (e_R_ok (Nat.le_of_ble_eq_true rfl) (Nat.le_of_ble_eq_true rfl)) ⟨rfl, rfl⟩ (by simp [Value.category]) ?_
  refine X.iconst dX5_readAll_51 kI_0 ?_
  refine X.istore dX5_readAll_52 (Nat.le_of_ble_eq_true rfl) (lc' := [(4, .int (0 : Int32)), (0, .ref l0), (1, .ref l1), (2, .int l2), (3, .ref l3)]) rfl ?_
  refine X.sub [1, 0] rfl ?_
  exact x_L_X5_readAll_54 50000 _ _ _ hf
/-! LeanedOut.isByte(I)Z -/
abbrev M_X10_isByte : e_M := (yX10_isByte, cX10_isByte, 1, (some .boolean))
theorem mk_X10_isByte : e_Mok M_X10_isByte 1 := ⟨by decide +kernel, by decide +kernel, by decide +kernel⟩
theorem dX10_isByte_0 : decode cX10_isByte 0 = .ok (.iload_n 0, 1) := by decide +kernel
theorem dX10_isByte_1 : decode cX10_isByte 1 = .ok (.ifCond .lt 14, 3) := by decide +kernel
theorem dX10_isByte_4 : decode cX10_isByte 4 = .ok (.iload_n 0, 1) := by decide +kernel
theorem dX10_isByte_5 : decode cX10_isByte 5 = .ok (.sipush 256, 3) := by decide +kernel
theorem dX10_isByte_8 : decode cX10_isByte 8 = .ok (.if_icmp .ge 7, 3) := by decide +kernel
theorem dX10_isByte_11 : decode cX10_isByte 11 = .ok (.iconst 1, 1) := by decide +kernel
theorem dX10_isByte_12 : decode cX10_isByte 12 = .ok (.goto 4, 3) := by decide +kernel
theorem dX10_isByte_15 : decode cX10_isByte 15 = .ok (.iconst 0, 1) := by decide +kernel
theorem dX10_isByte_16 : decode cX10_isByte 16 = .ok (.ireturn, 1) := by decide +kernel
def f_X10_isByte (S : e_S) (l0 : Int32) (g : e_G) : Option (Int32 × e_G) :=
  if l0 < 0 then
    some ((0 : Int32), g)
  else
    if (256 : Int32) ≤ l0 then
      some ((0 : Int32), g)
    else
      some ((1 : Int32), g)
theorem c_X10_isByte {l : Launch} {D : va_G}  {S : e_S} {w : Int32} {k : e_G} {l0 : Int32} {g : e_G} (hf : f_X10_isByte S l0 g = some (w, k)) : CT l D (e_R 1) M_X10_isByte [.int l0] (S, g) (some (.int w)) (S, k) := by
  refine CT.of (by decide +kernel) (Nat.le_of_ble_eq_true rfl) ?_
  unfold f_X10_isByte at hf
  show X l D (e_R 1) M_X10_isByte 0 0 0 [(0, .int l0)] [] (S, g) (some (.int w)) (S, k)
  refine X.iload_n dX10_isByte_0 rfl (j := 0) rfl ?_
  refine X.if_lt dX10_isByte_1 (tgt := 15) rfl (fun hc => ?_) (fun hc => ?_)
  · rw [if_pos hc] at hf
    refine X.iconst dX10_isByte_15 kI_0 ?_
    obtain ⟨e1, e2⟩ := e_ret hf
    subst e1
    subst e2
    exact X.iret dX10_isByte_16 rfl rfl
  · rw [if_neg hc] at hf
    refine X.iload_n dX10_isByte_4 rfl (j := 0) rfl ?_
    refine X.sipush dX10_isByte_5 kS_256 ?_
    refine X.icmp_ge dX10_isByte_8 (tgt := 15) rfl (fun hc => ?_) (fun hc => ?_)
    · rw [if_pos hc] at hf
      refine X.iconst dX10_isByte_15 kI_0 ?_
      obtain ⟨e1, e2⟩ := e_ret hf
      subst e1
      subst e2
      exact X.iret dX10_isByte_16 rfl rfl
    · rw [if_neg hc] at hf
      refine X.iconst dX10_isByte_11 kI_1 ?_
      refine X.goto dX10_isByte_12 (tgt := 16) rfl ?_
      obtain ⟨e1, e2⟩ := e_ret hf
      subst e1
      subst e2
      exact X.iret dX10_isByte_16 rfl rfl
/-! LeanedOut.isSheet(I)Z -/
abbrev M_X10_isSheet : e_M := (yX10_isSheet, cX10_isSheet, 1, (some .boolean))
theorem mk_X10_isSheet : e_Mok M_X10_isSheet 1 := ⟨by decide +kernel, by decide +kernel, by decide +kernel⟩
theorem dX10_isSheet_0 : decode cX10_isSheet 0 = .ok (.iload_n 0, 1) := by decide +kernel
theorem dX10_isSheet_1 : decode cX10_isSheet 1 = .ok (.ifCond .lt 12, 3) := by decide +kernel
theorem dX10_isSheet_4 : decode cX10_isSheet 4 = .ok (.iload_n 0, 1) := by decide +kernel
theorem dX10_isSheet_5 : decode cX10_isSheet 5 = .ok (.iconst 4, 1) := by decide +kernel
theorem dX10_isSheet_6 : decode cX10_isSheet 6 = .ok (.if_icmp .ge 7, 3) := by decide +kernel
theorem dX10_isSheet_9 : decode cX10_isSheet 9 = .ok (.iconst 1, 1) := by decide +kernel
theorem dX10_isSheet_10 : decode cX10_isSheet 10 = .ok (.goto 4, 3) := by decide +kernel
theorem dX10_isSheet_13 : decode cX10_isSheet 13 = .ok (.iconst 0, 1) := by decide +kernel
theorem dX10_isSheet_14 : decode cX10_isSheet 14 = .ok (.ireturn, 1) := by decide +kernel
def f_X10_isSheet (S : e_S) (l0 : Int32) (g : e_G) : Option (Int32 × e_G) :=
  if l0 < 0 then
    some ((0 : Int32), g)
  else
    if (4 : Int32) ≤ l0 then
      some ((0 : Int32), g)
    else
      some ((1 : Int32), g)
theorem c_X10_isSheet {l : Launch} {D : va_G}  {S : e_S} {w : Int32} {k : e_G} {l0 : Int32} {g : e_G} (hf : f_X10_isSheet S l0 g = some (w, k)) : CT l D (e_R 1) M_X10_isSheet [.int l0] (S, g) (some (.int w)) (S, k) := by
  refine CT.of (by decide +kernel) (Nat.le_of_ble_eq_true rfl) ?_
  unfold f_X10_isSheet at hf
  show X l D (e_R 1) M_X10_isSheet 0 0 0 [(0, .int l0)] [] (S, g) (some (.int w)) (S, k)
  refine X.iload_n dX10_isSheet_0 rfl (j := 0) rfl ?_
  refine X.if_lt dX10_isSheet_1 (tgt := 13) rfl (fun hc => ?_) (fun hc => ?_)
  · rw [if_pos hc] at hf
    refine X.iconst dX10_isSheet_13 kI_0 ?_
    obtain ⟨e1, e2⟩ := e_ret hf
    subst e1
    subst e2
    exact X.iret dX10_isSheet_14 rfl rfl
  · rw [if_neg hc] at hf
    refine X.iload_n dX10_isSheet_4 rfl (j := 0) rfl ?_
    refine X.iconst dX10_isSheet_5 kI_4 ?_
    refine X.icmp_ge dX10_isSheet_6 (tgt := 13) rfl (fun hc => ?_) (fun hc => ?_)
    · rw [if_pos hc] at hf
      refine X.iconst dX10_isSheet_13 kI_0 ?_
      obtain ⟨e1, e2⟩ := e_ret hf
      subst e1
      subst e2
      exact X.iret dX10_isSheet_14 rfl rfl
    · rw [if_neg hc] at hf
      refine X.iconst dX10_isSheet_9 kI_1 ?_
      refine X.goto dX10_isSheet_10 (tgt := 14) rfl ?_
      obtain ⟨e1, e2⟩ := e_ret hf
      subst e1
      subst e2
      exact X.iret dX10_isSheet_14 rfl rfl
/-! LeanedOut.feedOne(I)V -/
abbrev M_X10_feedOne : e_M := (yX10_feedOne, cX10_feedOne, 2, none)
theorem mk_X10_feedOne : e_Mok M_X10_feedOne 1 := ⟨by decide +kernel, by decide +kernel, by decide +kernel⟩
theorem dX10_feedOne_0 : decode cX10_feedOne 0 = .ok (.aload_n 0, 1) := by decide +kernel
theorem dX10_feedOne_1 : decode cX10_feedOne 1 = .ok (.getfield 111, 3) := by decide +kernel
theorem dX10_feedOne_4 : decode cX10_feedOne 4 = .ok (.sipush 160, 3) := by decide +kernel
theorem dX10_feedOne_7 : decode cX10_feedOne 7 = .ok (.if_icmp .lt 4, 3) := by decide +kernel
theorem dX10_feedOne_10 : decode cX10_feedOne 10 = .ok (.return_, 1) := by decide +kernel
theorem dX10_feedOne_11 : decode cX10_feedOne 11 = .ok (.aload_n 0, 1) := by decide +kernel
theorem dX10_feedOne_12 : decode cX10_feedOne 12 = .ok (.getfield 28, 3) := by decide +kernel
theorem dX10_feedOne_15 : decode cX10_feedOne 15 = .ok (.aload_n 0, 1) := by decide +kernel
theorem dX10_feedOne_16 : decode cX10_feedOne 16 = .ok (.getfield 111, 3) := by decide +kernel
theorem dX10_feedOne_19 : decode cX10_feedOne 19 = .ok (.iload_n 1, 1) := by decide +kernel
theorem dX10_feedOne_20 : decode cX10_feedOne 20 = .ok (.iastore, 1) := by decide +kernel
theorem dX10_feedOne_21 : decode cX10_feedOne 21 = .ok (.aload_n 0, 1) := by decide +kernel
theorem dX10_feedOne_22 : decode cX10_feedOne 22 = .ok (.dup, 1) := by decide +kernel
theorem dX10_feedOne_23 : decode cX10_feedOne 23 = .ok (.getfield 111, 3) := by decide +kernel
theorem dX10_feedOne_26 : decode cX10_feedOne 26 = .ok (.iconst 1, 1) := by decide +kernel
theorem dX10_feedOne_27 : decode cX10_feedOne 27 = .ok (.iadd, 1) := by decide +kernel
theorem dX10_feedOne_28 : decode cX10_feedOne 28 = .ok (.putfield 111, 3) := by decide +kernel
theorem dX10_feedOne_31 : decode cX10_feedOne 31 = .ok (.return_, 1) := by decide +kernel
def f_X10_feedOne (S : e_S) (l0 : Nat) (l1 : Int32) (g : e_G) : Option (e_G) :=
  if e_ob S 10 l0 = true then
    (e_gI S g 10 l0 10).bind fun v1 =>
    if v1 < (160 : Int32) then
      (e_gR S g 10 l0 6).bind fun v3 =>
      (e_gI S g 10 l0 10).bind fun v5 =>
      (e_aS S g 0 v3 v5 l1).bind fun g7 =>
      (e_gI S g7 10 l0 10).bind fun v9 =>
      (e_sI S g7 10 l0 10 (v9 + (1 : Int32))).bind fun g11 =>
      some g11
    else
      some g
  else none
theorem o_X10_feedOne  {S : e_S} {k : e_G} {l0 : Nat} {l1 : Int32} {g : e_G} (hf : f_X10_feedOne S l0 l1 g = some k) : e_ob S 10 l0 = true := by
  unfold f_X10_feedOne at hf
  by_cases hc : e_ob S 10 l0 = true
  · exact hc
  · rw [if_neg hc] at hf
    cases hf
theorem c_X10_feedOne {l : Launch} {D : va_G}  {S : e_S} {k : e_G} {l0 : Nat} {l1 : Int32} {g : e_G} (hf : f_X10_feedOne S l0 l1 g = some k) : CT l D (e_R 1) M_X10_feedOne [.ref l0, .int l1] (S, g) none (S, k) := by
  refine CT.of (by decide +kernel) (Nat.le_of_ble_eq_true rfl) ?_
  have ho := o_X10_feedOne hf
  unfold f_X10_feedOne at hf
  rw [if_pos ho] at hf
  show X l D (e_R 1) M_X10_feedOne 0 0 0 [(0, .ref l0), (1, .int l1)] [] (S, g) none (S, k)
  refine X.aload_n dX10_feedOne_0 rfl (j := 0) rfl ?_
  obtain ⟨v1, h2, hf⟩ := ob hf
  refine Y.getI dX10_feedOne_1 fl_X10_111 rfl h2 ?_
  refine X.sipush dX10_feedOne_4 kS_160 ?_
  refine X.icmp_lt dX10_feedOne_7 (tgt := 11) rfl (fun hc => ?_) (fun hc => ?_)
  · rw [if_pos hc] at hf
    refine X.aload_n dX10_feedOne_11 rfl (j := 0) rfl ?_
    obtain ⟨v3, h4, hf⟩ := ob hf
    refine Y.getR dX10_feedOne_12 fl_X10_28 rfl h4 ?_
    refine X.aload_n dX10_feedOne_15 rfl (j := 0) rfl ?_
    obtain ⟨v5, h6, hf⟩ := ob hf
    refine Y.getI dX10_feedOne_16 fl_X10_111 rfl h6 ?_
    refine X.iload_n dX10_feedOne_19 rfl (j := 1) rfl ?_
    obtain ⟨g7, h8, hf⟩ := ob hf
    refine Y.iast dX10_feedOne_20 h8 ?_
    refine X.aload_n dX10_feedOne_21 rfl (j := 0) rfl ?_
    refine X.dup dX10_feedOne_22 rfl ?_
    obtain ⟨v9, h10, hf⟩ := ob hf
    refine Y.getI dX10_feedOne_23 fl_X10_111 rfl h10 ?_
    refine X.iconst dX10_feedOne_26 kI_1 ?_
    refine X.iadd dX10_feedOne_27 ?_
    obtain ⟨g11, h12, hf⟩ := ob hf
    refine Y.putI dX10_feedOne_28 fl_X10_111 rfl rfl rfl rfl h12 ?_
    have e1 := Option.some.inj hf
    subst e1
    exact X.vret dX10_feedOne_31 rfl
  · rw [if_neg hc] at hf
    have e1 := Option.some.inj hf
    subst e1
    exact X.vret dX10_feedOne_10 rfl
/-! LeanedOut.count(I)I -/
abbrev M_X10_count : e_M := (yX10_count, cX10_count, 2, (some .int))
theorem mk_X10_count : e_Mok M_X10_count 1 := ⟨by decide +kernel, by decide +kernel, by decide +kernel⟩
theorem dX10_count_0 : decode cX10_count 0 = .ok (.iload_n 1, 1) := by decide +kernel
theorem dX10_count_1 : decode cX10_count 1 = .ok (.tableswitch 84 0 5 #[39, 47, 58, 66, 71, 79], 39) := by decide +kernel
theorem dX10_count_40 : decode cX10_count 40 = .ok (.aload_n 0, 1) := by decide +kernel
theorem dX10_count_41 : decode cX10_count 41 = .ok (.getfield 63, 3) := by decide +kernel
theorem dX10_count_44 : decode cX10_count 44 = .ok (.getfield 93, 3) := by decide +kernel
theorem dX10_count_47 : decode cX10_count 47 = .ok (.ireturn, 1) := by decide +kernel
theorem dX10_count_48 : decode cX10_count 48 = .ok (.aload_n 0, 1) := by decide +kernel
theorem dX10_count_49 : decode cX10_count 49 = .ok (.getfield 63, 3) := by decide +kernel
theorem dX10_count_52 : decode cX10_count 52 = .ok (.invokevirtual 96, 3) := by decide +kernel
theorem dX10_count_55 : decode cX10_count 55 = .ok (.invokestatic 99, 3) := by decide +kernel
theorem dX10_count_58 : decode cX10_count 58 = .ok (.ireturn, 1) := by decide +kernel
theorem dX10_count_59 : decode cX10_count 59 = .ok (.aload_n 0, 1) := by decide +kernel
theorem dX10_count_60 : decode cX10_count 60 = .ok (.getfield 63, 3) := by decide +kernel
theorem dX10_count_63 : decode cX10_count 63 = .ok (.getfield 105, 3) := by decide +kernel
theorem dX10_count_66 : decode cX10_count 66 = .ok (.ireturn, 1) := by decide +kernel
theorem dX10_count_67 : decode cX10_count 67 = .ok (.aload_n 0, 1) := by decide +kernel
theorem dX10_count_68 : decode cX10_count 68 = .ok (.getfield 89, 3) := by decide +kernel
theorem dX10_count_71 : decode cX10_count 71 = .ok (.ireturn, 1) := by decide +kernel
theorem dX10_count_72 : decode cX10_count 72 = .ok (.aload_n 0, 1) := by decide +kernel
theorem dX10_count_73 : decode cX10_count 73 = .ok (.getfield 63, 3) := by decide +kernel
theorem dX10_count_76 : decode cX10_count 76 = .ok (.getfield 108, 3) := by decide +kernel
theorem dX10_count_79 : decode cX10_count 79 = .ok (.ireturn, 1) := by decide +kernel
theorem dX10_count_80 : decode cX10_count 80 = .ok (.aload_n 0, 1) := by decide +kernel
theorem dX10_count_81 : decode cX10_count 81 = .ok (.getfield 111, 3) := by decide +kernel
theorem dX10_count_84 : decode cX10_count 84 = .ok (.ireturn, 1) := by decide +kernel
theorem dX10_count_85 : decode cX10_count 85 = .ok (.bipush (-2), 2) := by decide +kernel
theorem dX10_count_87 : decode cX10_count 87 = .ok (.ireturn, 1) := by decide +kernel
def f_X10_count (S : e_S) (l0 : Nat) (l1 : Int32) (g : e_G) : Option (Int32 × e_G) :=
  if e_ob S 10 l0 = true then
    if l1 = 0 then
      (e_gR S g 10 l0 2).bind fun v2 =>
      (e_gI S g 7 v2 6).bind fun v4 =>
      some (v4, g)
    else
    if l1 = 1 then
      (e_gR S g 10 l0 2).bind fun v7 =>
      (f_X7_keptBits S v7 g).bind fun q10 =>
      (f_J6_bitCount_0f7a4 S q10.1 q10.2).bind fun q12 =>
      some (q12.1, q12.2)
    else
    if l1 = 2 then
      (e_gR S g 10 l0 2).bind fun v14 =>
      (e_gI S g 7 v14 7).bind fun v16 =>
      some (v16, g)
    else
    if l1 = 3 then
      (e_gI S g 10 l0 9).bind fun v19 =>
      some (v19, g)
    else
    if l1 = 4 then
      (e_gR S g 10 l0 2).bind fun v22 =>
      (e_gI S g 7 v22 8).bind fun v24 =>
      some (v24, g)
    else
    if l1 = 5 then
      (e_gI S g 10 l0 10).bind fun v27 =>
      some (v27, g)
    else
    some ((-2 : Int32), g)
  else none
theorem o_X10_count  {S : e_S} {w : Int32} {k : e_G} {l0 : Nat} {l1 : Int32} {g : e_G} (hf : f_X10_count S l0 l1 g = some (w, k)) : e_ob S 10 l0 = true := by
  unfold f_X10_count at hf
  by_cases hc : e_ob S 10 l0 = true
  · exact hc
  · rw [if_neg hc] at hf
    cases hf
theorem c_X10_count {l : Launch} {D : va_G}  {S : e_S} {w : Int32} {k : e_G} {l0 : Nat} {l1 : Int32} {g : e_G} (hf : f_X10_count S l0 l1 g = some (w, k)) : CT l D (e_R 2) M_X10_count [.ref l0, .int l1] (S, g) (some (.int w)) (S, k) := by
  refine CT.of (by decide +kernel) (Nat.le_of_ble_eq_true rfl) ?_
  have ho := o_X10_count hf
  unfold f_X10_count at hf
  rw [if_pos ho] at hf
  show X l D (e_R 2) M_X10_count 0 0 0 [(0, .ref l0), (1, .int l1)] [] (S, g) (some (.int w)) (S, k)
  refine X.iload_n dX10_count_0 rfl (j := 1) rfl ?_
  by_cases h1 : l1 = (0 : Int32)
  · rw [if_pos h1] at hf
    refine X.tableIn dX10_count_1 (by rw [h1]; decide) (by rw [h1]; decide) (off := 39) (tgt := 40) (by rw [h1]; rfl) rfl ?_
    refine X.aload_n dX10_count_40 rfl (j := 0) rfl ?_
    obtain ⟨v2, h3, hf⟩ := ob hf
    refine Y.getR dX10_count_41 fl_X10_63 rfl h3 ?_
    obtain ⟨v4, h5, hf⟩ := ob hf
    refine Y.getI dX10_count_44 fl_X10_93 rfl h5 ?_
    obtain ⟨e1, e2⟩ := e_ret hf
    subst e1
    subst e2
    exact X.iret dX10_count_47 rfl rfl
  rw [if_neg h1] at hf
  by_cases h6 : l1 = (1 : Int32)
  · rw [if_pos h6] at hf
    refine X.tableIn dX10_count_1 (by rw [h6]; decide) (by rw [h6]; decide) (off := 47) (tgt := 48) (by rw [h6]; rfl) rfl ?_
    refine X.aload_n dX10_count_48 rfl (j := 0) rfl ?_
    obtain ⟨v7, h8, hf⟩ := ob hf
    refine Y.getR dX10_count_49 fl_X10_63 rfl h8 ?_
    obtain ⟨q10, h9, hf⟩ := ob hf
    refine Y.callV (av := []) (ci := 7) dX10_count_52 (c_X7_keptBits (l := l) (D := D) (w := q10.1) (k := q10.2) h9) cw_X10_96 (by decide) rfl mk_X7_keptBits (o_X7_keptBits (w := q10.1) (k := q10.2) h9) (e_R_ok (Nat.le_of_ble_eq_true rfl) (Nat.le_of_ble_eq_true rfl)) ⟨rfl, rfl⟩ (by simp [Value.category]) ?_
    obtain ⟨q12, h11, hf⟩ := ob hf
    refine Y.callS (av := [.int q10.1]) dX10_count_55 (c_J6_bitCount_0f7a4 (l := l) (D := D) (w := q12.1) (k := q12.2) h11) cw_X10_99 mk_J6_bitCount_0f7a4 (e_R_ok (Nat.le_of_ble_eq_true rfl) (Nat.le_of_ble_eq_true rfl)) ⟨rfl, rfl⟩ (by simp [Value.category]) ?_
    obtain ⟨e1, e2⟩ := e_ret hf
    subst e1
    subst e2
    exact X.iret dX10_count_58 rfl rfl
  rw [if_neg h6] at hf
  by_cases h13 : l1 = (2 : Int32)
  · rw [if_pos h13] at hf
    refine X.tableIn dX10_count_1 (by rw [h13]; decide) (by rw [h13]; decide) (off := 58) (tgt := 59) (by rw [h13]; rfl) rfl ?_
    refine X.aload_n dX10_count_59 rfl (j := 0) rfl ?_
    obtain ⟨v14, h15, hf⟩ := ob hf
    refine Y.getR dX10_count_60 fl_X10_63 rfl h15 ?_
    obtain ⟨v16, h17, hf⟩ := ob hf
    refine Y.getI dX10_count_63 fl_X10_105 rfl h17 ?_
    obtain ⟨e1, e2⟩ := e_ret hf
    subst e1
    subst e2
    exact X.iret dX10_count_66 rfl rfl
  rw [if_neg h13] at hf
  by_cases h18 : l1 = (3 : Int32)
  · rw [if_pos h18] at hf
    refine X.tableIn dX10_count_1 (by rw [h18]; decide) (by rw [h18]; decide) (off := 66) (tgt := 67) (by rw [h18]; rfl) rfl ?_
    refine X.aload_n dX10_count_67 rfl (j := 0) rfl ?_
    obtain ⟨v19, h20, hf⟩ := ob hf
    refine Y.getI dX10_count_68 fl_X10_89 rfl h20 ?_
    obtain ⟨e1, e2⟩ := e_ret hf
    subst e1
    subst e2
    exact X.iret dX10_count_71 rfl rfl
  rw [if_neg h18] at hf
  by_cases h21 : l1 = (4 : Int32)
  · rw [if_pos h21] at hf
    refine X.tableIn dX10_count_1 (by rw [h21]; decide) (by rw [h21]; decide) (off := 71) (tgt := 72) (by rw [h21]; rfl) rfl ?_
    refine X.aload_n dX10_count_72 rfl (j := 0) rfl ?_
    obtain ⟨v22, h23, hf⟩ := ob hf
    refine Y.getR dX10_count_73 fl_X10_63 rfl h23 ?_
    obtain ⟨v24, h25, hf⟩ := ob hf
    refine Y.getI dX10_count_76 fl_X10_108 rfl h25 ?_
    obtain ⟨e1, e2⟩ := e_ret hf
    subst e1
    subst e2
    exact X.iret dX10_count_79 rfl rfl
  rw [if_neg h21] at hf
  by_cases h26 : l1 = (5 : Int32)
  · rw [if_pos h26] at hf
    refine X.tableIn dX10_count_1 (by rw [h26]; decide) (by rw [h26]; decide) (off := 79) (tgt := 80) (by rw [h26]; rfl) rfl ?_
    refine X.aload_n dX10_count_80 rfl (j := 0) rfl ?_
    obtain ⟨v27, h28, hf⟩ := ob hf
    refine Y.getI dX10_count_81 fl_X10_111 rfl h28 ?_
    obtain ⟨e1, e2⟩ := e_ret hf
    subst e1
    subst e2
    exact X.iret dX10_count_84 rfl rfl
  rw [if_neg h26] at hf
  refine X.tableOut dX10_count_1 (tgt := 85) (by have qh1 := e_ne (z := 0) (by decide) h1; have qh6 := e_ne (z := 1) (by decide) h6; have qh13 := e_ne (z := 2) (by decide) h13; have qh18 := e_ne (z := 3) (by decide) h18; have qh21 := e_ne (z := 4) (by decide) h21; have qh26 := e_ne (z := 5) (by decide) h26; omega) rfl ?_
  refine X.bipush dX10_count_85 kB_m2 ?_
  obtain ⟨e1, e2⟩ := e_ret hf
  subst e1
  subst e2
  exact X.iret dX10_count_87 rfl rfl
/-! LeanedOut.dawn(I)I -/
abbrev M_X10_dawn : e_M := (yX10_dawn, cX10_dawn, 3, (some .int))
theorem mk_X10_dawn : e_Mok M_X10_dawn 1 := ⟨by decide +kernel, by decide +kernel, by decide +kernel⟩
theorem dX10_dawn_0 : decode cX10_dawn 0 = .ok (.iload_n 1, 1) := by decide +kernel
theorem dX10_dawn_1 : decode cX10_dawn 1 = .ok (.ifCond .lt 10, 3) := by decide +kernel
theorem dX10_dawn_4 : decode cX10_dawn 4 = .ok (.iload_n 1, 1) := by decide +kernel
theorem dX10_dawn_5 : decode cX10_dawn 5 = .ok (.sipush 999, 3) := by decide +kernel
theorem dX10_dawn_8 : decode cX10_dawn 8 = .ok (.if_icmp .le 6, 3) := by decide +kernel
theorem dX10_dawn_11 : decode cX10_dawn 11 = .ok (.bipush (-2), 2) := by decide +kernel
theorem dX10_dawn_13 : decode cX10_dawn 13 = .ok (.ireturn, 1) := by decide +kernel
theorem dX10_dawn_14 : decode cX10_dawn 14 = .ok (.aload_n 0, 1) := by decide +kernel
theorem dX10_dawn_15 : decode cX10_dawn 15 = .ok (.getfield 63, 3) := by decide +kernel
theorem dX10_dawn_18 : decode cX10_dawn 18 = .ok (.getfield 105, 3) := by decide +kernel
theorem dX10_dawn_21 : decode cX10_dawn 21 = .ok (.istore_n 2, 1) := by decide +kernel
theorem dX10_dawn_22 : decode cX10_dawn 22 = .ok (.aload_n 0, 1) := by decide +kernel
theorem dX10_dawn_23 : decode cX10_dawn 23 = .ok (.getfield 63, 3) := by decide +kernel
theorem dX10_dawn_26 : decode cX10_dawn 26 = .ok (.iload_n 1, 1) := by decide +kernel
theorem dX10_dawn_27 : decode cX10_dawn 27 = .ok (.putfield 105, 3) := by decide +kernel
theorem dX10_dawn_30 : decode cX10_dawn 30 = .ok (.iload_n 2, 1) := by decide +kernel
theorem dX10_dawn_31 : decode cX10_dawn 31 = .ok (.ireturn, 1) := by decide +kernel
def f_X10_dawn (S : e_S) (l0 : Nat) (l1 : Int32) (g : e_G) : Option (Int32 × e_G) :=
  if e_ob S 10 l0 = true then
    if l1 < 0 then
      some ((-2 : Int32), g)
    else
      if l1 ≤ (999 : Int32) then
        (e_gR S g 10 l0 2).bind fun v1 =>
        (e_gI S g 7 v1 7).bind fun v3 =>
        (e_gR S g 10 l0 2).bind fun v5 =>
        (e_sI S g 7 v5 7 l1).bind fun g7 =>
        some (v3, g7)
      else
        some ((-2 : Int32), g)
  else none
theorem o_X10_dawn  {S : e_S} {w : Int32} {k : e_G} {l0 : Nat} {l1 : Int32} {g : e_G} (hf : f_X10_dawn S l0 l1 g = some (w, k)) : e_ob S 10 l0 = true := by
  unfold f_X10_dawn at hf
  by_cases hc : e_ob S 10 l0 = true
  · exact hc
  · rw [if_neg hc] at hf
    cases hf
theorem c_X10_dawn {l : Launch} {D : va_G}  {S : e_S} {w : Int32} {k : e_G} {l0 : Nat} {l1 : Int32} {g : e_G} (hf : f_X10_dawn S l0 l1 g = some (w, k)) : CT l D (e_R 1) M_X10_dawn [.ref l0, .int l1] (S, g) (some (.int w)) (S, k) := by
  refine CT.of (by decide +kernel) (Nat.le_of_ble_eq_true rfl) ?_
  have ho := o_X10_dawn hf
  unfold f_X10_dawn at hf
  rw [if_pos ho] at hf
  show X l D (e_R 1) M_X10_dawn 0 0 0 [(0, .ref l0), (1, .int l1)] [] (S, g) (some (.int w)) (S, k)
  refine X.iload_n dX10_dawn_0 rfl (j := 1) rfl ?_
  refine X.if_lt dX10_dawn_1 (tgt := 11) rfl (fun hc => ?_) (fun hc => ?_)
  · rw [if_pos hc] at hf
    refine X.bipush dX10_dawn_11 kB_m2 ?_
    obtain ⟨e1, e2⟩ := e_ret hf
    subst e1
    subst e2
    exact X.iret dX10_dawn_13 rfl rfl
  · rw [if_neg hc] at hf
    refine X.iload_n dX10_dawn_4 rfl (j := 1) rfl ?_
    refine X.sipush dX10_dawn_5 kS_999 ?_
    refine X.icmp_le dX10_dawn_8 (tgt := 14) rfl (fun hc => ?_) (fun hc => ?_)
    · rw [if_pos hc] at hf
      refine X.aload_n dX10_dawn_14 rfl (j := 0) rfl ?_
      obtain ⟨v1, h2, hf⟩ := ob hf
      refine Y.getR dX10_dawn_15 fl_X10_63 rfl h2 ?_
      obtain ⟨v3, h4, hf⟩ := ob hf
      refine Y.getI dX10_dawn_18 fl_X10_105 rfl h4 ?_
      refine X.istore_n dX10_dawn_21 rfl (Nat.le_of_ble_eq_true rfl) (lc' := [(2, .int v3), (0, .ref l0), (1, .int l1)]) rfl ?_
      refine X.aload_n dX10_dawn_22 rfl (j := 1) rfl ?_
      obtain ⟨v5, h6, hf⟩ := ob hf
      refine Y.getR dX10_dawn_23 fl_X10_63 rfl h6 ?_
      refine X.iload_n dX10_dawn_26 rfl (j := 2) rfl ?_
      obtain ⟨g7, h8, hf⟩ := ob hf
      refine Y.putI dX10_dawn_27 fl_X10_105 rfl rfl rfl rfl h8 ?_
      refine X.iload_n dX10_dawn_30 rfl (j := 0) rfl ?_
      obtain ⟨e1, e2⟩ := e_ret hf
      subst e1
      subst e2
      exact X.iret dX10_dawn_31 rfl rfl
    · rw [if_neg hc] at hf
      refine X.bipush dX10_dawn_11 kB_m2 ?_
      obtain ⟨e1, e2⟩ := e_ret hf
      subst e1
      subst e2
      exact X.iret dX10_dawn_13 rfl rfl
/-! LeanedOut.feed(IIIIII)I -/
abbrev M_X10_feed : e_M := (yX10_feed, cX10_feed, 7, (some .int))
theorem mk_X10_feed : e_Mok M_X10_feed 6 := ⟨by decide +kernel, by decide +kernel, by decide +kernel⟩
theorem dX10_feed_0 : decode cX10_feed 0 = .ok (.iload_n 1, 1) := by decide +kernel
theorem dX10_feed_1 : decode cX10_feed 1 = .ok (.iconst 1, 1) := by decide +kernel
theorem dX10_feed_2 : decode cX10_feed 2 = .ok (.if_icmp .lt 8, 3) := by decide +kernel
theorem dX10_feed_5 : decode cX10_feed 5 = .ok (.iload_n 1, 1) := by decide +kernel
theorem dX10_feed_6 : decode cX10_feed 6 = .ok (.iconst 5, 1) := by decide +kernel
theorem dX10_feed_7 : decode cX10_feed 7 = .ok (.if_icmp .le 6, 3) := by decide +kernel
theorem dX10_feed_10 : decode cX10_feed 10 = .ok (.bipush (-2), 2) := by decide +kernel
theorem dX10_feed_12 : decode cX10_feed 12 = .ok (.ireturn, 1) := by decide +kernel
theorem dX10_feed_13 : decode cX10_feed 13 = .ok (.iload_n 2, 1) := by decide +kernel
theorem dX10_feed_14 : decode cX10_feed 14 = .ok (.invokestatic 114, 3) := by decide +kernel
theorem dX10_feed_17 : decode cX10_feed 17 = .ok (.ifCond .eq 34, 3) := by decide +kernel
theorem dX10_feed_20 : decode cX10_feed 20 = .ok (.iload_n 3, 1) := by decide +kernel
theorem dX10_feed_21 : decode cX10_feed 21 = .ok (.invokestatic 114, 3) := by decide +kernel
theorem dX10_feed_24 : decode cX10_feed 24 = .ok (.ifCond .eq 27, 3) := by decide +kernel
theorem dX10_feed_27 : decode cX10_feed 27 = .ok (.iload 4, 2) := by decide +kernel
theorem dX10_feed_29 : decode cX10_feed 29 = .ok (.invokestatic 114, 3) := by decide +kernel
theorem dX10_feed_32 : decode cX10_feed 32 = .ok (.ifCond .eq 19, 3) := by decide +kernel
theorem dX10_feed_35 : decode cX10_feed 35 = .ok (.iload 5, 2) := by decide +kernel
theorem dX10_feed_37 : decode cX10_feed 37 = .ok (.invokestatic 114, 3) := by decide +kernel
theorem dX10_feed_40 : decode cX10_feed 40 = .ok (.ifCond .eq 11, 3) := by decide +kernel
theorem dX10_feed_43 : decode cX10_feed 43 = .ok (.iload 6, 2) := by decide +kernel
theorem dX10_feed_45 : decode cX10_feed 45 = .ok (.invokestatic 114, 3) := by decide +kernel
theorem dX10_feed_48 : decode cX10_feed 48 = .ok (.ifCond .ne 6, 3) := by decide +kernel
theorem dX10_feed_51 : decode cX10_feed 51 = .ok (.bipush (-2), 2) := by decide +kernel
theorem dX10_feed_53 : decode cX10_feed 53 = .ok (.ireturn, 1) := by decide +kernel
theorem dX10_feed_54 : decode cX10_feed 54 = .ok (.aload_n 0, 1) := by decide +kernel
theorem dX10_feed_55 : decode cX10_feed 55 = .ok (.getfield 111, 3) := by decide +kernel
theorem dX10_feed_58 : decode cX10_feed 58 = .ok (.iload_n 1, 1) := by decide +kernel
theorem dX10_feed_59 : decode cX10_feed 59 = .ok (.iadd, 1) := by decide +kernel
theorem dX10_feed_60 : decode cX10_feed 60 = .ok (.sipush 160, 3) := by decide +kernel
theorem dX10_feed_63 : decode cX10_feed 63 = .ok (.if_icmp .le 6, 3) := by decide +kernel
theorem dX10_feed_66 : decode cX10_feed 66 = .ok (.bipush (-4), 2) := by decide +kernel
theorem dX10_feed_68 : decode cX10_feed 68 = .ok (.ireturn, 1) := by decide +kernel
theorem dX10_feed_69 : decode cX10_feed 69 = .ok (.aload_n 0, 1) := by decide +kernel
theorem dX10_feed_70 : decode cX10_feed 70 = .ok (.iload_n 2, 1) := by decide +kernel
theorem dX10_feed_71 : decode cX10_feed 71 = .ok (.invokevirtual 118, 3) := by decide +kernel
theorem dX10_feed_74 : decode cX10_feed 74 = .ok (.iload_n 1, 1) := by decide +kernel
theorem dX10_feed_75 : decode cX10_feed 75 = .ok (.iconst 1, 1) := by decide +kernel
theorem dX10_feed_76 : decode cX10_feed 76 = .ok (.if_icmp .le 8, 3) := by decide +kernel
theorem dX10_feed_79 : decode cX10_feed 79 = .ok (.aload_n 0, 1) := by decide +kernel
theorem dX10_feed_80 : decode cX10_feed 80 = .ok (.iload_n 3, 1) := by decide +kernel
theorem dX10_feed_81 : decode cX10_feed 81 = .ok (.invokevirtual 118, 3) := by decide +kernel
theorem dX10_feed_84 : decode cX10_feed 84 = .ok (.iload_n 1, 1) := by decide +kernel
theorem dX10_feed_85 : decode cX10_feed 85 = .ok (.iconst 2, 1) := by decide +kernel
theorem dX10_feed_86 : decode cX10_feed 86 = .ok (.if_icmp .le 9, 3) := by decide +kernel
theorem dX10_feed_89 : decode cX10_feed 89 = .ok (.aload_n 0, 1) := by decide +kernel
theorem dX10_feed_90 : decode cX10_feed 90 = .ok (.iload 4, 2) := by decide +kernel
theorem dX10_feed_92 : decode cX10_feed 92 = .ok (.invokevirtual 118, 3) := by decide +kernel
theorem dX10_feed_95 : decode cX10_feed 95 = .ok (.iload_n 1, 1) := by decide +kernel
theorem dX10_feed_96 : decode cX10_feed 96 = .ok (.iconst 3, 1) := by decide +kernel
theorem dX10_feed_97 : decode cX10_feed 97 = .ok (.if_icmp .le 9, 3) := by decide +kernel
theorem dX10_feed_100 : decode cX10_feed 100 = .ok (.aload_n 0, 1) := by decide +kernel
theorem dX10_feed_101 : decode cX10_feed 101 = .ok (.iload 5, 2) := by decide +kernel
theorem dX10_feed_103 : decode cX10_feed 103 = .ok (.invokevirtual 118, 3) := by decide +kernel
theorem dX10_feed_106 : decode cX10_feed 106 = .ok (.iload_n 1, 1) := by decide +kernel
theorem dX10_feed_107 : decode cX10_feed 107 = .ok (.iconst 4, 1) := by decide +kernel
theorem dX10_feed_108 : decode cX10_feed 108 = .ok (.if_icmp .le 9, 3) := by decide +kernel
theorem dX10_feed_111 : decode cX10_feed 111 = .ok (.aload_n 0, 1) := by decide +kernel
theorem dX10_feed_112 : decode cX10_feed 112 = .ok (.iload 6, 2) := by decide +kernel
theorem dX10_feed_114 : decode cX10_feed 114 = .ok (.invokevirtual 118, 3) := by decide +kernel
theorem dX10_feed_117 : decode cX10_feed 117 = .ok (.aload_n 0, 1) := by decide +kernel
theorem dX10_feed_118 : decode cX10_feed 118 = .ok (.getfield 111, 3) := by decide +kernel
theorem dX10_feed_121 : decode cX10_feed 121 = .ok (.ireturn, 1) := by decide +kernel
def J_X10_feed_117 (S : e_S) (l0 : Nat) (g : e_G) : Option (Int32 × e_G) :=
  (e_gI S g 10 l0 10).bind fun v1 =>
  some (v1, g)
def J_X10_feed_106 (S : e_S) (l0 : Nat) (l1 : Int32) (l6 : Int32) (g : e_G) : Option (Int32 × e_G) :=
  if l1 ≤ (4 : Int32) then
    J_X10_feed_117 S l0 g
  else
    (f_X10_feedOne S l0 l6 g).bind fun q2 =>
    J_X10_feed_117 S l0 q2
def J_X10_feed_95 (S : e_S) (l0 : Nat) (l1 : Int32) (l5 : Int32) (l6 : Int32) (g : e_G) : Option (Int32 × e_G) :=
  if l1 ≤ (3 : Int32) then
    J_X10_feed_106 S l0 l1 l6 g
  else
    (f_X10_feedOne S l0 l5 g).bind fun q2 =>
    J_X10_feed_106 S l0 l1 l6 q2
def J_X10_feed_84 (S : e_S) (l0 : Nat) (l1 : Int32) (l4 : Int32) (l5 : Int32) (l6 : Int32) (g : e_G) : Option (Int32 × e_G) :=
  if l1 ≤ (2 : Int32) then
    J_X10_feed_95 S l0 l1 l5 l6 g
  else
    (f_X10_feedOne S l0 l4 g).bind fun q2 =>
    J_X10_feed_95 S l0 l1 l5 l6 q2
def f_X10_feed (S : e_S) (l0 : Nat) (l1 : Int32) (l2 : Int32) (l3 : Int32) (l4 : Int32) (l5 : Int32) (l6 : Int32) (g : e_G) : Option (Int32 × e_G) :=
  if e_ob S 10 l0 = true then
    if l1 < (1 : Int32) then
      some ((-2 : Int32), g)
    else
      if l1 ≤ (5 : Int32) then
        (f_X10_isByte S l2 g).bind fun q2 =>
        if q2.1 = 0 then
          some ((-2 : Int32), q2.2)
        else
          (f_X10_isByte S l3 q2.2).bind fun q4 =>
          if q4.1 = 0 then
            some ((-2 : Int32), q4.2)
          else
            (f_X10_isByte S l4 q4.2).bind fun q6 =>
            if q6.1 = 0 then
              some ((-2 : Int32), q6.2)
            else
              (f_X10_isByte S l5 q6.2).bind fun q8 =>
              if q8.1 = 0 then
                some ((-2 : Int32), q8.2)
              else
                (f_X10_isByte S l6 q8.2).bind fun q10 =>
                if q10.1 = 0 then
                  some ((-2 : Int32), q10.2)
                else
                  (e_gI S q10.2 10 l0 10).bind fun v11 =>
                  if (v11 + l1) ≤ (160 : Int32) then
                    (f_X10_feedOne S l0 l2 q10.2).bind fun q14 =>
                    if l1 ≤ (1 : Int32) then
                      J_X10_feed_84 S l0 l1 l4 l5 l6 q14
                    else
                      (f_X10_feedOne S l0 l3 q14).bind fun q16 =>
                      J_X10_feed_84 S l0 l1 l4 l5 l6 q16
                  else
                    some ((-4 : Int32), q10.2)
      else
        some ((-2 : Int32), g)
  else none
theorem x_J_X10_feed_117 {l : Launch} {D : va_G} {S : e_S} {w : Int32} {k : e_G} {l0 : Nat} {g : e_G} (hf : J_X10_feed_117 S l0 g = some (w, k)) : X l D (e_R 2) M_X10_feed 0 0 117 [(0, .ref l0)] [] (S, g) (some (.int w)) (S, k) := by
  unfold J_X10_feed_117 at hf
  refine X.aload_n dX10_feed_117 rfl (j := 0) rfl ?_
  obtain ⟨v1, h2, hf⟩ := ob hf
  refine Y.getI dX10_feed_118 fl_X10_111 rfl h2 ?_
  obtain ⟨e1, e2⟩ := e_ret hf
  subst e1
  subst e2
  exact X.iret dX10_feed_121 rfl rfl
theorem x_J_X10_feed_106 {l : Launch} {D : va_G} {S : e_S} {w : Int32} {k : e_G} {l0 : Nat} {l1 : Int32} {l6 : Int32} {g : e_G} (hf : J_X10_feed_106 S l0 l1 l6 g = some (w, k)) : X l D (e_R 2) M_X10_feed 0 0 106 [(0, .ref l0), (1, .int l1), (6, .int l6)] [] (S, g) (some (.int w)) (S, k) := by
  unfold J_X10_feed_106 at hf
  refine X.iload_n dX10_feed_106 rfl (j := 1) rfl ?_
  refine X.iconst dX10_feed_107 kI_4 ?_
  refine X.icmp_le dX10_feed_108 (tgt := 117) rfl (fun hc => ?_) (fun hc => ?_)
  · rw [if_pos hc] at hf
    refine X.sub [0] rfl ?_
    exact x_J_X10_feed_117 hf
  · rw [if_neg hc] at hf
    refine X.aload_n dX10_feed_111 rfl (j := 0) rfl ?_
    refine X.iload dX10_feed_112 (j := 2) rfl ?_
    obtain ⟨q2, h1, hf⟩ := ob hf
    refine Y.callV (av := [.int l6]) (ci := 10) dX10_feed_114 (c_X10_feedOne (l := l) (D := D) h1) cw_X10_118 (by decide) rfl mk_X10_feedOne (o_X10_feedOne (k := q2) h1) (e_R_ok (Nat.le_of_ble_eq_true rfl) (Nat.le_of_ble_eq_true rfl)) ⟨rfl, rfl⟩ (by simp [Value.category]) ?_
    refine X.sub [0] rfl ?_
    exact x_J_X10_feed_117 hf
theorem x_J_X10_feed_95 {l : Launch} {D : va_G} {S : e_S} {w : Int32} {k : e_G} {l0 : Nat} {l1 : Int32} {l5 : Int32} {l6 : Int32} {g : e_G} (hf : J_X10_feed_95 S l0 l1 l5 l6 g = some (w, k)) : X l D (e_R 2) M_X10_feed 0 0 95 [(0, .ref l0), (1, .int l1), (5, .int l5), (6, .int l6)] [] (S, g) (some (.int w)) (S, k) := by
  unfold J_X10_feed_95 at hf
  refine X.iload_n dX10_feed_95 rfl (j := 1) rfl ?_
  refine X.iconst dX10_feed_96 kI_3 ?_
  refine X.icmp_le dX10_feed_97 (tgt := 106) rfl (fun hc => ?_) (fun hc => ?_)
  · rw [if_pos hc] at hf
    refine X.sub [0, 1, 3] rfl ?_
    exact x_J_X10_feed_106 hf
  · rw [if_neg hc] at hf
    refine X.aload_n dX10_feed_100 rfl (j := 0) rfl ?_
    refine X.iload dX10_feed_101 (j := 2) rfl ?_
    obtain ⟨q2, h1, hf⟩ := ob hf
    refine Y.callV (av := [.int l5]) (ci := 10) dX10_feed_103 (c_X10_feedOne (l := l) (D := D) h1) cw_X10_118 (by decide) rfl mk_X10_feedOne (o_X10_feedOne (k := q2) h1) (e_R_ok (Nat.le_of_ble_eq_true rfl) (Nat.le_of_ble_eq_true rfl)) ⟨rfl, rfl⟩ (by simp [Value.category]) ?_
    refine X.sub [0, 1, 3] rfl ?_
    exact x_J_X10_feed_106 hf
theorem x_J_X10_feed_84 {l : Launch} {D : va_G} {S : e_S} {w : Int32} {k : e_G} {l0 : Nat} {l1 : Int32} {l4 : Int32} {l5 : Int32} {l6 : Int32} {g : e_G} (hf : J_X10_feed_84 S l0 l1 l4 l5 l6 g = some (w, k)) : X l D (e_R 2) M_X10_feed 0 0 84 [(0, .ref l0), (1, .int l1), (4, .int l4), (5, .int l5), (6, .int l6)] [] (S, g) (some (.int w)) (S, k) := by
  unfold J_X10_feed_84 at hf
  refine X.iload_n dX10_feed_84 rfl (j := 1) rfl ?_
  refine X.iconst dX10_feed_85 kI_2 ?_
  refine X.icmp_le dX10_feed_86 (tgt := 95) rfl (fun hc => ?_) (fun hc => ?_)
  · rw [if_pos hc] at hf
    refine X.sub [0, 1, 3, 4] rfl ?_
    exact x_J_X10_feed_95 hf
  · rw [if_neg hc] at hf
    refine X.aload_n dX10_feed_89 rfl (j := 0) rfl ?_
    refine X.iload dX10_feed_90 (j := 2) rfl ?_
    obtain ⟨q2, h1, hf⟩ := ob hf
    refine Y.callV (av := [.int l4]) (ci := 10) dX10_feed_92 (c_X10_feedOne (l := l) (D := D) h1) cw_X10_118 (by decide) rfl mk_X10_feedOne (o_X10_feedOne (k := q2) h1) (e_R_ok (Nat.le_of_ble_eq_true rfl) (Nat.le_of_ble_eq_true rfl)) ⟨rfl, rfl⟩ (by simp [Value.category]) ?_
    refine X.sub [0, 1, 3, 4] rfl ?_
    exact x_J_X10_feed_95 hf
theorem o_X10_feed  {S : e_S} {w : Int32} {k : e_G} {l0 : Nat} {l1 : Int32} {l2 : Int32} {l3 : Int32} {l4 : Int32} {l5 : Int32} {l6 : Int32} {g : e_G} (hf : f_X10_feed S l0 l1 l2 l3 l4 l5 l6 g = some (w, k)) : e_ob S 10 l0 = true := by
  unfold f_X10_feed at hf
  by_cases hc : e_ob S 10 l0 = true
  · exact hc
  · rw [if_neg hc] at hf
    cases hf
theorem c_X10_feed {l : Launch} {D : va_G}  {S : e_S} {w : Int32} {k : e_G} {l0 : Nat} {l1 : Int32} {l2 : Int32} {l3 : Int32} {l4 : Int32} {l5 : Int32} {l6 : Int32} {g : e_G} (hf : f_X10_feed S l0 l1 l2 l3 l4 l5 l6 g = some (w, k)) : CT l D (e_R 2) M_X10_feed [.ref l0, .int l1, .int l2, .int l3, .int l4, .int l5, .int l6] (S, g) (some (.int w)) (S, k) := by
  refine CT.of (by decide +kernel) (Nat.le_of_ble_eq_true rfl) ?_
  have ho := o_X10_feed hf
  unfold f_X10_feed at hf
  rw [if_pos ho] at hf
  show X l D (e_R 2) M_X10_feed 0 0 0 [(0, .ref l0), (1, .int l1), (2, .int l2), (3, .int l3), (4, .int l4), (5, .int l5), (6, .int l6)] [] (S, g) (some (.int w)) (S, k)
  refine X.iload_n dX10_feed_0 rfl (j := 1) rfl ?_
  refine X.iconst dX10_feed_1 kI_1 ?_
  refine X.icmp_lt dX10_feed_2 (tgt := 10) rfl (fun hc => ?_) (fun hc => ?_)
  · rw [if_pos hc] at hf
    refine X.bipush dX10_feed_10 kB_m2 ?_
    obtain ⟨e1, e2⟩ := e_ret hf
    subst e1
    subst e2
    exact X.iret dX10_feed_12 rfl rfl
  · rw [if_neg hc] at hf
    refine X.iload_n dX10_feed_5 rfl (j := 1) rfl ?_
    refine X.iconst dX10_feed_6 kI_5 ?_
    refine X.icmp_le dX10_feed_7 (tgt := 13) rfl (fun hc => ?_) (fun hc => ?_)
    · rw [if_pos hc] at hf
      refine X.iload_n dX10_feed_13 rfl (j := 2) rfl ?_
      obtain ⟨q2, h1, hf⟩ := ob hf
      refine Y.callS (av := [.int l2]) dX10_feed_14 (c_X10_isByte (l := l) (D := D) (w := q2.1) (k := q2.2) h1) cw_X10_114 mk_X10_isByte (e_R_ok (Nat.le_of_ble_eq_true rfl) (Nat.le_of_ble_eq_true rfl)) ⟨rfl, rfl⟩ (by simp [Value.category]) ?_
      refine X.if_eq dX10_feed_17 (tgt := 51) rfl (fun hc => ?_) (fun hc => ?_)
      · rw [if_pos hc] at hf
        refine X.bipush dX10_feed_51 kB_m2 ?_
        obtain ⟨e1, e2⟩ := e_ret hf
        subst e1
        subst e2
        exact X.iret dX10_feed_53 rfl rfl
      · rw [if_neg hc] at hf
        refine X.iload_n dX10_feed_20 rfl (j := 3) rfl ?_
        obtain ⟨q4, h3, hf⟩ := ob hf
        refine Y.callS (av := [.int l3]) dX10_feed_21 (c_X10_isByte (l := l) (D := D) (w := q4.1) (k := q4.2) h3) cw_X10_114 mk_X10_isByte (e_R_ok (Nat.le_of_ble_eq_true rfl) (Nat.le_of_ble_eq_true rfl)) ⟨rfl, rfl⟩ (by simp [Value.category]) ?_
        refine X.if_eq dX10_feed_24 (tgt := 51) rfl (fun hc => ?_) (fun hc => ?_)
        · rw [if_pos hc] at hf
          refine X.bipush dX10_feed_51 kB_m2 ?_
          obtain ⟨e1, e2⟩ := e_ret hf
          subst e1
          subst e2
          exact X.iret dX10_feed_53 rfl rfl
        · rw [if_neg hc] at hf
          refine X.iload dX10_feed_27 (j := 4) rfl ?_
          obtain ⟨q6, h5, hf⟩ := ob hf
          refine Y.callS (av := [.int l4]) dX10_feed_29 (c_X10_isByte (l := l) (D := D) (w := q6.1) (k := q6.2) h5) cw_X10_114 mk_X10_isByte (e_R_ok (Nat.le_of_ble_eq_true rfl) (Nat.le_of_ble_eq_true rfl)) ⟨rfl, rfl⟩ (by simp [Value.category]) ?_
          refine X.if_eq dX10_feed_32 (tgt := 51) rfl (fun hc => ?_) (fun hc => ?_)
          · rw [if_pos hc] at hf
            refine X.bipush dX10_feed_51 kB_m2 ?_
            obtain ⟨e1, e2⟩ := e_ret hf
            subst e1
            subst e2
            exact X.iret dX10_feed_53 rfl rfl
          · rw [if_neg hc] at hf
            refine X.iload dX10_feed_35 (j := 5) rfl ?_
            obtain ⟨q8, h7, hf⟩ := ob hf
            refine Y.callS (av := [.int l5]) dX10_feed_37 (c_X10_isByte (l := l) (D := D) (w := q8.1) (k := q8.2) h7) cw_X10_114 mk_X10_isByte (e_R_ok (Nat.le_of_ble_eq_true rfl) (Nat.le_of_ble_eq_true rfl)) ⟨rfl, rfl⟩ (by simp [Value.category]) ?_
            refine X.if_eq dX10_feed_40 (tgt := 51) rfl (fun hc => ?_) (fun hc => ?_)
            · rw [if_pos hc] at hf
              refine X.bipush dX10_feed_51 kB_m2 ?_
              obtain ⟨e1, e2⟩ := e_ret hf
              subst e1
              subst e2
              exact X.iret dX10_feed_53 rfl rfl
            · rw [if_neg hc] at hf
              refine X.iload dX10_feed_43 (j := 6) rfl ?_
              obtain ⟨q10, h9, hf⟩ := ob hf
              refine Y.callS (av := [.int l6]) dX10_feed_45 (c_X10_isByte (l := l) (D := D) (w := q10.1) (k := q10.2) h9) cw_X10_114 mk_X10_isByte (e_R_ok (Nat.le_of_ble_eq_true rfl) (Nat.le_of_ble_eq_true rfl)) ⟨rfl, rfl⟩ (by simp [Value.category]) ?_
              refine X.if_ne dX10_feed_48 (tgt := 54) rfl (fun hc => ?_) (fun hc => ?_)
              · rw [if_neg hc] at hf
                refine X.aload_n dX10_feed_54 rfl (j := 0) rfl ?_
                obtain ⟨v11, h12, hf⟩ := ob hf
                refine Y.getI dX10_feed_55 fl_X10_111 rfl h12 ?_
                refine X.iload_n dX10_feed_58 rfl (j := 1) rfl ?_
                refine X.iadd dX10_feed_59 ?_
                refine X.sipush dX10_feed_60 kS_160 ?_
                refine X.icmp_le dX10_feed_63 (tgt := 69) rfl (fun hc => ?_) (fun hc => ?_)
                · rw [if_pos hc] at hf
                  refine X.aload_n dX10_feed_69 rfl (j := 0) rfl ?_
                  refine X.iload_n dX10_feed_70 rfl (j := 2) rfl ?_
                  obtain ⟨q14, h13, hf⟩ := ob hf
                  refine Y.callV (av := [.int l2]) (ci := 10) dX10_feed_71 (c_X10_feedOne (l := l) (D := D) h13) cw_X10_118 (by decide) rfl mk_X10_feedOne (o_X10_feedOne (k := q14) h13) (e_R_ok (Nat.le_of_ble_eq_true rfl) (Nat.le_of_ble_eq_true rfl)) ⟨rfl, rfl⟩ (by simp [Value.category]) ?_
                  refine X.iload_n dX10_feed_74 rfl (j := 1) rfl ?_
                  refine X.iconst dX10_feed_75 kI_1 ?_
                  refine X.icmp_le dX10_feed_76 (tgt := 84) rfl (fun hc => ?_) (fun hc => ?_)
                  · rw [if_pos hc] at hf
                    refine X.sub [0, 1, 4, 5, 6] rfl ?_
                    exact x_J_X10_feed_84 hf
                  · rw [if_neg hc] at hf
                    refine X.aload_n dX10_feed_79 rfl (j := 0) rfl ?_
                    refine X.iload_n dX10_feed_80 rfl (j := 3) rfl ?_
                    obtain ⟨q16, h15, hf⟩ := ob hf
                    refine Y.callV (av := [.int l3]) (ci := 10) dX10_feed_81 (c_X10_feedOne (l := l) (D := D) h15) cw_X10_118 (by decide) rfl mk_X10_feedOne (o_X10_feedOne (k := q16) h15) (e_R_ok (Nat.le_of_ble_eq_true rfl) (Nat.le_of_ble_eq_true rfl)) ⟨rfl, rfl⟩ (by simp [Value.category]) ?_
                    refine X.sub [0, 1, 4, 5, 6] rfl ?_
                    exact x_J_X10_feed_84 hf
                · rw [if_neg hc] at hf
                  refine X.bipush dX10_feed_66 kB_m4 ?_
                  obtain ⟨e1, e2⟩ := e_ret hf
                  subst e1
                  subst e2
                  exact X.iret dX10_feed_68 rfl rfl
              · rw [if_pos hc] at hf
                refine X.bipush dX10_feed_51 kB_m2 ?_
                obtain ⟨e1, e2⟩ := e_ret hf
                subst e1
                subst e2
                exact X.iret dX10_feed_53 rfl rfl
    · rw [if_neg hc] at hf
      refine X.bipush dX10_feed_10 kB_m2 ?_
      obtain ⟨e1, e2⟩ := e_ret hf
      subst e1
      subst e2
      exact X.iret dX10_feed_12 rfl rfl
/-! LeanedOut.text()I -/
abbrev M_X10_text : e_M := (yX10_text, cX10_text, 2, (some .int))
theorem mk_X10_text : e_Mok M_X10_text 0 := ⟨by decide +kernel, by decide +kernel, by decide +kernel⟩
theorem dX10_text_0 : decode cX10_text 0 = .ok (.aload_n 0, 1) := by decide +kernel
theorem dX10_text_1 : decode cX10_text 1 = .ok (.getfield 89, 3) := by decide +kernel
theorem dX10_text_4 : decode cX10_text 4 = .ok (.bipush 6, 2) := by decide +kernel
theorem dX10_text_6 : decode cX10_text 6 = .ok (.if_icmp .lt 6, 3) := by decide +kernel
theorem dX10_text_9 : decode cX10_text 9 = .ok (.bipush (-4), 2) := by decide +kernel
theorem dX10_text_11 : decode cX10_text 11 = .ok (.ireturn, 1) := by decide +kernel
theorem dX10_text_12 : decode cX10_text 12 = .ok (.aload_n 0, 1) := by decide +kernel
theorem dX10_text_13 : decode cX10_text 13 = .ok (.getfield 24, 3) := by decide +kernel
theorem dX10_text_16 : decode cX10_text 16 = .ok (.aload_n 0, 1) := by decide +kernel
theorem dX10_text_17 : decode cX10_text 17 = .ok (.getfield 28, 3) := by decide +kernel
theorem dX10_text_20 : decode cX10_text 20 = .ok (.aload_n 0, 1) := by decide +kernel
theorem dX10_text_21 : decode cX10_text 21 = .ok (.getfield 111, 3) := by decide +kernel
theorem dX10_text_24 : decode cX10_text 24 = .ok (.aload_n 0, 1) := by decide +kernel
theorem dX10_text_25 : decode cX10_text 25 = .ok (.getfield 11, 3) := by decide +kernel
theorem dX10_text_28 : decode cX10_text 28 = .ok (.aload_n 0, 1) := by decide +kernel
theorem dX10_text_29 : decode cX10_text 29 = .ok (.getfield 89, 3) := by decide +kernel
theorem dX10_text_32 : decode cX10_text 32 = .ok (.aaload, 1) := by decide +kernel
theorem dX10_text_33 : decode cX10_text 33 = .ok (.invokevirtual 85, 3) := by decide +kernel
theorem dX10_text_36 : decode cX10_text 36 = .ok (.istore_n 1, 1) := by decide +kernel
theorem dX10_text_37 : decode cX10_text 37 = .ok (.aload_n 0, 1) := by decide +kernel
theorem dX10_text_38 : decode cX10_text 38 = .ok (.iconst 0, 1) := by decide +kernel
theorem dX10_text_39 : decode cX10_text 39 = .ok (.putfield 111, 3) := by decide +kernel
theorem dX10_text_42 : decode cX10_text 42 = .ok (.iload_n 1, 1) := by decide +kernel
theorem dX10_text_43 : decode cX10_text 43 = .ok (.ifCond .lt 8, 3) := by decide +kernel
theorem dX10_text_46 : decode cX10_text 46 = .ok (.bipush (-100), 2) := by decide +kernel
theorem dX10_text_48 : decode cX10_text 48 = .ok (.iload_n 1, 1) := by decide +kernel
theorem dX10_text_49 : decode cX10_text 49 = .ok (.isub, 1) := by decide +kernel
theorem dX10_text_50 : decode cX10_text 50 = .ok (.ireturn, 1) := by decide +kernel
theorem dX10_text_51 : decode cX10_text 51 = .ok (.aload_n 0, 1) := by decide +kernel
theorem dX10_text_52 : decode cX10_text 52 = .ok (.dup, 1) := by decide +kernel
theorem dX10_text_53 : decode cX10_text 53 = .ok (.getfield 89, 3) := by decide +kernel
theorem dX10_text_56 : decode cX10_text 56 = .ok (.iconst 1, 1) := by decide +kernel
theorem dX10_text_57 : decode cX10_text 57 = .ok (.iadd, 1) := by decide +kernel
theorem dX10_text_58 : decode cX10_text 58 = .ok (.putfield 89, 3) := by decide +kernel
theorem dX10_text_61 : decode cX10_text 61 = .ok (.aload_n 0, 1) := by decide +kernel
theorem dX10_text_62 : decode cX10_text 62 = .ok (.getfield 89, 3) := by decide +kernel
theorem dX10_text_65 : decode cX10_text 65 = .ok (.iconst 1, 1) := by decide +kernel
theorem dX10_text_66 : decode cX10_text 66 = .ok (.isub, 1) := by decide +kernel
theorem dX10_text_67 : decode cX10_text 67 = .ok (.ireturn, 1) := by decide +kernel
def f_X10_text (S : e_S) (l0 : Nat) (g : e_G) : Option (Int32 × e_G) :=
  if e_ob S 10 l0 = true then
    (e_gI S g 10 l0 9).bind fun v1 =>
    if v1 < (6 : Int32) then
      (e_gR S g 10 l0 5).bind fun v3 =>
      (e_gR S g 10 l0 6).bind fun v5 =>
      (e_gI S g 10 l0 10).bind fun v7 =>
      (e_gR S g 10 l0 0).bind fun v9 =>
      (e_gI S g 10 l0 9).bind fun v11 =>
      (e_aR S g 2 v9 v11).bind fun v13 =>
      (f_X5_readAll S v3 v5 v7 v13 g).bind fun q16 =>
      (e_sI S q16.2 10 l0 10 (0 : Int32)).bind fun g17 =>
      if q16.1 < 0 then
        (e_gI S g17 10 l0 9).bind fun v19 =>
        (e_sI S g17 10 l0 9 (v19 + (1 : Int32))).bind fun g21 =>
        (e_gI S g21 10 l0 9).bind fun v23 =>
        some (v23 - (1 : Int32), g21)
      else
        some ((-100 : Int32) - q16.1, g17)
    else
      some ((-4 : Int32), g)
  else none
theorem o_X10_text  {S : e_S} {w : Int32} {k : e_G} {l0 : Nat} {g : e_G} (hf : f_X10_text S l0 g = some (w, k)) : e_ob S 10 l0 = true := by
  unfold f_X10_text at hf
  by_cases hc : e_ob S 10 l0 = true
  · exact hc
  · rw [if_neg hc] at hf
    cases hf
theorem c_X10_text {l : Launch} {D : va_G}  {S : e_S} {w : Int32} {k : e_G} {l0 : Nat} {g : e_G} (hf : f_X10_text S l0 g = some (w, k)) : CT l D (e_R 74) M_X10_text [.ref l0] (S, g) (some (.int w)) (S, k) := by
  refine CT.of (by decide +kernel) (Nat.le_of_ble_eq_true rfl) ?_
  have ho := o_X10_text hf
  unfold f_X10_text at hf
  rw [if_pos ho] at hf
  show X l D (e_R 74) M_X10_text 0 0 0 [(0, .ref l0)] [] (S, g) (some (.int w)) (S, k)
  refine X.aload_n dX10_text_0 rfl (j := 0) rfl ?_
  obtain ⟨v1, h2, hf⟩ := ob hf
  refine Y.getI dX10_text_1 fl_X10_89 rfl h2 ?_
  refine X.bipush dX10_text_4 kB_6 ?_
  refine X.icmp_lt dX10_text_6 (tgt := 12) rfl (fun hc => ?_) (fun hc => ?_)
  · rw [if_pos hc] at hf
    refine X.aload_n dX10_text_12 rfl (j := 0) rfl ?_
    obtain ⟨v3, h4, hf⟩ := ob hf
    refine Y.getR dX10_text_13 fl_X10_24 rfl h4 ?_
    refine X.aload_n dX10_text_16 rfl (j := 0) rfl ?_
    obtain ⟨v5, h6, hf⟩ := ob hf
    refine Y.getR dX10_text_17 fl_X10_28 rfl h6 ?_
    refine X.aload_n dX10_text_20 rfl (j := 0) rfl ?_
    obtain ⟨v7, h8, hf⟩ := ob hf
    refine Y.getI dX10_text_21 fl_X10_111 rfl h8 ?_
    refine X.aload_n dX10_text_24 rfl (j := 0) rfl ?_
    obtain ⟨v9, h10, hf⟩ := ob hf
    refine Y.getR dX10_text_25 fl_X10_11 rfl h10 ?_
    refine X.aload_n dX10_text_28 rfl (j := 0) rfl ?_
    obtain ⟨v11, h12, hf⟩ := ob hf
    refine Y.getI dX10_text_29 fl_X10_89 rfl h12 ?_
    obtain ⟨v13, h14, hf⟩ := ob hf
    refine Y.aald dX10_text_32 (kd := 2) (by decide) h14 ?_
    obtain ⟨q16, h15, hf⟩ := ob hf
    refine Y.callV (av := [.ref v5, .int v7, .ref v13]) (ci := 5) dX10_text_33 (c_X5_readAll (l := l) (D := D) (w := q16.1) (k := q16.2) h15) cw_X10_85 (by decide) rfl mk_X5_readAll (o_X5_readAll (w := q16.1) (k := q16.2) h15) (e_R_ok (Nat.le_of_ble_eq_true rfl) (Nat.le_of_ble_eq_true rfl)) ⟨rfl, rfl⟩ (by simp [Value.category]) ?_
    refine X.istore_n dX10_text_36 rfl (Nat.le_of_ble_eq_true rfl) (lc' := [(1, .int q16.1), (0, .ref l0)]) rfl ?_
    refine X.aload_n dX10_text_37 rfl (j := 1) rfl ?_
    refine X.iconst dX10_text_38 kI_0 ?_
    obtain ⟨g17, h18, hf⟩ := ob hf
    refine Y.putI dX10_text_39 fl_X10_111 rfl rfl rfl rfl h18 ?_
    refine X.iload_n dX10_text_42 rfl (j := 0) rfl ?_
    refine X.if_lt dX10_text_43 (tgt := 51) rfl (fun hc => ?_) (fun hc => ?_)
    · rw [if_pos hc] at hf
      refine X.aload_n dX10_text_51 rfl (j := 1) rfl ?_
      refine X.dup dX10_text_52 rfl ?_
      obtain ⟨v19, h20, hf⟩ := ob hf
      refine Y.getI dX10_text_53 fl_X10_89 rfl h20 ?_
      refine X.iconst dX10_text_56 kI_1 ?_
      refine X.iadd dX10_text_57 ?_
      obtain ⟨g21, h22, hf⟩ := ob hf
      refine Y.putI dX10_text_58 fl_X10_89 rfl rfl rfl rfl h22 ?_
      refine X.aload_n dX10_text_61 rfl (j := 1) rfl ?_
      obtain ⟨v23, h24, hf⟩ := ob hf
      refine Y.getI dX10_text_62 fl_X10_89 rfl h24 ?_
      refine X.iconst dX10_text_65 kI_1 ?_
      refine X.isub dX10_text_66 ?_
      obtain ⟨e1, e2⟩ := e_ret hf
      subst e1
      subst e2
      exact X.iret dX10_text_67 rfl rfl
    · rw [if_neg hc] at hf
      refine X.bipush dX10_text_46 kB_m100 ?_
      refine X.iload_n dX10_text_48 rfl (j := 0) rfl ?_
      refine X.isub dX10_text_49 ?_
      obtain ⟨e1, e2⟩ := e_ret hf
      subst e1
      subst e2
      exact X.iret dX10_text_50 rfl rfl
  · rw [if_neg hc] at hf
    refine X.bipush dX10_text_9 kB_m4 ?_
    obtain ⟨e1, e2⟩ := e_ret hf
    subst e1
    subst e2
    exact X.iret dX10_text_11 rfl rfl
/-! LeanedOut.force(I)I -/
abbrev M_X10_force : e_M := (yX10_force, cX10_force, 3, (some .int))
theorem mk_X10_force : e_Mok M_X10_force 1 := ⟨by decide +kernel, by decide +kernel, by decide +kernel⟩
theorem dX10_force_0 : decode cX10_force 0 = .ok (.iload_n 1, 1) := by decide +kernel
theorem dX10_force_1 : decode cX10_force 1 = .ok (.ifCond .lt 11, 3) := by decide +kernel
theorem dX10_force_4 : decode cX10_force 4 = .ok (.iload_n 1, 1) := by decide +kernel
theorem dX10_force_5 : decode cX10_force 5 = .ok (.aload_n 0, 1) := by decide +kernel
theorem dX10_force_6 : decode cX10_force 6 = .ok (.getfield 89, 3) := by decide +kernel
theorem dX10_force_9 : decode cX10_force 9 = .ok (.if_icmp .lt 6, 3) := by decide +kernel
theorem dX10_force_12 : decode cX10_force 12 = .ok (.bipush (-2), 2) := by decide +kernel
theorem dX10_force_14 : decode cX10_force 14 = .ok (.ireturn, 1) := by decide +kernel
theorem dX10_force_15 : decode cX10_force 15 = .ok (.aload_n 0, 1) := by decide +kernel
theorem dX10_force_16 : decode cX10_force 16 = .ok (.getfield 63, 3) := by decide +kernel
theorem dX10_force_19 : decode cX10_force 19 = .ok (.getfield 108, 3) := by decide +kernel
theorem dX10_force_22 : decode cX10_force 22 = .ok (.istore_n 2, 1) := by decide +kernel
theorem dX10_force_23 : decode cX10_force 23 = .ok (.aload_n 0, 1) := by decide +kernel
theorem dX10_force_24 : decode cX10_force 24 = .ok (.getfield 63, 3) := by decide +kernel
theorem dX10_force_27 : decode cX10_force 27 = .ok (.iload_n 1, 1) := by decide +kernel
theorem dX10_force_28 : decode cX10_force 28 = .ok (.putfield 108, 3) := by decide +kernel
theorem dX10_force_31 : decode cX10_force 31 = .ok (.iload_n 2, 1) := by decide +kernel
theorem dX10_force_32 : decode cX10_force 32 = .ok (.ireturn, 1) := by decide +kernel
def f_X10_force (S : e_S) (l0 : Nat) (l1 : Int32) (g : e_G) : Option (Int32 × e_G) :=
  if e_ob S 10 l0 = true then
    if l1 < 0 then
      some ((-2 : Int32), g)
    else
      (e_gI S g 10 l0 9).bind fun v1 =>
      if l1 < v1 then
        (e_gR S g 10 l0 2).bind fun v3 =>
        (e_gI S g 7 v3 8).bind fun v5 =>
        (e_gR S g 10 l0 2).bind fun v7 =>
        (e_sI S g 7 v7 8 l1).bind fun g9 =>
        some (v5, g9)
      else
        some ((-2 : Int32), g)
  else none
theorem o_X10_force  {S : e_S} {w : Int32} {k : e_G} {l0 : Nat} {l1 : Int32} {g : e_G} (hf : f_X10_force S l0 l1 g = some (w, k)) : e_ob S 10 l0 = true := by
  unfold f_X10_force at hf
  by_cases hc : e_ob S 10 l0 = true
  · exact hc
  · rw [if_neg hc] at hf
    cases hf
theorem c_X10_force {l : Launch} {D : va_G}  {S : e_S} {w : Int32} {k : e_G} {l0 : Nat} {l1 : Int32} {g : e_G} (hf : f_X10_force S l0 l1 g = some (w, k)) : CT l D (e_R 1) M_X10_force [.ref l0, .int l1] (S, g) (some (.int w)) (S, k) := by
  refine CT.of (by decide +kernel) (Nat.le_of_ble_eq_true rfl) ?_
  have ho := o_X10_force hf
  unfold f_X10_force at hf
  rw [if_pos ho] at hf
  show X l D (e_R 1) M_X10_force 0 0 0 [(0, .ref l0), (1, .int l1)] [] (S, g) (some (.int w)) (S, k)
  refine X.iload_n dX10_force_0 rfl (j := 1) rfl ?_
  refine X.if_lt dX10_force_1 (tgt := 12) rfl (fun hc => ?_) (fun hc => ?_)
  · rw [if_pos hc] at hf
    refine X.bipush dX10_force_12 kB_m2 ?_
    obtain ⟨e1, e2⟩ := e_ret hf
    subst e1
    subst e2
    exact X.iret dX10_force_14 rfl rfl
  · rw [if_neg hc] at hf
    refine X.iload_n dX10_force_4 rfl (j := 1) rfl ?_
    refine X.aload_n dX10_force_5 rfl (j := 0) rfl ?_
    obtain ⟨v1, h2, hf⟩ := ob hf
    refine Y.getI dX10_force_6 fl_X10_89 rfl h2 ?_
    refine X.icmp_lt dX10_force_9 (tgt := 15) rfl (fun hc => ?_) (fun hc => ?_)
    · rw [if_pos hc] at hf
      refine X.aload_n dX10_force_15 rfl (j := 0) rfl ?_
      obtain ⟨v3, h4, hf⟩ := ob hf
      refine Y.getR dX10_force_16 fl_X10_63 rfl h4 ?_
      obtain ⟨v5, h6, hf⟩ := ob hf
      refine Y.getI dX10_force_19 fl_X10_108 rfl h6 ?_
      refine X.istore_n dX10_force_22 rfl (Nat.le_of_ble_eq_true rfl) (lc' := [(2, .int v5), (0, .ref l0), (1, .int l1)]) rfl ?_
      refine X.aload_n dX10_force_23 rfl (j := 1) rfl ?_
      obtain ⟨v7, h8, hf⟩ := ob hf
      refine Y.getR dX10_force_24 fl_X10_63 rfl h8 ?_
      refine X.iload_n dX10_force_27 rfl (j := 2) rfl ?_
      obtain ⟨g9, h10, hf⟩ := ob hf
      refine Y.putI dX10_force_28 fl_X10_108 rfl rfl rfl rfl h10 ?_
      refine X.iload_n dX10_force_31 rfl (j := 0) rfl ?_
      obtain ⟨e1, e2⟩ := e_ret hf
      subst e1
      subst e2
      exact X.iret dX10_force_32 rfl rfl
    · rw [if_neg hc] at hf
      refine X.bipush dX10_force_12 kB_m2 ?_
      obtain ⟨e1, e2⟩ := e_ret hf
      subst e1
      subst e2
      exact X.iret dX10_force_14 rfl rfl
/-! LeanedOut.asks(II)I -/
abbrev M_X10_asks : e_M := (yX10_asks, cX10_asks, 3, (some .int))
theorem mk_X10_asks : e_Mok M_X10_asks 2 := ⟨by decide +kernel, by decide +kernel, by decide +kernel⟩
theorem dX10_asks_0 : decode cX10_asks 0 = .ok (.iload_n 1, 1) := by decide +kernel
theorem dX10_asks_1 : decode cX10_asks 1 = .ok (.ifCond .lt 19, 3) := by decide +kernel
theorem dX10_asks_4 : decode cX10_asks 4 = .ok (.iload_n 1, 1) := by decide +kernel
theorem dX10_asks_5 : decode cX10_asks 5 = .ok (.iconst 3, 1) := by decide +kernel
theorem dX10_asks_6 : decode cX10_asks 6 = .ok (.if_icmp .ge 14, 3) := by decide +kernel
theorem dX10_asks_9 : decode cX10_asks 9 = .ok (.aload_n 0, 1) := by decide +kernel
theorem dX10_asks_10 : decode cX10_asks 10 = .ok (.getfield 63, 3) := by decide +kernel
theorem dX10_asks_13 : decode cX10_asks 13 = .ok (.iload_n 2, 1) := by decide +kernel
theorem dX10_asks_14 : decode cX10_asks 14 = .ok (.invokevirtual 122, 3) := by decide +kernel
theorem dX10_asks_17 : decode cX10_asks 17 = .ok (.ifCond .ne 7, 3) := by decide +kernel
theorem dX10_asks_20 : decode cX10_asks 20 = .ok (.sipush (-1000), 3) := by decide +kernel
theorem dX10_asks_23 : decode cX10_asks 23 = .ok (.ireturn, 1) := by decide +kernel
theorem dX10_asks_24 : decode cX10_asks 24 = .ok (.aload_n 0, 1) := by decide +kernel
theorem dX10_asks_25 : decode cX10_asks 25 = .ok (.getfield 63, 3) := by decide +kernel
theorem dX10_asks_28 : decode cX10_asks 28 = .ok (.iload_n 1, 1) := by decide +kernel
theorem dX10_asks_29 : decode cX10_asks 29 = .ok (.iload_n 2, 1) := by decide +kernel
theorem dX10_asks_30 : decode cX10_asks 30 = .ok (.invokevirtual 125, 3) := by decide +kernel
theorem dX10_asks_33 : decode cX10_asks 33 = .ok (.ireturn, 1) := by decide +kernel
def f_X10_asks (S : e_S) (l0 : Nat) (l1 : Int32) (l2 : Int32) (g : e_G) : Option (Int32 × e_G) :=
  if e_ob S 10 l0 = true then
    if l1 < 0 then
      some ((-1000 : Int32), g)
    else
      if (3 : Int32) ≤ l1 then
        some ((-1000 : Int32), g)
      else
        (e_gR S g 10 l0 2).bind fun v1 =>
        (f_X7_has S v1 l2 g).bind fun q4 =>
        if q4.1 = 0 then
          some ((-1000 : Int32), q4.2)
        else
          (e_gR S q4.2 10 l0 2).bind fun v5 =>
          (f_X7_says S v5 l1 l2 q4.2).bind fun q8 =>
          some (q8.1, q8.2)
  else none
theorem o_X10_asks  {S : e_S} {w : Int32} {k : e_G} {l0 : Nat} {l1 : Int32} {l2 : Int32} {g : e_G} (hf : f_X10_asks S l0 l1 l2 g = some (w, k)) : e_ob S 10 l0 = true := by
  unfold f_X10_asks at hf
  by_cases hc : e_ob S 10 l0 = true
  · exact hc
  · rw [if_neg hc] at hf
    cases hf
theorem c_X10_asks {l : Launch} {D : va_G}  {S : e_S} {w : Int32} {k : e_G} {l0 : Nat} {l1 : Int32} {l2 : Int32} {g : e_G} (hf : f_X10_asks S l0 l1 l2 g = some (w, k)) : CT l D (e_R 4) M_X10_asks [.ref l0, .int l1, .int l2] (S, g) (some (.int w)) (S, k) := by
  refine CT.of (by decide +kernel) (Nat.le_of_ble_eq_true rfl) ?_
  have ho := o_X10_asks hf
  unfold f_X10_asks at hf
  rw [if_pos ho] at hf
  show X l D (e_R 4) M_X10_asks 0 0 0 [(0, .ref l0), (1, .int l1), (2, .int l2)] [] (S, g) (some (.int w)) (S, k)
  refine X.iload_n dX10_asks_0 rfl (j := 1) rfl ?_
  refine X.if_lt dX10_asks_1 (tgt := 20) rfl (fun hc => ?_) (fun hc => ?_)
  · rw [if_pos hc] at hf
    refine X.sipush dX10_asks_20 kS_m1000 ?_
    obtain ⟨e1, e2⟩ := e_ret hf
    subst e1
    subst e2
    exact X.iret dX10_asks_23 rfl rfl
  · rw [if_neg hc] at hf
    refine X.iload_n dX10_asks_4 rfl (j := 1) rfl ?_
    refine X.iconst dX10_asks_5 kI_3 ?_
    refine X.icmp_ge dX10_asks_6 (tgt := 20) rfl (fun hc => ?_) (fun hc => ?_)
    · rw [if_pos hc] at hf
      refine X.sipush dX10_asks_20 kS_m1000 ?_
      obtain ⟨e1, e2⟩ := e_ret hf
      subst e1
      subst e2
      exact X.iret dX10_asks_23 rfl rfl
    · rw [if_neg hc] at hf
      refine X.aload_n dX10_asks_9 rfl (j := 0) rfl ?_
      obtain ⟨v1, h2, hf⟩ := ob hf
      refine Y.getR dX10_asks_10 fl_X10_63 rfl h2 ?_
      refine X.iload_n dX10_asks_13 rfl (j := 2) rfl ?_
      obtain ⟨q4, h3, hf⟩ := ob hf
      refine Y.callV (av := [.int l2]) (ci := 7) dX10_asks_14 (c_X7_has (l := l) (D := D) (w := q4.1) (k := q4.2) h3) cw_X10_122 (by decide) rfl mk_X7_has (o_X7_has (w := q4.1) (k := q4.2) h3) (e_R_ok (Nat.le_of_ble_eq_true rfl) (Nat.le_of_ble_eq_true rfl)) ⟨rfl, rfl⟩ (by simp [Value.category]) ?_
      refine X.if_ne dX10_asks_17 (tgt := 24) rfl (fun hc => ?_) (fun hc => ?_)
      · rw [if_neg hc] at hf
        refine X.aload_n dX10_asks_24 rfl (j := 0) rfl ?_
        obtain ⟨v5, h6, hf⟩ := ob hf
        refine Y.getR dX10_asks_25 fl_X10_63 rfl h6 ?_
        refine X.iload_n dX10_asks_28 rfl (j := 1) rfl ?_
        refine X.iload_n dX10_asks_29 rfl (j := 2) rfl ?_
        obtain ⟨q8, h7, hf⟩ := ob hf
        refine Y.callV (av := [.int l1, .int l2]) (ci := 7) dX10_asks_30 (c_X7_says (l := l) (D := D) (w := q8.1) (k := q8.2) h7) cw_X10_125 (by decide) rfl mk_X7_says (o_X7_says (w := q8.1) (k := q8.2) h7) (e_R_ok (Nat.le_of_ble_eq_true rfl) (Nat.le_of_ble_eq_true rfl)) ⟨rfl, rfl⟩ (by simp [Value.category]) ?_
        obtain ⟨e1, e2⟩ := e_ret hf
        subst e1
        subst e2
        exact X.iret dX10_asks_33 rfl rfl
      · rw [if_pos hc] at hf
        refine X.sipush dX10_asks_20 kS_m1000 ?_
        obtain ⟨e1, e2⟩ := e_ret hf
        subst e1
        subst e2
        exact X.iret dX10_asks_23 rfl rfl
/-! LeanedOut.comes(II)I -/
abbrev M_X10_comes : e_M := (yX10_comes, cX10_comes, 6, (some .int))
theorem mk_X10_comes : e_Mok M_X10_comes 2 := ⟨by decide +kernel, by decide +kernel, by decide +kernel⟩
theorem dX10_comes_0 : decode cX10_comes 0 = .ok (.iload_n 1, 1) := by decide +kernel
theorem dX10_comes_1 : decode cX10_comes 1 = .ok (.ifCond .lt 20, 3) := by decide +kernel
theorem dX10_comes_4 : decode cX10_comes 4 = .ok (.iload_n 1, 1) := by decide +kernel
theorem dX10_comes_5 : decode cX10_comes 5 = .ok (.bipush 60, 2) := by decide +kernel
theorem dX10_comes_7 : decode cX10_comes 7 = .ok (.if_icmp .ge 14, 3) := by decide +kernel
theorem dX10_comes_10 : decode cX10_comes 10 = .ok (.iload_n 2, 1) := by decide +kernel
theorem dX10_comes_11 : decode cX10_comes 11 = .ok (.ifCond .lt 10, 3) := by decide +kernel
theorem dX10_comes_14 : decode cX10_comes 14 = .ok (.iload_n 2, 1) := by decide +kernel
theorem dX10_comes_15 : decode cX10_comes 15 = .ok (.sipush 2000, 3) := by decide +kernel
theorem dX10_comes_18 : decode cX10_comes 18 = .ok (.if_icmp .lt 6, 3) := by decide +kernel
theorem dX10_comes_21 : decode cX10_comes 21 = .ok (.bipush (-2), 2) := by decide +kernel
theorem dX10_comes_23 : decode cX10_comes 23 = .ok (.ireturn, 1) := by decide +kernel
theorem dX10_comes_24 : decode cX10_comes 24 = .ok (.iload_n 2, 1) := by decide +kernel
theorem dX10_comes_25 : decode cX10_comes 25 = .ok (.bipush 100, 2) := by decide +kernel
theorem dX10_comes_27 : decode cX10_comes 27 = .ok (.idiv, 1) := by decide +kernel
theorem dX10_comes_28 : decode cX10_comes 28 = .ok (.istore_n 3, 1) := by decide +kernel
theorem dX10_comes_29 : decode cX10_comes 29 = .ok (.iload_n 2, 1) := by decide +kernel
theorem dX10_comes_30 : decode cX10_comes 30 = .ok (.bipush 100, 2) := by decide +kernel
theorem dX10_comes_32 : decode cX10_comes 32 = .ok (.irem, 1) := by decide +kernel
theorem dX10_comes_33 : decode cX10_comes 33 = .ok (.istore 4, 2) := by decide +kernel
theorem dX10_comes_35 : decode cX10_comes 35 = .ok (.iload_n 3, 1) := by decide +kernel
theorem dX10_comes_36 : decode cX10_comes 36 = .ok (.iload 4, 2) := by decide +kernel
theorem dX10_comes_38 : decode cX10_comes 38 = .ok (.invokestatic 284, 3) := by decide +kernel
theorem dX10_comes_41 : decode cX10_comes 41 = .ok (.ifCond .eq 15, 3) := by decide +kernel
theorem dX10_comes_44 : decode cX10_comes 44 = .ok (.aload_n 0, 1) := by decide +kernel
theorem dX10_comes_45 : decode cX10_comes 45 = .ok (.getfield 63, 3) := by decide +kernel
theorem dX10_comes_48 : decode cX10_comes 48 = .ok (.iload_n 3, 1) := by decide +kernel
theorem dX10_comes_49 : decode cX10_comes 49 = .ok (.invokevirtual 158, 3) := by decide +kernel
theorem dX10_comes_52 : decode cX10_comes 52 = .ok (.iconst (-1), 1) := by decide +kernel
theorem dX10_comes_53 : decode cX10_comes 53 = .ok (.if_icmp .eq 6, 3) := by decide +kernel
theorem dX10_comes_56 : decode cX10_comes 56 = .ok (.bipush (-2), 2) := by decide +kernel
theorem dX10_comes_58 : decode cX10_comes 58 = .ok (.ireturn, 1) := by decide +kernel
theorem dX10_comes_59 : decode cX10_comes 59 = .ok (.aload_n 0, 1) := by decide +kernel
theorem dX10_comes_60 : decode cX10_comes 60 = .ok (.getfield 63, 3) := by decide +kernel
theorem dX10_comes_63 : decode cX10_comes 63 = .ok (.getfield 93, 3) := by decide +kernel
theorem dX10_comes_66 : decode cX10_comes 66 = .ok (.bipush 6, 2) := by decide +kernel
theorem dX10_comes_68 : decode cX10_comes 68 = .ok (.if_icmp .lt 6, 3) := by decide +kernel
theorem dX10_comes_71 : decode cX10_comes 71 = .ok (.bipush (-4), 2) := by decide +kernel
theorem dX10_comes_73 : decode cX10_comes 73 = .ok (.ireturn, 1) := by decide +kernel
theorem dX10_comes_74 : decode cX10_comes 74 = .ok (.aload_n 0, 1) := by decide +kernel
theorem dX10_comes_75 : decode cX10_comes 75 = .ok (.getfield 63, 3) := by decide +kernel
theorem dX10_comes_78 : decode cX10_comes 78 = .ok (.getfield 93, 3) := by decide +kernel
theorem dX10_comes_81 : decode cX10_comes 81 = .ok (.istore 5, 2) := by decide +kernel
theorem dX10_comes_83 : decode cX10_comes 83 = .ok (.aload_n 0, 1) := by decide +kernel
theorem dX10_comes_84 : decode cX10_comes 84 = .ok (.getfield 63, 3) := by decide +kernel
theorem dX10_comes_87 : decode cX10_comes 87 = .ok (.getfield 136, 3) := by decide +kernel
theorem dX10_comes_90 : decode cX10_comes 90 = .ok (.iload 5, 2) := by decide +kernel
theorem dX10_comes_92 : decode cX10_comes 92 = .ok (.iload_n 3, 1) := by decide +kernel
theorem dX10_comes_93 : decode cX10_comes 93 = .ok (.iastore, 1) := by decide +kernel
theorem dX10_comes_94 : decode cX10_comes 94 = .ok (.aload_n 0, 1) := by decide +kernel
theorem dX10_comes_95 : decode cX10_comes 95 = .ok (.getfield 63, 3) := by decide +kernel
theorem dX10_comes_98 : decode cX10_comes 98 = .ok (.getfield 145, 3) := by decide +kernel
theorem dX10_comes_101 : decode cX10_comes 101 = .ok (.iload 5, 2) := by decide +kernel
theorem dX10_comes_103 : decode cX10_comes 103 = .ok (.iload 4, 2) := by decide +kernel
theorem dX10_comes_105 : decode cX10_comes 105 = .ok (.iastore, 1) := by decide +kernel
theorem dX10_comes_106 : decode cX10_comes 106 = .ok (.aload_n 0, 1) := by decide +kernel
theorem dX10_comes_107 : decode cX10_comes 107 = .ok (.getfield 63, 3) := by decide +kernel
theorem dX10_comes_110 : decode cX10_comes 110 = .ok (.getfield 142, 3) := by decide +kernel
theorem dX10_comes_113 : decode cX10_comes 113 = .ok (.iload 5, 2) := by decide +kernel
theorem dX10_comes_115 : decode cX10_comes 115 = .ok (.iconst 0, 1) := by decide +kernel
theorem dX10_comes_116 : decode cX10_comes 116 = .ok (.iastore, 1) := by decide +kernel
theorem dX10_comes_117 : decode cX10_comes 117 = .ok (.aload_n 0, 1) := by decide +kernel
theorem dX10_comes_118 : decode cX10_comes 118 = .ok (.getfield 63, 3) := by decide +kernel
theorem dX10_comes_121 : decode cX10_comes 121 = .ok (.getfield 154, 3) := by decide +kernel
theorem dX10_comes_124 : decode cX10_comes 124 = .ok (.iload 5, 2) := by decide +kernel
theorem dX10_comes_126 : decode cX10_comes 126 = .ok (.iconst 0, 1) := by decide +kernel
theorem dX10_comes_127 : decode cX10_comes 127 = .ok (.bastore, 1) := by decide +kernel
theorem dX10_comes_128 : decode cX10_comes 128 = .ok (.aload_n 0, 1) := by decide +kernel
theorem dX10_comes_129 : decode cX10_comes 129 = .ok (.getfield 63, 3) := by decide +kernel
theorem dX10_comes_132 : decode cX10_comes 132 = .ok (.getfield 148, 3) := by decide +kernel
theorem dX10_comes_135 : decode cX10_comes 135 = .ok (.iload 5, 2) := by decide +kernel
theorem dX10_comes_137 : decode cX10_comes 137 = .ok (.iload_n 1, 1) := by decide +kernel
theorem dX10_comes_138 : decode cX10_comes 138 = .ok (.bipush 10, 2) := by decide +kernel
theorem dX10_comes_140 : decode cX10_comes 140 = .ok (.idiv, 1) := by decide +kernel
theorem dX10_comes_141 : decode cX10_comes 141 = .ok (.iastore, 1) := by decide +kernel
theorem dX10_comes_142 : decode cX10_comes 142 = .ok (.aload_n 0, 1) := by decide +kernel
theorem dX10_comes_143 : decode cX10_comes 143 = .ok (.getfield 63, 3) := by decide +kernel
theorem dX10_comes_146 : decode cX10_comes 146 = .ok (.getfield 151, 3) := by decide +kernel
theorem dX10_comes_149 : decode cX10_comes 149 = .ok (.iload 5, 2) := by decide +kernel
theorem dX10_comes_151 : decode cX10_comes 151 = .ok (.iload_n 1, 1) := by decide +kernel
theorem dX10_comes_152 : decode cX10_comes 152 = .ok (.bipush 10, 2) := by decide +kernel
theorem dX10_comes_154 : decode cX10_comes 154 = .ok (.irem, 1) := by decide +kernel
theorem dX10_comes_155 : decode cX10_comes 155 = .ok (.iastore, 1) := by decide +kernel
theorem dX10_comes_156 : decode cX10_comes 156 = .ok (.aload_n 0, 1) := by decide +kernel
theorem dX10_comes_157 : decode cX10_comes 157 = .ok (.getfield 63, 3) := by decide +kernel
theorem dX10_comes_160 : decode cX10_comes 160 = .ok (.iload 5, 2) := by decide +kernel
theorem dX10_comes_162 : decode cX10_comes 162 = .ok (.iconst 1, 1) := by decide +kernel
theorem dX10_comes_163 : decode cX10_comes 163 = .ok (.iadd, 1) := by decide +kernel
theorem dX10_comes_164 : decode cX10_comes 164 = .ok (.putfield 93, 3) := by decide +kernel
theorem dX10_comes_167 : decode cX10_comes 167 = .ok (.iload 5, 2) := by decide +kernel
theorem dX10_comes_169 : decode cX10_comes 169 = .ok (.ireturn, 1) := by decide +kernel
def f_X10_comes (S : e_S) (l0 : Nat) (l1 : Int32) (l2 : Int32) (g : e_G) : Option (Int32 × e_G) :=
  if e_ob S 10 l0 = true then
    if l1 < 0 then
      some ((-2 : Int32), g)
    else
      if (60 : Int32) ≤ l1 then
        some ((-2 : Int32), g)
      else
        if l2 < 0 then
          some ((-2 : Int32), g)
        else
          if l2 < (2000 : Int32) then
            (f_X7_areOpposite S (l2 / (100 : Int32)) (i_rem l2 (100 : Int32)) g).bind fun q2 =>
            if q2.1 = 0 then
              some ((-2 : Int32), q2.2)
            else
              (e_gR S q2.2 10 l0 2).bind fun v3 =>
              (f_X7_whoIsAt S v3 (l2 / (100 : Int32)) q2.2).bind fun q6 =>
              if q6.1 = (-1 : Int32) then
                (e_gR S q6.2 10 l0 2).bind fun v7 =>
                (e_gI S q6.2 7 v7 6).bind fun v9 =>
                if v9 < (6 : Int32) then
                  (e_gR S q6.2 10 l0 2).bind fun v11 =>
                  (e_gI S q6.2 7 v11 6).bind fun v13 =>
                  (e_gR S q6.2 10 l0 2).bind fun v15 =>
                  (e_gR S q6.2 7 v15 0).bind fun v17 =>
                  (e_aS S q6.2 0 v17 v13 (l2 / (100 : Int32))).bind fun g19 =>
                  (e_gR S g19 10 l0 2).bind fun v21 =>
                  (e_gR S g19 7 v21 1).bind fun v23 =>
                  (e_aS S g19 0 v23 v13 (i_rem l2 (100 : Int32))).bind fun g25 =>
                  (e_gR S g25 10 l0 2).bind fun v27 =>
                  (e_gR S g25 7 v27 2).bind fun v29 =>
                  (e_aS S g25 0 v29 v13 (0 : Int32)).bind fun g31 =>
                  (e_gR S g31 10 l0 2).bind fun v33 =>
                  (e_gR S g31 7 v33 5).bind fun v35 =>
                  (e_aS S g31 1 v35 v13 (0 : Int32)).bind fun g37 =>
                  (e_gR S g37 10 l0 2).bind fun v39 =>
                  (e_gR S g37 7 v39 3).bind fun v41 =>
                  (e_aS S g37 0 v41 v13 (l1 / (10 : Int32))).bind fun g43 =>
                  (e_gR S g43 10 l0 2).bind fun v45 =>
                  (e_gR S g43 7 v45 4).bind fun v47 =>
                  (e_aS S g43 0 v47 v13 (i_rem l1 (10 : Int32))).bind fun g49 =>
                  (e_gR S g49 10 l0 2).bind fun v51 =>
                  (e_sI S g49 7 v51 6 (v13 + (1 : Int32))).bind fun g53 =>
                  some (v13, g53)
                else
                  some ((-4 : Int32), q6.2)
              else
                some ((-2 : Int32), q6.2)
          else
            some ((-2 : Int32), g)
  else none
theorem o_X10_comes  {S : e_S} {w : Int32} {k : e_G} {l0 : Nat} {l1 : Int32} {l2 : Int32} {g : e_G} (hf : f_X10_comes S l0 l1 l2 g = some (w, k)) : e_ob S 10 l0 = true := by
  unfold f_X10_comes at hf
  by_cases hc : e_ob S 10 l0 = true
  · exact hc
  · rw [if_neg hc] at hf
    cases hf
theorem c_X10_comes {l : Launch} {D : va_G}  {S : e_S} {w : Int32} {k : e_G} {l0 : Nat} {l1 : Int32} {l2 : Int32} {g : e_G} (hf : f_X10_comes S l0 l1 l2 g = some (w, k)) : CT l D (e_R 3) M_X10_comes [.ref l0, .int l1, .int l2] (S, g) (some (.int w)) (S, k) := by
  refine CT.of (by decide +kernel) (Nat.le_of_ble_eq_true rfl) ?_
  have ho := o_X10_comes hf
  unfold f_X10_comes at hf
  rw [if_pos ho] at hf
  show X l D (e_R 3) M_X10_comes 0 0 0 [(0, .ref l0), (1, .int l1), (2, .int l2)] [] (S, g) (some (.int w)) (S, k)
  refine X.iload_n dX10_comes_0 rfl (j := 1) rfl ?_
  refine X.if_lt dX10_comes_1 (tgt := 21) rfl (fun hc => ?_) (fun hc => ?_)
  · rw [if_pos hc] at hf
    refine X.bipush dX10_comes_21 kB_m2 ?_
    obtain ⟨e1, e2⟩ := e_ret hf
    subst e1
    subst e2
    exact X.iret dX10_comes_23 rfl rfl
  · rw [if_neg hc] at hf
    refine X.iload_n dX10_comes_4 rfl (j := 1) rfl ?_
    refine X.bipush dX10_comes_5 kB_60 ?_
    refine X.icmp_ge dX10_comes_7 (tgt := 21) rfl (fun hc => ?_) (fun hc => ?_)
    · rw [if_pos hc] at hf
      refine X.bipush dX10_comes_21 kB_m2 ?_
      obtain ⟨e1, e2⟩ := e_ret hf
      subst e1
      subst e2
      exact X.iret dX10_comes_23 rfl rfl
    · rw [if_neg hc] at hf
      refine X.iload_n dX10_comes_10 rfl (j := 2) rfl ?_
      refine X.if_lt dX10_comes_11 (tgt := 21) rfl (fun hc => ?_) (fun hc => ?_)
      · rw [if_pos hc] at hf
        refine X.bipush dX10_comes_21 kB_m2 ?_
        obtain ⟨e1, e2⟩ := e_ret hf
        subst e1
        subst e2
        exact X.iret dX10_comes_23 rfl rfl
      · rw [if_neg hc] at hf
        refine X.iload_n dX10_comes_14 rfl (j := 2) rfl ?_
        refine X.sipush dX10_comes_15 kS_2000 ?_
        refine X.icmp_lt dX10_comes_18 (tgt := 24) rfl (fun hc => ?_) (fun hc => ?_)
        · rw [if_pos hc] at hf
          refine X.iload_n dX10_comes_24 rfl (j := 2) rfl ?_
          refine X.bipush dX10_comes_25 kB_100 ?_
          refine X.idiv dX10_comes_27 (by decide) ?_
          refine X.istore_n dX10_comes_28 rfl (Nat.le_of_ble_eq_true rfl) (lc' := [(3, .int (l2 / (100 : Int32))), (0, .ref l0), (1, .int l1), (2, .int l2)]) rfl ?_
          refine X.iload_n dX10_comes_29 rfl (j := 3) rfl ?_
          refine X.bipush dX10_comes_30 kB_100 ?_
          refine Y.irem dX10_comes_32 (by decide) ?_
          refine X.istore dX10_comes_33 (Nat.le_of_ble_eq_true rfl) (lc' := [(4, .int (i_rem l2 (100 : Int32))), (3, .int (l2 / (100 : Int32))), (0, .ref l0), (1, .int l1), (2, .int l2)]) rfl ?_
          refine X.iload_n dX10_comes_35 rfl (j := 1) rfl ?_
          refine X.iload dX10_comes_36 (j := 0) rfl ?_
          obtain ⟨q2, h1, hf⟩ := ob hf
          refine Y.callS (av := [.int (l2 / (100 : Int32)), .int (i_rem l2 (100 : Int32))]) dX10_comes_38 (c_X7_areOpposite (l := l) (D := D) (w := q2.1) (k := q2.2) h1) cw_X10_284 mk_X7_areOpposite (e_R_ok (Nat.le_of_ble_eq_true rfl) (Nat.le_of_ble_eq_true rfl)) ⟨rfl, rfl⟩ (by simp [Value.category]) ?_
          refine X.if_eq dX10_comes_41 (tgt := 56) rfl (fun hc => ?_) (fun hc => ?_)
          · rw [if_pos hc] at hf
            refine X.bipush dX10_comes_56 kB_m2 ?_
            obtain ⟨e1, e2⟩ := e_ret hf
            subst e1
            subst e2
            exact X.iret dX10_comes_58 rfl rfl
          · rw [if_neg hc] at hf
            refine X.aload_n dX10_comes_44 rfl (j := 2) rfl ?_
            obtain ⟨v3, h4, hf⟩ := ob hf
            refine Y.getR dX10_comes_45 fl_X10_63 rfl h4 ?_
            refine X.iload_n dX10_comes_48 rfl (j := 1) rfl ?_
            obtain ⟨q6, h5, hf⟩ := ob hf
            refine Y.callV (av := [.int (l2 / (100 : Int32))]) (ci := 7) dX10_comes_49 (c_X7_whoIsAt (l := l) (D := D) (w := q6.1) (k := q6.2) h5) cw_X10_158 (by decide) rfl mk_X7_whoIsAt (o_X7_whoIsAt (w := q6.1) (k := q6.2) h5) (e_R_ok (Nat.le_of_ble_eq_true rfl) (Nat.le_of_ble_eq_true rfl)) ⟨rfl, rfl⟩ (by simp [Value.category]) ?_
            refine X.iconst dX10_comes_52 kI_m1 ?_
            refine X.icmp_eq dX10_comes_53 (tgt := 59) rfl (fun hc => ?_) (fun hc => ?_)
            · rw [if_pos hc] at hf
              refine X.aload_n dX10_comes_59 rfl (j := 2) rfl ?_
              obtain ⟨v7, h8, hf⟩ := ob hf
              refine Y.getR dX10_comes_60 fl_X10_63 rfl h8 ?_
              obtain ⟨v9, h10, hf⟩ := ob hf
              refine Y.getI dX10_comes_63 fl_X10_93 rfl h10 ?_
              refine X.bipush dX10_comes_66 kB_6 ?_
              refine X.icmp_lt dX10_comes_68 (tgt := 74) rfl (fun hc => ?_) (fun hc => ?_)
              · rw [if_pos hc] at hf
                refine X.aload_n dX10_comes_74 rfl (j := 2) rfl ?_
                obtain ⟨v11, h12, hf⟩ := ob hf
                refine Y.getR dX10_comes_75 fl_X10_63 rfl h12 ?_
                obtain ⟨v13, h14, hf⟩ := ob hf
                refine Y.getI dX10_comes_78 fl_X10_93 rfl h14 ?_
                refine X.istore dX10_comes_81 (Nat.le_of_ble_eq_true rfl) (lc' := [(5, .int v13), (4, .int (i_rem l2 (100 : Int32))), (3, .int (l2 / (100 : Int32))), (0, .ref l0), (1, .int l1), (2, .int l2)]) rfl ?_
                refine X.aload_n dX10_comes_83 rfl (j := 3) rfl ?_
                obtain ⟨v15, h16, hf⟩ := ob hf
                refine Y.getR dX10_comes_84 fl_X10_63 rfl h16 ?_
                obtain ⟨v17, h18, hf⟩ := ob hf
                refine Y.getR dX10_comes_87 fl_X10_136 rfl h18 ?_
                refine X.iload dX10_comes_90 (j := 0) rfl ?_
                refine X.iload_n dX10_comes_92 rfl (j := 2) rfl ?_
                obtain ⟨g19, h20, hf⟩ := ob hf
                refine Y.iast dX10_comes_93 h20 ?_
                refine X.aload_n dX10_comes_94 rfl (j := 3) rfl ?_
                obtain ⟨v21, h22, hf⟩ := ob hf
                refine Y.getR dX10_comes_95 fl_X10_63 rfl h22 ?_
                obtain ⟨v23, h24, hf⟩ := ob hf
                refine Y.getR dX10_comes_98 fl_X10_145 rfl h24 ?_
                refine X.iload dX10_comes_101 (j := 0) rfl ?_
                refine X.iload dX10_comes_103 (j := 1) rfl ?_
                obtain ⟨g25, h26, hf⟩ := ob hf
                refine Y.iast dX10_comes_105 h26 ?_
                refine X.aload_n dX10_comes_106 rfl (j := 3) rfl ?_
                obtain ⟨v27, h28, hf⟩ := ob hf
                refine Y.getR dX10_comes_107 fl_X10_63 rfl h28 ?_
                obtain ⟨v29, h30, hf⟩ := ob hf
                refine Y.getR dX10_comes_110 fl_X10_142 rfl h30 ?_
                refine X.iload dX10_comes_113 (j := 0) rfl ?_
                refine X.iconst dX10_comes_115 kI_0 ?_
                obtain ⟨g31, h32, hf⟩ := ob hf
                refine Y.iast dX10_comes_116 h32 ?_
                refine X.aload_n dX10_comes_117 rfl (j := 3) rfl ?_
                obtain ⟨v33, h34, hf⟩ := ob hf
                refine Y.getR dX10_comes_118 fl_X10_63 rfl h34 ?_
                obtain ⟨v35, h36, hf⟩ := ob hf
                refine Y.getR dX10_comes_121 fl_X10_154 rfl h36 ?_
                refine X.iload dX10_comes_124 (j := 0) rfl ?_
                refine X.iconst dX10_comes_126 kI_0 ?_
                obtain ⟨g37, h38, hf⟩ := ob hf
                refine Y.zast dX10_comes_127 h38 ?_
                refine X.aload_n dX10_comes_128 rfl (j := 3) rfl ?_
                obtain ⟨v39, h40, hf⟩ := ob hf
                refine Y.getR dX10_comes_129 fl_X10_63 rfl h40 ?_
                obtain ⟨v41, h42, hf⟩ := ob hf
                refine Y.getR dX10_comes_132 fl_X10_148 rfl h42 ?_
                refine X.iload dX10_comes_135 (j := 0) rfl ?_
                refine X.iload_n dX10_comes_137 rfl (j := 4) rfl ?_
                refine X.bipush dX10_comes_138 kB_10 ?_
                refine X.idiv dX10_comes_140 (by decide) ?_
                obtain ⟨g43, h44, hf⟩ := ob hf
                refine Y.iast dX10_comes_141 h44 ?_
                refine X.aload_n dX10_comes_142 rfl (j := 3) rfl ?_
                obtain ⟨v45, h46, hf⟩ := ob hf
                refine Y.getR dX10_comes_143 fl_X10_63 rfl h46 ?_
                obtain ⟨v47, h48, hf⟩ := ob hf
                refine Y.getR dX10_comes_146 fl_X10_151 rfl h48 ?_
                refine X.iload dX10_comes_149 (j := 0) rfl ?_
                refine X.iload_n dX10_comes_151 rfl (j := 4) rfl ?_
                refine X.bipush dX10_comes_152 kB_10 ?_
                refine Y.irem dX10_comes_154 (by decide) ?_
                obtain ⟨g49, h50, hf⟩ := ob hf
                refine Y.iast dX10_comes_155 h50 ?_
                refine X.aload_n dX10_comes_156 rfl (j := 3) rfl ?_
                obtain ⟨v51, h52, hf⟩ := ob hf
                refine Y.getR dX10_comes_157 fl_X10_63 rfl h52 ?_
                refine X.iload dX10_comes_160 (j := 0) rfl ?_
                refine X.iconst dX10_comes_162 kI_1 ?_
                refine X.iadd dX10_comes_163 ?_
                obtain ⟨g53, h54, hf⟩ := ob hf
                refine Y.putI dX10_comes_164 fl_X10_93 rfl rfl rfl rfl h54 ?_
                refine X.iload dX10_comes_167 (j := 0) rfl ?_
                obtain ⟨e1, e2⟩ := e_ret hf
                subst e1
                subst e2
                exact X.iret dX10_comes_169 rfl rfl
              · rw [if_neg hc] at hf
                refine X.bipush dX10_comes_71 kB_m4 ?_
                obtain ⟨e1, e2⟩ := e_ret hf
                subst e1
                subst e2
                exact X.iret dX10_comes_73 rfl rfl
            · rw [if_neg hc] at hf
              refine X.bipush dX10_comes_56 kB_m2 ?_
              obtain ⟨e1, e2⟩ := e_ret hf
              subst e1
              subst e2
              exact X.iret dX10_comes_58 rfl rfl
        · rw [if_neg hc] at hf
          refine X.bipush dX10_comes_21 kB_m2 ?_
          obtain ⟨e1, e2⟩ := e_ret hf
          subst e1
          subst e2
          exact X.iret dX10_comes_23 rfl rfl
/-! LeanedOut.person(II)I -/
abbrev M_X10_person : e_M := (yX10_person, cX10_person, 3, (some .int))
theorem mk_X10_person : e_Mok M_X10_person 2 := ⟨by decide +kernel, by decide +kernel, by decide +kernel⟩
theorem dX10_person_0 : decode cX10_person 0 = .ok (.aload_n 0, 1) := by decide +kernel
theorem dX10_person_1 : decode cX10_person 1 = .ok (.iload_n 1, 1) := by decide +kernel
theorem dX10_person_2 : decode cX10_person 2 = .ok (.iload_n 2, 1) := by decide +kernel
theorem dX10_person_3 : decode cX10_person 3 = .ok (.invokevirtual 129, 3) := by decide +kernel
theorem dX10_person_6 : decode cX10_person 6 = .ok (.ireturn, 1) := by decide +kernel
def f_X10_person (S : e_S) (l0 : Nat) (l1 : Int32) (l2 : Int32) (g : e_G) : Option (Int32 × e_G) :=
  if e_ob S 10 l0 = true then
    (f_X10_comes S l0 l1 l2 g).bind fun q2 =>
    some (q2.1, q2.2)
  else none
theorem o_X10_person  {S : e_S} {w : Int32} {k : e_G} {l0 : Nat} {l1 : Int32} {l2 : Int32} {g : e_G} (hf : f_X10_person S l0 l1 l2 g = some (w, k)) : e_ob S 10 l0 = true := by
  unfold f_X10_person at hf
  by_cases hc : e_ob S 10 l0 = true
  · exact hc
  · rw [if_neg hc] at hf
    cases hf
theorem c_X10_person {l : Launch} {D : va_G}  {S : e_S} {w : Int32} {k : e_G} {l0 : Nat} {l1 : Int32} {l2 : Int32} {g : e_G} (hf : f_X10_person S l0 l1 l2 g = some (w, k)) : CT l D (e_R 4) M_X10_person [.ref l0, .int l1, .int l2] (S, g) (some (.int w)) (S, k) := by
  refine CT.of (by decide +kernel) (Nat.le_of_ble_eq_true rfl) ?_
  have ho := o_X10_person hf
  unfold f_X10_person at hf
  rw [if_pos ho] at hf
  show X l D (e_R 4) M_X10_person 0 0 0 [(0, .ref l0), (1, .int l1), (2, .int l2)] [] (S, g) (some (.int w)) (S, k)
  refine X.aload_n dX10_person_0 rfl (j := 0) rfl ?_
  refine X.iload_n dX10_person_1 rfl (j := 1) rfl ?_
  refine X.iload_n dX10_person_2 rfl (j := 2) rfl ?_
  obtain ⟨q2, h1, hf⟩ := ob hf
  refine Y.callV (av := [.int l1, .int l2]) (ci := 10) dX10_person_3 (c_X10_comes (l := l) (D := D) (w := q2.1) (k := q2.2) h1) cw_X10_129 (by decide) rfl mk_X10_comes (o_X10_comes (w := q2.1) (k := q2.2) h1) (e_R_ok (Nat.le_of_ble_eq_true rfl) (Nat.le_of_ble_eq_true rfl)) ⟨rfl, rfl⟩ (by simp [Value.category]) ?_
  obtain ⟨e1, e2⟩ := e_ret hf
  subst e1
  subst e2
  exact X.iret dX10_person_6 rfl rfl
/-! LeanedOut.looksAt(II)I -/
abbrev M_X10_looksAt : e_M := (yX10_looksAt, cX10_looksAt, 4, (some .int))
theorem mk_X10_looksAt : e_Mok M_X10_looksAt 2 := ⟨by decide +kernel, by decide +kernel, by decide +kernel⟩
theorem dX10_looksAt_0 : decode cX10_looksAt 0 = .ok (.aload_n 0, 1) := by decide +kernel
theorem dX10_looksAt_1 : decode cX10_looksAt 1 = .ok (.getfield 63, 3) := by decide +kernel
theorem dX10_looksAt_4 : decode cX10_looksAt 4 = .ok (.iload_n 1, 1) := by decide +kernel
theorem dX10_looksAt_5 : decode cX10_looksAt 5 = .ok (.iload_n 2, 1) := by decide +kernel
theorem dX10_looksAt_6 : decode cX10_looksAt 6 = .ok (.invokevirtual 202, 3) := by decide +kernel
theorem dX10_looksAt_9 : decode cX10_looksAt 9 = .ok (.ifCond .ne 6, 3) := by decide +kernel
theorem dX10_looksAt_12 : decode cX10_looksAt 12 = .ok (.bipush (-7), 2) := by decide +kernel
theorem dX10_looksAt_14 : decode cX10_looksAt 14 = .ok (.ireturn, 1) := by decide +kernel
theorem dX10_looksAt_15 : decode cX10_looksAt 15 = .ok (.aload_n 0, 1) := by decide +kernel
theorem dX10_looksAt_16 : decode cX10_looksAt 16 = .ok (.getfield 63, 3) := by decide +kernel
theorem dX10_looksAt_19 : decode cX10_looksAt 19 = .ok (.getfield 145, 3) := by decide +kernel
theorem dX10_looksAt_22 : decode cX10_looksAt 22 = .ok (.iload_n 1, 1) := by decide +kernel
theorem dX10_looksAt_23 : decode cX10_looksAt 23 = .ok (.iaload, 1) := by decide +kernel
theorem dX10_looksAt_24 : decode cX10_looksAt 24 = .ok (.istore_n 3, 1) := by decide +kernel
theorem dX10_looksAt_25 : decode cX10_looksAt 25 = .ok (.aload_n 0, 1) := by decide +kernel
theorem dX10_looksAt_26 : decode cX10_looksAt 26 = .ok (.getfield 63, 3) := by decide +kernel
theorem dX10_looksAt_29 : decode cX10_looksAt 29 = .ok (.getfield 145, 3) := by decide +kernel
theorem dX10_looksAt_32 : decode cX10_looksAt 32 = .ok (.iload_n 1, 1) := by decide +kernel
theorem dX10_looksAt_33 : decode cX10_looksAt 33 = .ok (.iload_n 2, 1) := by decide +kernel
theorem dX10_looksAt_34 : decode cX10_looksAt 34 = .ok (.iastore, 1) := by decide +kernel
theorem dX10_looksAt_35 : decode cX10_looksAt 35 = .ok (.iload_n 3, 1) := by decide +kernel
theorem dX10_looksAt_36 : decode cX10_looksAt 36 = .ok (.ireturn, 1) := by decide +kernel
def f_X10_looksAt (S : e_S) (l0 : Nat) (l1 : Int32) (l2 : Int32) (g : e_G) : Option (Int32 × e_G) :=
  if e_ob S 10 l0 = true then
    (e_gR S g 10 l0 2).bind fun v1 =>
    (f_X7_mayLookAt S v1 l1 l2 g).bind fun q4 =>
    if q4.1 = 0 then
      some ((-7 : Int32), q4.2)
    else
      (e_gR S q4.2 10 l0 2).bind fun v5 =>
      (e_gR S q4.2 7 v5 1).bind fun v7 =>
      (e_aI S q4.2 0 v7 l1).bind fun v9 =>
      (e_gR S q4.2 10 l0 2).bind fun v11 =>
      (e_gR S q4.2 7 v11 1).bind fun v13 =>
      (e_aS S q4.2 0 v13 l1 l2).bind fun g15 =>
      some (v9, g15)
  else none
theorem o_X10_looksAt  {S : e_S} {w : Int32} {k : e_G} {l0 : Nat} {l1 : Int32} {l2 : Int32} {g : e_G} (hf : f_X10_looksAt S l0 l1 l2 g = some (w, k)) : e_ob S 10 l0 = true := by
  unfold f_X10_looksAt at hf
  by_cases hc : e_ob S 10 l0 = true
  · exact hc
  · rw [if_neg hc] at hf
    cases hf
theorem c_X10_looksAt {l : Launch} {D : va_G}  {S : e_S} {w : Int32} {k : e_G} {l0 : Nat} {l1 : Int32} {l2 : Int32} {g : e_G} (hf : f_X10_looksAt S l0 l1 l2 g = some (w, k)) : CT l D (e_R 4) M_X10_looksAt [.ref l0, .int l1, .int l2] (S, g) (some (.int w)) (S, k) := by
  refine CT.of (by decide +kernel) (Nat.le_of_ble_eq_true rfl) ?_
  have ho := o_X10_looksAt hf
  unfold f_X10_looksAt at hf
  rw [if_pos ho] at hf
  show X l D (e_R 4) M_X10_looksAt 0 0 0 [(0, .ref l0), (1, .int l1), (2, .int l2)] [] (S, g) (some (.int w)) (S, k)
  refine X.aload_n dX10_looksAt_0 rfl (j := 0) rfl ?_
  obtain ⟨v1, h2, hf⟩ := ob hf
  refine Y.getR dX10_looksAt_1 fl_X10_63 rfl h2 ?_
  refine X.iload_n dX10_looksAt_4 rfl (j := 1) rfl ?_
  refine X.iload_n dX10_looksAt_5 rfl (j := 2) rfl ?_
  obtain ⟨q4, h3, hf⟩ := ob hf
  refine Y.callV (av := [.int l1, .int l2]) (ci := 7) dX10_looksAt_6 (c_X7_mayLookAt (l := l) (D := D) (w := q4.1) (k := q4.2) h3) cw_X10_202 (by decide) rfl mk_X7_mayLookAt (o_X7_mayLookAt (w := q4.1) (k := q4.2) h3) (e_R_ok (Nat.le_of_ble_eq_true rfl) (Nat.le_of_ble_eq_true rfl)) ⟨rfl, rfl⟩ (by simp [Value.category]) ?_
  refine X.if_ne dX10_looksAt_9 (tgt := 15) rfl (fun hc => ?_) (fun hc => ?_)
  · rw [if_neg hc] at hf
    refine X.aload_n dX10_looksAt_15 rfl (j := 0) rfl ?_
    obtain ⟨v5, h6, hf⟩ := ob hf
    refine Y.getR dX10_looksAt_16 fl_X10_63 rfl h6 ?_
    obtain ⟨v7, h8, hf⟩ := ob hf
    refine Y.getR dX10_looksAt_19 fl_X10_145 rfl h8 ?_
    refine X.iload_n dX10_looksAt_22 rfl (j := 1) rfl ?_
    obtain ⟨v9, h10, hf⟩ := ob hf
    refine Y.iald dX10_looksAt_23 h10 ?_
    refine X.istore_n dX10_looksAt_24 rfl (Nat.le_of_ble_eq_true rfl) (lc' := [(3, .int v9), (0, .ref l0), (1, .int l1), (2, .int l2)]) rfl ?_
    refine X.aload_n dX10_looksAt_25 rfl (j := 1) rfl ?_
    obtain ⟨v11, h12, hf⟩ := ob hf
    refine Y.getR dX10_looksAt_26 fl_X10_63 rfl h12 ?_
    obtain ⟨v13, h14, hf⟩ := ob hf
    refine Y.getR dX10_looksAt_29 fl_X10_145 rfl h14 ?_
    refine X.iload_n dX10_looksAt_32 rfl (j := 2) rfl ?_
    refine X.iload_n dX10_looksAt_33 rfl (j := 3) rfl ?_
    obtain ⟨g15, h16, hf⟩ := ob hf
    refine Y.iast dX10_looksAt_34 h16 ?_
    refine X.iload_n dX10_looksAt_35 rfl (j := 0) rfl ?_
    obtain ⟨e1, e2⟩ := e_ret hf
    subst e1
    subst e2
    exact X.iret dX10_looksAt_36 rfl rfl
  · rw [if_pos hc] at hf
    refine X.bipush dX10_looksAt_12 kB_m7 ?_
    obtain ⟨e1, e2⟩ := e_ret hf
    subst e1
    subst e2
    exact X.iret dX10_looksAt_14 rfl rfl
/-! LeanedOut.put(III)I -/
abbrev M_X10_put : e_M := (yX10_put, cX10_put, 5, (some .int))
theorem mk_X10_put : e_Mok M_X10_put 3 := ⟨by decide +kernel, by decide +kernel, by decide +kernel⟩
theorem dX10_put_0 : decode cX10_put 0 = .ok (.aload_n 0, 1) := by decide +kernel
theorem dX10_put_1 : decode cX10_put 1 = .ok (.getfield 63, 3) := by decide +kernel
theorem dX10_put_4 : decode cX10_put 4 = .ok (.iload_n 1, 1) := by decide +kernel
theorem dX10_put_5 : decode cX10_put 5 = .ok (.invokevirtual 122, 3) := by decide +kernel
theorem dX10_put_8 : decode cX10_put 8 = .ok (.ifCond .ne 6, 3) := by decide +kernel
theorem dX10_put_11 : decode cX10_put 11 = .ok (.bipush (-5), 2) := by decide +kernel
theorem dX10_put_13 : decode cX10_put 13 = .ok (.ireturn, 1) := by decide +kernel
theorem dX10_put_14 : decode cX10_put 14 = .ok (.iload_n 2, 1) := by decide +kernel
theorem dX10_put_15 : decode cX10_put 15 = .ok (.tableswitch 108 0 2 #[25, 64, 71], 25) := by decide +kernel
theorem dX10_put_40 : decode cX10_put 40 = .ok (.aload_n 0, 1) := by decide +kernel
theorem dX10_put_41 : decode cX10_put 41 = .ok (.getfield 63, 3) := by decide +kernel
theorem dX10_put_44 : decode cX10_put 44 = .ok (.iload_n 1, 1) := by decide +kernel
theorem dX10_put_45 : decode cX10_put 45 = .ok (.iload_n 3, 1) := by decide +kernel
theorem dX10_put_46 : decode cX10_put 46 = .ok (.invokevirtual 132, 3) := by decide +kernel
theorem dX10_put_49 : decode cX10_put 49 = .ok (.ifCond .ne 6, 3) := by decide +kernel
theorem dX10_put_52 : decode cX10_put 52 = .ok (.bipush (-7), 2) := by decide +kernel
theorem dX10_put_54 : decode cX10_put 54 = .ok (.ireturn, 1) := by decide +kernel
theorem dX10_put_55 : decode cX10_put 55 = .ok (.aload_n 0, 1) := by decide +kernel
theorem dX10_put_56 : decode cX10_put 56 = .ok (.getfield 63, 3) := by decide +kernel
theorem dX10_put_59 : decode cX10_put 59 = .ok (.getfield 136, 3) := by decide +kernel
theorem dX10_put_62 : decode cX10_put 62 = .ok (.iload_n 1, 1) := by decide +kernel
theorem dX10_put_63 : decode cX10_put 63 = .ok (.iaload, 1) := by decide +kernel
theorem dX10_put_64 : decode cX10_put 64 = .ok (.istore 4, 2) := by decide +kernel
theorem dX10_put_66 : decode cX10_put 66 = .ok (.aload_n 0, 1) := by decide +kernel
theorem dX10_put_67 : decode cX10_put 67 = .ok (.getfield 63, 3) := by decide +kernel
theorem dX10_put_70 : decode cX10_put 70 = .ok (.getfield 136, 3) := by decide +kernel
theorem dX10_put_73 : decode cX10_put 73 = .ok (.iload_n 1, 1) := by decide +kernel
theorem dX10_put_74 : decode cX10_put 74 = .ok (.iload_n 3, 1) := by decide +kernel
theorem dX10_put_75 : decode cX10_put 75 = .ok (.iastore, 1) := by decide +kernel
theorem dX10_put_76 : decode cX10_put 76 = .ok (.iload 4, 2) := by decide +kernel
theorem dX10_put_78 : decode cX10_put 78 = .ok (.ireturn, 1) := by decide +kernel
theorem dX10_put_79 : decode cX10_put 79 = .ok (.aload_n 0, 1) := by decide +kernel
theorem dX10_put_80 : decode cX10_put 80 = .ok (.iload_n 1, 1) := by decide +kernel
theorem dX10_put_81 : decode cX10_put 81 = .ok (.iload_n 3, 1) := by decide +kernel
theorem dX10_put_82 : decode cX10_put 82 = .ok (.invokevirtual 139, 3) := by decide +kernel
theorem dX10_put_85 : decode cX10_put 85 = .ok (.ireturn, 1) := by decide +kernel
theorem dX10_put_86 : decode cX10_put 86 = .ok (.iload_n 3, 1) := by decide +kernel
theorem dX10_put_87 : decode cX10_put 87 = .ok (.ifCond .lt 9, 3) := by decide +kernel
theorem dX10_put_90 : decode cX10_put 90 = .ok (.iload_n 3, 1) := by decide +kernel
theorem dX10_put_91 : decode cX10_put 91 = .ok (.bipush 99, 2) := by decide +kernel
theorem dX10_put_93 : decode cX10_put 93 = .ok (.if_icmp .le 6, 3) := by decide +kernel
theorem dX10_put_96 : decode cX10_put 96 = .ok (.bipush (-7), 2) := by decide +kernel
theorem dX10_put_98 : decode cX10_put 98 = .ok (.ireturn, 1) := by decide +kernel
theorem dX10_put_99 : decode cX10_put 99 = .ok (.aload_n 0, 1) := by decide +kernel
theorem dX10_put_100 : decode cX10_put 100 = .ok (.getfield 63, 3) := by decide +kernel
theorem dX10_put_103 : decode cX10_put 103 = .ok (.getfield 142, 3) := by decide +kernel
theorem dX10_put_106 : decode cX10_put 106 = .ok (.iload_n 1, 1) := by decide +kernel
theorem dX10_put_107 : decode cX10_put 107 = .ok (.iaload, 1) := by decide +kernel
theorem dX10_put_108 : decode cX10_put 108 = .ok (.istore 4, 2) := by decide +kernel
theorem dX10_put_110 : decode cX10_put 110 = .ok (.aload_n 0, 1) := by decide +kernel
theorem dX10_put_111 : decode cX10_put 111 = .ok (.getfield 63, 3) := by decide +kernel
theorem dX10_put_114 : decode cX10_put 114 = .ok (.getfield 142, 3) := by decide +kernel
theorem dX10_put_117 : decode cX10_put 117 = .ok (.iload_n 1, 1) := by decide +kernel
theorem dX10_put_118 : decode cX10_put 118 = .ok (.iload_n 3, 1) := by decide +kernel
theorem dX10_put_119 : decode cX10_put 119 = .ok (.iastore, 1) := by decide +kernel
theorem dX10_put_120 : decode cX10_put 120 = .ok (.iload 4, 2) := by decide +kernel
theorem dX10_put_122 : decode cX10_put 122 = .ok (.ireturn, 1) := by decide +kernel
theorem dX10_put_123 : decode cX10_put 123 = .ok (.bipush (-7), 2) := by decide +kernel
theorem dX10_put_125 : decode cX10_put 125 = .ok (.ireturn, 1) := by decide +kernel
def f_X10_put (S : e_S) (l0 : Nat) (l1 : Int32) (l2 : Int32) (l3 : Int32) (g : e_G) : Option (Int32 × e_G) :=
  if e_ob S 10 l0 = true then
    (e_gR S g 10 l0 2).bind fun v1 =>
    (f_X7_has S v1 l1 g).bind fun q4 =>
    if q4.1 = 0 then
      some ((-5 : Int32), q4.2)
    else
      if l2 = 0 then
        (e_gR S q4.2 10 l0 2).bind fun v6 =>
        (f_X7_mayBeAt S v6 l1 l3 q4.2).bind fun q9 =>
        if q9.1 = 0 then
          some ((-7 : Int32), q9.2)
        else
          (e_gR S q9.2 10 l0 2).bind fun v10 =>
          (e_gR S q9.2 7 v10 0).bind fun v12 =>
          (e_aI S q9.2 0 v12 l1).bind fun v14 =>
          (e_gR S q9.2 10 l0 2).bind fun v16 =>
          (e_gR S q9.2 7 v16 0).bind fun v18 =>
          (e_aS S q9.2 0 v18 l1 l3).bind fun g20 =>
          some (v14, g20)
      else
      if l2 = 1 then
        (f_X10_looksAt S l0 l1 l3 q4.2).bind fun q24 =>
        some (q24.1, q24.2)
      else
      if l2 = 2 then
        if l3 < 0 then
          some ((-7 : Int32), q4.2)
        else
          if l3 ≤ (99 : Int32) then
            (e_gR S q4.2 10 l0 2).bind fun v26 =>
            (e_gR S q4.2 7 v26 2).bind fun v28 =>
            (e_aI S q4.2 0 v28 l1).bind fun v30 =>
            (e_gR S q4.2 10 l0 2).bind fun v32 =>
            (e_gR S q4.2 7 v32 2).bind fun v34 =>
            (e_aS S q4.2 0 v34 l1 l3).bind fun g36 =>
            some (v30, g36)
          else
            some ((-7 : Int32), q4.2)
      else
      some ((-7 : Int32), q4.2)
  else none
theorem o_X10_put  {S : e_S} {w : Int32} {k : e_G} {l0 : Nat} {l1 : Int32} {l2 : Int32} {l3 : Int32} {g : e_G} (hf : f_X10_put S l0 l1 l2 l3 g = some (w, k)) : e_ob S 10 l0 = true := by
  unfold f_X10_put at hf
  by_cases hc : e_ob S 10 l0 = true
  · exact hc
  · rw [if_neg hc] at hf
    cases hf
theorem c_X10_put {l : Launch} {D : va_G}  {S : e_S} {w : Int32} {k : e_G} {l0 : Nat} {l1 : Int32} {l2 : Int32} {l3 : Int32} {g : e_G} (hf : f_X10_put S l0 l1 l2 l3 g = some (w, k)) : CT l D (e_R 5) M_X10_put [.ref l0, .int l1, .int l2, .int l3] (S, g) (some (.int w)) (S, k) := by
  refine CT.of (by decide +kernel) (Nat.le_of_ble_eq_true rfl) ?_
  have ho := o_X10_put hf
  unfold f_X10_put at hf
  rw [if_pos ho] at hf
  show X l D (e_R 5) M_X10_put 0 0 0 [(0, .ref l0), (1, .int l1), (2, .int l2), (3, .int l3)] [] (S, g) (some (.int w)) (S, k)
  refine X.aload_n dX10_put_0 rfl (j := 0) rfl ?_
  obtain ⟨v1, h2, hf⟩ := ob hf
  refine Y.getR dX10_put_1 fl_X10_63 rfl h2 ?_
  refine X.iload_n dX10_put_4 rfl (j := 1) rfl ?_
  obtain ⟨q4, h3, hf⟩ := ob hf
  refine Y.callV (av := [.int l1]) (ci := 7) dX10_put_5 (c_X7_has (l := l) (D := D) (w := q4.1) (k := q4.2) h3) cw_X10_122 (by decide) rfl mk_X7_has (o_X7_has (w := q4.1) (k := q4.2) h3) (e_R_ok (Nat.le_of_ble_eq_true rfl) (Nat.le_of_ble_eq_true rfl)) ⟨rfl, rfl⟩ (by simp [Value.category]) ?_
  refine X.if_ne dX10_put_8 (tgt := 14) rfl (fun hc => ?_) (fun hc => ?_)
  · rw [if_neg hc] at hf
    refine X.iload_n dX10_put_14 rfl (j := 2) rfl ?_
    by_cases h5 : l2 = (0 : Int32)
    · rw [if_pos h5] at hf
      refine X.tableIn dX10_put_15 (by rw [h5]; decide) (by rw [h5]; decide) (off := 25) (tgt := 40) (by rw [h5]; rfl) rfl ?_
      refine X.aload_n dX10_put_40 rfl (j := 0) rfl ?_
      obtain ⟨v6, h7, hf⟩ := ob hf
      refine Y.getR dX10_put_41 fl_X10_63 rfl h7 ?_
      refine X.iload_n dX10_put_44 rfl (j := 1) rfl ?_
      refine X.iload_n dX10_put_45 rfl (j := 3) rfl ?_
      obtain ⟨q9, h8, hf⟩ := ob hf
      refine Y.callV (av := [.int l1, .int l3]) (ci := 7) dX10_put_46 (c_X7_mayBeAt (l := l) (D := D) (w := q9.1) (k := q9.2) h8) cw_X10_132 (by decide) rfl mk_X7_mayBeAt (o_X7_mayBeAt (w := q9.1) (k := q9.2) h8) (e_R_ok (Nat.le_of_ble_eq_true rfl) (Nat.le_of_ble_eq_true rfl)) ⟨rfl, rfl⟩ (by simp [Value.category]) ?_
      refine X.if_ne dX10_put_49 (tgt := 55) rfl (fun hc => ?_) (fun hc => ?_)
      · rw [if_neg hc] at hf
        refine X.aload_n dX10_put_55 rfl (j := 0) rfl ?_
        obtain ⟨v10, h11, hf⟩ := ob hf
        refine Y.getR dX10_put_56 fl_X10_63 rfl h11 ?_
        obtain ⟨v12, h13, hf⟩ := ob hf
        refine Y.getR dX10_put_59 fl_X10_136 rfl h13 ?_
        refine X.iload_n dX10_put_62 rfl (j := 1) rfl ?_
        obtain ⟨v14, h15, hf⟩ := ob hf
        refine Y.iald dX10_put_63 h15 ?_
        refine X.istore dX10_put_64 (Nat.le_of_ble_eq_true rfl) (lc' := [(4, .int v14), (0, .ref l0), (1, .int l1), (2, .int l2), (3, .int l3)]) rfl ?_
        refine X.aload_n dX10_put_66 rfl (j := 1) rfl ?_
        obtain ⟨v16, h17, hf⟩ := ob hf
        refine Y.getR dX10_put_67 fl_X10_63 rfl h17 ?_
        obtain ⟨v18, h19, hf⟩ := ob hf
        refine Y.getR dX10_put_70 fl_X10_136 rfl h19 ?_
        refine X.iload_n dX10_put_73 rfl (j := 2) rfl ?_
        refine X.iload_n dX10_put_74 rfl (j := 4) rfl ?_
        obtain ⟨g20, h21, hf⟩ := ob hf
        refine Y.iast dX10_put_75 h21 ?_
        refine X.iload dX10_put_76 (j := 0) rfl ?_
        obtain ⟨e1, e2⟩ := e_ret hf
        subst e1
        subst e2
        exact X.iret dX10_put_78 rfl rfl
      · rw [if_pos hc] at hf
        refine X.bipush dX10_put_52 kB_m7 ?_
        obtain ⟨e1, e2⟩ := e_ret hf
        subst e1
        subst e2
        exact X.iret dX10_put_54 rfl rfl
    rw [if_neg h5] at hf
    by_cases h22 : l2 = (1 : Int32)
    · rw [if_pos h22] at hf
      refine X.tableIn dX10_put_15 (by rw [h22]; decide) (by rw [h22]; decide) (off := 64) (tgt := 79) (by rw [h22]; rfl) rfl ?_
      refine X.aload_n dX10_put_79 rfl (j := 0) rfl ?_
      refine X.iload_n dX10_put_80 rfl (j := 1) rfl ?_
      refine X.iload_n dX10_put_81 rfl (j := 3) rfl ?_
      obtain ⟨q24, h23, hf⟩ := ob hf
      refine Y.callV (av := [.int l1, .int l3]) (ci := 10) dX10_put_82 (c_X10_looksAt (l := l) (D := D) (w := q24.1) (k := q24.2) h23) cw_X10_139 (by decide) rfl mk_X10_looksAt (o_X10_looksAt (w := q24.1) (k := q24.2) h23) (e_R_ok (Nat.le_of_ble_eq_true rfl) (Nat.le_of_ble_eq_true rfl)) ⟨rfl, rfl⟩ (by simp [Value.category]) ?_
      obtain ⟨e1, e2⟩ := e_ret hf
      subst e1
      subst e2
      exact X.iret dX10_put_85 rfl rfl
    rw [if_neg h22] at hf
    by_cases h25 : l2 = (2 : Int32)
    · rw [if_pos h25] at hf
      refine X.tableIn dX10_put_15 (by rw [h25]; decide) (by rw [h25]; decide) (off := 71) (tgt := 86) (by rw [h25]; rfl) rfl ?_
      refine X.iload_n dX10_put_86 rfl (j := 3) rfl ?_
      refine X.if_lt dX10_put_87 (tgt := 96) rfl (fun hc => ?_) (fun hc => ?_)
      · rw [if_pos hc] at hf
        refine X.bipush dX10_put_96 kB_m7 ?_
        obtain ⟨e1, e2⟩ := e_ret hf
        subst e1
        subst e2
        exact X.iret dX10_put_98 rfl rfl
      · rw [if_neg hc] at hf
        refine X.iload_n dX10_put_90 rfl (j := 3) rfl ?_
        refine X.bipush dX10_put_91 kB_99 ?_
        refine X.icmp_le dX10_put_93 (tgt := 99) rfl (fun hc => ?_) (fun hc => ?_)
        · rw [if_pos hc] at hf
          refine X.aload_n dX10_put_99 rfl (j := 0) rfl ?_
          obtain ⟨v26, h27, hf⟩ := ob hf
          refine Y.getR dX10_put_100 fl_X10_63 rfl h27 ?_
          obtain ⟨v28, h29, hf⟩ := ob hf
          refine Y.getR dX10_put_103 fl_X10_142 rfl h29 ?_
          refine X.iload_n dX10_put_106 rfl (j := 1) rfl ?_
          obtain ⟨v30, h31, hf⟩ := ob hf
          refine Y.iald dX10_put_107 h31 ?_
          refine X.istore dX10_put_108 (Nat.le_of_ble_eq_true rfl) (lc' := [(4, .int v30), (0, .ref l0), (1, .int l1), (2, .int l2), (3, .int l3)]) rfl ?_
          refine X.aload_n dX10_put_110 rfl (j := 1) rfl ?_
          obtain ⟨v32, h33, hf⟩ := ob hf
          refine Y.getR dX10_put_111 fl_X10_63 rfl h33 ?_
          obtain ⟨v34, h35, hf⟩ := ob hf
          refine Y.getR dX10_put_114 fl_X10_142 rfl h35 ?_
          refine X.iload_n dX10_put_117 rfl (j := 2) rfl ?_
          refine X.iload_n dX10_put_118 rfl (j := 4) rfl ?_
          obtain ⟨g36, h37, hf⟩ := ob hf
          refine Y.iast dX10_put_119 h37 ?_
          refine X.iload dX10_put_120 (j := 0) rfl ?_
          obtain ⟨e1, e2⟩ := e_ret hf
          subst e1
          subst e2
          exact X.iret dX10_put_122 rfl rfl
        · rw [if_neg hc] at hf
          refine X.bipush dX10_put_96 kB_m7 ?_
          obtain ⟨e1, e2⟩ := e_ret hf
          subst e1
          subst e2
          exact X.iret dX10_put_98 rfl rfl
    rw [if_neg h25] at hf
    refine X.tableOut dX10_put_15 (tgt := 123) (by have qh5 := e_ne (z := 0) (by decide) h5; have qh22 := e_ne (z := 1) (by decide) h22; have qh25 := e_ne (z := 2) (by decide) h25; omega) rfl ?_
    refine X.bipush dX10_put_123 kB_m7 ?_
    obtain ⟨e1, e2⟩ := e_ret hf
    subst e1
    subst e2
    exact X.iret dX10_put_125 rfl rfl
  · rw [if_pos hc] at hf
    refine X.bipush dX10_put_11 kB_m5 ?_
    obtain ⟨e1, e2⟩ := e_ret hf
    subst e1
    subst e2
    exact X.iret dX10_put_13 rfl rfl
/-! LeanedOut.told(II)I -/
abbrev M_X10_told : e_M := (yX10_told, cX10_told, 3, (some .int))
theorem mk_X10_told : e_Mok M_X10_told 2 := ⟨by decide +kernel, by decide +kernel, by decide +kernel⟩
theorem dX10_told_0 : decode cX10_told 0 = .ok (.aload_n 0, 1) := by decide +kernel
theorem dX10_told_1 : decode cX10_told 1 = .ok (.getfield 63, 3) := by decide +kernel
theorem dX10_told_4 : decode cX10_told 4 = .ok (.iload_n 1, 1) := by decide +kernel
theorem dX10_told_5 : decode cX10_told 5 = .ok (.invokevirtual 122, 3) := by decide +kernel
theorem dX10_told_8 : decode cX10_told 8 = .ok (.ifCond .ne 7, 3) := by decide +kernel
theorem dX10_told_11 : decode cX10_told 11 = .ok (.sipush (-5000), 3) := by decide +kernel
theorem dX10_told_14 : decode cX10_told 14 = .ok (.ireturn, 1) := by decide +kernel
theorem dX10_told_15 : decode cX10_told 15 = .ok (.iload_n 2, 1) := by decide +kernel
theorem dX10_told_16 : decode cX10_told 16 = .ok (.tableswitch 168 0 9 #[56, 66, 76, 86, 96, 106, 124, 141, 150, 159], 56) := by decide +kernel
theorem dX10_told_72 : decode cX10_told 72 = .ok (.aload_n 0, 1) := by decide +kernel
theorem dX10_told_73 : decode cX10_told 73 = .ok (.getfield 63, 3) := by decide +kernel
theorem dX10_told_76 : decode cX10_told 76 = .ok (.getfield 136, 3) := by decide +kernel
theorem dX10_told_79 : decode cX10_told 79 = .ok (.iload_n 1, 1) := by decide +kernel
theorem dX10_told_80 : decode cX10_told 80 = .ok (.iaload, 1) := by decide +kernel
theorem dX10_told_81 : decode cX10_told 81 = .ok (.ireturn, 1) := by decide +kernel
theorem dX10_told_82 : decode cX10_told 82 = .ok (.aload_n 0, 1) := by decide +kernel
theorem dX10_told_83 : decode cX10_told 83 = .ok (.getfield 63, 3) := by decide +kernel
theorem dX10_told_86 : decode cX10_told 86 = .ok (.getfield 145, 3) := by decide +kernel
theorem dX10_told_89 : decode cX10_told 89 = .ok (.iload_n 1, 1) := by decide +kernel
theorem dX10_told_90 : decode cX10_told 90 = .ok (.iaload, 1) := by decide +kernel
theorem dX10_told_91 : decode cX10_told 91 = .ok (.ireturn, 1) := by decide +kernel
theorem dX10_told_92 : decode cX10_told 92 = .ok (.aload_n 0, 1) := by decide +kernel
theorem dX10_told_93 : decode cX10_told 93 = .ok (.getfield 63, 3) := by decide +kernel
theorem dX10_told_96 : decode cX10_told 96 = .ok (.getfield 142, 3) := by decide +kernel
theorem dX10_told_99 : decode cX10_told 99 = .ok (.iload_n 1, 1) := by decide +kernel
theorem dX10_told_100 : decode cX10_told 100 = .ok (.iaload, 1) := by decide +kernel
theorem dX10_told_101 : decode cX10_told 101 = .ok (.ireturn, 1) := by decide +kernel
theorem dX10_told_102 : decode cX10_told 102 = .ok (.aload_n 0, 1) := by decide +kernel
theorem dX10_told_103 : decode cX10_told 103 = .ok (.getfield 63, 3) := by decide +kernel
theorem dX10_told_106 : decode cX10_told 106 = .ok (.getfield 148, 3) := by decide +kernel
theorem dX10_told_109 : decode cX10_told 109 = .ok (.iload_n 1, 1) := by decide +kernel
theorem dX10_told_110 : decode cX10_told 110 = .ok (.iaload, 1) := by decide +kernel
theorem dX10_told_111 : decode cX10_told 111 = .ok (.ireturn, 1) := by decide +kernel
theorem dX10_told_112 : decode cX10_told 112 = .ok (.aload_n 0, 1) := by decide +kernel
theorem dX10_told_113 : decode cX10_told 113 = .ok (.getfield 63, 3) := by decide +kernel
theorem dX10_told_116 : decode cX10_told 116 = .ok (.getfield 151, 3) := by decide +kernel
theorem dX10_told_119 : decode cX10_told 119 = .ok (.iload_n 1, 1) := by decide +kernel
theorem dX10_told_120 : decode cX10_told 120 = .ok (.iaload, 1) := by decide +kernel
theorem dX10_told_121 : decode cX10_told 121 = .ok (.ireturn, 1) := by decide +kernel
theorem dX10_told_122 : decode cX10_told 122 = .ok (.aload_n 0, 1) := by decide +kernel
theorem dX10_told_123 : decode cX10_told 123 = .ok (.getfield 63, 3) := by decide +kernel
theorem dX10_told_126 : decode cX10_told 126 = .ok (.getfield 154, 3) := by decide +kernel
theorem dX10_told_129 : decode cX10_told 129 = .ok (.iload_n 1, 1) := by decide +kernel
theorem dX10_told_130 : decode cX10_told 130 = .ok (.baload, 1) := by decide +kernel
theorem dX10_told_131 : decode cX10_told 131 = .ok (.ifCond .eq 7, 3) := by decide +kernel
theorem dX10_told_134 : decode cX10_told 134 = .ok (.iconst 1, 1) := by decide +kernel
theorem dX10_told_135 : decode cX10_told 135 = .ok (.goto 4, 3) := by decide +kernel
theorem dX10_told_138 : decode cX10_told 138 = .ok (.iconst 0, 1) := by decide +kernel
theorem dX10_told_139 : decode cX10_told 139 = .ok (.ireturn, 1) := by decide +kernel
theorem dX10_told_140 : decode cX10_told 140 = .ok (.aload_n 0, 1) := by decide +kernel
theorem dX10_told_141 : decode cX10_told 141 = .ok (.getfield 63, 3) := by decide +kernel
theorem dX10_told_144 : decode cX10_told 144 = .ok (.aload_n 0, 1) := by decide +kernel
theorem dX10_told_145 : decode cX10_told 145 = .ok (.getfield 63, 3) := by decide +kernel
theorem dX10_told_148 : decode cX10_told 148 = .ok (.getfield 145, 3) := by decide +kernel
theorem dX10_told_151 : decode cX10_told 151 = .ok (.iload_n 1, 1) := by decide +kernel
theorem dX10_told_152 : decode cX10_told 152 = .ok (.iaload, 1) := by decide +kernel
theorem dX10_told_153 : decode cX10_told 153 = .ok (.invokevirtual 158, 3) := by decide +kernel
theorem dX10_told_156 : decode cX10_told 156 = .ok (.ireturn, 1) := by decide +kernel
theorem dX10_told_157 : decode cX10_told 157 = .ok (.aload_n 0, 1) := by decide +kernel
theorem dX10_told_158 : decode cX10_told 158 = .ok (.getfield 63, 3) := by decide +kernel
theorem dX10_told_161 : decode cX10_told 161 = .ok (.iload_n 1, 1) := by decide +kernel
theorem dX10_told_162 : decode cX10_told 162 = .ok (.invokevirtual 161, 3) := by decide +kernel
theorem dX10_told_165 : decode cX10_told 165 = .ok (.ireturn, 1) := by decide +kernel
theorem dX10_told_166 : decode cX10_told 166 = .ok (.aload_n 0, 1) := by decide +kernel
theorem dX10_told_167 : decode cX10_told 167 = .ok (.getfield 63, 3) := by decide +kernel
theorem dX10_told_170 : decode cX10_told 170 = .ok (.iload_n 1, 1) := by decide +kernel
theorem dX10_told_171 : decode cX10_told 171 = .ok (.invokevirtual 164, 3) := by decide +kernel
theorem dX10_told_174 : decode cX10_told 174 = .ok (.ireturn, 1) := by decide +kernel
theorem dX10_told_175 : decode cX10_told 175 = .ok (.aload_n 0, 1) := by decide +kernel
theorem dX10_told_176 : decode cX10_told 176 = .ok (.getfield 63, 3) := by decide +kernel
theorem dX10_told_179 : decode cX10_told 179 = .ok (.iload_n 1, 1) := by decide +kernel
theorem dX10_told_180 : decode cX10_told 180 = .ok (.invokevirtual 167, 3) := by decide +kernel
theorem dX10_told_183 : decode cX10_told 183 = .ok (.ireturn, 1) := by decide +kernel
theorem dX10_told_184 : decode cX10_told 184 = .ok (.sipush (-7000), 3) := by decide +kernel
theorem dX10_told_187 : decode cX10_told 187 = .ok (.ireturn, 1) := by decide +kernel
def f_X10_told (S : e_S) (l0 : Nat) (l1 : Int32) (l2 : Int32) (g : e_G) : Option (Int32 × e_G) :=
  if e_ob S 10 l0 = true then
    (e_gR S g 10 l0 2).bind fun v1 =>
    (f_X7_has S v1 l1 g).bind fun q4 =>
    if q4.1 = 0 then
      some ((-5000 : Int32), q4.2)
    else
      if l2 = 0 then
        (e_gR S q4.2 10 l0 2).bind fun v6 =>
        (e_gR S q4.2 7 v6 0).bind fun v8 =>
        (e_aI S q4.2 0 v8 l1).bind fun v10 =>
        some (v10, q4.2)
      else
      if l2 = 1 then
        (e_gR S q4.2 10 l0 2).bind fun v13 =>
        (e_gR S q4.2 7 v13 1).bind fun v15 =>
        (e_aI S q4.2 0 v15 l1).bind fun v17 =>
        some (v17, q4.2)
      else
      if l2 = 2 then
        (e_gR S q4.2 10 l0 2).bind fun v20 =>
        (e_gR S q4.2 7 v20 2).bind fun v22 =>
        (e_aI S q4.2 0 v22 l1).bind fun v24 =>
        some (v24, q4.2)
      else
      if l2 = 3 then
        (e_gR S q4.2 10 l0 2).bind fun v27 =>
        (e_gR S q4.2 7 v27 3).bind fun v29 =>
        (e_aI S q4.2 0 v29 l1).bind fun v31 =>
        some (v31, q4.2)
      else
      if l2 = 4 then
        (e_gR S q4.2 10 l0 2).bind fun v34 =>
        (e_gR S q4.2 7 v34 4).bind fun v36 =>
        (e_aI S q4.2 0 v36 l1).bind fun v38 =>
        some (v38, q4.2)
      else
      if l2 = 5 then
        (e_gR S q4.2 10 l0 2).bind fun v41 =>
        (e_gR S q4.2 7 v41 5).bind fun v43 =>
        (e_aI S q4.2 1 v43 l1).bind fun v45 =>
        if v45 = 0 then
          some ((0 : Int32), q4.2)
        else
          some ((1 : Int32), q4.2)
      else
      if l2 = 6 then
        (e_gR S q4.2 10 l0 2).bind fun v48 =>
        (e_gR S q4.2 10 l0 2).bind fun v50 =>
        (e_gR S q4.2 7 v50 1).bind fun v52 =>
        (e_aI S q4.2 0 v52 l1).bind fun v54 =>
        (f_X7_whoIsAt S v48 v54 q4.2).bind fun q57 =>
        some (q57.1, q57.2)
      else
      if l2 = 7 then
        (e_gR S q4.2 10 l0 2).bind fun v59 =>
        (f_X7_leaning S v59 l1 q4.2).bind fun q62 =>
        some (q62.1, q62.2)
      else
      if l2 = 8 then
        (e_gR S q4.2 10 l0 2).bind fun v64 =>
        (f_X7_holding S v64 l1 q4.2).bind fun q67 =>
        some (q67.1, q67.2)
      else
      if l2 = 9 then
        (e_gR S q4.2 10 l0 2).bind fun v69 =>
        (f_X7_minding S v69 l1 q4.2).bind fun q72 =>
        some (q72.1, q72.2)
      else
      some ((-7000 : Int32), q4.2)
  else none
theorem o_X10_told  {S : e_S} {w : Int32} {k : e_G} {l0 : Nat} {l1 : Int32} {l2 : Int32} {g : e_G} (hf : f_X10_told S l0 l1 l2 g = some (w, k)) : e_ob S 10 l0 = true := by
  unfold f_X10_told at hf
  by_cases hc : e_ob S 10 l0 = true
  · exact hc
  · rw [if_neg hc] at hf
    cases hf
theorem c_X10_told {l : Launch} {D : va_G}  {S : e_S} {w : Int32} {k : e_G} {l0 : Nat} {l1 : Int32} {l2 : Int32} {g : e_G} (hf : f_X10_told S l0 l1 l2 g = some (w, k)) : CT l D (e_R 5) M_X10_told [.ref l0, .int l1, .int l2] (S, g) (some (.int w)) (S, k) := by
  refine CT.of (by decide +kernel) (Nat.le_of_ble_eq_true rfl) ?_
  have ho := o_X10_told hf
  unfold f_X10_told at hf
  rw [if_pos ho] at hf
  show X l D (e_R 5) M_X10_told 0 0 0 [(0, .ref l0), (1, .int l1), (2, .int l2)] [] (S, g) (some (.int w)) (S, k)
  refine X.aload_n dX10_told_0 rfl (j := 0) rfl ?_
  obtain ⟨v1, h2, hf⟩ := ob hf
  refine Y.getR dX10_told_1 fl_X10_63 rfl h2 ?_
  refine X.iload_n dX10_told_4 rfl (j := 1) rfl ?_
  obtain ⟨q4, h3, hf⟩ := ob hf
  refine Y.callV (av := [.int l1]) (ci := 7) dX10_told_5 (c_X7_has (l := l) (D := D) (w := q4.1) (k := q4.2) h3) cw_X10_122 (by decide) rfl mk_X7_has (o_X7_has (w := q4.1) (k := q4.2) h3) (e_R_ok (Nat.le_of_ble_eq_true rfl) (Nat.le_of_ble_eq_true rfl)) ⟨rfl, rfl⟩ (by simp [Value.category]) ?_
  refine X.if_ne dX10_told_8 (tgt := 15) rfl (fun hc => ?_) (fun hc => ?_)
  · rw [if_neg hc] at hf
    refine X.iload_n dX10_told_15 rfl (j := 2) rfl ?_
    by_cases h5 : l2 = (0 : Int32)
    · rw [if_pos h5] at hf
      refine X.tableIn dX10_told_16 (by rw [h5]; decide) (by rw [h5]; decide) (off := 56) (tgt := 72) (by rw [h5]; rfl) rfl ?_
      refine X.aload_n dX10_told_72 rfl (j := 0) rfl ?_
      obtain ⟨v6, h7, hf⟩ := ob hf
      refine Y.getR dX10_told_73 fl_X10_63 rfl h7 ?_
      obtain ⟨v8, h9, hf⟩ := ob hf
      refine Y.getR dX10_told_76 fl_X10_136 rfl h9 ?_
      refine X.iload_n dX10_told_79 rfl (j := 1) rfl ?_
      obtain ⟨v10, h11, hf⟩ := ob hf
      refine Y.iald dX10_told_80 h11 ?_
      obtain ⟨e1, e2⟩ := e_ret hf
      subst e1
      subst e2
      exact X.iret dX10_told_81 rfl rfl
    rw [if_neg h5] at hf
    by_cases h12 : l2 = (1 : Int32)
    · rw [if_pos h12] at hf
      refine X.tableIn dX10_told_16 (by rw [h12]; decide) (by rw [h12]; decide) (off := 66) (tgt := 82) (by rw [h12]; rfl) rfl ?_
      refine X.aload_n dX10_told_82 rfl (j := 0) rfl ?_
      obtain ⟨v13, h14, hf⟩ := ob hf
      refine Y.getR dX10_told_83 fl_X10_63 rfl h14 ?_
      obtain ⟨v15, h16, hf⟩ := ob hf
      refine Y.getR dX10_told_86 fl_X10_145 rfl h16 ?_
      refine X.iload_n dX10_told_89 rfl (j := 1) rfl ?_
      obtain ⟨v17, h18, hf⟩ := ob hf
      refine Y.iald dX10_told_90 h18 ?_
      obtain ⟨e1, e2⟩ := e_ret hf
      subst e1
      subst e2
      exact X.iret dX10_told_91 rfl rfl
    rw [if_neg h12] at hf
    by_cases h19 : l2 = (2 : Int32)
    · rw [if_pos h19] at hf
      refine X.tableIn dX10_told_16 (by rw [h19]; decide) (by rw [h19]; decide) (off := 76) (tgt := 92) (by rw [h19]; rfl) rfl ?_
      refine X.aload_n dX10_told_92 rfl (j := 0) rfl ?_
      obtain ⟨v20, h21, hf⟩ := ob hf
      refine Y.getR dX10_told_93 fl_X10_63 rfl h21 ?_
      obtain ⟨v22, h23, hf⟩ := ob hf
      refine Y.getR dX10_told_96 fl_X10_142 rfl h23 ?_
      refine X.iload_n dX10_told_99 rfl (j := 1) rfl ?_
      obtain ⟨v24, h25, hf⟩ := ob hf
      refine Y.iald dX10_told_100 h25 ?_
      obtain ⟨e1, e2⟩ := e_ret hf
      subst e1
      subst e2
      exact X.iret dX10_told_101 rfl rfl
    rw [if_neg h19] at hf
    by_cases h26 : l2 = (3 : Int32)
    · rw [if_pos h26] at hf
      refine X.tableIn dX10_told_16 (by rw [h26]; decide) (by rw [h26]; decide) (off := 86) (tgt := 102) (by rw [h26]; rfl) rfl ?_
      refine X.aload_n dX10_told_102 rfl (j := 0) rfl ?_
      obtain ⟨v27, h28, hf⟩ := ob hf
      refine Y.getR dX10_told_103 fl_X10_63 rfl h28 ?_
      obtain ⟨v29, h30, hf⟩ := ob hf
      refine Y.getR dX10_told_106 fl_X10_148 rfl h30 ?_
      refine X.iload_n dX10_told_109 rfl (j := 1) rfl ?_
      obtain ⟨v31, h32, hf⟩ := ob hf
      refine Y.iald dX10_told_110 h32 ?_
      obtain ⟨e1, e2⟩ := e_ret hf
      subst e1
      subst e2
      exact X.iret dX10_told_111 rfl rfl
    rw [if_neg h26] at hf
    by_cases h33 : l2 = (4 : Int32)
    · rw [if_pos h33] at hf
      refine X.tableIn dX10_told_16 (by rw [h33]; decide) (by rw [h33]; decide) (off := 96) (tgt := 112) (by rw [h33]; rfl) rfl ?_
      refine X.aload_n dX10_told_112 rfl (j := 0) rfl ?_
      obtain ⟨v34, h35, hf⟩ := ob hf
      refine Y.getR dX10_told_113 fl_X10_63 rfl h35 ?_
      obtain ⟨v36, h37, hf⟩ := ob hf
      refine Y.getR dX10_told_116 fl_X10_151 rfl h37 ?_
      refine X.iload_n dX10_told_119 rfl (j := 1) rfl ?_
      obtain ⟨v38, h39, hf⟩ := ob hf
      refine Y.iald dX10_told_120 h39 ?_
      obtain ⟨e1, e2⟩ := e_ret hf
      subst e1
      subst e2
      exact X.iret dX10_told_121 rfl rfl
    rw [if_neg h33] at hf
    by_cases h40 : l2 = (5 : Int32)
    · rw [if_pos h40] at hf
      refine X.tableIn dX10_told_16 (by rw [h40]; decide) (by rw [h40]; decide) (off := 106) (tgt := 122) (by rw [h40]; rfl) rfl ?_
      refine X.aload_n dX10_told_122 rfl (j := 0) rfl ?_
      obtain ⟨v41, h42, hf⟩ := ob hf
      refine Y.getR dX10_told_123 fl_X10_63 rfl h42 ?_
      obtain ⟨v43, h44, hf⟩ := ob hf
      refine Y.getR dX10_told_126 fl_X10_154 rfl h44 ?_
      refine X.iload_n dX10_told_129 rfl (j := 1) rfl ?_
      obtain ⟨v45, h46, hf⟩ := ob hf
      refine Y.zald dX10_told_130 h46 ?_
      refine X.if_eq dX10_told_131 (tgt := 138) rfl (fun hc => ?_) (fun hc => ?_)
      · rw [if_pos hc] at hf
        refine X.iconst dX10_told_138 kI_0 ?_
        obtain ⟨e1, e2⟩ := e_ret hf
        subst e1
        subst e2
        exact X.iret dX10_told_139 rfl rfl
      · rw [if_neg hc] at hf
        refine X.iconst dX10_told_134 kI_1 ?_
        refine X.goto dX10_told_135 (tgt := 139) rfl ?_
        obtain ⟨e1, e2⟩ := e_ret hf
        subst e1
        subst e2
        exact X.iret dX10_told_139 rfl rfl
    rw [if_neg h40] at hf
    by_cases h47 : l2 = (6 : Int32)
    · rw [if_pos h47] at hf
      refine X.tableIn dX10_told_16 (by rw [h47]; decide) (by rw [h47]; decide) (off := 124) (tgt := 140) (by rw [h47]; rfl) rfl ?_
      refine X.aload_n dX10_told_140 rfl (j := 0) rfl ?_
      obtain ⟨v48, h49, hf⟩ := ob hf
      refine Y.getR dX10_told_141 fl_X10_63 rfl h49 ?_
      refine X.aload_n dX10_told_144 rfl (j := 0) rfl ?_
      obtain ⟨v50, h51, hf⟩ := ob hf
      refine Y.getR dX10_told_145 fl_X10_63 rfl h51 ?_
      obtain ⟨v52, h53, hf⟩ := ob hf
      refine Y.getR dX10_told_148 fl_X10_145 rfl h53 ?_
      refine X.iload_n dX10_told_151 rfl (j := 1) rfl ?_
      obtain ⟨v54, h55, hf⟩ := ob hf
      refine Y.iald dX10_told_152 h55 ?_
      obtain ⟨q57, h56, hf⟩ := ob hf
      refine Y.callV (av := [.int v54]) (ci := 7) dX10_told_153 (c_X7_whoIsAt (l := l) (D := D) (w := q57.1) (k := q57.2) h56) cw_X10_158 (by decide) rfl mk_X7_whoIsAt (o_X7_whoIsAt (w := q57.1) (k := q57.2) h56) (e_R_ok (Nat.le_of_ble_eq_true rfl) (Nat.le_of_ble_eq_true rfl)) ⟨rfl, rfl⟩ (by simp [Value.category]) ?_
      obtain ⟨e1, e2⟩ := e_ret hf
      subst e1
      subst e2
      exact X.iret dX10_told_156 rfl rfl
    rw [if_neg h47] at hf
    by_cases h58 : l2 = (7 : Int32)
    · rw [if_pos h58] at hf
      refine X.tableIn dX10_told_16 (by rw [h58]; decide) (by rw [h58]; decide) (off := 141) (tgt := 157) (by rw [h58]; rfl) rfl ?_
      refine X.aload_n dX10_told_157 rfl (j := 0) rfl ?_
      obtain ⟨v59, h60, hf⟩ := ob hf
      refine Y.getR dX10_told_158 fl_X10_63 rfl h60 ?_
      refine X.iload_n dX10_told_161 rfl (j := 1) rfl ?_
      obtain ⟨q62, h61, hf⟩ := ob hf
      refine Y.callV (av := [.int l1]) (ci := 7) dX10_told_162 (c_X7_leaning (l := l) (D := D) (w := q62.1) (k := q62.2) h61) cw_X10_161 (by decide) rfl mk_X7_leaning (o_X7_leaning (w := q62.1) (k := q62.2) h61) (e_R_ok (Nat.le_of_ble_eq_true rfl) (Nat.le_of_ble_eq_true rfl)) ⟨rfl, rfl⟩ (by simp [Value.category]) ?_
      obtain ⟨e1, e2⟩ := e_ret hf
      subst e1
      subst e2
      exact X.iret dX10_told_165 rfl rfl
    rw [if_neg h58] at hf
    by_cases h63 : l2 = (8 : Int32)
    · rw [if_pos h63] at hf
      refine X.tableIn dX10_told_16 (by rw [h63]; decide) (by rw [h63]; decide) (off := 150) (tgt := 166) (by rw [h63]; rfl) rfl ?_
      refine X.aload_n dX10_told_166 rfl (j := 0) rfl ?_
      obtain ⟨v64, h65, hf⟩ := ob hf
      refine Y.getR dX10_told_167 fl_X10_63 rfl h65 ?_
      refine X.iload_n dX10_told_170 rfl (j := 1) rfl ?_
      obtain ⟨q67, h66, hf⟩ := ob hf
      refine Y.callV (av := [.int l1]) (ci := 7) dX10_told_171 (c_X7_holding (l := l) (D := D) (w := q67.1) (k := q67.2) h66) cw_X10_164 (by decide) rfl mk_X7_holding (o_X7_holding (w := q67.1) (k := q67.2) h66) (e_R_ok (Nat.le_of_ble_eq_true rfl) (Nat.le_of_ble_eq_true rfl)) ⟨rfl, rfl⟩ (by simp [Value.category]) ?_
      obtain ⟨e1, e2⟩ := e_ret hf
      subst e1
      subst e2
      exact X.iret dX10_told_174 rfl rfl
    rw [if_neg h63] at hf
    by_cases h68 : l2 = (9 : Int32)
    · rw [if_pos h68] at hf
      refine X.tableIn dX10_told_16 (by rw [h68]; decide) (by rw [h68]; decide) (off := 159) (tgt := 175) (by rw [h68]; rfl) rfl ?_
      refine X.aload_n dX10_told_175 rfl (j := 0) rfl ?_
      obtain ⟨v69, h70, hf⟩ := ob hf
      refine Y.getR dX10_told_176 fl_X10_63 rfl h70 ?_
      refine X.iload_n dX10_told_179 rfl (j := 1) rfl ?_
      obtain ⟨q72, h71, hf⟩ := ob hf
      refine Y.callV (av := [.int l1]) (ci := 7) dX10_told_180 (c_X7_minding (l := l) (D := D) (w := q72.1) (k := q72.2) h71) cw_X10_167 (by decide) rfl mk_X7_minding (o_X7_minding (w := q72.1) (k := q72.2) h71) (e_R_ok (Nat.le_of_ble_eq_true rfl) (Nat.le_of_ble_eq_true rfl)) ⟨rfl, rfl⟩ (by simp [Value.category]) ?_
      obtain ⟨e1, e2⟩ := e_ret hf
      subst e1
      subst e2
      exact X.iret dX10_told_183 rfl rfl
    rw [if_neg h68] at hf
    refine X.tableOut dX10_told_16 (tgt := 184) (by have qh5 := e_ne (z := 0) (by decide) h5; have qh12 := e_ne (z := 1) (by decide) h12; have qh19 := e_ne (z := 2) (by decide) h19; have qh26 := e_ne (z := 3) (by decide) h26; have qh33 := e_ne (z := 4) (by decide) h33; have qh40 := e_ne (z := 5) (by decide) h40; have qh47 := e_ne (z := 6) (by decide) h47; have qh58 := e_ne (z := 7) (by decide) h58; have qh63 := e_ne (z := 8) (by decide) h63; have qh68 := e_ne (z := 9) (by decide) h68; omega) rfl ?_
    refine X.sipush dX10_told_184 kS_m7000 ?_
    obtain ⟨e1, e2⟩ := e_ret hf
    subst e1
    subst e2
    exact X.iret dX10_told_187 rfl rfl
  · rw [if_pos hc] at hf
    refine X.sipush dX10_told_11 kS_m5000 ?_
    obtain ⟨e1, e2⟩ := e_ret hf
    subst e1
    subst e2
    exact X.iret dX10_told_14 rfl rfl
/-! LeanedOut.street(I)I -/
abbrev M_X10_street : e_M := (yX10_street, cX10_street, 2, (some .int))
theorem mk_X10_street : e_Mok M_X10_street 1 := ⟨by decide +kernel, by decide +kernel, by decide +kernel⟩
theorem dX10_street_0 : decode cX10_street 0 = .ok (.iload_n 1, 1) := by decide +kernel
theorem dX10_street_1 : decode cX10_street 1 = .ok (.tableswitch 82 0 4 #[35, 43, 51, 59, 74], 35) := by decide +kernel
theorem dX10_street_36 : decode cX10_street 36 = .ok (.aload_n 0, 1) := by decide +kernel
theorem dX10_street_37 : decode cX10_street 37 = .ok (.getfield 63, 3) := by decide +kernel
theorem dX10_street_40 : decode cX10_street 40 = .ok (.invokevirtual 170, 3) := by decide +kernel
theorem dX10_street_43 : decode cX10_street 43 = .ok (.ireturn, 1) := by decide +kernel
theorem dX10_street_44 : decode cX10_street 44 = .ok (.aload_n 0, 1) := by decide +kernel
theorem dX10_street_45 : decode cX10_street 45 = .ok (.getfield 63, 3) := by decide +kernel
theorem dX10_street_48 : decode cX10_street 48 = .ok (.invokevirtual 173, 3) := by decide +kernel
theorem dX10_street_51 : decode cX10_street 51 = .ok (.ireturn, 1) := by decide +kernel
theorem dX10_street_52 : decode cX10_street 52 = .ok (.aload_n 0, 1) := by decide +kernel
theorem dX10_street_53 : decode cX10_street 53 = .ok (.getfield 63, 3) := by decide +kernel
theorem dX10_street_56 : decode cX10_street 56 = .ok (.invokevirtual 176, 3) := by decide +kernel
theorem dX10_street_59 : decode cX10_street 59 = .ok (.ireturn, 1) := by decide +kernel
theorem dX10_street_60 : decode cX10_street 60 = .ok (.aload_n 0, 1) := by decide +kernel
theorem dX10_street_61 : decode cX10_street 61 = .ok (.getfield 63, 3) := by decide +kernel
theorem dX10_street_64 : decode cX10_street 64 = .ok (.aload_n 0, 1) := by decide +kernel
theorem dX10_street_65 : decode cX10_street 65 = .ok (.getfield 63, 3) := by decide +kernel
theorem dX10_street_68 : decode cX10_street 68 = .ok (.invokevirtual 176, 3) := by decide +kernel
theorem dX10_street_71 : decode cX10_street 71 = .ok (.invokevirtual 179, 3) := by decide +kernel
theorem dX10_street_74 : decode cX10_street 74 = .ok (.ireturn, 1) := by decide +kernel
theorem dX10_street_75 : decode cX10_street 75 = .ok (.aload_n 0, 1) := by decide +kernel
theorem dX10_street_76 : decode cX10_street 76 = .ok (.getfield 63, 3) := by decide +kernel
theorem dX10_street_79 : decode cX10_street 79 = .ok (.invokevirtual 182, 3) := by decide +kernel
theorem dX10_street_82 : decode cX10_street 82 = .ok (.ireturn, 1) := by decide +kernel
theorem dX10_street_83 : decode cX10_street 83 = .ok (.bipush (-2), 2) := by decide +kernel
theorem dX10_street_85 : decode cX10_street 85 = .ok (.ireturn, 1) := by decide +kernel
def f_X10_street (S : e_S) (l0 : Nat) (l1 : Int32) (g : e_G) : Option (Int32 × e_G) :=
  if e_ob S 10 l0 = true then
    if l1 = 0 then
      (e_gR S g 10 l0 2).bind fun v2 =>
      (f_X7_meetings S v2 g).bind fun q5 =>
      some (q5.1, q5.2)
    else
    if l1 = 1 then
      (e_gR S g 10 l0 2).bind fun v7 =>
      (f_X7_crossings S v7 g).bind fun q10 =>
      some (q10.1, q10.2)
    else
    if l1 = 2 then
      (e_gR S g 10 l0 2).bind fun v12 =>
      (f_X7_mostLookedAt S v12 g).bind fun q15 =>
      some (q15.1, q15.2)
    else
    if l1 = 3 then
      (e_gR S g 10 l0 2).bind fun v17 =>
      (e_gR S g 10 l0 2).bind fun v19 =>
      (f_X7_mostLookedAt S v19 g).bind fun q22 =>
      (f_X7_lookers S v17 q22.1 q22.2).bind fun q24 =>
      some (q24.1, q24.2)
    else
    if l1 = 4 then
      (e_gR S g 10 l0 2).bind fun v26 =>
      (f_X7_unseen S v26 g).bind fun q29 =>
      some (q29.1, q29.2)
    else
    some ((-2 : Int32), g)
  else none
theorem o_X10_street  {S : e_S} {w : Int32} {k : e_G} {l0 : Nat} {l1 : Int32} {g : e_G} (hf : f_X10_street S l0 l1 g = some (w, k)) : e_ob S 10 l0 = true := by
  unfold f_X10_street at hf
  by_cases hc : e_ob S 10 l0 = true
  · exact hc
  · rw [if_neg hc] at hf
    cases hf
theorem c_X10_street {l : Launch} {D : va_G}  {S : e_S} {w : Int32} {k : e_G} {l0 : Nat} {l1 : Int32} {g : e_G} (hf : f_X10_street S l0 l1 g = some (w, k)) : CT l D (e_R 4) M_X10_street [.ref l0, .int l1] (S, g) (some (.int w)) (S, k) := by
  refine CT.of (by decide +kernel) (Nat.le_of_ble_eq_true rfl) ?_
  have ho := o_X10_street hf
  unfold f_X10_street at hf
  rw [if_pos ho] at hf
  show X l D (e_R 4) M_X10_street 0 0 0 [(0, .ref l0), (1, .int l1)] [] (S, g) (some (.int w)) (S, k)
  refine X.iload_n dX10_street_0 rfl (j := 1) rfl ?_
  by_cases h1 : l1 = (0 : Int32)
  · rw [if_pos h1] at hf
    refine X.tableIn dX10_street_1 (by rw [h1]; decide) (by rw [h1]; decide) (off := 35) (tgt := 36) (by rw [h1]; rfl) rfl ?_
    refine X.aload_n dX10_street_36 rfl (j := 0) rfl ?_
    obtain ⟨v2, h3, hf⟩ := ob hf
    refine Y.getR dX10_street_37 fl_X10_63 rfl h3 ?_
    obtain ⟨q5, h4, hf⟩ := ob hf
    refine Y.callV (av := []) (ci := 7) dX10_street_40 (c_X7_meetings (l := l) (D := D) (w := q5.1) (k := q5.2) h4) cw_X10_170 (by decide) rfl mk_X7_meetings (o_X7_meetings (w := q5.1) (k := q5.2) h4) (e_R_ok (Nat.le_of_ble_eq_true rfl) (Nat.le_of_ble_eq_true rfl)) ⟨rfl, rfl⟩ (by simp [Value.category]) ?_
    obtain ⟨e1, e2⟩ := e_ret hf
    subst e1
    subst e2
    exact X.iret dX10_street_43 rfl rfl
  rw [if_neg h1] at hf
  by_cases h6 : l1 = (1 : Int32)
  · rw [if_pos h6] at hf
    refine X.tableIn dX10_street_1 (by rw [h6]; decide) (by rw [h6]; decide) (off := 43) (tgt := 44) (by rw [h6]; rfl) rfl ?_
    refine X.aload_n dX10_street_44 rfl (j := 0) rfl ?_
    obtain ⟨v7, h8, hf⟩ := ob hf
    refine Y.getR dX10_street_45 fl_X10_63 rfl h8 ?_
    obtain ⟨q10, h9, hf⟩ := ob hf
    refine Y.callV (av := []) (ci := 7) dX10_street_48 (c_X7_crossings (l := l) (D := D) (w := q10.1) (k := q10.2) h9) cw_X10_173 (by decide) rfl mk_X7_crossings (o_X7_crossings (w := q10.1) (k := q10.2) h9) (e_R_ok (Nat.le_of_ble_eq_true rfl) (Nat.le_of_ble_eq_true rfl)) ⟨rfl, rfl⟩ (by simp [Value.category]) ?_
    obtain ⟨e1, e2⟩ := e_ret hf
    subst e1
    subst e2
    exact X.iret dX10_street_51 rfl rfl
  rw [if_neg h6] at hf
  by_cases h11 : l1 = (2 : Int32)
  · rw [if_pos h11] at hf
    refine X.tableIn dX10_street_1 (by rw [h11]; decide) (by rw [h11]; decide) (off := 51) (tgt := 52) (by rw [h11]; rfl) rfl ?_
    refine X.aload_n dX10_street_52 rfl (j := 0) rfl ?_
    obtain ⟨v12, h13, hf⟩ := ob hf
    refine Y.getR dX10_street_53 fl_X10_63 rfl h13 ?_
    obtain ⟨q15, h14, hf⟩ := ob hf
    refine Y.callV (av := []) (ci := 7) dX10_street_56 (c_X7_mostLookedAt (l := l) (D := D) (w := q15.1) (k := q15.2) h14) cw_X10_176 (by decide) rfl mk_X7_mostLookedAt (o_X7_mostLookedAt (w := q15.1) (k := q15.2) h14) (e_R_ok (Nat.le_of_ble_eq_true rfl) (Nat.le_of_ble_eq_true rfl)) ⟨rfl, rfl⟩ (by simp [Value.category]) ?_
    obtain ⟨e1, e2⟩ := e_ret hf
    subst e1
    subst e2
    exact X.iret dX10_street_59 rfl rfl
  rw [if_neg h11] at hf
  by_cases h16 : l1 = (3 : Int32)
  · rw [if_pos h16] at hf
    refine X.tableIn dX10_street_1 (by rw [h16]; decide) (by rw [h16]; decide) (off := 59) (tgt := 60) (by rw [h16]; rfl) rfl ?_
    refine X.aload_n dX10_street_60 rfl (j := 0) rfl ?_
    obtain ⟨v17, h18, hf⟩ := ob hf
    refine Y.getR dX10_street_61 fl_X10_63 rfl h18 ?_
    refine X.aload_n dX10_street_64 rfl (j := 0) rfl ?_
    obtain ⟨v19, h20, hf⟩ := ob hf
    refine Y.getR dX10_street_65 fl_X10_63 rfl h20 ?_
    obtain ⟨q22, h21, hf⟩ := ob hf
    refine Y.callV (av := []) (ci := 7) dX10_street_68 (c_X7_mostLookedAt (l := l) (D := D) (w := q22.1) (k := q22.2) h21) cw_X10_176 (by decide) rfl mk_X7_mostLookedAt (o_X7_mostLookedAt (w := q22.1) (k := q22.2) h21) (e_R_ok (Nat.le_of_ble_eq_true rfl) (Nat.le_of_ble_eq_true rfl)) ⟨rfl, rfl⟩ (by simp [Value.category]) ?_
    obtain ⟨q24, h23, hf⟩ := ob hf
    refine Y.callV (av := [.int q22.1]) (ci := 7) dX10_street_71 (c_X7_lookers (l := l) (D := D) (w := q24.1) (k := q24.2) h23) cw_X10_179 (by decide) rfl mk_X7_lookers (o_X7_lookers (w := q24.1) (k := q24.2) h23) (e_R_ok (Nat.le_of_ble_eq_true rfl) (Nat.le_of_ble_eq_true rfl)) ⟨rfl, rfl⟩ (by simp [Value.category]) ?_
    obtain ⟨e1, e2⟩ := e_ret hf
    subst e1
    subst e2
    exact X.iret dX10_street_74 rfl rfl
  rw [if_neg h16] at hf
  by_cases h25 : l1 = (4 : Int32)
  · rw [if_pos h25] at hf
    refine X.tableIn dX10_street_1 (by rw [h25]; decide) (by rw [h25]; decide) (off := 74) (tgt := 75) (by rw [h25]; rfl) rfl ?_
    refine X.aload_n dX10_street_75 rfl (j := 0) rfl ?_
    obtain ⟨v26, h27, hf⟩ := ob hf
    refine Y.getR dX10_street_76 fl_X10_63 rfl h27 ?_
    obtain ⟨q29, h28, hf⟩ := ob hf
    refine Y.callV (av := []) (ci := 7) dX10_street_79 (c_X7_unseen (l := l) (D := D) (w := q29.1) (k := q29.2) h28) cw_X10_182 (by decide) rfl mk_X7_unseen (o_X7_unseen (w := q29.1) (k := q29.2) h28) (e_R_ok (Nat.le_of_ble_eq_true rfl) (Nat.le_of_ble_eq_true rfl)) ⟨rfl, rfl⟩ (by simp [Value.category]) ?_
    obtain ⟨e1, e2⟩ := e_ret hf
    subst e1
    subst e2
    exact X.iret dX10_street_82 rfl rfl
  rw [if_neg h25] at hf
  refine X.tableOut dX10_street_1 (tgt := 83) (by have qh1 := e_ne (z := 0) (by decide) h1; have qh6 := e_ne (z := 1) (by decide) h6; have qh11 := e_ne (z := 2) (by decide) h11; have qh16 := e_ne (z := 3) (by decide) h16; have qh25 := e_ne (z := 4) (by decide) h25; omega) rfl ?_
  refine X.bipush dX10_street_83 kB_m2 ?_
  obtain ⟨e1, e2⟩ := e_ret hf
  subst e1
  subst e2
  exact X.iret dX10_street_85 rfl rfl
/-! LeanedOut.chain(I)I -/
abbrev M_X10_chain : e_M := (yX10_chain, cX10_chain, 5, (some .int))
theorem mk_X10_chain : e_Mok M_X10_chain 1 := ⟨by decide +kernel, by decide +kernel, by decide +kernel⟩
theorem dX10_chain_0 : decode cX10_chain 0 = .ok (.aload_n 0, 1) := by decide +kernel
theorem dX10_chain_1 : decode cX10_chain 1 = .ok (.getfield 63, 3) := by decide +kernel
theorem dX10_chain_4 : decode cX10_chain 4 = .ok (.iload_n 1, 1) := by decide +kernel
theorem dX10_chain_5 : decode cX10_chain 5 = .ok (.invokevirtual 122, 3) := by decide +kernel
theorem dX10_chain_8 : decode cX10_chain 8 = .ok (.ifCond .ne 6, 3) := by decide +kernel
theorem dX10_chain_11 : decode cX10_chain 11 = .ok (.bipush (-5), 2) := by decide +kernel
theorem dX10_chain_13 : decode cX10_chain 13 = .ok (.ireturn, 1) := by decide +kernel
theorem dX10_chain_14 : decode cX10_chain 14 = .ok (.iconst 0, 1) := by decide +kernel
theorem dX10_chain_15 : decode cX10_chain 15 = .ok (.istore_n 2, 1) := by decide +kernel
theorem dX10_chain_16 : decode cX10_chain 16 = .ok (.iload_n 1, 1) := by decide +kernel
theorem dX10_chain_17 : decode cX10_chain 17 = .ok (.istore_n 3, 1) := by decide +kernel
theorem dX10_chain_18 : decode cX10_chain 18 = .ok (.iconst 0, 1) := by decide +kernel
theorem dX10_chain_19 : decode cX10_chain 19 = .ok (.istore 4, 2) := by decide +kernel
theorem dX10_chain_21 : decode cX10_chain 21 = .ok (.iload 4, 2) := by decide +kernel
theorem dX10_chain_23 : decode cX10_chain 23 = .ok (.bipush 6, 2) := by decide +kernel
theorem dX10_chain_25 : decode cX10_chain 25 = .ok (.if_icmp .ge 43, 3) := by decide +kernel
theorem dX10_chain_28 : decode cX10_chain 28 = .ok (.aload_n 0, 1) := by decide +kernel
theorem dX10_chain_29 : decode cX10_chain 29 = .ok (.getfield 63, 3) := by decide +kernel
theorem dX10_chain_32 : decode cX10_chain 32 = .ok (.iload_n 3, 1) := by decide +kernel
theorem dX10_chain_33 : decode cX10_chain 33 = .ok (.invokevirtual 122, 3) := by decide +kernel
theorem dX10_chain_36 : decode cX10_chain 36 = .ok (.ifCond .eq 32, 3) := by decide +kernel
theorem dX10_chain_39 : decode cX10_chain 39 = .ok (.iload_n 2, 1) := by decide +kernel
theorem dX10_chain_40 : decode cX10_chain 40 = .ok (.iconst 1, 1) := by decide +kernel
theorem dX10_chain_41 : decode cX10_chain 41 = .ok (.iload_n 3, 1) := by decide +kernel
theorem dX10_chain_42 : decode cX10_chain 42 = .ok (.ishl, 1) := by decide +kernel
theorem dX10_chain_43 : decode cX10_chain 43 = .ok (.ior, 1) := by decide +kernel
theorem dX10_chain_44 : decode cX10_chain 44 = .ok (.istore_n 2, 1) := by decide +kernel
theorem dX10_chain_45 : decode cX10_chain 45 = .ok (.aload_n 0, 1) := by decide +kernel
theorem dX10_chain_46 : decode cX10_chain 46 = .ok (.getfield 63, 3) := by decide +kernel
theorem dX10_chain_49 : decode cX10_chain 49 = .ok (.aload_n 0, 1) := by decide +kernel
theorem dX10_chain_50 : decode cX10_chain 50 = .ok (.getfield 63, 3) := by decide +kernel
theorem dX10_chain_53 : decode cX10_chain 53 = .ok (.getfield 145, 3) := by decide +kernel
theorem dX10_chain_56 : decode cX10_chain 56 = .ok (.iload_n 3, 1) := by decide +kernel
theorem dX10_chain_57 : decode cX10_chain 57 = .ok (.iaload, 1) := by decide +kernel
theorem dX10_chain_58 : decode cX10_chain 58 = .ok (.invokevirtual 158, 3) := by decide +kernel
theorem dX10_chain_61 : decode cX10_chain 61 = .ok (.istore_n 3, 1) := by decide +kernel
theorem dX10_chain_62 : decode cX10_chain 62 = .ok (.iinc 4 1, 3) := by decide +kernel
theorem dX10_chain_65 : decode cX10_chain 65 = .ok (.goto (-44), 3) := by decide +kernel
theorem dX10_chain_68 : decode cX10_chain 68 = .ok (.iload_n 2, 1) := by decide +kernel
theorem dX10_chain_69 : decode cX10_chain 69 = .ok (.ireturn, 1) := by decide +kernel
def L_X10_chain_21 : Nat → e_S → Nat → Int32 → Int32 → Int32 → e_G → Option (Int32 × e_G)
  | 0, _, _, _, _, _, _ => none
  | n + 1, S, l0, l2, l3, l4, g =>
  if (6 : Int32) ≤ l4 then
    some (l2, g)
  else
    (e_gR S g 10 l0 2).bind fun v1 =>
    (f_X7_has S v1 l3 g).bind fun q4 =>
    if q4.1 = 0 then
      some (l2, q4.2)
    else
      (e_gR S q4.2 10 l0 2).bind fun v5 =>
      (e_gR S q4.2 10 l0 2).bind fun v7 =>
      (e_gR S q4.2 7 v7 1).bind fun v9 =>
      (e_aI S q4.2 0 v9 l3).bind fun v11 =>
      (f_X7_whoIsAt S v5 v11 q4.2).bind fun q14 =>
      L_X10_chain_21 n S l0 (l2 ||| ((1 : Int32) <<< (l3 &&& 31))) q14.1 (l4 + (1 : Int32)) q14.2
def f_X10_chain (S : e_S) (l0 : Nat) (l1 : Int32) (g : e_G) : Option (Int32 × e_G) :=
  if e_ob S 10 l0 = true then
    (e_gR S g 10 l0 2).bind fun v1 =>
    (f_X7_has S v1 l1 g).bind fun q4 =>
    if q4.1 = 0 then
      some ((-5 : Int32), q4.2)
    else
      L_X10_chain_21 50000 S l0 (0 : Int32) l1 (0 : Int32) q4.2
  else none
theorem x_L_X10_chain_21 {l : Launch} {D : va_G} {S : e_S} {w : Int32} {k : e_G} : ∀ (n : Nat) (l0 : Nat) (l2 : Int32) (l3 : Int32) (l4 : Int32) (g : e_G), L_X10_chain_21 n S l0 l2 l3 l4 g = some (w, k) → X l D (e_R 2) M_X10_chain 0 0 21 [(0, .ref l0), (2, .int l2), (3, .int l3), (4, .int l4)] [] (S, g) (some (.int w)) (S, k) := by
  intro n
  induction n with
  | zero =>
    intro l0 l2 l3 l4 g hf
    cases hf
  | succ n ih =>
    intro l0 l2 l3 l4 g hf
    rw [L_X10_chain_21] at hf
    refine X.iload dX10_chain_21 (j := 3) rfl ?_
    refine X.bipush dX10_chain_23 kB_6 ?_
    refine X.icmp_ge dX10_chain_25 (tgt := 68) rfl (fun hc => ?_) (fun hc => ?_)
    · rw [if_pos hc] at hf
      refine X.iload_n dX10_chain_68 rfl (j := 1) rfl ?_
      obtain ⟨e1, e2⟩ := e_ret hf
      subst e1
      subst e2
      exact X.iret dX10_chain_69 rfl rfl
    · rw [if_neg hc] at hf
      refine X.aload_n dX10_chain_28 rfl (j := 0) rfl ?_
      obtain ⟨v1, h2, hf⟩ := ob hf
      refine Y.getR dX10_chain_29 fl_X10_63 rfl h2 ?_
      refine X.iload_n dX10_chain_32 rfl (j := 2) rfl ?_
      obtain ⟨q4, h3, hf⟩ := ob hf
      refine Y.callV (av := [.int l3]) (ci := 7) dX10_chain_33 (c_X7_has (l := l) (D := D) (w := q4.1) (k := q4.2) h3) cw_X10_122 (by decide) rfl mk_X7_has (o_X7_has (w := q4.1) (k := q4.2) h3) (e_R_ok (Nat.le_of_ble_eq_true rfl) (Nat.le_of_ble_eq_true rfl)) ⟨rfl, rfl⟩ (by simp [Value.category]) ?_
      refine X.if_eq dX10_chain_36 (tgt := 68) rfl (fun hc => ?_) (fun hc => ?_)
      · rw [if_pos hc] at hf
        refine X.iload_n dX10_chain_68 rfl (j := 1) rfl ?_
        obtain ⟨e1, e2⟩ := e_ret hf
        subst e1
        subst e2
        exact X.iret dX10_chain_69 rfl rfl
      · rw [if_neg hc] at hf
        refine X.iload_n dX10_chain_39 rfl (j := 1) rfl ?_
        refine X.iconst dX10_chain_40 kI_1 ?_
        refine X.iload_n dX10_chain_41 rfl (j := 2) rfl ?_
        refine X.ishl dX10_chain_42 ?_
        refine X.ior dX10_chain_43 ?_
        refine X.istore_n dX10_chain_44 rfl (Nat.le_of_ble_eq_true rfl) (lc' := [(2, .int (l2 ||| ((1 : Int32) <<< (l3 &&& 31)))), (0, .ref l0), (3, .int l3), (4, .int l4)]) rfl ?_
        refine X.aload_n dX10_chain_45 rfl (j := 1) rfl ?_
        obtain ⟨v5, h6, hf⟩ := ob hf
        refine Y.getR dX10_chain_46 fl_X10_63 rfl h6 ?_
        refine X.aload_n dX10_chain_49 rfl (j := 1) rfl ?_
        obtain ⟨v7, h8, hf⟩ := ob hf
        refine Y.getR dX10_chain_50 fl_X10_63 rfl h8 ?_
        obtain ⟨v9, h10, hf⟩ := ob hf
        refine Y.getR dX10_chain_53 fl_X10_145 rfl h10 ?_
        refine X.iload_n dX10_chain_56 rfl (j := 2) rfl ?_
        obtain ⟨v11, h12, hf⟩ := ob hf
        refine Y.iald dX10_chain_57 h12 ?_
        obtain ⟨q14, h13, hf⟩ := ob hf
        refine Y.callV (av := [.int v11]) (ci := 7) dX10_chain_58 (c_X7_whoIsAt (l := l) (D := D) (w := q14.1) (k := q14.2) h13) cw_X10_158 (by decide) rfl mk_X7_whoIsAt (o_X7_whoIsAt (w := q14.1) (k := q14.2) h13) (e_R_ok (Nat.le_of_ble_eq_true rfl) (Nat.le_of_ble_eq_true rfl)) ⟨rfl, rfl⟩ (by simp [Value.category]) ?_
        refine X.istore_n dX10_chain_61 rfl (Nat.le_of_ble_eq_true rfl) (lc' := [(3, .int q14.1), (2, .int (l2 ||| ((1 : Int32) <<< (l3 &&& 31)))), (0, .ref l0), (4, .int l4)]) rfl ?_
        refine X.iinc (j := 3) dX10_chain_62 rfl (v := l4 + (1 : Int32)) (by rw [kI_1]) (Nat.le_of_ble_eq_true rfl) (lc' := [(4, .int (l4 + (1 : Int32))), (3, .int q14.1), (2, .int (l2 ||| ((1 : Int32) <<< (l3 &&& 31)))), (0, .ref l0)]) rfl ?_
        refine X.goto dX10_chain_65 (tgt := 21) rfl ?_
        refine X.sub [3, 2, 1, 0] rfl ?_
        exact ih _ _ _ _ _ hf
theorem o_X10_chain  {S : e_S} {w : Int32} {k : e_G} {l0 : Nat} {l1 : Int32} {g : e_G} (hf : f_X10_chain S l0 l1 g = some (w, k)) : e_ob S 10 l0 = true := by
  unfold f_X10_chain at hf
  by_cases hc : e_ob S 10 l0 = true
  · exact hc
  · rw [if_neg hc] at hf
    cases hf
theorem c_X10_chain {l : Launch} {D : va_G}  {S : e_S} {w : Int32} {k : e_G} {l0 : Nat} {l1 : Int32} {g : e_G} (hf : f_X10_chain S l0 l1 g = some (w, k)) : CT l D (e_R 2) M_X10_chain [.ref l0, .int l1] (S, g) (some (.int w)) (S, k) := by
  refine CT.of (by decide +kernel) (Nat.le_of_ble_eq_true rfl) ?_
  have ho := o_X10_chain hf
  unfold f_X10_chain at hf
  rw [if_pos ho] at hf
  show X l D (e_R 2) M_X10_chain 0 0 0 [(0, .ref l0), (1, .int l1)] [] (S, g) (some (.int w)) (S, k)
  refine X.aload_n dX10_chain_0 rfl (j := 0) rfl ?_
  obtain ⟨v1, h2, hf⟩ := ob hf
  refine Y.getR dX10_chain_1 fl_X10_63 rfl h2 ?_
  refine X.iload_n dX10_chain_4 rfl (j := 1) rfl ?_
  obtain ⟨q4, h3, hf⟩ := ob hf
  refine Y.callV (av := [.int l1]) (ci := 7) dX10_chain_5 (c_X7_has (l := l) (D := D) (w := q4.1) (k := q4.2) h3) cw_X10_122 (by decide) rfl mk_X7_has (o_X7_has (w := q4.1) (k := q4.2) h3) (e_R_ok (Nat.le_of_ble_eq_true rfl) (Nat.le_of_ble_eq_true rfl)) ⟨rfl, rfl⟩ (by simp [Value.category]) ?_
  refine X.if_ne dX10_chain_8 (tgt := 14) rfl (fun hc => ?_) (fun hc => ?_)
  · rw [if_neg hc] at hf
    refine X.iconst dX10_chain_14 kI_0 ?_
    refine X.istore_n dX10_chain_15 rfl (Nat.le_of_ble_eq_true rfl) (lc' := [(2, .int (0 : Int32)), (0, .ref l0), (1, .int l1)]) rfl ?_
    refine X.iload_n dX10_chain_16 rfl (j := 2) rfl ?_
    refine X.istore_n dX10_chain_17 rfl (Nat.le_of_ble_eq_true rfl) (lc' := [(3, .int l1), (2, .int (0 : Int32)), (0, .ref l0), (1, .int l1)]) rfl ?_
    refine X.iconst dX10_chain_18 kI_0 ?_
    refine X.istore dX10_chain_19 (Nat.le_of_ble_eq_true rfl) (lc' := [(4, .int (0 : Int32)), (3, .int l1), (2, .int (0 : Int32)), (0, .ref l0), (1, .int l1)]) rfl ?_
    refine X.sub [3, 2, 1, 0] rfl ?_
    exact x_L_X10_chain_21 50000 _ _ _ _ _ hf
  · rw [if_pos hc] at hf
    refine X.bipush dX10_chain_11 kB_m5 ?_
    obtain ⟨e1, e2⟩ := e_ret hf
    subst e1
    subst e2
    exact X.iret dX10_chain_13 rfl rfl
/-! LeanedOut.day()I -/
abbrev M_X10_day : e_M := (yX10_day, cX10_day, 1, (some .int))
theorem mk_X10_day : e_Mok M_X10_day 0 := ⟨by decide +kernel, by decide +kernel, by decide +kernel⟩
theorem dX10_day_0 : decode cX10_day 0 = .ok (.aload_n 0, 1) := by decide +kernel
theorem dX10_day_1 : decode cX10_day 1 = .ok (.getfield 63, 3) := by decide +kernel
theorem dX10_day_4 : decode cX10_day 4 = .ok (.getfield 105, 3) := by decide +kernel
theorem dX10_day_7 : decode cX10_day 7 = .ok (.sipush 999, 3) := by decide +kernel
theorem dX10_day_10 : decode cX10_day 10 = .ok (.if_icmp .lt 6, 3) := by decide +kernel
theorem dX10_day_13 : decode cX10_day 13 = .ok (.bipush (-3), 2) := by decide +kernel
theorem dX10_day_15 : decode cX10_day 15 = .ok (.ireturn, 1) := by decide +kernel
theorem dX10_day_16 : decode cX10_day 16 = .ok (.aload_n 0, 1) := by decide +kernel
theorem dX10_day_17 : decode cX10_day 17 = .ok (.getfield 63, 3) := by decide +kernel
theorem dX10_day_20 : decode cX10_day 20 = .ok (.invokevirtual 185, 3) := by decide +kernel
theorem dX10_day_23 : decode cX10_day 23 = .ok (.ireturn, 1) := by decide +kernel
def f_X10_day (S : e_S) (l0 : Nat) (g : e_G) : Option (Int32 × e_G) :=
  if e_ob S 10 l0 = true then
    (e_gR S g 10 l0 2).bind fun v1 =>
    (e_gI S g 7 v1 7).bind fun v3 =>
    if v3 < (999 : Int32) then
      (e_gR S g 10 l0 2).bind fun v5 =>
      (f_X7_passDay S v5 g).bind fun q8 =>
      some (q8.1, q8.2)
    else
      some ((-3 : Int32), g)
  else none
theorem o_X10_day  {S : e_S} {w : Int32} {k : e_G} {l0 : Nat} {g : e_G} (hf : f_X10_day S l0 g = some (w, k)) : e_ob S 10 l0 = true := by
  unfold f_X10_day at hf
  by_cases hc : e_ob S 10 l0 = true
  · exact hc
  · rw [if_neg hc] at hf
    cases hf
theorem c_X10_day {l : Launch} {D : va_G}  {S : e_S} {w : Int32} {k : e_G} {l0 : Nat} {g : e_G} (hf : f_X10_day S l0 g = some (w, k)) : CT l D (e_R 6) M_X10_day [.ref l0] (S, g) (some (.int w)) (S, k) := by
  refine CT.of (by decide +kernel) (Nat.le_of_ble_eq_true rfl) ?_
  have ho := o_X10_day hf
  unfold f_X10_day at hf
  rw [if_pos ho] at hf
  show X l D (e_R 6) M_X10_day 0 0 0 [(0, .ref l0)] [] (S, g) (some (.int w)) (S, k)
  refine X.aload_n dX10_day_0 rfl (j := 0) rfl ?_
  obtain ⟨v1, h2, hf⟩ := ob hf
  refine Y.getR dX10_day_1 fl_X10_63 rfl h2 ?_
  obtain ⟨v3, h4, hf⟩ := ob hf
  refine Y.getI dX10_day_4 fl_X10_105 rfl h4 ?_
  refine X.sipush dX10_day_7 kS_999 ?_
  refine X.icmp_lt dX10_day_10 (tgt := 16) rfl (fun hc => ?_) (fun hc => ?_)
  · rw [if_pos hc] at hf
    refine X.aload_n dX10_day_16 rfl (j := 0) rfl ?_
    obtain ⟨v5, h6, hf⟩ := ob hf
    refine Y.getR dX10_day_17 fl_X10_63 rfl h6 ?_
    obtain ⟨q8, h7, hf⟩ := ob hf
    refine Y.callV (av := []) (ci := 7) dX10_day_20 (c_X7_passDay (l := l) (D := D) (w := q8.1) (k := q8.2) h7) cw_X10_185 (by decide) rfl mk_X7_passDay (o_X7_passDay (w := q8.1) (k := q8.2) h7) (e_R_ok (Nat.le_of_ble_eq_true rfl) (Nat.le_of_ble_eq_true rfl)) ⟨rfl, rfl⟩ (by simp [Value.category]) ?_
    obtain ⟨e1, e2⟩ := e_ret hf
    subst e1
    subst e2
    exact X.iret dX10_day_23 rfl rfl
  · rw [if_neg hc] at hf
    refine X.bipush dX10_day_13 kB_m3 ?_
    obtain ⟨e1, e2⟩ := e_ret hf
    subst e1
    subst e2
    exact X.iret dX10_day_15 rfl rfl
/-! LeanedOut.callIn(I)I -/
abbrev M_X10_callIn : e_M := (yX10_callIn, cX10_callIn, 3, (some .int))
theorem mk_X10_callIn : e_Mok M_X10_callIn 1 := ⟨by decide +kernel, by decide +kernel, by decide +kernel⟩
theorem dX10_callIn_0 : decode cX10_callIn 0 = .ok (.aload_n 0, 1) := by decide +kernel
theorem dX10_callIn_1 : decode cX10_callIn 1 = .ok (.getfield 63, 3) := by decide +kernel
theorem dX10_callIn_4 : decode cX10_callIn 4 = .ok (.iload_n 1, 1) := by decide +kernel
theorem dX10_callIn_5 : decode cX10_callIn 5 = .ok (.invokevirtual 122, 3) := by decide +kernel
theorem dX10_callIn_8 : decode cX10_callIn 8 = .ok (.ifCond .ne 6, 3) := by decide +kernel
theorem dX10_callIn_11 : decode cX10_callIn 11 = .ok (.bipush (-5), 2) := by decide +kernel
theorem dX10_callIn_13 : decode cX10_callIn 13 = .ok (.ireturn, 1) := by decide +kernel
theorem dX10_callIn_14 : decode cX10_callIn 14 = .ok (.aload_n 0, 1) := by decide +kernel
theorem dX10_callIn_15 : decode cX10_callIn 15 = .ok (.getfield 63, 3) := by decide +kernel
theorem dX10_callIn_18 : decode cX10_callIn 18 = .ok (.getfield 154, 3) := by decide +kernel
theorem dX10_callIn_21 : decode cX10_callIn 21 = .ok (.iload_n 1, 1) := by decide +kernel
theorem dX10_callIn_22 : decode cX10_callIn 22 = .ok (.baload, 1) := by decide +kernel
theorem dX10_callIn_23 : decode cX10_callIn 23 = .ok (.ifCond .eq 6, 3) := by decide +kernel
theorem dX10_callIn_26 : decode cX10_callIn 26 = .ok (.bipush (-3), 2) := by decide +kernel
theorem dX10_callIn_28 : decode cX10_callIn 28 = .ok (.ireturn, 1) := by decide +kernel
theorem dX10_callIn_29 : decode cX10_callIn 29 = .ok (.aload_n 0, 1) := by decide +kernel
theorem dX10_callIn_30 : decode cX10_callIn 30 = .ok (.getfield 63, 3) := by decide +kernel
theorem dX10_callIn_33 : decode cX10_callIn 33 = .ok (.getfield 142, 3) := by decide +kernel
theorem dX10_callIn_36 : decode cX10_callIn 36 = .ok (.iload_n 1, 1) := by decide +kernel
theorem dX10_callIn_37 : decode cX10_callIn 37 = .ok (.iaload, 1) := by decide +kernel
theorem dX10_callIn_38 : decode cX10_callIn 38 = .ok (.istore_n 2, 1) := by decide +kernel
theorem dX10_callIn_39 : decode cX10_callIn 39 = .ok (.aload_n 0, 1) := by decide +kernel
theorem dX10_callIn_40 : decode cX10_callIn 40 = .ok (.getfield 63, 3) := by decide +kernel
theorem dX10_callIn_43 : decode cX10_callIn 43 = .ok (.getfield 142, 3) := by decide +kernel
theorem dX10_callIn_46 : decode cX10_callIn 46 = .ok (.iload_n 1, 1) := by decide +kernel
theorem dX10_callIn_47 : decode cX10_callIn 47 = .ok (.iconst 0, 1) := by decide +kernel
theorem dX10_callIn_48 : decode cX10_callIn 48 = .ok (.iastore, 1) := by decide +kernel
theorem dX10_callIn_49 : decode cX10_callIn 49 = .ok (.iload_n 2, 1) := by decide +kernel
theorem dX10_callIn_50 : decode cX10_callIn 50 = .ok (.ireturn, 1) := by decide +kernel
def f_X10_callIn (S : e_S) (l0 : Nat) (l1 : Int32) (g : e_G) : Option (Int32 × e_G) :=
  if e_ob S 10 l0 = true then
    (e_gR S g 10 l0 2).bind fun v1 =>
    (f_X7_has S v1 l1 g).bind fun q4 =>
    if q4.1 = 0 then
      some ((-5 : Int32), q4.2)
    else
      (e_gR S q4.2 10 l0 2).bind fun v5 =>
      (e_gR S q4.2 7 v5 5).bind fun v7 =>
      (e_aI S q4.2 1 v7 l1).bind fun v9 =>
      if v9 = 0 then
        (e_gR S q4.2 10 l0 2).bind fun v11 =>
        (e_gR S q4.2 7 v11 2).bind fun v13 =>
        (e_aI S q4.2 0 v13 l1).bind fun v15 =>
        (e_gR S q4.2 10 l0 2).bind fun v17 =>
        (e_gR S q4.2 7 v17 2).bind fun v19 =>
        (e_aS S q4.2 0 v19 l1 (0 : Int32)).bind fun g21 =>
        some (v15, g21)
      else
        some ((-3 : Int32), q4.2)
  else none
theorem o_X10_callIn  {S : e_S} {w : Int32} {k : e_G} {l0 : Nat} {l1 : Int32} {g : e_G} (hf : f_X10_callIn S l0 l1 g = some (w, k)) : e_ob S 10 l0 = true := by
  unfold f_X10_callIn at hf
  by_cases hc : e_ob S 10 l0 = true
  · exact hc
  · rw [if_neg hc] at hf
    cases hf
theorem c_X10_callIn {l : Launch} {D : va_G}  {S : e_S} {w : Int32} {k : e_G} {l0 : Nat} {l1 : Int32} {g : e_G} (hf : f_X10_callIn S l0 l1 g = some (w, k)) : CT l D (e_R 2) M_X10_callIn [.ref l0, .int l1] (S, g) (some (.int w)) (S, k) := by
  refine CT.of (by decide +kernel) (Nat.le_of_ble_eq_true rfl) ?_
  have ho := o_X10_callIn hf
  unfold f_X10_callIn at hf
  rw [if_pos ho] at hf
  show X l D (e_R 2) M_X10_callIn 0 0 0 [(0, .ref l0), (1, .int l1)] [] (S, g) (some (.int w)) (S, k)
  refine X.aload_n dX10_callIn_0 rfl (j := 0) rfl ?_
  obtain ⟨v1, h2, hf⟩ := ob hf
  refine Y.getR dX10_callIn_1 fl_X10_63 rfl h2 ?_
  refine X.iload_n dX10_callIn_4 rfl (j := 1) rfl ?_
  obtain ⟨q4, h3, hf⟩ := ob hf
  refine Y.callV (av := [.int l1]) (ci := 7) dX10_callIn_5 (c_X7_has (l := l) (D := D) (w := q4.1) (k := q4.2) h3) cw_X10_122 (by decide) rfl mk_X7_has (o_X7_has (w := q4.1) (k := q4.2) h3) (e_R_ok (Nat.le_of_ble_eq_true rfl) (Nat.le_of_ble_eq_true rfl)) ⟨rfl, rfl⟩ (by simp [Value.category]) ?_
  refine X.if_ne dX10_callIn_8 (tgt := 14) rfl (fun hc => ?_) (fun hc => ?_)
  · rw [if_neg hc] at hf
    refine X.aload_n dX10_callIn_14 rfl (j := 0) rfl ?_
    obtain ⟨v5, h6, hf⟩ := ob hf
    refine Y.getR dX10_callIn_15 fl_X10_63 rfl h6 ?_
    obtain ⟨v7, h8, hf⟩ := ob hf
    refine Y.getR dX10_callIn_18 fl_X10_154 rfl h8 ?_
    refine X.iload_n dX10_callIn_21 rfl (j := 1) rfl ?_
    obtain ⟨v9, h10, hf⟩ := ob hf
    refine Y.zald dX10_callIn_22 h10 ?_
    refine X.if_eq dX10_callIn_23 (tgt := 29) rfl (fun hc => ?_) (fun hc => ?_)
    · rw [if_pos hc] at hf
      refine X.aload_n dX10_callIn_29 rfl (j := 0) rfl ?_
      obtain ⟨v11, h12, hf⟩ := ob hf
      refine Y.getR dX10_callIn_30 fl_X10_63 rfl h12 ?_
      obtain ⟨v13, h14, hf⟩ := ob hf
      refine Y.getR dX10_callIn_33 fl_X10_142 rfl h14 ?_
      refine X.iload_n dX10_callIn_36 rfl (j := 1) rfl ?_
      obtain ⟨v15, h16, hf⟩ := ob hf
      refine Y.iald dX10_callIn_37 h16 ?_
      refine X.istore_n dX10_callIn_38 rfl (Nat.le_of_ble_eq_true rfl) (lc' := [(2, .int v15), (0, .ref l0), (1, .int l1)]) rfl ?_
      refine X.aload_n dX10_callIn_39 rfl (j := 1) rfl ?_
      obtain ⟨v17, h18, hf⟩ := ob hf
      refine Y.getR dX10_callIn_40 fl_X10_63 rfl h18 ?_
      obtain ⟨v19, h20, hf⟩ := ob hf
      refine Y.getR dX10_callIn_43 fl_X10_142 rfl h20 ?_
      refine X.iload_n dX10_callIn_46 rfl (j := 2) rfl ?_
      refine X.iconst dX10_callIn_47 kI_0 ?_
      obtain ⟨g21, h22, hf⟩ := ob hf
      refine Y.iast dX10_callIn_48 h22 ?_
      refine X.iload_n dX10_callIn_49 rfl (j := 0) rfl ?_
      obtain ⟨e1, e2⟩ := e_ret hf
      subst e1
      subst e2
      exact X.iret dX10_callIn_50 rfl rfl
    · rw [if_neg hc] at hf
      refine X.bipush dX10_callIn_26 kB_m3 ?_
      obtain ⟨e1, e2⟩ := e_ret hf
      subst e1
      subst e2
      exact X.iret dX10_callIn_28 rfl rfl
  · rw [if_pos hc] at hf
    refine X.bipush dX10_callIn_11 kB_m5 ?_
    obtain ⟨e1, e2⟩ := e_ret hf
    subst e1
    subst e2
    exact X.iret dX10_callIn_13 rfl rfl
/-! LeanedOut.crane(II)I -/
abbrev M_X10_crane : e_M := (yX10_crane, cX10_crane, 3, (some .int))
theorem mk_X10_crane : e_Mok M_X10_crane 2 := ⟨by decide +kernel, by decide +kernel, by decide +kernel⟩
theorem dX10_crane_0 : decode cX10_crane 0 = .ok (.aload_n 0, 1) := by decide +kernel
theorem dX10_crane_1 : decode cX10_crane 1 = .ok (.getfield 63, 3) := by decide +kernel
theorem dX10_crane_4 : decode cX10_crane 4 = .ok (.iload_n 1, 1) := by decide +kernel
theorem dX10_crane_5 : decode cX10_crane 5 = .ok (.invokevirtual 122, 3) := by decide +kernel
theorem dX10_crane_8 : decode cX10_crane 8 = .ok (.ifCond .ne 6, 3) := by decide +kernel
theorem dX10_crane_11 : decode cX10_crane 11 = .ok (.bipush (-5), 2) := by decide +kernel
theorem dX10_crane_13 : decode cX10_crane 13 = .ok (.ireturn, 1) := by decide +kernel
theorem dX10_crane_14 : decode cX10_crane 14 = .ok (.aload_n 0, 1) := by decide +kernel
theorem dX10_crane_15 : decode cX10_crane 15 = .ok (.iload_n 1, 1) := by decide +kernel
theorem dX10_crane_16 : decode cX10_crane 16 = .ok (.iload_n 2, 1) := by decide +kernel
theorem dX10_crane_17 : decode cX10_crane 17 = .ok (.invokevirtual 139, 3) := by decide +kernel
theorem dX10_crane_20 : decode cX10_crane 20 = .ok (.ireturn, 1) := by decide +kernel
def f_X10_crane (S : e_S) (l0 : Nat) (l1 : Int32) (l2 : Int32) (g : e_G) : Option (Int32 × e_G) :=
  if e_ob S 10 l0 = true then
    (e_gR S g 10 l0 2).bind fun v1 =>
    (f_X7_has S v1 l1 g).bind fun q4 =>
    if q4.1 = 0 then
      some ((-5 : Int32), q4.2)
    else
      (f_X10_looksAt S l0 l1 l2 q4.2).bind fun q6 =>
      some (q6.1, q6.2)
  else none
theorem o_X10_crane  {S : e_S} {w : Int32} {k : e_G} {l0 : Nat} {l1 : Int32} {l2 : Int32} {g : e_G} (hf : f_X10_crane S l0 l1 l2 g = some (w, k)) : e_ob S 10 l0 = true := by
  unfold f_X10_crane at hf
  by_cases hc : e_ob S 10 l0 = true
  · exact hc
  · rw [if_neg hc] at hf
    cases hf
theorem c_X10_crane {l : Launch} {D : va_G}  {S : e_S} {w : Int32} {k : e_G} {l0 : Nat} {l1 : Int32} {l2 : Int32} {g : e_G} (hf : f_X10_crane S l0 l1 l2 g = some (w, k)) : CT l D (e_R 5) M_X10_crane [.ref l0, .int l1, .int l2] (S, g) (some (.int w)) (S, k) := by
  refine CT.of (by decide +kernel) (Nat.le_of_ble_eq_true rfl) ?_
  have ho := o_X10_crane hf
  unfold f_X10_crane at hf
  rw [if_pos ho] at hf
  show X l D (e_R 5) M_X10_crane 0 0 0 [(0, .ref l0), (1, .int l1), (2, .int l2)] [] (S, g) (some (.int w)) (S, k)
  refine X.aload_n dX10_crane_0 rfl (j := 0) rfl ?_
  obtain ⟨v1, h2, hf⟩ := ob hf
  refine Y.getR dX10_crane_1 fl_X10_63 rfl h2 ?_
  refine X.iload_n dX10_crane_4 rfl (j := 1) rfl ?_
  obtain ⟨q4, h3, hf⟩ := ob hf
  refine Y.callV (av := [.int l1]) (ci := 7) dX10_crane_5 (c_X7_has (l := l) (D := D) (w := q4.1) (k := q4.2) h3) cw_X10_122 (by decide) rfl mk_X7_has (o_X7_has (w := q4.1) (k := q4.2) h3) (e_R_ok (Nat.le_of_ble_eq_true rfl) (Nat.le_of_ble_eq_true rfl)) ⟨rfl, rfl⟩ (by simp [Value.category]) ?_
  refine X.if_ne dX10_crane_8 (tgt := 14) rfl (fun hc => ?_) (fun hc => ?_)
  · rw [if_neg hc] at hf
    refine X.aload_n dX10_crane_14 rfl (j := 0) rfl ?_
    refine X.iload_n dX10_crane_15 rfl (j := 1) rfl ?_
    refine X.iload_n dX10_crane_16 rfl (j := 2) rfl ?_
    obtain ⟨q6, h5, hf⟩ := ob hf
    refine Y.callV (av := [.int l1, .int l2]) (ci := 10) dX10_crane_17 (c_X10_looksAt (l := l) (D := D) (w := q6.1) (k := q6.2) h5) cw_X10_139 (by decide) rfl mk_X10_looksAt (o_X10_looksAt (w := q6.1) (k := q6.2) h5) (e_R_ok (Nat.le_of_ble_eq_true rfl) (Nat.le_of_ble_eq_true rfl)) ⟨rfl, rfl⟩ (by simp [Value.category]) ?_
    obtain ⟨e1, e2⟩ := e_ret hf
    subst e1
    subst e2
    exact X.iret dX10_crane_20 rfl rfl
  · rw [if_pos hc] at hf
    refine X.bipush dX10_crane_11 kB_m5 ?_
    obtain ⟨e1, e2⟩ := e_ret hf
    subst e1
    subst e2
    exact X.iret dX10_crane_13 rfl rfl
