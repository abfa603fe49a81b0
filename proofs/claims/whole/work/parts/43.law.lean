
theorem ww_456 : Cond.methodLink "LeanedOutLaw" 13 yX10_count ∈ e_big := bw (i := 456) (by decide +kernel) rfl
theorem ww_457 : Cond.instanceMethod yX10_count ∈ e_big := bw (i := 457) (by decide +kernel) rfl
theorem ww_458 : Cond.selects RX10 yX10_count yX10_count ∈ e_big := bw (i := 458) (by decide +kernel) rfl
theorem ww_459 : Cond.code yX10_count cX10_count 2 (some .int) ∈ e_big := bw (i := 459) (by decide +kernel) rfl
theorem cw_L_13 : ∀ w ∈ wsV "LeanedOutLaw" 13 RX10 yX10_count [Cond.code yX10_count cX10_count 2 (some .int)], w ∈ e_big := e_all5 ww_456 ww_457 ww_458 ww_73 ww_459
theorem ww_1067 : Cond.methodLink "LeanedOutLaw" 17 yX11_count ∈ e_big := bw (i := 1067) (by decide +kernel) rfl
theorem ww_1068 : Cond.instanceMethod yX11_count ∈ e_big := bw (i := 1068) (by decide +kernel) rfl
theorem ww_1069 : Cond.selects RX11 yX11_count yX11_count ∈ e_big := bw (i := 1069) (by decide +kernel) rfl
theorem ww_1070 : Cond.code yX11_count cX11_count 2 (some .int) ∈ e_big := bw (i := 1070) (by decide +kernel) rfl
theorem cw_L_17 : ∀ w ∈ wsV "LeanedOutLaw" 17 RX11 yX11_count [Cond.code yX11_count cX11_count 2 (some .int)], w ∈ e_big := e_all5 ww_1067 ww_1068 ww_1069 ww_89 ww_1070
theorem ww_470 : Cond.methodLink "LeanedOutLaw" 18 yX10_dawn ∈ e_big := bw (i := 470) (by decide +kernel) rfl
theorem ww_471 : Cond.instanceMethod yX10_dawn ∈ e_big := bw (i := 471) (by decide +kernel) rfl
theorem ww_472 : Cond.selects RX10 yX10_dawn yX10_dawn ∈ e_big := bw (i := 472) (by decide +kernel) rfl
theorem ww_473 : Cond.code yX10_dawn cX10_dawn 3 (some .int) ∈ e_big := bw (i := 473) (by decide +kernel) rfl
theorem cw_L_18 : ∀ w ∈ wsV "LeanedOutLaw" 18 RX10 yX10_dawn [Cond.code yX10_dawn cX10_dawn 3 (some .int)], w ∈ e_big := e_all5 ww_470 ww_471 ww_472 ww_73 ww_473
theorem ww_1078 : Cond.methodLink "LeanedOutLaw" 21 yX11_dawn ∈ e_big := bw (i := 1078) (by decide +kernel) rfl
theorem ww_1079 : Cond.instanceMethod yX11_dawn ∈ e_big := bw (i := 1079) (by decide +kernel) rfl
theorem ww_1080 : Cond.selects RX11 yX11_dawn yX11_dawn ∈ e_big := bw (i := 1080) (by decide +kernel) rfl
theorem ww_1081 : Cond.code yX11_dawn cX11_dawn 3 (some .int) ∈ e_big := bw (i := 1081) (by decide +kernel) rfl
theorem cw_L_21 : ∀ w ∈ wsV "LeanedOutLaw" 21 RX11 yX11_dawn [Cond.code yX11_dawn cX11_dawn 3 (some .int)], w ∈ e_big := e_all5 ww_1078 ww_1079 ww_1080 ww_89 ww_1081
theorem ww_474 : Cond.methodLink "LeanedOutLaw" 22 yX10_feed ∈ e_big := bw (i := 474) (by decide +kernel) rfl
theorem ww_475 : Cond.instanceMethod yX10_feed ∈ e_big := bw (i := 475) (by decide +kernel) rfl
theorem ww_476 : Cond.selects RX10 yX10_feed yX10_feed ∈ e_big := bw (i := 476) (by decide +kernel) rfl
theorem ww_477 : Cond.code yX10_feed cX10_feed 7 (some .int) ∈ e_big := bw (i := 477) (by decide +kernel) rfl
theorem cw_L_22 : ∀ w ∈ wsV "LeanedOutLaw" 22 RX10 yX10_feed [Cond.code yX10_feed cX10_feed 7 (some .int)], w ∈ e_big := e_all5 ww_474 ww_475 ww_476 ww_73 ww_477
theorem ww_1082 : Cond.methodLink "LeanedOutLaw" 26 yX11_feed ∈ e_big := bw (i := 1082) (by decide +kernel) rfl
theorem ww_1083 : Cond.instanceMethod yX11_feed ∈ e_big := bw (i := 1083) (by decide +kernel) rfl
theorem ww_1084 : Cond.selects RX11 yX11_feed yX11_feed ∈ e_big := bw (i := 1084) (by decide +kernel) rfl
theorem ww_1085 : Cond.code yX11_feed cX11_feed 8 (some .int) ∈ e_big := bw (i := 1085) (by decide +kernel) rfl
theorem cw_L_26 : ∀ w ∈ wsV "LeanedOutLaw" 26 RX11 yX11_feed [Cond.code yX11_feed cX11_feed 8 (some .int)], w ∈ e_big := e_all5 ww_1082 ww_1083 ww_1084 ww_89 ww_1085
theorem ww_485 : Cond.methodLink "LeanedOutLaw" 27 yX10_text ∈ e_big := bw (i := 485) (by decide +kernel) rfl
theorem ww_486 : Cond.instanceMethod yX10_text ∈ e_big := bw (i := 486) (by decide +kernel) rfl
theorem ww_487 : Cond.selects RX10 yX10_text yX10_text ∈ e_big := bw (i := 487) (by decide +kernel) rfl
theorem ww_488 : Cond.code yX10_text cX10_text 2 (some .int) ∈ e_big := bw (i := 488) (by decide +kernel) rfl
theorem cw_L_27 : ∀ w ∈ wsV "LeanedOutLaw" 27 RX10 yX10_text [Cond.code yX10_text cX10_text 2 (some .int)], w ∈ e_big := e_all5 ww_485 ww_486 ww_487 ww_73 ww_488
theorem ww_1089 : Cond.methodLink "LeanedOutLaw" 31 yX11_text ∈ e_big := bw (i := 1089) (by decide +kernel) rfl
theorem cw_L_31 : ∀ w ∈ wsV "LeanedOutLaw" 31 RX11 yX11_text [Cond.code yX11_text cX11_text 3 (some .int)], w ∈ e_big := e_all5 ww_1089 ww_915 ww_916 ww_89 ww_917
theorem ww_489 : Cond.methodLink "LeanedOutLaw" 32 yX10_force ∈ e_big := bw (i := 489) (by decide +kernel) rfl
theorem ww_490 : Cond.instanceMethod yX10_force ∈ e_big := bw (i := 490) (by decide +kernel) rfl
theorem ww_491 : Cond.selects RX10 yX10_force yX10_force ∈ e_big := bw (i := 491) (by decide +kernel) rfl
theorem ww_492 : Cond.code yX10_force cX10_force 3 (some .int) ∈ e_big := bw (i := 492) (by decide +kernel) rfl
theorem cw_L_32 : ∀ w ∈ wsV "LeanedOutLaw" 32 RX10 yX10_force [Cond.code yX10_force cX10_force 3 (some .int)], w ∈ e_big := e_all5 ww_489 ww_490 ww_491 ww_73 ww_492
theorem ww_1090 : Cond.methodLink "LeanedOutLaw" 35 yX11_force ∈ e_big := bw (i := 1090) (by decide +kernel) rfl
theorem ww_1091 : Cond.instanceMethod yX11_force ∈ e_big := bw (i := 1091) (by decide +kernel) rfl
theorem ww_1092 : Cond.selects RX11 yX11_force yX11_force ∈ e_big := bw (i := 1092) (by decide +kernel) rfl
theorem ww_1093 : Cond.code yX11_force cX11_force 3 (some .int) ∈ e_big := bw (i := 1093) (by decide +kernel) rfl
theorem cw_L_35 : ∀ w ∈ wsV "LeanedOutLaw" 35 RX11 yX11_force [Cond.code yX11_force cX11_force 3 (some .int)], w ∈ e_big := e_all5 ww_1090 ww_1091 ww_1092 ww_89 ww_1093
theorem ww_493 : Cond.methodLink "LeanedOutLaw" 36 yX10_asks ∈ e_big := bw (i := 493) (by decide +kernel) rfl
theorem ww_494 : Cond.instanceMethod yX10_asks ∈ e_big := bw (i := 494) (by decide +kernel) rfl
theorem ww_495 : Cond.selects RX10 yX10_asks yX10_asks ∈ e_big := bw (i := 495) (by decide +kernel) rfl
theorem ww_496 : Cond.code yX10_asks cX10_asks 3 (some .int) ∈ e_big := bw (i := 496) (by decide +kernel) rfl
theorem cw_L_36 : ∀ w ∈ wsV "LeanedOutLaw" 36 RX10 yX10_asks [Cond.code yX10_asks cX10_asks 3 (some .int)], w ∈ e_big := e_all5 ww_493 ww_494 ww_495 ww_73 ww_496
theorem ww_1094 : Cond.methodLink "LeanedOutLaw" 40 yX11_asks ∈ e_big := bw (i := 1094) (by decide +kernel) rfl
theorem ww_1095 : Cond.instanceMethod yX11_asks ∈ e_big := bw (i := 1095) (by decide +kernel) rfl
theorem ww_1096 : Cond.selects RX11 yX11_asks yX11_asks ∈ e_big := bw (i := 1096) (by decide +kernel) rfl
theorem ww_1097 : Cond.code yX11_asks cX11_asks 3 (some .int) ∈ e_big := bw (i := 1097) (by decide +kernel) rfl
theorem cw_L_40 : ∀ w ∈ wsV "LeanedOutLaw" 40 RX11 yX11_asks [Cond.code yX11_asks cX11_asks 3 (some .int)], w ∈ e_big := e_all5 ww_1094 ww_1095 ww_1096 ww_89 ww_1097
theorem ww_540 : Cond.methodLink "LeanedOutLaw" 41 yX10_person ∈ e_big := bw (i := 540) (by decide +kernel) rfl
theorem ww_541 : Cond.instanceMethod yX10_person ∈ e_big := bw (i := 541) (by decide +kernel) rfl
theorem ww_542 : Cond.selects RX10 yX10_person yX10_person ∈ e_big := bw (i := 542) (by decide +kernel) rfl
theorem ww_543 : Cond.code yX10_person cX10_person 3 (some .int) ∈ e_big := bw (i := 543) (by decide +kernel) rfl
theorem cw_L_41 : ∀ w ∈ wsV "LeanedOutLaw" 41 RX10 yX10_person [Cond.code yX10_person cX10_person 3 (some .int)], w ∈ e_big := e_all5 ww_540 ww_541 ww_542 ww_73 ww_543
theorem ww_1127 : Cond.methodLink "LeanedOutLaw" 44 yX11_person ∈ e_big := bw (i := 1127) (by decide +kernel) rfl
theorem cw_L_44 : ∀ w ∈ wsV "LeanedOutLaw" 44 RX11 yX11_person [Cond.code yX11_person cX11_person 4 (some .int)], w ∈ e_big := e_all5 ww_1127 ww_1128 ww_1129 ww_89 ww_1130
theorem ww_558 : Cond.methodLink "LeanedOutLaw" 45 yX10_put ∈ e_big := bw (i := 558) (by decide +kernel) rfl
theorem ww_559 : Cond.instanceMethod yX10_put ∈ e_big := bw (i := 559) (by decide +kernel) rfl
theorem ww_560 : Cond.selects RX10 yX10_put yX10_put ∈ e_big := bw (i := 560) (by decide +kernel) rfl
theorem ww_561 : Cond.code yX10_put cX10_put 5 (some .int) ∈ e_big := bw (i := 561) (by decide +kernel) rfl
theorem cw_L_45 : ∀ w ∈ wsV "LeanedOutLaw" 45 RX10 yX10_put [Cond.code yX10_put cX10_put 5 (some .int)], w ∈ e_big := e_all5 ww_558 ww_559 ww_560 ww_73 ww_561
theorem ww_1138 : Cond.methodLink "LeanedOutLaw" 49 yX11_put ∈ e_big := bw (i := 1138) (by decide +kernel) rfl
theorem ww_1139 : Cond.instanceMethod yX11_put ∈ e_big := bw (i := 1139) (by decide +kernel) rfl
theorem ww_1140 : Cond.selects RX11 yX11_put yX11_put ∈ e_big := bw (i := 1140) (by decide +kernel) rfl
theorem ww_1141 : Cond.code yX11_put cX11_put 6 (some .int) ∈ e_big := bw (i := 1141) (by decide +kernel) rfl
theorem cw_L_49 : ∀ w ∈ wsV "LeanedOutLaw" 49 RX11 yX11_put [Cond.code yX11_put cX11_put 6 (some .int)], w ∈ e_big := e_all5 ww_1138 ww_1139 ww_1140 ww_89 ww_1141
theorem ww_576 : Cond.methodLink "LeanedOutLaw" 50 yX10_told ∈ e_big := bw (i := 576) (by decide +kernel) rfl
theorem ww_577 : Cond.instanceMethod yX10_told ∈ e_big := bw (i := 577) (by decide +kernel) rfl
theorem ww_578 : Cond.selects RX10 yX10_told yX10_told ∈ e_big := bw (i := 578) (by decide +kernel) rfl
theorem ww_579 : Cond.code yX10_told cX10_told 3 (some .int) ∈ e_big := bw (i := 579) (by decide +kernel) rfl
theorem cw_L_50 : ∀ w ∈ wsV "LeanedOutLaw" 50 RX10 yX10_told [Cond.code yX10_told cX10_told 3 (some .int)], w ∈ e_big := e_all5 ww_576 ww_577 ww_578 ww_73 ww_579
theorem ww_1146 : Cond.methodLink "LeanedOutLaw" 53 yX11_told ∈ e_big := bw (i := 1146) (by decide +kernel) rfl
theorem ww_1147 : Cond.instanceMethod yX11_told ∈ e_big := bw (i := 1147) (by decide +kernel) rfl
theorem ww_1148 : Cond.selects RX11 yX11_told yX11_told ∈ e_big := bw (i := 1148) (by decide +kernel) rfl
theorem ww_1149 : Cond.code yX11_told cX11_told 3 (some .int) ∈ e_big := bw (i := 1149) (by decide +kernel) rfl
theorem cw_L_53 : ∀ w ∈ wsV "LeanedOutLaw" 53 RX11 yX11_told [Cond.code yX11_told cX11_told 3 (some .int)], w ∈ e_big := e_all5 ww_1146 ww_1147 ww_1148 ww_89 ww_1149
theorem ww_662 : Cond.methodLink "LeanedOutLaw" 54 yX10_street ∈ e_big := bw (i := 662) (by decide +kernel) rfl
theorem ww_663 : Cond.instanceMethod yX10_street ∈ e_big := bw (i := 663) (by decide +kernel) rfl
theorem ww_664 : Cond.selects RX10 yX10_street yX10_street ∈ e_big := bw (i := 664) (by decide +kernel) rfl
theorem ww_665 : Cond.code yX10_street cX10_street 2 (some .int) ∈ e_big := bw (i := 665) (by decide +kernel) rfl
theorem cw_L_54 : ∀ w ∈ wsV "LeanedOutLaw" 54 RX10 yX10_street [Cond.code yX10_street cX10_street 2 (some .int)], w ∈ e_big := e_all5 ww_662 ww_663 ww_664 ww_73 ww_665
theorem ww_1166 : Cond.methodLink "LeanedOutLaw" 57 yX11_street ∈ e_big := bw (i := 1166) (by decide +kernel) rfl
theorem ww_1167 : Cond.instanceMethod yX11_street ∈ e_big := bw (i := 1167) (by decide +kernel) rfl
theorem ww_1168 : Cond.selects RX11 yX11_street yX11_street ∈ e_big := bw (i := 1168) (by decide +kernel) rfl
theorem ww_1169 : Cond.code yX11_street cX11_street 2 (some .int) ∈ e_big := bw (i := 1169) (by decide +kernel) rfl
theorem cw_L_57 : ∀ w ∈ wsV "LeanedOutLaw" 57 RX11 yX11_street [Cond.code yX11_street cX11_street 2 (some .int)], w ∈ e_big := e_all5 ww_1166 ww_1167 ww_1168 ww_89 ww_1169
theorem ww_690 : Cond.methodLink "LeanedOutLaw" 58 yX10_chain ∈ e_big := bw (i := 690) (by decide +kernel) rfl
theorem ww_691 : Cond.instanceMethod yX10_chain ∈ e_big := bw (i := 691) (by decide +kernel) rfl
theorem ww_692 : Cond.selects RX10 yX10_chain yX10_chain ∈ e_big := bw (i := 692) (by decide +kernel) rfl
theorem ww_693 : Cond.code yX10_chain cX10_chain 5 (some .int) ∈ e_big := bw (i := 693) (by decide +kernel) rfl
theorem cw_L_58 : ∀ w ∈ wsV "LeanedOutLaw" 58 RX10 yX10_chain [Cond.code yX10_chain cX10_chain 5 (some .int)], w ∈ e_big := e_all5 ww_690 ww_691 ww_692 ww_73 ww_693
theorem ww_1190 : Cond.methodLink "LeanedOutLaw" 61 yX11_chain ∈ e_big := bw (i := 1190) (by decide +kernel) rfl
theorem ww_1191 : Cond.instanceMethod yX11_chain ∈ e_big := bw (i := 1191) (by decide +kernel) rfl
theorem ww_1192 : Cond.selects RX11 yX11_chain yX11_chain ∈ e_big := bw (i := 1192) (by decide +kernel) rfl
theorem ww_1193 : Cond.code yX11_chain cX11_chain 4 (some .int) ∈ e_big := bw (i := 1193) (by decide +kernel) rfl
theorem cw_L_61 : ∀ w ∈ wsV "LeanedOutLaw" 61 RX11 yX11_chain [Cond.code yX11_chain cX11_chain 4 (some .int)], w ∈ e_big := e_all5 ww_1190 ww_1191 ww_1192 ww_89 ww_1193
theorem ww_694 : Cond.methodLink "LeanedOutLaw" 62 yX10_day ∈ e_big := bw (i := 694) (by decide +kernel) rfl
theorem ww_695 : Cond.instanceMethod yX10_day ∈ e_big := bw (i := 695) (by decide +kernel) rfl
theorem ww_696 : Cond.selects RX10 yX10_day yX10_day ∈ e_big := bw (i := 696) (by decide +kernel) rfl
theorem ww_697 : Cond.code yX10_day cX10_day 1 (some .int) ∈ e_big := bw (i := 697) (by decide +kernel) rfl
theorem cw_L_62 : ∀ w ∈ wsV "LeanedOutLaw" 62 RX10 yX10_day [Cond.code yX10_day cX10_day 1 (some .int)], w ∈ e_big := e_all5 ww_694 ww_695 ww_696 ww_73 ww_697
theorem ww_1194 : Cond.methodLink "LeanedOutLaw" 65 yX11_day ∈ e_big := bw (i := 1194) (by decide +kernel) rfl
theorem ww_1195 : Cond.instanceMethod yX11_day ∈ e_big := bw (i := 1195) (by decide +kernel) rfl
theorem ww_1196 : Cond.selects RX11 yX11_day yX11_day ∈ e_big := bw (i := 1196) (by decide +kernel) rfl
theorem ww_1197 : Cond.code yX11_day cX11_day 1 (some .int) ∈ e_big := bw (i := 1197) (by decide +kernel) rfl
theorem cw_L_65 : ∀ w ∈ wsV "LeanedOutLaw" 65 RX11 yX11_day [Cond.code yX11_day cX11_day 1 (some .int)], w ∈ e_big := e_all5 ww_1194 ww_1195 ww_1196 ww_89 ww_1197
theorem ww_704 : Cond.methodLink "LeanedOutLaw" 66 yX10_callIn ∈ e_big := bw (i := 704) (by decide +kernel) rfl
theorem ww_705 : Cond.instanceMethod yX10_callIn ∈ e_big := bw (i := 705) (by decide +kernel) rfl
theorem ww_706 : Cond.selects RX10 yX10_callIn yX10_callIn ∈ e_big := bw (i := 706) (by decide +kernel) rfl
theorem ww_707 : Cond.code yX10_callIn cX10_callIn 3 (some .int) ∈ e_big := bw (i := 707) (by decide +kernel) rfl
theorem cw_L_66 : ∀ w ∈ wsV "LeanedOutLaw" 66 RX10 yX10_callIn [Cond.code yX10_callIn cX10_callIn 3 (some .int)], w ∈ e_big := e_all5 ww_704 ww_705 ww_706 ww_73 ww_707
theorem ww_1202 : Cond.methodLink "LeanedOutLaw" 69 yX11_callIn ∈ e_big := bw (i := 1202) (by decide +kernel) rfl
theorem ww_1203 : Cond.instanceMethod yX11_callIn ∈ e_big := bw (i := 1203) (by decide +kernel) rfl
theorem ww_1204 : Cond.selects RX11 yX11_callIn yX11_callIn ∈ e_big := bw (i := 1204) (by decide +kernel) rfl
theorem ww_1205 : Cond.code yX11_callIn cX11_callIn 3 (some .int) ∈ e_big := bw (i := 1205) (by decide +kernel) rfl
theorem cw_L_69 : ∀ w ∈ wsV "LeanedOutLaw" 69 RX11 yX11_callIn [Cond.code yX11_callIn cX11_callIn 3 (some .int)], w ∈ e_big := e_all5 ww_1202 ww_1203 ww_1204 ww_89 ww_1205
theorem ww_708 : Cond.methodLink "LeanedOutLaw" 70 yX10_crane ∈ e_big := bw (i := 708) (by decide +kernel) rfl
theorem ww_709 : Cond.instanceMethod yX10_crane ∈ e_big := bw (i := 709) (by decide +kernel) rfl
theorem ww_710 : Cond.selects RX10 yX10_crane yX10_crane ∈ e_big := bw (i := 710) (by decide +kernel) rfl
theorem ww_711 : Cond.code yX10_crane cX10_crane 3 (some .int) ∈ e_big := bw (i := 711) (by decide +kernel) rfl
theorem cw_L_70 : ∀ w ∈ wsV "LeanedOutLaw" 70 RX10 yX10_crane [Cond.code yX10_crane cX10_crane 3 (some .int)], w ∈ e_big := e_all5 ww_708 ww_709 ww_710 ww_73 ww_711
theorem ww_1206 : Cond.methodLink "LeanedOutLaw" 73 yX11_crane ∈ e_big := bw (i := 1206) (by decide +kernel) rfl
theorem ww_1207 : Cond.instanceMethod yX11_crane ∈ e_big := bw (i := 1207) (by decide +kernel) rfl
theorem ww_1208 : Cond.selects RX11 yX11_crane yX11_crane ∈ e_big := bw (i := 1208) (by decide +kernel) rfl
theorem ww_1209 : Cond.code yX11_crane cX11_crane 4 (some .int) ∈ e_big := bw (i := 1209) (by decide +kernel) rfl
theorem cw_L_73 : ∀ w ∈ wsV "LeanedOutLaw" 73 RX11 yX11_crane [Cond.code yX11_crane cX11_crane 4 (some .int)], w ∈ e_big := e_all5 ww_1206 ww_1207 ww_1208 ww_89 ww_1209
theorem ww_712 : Cond.methodLink "LeanedOutLaw" 74 yX10_run ∈ e_big := bw (i := 712) (by decide +kernel) rfl
theorem ww_713 : Cond.instanceMethod yX10_run ∈ e_big := bw (i := 713) (by decide +kernel) rfl
theorem ww_714 : Cond.selects RX10 yX10_run yX10_run ∈ e_big := bw (i := 714) (by decide +kernel) rfl
theorem ww_715 : Cond.code yX10_run cX10_run 6 (some .int) ∈ e_big := bw (i := 715) (by decide +kernel) rfl
theorem cw_L_74 : ∀ w ∈ wsV "LeanedOutLaw" 74 RX10 yX10_run [Cond.code yX10_run cX10_run 6 (some .int)], w ∈ e_big := e_all5 ww_712 ww_713 ww_714 ww_73 ww_715
theorem ww_1210 : Cond.methodLink "LeanedOutLaw" 77 yX11_run ∈ e_big := bw (i := 1210) (by decide +kernel) rfl
theorem ww_1211 : Cond.instanceMethod yX11_run ∈ e_big := bw (i := 1211) (by decide +kernel) rfl
theorem ww_1212 : Cond.selects RX11 yX11_run yX11_run ∈ e_big := bw (i := 1212) (by decide +kernel) rfl
theorem ww_1213 : Cond.code yX11_run cX11_run 5 (some .int) ∈ e_big := bw (i := 1213) (by decide +kernel) rfl
theorem cw_L_77 : ∀ w ∈ wsV "LeanedOutLaw" 77 RX11 yX11_run [Cond.code yX11_run cX11_run 5 (some .int)], w ∈ e_big := e_all5 ww_1210 ww_1211 ww_1212 ww_89 ww_1213
theorem ww_730 : Cond.methodLink "LeanedOutLaw" 78 yX10_keeps ∈ e_big := bw (i := 730) (by decide +kernel) rfl
theorem ww_731 : Cond.instanceMethod yX10_keeps ∈ e_big := bw (i := 731) (by decide +kernel) rfl
theorem ww_732 : Cond.selects RX10 yX10_keeps yX10_keeps ∈ e_big := bw (i := 732) (by decide +kernel) rfl
theorem ww_733 : Cond.code yX10_keeps cX10_keeps 3 (some .int) ∈ e_big := bw (i := 733) (by decide +kernel) rfl
theorem cw_L_78 : ∀ w ∈ wsV "LeanedOutLaw" 78 RX10 yX10_keeps [Cond.code yX10_keeps cX10_keeps 3 (some .int)], w ∈ e_big := e_all5 ww_730 ww_731 ww_732 ww_73 ww_733
theorem ww_1235 : Cond.methodLink "LeanedOutLaw" 81 yX11_keeps ∈ e_big := bw (i := 1235) (by decide +kernel) rfl
theorem ww_1236 : Cond.instanceMethod yX11_keeps ∈ e_big := bw (i := 1236) (by decide +kernel) rfl
theorem ww_1237 : Cond.selects RX11 yX11_keeps yX11_keeps ∈ e_big := bw (i := 1237) (by decide +kernel) rfl
theorem ww_1238 : Cond.code yX11_keeps cX11_keeps 2 (some .int) ∈ e_big := bw (i := 1238) (by decide +kernel) rfl
theorem cw_L_81 : ∀ w ∈ wsV "LeanedOutLaw" 81 RX11 yX11_keeps [Cond.code yX11_keeps cX11_keeps 2 (some .int)], w ∈ e_big := e_all5 ww_1235 ww_1236 ww_1237 ww_89 ww_1238
theorem ww_738 : Cond.methodLink "LeanedOutLaw" 82 yX10_turn ∈ e_big := bw (i := 738) (by decide +kernel) rfl
theorem ww_739 : Cond.instanceMethod yX10_turn ∈ e_big := bw (i := 739) (by decide +kernel) rfl
theorem ww_740 : Cond.selects RX10 yX10_turn yX10_turn ∈ e_big := bw (i := 740) (by decide +kernel) rfl
theorem ww_741 : Cond.code yX10_turn cX10_turn 7 (some .int) ∈ e_big := bw (i := 741) (by decide +kernel) rfl
theorem cw_L_82 : ∀ w ∈ wsV "LeanedOutLaw" 82 RX10 yX10_turn [Cond.code yX10_turn cX10_turn 7 (some .int)], w ∈ e_big := e_all5 ww_738 ww_739 ww_740 ww_73 ww_741
theorem ww_1243 : Cond.methodLink "LeanedOutLaw" 85 yX11_turn ∈ e_big := bw (i := 1243) (by decide +kernel) rfl
theorem ww_1244 : Cond.instanceMethod yX11_turn ∈ e_big := bw (i := 1244) (by decide +kernel) rfl
theorem ww_1245 : Cond.selects RX11 yX11_turn yX11_turn ∈ e_big := bw (i := 1245) (by decide +kernel) rfl
theorem ww_1246 : Cond.code yX11_turn cX11_turn 8 (some .int) ∈ e_big := bw (i := 1246) (by decide +kernel) rfl
theorem cw_L_85 : ∀ w ∈ wsV "LeanedOutLaw" 85 RX11 yX11_turn [Cond.code yX11_turn cX11_turn 8 (some .int)], w ∈ e_big := e_all5 ww_1243 ww_1244 ww_1245 ww_89 ww_1246
theorem ww_742 : Cond.methodLink "LeanedOutLaw" 86 yX10_safe ∈ e_big := bw (i := 742) (by decide +kernel) rfl
theorem ww_743 : Cond.instanceMethod yX10_safe ∈ e_big := bw (i := 743) (by decide +kernel) rfl
theorem ww_744 : Cond.selects RX10 yX10_safe yX10_safe ∈ e_big := bw (i := 744) (by decide +kernel) rfl
theorem ww_745 : Cond.code yX10_safe cX10_safe 7 (some .int) ∈ e_big := bw (i := 745) (by decide +kernel) rfl
theorem cw_L_86 : ∀ w ∈ wsV "LeanedOutLaw" 86 RX10 yX10_safe [Cond.code yX10_safe cX10_safe 7 (some .int)], w ∈ e_big := e_all5 ww_742 ww_743 ww_744 ww_73 ww_745
theorem ww_1247 : Cond.methodLink "LeanedOutLaw" 89 yX11_safe ∈ e_big := bw (i := 1247) (by decide +kernel) rfl
theorem ww_1248 : Cond.instanceMethod yX11_safe ∈ e_big := bw (i := 1248) (by decide +kernel) rfl
theorem ww_1249 : Cond.selects RX11 yX11_safe yX11_safe ∈ e_big := bw (i := 1249) (by decide +kernel) rfl
theorem ww_1250 : Cond.code yX11_safe cX11_safe 9 (some .int) ∈ e_big := bw (i := 1250) (by decide +kernel) rfl
theorem cw_L_89 : ∀ w ∈ wsV "LeanedOutLaw" 89 RX11 yX11_safe [Cond.code yX11_safe cX11_safe 9 (some .int)], w ∈ e_big := e_all5 ww_1247 ww_1248 ww_1249 ww_89 ww_1250
theorem ww_746 : Cond.methodLink "LeanedOutLaw" 90 yX10_warn ∈ e_big := bw (i := 746) (by decide +kernel) rfl
theorem ww_747 : Cond.instanceMethod yX10_warn ∈ e_big := bw (i := 747) (by decide +kernel) rfl
theorem ww_748 : Cond.selects RX10 yX10_warn yX10_warn ∈ e_big := bw (i := 748) (by decide +kernel) rfl
theorem ww_749 : Cond.code yX10_warn cX10_warn 7 (some .int) ∈ e_big := bw (i := 749) (by decide +kernel) rfl
theorem cw_L_90 : ∀ w ∈ wsV "LeanedOutLaw" 90 RX10 yX10_warn [Cond.code yX10_warn cX10_warn 7 (some .int)], w ∈ e_big := e_all5 ww_746 ww_747 ww_748 ww_73 ww_749
theorem ww_1251 : Cond.methodLink "LeanedOutLaw" 93 yX11_warn ∈ e_big := bw (i := 1251) (by decide +kernel) rfl
theorem ww_1252 : Cond.instanceMethod yX11_warn ∈ e_big := bw (i := 1252) (by decide +kernel) rfl
theorem ww_1253 : Cond.selects RX11 yX11_warn yX11_warn ∈ e_big := bw (i := 1253) (by decide +kernel) rfl
theorem ww_1254 : Cond.code yX11_warn cX11_warn 8 (some .int) ∈ e_big := bw (i := 1254) (by decide +kernel) rfl
theorem cw_L_93 : ∀ w ∈ wsV "LeanedOutLaw" 93 RX11 yX11_warn [Cond.code yX11_warn cX11_warn 8 (some .int)], w ∈ e_big := e_all5 ww_1251 ww_1252 ww_1253 ww_89 ww_1254
theorem ww_754 : Cond.methodLink "LeanedOutLaw" 94 yX10_untangle ∈ e_big := bw (i := 754) (by decide +kernel) rfl
theorem ww_755 : Cond.instanceMethod yX10_untangle ∈ e_big := bw (i := 755) (by decide +kernel) rfl
theorem ww_756 : Cond.selects RX10 yX10_untangle yX10_untangle ∈ e_big := bw (i := 756) (by decide +kernel) rfl
theorem ww_757 : Cond.code yX10_untangle cX10_untangle 8 (some .int) ∈ e_big := bw (i := 757) (by decide +kernel) rfl
theorem cw_L_94 : ∀ w ∈ wsV "LeanedOutLaw" 94 RX10 yX10_untangle [Cond.code yX10_untangle cX10_untangle 8 (some .int)], w ∈ e_big := e_all5 ww_754 ww_755 ww_756 ww_73 ww_757
theorem ww_1259 : Cond.methodLink "LeanedOutLaw" 97 yX11_untangle ∈ e_big := bw (i := 1259) (by decide +kernel) rfl
theorem ww_1260 : Cond.instanceMethod yX11_untangle ∈ e_big := bw (i := 1260) (by decide +kernel) rfl
theorem ww_1261 : Cond.selects RX11 yX11_untangle yX11_untangle ∈ e_big := bw (i := 1261) (by decide +kernel) rfl
theorem ww_1262 : Cond.code yX11_untangle cX11_untangle 9 (some .int) ∈ e_big := bw (i := 1262) (by decide +kernel) rfl
theorem cw_L_97 : ∀ w ∈ wsV "LeanedOutLaw" 97 RX11 yX11_untangle [Cond.code yX11_untangle cX11_untangle 9 (some .int)], w ∈ e_big := e_all5 ww_1259 ww_1260 ww_1261 ww_89 ww_1262
theorem ww_778 : Cond.methodLink "LeanedOutLaw" 98 yX10_strain ∈ e_big := bw (i := 778) (by decide +kernel) rfl
theorem ww_779 : Cond.instanceMethod yX10_strain ∈ e_big := bw (i := 779) (by decide +kernel) rfl
theorem ww_780 : Cond.selects RX10 yX10_strain yX10_strain ∈ e_big := bw (i := 780) (by decide +kernel) rfl
theorem ww_781 : Cond.code yX10_strain cX10_strain 4 (some .long) ∈ e_big := bw (i := 781) (by decide +kernel) rfl
theorem cw_L_98 : ∀ w ∈ wsV "LeanedOutLaw" 98 RX10 yX10_strain [Cond.code yX10_strain cX10_strain 4 (some .long)], w ∈ e_big := e_all5 ww_778 ww_779 ww_780 ww_73 ww_781
theorem ww_1271 : Cond.methodLink "LeanedOutLaw" 102 yX11_strain ∈ e_big := bw (i := 1271) (by decide +kernel) rfl
theorem ww_1272 : Cond.instanceMethod yX11_strain ∈ e_big := bw (i := 1272) (by decide +kernel) rfl
theorem ww_1273 : Cond.selects RX11 yX11_strain yX11_strain ∈ e_big := bw (i := 1273) (by decide +kernel) rfl
theorem ww_1274 : Cond.code yX11_strain cX11_strain 4 (some .long) ∈ e_big := bw (i := 1274) (by decide +kernel) rfl
theorem cw_L_102 : ∀ w ∈ wsV "LeanedOutLaw" 102 RX11 yX11_strain [Cond.code yX11_strain cX11_strain 4 (some .long)], w ∈ e_big := e_all5 ww_1271 ww_1272 ww_1273 ww_89 ww_1274
theorem ww_786 : Cond.methodLink "LeanedOutLaw" 103 yX10_judge ∈ e_big := bw (i := 786) (by decide +kernel) rfl
theorem ww_787 : Cond.instanceMethod yX10_judge ∈ e_big := bw (i := 787) (by decide +kernel) rfl
theorem ww_788 : Cond.selects RX10 yX10_judge yX10_judge ∈ e_big := bw (i := 788) (by decide +kernel) rfl
theorem ww_789 : Cond.code yX10_judge cX10_judge 4 (some .int) ∈ e_big := bw (i := 789) (by decide +kernel) rfl
theorem cw_L_103 : ∀ w ∈ wsV "LeanedOutLaw" 103 RX10 yX10_judge [Cond.code yX10_judge cX10_judge 4 (some .int)], w ∈ e_big := e_all5 ww_786 ww_787 ww_788 ww_73 ww_789
theorem ww_1279 : Cond.methodLink "LeanedOutLaw" 106 yX11_judge ∈ e_big := bw (i := 1279) (by decide +kernel) rfl
theorem ww_1280 : Cond.instanceMethod yX11_judge ∈ e_big := bw (i := 1280) (by decide +kernel) rfl
theorem ww_1281 : Cond.selects RX11 yX11_judge yX11_judge ∈ e_big := bw (i := 1281) (by decide +kernel) rfl
theorem ww_1282 : Cond.code yX11_judge cX11_judge 4 (some .int) ∈ e_big := bw (i := 1282) (by decide +kernel) rfl
theorem cw_L_106 : ∀ w ∈ wsV "LeanedOutLaw" 106 RX11 yX11_judge [Cond.code yX11_judge cX11_judge 4 (some .int)], w ∈ e_big := e_all5 ww_1279 ww_1280 ww_1281 ww_89 ww_1282
theorem ww_817 : Cond.methodLink "LeanedOutLaw" 107 yX10_kinds ∈ e_big := bw (i := 817) (by decide +kernel) rfl
theorem ww_818 : Cond.instanceMethod yX10_kinds ∈ e_big := bw (i := 818) (by decide +kernel) rfl
theorem ww_819 : Cond.selects RX10 yX10_kinds yX10_kinds ∈ e_big := bw (i := 819) (by decide +kernel) rfl
theorem ww_820 : Cond.code yX10_kinds cX10_kinds 7 (some .int) ∈ e_big := bw (i := 820) (by decide +kernel) rfl
theorem cw_L_107 : ∀ w ∈ wsV "LeanedOutLaw" 107 RX10 yX10_kinds [Cond.code yX10_kinds cX10_kinds 7 (some .int)], w ∈ e_big := e_all5 ww_817 ww_818 ww_819 ww_73 ww_820
theorem ww_1295 : Cond.methodLink "LeanedOutLaw" 110 yX11_kinds ∈ e_big := bw (i := 1295) (by decide +kernel) rfl
theorem ww_1296 : Cond.instanceMethod yX11_kinds ∈ e_big := bw (i := 1296) (by decide +kernel) rfl
theorem ww_1297 : Cond.selects RX11 yX11_kinds yX11_kinds ∈ e_big := bw (i := 1297) (by decide +kernel) rfl
theorem ww_1298 : Cond.code yX11_kinds cX11_kinds 9 (some .int) ∈ e_big := bw (i := 1298) (by decide +kernel) rfl
theorem cw_L_110 : ∀ w ∈ wsV "LeanedOutLaw" 110 RX11 yX11_kinds [Cond.code yX11_kinds cX11_kinds 9 (some .int)], w ∈ e_big := e_all5 ww_1295 ww_1296 ww_1297 ww_89 ww_1298
theorem ww_821 : Cond.methodLink "LeanedOutLaw" 111 yX10_windows ∈ e_big := bw (i := 821) (by decide +kernel) rfl
theorem ww_822 : Cond.instanceMethod yX10_windows ∈ e_big := bw (i := 822) (by decide +kernel) rfl
theorem ww_823 : Cond.selects RX10 yX10_windows yX10_windows ∈ e_big := bw (i := 823) (by decide +kernel) rfl
theorem ww_824 : Cond.code yX10_windows cX10_windows 7 (some .int) ∈ e_big := bw (i := 824) (by decide +kernel) rfl
theorem cw_L_111 : ∀ w ∈ wsV "LeanedOutLaw" 111 RX10 yX10_windows [Cond.code yX10_windows cX10_windows 7 (some .int)], w ∈ e_big := e_all5 ww_821 ww_822 ww_823 ww_73 ww_824
theorem ww_1299 : Cond.methodLink "LeanedOutLaw" 114 yX11_windows ∈ e_big := bw (i := 1299) (by decide +kernel) rfl
theorem ww_1300 : Cond.instanceMethod yX11_windows ∈ e_big := bw (i := 1300) (by decide +kernel) rfl
theorem ww_1301 : Cond.selects RX11 yX11_windows yX11_windows ∈ e_big := bw (i := 1301) (by decide +kernel) rfl
theorem ww_1302 : Cond.code yX11_windows cX11_windows 9 (some .int) ∈ e_big := bw (i := 1302) (by decide +kernel) rfl
theorem cw_L_114 : ∀ w ∈ wsV "LeanedOutLaw" 114 RX11 yX11_windows [Cond.code yX11_windows cX11_windows 9 (some .int)], w ∈ e_big := e_all5 ww_1299 ww_1300 ww_1301 ww_89 ww_1302
theorem ww_825 : Cond.methodLink "LeanedOutLaw" 115 yX10_leans ∈ e_big := bw (i := 825) (by decide +kernel) rfl
theorem ww_826 : Cond.instanceMethod yX10_leans ∈ e_big := bw (i := 826) (by decide +kernel) rfl
theorem ww_827 : Cond.selects RX10 yX10_leans yX10_leans ∈ e_big := bw (i := 827) (by decide +kernel) rfl
theorem ww_828 : Cond.code yX10_leans cX10_leans 8 (some .int) ∈ e_big := bw (i := 828) (by decide +kernel) rfl
theorem cw_L_115 : ∀ w ∈ wsV "LeanedOutLaw" 115 RX10 yX10_leans [Cond.code yX10_leans cX10_leans 8 (some .int)], w ∈ e_big := e_all5 ww_825 ww_826 ww_827 ww_73 ww_828
theorem ww_1303 : Cond.methodLink "LeanedOutLaw" 118 yX11_leans ∈ e_big := bw (i := 1303) (by decide +kernel) rfl
theorem ww_1304 : Cond.instanceMethod yX11_leans ∈ e_big := bw (i := 1304) (by decide +kernel) rfl
theorem ww_1305 : Cond.selects RX11 yX11_leans yX11_leans ∈ e_big := bw (i := 1305) (by decide +kernel) rfl
theorem ww_1306 : Cond.code yX11_leans cX11_leans 10 (some .int) ∈ e_big := bw (i := 1306) (by decide +kernel) rfl
theorem cw_L_118 : ∀ w ∈ wsV "LeanedOutLaw" 118 RX11 yX11_leans [Cond.code yX11_leans cX11_leans 10 (some .int)], w ∈ e_big := e_all5 ww_1303 ww_1304 ww_1305 ww_89 ww_1306
theorem ww_829 : Cond.methodLink "LeanedOutLaw" 119 yX10_whose ∈ e_big := bw (i := 829) (by decide +kernel) rfl
theorem ww_830 : Cond.instanceMethod yX10_whose ∈ e_big := bw (i := 830) (by decide +kernel) rfl
theorem ww_831 : Cond.selects RX10 yX10_whose yX10_whose ∈ e_big := bw (i := 831) (by decide +kernel) rfl
theorem ww_832 : Cond.code yX10_whose cX10_whose 5 (some .int) ∈ e_big := bw (i := 832) (by decide +kernel) rfl
theorem cw_L_119 : ∀ w ∈ wsV "LeanedOutLaw" 119 RX10 yX10_whose [Cond.code yX10_whose cX10_whose 5 (some .int)], w ∈ e_big := e_all5 ww_829 ww_830 ww_831 ww_73 ww_832
theorem ww_1307 : Cond.methodLink "LeanedOutLaw" 122 yX11_whose ∈ e_big := bw (i := 1307) (by decide +kernel) rfl
theorem ww_1308 : Cond.instanceMethod yX11_whose ∈ e_big := bw (i := 1308) (by decide +kernel) rfl
theorem ww_1309 : Cond.selects RX11 yX11_whose yX11_whose ∈ e_big := bw (i := 1309) (by decide +kernel) rfl
theorem ww_1310 : Cond.code yX11_whose cX11_whose 5 (some .int) ∈ e_big := bw (i := 1310) (by decide +kernel) rfl
theorem cw_L_122 : ∀ w ∈ wsV "LeanedOutLaw" 122 RX11 yX11_whose [Cond.code yX11_whose cX11_whose 5 (some .int)], w ∈ e_big := e_all5 ww_1307 ww_1308 ww_1309 ww_89 ww_1310
theorem ww_833 : Cond.methodLink "LeanedOutLaw" 123 yX10_laws ∈ e_big := bw (i := 833) (by decide +kernel) rfl
theorem ww_834 : Cond.instanceMethod yX10_laws ∈ e_big := bw (i := 834) (by decide +kernel) rfl
theorem ww_835 : Cond.selects RX10 yX10_laws yX10_laws ∈ e_big := bw (i := 835) (by decide +kernel) rfl
theorem ww_836 : Cond.code yX10_laws cX10_laws 6 (some .int) ∈ e_big := bw (i := 836) (by decide +kernel) rfl
theorem cw_L_123 : ∀ w ∈ wsV "LeanedOutLaw" 123 RX10 yX10_laws [Cond.code yX10_laws cX10_laws 6 (some .int)], w ∈ e_big := e_all5 ww_833 ww_834 ww_835 ww_73 ww_836
theorem ww_1311 : Cond.methodLink "LeanedOutLaw" 126 yX11_laws ∈ e_big := bw (i := 1311) (by decide +kernel) rfl
theorem ww_1312 : Cond.instanceMethod yX11_laws ∈ e_big := bw (i := 1312) (by decide +kernel) rfl
theorem ww_1313 : Cond.selects RX11 yX11_laws yX11_laws ∈ e_big := bw (i := 1313) (by decide +kernel) rfl
theorem ww_1314 : Cond.code yX11_laws cX11_laws 7 (some .int) ∈ e_big := bw (i := 1314) (by decide +kernel) rfl
theorem cw_L_126 : ∀ w ∈ wsV "LeanedOutLaw" 126 RX11 yX11_laws [Cond.code yX11_laws cX11_laws 7 (some .int)], w ∈ e_big := e_all5 ww_1311 ww_1312 ww_1313 ww_89 ww_1314
theorem ww_837 : Cond.methodLink "LeanedOutLaw" 127 yX10_film ∈ e_big := bw (i := 837) (by decide +kernel) rfl
theorem ww_838 : Cond.instanceMethod yX10_film ∈ e_big := bw (i := 838) (by decide +kernel) rfl
theorem ww_839 : Cond.selects RX10 yX10_film yX10_film ∈ e_big := bw (i := 839) (by decide +kernel) rfl
theorem ww_840 : Cond.code yX10_film cX10_film 5 (some .int) ∈ e_big := bw (i := 840) (by decide +kernel) rfl
theorem cw_L_127 : ∀ w ∈ wsV "LeanedOutLaw" 127 RX10 yX10_film [Cond.code yX10_film cX10_film 5 (some .int)], w ∈ e_big := e_all5 ww_837 ww_838 ww_839 ww_73 ww_840
theorem ww_1315 : Cond.methodLink "LeanedOutLaw" 130 yX11_film ∈ e_big := bw (i := 1315) (by decide +kernel) rfl
theorem ww_1316 : Cond.instanceMethod yX11_film ∈ e_big := bw (i := 1316) (by decide +kernel) rfl
theorem ww_1317 : Cond.selects RX11 yX11_film yX11_film ∈ e_big := bw (i := 1317) (by decide +kernel) rfl
theorem ww_1318 : Cond.code yX11_film cX11_film 5 (some .int) ∈ e_big := bw (i := 1318) (by decide +kernel) rfl
theorem cw_L_130 : ∀ w ∈ wsV "LeanedOutLaw" 130 RX11 yX11_film [Cond.code yX11_film cX11_film 5 (some .int)], w ∈ e_big := e_all5 ww_1315 ww_1316 ww_1317 ww_89 ww_1318
theorem ww_851 : Cond.methodLink "LeanedOutLaw" 131 yX10_drawn ∈ e_big := bw (i := 851) (by decide +kernel) rfl
theorem ww_852 : Cond.instanceMethod yX10_drawn ∈ e_big := bw (i := 852) (by decide +kernel) rfl
theorem ww_853 : Cond.selects RX10 yX10_drawn yX10_drawn ∈ e_big := bw (i := 853) (by decide +kernel) rfl
theorem ww_854 : Cond.code yX10_drawn cX10_drawn 3 (some .int) ∈ e_big := bw (i := 854) (by decide +kernel) rfl
theorem cw_L_131 : ∀ w ∈ wsV "LeanedOutLaw" 131 RX10 yX10_drawn [Cond.code yX10_drawn cX10_drawn 3 (some .int)], w ∈ e_big := e_all5 ww_851 ww_852 ww_853 ww_73 ww_854
theorem ww_1319 : Cond.methodLink "LeanedOutLaw" 134 yX11_drawn ∈ e_big := bw (i := 1319) (by decide +kernel) rfl
theorem ww_1320 : Cond.instanceMethod yX11_drawn ∈ e_big := bw (i := 1320) (by decide +kernel) rfl
theorem ww_1321 : Cond.selects RX11 yX11_drawn yX11_drawn ∈ e_big := bw (i := 1321) (by decide +kernel) rfl
theorem ww_1322 : Cond.code yX11_drawn cX11_drawn 4 (some .int) ∈ e_big := bw (i := 1322) (by decide +kernel) rfl
theorem cw_L_134 : ∀ w ∈ wsV "LeanedOutLaw" 134 RX11 yX11_drawn [Cond.code yX11_drawn cX11_drawn 4 (some .int)], w ∈ e_big := e_all5 ww_1319 ww_1320 ww_1321 ww_89 ww_1322
theorem ww_864 : Cond.methodLink "LeanedOutLaw" 135 yX10_odds ∈ e_big := bw (i := 864) (by decide +kernel) rfl
theorem ww_865 : Cond.instanceMethod yX10_odds ∈ e_big := bw (i := 865) (by decide +kernel) rfl
theorem ww_866 : Cond.selects RX10 yX10_odds yX10_odds ∈ e_big := bw (i := 866) (by decide +kernel) rfl
theorem ww_867 : Cond.code yX10_odds cX10_odds 7 (some .long) ∈ e_big := bw (i := 867) (by decide +kernel) rfl
theorem cw_L_135 : ∀ w ∈ wsV "LeanedOutLaw" 135 RX10 yX10_odds [Cond.code yX10_odds cX10_odds 7 (some .long)], w ∈ e_big := e_all5 ww_864 ww_865 ww_866 ww_73 ww_867
theorem ww_1332 : Cond.methodLink "LeanedOutLaw" 139 yX11_odds ∈ e_big := bw (i := 1332) (by decide +kernel) rfl
theorem ww_1333 : Cond.instanceMethod yX11_odds ∈ e_big := bw (i := 1333) (by decide +kernel) rfl
theorem ww_1334 : Cond.selects RX11 yX11_odds yX11_odds ∈ e_big := bw (i := 1334) (by decide +kernel) rfl
theorem ww_1335 : Cond.code yX11_odds cX11_odds 8 (some .long) ∈ e_big := bw (i := 1335) (by decide +kernel) rfl
theorem cw_L_139 : ∀ w ∈ wsV "LeanedOutLaw" 139 RX11 yX11_odds [Cond.code yX11_odds cX11_odds 8 (some .long)], w ∈ e_big := e_all5 ww_1332 ww_1333 ww_1334 ww_89 ww_1335
theorem ww_868 : Cond.methodLink "LeanedOutLaw" 140 yX10_image ∈ e_big := bw (i := 868) (by decide +kernel) rfl
theorem ww_869 : Cond.instanceMethod yX10_image ∈ e_big := bw (i := 869) (by decide +kernel) rfl
theorem ww_870 : Cond.selects RX10 yX10_image yX10_image ∈ e_big := bw (i := 870) (by decide +kernel) rfl
theorem ww_871 : Cond.code yX10_image cX10_image 1 (some .int) ∈ e_big := bw (i := 871) (by decide +kernel) rfl
theorem cw_L_140 : ∀ w ∈ wsV "LeanedOutLaw" 140 RX10 yX10_image [Cond.code yX10_image cX10_image 1 (some .int)], w ∈ e_big := e_all5 ww_868 ww_869 ww_870 ww_73 ww_871
theorem ww_1336 : Cond.methodLink "LeanedOutLaw" 143 yX11_image ∈ e_big := bw (i := 1336) (by decide +kernel) rfl
theorem ww_1337 : Cond.instanceMethod yX11_image ∈ e_big := bw (i := 1337) (by decide +kernel) rfl
theorem ww_1338 : Cond.selects RX11 yX11_image yX11_image ∈ e_big := bw (i := 1338) (by decide +kernel) rfl
theorem ww_1339 : Cond.code yX11_image cX11_image 2 (some .int) ∈ e_big := bw (i := 1339) (by decide +kernel) rfl
theorem cw_L_143 : ∀ w ∈ wsV "LeanedOutLaw" 143 RX11 yX11_image [Cond.code yX11_image cX11_image 2 (some .int)], w ∈ e_big := e_all5 ww_1336 ww_1337 ww_1338 ww_89 ww_1339
theorem ww_872 : Cond.methodLink "LeanedOutLaw" 144 yX10_back ∈ e_big := bw (i := 872) (by decide +kernel) rfl
theorem ww_873 : Cond.instanceMethod yX10_back ∈ e_big := bw (i := 873) (by decide +kernel) rfl
theorem ww_874 : Cond.selects RX10 yX10_back yX10_back ∈ e_big := bw (i := 874) (by decide +kernel) rfl
theorem ww_875 : Cond.code yX10_back cX10_back 1 (some .int) ∈ e_big := bw (i := 875) (by decide +kernel) rfl
theorem cw_L_144 : ∀ w ∈ wsV "LeanedOutLaw" 144 RX10 yX10_back [Cond.code yX10_back cX10_back 1 (some .int)], w ∈ e_big := e_all5 ww_872 ww_873 ww_874 ww_73 ww_875
theorem ww_1340 : Cond.methodLink "LeanedOutLaw" 147 yX11_back ∈ e_big := bw (i := 1340) (by decide +kernel) rfl
theorem ww_1341 : Cond.instanceMethod yX11_back ∈ e_big := bw (i := 1341) (by decide +kernel) rfl
theorem ww_1342 : Cond.selects RX11 yX11_back yX11_back ∈ e_big := bw (i := 1342) (by decide +kernel) rfl
theorem ww_1343 : Cond.code yX11_back cX11_back 2 (some .int) ∈ e_big := bw (i := 1343) (by decide +kernel) rfl
theorem cw_L_147 : ∀ w ∈ wsV "LeanedOutLaw" 147 RX11 yX11_back [Cond.code yX11_back cX11_back 2 (some .int)], w ∈ e_big := e_all5 ww_1340 ww_1341 ww_1342 ww_89 ww_1343
theorem ww_876 : Cond.methodLink "LeanedOutLaw" 148 yX10_sheet ∈ e_big := bw (i := 876) (by decide +kernel) rfl
theorem ww_877 : Cond.instanceMethod yX10_sheet ∈ e_big := bw (i := 877) (by decide +kernel) rfl
theorem ww_878 : Cond.selects RX10 yX10_sheet yX10_sheet ∈ e_big := bw (i := 878) (by decide +kernel) rfl
theorem ww_879 : Cond.code yX10_sheet cX10_sheet 4 (some .int) ∈ e_big := bw (i := 879) (by decide +kernel) rfl
theorem cw_L_148 : ∀ w ∈ wsV "LeanedOutLaw" 148 RX10 yX10_sheet [Cond.code yX10_sheet cX10_sheet 4 (some .int)], w ∈ e_big := e_all5 ww_876 ww_877 ww_878 ww_73 ww_879
theorem ww_1344 : Cond.methodLink "LeanedOutLaw" 151 yX11_sheet ∈ e_big := bw (i := 1344) (by decide +kernel) rfl
theorem ww_1345 : Cond.instanceMethod yX11_sheet ∈ e_big := bw (i := 1345) (by decide +kernel) rfl
theorem ww_1346 : Cond.selects RX11 yX11_sheet yX11_sheet ∈ e_big := bw (i := 1346) (by decide +kernel) rfl
theorem ww_1347 : Cond.code yX11_sheet cX11_sheet 5 (some .int) ∈ e_big := bw (i := 1347) (by decide +kernel) rfl
theorem cw_L_151 : ∀ w ∈ wsV "LeanedOutLaw" 151 RX11 yX11_sheet [Cond.code yX11_sheet cX11_sheet 5 (some .int)], w ∈ e_big := e_all5 ww_1344 ww_1345 ww_1346 ww_89 ww_1347
theorem ww_880 : Cond.methodLink "LeanedOutLaw" 152 yX10_cell ∈ e_big := bw (i := 880) (by decide +kernel) rfl
theorem ww_881 : Cond.instanceMethod yX10_cell ∈ e_big := bw (i := 881) (by decide +kernel) rfl
theorem ww_882 : Cond.selects RX10 yX10_cell yX10_cell ∈ e_big := bw (i := 882) (by decide +kernel) rfl
theorem ww_883 : Cond.code yX10_cell cX10_cell 4 (some .int) ∈ e_big := bw (i := 883) (by decide +kernel) rfl
theorem cw_L_152 : ∀ w ∈ wsV "LeanedOutLaw" 152 RX10 yX10_cell [Cond.code yX10_cell cX10_cell 4 (some .int)], w ∈ e_big := e_all5 ww_880 ww_881 ww_882 ww_73 ww_883
theorem ww_1348 : Cond.methodLink "LeanedOutLaw" 155 yX11_cell ∈ e_big := bw (i := 1348) (by decide +kernel) rfl
theorem ww_1349 : Cond.instanceMethod yX11_cell ∈ e_big := bw (i := 1349) (by decide +kernel) rfl
theorem ww_1350 : Cond.selects RX11 yX11_cell yX11_cell ∈ e_big := bw (i := 1350) (by decide +kernel) rfl
theorem ww_1351 : Cond.code yX11_cell cX11_cell 4 (some .int) ∈ e_big := bw (i := 1351) (by decide +kernel) rfl
theorem cw_L_155 : ∀ w ∈ wsV "LeanedOutLaw" 155 RX11 yX11_cell [Cond.code yX11_cell cX11_cell 4 (some .int)], w ∈ e_big := e_all5 ww_1348 ww_1349 ww_1350 ww_89 ww_1351
theorem ww_885 : Cond.methodLink "LeanedOutLaw" 156 yX10_copy ∈ e_big := bw (i := 885) (by decide +kernel) rfl
theorem ww_886 : Cond.instanceMethod yX10_copy ∈ e_big := bw (i := 886) (by decide +kernel) rfl
theorem ww_887 : Cond.selects RX10 yX10_copy yX10_copy ∈ e_big := bw (i := 887) (by decide +kernel) rfl
theorem ww_888 : Cond.code yX10_copy cX10_copy 8 (some .int) ∈ e_big := bw (i := 888) (by decide +kernel) rfl
theorem cw_L_156 : ∀ w ∈ wsV "LeanedOutLaw" 156 RX10 yX10_copy [Cond.code yX10_copy cX10_copy 8 (some .int)], w ∈ e_big := e_all5 ww_885 ww_886 ww_887 ww_73 ww_888
theorem ww_1352 : Cond.methodLink "LeanedOutLaw" 160 yX11_copy ∈ e_big := bw (i := 1352) (by decide +kernel) rfl
theorem ww_1353 : Cond.instanceMethod yX11_copy ∈ e_big := bw (i := 1353) (by decide +kernel) rfl
theorem ww_1354 : Cond.selects RX11 yX11_copy yX11_copy ∈ e_big := bw (i := 1354) (by decide +kernel) rfl
theorem ww_1355 : Cond.code yX11_copy cX11_copy 10 (some .int) ∈ e_big := bw (i := 1355) (by decide +kernel) rfl
theorem cw_L_160 : ∀ w ∈ wsV "LeanedOutLaw" 160 RX11 yX11_copy [Cond.code yX11_copy cX11_copy 10 (some .int)], w ∈ e_big := e_all5 ww_1352 ww_1353 ww_1354 ww_89 ww_1355
theorem ww_896 : Cond.methodLink "LeanedOutLaw" 161 yX10_peopleBy ∈ e_big := bw (i := 896) (by decide +kernel) rfl
theorem ww_897 : Cond.instanceMethod yX10_peopleBy ∈ e_big := bw (i := 897) (by decide +kernel) rfl
theorem ww_898 : Cond.selects RX10 yX10_peopleBy yX10_peopleBy ∈ e_big := bw (i := 898) (by decide +kernel) rfl
theorem ww_899 : Cond.code yX10_peopleBy cX10_peopleBy 9 (some .int) ∈ e_big := bw (i := 899) (by decide +kernel) rfl
theorem cw_L_161 : ∀ w ∈ wsV "LeanedOutLaw" 161 RX10 yX10_peopleBy [Cond.code yX10_peopleBy cX10_peopleBy 9 (some .int)], w ∈ e_big := e_all5 ww_896 ww_897 ww_898 ww_73 ww_899
theorem ww_1356 : Cond.methodLink "LeanedOutLaw" 165 yX11_peopleBy ∈ e_big := bw (i := 1356) (by decide +kernel) rfl
theorem ww_1357 : Cond.instanceMethod yX11_peopleBy ∈ e_big := bw (i := 1357) (by decide +kernel) rfl
theorem ww_1358 : Cond.selects RX11 yX11_peopleBy yX11_peopleBy ∈ e_big := bw (i := 1358) (by decide +kernel) rfl
theorem ww_1359 : Cond.code yX11_peopleBy cX11_peopleBy 9 (some .int) ∈ e_big := bw (i := 1359) (by decide +kernel) rfl
theorem cw_L_165 : ∀ w ∈ wsV "LeanedOutLaw" 165 RX11 yX11_peopleBy [Cond.code yX11_peopleBy cX11_peopleBy 9 (some .int)], w ∈ e_big := e_all5 ww_1356 ww_1357 ww_1358 ww_89 ww_1359
theorem ww_900 : Cond.methodLink "LeanedOutLaw" 166 yX10_taken ∈ e_big := bw (i := 900) (by decide +kernel) rfl
theorem ww_901 : Cond.instanceMethod yX10_taken ∈ e_big := bw (i := 901) (by decide +kernel) rfl
theorem ww_902 : Cond.selects RX10 yX10_taken yX10_taken ∈ e_big := bw (i := 902) (by decide +kernel) rfl
theorem ww_903 : Cond.code yX10_taken cX10_taken 5 (some .int) ∈ e_big := bw (i := 903) (by decide +kernel) rfl
theorem cw_L_166 : ∀ w ∈ wsV "LeanedOutLaw" 166 RX10 yX10_taken [Cond.code yX10_taken cX10_taken 5 (some .int)], w ∈ e_big := e_all5 ww_900 ww_901 ww_902 ww_73 ww_903
theorem ww_1361 : Cond.methodLink "LeanedOutLaw" 169 yX11_taken ∈ e_big := bw (i := 1361) (by decide +kernel) rfl
theorem ww_1362 : Cond.instanceMethod yX11_taken ∈ e_big := bw (i := 1362) (by decide +kernel) rfl
theorem ww_1363 : Cond.selects RX11 yX11_taken yX11_taken ∈ e_big := bw (i := 1363) (by decide +kernel) rfl
theorem ww_1364 : Cond.code yX11_taken cX11_taken 3 (some .int) ∈ e_big := bw (i := 1364) (by decide +kernel) rfl
theorem cw_L_169 : ∀ w ∈ wsV "LeanedOutLaw" 169 RX11 yX11_taken [Cond.code yX11_taken cX11_taken 3 (some .int)], w ∈ e_big := e_all5 ww_1361 ww_1362 ww_1363 ww_89 ww_1364
def OK_count (S : e_S) (Inv : e_G → Prop) : Prop := ∀ (g : e_G) (a1 : Int32), Inv g → ∃ (v : Int32) (g1 g2 : e_G), f_X10_count S 0 a1 g = some (v, g1) ∧ f_X11_count S 76 a1 g1 = some (v, g2) ∧ Inv g2
def OK_dawn (S : e_S) (Inv : e_G → Prop) : Prop := ∀ (g : e_G) (a1 : Int32), Inv g → ∃ (v : Int32) (g1 g2 : e_G), f_X10_dawn S 0 a1 g = some (v, g1) ∧ f_X11_dawn S 76 a1 g1 = some (v, g2) ∧ Inv g2
def OK_feed (S : e_S) (Inv : e_G → Prop) : Prop := ∀ (g : e_G) (a1 a2 a3 a4 a5 a6 : Int32), Inv g → ∃ (v : Int32) (g1 g2 : e_G), f_X10_feed S 0 a1 a2 a3 a4 a5 a6 g = some (v, g1) ∧ f_X11_feed S 76 a1 a2 a3 a4 a5 a6 g1 = some (v, g2) ∧ Inv g2
def OK_text (S : e_S) (Inv : e_G → Prop) : Prop := ∀ (g : e_G), Inv g → ∃ (v : Int32) (g1 g2 : e_G), f_X10_text S 0 g = some (v, g1) ∧ f_X11_text S 76 g1 = some (v, g2) ∧ Inv g2
def OK_force (S : e_S) (Inv : e_G → Prop) : Prop := ∀ (g : e_G) (a1 : Int32), Inv g → ∃ (v : Int32) (g1 g2 : e_G), f_X10_force S 0 a1 g = some (v, g1) ∧ f_X11_force S 76 a1 g1 = some (v, g2) ∧ Inv g2
def OK_asks (S : e_S) (Inv : e_G → Prop) : Prop := ∀ (g : e_G) (a1 a2 : Int32), Inv g → ∃ (v : Int32) (g1 g2 : e_G), f_X10_asks S 0 a1 a2 g = some (v, g1) ∧ f_X11_asks S 76 a1 a2 g1 = some (v, g2) ∧ Inv g2
def OK_person (S : e_S) (Inv : e_G → Prop) : Prop := ∀ (g : e_G) (a1 a2 : Int32), Inv g → ∃ (v : Int32) (g1 g2 : e_G), f_X10_person S 0 a1 a2 g = some (v, g1) ∧ f_X11_person S 76 a1 a2 g1 = some (v, g2) ∧ Inv g2
def OK_put (S : e_S) (Inv : e_G → Prop) : Prop := ∀ (g : e_G) (a1 a2 a3 : Int32), Inv g → ∃ (v : Int32) (g1 g2 : e_G), f_X10_put S 0 a1 a2 a3 g = some (v, g1) ∧ f_X11_put S 76 a1 a2 a3 g1 = some (v, g2) ∧ Inv g2
def OK_told (S : e_S) (Inv : e_G → Prop) : Prop := ∀ (g : e_G) (a1 a2 : Int32), Inv g → ∃ (v : Int32) (g1 g2 : e_G), f_X10_told S 0 a1 a2 g = some (v, g1) ∧ f_X11_told S 76 a1 a2 g1 = some (v, g2) ∧ Inv g2
def OK_street (S : e_S) (Inv : e_G → Prop) : Prop := ∀ (g : e_G) (a1 : Int32), Inv g → ∃ (v : Int32) (g1 g2 : e_G), f_X10_street S 0 a1 g = some (v, g1) ∧ f_X11_street S 76 a1 g1 = some (v, g2) ∧ Inv g2
def OK_chain (S : e_S) (Inv : e_G → Prop) : Prop := ∀ (g : e_G) (a1 : Int32), Inv g → ∃ (v : Int32) (g1 g2 : e_G), f_X10_chain S 0 a1 g = some (v, g1) ∧ f_X11_chain S 76 a1 g1 = some (v, g2) ∧ Inv g2
def OK_day (S : e_S) (Inv : e_G → Prop) : Prop := ∀ (g : e_G), Inv g → ∃ (v : Int32) (g1 g2 : e_G), f_X10_day S 0 g = some (v, g1) ∧ f_X11_day S 76 g1 = some (v, g2) ∧ Inv g2
def OK_callIn (S : e_S) (Inv : e_G → Prop) : Prop := ∀ (g : e_G) (a1 : Int32), Inv g → ∃ (v : Int32) (g1 g2 : e_G), f_X10_callIn S 0 a1 g = some (v, g1) ∧ f_X11_callIn S 76 a1 g1 = some (v, g2) ∧ Inv g2
def OK_crane (S : e_S) (Inv : e_G → Prop) : Prop := ∀ (g : e_G) (a1 a2 : Int32), Inv g → ∃ (v : Int32) (g1 g2 : e_G), f_X10_crane S 0 a1 a2 g = some (v, g1) ∧ f_X11_crane S 76 a1 a2 g1 = some (v, g2) ∧ Inv g2
def OK_run (S : e_S) (Inv : e_G → Prop) : Prop := ∀ (g : e_G) (a1 a2 : Int32), Inv g → ∃ (v : Int32) (g1 g2 : e_G), f_X10_run S 0 a1 a2 g = some (v, g1) ∧ f_X11_run S 76 a1 a2 g1 = some (v, g2) ∧ Inv g2
def OK_keeps (S : e_S) (Inv : e_G → Prop) : Prop := ∀ (g : e_G) (a1 : Int32), Inv g → ∃ (v : Int32) (g1 g2 : e_G), f_X10_keeps S 0 a1 g = some (v, g1) ∧ f_X11_keeps S 76 a1 g1 = some (v, g2) ∧ Inv g2
def OK_turn (S : e_S) (Inv : e_G → Prop) : Prop := ∀ (g : e_G) (a1 : Int32), Inv g → ∃ (v : Int32) (g1 g2 : e_G), f_X10_turn S 0 a1 g = some (v, g1) ∧ f_X11_turn S 76 a1 g1 = some (v, g2) ∧ Inv g2
def OK_safe (S : e_S) (Inv : e_G → Prop) : Prop := ∀ (g : e_G) (a1 a2 : Int32), Inv g → ∃ (v : Int32) (g1 g2 : e_G), f_X10_safe S 0 a1 a2 g = some (v, g1) ∧ f_X11_safe S 76 a1 a2 g1 = some (v, g2) ∧ Inv g2
def OK_warn (S : e_S) (Inv : e_G → Prop) : Prop := ∀ (g : e_G) (a1 a2 : Int32), Inv g → ∃ (v : Int32) (g1 g2 : e_G), f_X10_warn S 0 a1 a2 g = some (v, g1) ∧ f_X11_warn S 76 a1 a2 g1 = some (v, g2) ∧ Inv g2
def OK_untangle (S : e_S) (Inv : e_G → Prop) : Prop := ∀ (g : e_G) (a1 a2 : Int32), Inv g → ∃ (v : Int32) (g1 g2 : e_G), f_X10_untangle S 0 a1 a2 g = some (v, g1) ∧ f_X11_untangle S 76 a1 a2 g1 = some (v, g2) ∧ Inv g2
def OK_strain (S : e_S) (Inv : e_G → Prop) : Prop := ∀ (g : e_G) (a1 a2 : Int32), Inv g → ∃ (v : Int64) (g1 g2 : e_G), f_X10_strain S 0 a1 a2 g = some (v, g1) ∧ f_X11_strain S 76 a1 a2 g1 = some (v, g2) ∧ Inv g2
def OK_judge (S : e_S) (Inv : e_G → Prop) : Prop := ∀ (g : e_G) (a1 a2 : Int32), Inv g → ∃ (v : Int32) (g1 g2 : e_G), f_X10_judge S 0 a1 a2 g = some (v, g1) ∧ f_X11_judge S 76 a1 a2 g1 = some (v, g2) ∧ Inv g2
def OK_kinds (S : e_S) (Inv : e_G → Prop) : Prop := ∀ (g : e_G) (a1 a2 a3 : Int32), Inv g → ∃ (v : Int32) (g1 g2 : e_G), f_X10_kinds S 0 a1 a2 a3 g = some (v, g1) ∧ f_X11_kinds S 76 a1 a2 a3 g1 = some (v, g2) ∧ Inv g2
def OK_windows (S : e_S) (Inv : e_G → Prop) : Prop := ∀ (g : e_G) (a1 a2 a3 : Int32), Inv g → ∃ (v : Int32) (g1 g2 : e_G), f_X10_windows S 0 a1 a2 a3 g = some (v, g1) ∧ f_X11_windows S 76 a1 a2 a3 g1 = some (v, g2) ∧ Inv g2
def OK_leans (S : e_S) (Inv : e_G → Prop) : Prop := ∀ (g : e_G) (a1 a2 a3 : Int32), Inv g → ∃ (v : Int32) (g1 g2 : e_G), f_X10_leans S 0 a1 a2 a3 g = some (v, g1) ∧ f_X11_leans S 76 a1 a2 a3 g1 = some (v, g2) ∧ Inv g2
def OK_whose (S : e_S) (Inv : e_G → Prop) : Prop := ∀ (g : e_G) (a1 : Int32), Inv g → ∃ (v : Int32) (g1 g2 : e_G), f_X10_whose S 0 a1 g = some (v, g1) ∧ f_X11_whose S 76 a1 g1 = some (v, g2) ∧ Inv g2
def OK_laws (S : e_S) (Inv : e_G → Prop) : Prop := ∀ (g : e_G) (a1 a2 : Int32), Inv g → ∃ (v : Int32) (g1 g2 : e_G), f_X10_laws S 0 a1 a2 g = some (v, g1) ∧ f_X11_laws S 76 a1 a2 g1 = some (v, g2) ∧ Inv g2
def OK_film (S : e_S) (Inv : e_G → Prop) : Prop := ∀ (g : e_G) (a1 a2 a3 : Int32), Inv g → ∃ (v : Int32) (g1 g2 : e_G), f_X10_film S 0 a1 a2 a3 g = some (v, g1) ∧ f_X11_film S 76 a1 a2 a3 g1 = some (v, g2) ∧ Inv g2
def OK_drawn (S : e_S) (Inv : e_G → Prop) : Prop := ∀ (g : e_G) (a1 a2 : Int32), Inv g → ∃ (v : Int32) (g1 g2 : e_G), f_X10_drawn S 0 a1 a2 g = some (v, g1) ∧ f_X11_drawn S 76 a1 a2 g1 = some (v, g2) ∧ Inv g2
def OK_odds (S : e_S) (Inv : e_G → Prop) : Prop := ∀ (g : e_G) (a1 a2 a3 a4 : Int32), Inv g → ∃ (v : Int64) (g1 g2 : e_G), f_X10_odds S 0 a1 a2 a3 a4 g = some (v, g1) ∧ f_X11_odds S 76 a1 a2 a3 a4 g1 = some (v, g2) ∧ Inv g2
def OK_image (S : e_S) (Inv : e_G → Prop) : Prop := ∀ (g : e_G), Inv g → ∃ (v : Int32) (g1 g2 : e_G), f_X10_image S 0 g = some (v, g1) ∧ f_X11_image S 76 g1 = some (v, g2) ∧ Inv g2
def OK_back (S : e_S) (Inv : e_G → Prop) : Prop := ∀ (g : e_G), Inv g → ∃ (v : Int32) (g1 g2 : e_G), f_X10_back S 0 g = some (v, g1) ∧ f_X11_back S 76 g1 = some (v, g2) ∧ Inv g2
def OK_sheet (S : e_S) (Inv : e_G → Prop) : Prop := ∀ (g : e_G) (a1 a2 a3 : Int32), Inv g → ∃ (v : Int32) (g1 g2 : e_G), f_X10_sheet S 0 a1 a2 a3 g = some (v, g1) ∧ f_X11_sheet S 76 a1 a2 a3 g1 = some (v, g2) ∧ Inv g2
def OK_cell (S : e_S) (Inv : e_G → Prop) : Prop := ∀ (g : e_G) (a1 a2 a3 : Int32), Inv g → ∃ (v : Int32) (g1 g2 : e_G), f_X10_cell S 0 a1 a2 a3 g = some (v, g1) ∧ f_X11_cell S 76 a1 a2 a3 g1 = some (v, g2) ∧ Inv g2
def OK_copy (S : e_S) (Inv : e_G → Prop) : Prop := ∀ (g : e_G) (a1 a2 a3 a4 a5 : Int32), Inv g → ∃ (v : Int32) (g1 g2 : e_G), f_X10_copy S 0 a1 a2 a3 a4 a5 g = some (v, g1) ∧ f_X11_copy S 76 a1 a2 a3 a4 a5 g1 = some (v, g2) ∧ Inv g2
def OK_peopleBy (S : e_S) (Inv : e_G → Prop) : Prop := ∀ (g : e_G) (a1 a2 a3 a4 : Int32), Inv g → ∃ (v : Int32) (g1 g2 : e_G), f_X10_peopleBy S 0 a1 a2 a3 a4 g = some (v, g1) ∧ f_X11_peopleBy S 76 a1 a2 a3 a4 g1 = some (v, g2) ∧ Inv g2
def OK_taken (S : e_S) (Inv : e_G → Prop) : Prop := ∀ (g : e_G) (a1 a2 : Int32), Inv g → ∃ (v : Int32) (g1 g2 : e_G), f_X10_taken S 0 a1 a2 g = some (v, g1) ∧ f_X11_taken S 76 a1 a2 g1 = some (v, g2) ∧ Inv g2
def OK_all (S : e_S) (Inv : e_G → Prop) : Prop := OK_count S Inv ∧ OK_dawn S Inv ∧ OK_feed S Inv ∧ OK_text S Inv ∧ OK_force S Inv ∧ OK_asks S Inv ∧ OK_person S Inv ∧ OK_put S Inv ∧ OK_told S Inv ∧ OK_street S Inv ∧ OK_chain S Inv ∧ OK_day S Inv ∧ OK_callIn S Inv ∧ OK_crane S Inv ∧ OK_run S Inv ∧ OK_keeps S Inv ∧ OK_turn S Inv ∧ OK_safe S Inv ∧ OK_warn S Inv ∧ OK_untangle S Inv ∧ OK_strain S Inv ∧ OK_judge S Inv ∧ OK_kinds S Inv ∧ OK_windows S Inv ∧ OK_leans S Inv ∧ OK_whose S Inv ∧ OK_laws S Inv ∧ OK_film S Inv ∧ OK_drawn S Inv ∧ OK_odds S Inv ∧ OK_image S Inv ∧ OK_back S Inv ∧ OK_sheet S Inv ∧ OK_cell S Inv ∧ OK_copy S Inv ∧ OK_peopleBy S Inv ∧ OK_taken S Inv
theorem kN_1 : Int32.ofInt 1 = nI 1 := by decide +kernel
theorem kN_2 : Int32.ofInt 2 = nI 2 := by decide +kernel
theorem kN_3 : Int32.ofInt 3 = nI 3 := by decide +kernel
theorem kN_4 : Int32.ofInt 4 = nI 4 := by decide +kernel
theorem kN_5 : Int32.ofInt 5 = nI 5 := by decide +kernel
theorem kN_6 : (Int8.ofInt 6).toInt32 = nI 6 := by decide +kernel
theorem law_count {l : Launch} {D : va_G} {p : Program} {e : Env} {s : State} {m : MethodId} {below : List Frame} {meth : Method} {c : Code} {b Ln : Nat} {xs : Nat → Int32} {S : e_S} {Inv : e_G → Prop} {g : e_G} {i : Nat} (C0 : lw_At p s m meth c b Ln xs) (hL : Ln ≤ 3584) (hi : i + 7 ≤ Ln) (hI : Inv g) (ok : OK_count S Inv) (K : ∀ g2, Inv g2 → LX l D p e s m below meth c b 1431 [(0, .ref 4000000), (1, .ref 0), (2, .ref 76), (3, .int (nI i))] [] (S, g2)) : LX l D p e s m below meth c b 196 [(0, .ref 4000000), (1, .ref 0), (2, .ref 76), (3, .int (nI i))] [] (S, g) := by
  obtain ⟨v, g1, g2, h1, h2, hI2⟩ := ok g (xs (i + 1)) hI
  refine LX.aload_n C0 dL_law_196 rfl (j := 1) rfl ?_
  refine LX.arg (k := 1) C0 hL dL_law_197 dL_law_198 dL_law_199 kN_1 dL_law_200 dL_law_201 (by omega) rfl rfl ?_
  refine LX.callV (av := [.int (xs (i + 1))]) (ci := 10) (d := 2) C0 dL_law_202 (c_X10_count (l := l) (D := D) (w := v) (k := g1) h1) cw_L_13 (by decide) rfl mk_X10_count (o_X10_count (w := v) (k := g1) h1) ⟨Nat.le_of_ble_eq_true rfl, Nat.le_of_ble_eq_true rfl⟩ (by simp [Value.category]) ?_
  refine LX.aload_n C0 dL_law_205 rfl (j := 2) rfl ?_
  refine LX.arg (k := 1) C0 hL dL_law_206 dL_law_207 dL_law_208 kN_1 dL_law_209 dL_law_210 (by omega) rfl rfl ?_
  refine LX.callV (av := [.int (xs (i + 1))]) (ci := 11) (d := 2) C0 dL_law_211 (c_X11_count (l := l) (D := D) (w := v) (k := g2) h2) cw_L_17 (by decide) rfl mk_X11_count (o_X11_count (w := v) (k := g2) h2) ⟨Nat.le_of_ble_eq_true rfl, Nat.le_of_ble_eq_true rfl⟩ (by simp [Value.category]) ?_
  refine LX.icmp_eq C0 dL_law_214 (tgt := 1431) rfl rfl ?_
  exact K g2 hI2
theorem law_dawn {l : Launch} {D : va_G} {p : Program} {e : Env} {s : State} {m : MethodId} {below : List Frame} {meth : Method} {c : Code} {b Ln : Nat} {xs : Nat → Int32} {S : e_S} {Inv : e_G → Prop} {g : e_G} {i : Nat} (C0 : lw_At p s m meth c b Ln xs) (hL : Ln ≤ 3584) (hi : i + 7 ≤ Ln) (hI : Inv g) (ok : OK_dawn S Inv) (K : ∀ g2, Inv g2 → LX l D p e s m below meth c b 1431 [(0, .ref 4000000), (1, .ref 0), (2, .ref 76), (3, .int (nI i))] [] (S, g2)) : LX l D p e s m below meth c b 219 [(0, .ref 4000000), (1, .ref 0), (2, .ref 76), (3, .int (nI i))] [] (S, g) := by
  obtain ⟨v, g1, g2, h1, h2, hI2⟩ := ok g (xs (i + 1)) hI
  refine LX.aload_n C0 dL_law_219 rfl (j := 1) rfl ?_
  refine LX.arg (k := 1) C0 hL dL_law_220 dL_law_221 dL_law_222 kN_1 dL_law_223 dL_law_224 (by omega) rfl rfl ?_
  refine LX.callV (av := [.int (xs (i + 1))]) (ci := 10) (d := 1) C0 dL_law_225 (c_X10_dawn (l := l) (D := D) (w := v) (k := g1) h1) cw_L_18 (by decide) rfl mk_X10_dawn (o_X10_dawn (w := v) (k := g1) h1) ⟨Nat.le_of_ble_eq_true rfl, Nat.le_of_ble_eq_true rfl⟩ (by simp [Value.category]) ?_
  refine LX.aload_n C0 dL_law_228 rfl (j := 2) rfl ?_
  refine LX.arg (k := 1) C0 hL dL_law_229 dL_law_230 dL_law_231 kN_1 dL_law_232 dL_law_233 (by omega) rfl rfl ?_
  refine LX.callV (av := [.int (xs (i + 1))]) (ci := 11) (d := 2) C0 dL_law_234 (c_X11_dawn (l := l) (D := D) (w := v) (k := g2) h2) cw_L_21 (by decide) rfl mk_X11_dawn (o_X11_dawn (w := v) (k := g2) h2) ⟨Nat.le_of_ble_eq_true rfl, Nat.le_of_ble_eq_true rfl⟩ (by simp [Value.category]) ?_
  refine LX.icmp_eq C0 dL_law_237 (tgt := 1431) rfl rfl ?_
  exact K g2 hI2
theorem law_feed {l : Launch} {D : va_G} {p : Program} {e : Env} {s : State} {m : MethodId} {below : List Frame} {meth : Method} {c : Code} {b Ln : Nat} {xs : Nat → Int32} {S : e_S} {Inv : e_G → Prop} {g : e_G} {i : Nat} (C0 : lw_At p s m meth c b Ln xs) (hL : Ln ≤ 3584) (hi : i + 7 ≤ Ln) (hI : Inv g) (ok : OK_feed S Inv) (K : ∀ g2, Inv g2 → LX l D p e s m below meth c b 1431 [(0, .ref 4000000), (1, .ref 0), (2, .ref 76), (3, .int (nI i))] [] (S, g2)) : LX l D p e s m below meth c b 242 [(0, .ref 4000000), (1, .ref 0), (2, .ref 76), (3, .int (nI i))] [] (S, g) := by
  obtain ⟨v, g1, g2, h1, h2, hI2⟩ := ok g (xs (i + 1)) (xs (i + 2)) (xs (i + 3)) (xs (i + 4)) (xs (i + 5)) (xs (i + 6)) hI
  refine LX.aload_n C0 dL_law_242 rfl (j := 1) rfl ?_
  refine LX.arg (k := 1) C0 hL dL_law_243 dL_law_244 dL_law_245 kN_1 dL_law_246 dL_law_247 (by omega) rfl rfl ?_
  refine LX.arg (k := 2) C0 hL dL_law_248 dL_law_249 dL_law_250 kN_2 dL_law_251 dL_law_252 (by omega) rfl rfl ?_
  refine LX.arg (k := 3) C0 hL dL_law_253 dL_law_254 dL_law_255 kN_3 dL_law_256 dL_law_257 (by omega) rfl rfl ?_
  refine LX.arg (k := 4) C0 hL dL_law_258 dL_law_259 dL_law_260 kN_4 dL_law_261 dL_law_262 (by omega) rfl rfl ?_
  refine LX.arg (k := 5) C0 hL dL_law_263 dL_law_264 dL_law_265 kN_5 dL_law_266 dL_law_267 (by omega) rfl rfl ?_
  refine LX.arg6 (k := 6) C0 hL dL_law_268 dL_law_269 dL_law_270 kN_6 dL_law_272 dL_law_273 (by omega) rfl rfl ?_
  refine LX.callV (av := [.int (xs (i + 1)), .int (xs (i + 2)), .int (xs (i + 3)), .int (xs (i + 4)), .int (xs (i + 5)), .int (xs (i + 6))]) (ci := 10) (d := 2) C0 dL_law_274 (c_X10_feed (l := l) (D := D) (w := v) (k := g1) h1) cw_L_22 (by decide) rfl mk_X10_feed (o_X10_feed (w := v) (k := g1) h1) ⟨Nat.le_of_ble_eq_true rfl, Nat.le_of_ble_eq_true rfl⟩ (by simp [Value.category]) ?_
  refine LX.aload_n C0 dL_law_277 rfl (j := 2) rfl ?_
  refine LX.arg (k := 1) C0 hL dL_law_278 dL_law_279 dL_law_280 kN_1 dL_law_281 dL_law_282 (by omega) rfl rfl ?_
  refine LX.arg (k := 2) C0 hL dL_law_283 dL_law_284 dL_law_285 kN_2 dL_law_286 dL_law_287 (by omega) rfl rfl ?_
  refine LX.arg (k := 3) C0 hL dL_law_288 dL_law_289 dL_law_290 kN_3 dL_law_291 dL_law_292 (by omega) rfl rfl ?_
  refine LX.arg (k := 4) C0 hL dL_law_293 dL_law_294 dL_law_295 kN_4 dL_law_296 dL_law_297 (by omega) rfl rfl ?_
  refine LX.arg (k := 5) C0 hL dL_law_298 dL_law_299 dL_law_300 kN_5 dL_law_301 dL_law_302 (by omega) rfl rfl ?_
  refine LX.arg6 (k := 6) C0 hL dL_law_303 dL_law_304 dL_law_305 kN_6 dL_law_307 dL_law_308 (by omega) rfl rfl ?_
  refine LX.callV (av := [.int (xs (i + 1)), .int (xs (i + 2)), .int (xs (i + 3)), .int (xs (i + 4)), .int (xs (i + 5)), .int (xs (i + 6))]) (ci := 11) (d := 3) C0 dL_law_309 (c_X11_feed (l := l) (D := D) (w := v) (k := g2) h2) cw_L_26 (by decide) rfl mk_X11_feed (o_X11_feed (w := v) (k := g2) h2) ⟨Nat.le_of_ble_eq_true rfl, Nat.le_of_ble_eq_true rfl⟩ (by simp [Value.category]) ?_
  refine LX.icmp_eq C0 dL_law_312 (tgt := 1431) rfl rfl ?_
  exact K g2 hI2
theorem law_text {l : Launch} {D : va_G} {p : Program} {e : Env} {s : State} {m : MethodId} {below : List Frame} {meth : Method} {c : Code} {b Ln : Nat} {xs : Nat → Int32} {S : e_S} {Inv : e_G → Prop} {g : e_G} {i : Nat} (C0 : lw_At p s m meth c b Ln xs) (hL : Ln ≤ 3584) (hi : i + 7 ≤ Ln) (hI : Inv g) (ok : OK_text S Inv) (K : ∀ g2, Inv g2 → LX l D p e s m below meth c b 1431 [(0, .ref 4000000), (1, .ref 0), (2, .ref 76), (3, .int (nI i))] [] (S, g2)) : LX l D p e s m below meth c b 317 [(0, .ref 4000000), (1, .ref 0), (2, .ref 76), (3, .int (nI i))] [] (S, g) := by
  obtain ⟨v, g1, g2, h1, h2, hI2⟩ := ok g  hI
  refine LX.aload_n C0 dL_law_317 rfl (j := 1) rfl ?_
  refine LX.callV (av := []) (ci := 10) (d := 74) C0 dL_law_318 (c_X10_text (l := l) (D := D) (w := v) (k := g1) h1) cw_L_27 (by decide) rfl mk_X10_text (o_X10_text (w := v) (k := g1) h1) ⟨Nat.le_of_ble_eq_true rfl, Nat.le_of_ble_eq_true rfl⟩ (by simp [Value.category]) ?_
  refine LX.aload_n C0 dL_law_321 rfl (j := 2) rfl ?_
  refine LX.callV (av := []) (ci := 11) (d := 5) C0 dL_law_322 (c_X11_text (l := l) (D := D) (w := v) (k := g2) h2) cw_L_31 (by decide) rfl mk_X11_text (o_X11_text (w := v) (k := g2) h2) ⟨Nat.le_of_ble_eq_true rfl, Nat.le_of_ble_eq_true rfl⟩ (by simp [Value.category]) ?_
  refine LX.icmp_eq C0 dL_law_325 (tgt := 1431) rfl rfl ?_
  exact K g2 hI2
theorem law_force {l : Launch} {D : va_G} {p : Program} {e : Env} {s : State} {m : MethodId} {below : List Frame} {meth : Method} {c : Code} {b Ln : Nat} {xs : Nat → Int32} {S : e_S} {Inv : e_G → Prop} {g : e_G} {i : Nat} (C0 : lw_At p s m meth c b Ln xs) (hL : Ln ≤ 3584) (hi : i + 7 ≤ Ln) (hI : Inv g) (ok : OK_force S Inv) (K : ∀ g2, Inv g2 → LX l D p e s m below meth c b 1431 [(0, .ref 4000000), (1, .ref 0), (2, .ref 76), (3, .int (nI i))] [] (S, g2)) : LX l D p e s m below meth c b 330 [(0, .ref 4000000), (1, .ref 0), (2, .ref 76), (3, .int (nI i))] [] (S, g) := by
  obtain ⟨v, g1, g2, h1, h2, hI2⟩ := ok g (xs (i + 1)) hI
  refine LX.aload_n C0 dL_law_330 rfl (j := 1) rfl ?_
  refine LX.arg (k := 1) C0 hL dL_law_331 dL_law_332 dL_law_333 kN_1 dL_law_334 dL_law_335 (by omega) rfl rfl ?_
  refine LX.callV (av := [.int (xs (i + 1))]) (ci := 10) (d := 1) C0 dL_law_336 (c_X10_force (l := l) (D := D) (w := v) (k := g1) h1) cw_L_32 (by decide) rfl mk_X10_force (o_X10_force (w := v) (k := g1) h1) ⟨Nat.le_of_ble_eq_true rfl, Nat.le_of_ble_eq_true rfl⟩ (by simp [Value.category]) ?_
  refine LX.aload_n C0 dL_law_339 rfl (j := 2) rfl ?_
  refine LX.arg (k := 1) C0 hL dL_law_340 dL_law_341 dL_law_342 kN_1 dL_law_343 dL_law_344 (by omega) rfl rfl ?_
  refine LX.callV (av := [.int (xs (i + 1))]) (ci := 11) (d := 2) C0 dL_law_345 (c_X11_force (l := l) (D := D) (w := v) (k := g2) h2) cw_L_35 (by decide) rfl mk_X11_force (o_X11_force (w := v) (k := g2) h2) ⟨Nat.le_of_ble_eq_true rfl, Nat.le_of_ble_eq_true rfl⟩ (by simp [Value.category]) ?_
  refine LX.icmp_eq C0 dL_law_348 (tgt := 1431) rfl rfl ?_
  exact K g2 hI2
theorem law_asks {l : Launch} {D : va_G} {p : Program} {e : Env} {s : State} {m : MethodId} {below : List Frame} {meth : Method} {c : Code} {b Ln : Nat} {xs : Nat → Int32} {S : e_S} {Inv : e_G → Prop} {g : e_G} {i : Nat} (C0 : lw_At p s m meth c b Ln xs) (hL : Ln ≤ 3584) (hi : i + 7 ≤ Ln) (hI : Inv g) (ok : OK_asks S Inv) (K : ∀ g2, Inv g2 → LX l D p e s m below meth c b 1431 [(0, .ref 4000000), (1, .ref 0), (2, .ref 76), (3, .int (nI i))] [] (S, g2)) : LX l D p e s m below meth c b 353 [(0, .ref 4000000), (1, .ref 0), (2, .ref 76), (3, .int (nI i))] [] (S, g) := by
  obtain ⟨v, g1, g2, h1, h2, hI2⟩ := ok g (xs (i + 1)) (xs (i + 2)) hI
  refine LX.aload_n C0 dL_law_353 rfl (j := 1) rfl ?_
  refine LX.arg (k := 1) C0 hL dL_law_354 dL_law_355 dL_law_356 kN_1 dL_law_357 dL_law_358 (by omega) rfl rfl ?_
  refine LX.arg (k := 2) C0 hL dL_law_359 dL_law_360 dL_law_361 kN_2 dL_law_362 dL_law_363 (by omega) rfl rfl ?_
  refine LX.callV (av := [.int (xs (i + 1)), .int (xs (i + 2))]) (ci := 10) (d := 4) C0 dL_law_364 (c_X10_asks (l := l) (D := D) (w := v) (k := g1) h1) cw_L_36 (by decide) rfl mk_X10_asks (o_X10_asks (w := v) (k := g1) h1) ⟨Nat.le_of_ble_eq_true rfl, Nat.le_of_ble_eq_true rfl⟩ (by simp [Value.category]) ?_
  refine LX.aload_n C0 dL_law_367 rfl (j := 2) rfl ?_
  refine LX.arg (k := 1) C0 hL dL_law_368 dL_law_369 dL_law_370 kN_1 dL_law_371 dL_law_372 (by omega) rfl rfl ?_
  refine LX.arg (k := 2) C0 hL dL_law_373 dL_law_374 dL_law_375 kN_2 dL_law_376 dL_law_377 (by omega) rfl rfl ?_
  refine LX.callV (av := [.int (xs (i + 1)), .int (xs (i + 2))]) (ci := 11) (d := 4) C0 dL_law_378 (c_X11_asks (l := l) (D := D) (w := v) (k := g2) h2) cw_L_40 (by decide) rfl mk_X11_asks (o_X11_asks (w := v) (k := g2) h2) ⟨Nat.le_of_ble_eq_true rfl, Nat.le_of_ble_eq_true rfl⟩ (by simp [Value.category]) ?_
  refine LX.icmp_eq C0 dL_law_381 (tgt := 1431) rfl rfl ?_
  exact K g2 hI2
theorem law_person {l : Launch} {D : va_G} {p : Program} {e : Env} {s : State} {m : MethodId} {below : List Frame} {meth : Method} {c : Code} {b Ln : Nat} {xs : Nat → Int32} {S : e_S} {Inv : e_G → Prop} {g : e_G} {i : Nat} (C0 : lw_At p s m meth c b Ln xs) (hL : Ln ≤ 3584) (hi : i + 7 ≤ Ln) (hI : Inv g) (ok : OK_person S Inv) (K : ∀ g2, Inv g2 → LX l D p e s m below meth c b 1431 [(0, .ref 4000000), (1, .ref 0), (2, .ref 76), (3, .int (nI i))] [] (S, g2)) : LX l D p e s m below meth c b 386 [(0, .ref 4000000), (1, .ref 0), (2, .ref 76), (3, .int (nI i))] [] (S, g) := by
  obtain ⟨v, g1, g2, h1, h2, hI2⟩ := ok g (xs (i + 1)) (xs (i + 2)) hI
  refine LX.aload_n C0 dL_law_386 rfl (j := 1) rfl ?_
  refine LX.arg (k := 1) C0 hL dL_law_387 dL_law_388 dL_law_389 kN_1 dL_law_390 dL_law_391 (by omega) rfl rfl ?_
  refine LX.arg (k := 2) C0 hL dL_law_392 dL_law_393 dL_law_394 kN_2 dL_law_395 dL_law_396 (by omega) rfl rfl ?_
  refine LX.callV (av := [.int (xs (i + 1)), .int (xs (i + 2))]) (ci := 10) (d := 4) C0 dL_law_397 (c_X10_person (l := l) (D := D) (w := v) (k := g1) h1) cw_L_41 (by decide) rfl mk_X10_person (o_X10_person (w := v) (k := g1) h1) ⟨Nat.le_of_ble_eq_true rfl, Nat.le_of_ble_eq_true rfl⟩ (by simp [Value.category]) ?_
  refine LX.aload_n C0 dL_law_400 rfl (j := 2) rfl ?_
  refine LX.arg (k := 1) C0 hL dL_law_401 dL_law_402 dL_law_403 kN_1 dL_law_404 dL_law_405 (by omega) rfl rfl ?_
  refine LX.arg (k := 2) C0 hL dL_law_406 dL_law_407 dL_law_408 kN_2 dL_law_409 dL_law_410 (by omega) rfl rfl ?_
  refine LX.callV (av := [.int (xs (i + 1)), .int (xs (i + 2))]) (ci := 11) (d := 3) C0 dL_law_411 (c_X11_person (l := l) (D := D) (w := v) (k := g2) h2) cw_L_44 (by decide) rfl mk_X11_person (o_X11_person (w := v) (k := g2) h2) ⟨Nat.le_of_ble_eq_true rfl, Nat.le_of_ble_eq_true rfl⟩ (by simp [Value.category]) ?_
  refine LX.icmp_eq C0 dL_law_414 (tgt := 1431) rfl rfl ?_
  exact K g2 hI2
theorem law_put {l : Launch} {D : va_G} {p : Program} {e : Env} {s : State} {m : MethodId} {below : List Frame} {meth : Method} {c : Code} {b Ln : Nat} {xs : Nat → Int32} {S : e_S} {Inv : e_G → Prop} {g : e_G} {i : Nat} (C0 : lw_At p s m meth c b Ln xs) (hL : Ln ≤ 3584) (hi : i + 7 ≤ Ln) (hI : Inv g) (ok : OK_put S Inv) (K : ∀ g2, Inv g2 → LX l D p e s m below meth c b 1431 [(0, .ref 4000000), (1, .ref 0), (2, .ref 76), (3, .int (nI i))] [] (S, g2)) : LX l D p e s m below meth c b 419 [(0, .ref 4000000), (1, .ref 0), (2, .ref 76), (3, .int (nI i))] [] (S, g) := by
  obtain ⟨v, g1, g2, h1, h2, hI2⟩ := ok g (xs (i + 1)) (xs (i + 2)) (xs (i + 3)) hI
  refine LX.aload_n C0 dL_law_419 rfl (j := 1) rfl ?_
  refine LX.arg (k := 1) C0 hL dL_law_420 dL_law_421 dL_law_422 kN_1 dL_law_423 dL_law_424 (by omega) rfl rfl ?_
  refine LX.arg (k := 2) C0 hL dL_law_425 dL_law_426 dL_law_427 kN_2 dL_law_428 dL_law_429 (by omega) rfl rfl ?_
  refine LX.arg (k := 3) C0 hL dL_law_430 dL_law_431 dL_law_432 kN_3 dL_law_433 dL_law_434 (by omega) rfl rfl ?_
  refine LX.callV (av := [.int (xs (i + 1)), .int (xs (i + 2)), .int (xs (i + 3))]) (ci := 10) (d := 5) C0 dL_law_435 (c_X10_put (l := l) (D := D) (w := v) (k := g1) h1) cw_L_45 (by decide) rfl mk_X10_put (o_X10_put (w := v) (k := g1) h1) ⟨Nat.le_of_ble_eq_true rfl, Nat.le_of_ble_eq_true rfl⟩ (by simp [Value.category]) ?_
  refine LX.aload_n C0 dL_law_438 rfl (j := 2) rfl ?_
  refine LX.arg (k := 1) C0 hL dL_law_439 dL_law_440 dL_law_441 kN_1 dL_law_442 dL_law_443 (by omega) rfl rfl ?_
  refine LX.arg (k := 2) C0 hL dL_law_444 dL_law_445 dL_law_446 kN_2 dL_law_447 dL_law_448 (by omega) rfl rfl ?_
  refine LX.arg (k := 3) C0 hL dL_law_449 dL_law_450 dL_law_451 kN_3 dL_law_452 dL_law_453 (by omega) rfl rfl ?_
  refine LX.callV (av := [.int (xs (i + 1)), .int (xs (i + 2)), .int (xs (i + 3))]) (ci := 11) (d := 3) C0 dL_law_454 (c_X11_put (l := l) (D := D) (w := v) (k := g2) h2) cw_L_49 (by decide) rfl mk_X11_put (o_X11_put (w := v) (k := g2) h2) ⟨Nat.le_of_ble_eq_true rfl, Nat.le_of_ble_eq_true rfl⟩ (by simp [Value.category]) ?_
  refine LX.icmp_eq C0 dL_law_457 (tgt := 1431) rfl rfl ?_
  exact K g2 hI2
theorem law_told {l : Launch} {D : va_G} {p : Program} {e : Env} {s : State} {m : MethodId} {below : List Frame} {meth : Method} {c : Code} {b Ln : Nat} {xs : Nat → Int32} {S : e_S} {Inv : e_G → Prop} {g : e_G} {i : Nat} (C0 : lw_At p s m meth c b Ln xs) (hL : Ln ≤ 3584) (hi : i + 7 ≤ Ln) (hI : Inv g) (ok : OK_told S Inv) (K : ∀ g2, Inv g2 → LX l D p e s m below meth c b 1431 [(0, .ref 4000000), (1, .ref 0), (2, .ref 76), (3, .int (nI i))] [] (S, g2)) : LX l D p e s m below meth c b 462 [(0, .ref 4000000), (1, .ref 0), (2, .ref 76), (3, .int (nI i))] [] (S, g) := by
  obtain ⟨v, g1, g2, h1, h2, hI2⟩ := ok g (xs (i + 1)) (xs (i + 2)) hI
  refine LX.aload_n C0 dL_law_462 rfl (j := 1) rfl ?_
  refine LX.arg (k := 1) C0 hL dL_law_463 dL_law_464 dL_law_465 kN_1 dL_law_466 dL_law_467 (by omega) rfl rfl ?_
  refine LX.arg (k := 2) C0 hL dL_law_468 dL_law_469 dL_law_470 kN_2 dL_law_471 dL_law_472 (by omega) rfl rfl ?_
  refine LX.callV (av := [.int (xs (i + 1)), .int (xs (i + 2))]) (ci := 10) (d := 5) C0 dL_law_473 (c_X10_told (l := l) (D := D) (w := v) (k := g1) h1) cw_L_50 (by decide) rfl mk_X10_told (o_X10_told (w := v) (k := g1) h1) ⟨Nat.le_of_ble_eq_true rfl, Nat.le_of_ble_eq_true rfl⟩ (by simp [Value.category]) ?_
  refine LX.aload_n C0 dL_law_476 rfl (j := 2) rfl ?_
  refine LX.arg (k := 1) C0 hL dL_law_477 dL_law_478 dL_law_479 kN_1 dL_law_480 dL_law_481 (by omega) rfl rfl ?_
  refine LX.arg (k := 2) C0 hL dL_law_482 dL_law_483 dL_law_484 kN_2 dL_law_485 dL_law_486 (by omega) rfl rfl ?_
  refine LX.callV (av := [.int (xs (i + 1)), .int (xs (i + 2))]) (ci := 11) (d := 5) C0 dL_law_487 (c_X11_told (l := l) (D := D) (w := v) (k := g2) h2) cw_L_53 (by decide) rfl mk_X11_told (o_X11_told (w := v) (k := g2) h2) ⟨Nat.le_of_ble_eq_true rfl, Nat.le_of_ble_eq_true rfl⟩ (by simp [Value.category]) ?_
  refine LX.icmp_eq C0 dL_law_490 (tgt := 1431) rfl rfl ?_
  exact K g2 hI2
theorem law_street {l : Launch} {D : va_G} {p : Program} {e : Env} {s : State} {m : MethodId} {below : List Frame} {meth : Method} {c : Code} {b Ln : Nat} {xs : Nat → Int32} {S : e_S} {Inv : e_G → Prop} {g : e_G} {i : Nat} (C0 : lw_At p s m meth c b Ln xs) (hL : Ln ≤ 3584) (hi : i + 7 ≤ Ln) (hI : Inv g) (ok : OK_street S Inv) (K : ∀ g2, Inv g2 → LX l D p e s m below meth c b 1431 [(0, .ref 4000000), (1, .ref 0), (2, .ref 76), (3, .int (nI i))] [] (S, g2)) : LX l D p e s m below meth c b 495 [(0, .ref 4000000), (1, .ref 0), (2, .ref 76), (3, .int (nI i))] [] (S, g) := by
  obtain ⟨v, g1, g2, h1, h2, hI2⟩ := ok g (xs (i + 1)) hI
  refine LX.aload_n C0 dL_law_495 rfl (j := 1) rfl ?_
  refine LX.arg (k := 1) C0 hL dL_law_496 dL_law_497 dL_law_498 kN_1 dL_law_499 dL_law_500 (by omega) rfl rfl ?_
  refine LX.callV (av := [.int (xs (i + 1))]) (ci := 10) (d := 4) C0 dL_law_501 (c_X10_street (l := l) (D := D) (w := v) (k := g1) h1) cw_L_54 (by decide) rfl mk_X10_street (o_X10_street (w := v) (k := g1) h1) ⟨Nat.le_of_ble_eq_true rfl, Nat.le_of_ble_eq_true rfl⟩ (by simp [Value.category]) ?_
  refine LX.aload_n C0 dL_law_504 rfl (j := 2) rfl ?_
  refine LX.arg (k := 1) C0 hL dL_law_505 dL_law_506 dL_law_507 kN_1 dL_law_508 dL_law_509 (by omega) rfl rfl ?_
  refine LX.callV (av := [.int (xs (i + 1))]) (ci := 11) (d := 4) C0 dL_law_510 (c_X11_street (l := l) (D := D) (w := v) (k := g2) h2) cw_L_57 (by decide) rfl mk_X11_street (o_X11_street (w := v) (k := g2) h2) ⟨Nat.le_of_ble_eq_true rfl, Nat.le_of_ble_eq_true rfl⟩ (by simp [Value.category]) ?_
  refine LX.icmp_eq C0 dL_law_513 (tgt := 1431) rfl rfl ?_
  exact K g2 hI2
theorem law_chain {l : Launch} {D : va_G} {p : Program} {e : Env} {s : State} {m : MethodId} {below : List Frame} {meth : Method} {c : Code} {b Ln : Nat} {xs : Nat → Int32} {S : e_S} {Inv : e_G → Prop} {g : e_G} {i : Nat} (C0 : lw_At p s m meth c b Ln xs) (hL : Ln ≤ 3584) (hi : i + 7 ≤ Ln) (hI : Inv g) (ok : OK_chain S Inv) (K : ∀ g2, Inv g2 → LX l D p e s m below meth c b 1431 [(0, .ref 4000000), (1, .ref 0), (2, .ref 76), (3, .int (nI i))] [] (S, g2)) : LX l D p e s m below meth c b 518 [(0, .ref 4000000), (1, .ref 0), (2, .ref 76), (3, .int (nI i))] [] (S, g) := by
  obtain ⟨v, g1, g2, h1, h2, hI2⟩ := ok g (xs (i + 1)) hI
  refine LX.aload_n C0 dL_law_518 rfl (j := 1) rfl ?_
  refine LX.arg (k := 1) C0 hL dL_law_519 dL_law_520 dL_law_521 kN_1 dL_law_522 dL_law_523 (by omega) rfl rfl ?_
  refine LX.callV (av := [.int (xs (i + 1))]) (ci := 10) (d := 2) C0 dL_law_524 (c_X10_chain (l := l) (D := D) (w := v) (k := g1) h1) cw_L_58 (by decide) rfl mk_X10_chain (o_X10_chain (w := v) (k := g1) h1) ⟨Nat.le_of_ble_eq_true rfl, Nat.le_of_ble_eq_true rfl⟩ (by simp [Value.category]) ?_
  refine LX.aload_n C0 dL_law_527 rfl (j := 2) rfl ?_
  refine LX.arg (k := 1) C0 hL dL_law_528 dL_law_529 dL_law_530 kN_1 dL_law_531 dL_law_532 (by omega) rfl rfl ?_
  refine LX.callV (av := [.int (xs (i + 1))]) (ci := 11) (d := 3) C0 dL_law_533 (c_X11_chain (l := l) (D := D) (w := v) (k := g2) h2) cw_L_61 (by decide) rfl mk_X11_chain (o_X11_chain (w := v) (k := g2) h2) ⟨Nat.le_of_ble_eq_true rfl, Nat.le_of_ble_eq_true rfl⟩ (by simp [Value.category]) ?_
  refine LX.icmp_eq C0 dL_law_536 (tgt := 1431) rfl rfl ?_
  exact K g2 hI2
theorem law_day {l : Launch} {D : va_G} {p : Program} {e : Env} {s : State} {m : MethodId} {below : List Frame} {meth : Method} {c : Code} {b Ln : Nat} {xs : Nat → Int32} {S : e_S} {Inv : e_G → Prop} {g : e_G} {i : Nat} (C0 : lw_At p s m meth c b Ln xs) (hL : Ln ≤ 3584) (hi : i + 7 ≤ Ln) (hI : Inv g) (ok : OK_day S Inv) (K : ∀ g2, Inv g2 → LX l D p e s m below meth c b 1431 [(0, .ref 4000000), (1, .ref 0), (2, .ref 76), (3, .int (nI i))] [] (S, g2)) : LX l D p e s m below meth c b 541 [(0, .ref 4000000), (1, .ref 0), (2, .ref 76), (3, .int (nI i))] [] (S, g) := by
  obtain ⟨v, g1, g2, h1, h2, hI2⟩ := ok g  hI
  refine LX.aload_n C0 dL_law_541 rfl (j := 1) rfl ?_
  refine LX.callV (av := []) (ci := 10) (d := 6) C0 dL_law_542 (c_X10_day (l := l) (D := D) (w := v) (k := g1) h1) cw_L_62 (by decide) rfl mk_X10_day (o_X10_day (w := v) (k := g1) h1) ⟨Nat.le_of_ble_eq_true rfl, Nat.le_of_ble_eq_true rfl⟩ (by simp [Value.category]) ?_
  refine LX.aload_n C0 dL_law_545 rfl (j := 2) rfl ?_
  refine LX.callV (av := []) (ci := 11) (d := 6) C0 dL_law_546 (c_X11_day (l := l) (D := D) (w := v) (k := g2) h2) cw_L_65 (by decide) rfl mk_X11_day (o_X11_day (w := v) (k := g2) h2) ⟨Nat.le_of_ble_eq_true rfl, Nat.le_of_ble_eq_true rfl⟩ (by simp [Value.category]) ?_
  refine LX.icmp_eq C0 dL_law_549 (tgt := 1431) rfl rfl ?_
  exact K g2 hI2
theorem law_callIn {l : Launch} {D : va_G} {p : Program} {e : Env} {s : State} {m : MethodId} {below : List Frame} {meth : Method} {c : Code} {b Ln : Nat} {xs : Nat → Int32} {S : e_S} {Inv : e_G → Prop} {g : e_G} {i : Nat} (C0 : lw_At p s m meth c b Ln xs) (hL : Ln ≤ 3584) (hi : i + 7 ≤ Ln) (hI : Inv g) (ok : OK_callIn S Inv) (K : ∀ g2, Inv g2 → LX l D p e s m below meth c b 1431 [(0, .ref 4000000), (1, .ref 0), (2, .ref 76), (3, .int (nI i))] [] (S, g2)) : LX l D p e s m below meth c b 554 [(0, .ref 4000000), (1, .ref 0), (2, .ref 76), (3, .int (nI i))] [] (S, g) := by
  obtain ⟨v, g1, g2, h1, h2, hI2⟩ := ok g (xs (i + 1)) hI
  refine LX.aload_n C0 dL_law_554 rfl (j := 1) rfl ?_
  refine LX.arg (k := 1) C0 hL dL_law_555 dL_law_556 dL_law_557 kN_1 dL_law_558 dL_law_559 (by omega) rfl rfl ?_
  refine LX.callV (av := [.int (xs (i + 1))]) (ci := 10) (d := 2) C0 dL_law_560 (c_X10_callIn (l := l) (D := D) (w := v) (k := g1) h1) cw_L_66 (by decide) rfl mk_X10_callIn (o_X10_callIn (w := v) (k := g1) h1) ⟨Nat.le_of_ble_eq_true rfl, Nat.le_of_ble_eq_true rfl⟩ (by simp [Value.category]) ?_
  refine LX.aload_n C0 dL_law_563 rfl (j := 2) rfl ?_
  refine LX.arg (k := 1) C0 hL dL_law_564 dL_law_565 dL_law_566 kN_1 dL_law_567 dL_law_568 (by omega) rfl rfl ?_
  refine LX.callV (av := [.int (xs (i + 1))]) (ci := 11) (d := 3) C0 dL_law_569 (c_X11_callIn (l := l) (D := D) (w := v) (k := g2) h2) cw_L_69 (by decide) rfl mk_X11_callIn (o_X11_callIn (w := v) (k := g2) h2) ⟨Nat.le_of_ble_eq_true rfl, Nat.le_of_ble_eq_true rfl⟩ (by simp [Value.category]) ?_
  refine LX.icmp_eq C0 dL_law_572 (tgt := 1431) rfl rfl ?_
  exact K g2 hI2
theorem law_crane {l : Launch} {D : va_G} {p : Program} {e : Env} {s : State} {m : MethodId} {below : List Frame} {meth : Method} {c : Code} {b Ln : Nat} {xs : Nat → Int32} {S : e_S} {Inv : e_G → Prop} {g : e_G} {i : Nat} (C0 : lw_At p s m meth c b Ln xs) (hL : Ln ≤ 3584) (hi : i + 7 ≤ Ln) (hI : Inv g) (ok : OK_crane S Inv) (K : ∀ g2, Inv g2 → LX l D p e s m below meth c b 1431 [(0, .ref 4000000), (1, .ref 0), (2, .ref 76), (3, .int (nI i))] [] (S, g2)) : LX l D p e s m below meth c b 577 [(0, .ref 4000000), (1, .ref 0), (2, .ref 76), (3, .int (nI i))] [] (S, g) := by
  obtain ⟨v, g1, g2, h1, h2, hI2⟩ := ok g (xs (i + 1)) (xs (i + 2)) hI
  refine LX.aload_n C0 dL_law_577 rfl (j := 1) rfl ?_
  refine LX.arg (k := 1) C0 hL dL_law_578 dL_law_579 dL_law_580 kN_1 dL_law_581 dL_law_582 (by omega) rfl rfl ?_
  refine LX.arg (k := 2) C0 hL dL_law_583 dL_law_584 dL_law_585 kN_2 dL_law_586 dL_law_587 (by omega) rfl rfl ?_
  refine LX.callV (av := [.int (xs (i + 1)), .int (xs (i + 2))]) (ci := 10) (d := 5) C0 dL_law_588 (c_X10_crane (l := l) (D := D) (w := v) (k := g1) h1) cw_L_70 (by decide) rfl mk_X10_crane (o_X10_crane (w := v) (k := g1) h1) ⟨Nat.le_of_ble_eq_true rfl, Nat.le_of_ble_eq_true rfl⟩ (by simp [Value.category]) ?_
  refine LX.aload_n C0 dL_law_591 rfl (j := 2) rfl ?_
  refine LX.arg (k := 1) C0 hL dL_law_592 dL_law_593 dL_law_594 kN_1 dL_law_595 dL_law_596 (by omega) rfl rfl ?_
  refine LX.arg (k := 2) C0 hL dL_law_597 dL_law_598 dL_law_599 kN_2 dL_law_600 dL_law_601 (by omega) rfl rfl ?_
  refine LX.callV (av := [.int (xs (i + 1)), .int (xs (i + 2))]) (ci := 11) (d := 3) C0 dL_law_602 (c_X11_crane (l := l) (D := D) (w := v) (k := g2) h2) cw_L_73 (by decide) rfl mk_X11_crane (o_X11_crane (w := v) (k := g2) h2) ⟨Nat.le_of_ble_eq_true rfl, Nat.le_of_ble_eq_true rfl⟩ (by simp [Value.category]) ?_
  refine LX.icmp_eq C0 dL_law_605 (tgt := 1431) rfl rfl ?_
  exact K g2 hI2
theorem law_run {l : Launch} {D : va_G} {p : Program} {e : Env} {s : State} {m : MethodId} {below : List Frame} {meth : Method} {c : Code} {b Ln : Nat} {xs : Nat → Int32} {S : e_S} {Inv : e_G → Prop} {g : e_G} {i : Nat} (C0 : lw_At p s m meth c b Ln xs) (hL : Ln ≤ 3584) (hi : i + 7 ≤ Ln) (hI : Inv g) (ok : OK_run S Inv) (K : ∀ g2, Inv g2 → LX l D p e s m below meth c b 1431 [(0, .ref 4000000), (1, .ref 0), (2, .ref 76), (3, .int (nI i))] [] (S, g2)) : LX l D p e s m below meth c b 610 [(0, .ref 4000000), (1, .ref 0), (2, .ref 76), (3, .int (nI i))] [] (S, g) := by
  obtain ⟨v, g1, g2, h1, h2, hI2⟩ := ok g (xs (i + 1)) (xs (i + 2)) hI
  refine LX.aload_n C0 dL_law_610 rfl (j := 1) rfl ?_
  refine LX.arg (k := 1) C0 hL dL_law_611 dL_law_612 dL_law_613 kN_1 dL_law_614 dL_law_615 (by omega) rfl rfl ?_
  refine LX.arg (k := 2) C0 hL dL_law_616 dL_law_617 dL_law_618 kN_2 dL_law_619 dL_law_620 (by omega) rfl rfl ?_
  refine LX.callV (av := [.int (xs (i + 1)), .int (xs (i + 2))]) (ci := 10) (d := 6) C0 dL_law_621 (c_X10_run (l := l) (D := D) (w := v) (k := g1) h1) cw_L_74 (by decide) rfl mk_X10_run (o_X10_run (w := v) (k := g1) h1) ⟨Nat.le_of_ble_eq_true rfl, Nat.le_of_ble_eq_true rfl⟩ (by simp [Value.category]) ?_
  refine LX.aload_n C0 dL_law_624 rfl (j := 2) rfl ?_
  refine LX.arg (k := 1) C0 hL dL_law_625 dL_law_626 dL_law_627 kN_1 dL_law_628 dL_law_629 (by omega) rfl rfl ?_
  refine LX.arg (k := 2) C0 hL dL_law_630 dL_law_631 dL_law_632 kN_2 dL_law_633 dL_law_634 (by omega) rfl rfl ?_
  refine LX.callV (av := [.int (xs (i + 1)), .int (xs (i + 2))]) (ci := 11) (d := 7) C0 dL_law_635 (c_X11_run (l := l) (D := D) (w := v) (k := g2) h2) cw_L_77 (by decide) rfl mk_X11_run (o_X11_run (w := v) (k := g2) h2) ⟨Nat.le_of_ble_eq_true rfl, Nat.le_of_ble_eq_true rfl⟩ (by simp [Value.category]) ?_
  refine LX.icmp_eq C0 dL_law_638 (tgt := 1431) rfl rfl ?_
  exact K g2 hI2
theorem law_keeps {l : Launch} {D : va_G} {p : Program} {e : Env} {s : State} {m : MethodId} {below : List Frame} {meth : Method} {c : Code} {b Ln : Nat} {xs : Nat → Int32} {S : e_S} {Inv : e_G → Prop} {g : e_G} {i : Nat} (C0 : lw_At p s m meth c b Ln xs) (hL : Ln ≤ 3584) (hi : i + 7 ≤ Ln) (hI : Inv g) (ok : OK_keeps S Inv) (K : ∀ g2, Inv g2 → LX l D p e s m below meth c b 1431 [(0, .ref 4000000), (1, .ref 0), (2, .ref 76), (3, .int (nI i))] [] (S, g2)) : LX l D p e s m below meth c b 643 [(0, .ref 4000000), (1, .ref 0), (2, .ref 76), (3, .int (nI i))] [] (S, g) := by
  obtain ⟨v, g1, g2, h1, h2, hI2⟩ := ok g (xs (i + 1)) hI
  refine LX.aload_n C0 dL_law_643 rfl (j := 1) rfl ?_
  refine LX.arg (k := 1) C0 hL dL_law_644 dL_law_645 dL_law_646 kN_1 dL_law_647 dL_law_648 (by omega) rfl rfl ?_
  refine LX.callV (av := [.int (xs (i + 1))]) (ci := 10) (d := 7) C0 dL_law_649 (c_X10_keeps (l := l) (D := D) (w := v) (k := g1) h1) cw_L_78 (by decide) rfl mk_X10_keeps (o_X10_keeps (w := v) (k := g1) h1) ⟨Nat.le_of_ble_eq_true rfl, Nat.le_of_ble_eq_true rfl⟩ (by simp [Value.category]) ?_
  refine LX.aload_n C0 dL_law_652 rfl (j := 2) rfl ?_
  refine LX.arg (k := 1) C0 hL dL_law_653 dL_law_654 dL_law_655 kN_1 dL_law_656 dL_law_657 (by omega) rfl rfl ?_
  refine LX.callV (av := [.int (xs (i + 1))]) (ci := 11) (d := 7) C0 dL_law_658 (c_X11_keeps (l := l) (D := D) (w := v) (k := g2) h2) cw_L_81 (by decide) rfl mk_X11_keeps (o_X11_keeps (w := v) (k := g2) h2) ⟨Nat.le_of_ble_eq_true rfl, Nat.le_of_ble_eq_true rfl⟩ (by simp [Value.category]) ?_
  refine LX.icmp_eq C0 dL_law_661 (tgt := 1431) rfl rfl ?_
  exact K g2 hI2
theorem law_turn {l : Launch} {D : va_G} {p : Program} {e : Env} {s : State} {m : MethodId} {below : List Frame} {meth : Method} {c : Code} {b Ln : Nat} {xs : Nat → Int32} {S : e_S} {Inv : e_G → Prop} {g : e_G} {i : Nat} (C0 : lw_At p s m meth c b Ln xs) (hL : Ln ≤ 3584) (hi : i + 7 ≤ Ln) (hI : Inv g) (ok : OK_turn S Inv) (K : ∀ g2, Inv g2 → LX l D p e s m below meth c b 1431 [(0, .ref 4000000), (1, .ref 0), (2, .ref 76), (3, .int (nI i))] [] (S, g2)) : LX l D p e s m below meth c b 666 [(0, .ref 4000000), (1, .ref 0), (2, .ref 76), (3, .int (nI i))] [] (S, g) := by
  obtain ⟨v, g1, g2, h1, h2, hI2⟩ := ok g (xs (i + 1)) hI
  refine LX.aload_n C0 dL_law_666 rfl (j := 1) rfl ?_
  refine LX.arg (k := 1) C0 hL dL_law_667 dL_law_668 dL_law_669 kN_1 dL_law_670 dL_law_671 (by omega) rfl rfl ?_
  refine LX.callV (av := [.int (xs (i + 1))]) (ci := 10) (d := 4) C0 dL_law_672 (c_X10_turn (l := l) (D := D) (w := v) (k := g1) h1) cw_L_82 (by decide) rfl mk_X10_turn (o_X10_turn (w := v) (k := g1) h1) ⟨Nat.le_of_ble_eq_true rfl, Nat.le_of_ble_eq_true rfl⟩ (by simp [Value.category]) ?_
  refine LX.aload_n C0 dL_law_675 rfl (j := 2) rfl ?_
  refine LX.arg (k := 1) C0 hL dL_law_676 dL_law_677 dL_law_678 kN_1 dL_law_679 dL_law_680 (by omega) rfl rfl ?_
  refine LX.callV (av := [.int (xs (i + 1))]) (ci := 11) (d := 4) C0 dL_law_681 (c_X11_turn (l := l) (D := D) (w := v) (k := g2) h2) cw_L_85 (by decide) rfl mk_X11_turn (o_X11_turn (w := v) (k := g2) h2) ⟨Nat.le_of_ble_eq_true rfl, Nat.le_of_ble_eq_true rfl⟩ (by simp [Value.category]) ?_
  refine LX.icmp_eq C0 dL_law_684 (tgt := 1431) rfl rfl ?_
  exact K g2 hI2
theorem law_safe {l : Launch} {D : va_G} {p : Program} {e : Env} {s : State} {m : MethodId} {below : List Frame} {meth : Method} {c : Code} {b Ln : Nat} {xs : Nat → Int32} {S : e_S} {Inv : e_G → Prop} {g : e_G} {i : Nat} (C0 : lw_At p s m meth c b Ln xs) (hL : Ln ≤ 3584) (hi : i + 7 ≤ Ln) (hI : Inv g) (ok : OK_safe S Inv) (K : ∀ g2, Inv g2 → LX l D p e s m below meth c b 1431 [(0, .ref 4000000), (1, .ref 0), (2, .ref 76), (3, .int (nI i))] [] (S, g2)) : LX l D p e s m below meth c b 689 [(0, .ref 4000000), (1, .ref 0), (2, .ref 76), (3, .int (nI i))] [] (S, g) := by
  obtain ⟨v, g1, g2, h1, h2, hI2⟩ := ok g (xs (i + 1)) (xs (i + 2)) hI
  refine LX.aload_n C0 dL_law_689 rfl (j := 1) rfl ?_
  refine LX.arg (k := 1) C0 hL dL_law_690 dL_law_691 dL_law_692 kN_1 dL_law_693 dL_law_694 (by omega) rfl rfl ?_
  refine LX.arg (k := 2) C0 hL dL_law_695 dL_law_696 dL_law_697 kN_2 dL_law_698 dL_law_699 (by omega) rfl rfl ?_
  refine LX.callV (av := [.int (xs (i + 1)), .int (xs (i + 2))]) (ci := 10) (d := 7) C0 dL_law_700 (c_X10_safe (l := l) (D := D) (w := v) (k := g1) h1) cw_L_86 (by decide) rfl mk_X10_safe (o_X10_safe (w := v) (k := g1) h1) ⟨Nat.le_of_ble_eq_true rfl, Nat.le_of_ble_eq_true rfl⟩ (by simp [Value.category]) ?_
  refine LX.aload_n C0 dL_law_703 rfl (j := 2) rfl ?_
  refine LX.arg (k := 1) C0 hL dL_law_704 dL_law_705 dL_law_706 kN_1 dL_law_707 dL_law_708 (by omega) rfl rfl ?_
  refine LX.arg (k := 2) C0 hL dL_law_709 dL_law_710 dL_law_711 kN_2 dL_law_712 dL_law_713 (by omega) rfl rfl ?_
  refine LX.callV (av := [.int (xs (i + 1)), .int (xs (i + 2))]) (ci := 11) (d := 7) C0 dL_law_714 (c_X11_safe (l := l) (D := D) (w := v) (k := g2) h2) cw_L_89 (by decide) rfl mk_X11_safe (o_X11_safe (w := v) (k := g2) h2) ⟨Nat.le_of_ble_eq_true rfl, Nat.le_of_ble_eq_true rfl⟩ (by simp [Value.category]) ?_
  refine LX.icmp_eq C0 dL_law_717 (tgt := 1431) rfl rfl ?_
  exact K g2 hI2
theorem law_warn {l : Launch} {D : va_G} {p : Program} {e : Env} {s : State} {m : MethodId} {below : List Frame} {meth : Method} {c : Code} {b Ln : Nat} {xs : Nat → Int32} {S : e_S} {Inv : e_G → Prop} {g : e_G} {i : Nat} (C0 : lw_At p s m meth c b Ln xs) (hL : Ln ≤ 3584) (hi : i + 7 ≤ Ln) (hI : Inv g) (ok : OK_warn S Inv) (K : ∀ g2, Inv g2 → LX l D p e s m below meth c b 1431 [(0, .ref 4000000), (1, .ref 0), (2, .ref 76), (3, .int (nI i))] [] (S, g2)) : LX l D p e s m below meth c b 722 [(0, .ref 4000000), (1, .ref 0), (2, .ref 76), (3, .int (nI i))] [] (S, g) := by
  obtain ⟨v, g1, g2, h1, h2, hI2⟩ := ok g (xs (i + 1)) (xs (i + 2)) hI
  refine LX.aload_n C0 dL_law_722 rfl (j := 1) rfl ?_
  refine LX.arg (k := 1) C0 hL dL_law_723 dL_law_724 dL_law_725 kN_1 dL_law_726 dL_law_727 (by omega) rfl rfl ?_
  refine LX.arg (k := 2) C0 hL dL_law_728 dL_law_729 dL_law_730 kN_2 dL_law_731 dL_law_732 (by omega) rfl rfl ?_
  refine LX.callV (av := [.int (xs (i + 1)), .int (xs (i + 2))]) (ci := 10) (d := 7) C0 dL_law_733 (c_X10_warn (l := l) (D := D) (w := v) (k := g1) h1) cw_L_90 (by decide) rfl mk_X10_warn (o_X10_warn (w := v) (k := g1) h1) ⟨Nat.le_of_ble_eq_true rfl, Nat.le_of_ble_eq_true rfl⟩ (by simp [Value.category]) ?_
  refine LX.aload_n C0 dL_law_736 rfl (j := 2) rfl ?_
  refine LX.arg (k := 1) C0 hL dL_law_737 dL_law_738 dL_law_739 kN_1 dL_law_740 dL_law_741 (by omega) rfl rfl ?_
  refine LX.arg (k := 2) C0 hL dL_law_742 dL_law_743 dL_law_744 kN_2 dL_law_745 dL_law_746 (by omega) rfl rfl ?_
  refine LX.callV (av := [.int (xs (i + 1)), .int (xs (i + 2))]) (ci := 11) (d := 8) C0 dL_law_747 (c_X11_warn (l := l) (D := D) (w := v) (k := g2) h2) cw_L_93 (by decide) rfl mk_X11_warn (o_X11_warn (w := v) (k := g2) h2) ⟨Nat.le_of_ble_eq_true rfl, Nat.le_of_ble_eq_true rfl⟩ (by simp [Value.category]) ?_
  refine LX.icmp_eq C0 dL_law_750 (tgt := 1431) rfl rfl ?_
  exact K g2 hI2
theorem law_untangle {l : Launch} {D : va_G} {p : Program} {e : Env} {s : State} {m : MethodId} {below : List Frame} {meth : Method} {c : Code} {b Ln : Nat} {xs : Nat → Int32} {S : e_S} {Inv : e_G → Prop} {g : e_G} {i : Nat} (C0 : lw_At p s m meth c b Ln xs) (hL : Ln ≤ 3584) (hi : i + 7 ≤ Ln) (hI : Inv g) (ok : OK_untangle S Inv) (K : ∀ g2, Inv g2 → LX l D p e s m below meth c b 1431 [(0, .ref 4000000), (1, .ref 0), (2, .ref 76), (3, .int (nI i))] [] (S, g2)) : LX l D p e s m below meth c b 755 [(0, .ref 4000000), (1, .ref 0), (2, .ref 76), (3, .int (nI i))] [] (S, g) := by
  obtain ⟨v, g1, g2, h1, h2, hI2⟩ := ok g (xs (i + 1)) (xs (i + 2)) hI
  refine LX.aload_n C0 dL_law_755 rfl (j := 1) rfl ?_
  refine LX.arg (k := 1) C0 hL dL_law_756 dL_law_757 dL_law_758 kN_1 dL_law_759 dL_law_760 (by omega) rfl rfl ?_
  refine LX.arg (k := 2) C0 hL dL_law_761 dL_law_762 dL_law_763 kN_2 dL_law_764 dL_law_765 (by omega) rfl rfl ?_
  refine LX.callV (av := [.int (xs (i + 1)), .int (xs (i + 2))]) (ci := 10) (d := 3) C0 dL_law_766 (c_X10_untangle (l := l) (D := D) (w := v) (k := g1) h1) cw_L_94 (by decide) rfl mk_X10_untangle (o_X10_untangle (w := v) (k := g1) h1) ⟨Nat.le_of_ble_eq_true rfl, Nat.le_of_ble_eq_true rfl⟩ (by simp [Value.category]) ?_
  refine LX.aload_n C0 dL_law_769 rfl (j := 2) rfl ?_
  refine LX.arg (k := 1) C0 hL dL_law_770 dL_law_771 dL_law_772 kN_1 dL_law_773 dL_law_774 (by omega) rfl rfl ?_
  refine LX.arg (k := 2) C0 hL dL_law_775 dL_law_776 dL_law_777 kN_2 dL_law_778 dL_law_779 (by omega) rfl rfl ?_
  refine LX.callV (av := [.int (xs (i + 1)), .int (xs (i + 2))]) (ci := 11) (d := 3) C0 dL_law_780 (c_X11_untangle (l := l) (D := D) (w := v) (k := g2) h2) cw_L_97 (by decide) rfl mk_X11_untangle (o_X11_untangle (w := v) (k := g2) h2) ⟨Nat.le_of_ble_eq_true rfl, Nat.le_of_ble_eq_true rfl⟩ (by simp [Value.category]) ?_
  refine LX.icmp_eq C0 dL_law_783 (tgt := 1431) rfl rfl ?_
  exact K g2 hI2
theorem law_strain {l : Launch} {D : va_G} {p : Program} {e : Env} {s : State} {m : MethodId} {below : List Frame} {meth : Method} {c : Code} {b Ln : Nat} {xs : Nat → Int32} {S : e_S} {Inv : e_G → Prop} {g : e_G} {i : Nat} (C0 : lw_At p s m meth c b Ln xs) (hL : Ln ≤ 3584) (hi : i + 7 ≤ Ln) (hI : Inv g) (ok : OK_strain S Inv) (K : ∀ g2, Inv g2 → LX l D p e s m below meth c b 1431 [(0, .ref 4000000), (1, .ref 0), (2, .ref 76), (3, .int (nI i))] [] (S, g2)) : LX l D p e s m below meth c b 788 [(0, .ref 4000000), (1, .ref 0), (2, .ref 76), (3, .int (nI i))] [] (S, g) := by
  obtain ⟨v, g1, g2, h1, h2, hI2⟩ := ok g (xs (i + 1)) (xs (i + 2)) hI
  refine LX.aload_n C0 dL_law_788 rfl (j := 1) rfl ?_
  refine LX.arg (k := 1) C0 hL dL_law_789 dL_law_790 dL_law_791 kN_1 dL_law_792 dL_law_793 (by omega) rfl rfl ?_
  refine LX.arg (k := 2) C0 hL dL_law_794 dL_law_795 dL_law_796 kN_2 dL_law_797 dL_law_798 (by omega) rfl rfl ?_
  refine LX.callV (av := [.int (xs (i + 1)), .int (xs (i + 2))]) (ci := 10) (d := 5) C0 dL_law_799 (c_X10_strain (l := l) (D := D) (w := v) (k := g1) h1) cw_L_98 (by decide) rfl mk_X10_strain (o_X10_strain (w := v) (k := g1) h1) ⟨Nat.le_of_ble_eq_true rfl, Nat.le_of_ble_eq_true rfl⟩ (by simp [Value.category]) ?_
  refine LX.aload_n C0 dL_law_802 rfl (j := 2) rfl ?_
  refine LX.arg (k := 1) C0 hL dL_law_803 dL_law_804 dL_law_805 kN_1 dL_law_806 dL_law_807 (by omega) rfl rfl ?_
  refine LX.arg (k := 2) C0 hL dL_law_808 dL_law_809 dL_law_810 kN_2 dL_law_811 dL_law_812 (by omega) rfl rfl ?_
  refine LX.callV (av := [.int (xs (i + 1)), .int (xs (i + 2))]) (ci := 11) (d := 5) C0 dL_law_813 (c_X11_strain (l := l) (D := D) (w := v) (k := g2) h2) cw_L_102 (by decide) rfl mk_X11_strain (o_X11_strain (w := v) (k := g2) h2) ⟨Nat.le_of_ble_eq_true rfl, Nat.le_of_ble_eq_true rfl⟩ (by simp [Value.category]) ?_
  refine LX.lcmp C0 dL_law_816 ?_
  refine LX.if_eq C0 dL_law_817 (tgt := 1431) rfl (lg_same v) ?_
  exact K g2 hI2
theorem law_judge {l : Launch} {D : va_G} {p : Program} {e : Env} {s : State} {m : MethodId} {below : List Frame} {meth : Method} {c : Code} {b Ln : Nat} {xs : Nat → Int32} {S : e_S} {Inv : e_G → Prop} {g : e_G} {i : Nat} (C0 : lw_At p s m meth c b Ln xs) (hL : Ln ≤ 3584) (hi : i + 7 ≤ Ln) (hI : Inv g) (ok : OK_judge S Inv) (K : ∀ g2, Inv g2 → LX l D p e s m below meth c b 1431 [(0, .ref 4000000), (1, .ref 0), (2, .ref 76), (3, .int (nI i))] [] (S, g2)) : LX l D p e s m below meth c b 822 [(0, .ref 4000000), (1, .ref 0), (2, .ref 76), (3, .int (nI i))] [] (S, g) := by
  obtain ⟨v, g1, g2, h1, h2, hI2⟩ := ok g (xs (i + 1)) (xs (i + 2)) hI
  refine LX.aload_n C0 dL_law_822 rfl (j := 1) rfl ?_
  refine LX.arg (k := 1) C0 hL dL_law_823 dL_law_824 dL_law_825 kN_1 dL_law_826 dL_law_827 (by omega) rfl rfl ?_
  refine LX.arg (k := 2) C0 hL dL_law_828 dL_law_829 dL_law_830 kN_2 dL_law_831 dL_law_832 (by omega) rfl rfl ?_
  refine LX.callV (av := [.int (xs (i + 1)), .int (xs (i + 2))]) (ci := 10) (d := 7) C0 dL_law_833 (c_X10_judge (l := l) (D := D) (w := v) (k := g1) h1) cw_L_103 (by decide) rfl mk_X10_judge (o_X10_judge (w := v) (k := g1) h1) ⟨Nat.le_of_ble_eq_true rfl, Nat.le_of_ble_eq_true rfl⟩ (by simp [Value.category]) ?_
  refine LX.aload_n C0 dL_law_836 rfl (j := 2) rfl ?_
  refine LX.arg (k := 1) C0 hL dL_law_837 dL_law_838 dL_law_839 kN_1 dL_law_840 dL_law_841 (by omega) rfl rfl ?_
  refine LX.arg (k := 2) C0 hL dL_law_842 dL_law_843 dL_law_844 kN_2 dL_law_845 dL_law_846 (by omega) rfl rfl ?_
  refine LX.callV (av := [.int (xs (i + 1)), .int (xs (i + 2))]) (ci := 11) (d := 7) C0 dL_law_847 (c_X11_judge (l := l) (D := D) (w := v) (k := g2) h2) cw_L_106 (by decide) rfl mk_X11_judge (o_X11_judge (w := v) (k := g2) h2) ⟨Nat.le_of_ble_eq_true rfl, Nat.le_of_ble_eq_true rfl⟩ (by simp [Value.category]) ?_
  refine LX.icmp_eq C0 dL_law_850 (tgt := 1431) rfl rfl ?_
  exact K g2 hI2
theorem law_kinds {l : Launch} {D : va_G} {p : Program} {e : Env} {s : State} {m : MethodId} {below : List Frame} {meth : Method} {c : Code} {b Ln : Nat} {xs : Nat → Int32} {S : e_S} {Inv : e_G → Prop} {g : e_G} {i : Nat} (C0 : lw_At p s m meth c b Ln xs) (hL : Ln ≤ 3584) (hi : i + 7 ≤ Ln) (hI : Inv g) (ok : OK_kinds S Inv) (K : ∀ g2, Inv g2 → LX l D p e s m below meth c b 1431 [(0, .ref 4000000), (1, .ref 0), (2, .ref 76), (3, .int (nI i))] [] (S, g2)) : LX l D p e s m below meth c b 855 [(0, .ref 4000000), (1, .ref 0), (2, .ref 76), (3, .int (nI i))] [] (S, g) := by
  obtain ⟨v, g1, g2, h1, h2, hI2⟩ := ok g (xs (i + 1)) (xs (i + 2)) (xs (i + 3)) hI
  refine LX.aload_n C0 dL_law_855 rfl (j := 1) rfl ?_
  refine LX.arg (k := 1) C0 hL dL_law_856 dL_law_857 dL_law_858 kN_1 dL_law_859 dL_law_860 (by omega) rfl rfl ?_
  refine LX.arg (k := 2) C0 hL dL_law_861 dL_law_862 dL_law_863 kN_2 dL_law_864 dL_law_865 (by omega) rfl rfl ?_
  refine LX.arg (k := 3) C0 hL dL_law_866 dL_law_867 dL_law_868 kN_3 dL_law_869 dL_law_870 (by omega) rfl rfl ?_
  refine LX.callV (av := [.int (xs (i + 1)), .int (xs (i + 2)), .int (xs (i + 3))]) (ci := 10) (d := 7) C0 dL_law_871 (c_X10_kinds (l := l) (D := D) (w := v) (k := g1) h1) cw_L_107 (by decide) rfl mk_X10_kinds (o_X10_kinds (w := v) (k := g1) h1) ⟨Nat.le_of_ble_eq_true rfl, Nat.le_of_ble_eq_true rfl⟩ (by simp [Value.category]) ?_
  refine LX.aload_n C0 dL_law_874 rfl (j := 2) rfl ?_
  refine LX.arg (k := 1) C0 hL dL_law_875 dL_law_876 dL_law_877 kN_1 dL_law_878 dL_law_879 (by omega) rfl rfl ?_
  refine LX.arg (k := 2) C0 hL dL_law_880 dL_law_881 dL_law_882 kN_2 dL_law_883 dL_law_884 (by omega) rfl rfl ?_
  refine LX.arg (k := 3) C0 hL dL_law_885 dL_law_886 dL_law_887 kN_3 dL_law_888 dL_law_889 (by omega) rfl rfl ?_
  refine LX.callV (av := [.int (xs (i + 1)), .int (xs (i + 2)), .int (xs (i + 3))]) (ci := 11) (d := 7) C0 dL_law_890 (c_X11_kinds (l := l) (D := D) (w := v) (k := g2) h2) cw_L_110 (by decide) rfl mk_X11_kinds (o_X11_kinds (w := v) (k := g2) h2) ⟨Nat.le_of_ble_eq_true rfl, Nat.le_of_ble_eq_true rfl⟩ (by simp [Value.category]) ?_
  refine LX.icmp_eq C0 dL_law_893 (tgt := 1431) rfl rfl ?_
  exact K g2 hI2
theorem law_windows {l : Launch} {D : va_G} {p : Program} {e : Env} {s : State} {m : MethodId} {below : List Frame} {meth : Method} {c : Code} {b Ln : Nat} {xs : Nat → Int32} {S : e_S} {Inv : e_G → Prop} {g : e_G} {i : Nat} (C0 : lw_At p s m meth c b Ln xs) (hL : Ln ≤ 3584) (hi : i + 7 ≤ Ln) (hI : Inv g) (ok : OK_windows S Inv) (K : ∀ g2, Inv g2 → LX l D p e s m below meth c b 1431 [(0, .ref 4000000), (1, .ref 0), (2, .ref 76), (3, .int (nI i))] [] (S, g2)) : LX l D p e s m below meth c b 898 [(0, .ref 4000000), (1, .ref 0), (2, .ref 76), (3, .int (nI i))] [] (S, g) := by
  obtain ⟨v, g1, g2, h1, h2, hI2⟩ := ok g (xs (i + 1)) (xs (i + 2)) (xs (i + 3)) hI
  refine LX.aload_n C0 dL_law_898 rfl (j := 1) rfl ?_
  refine LX.arg (k := 1) C0 hL dL_law_899 dL_law_900 dL_law_901 kN_1 dL_law_902 dL_law_903 (by omega) rfl rfl ?_
  refine LX.arg (k := 2) C0 hL dL_law_904 dL_law_905 dL_law_906 kN_2 dL_law_907 dL_law_908 (by omega) rfl rfl ?_
  refine LX.arg (k := 3) C0 hL dL_law_909 dL_law_910 dL_law_911 kN_3 dL_law_912 dL_law_913 (by omega) rfl rfl ?_
  refine LX.callV (av := [.int (xs (i + 1)), .int (xs (i + 2)), .int (xs (i + 3))]) (ci := 10) (d := 7) C0 dL_law_914 (c_X10_windows (l := l) (D := D) (w := v) (k := g1) h1) cw_L_111 (by decide) rfl mk_X10_windows (o_X10_windows (w := v) (k := g1) h1) ⟨Nat.le_of_ble_eq_true rfl, Nat.le_of_ble_eq_true rfl⟩ (by simp [Value.category]) ?_
  refine LX.aload_n C0 dL_law_917 rfl (j := 2) rfl ?_
  refine LX.arg (k := 1) C0 hL dL_law_918 dL_law_919 dL_law_920 kN_1 dL_law_921 dL_law_922 (by omega) rfl rfl ?_
  refine LX.arg (k := 2) C0 hL dL_law_923 dL_law_924 dL_law_925 kN_2 dL_law_926 dL_law_927 (by omega) rfl rfl ?_
  refine LX.arg (k := 3) C0 hL dL_law_928 dL_law_929 dL_law_930 kN_3 dL_law_931 dL_law_932 (by omega) rfl rfl ?_
  refine LX.callV (av := [.int (xs (i + 1)), .int (xs (i + 2)), .int (xs (i + 3))]) (ci := 11) (d := 7) C0 dL_law_933 (c_X11_windows (l := l) (D := D) (w := v) (k := g2) h2) cw_L_114 (by decide) rfl mk_X11_windows (o_X11_windows (w := v) (k := g2) h2) ⟨Nat.le_of_ble_eq_true rfl, Nat.le_of_ble_eq_true rfl⟩ (by simp [Value.category]) ?_
  refine LX.icmp_eq C0 dL_law_936 (tgt := 1431) rfl rfl ?_
  exact K g2 hI2
theorem law_leans {l : Launch} {D : va_G} {p : Program} {e : Env} {s : State} {m : MethodId} {below : List Frame} {meth : Method} {c : Code} {b Ln : Nat} {xs : Nat → Int32} {S : e_S} {Inv : e_G → Prop} {g : e_G} {i : Nat} (C0 : lw_At p s m meth c b Ln xs) (hL : Ln ≤ 3584) (hi : i + 7 ≤ Ln) (hI : Inv g) (ok : OK_leans S Inv) (K : ∀ g2, Inv g2 → LX l D p e s m below meth c b 1431 [(0, .ref 4000000), (1, .ref 0), (2, .ref 76), (3, .int (nI i))] [] (S, g2)) : LX l D p e s m below meth c b 941 [(0, .ref 4000000), (1, .ref 0), (2, .ref 76), (3, .int (nI i))] [] (S, g) := by
  obtain ⟨v, g1, g2, h1, h2, hI2⟩ := ok g (xs (i + 1)) (xs (i + 2)) (xs (i + 3)) hI
  refine LX.aload_n C0 dL_law_941 rfl (j := 1) rfl ?_
  refine LX.arg (k := 1) C0 hL dL_law_942 dL_law_943 dL_law_944 kN_1 dL_law_945 dL_law_946 (by omega) rfl rfl ?_
  refine LX.arg (k := 2) C0 hL dL_law_947 dL_law_948 dL_law_949 kN_2 dL_law_950 dL_law_951 (by omega) rfl rfl ?_
  refine LX.arg (k := 3) C0 hL dL_law_952 dL_law_953 dL_law_954 kN_3 dL_law_955 dL_law_956 (by omega) rfl rfl ?_
  refine LX.callV (av := [.int (xs (i + 1)), .int (xs (i + 2)), .int (xs (i + 3))]) (ci := 10) (d := 7) C0 dL_law_957 (c_X10_leans (l := l) (D := D) (w := v) (k := g1) h1) cw_L_115 (by decide) rfl mk_X10_leans (o_X10_leans (w := v) (k := g1) h1) ⟨Nat.le_of_ble_eq_true rfl, Nat.le_of_ble_eq_true rfl⟩ (by simp [Value.category]) ?_
  refine LX.aload_n C0 dL_law_960 rfl (j := 2) rfl ?_
  refine LX.arg (k := 1) C0 hL dL_law_961 dL_law_962 dL_law_963 kN_1 dL_law_964 dL_law_965 (by omega) rfl rfl ?_
  refine LX.arg (k := 2) C0 hL dL_law_966 dL_law_967 dL_law_968 kN_2 dL_law_969 dL_law_970 (by omega) rfl rfl ?_
  refine LX.arg (k := 3) C0 hL dL_law_971 dL_law_972 dL_law_973 kN_3 dL_law_974 dL_law_975 (by omega) rfl rfl ?_
  refine LX.callV (av := [.int (xs (i + 1)), .int (xs (i + 2)), .int (xs (i + 3))]) (ci := 11) (d := 7) C0 dL_law_976 (c_X11_leans (l := l) (D := D) (w := v) (k := g2) h2) cw_L_118 (by decide) rfl mk_X11_leans (o_X11_leans (w := v) (k := g2) h2) ⟨Nat.le_of_ble_eq_true rfl, Nat.le_of_ble_eq_true rfl⟩ (by simp [Value.category]) ?_
  refine LX.icmp_eq C0 dL_law_979 (tgt := 1431) rfl rfl ?_
  exact K g2 hI2
theorem law_whose {l : Launch} {D : va_G} {p : Program} {e : Env} {s : State} {m : MethodId} {below : List Frame} {meth : Method} {c : Code} {b Ln : Nat} {xs : Nat → Int32} {S : e_S} {Inv : e_G → Prop} {g : e_G} {i : Nat} (C0 : lw_At p s m meth c b Ln xs) (hL : Ln ≤ 3584) (hi : i + 7 ≤ Ln) (hI : Inv g) (ok : OK_whose S Inv) (K : ∀ g2, Inv g2 → LX l D p e s m below meth c b 1431 [(0, .ref 4000000), (1, .ref 0), (2, .ref 76), (3, .int (nI i))] [] (S, g2)) : LX l D p e s m below meth c b 984 [(0, .ref 4000000), (1, .ref 0), (2, .ref 76), (3, .int (nI i))] [] (S, g) := by
  obtain ⟨v, g1, g2, h1, h2, hI2⟩ := ok g (xs (i + 1)) hI
  refine LX.aload_n C0 dL_law_984 rfl (j := 1) rfl ?_
  refine LX.arg (k := 1) C0 hL dL_law_985 dL_law_986 dL_law_987 kN_1 dL_law_988 dL_law_989 (by omega) rfl rfl ?_
  refine LX.callV (av := [.int (xs (i + 1))]) (ci := 10) (d := 7) C0 dL_law_990 (c_X10_whose (l := l) (D := D) (w := v) (k := g1) h1) cw_L_119 (by decide) rfl mk_X10_whose (o_X10_whose (w := v) (k := g1) h1) ⟨Nat.le_of_ble_eq_true rfl, Nat.le_of_ble_eq_true rfl⟩ (by simp [Value.category]) ?_
  refine LX.aload_n C0 dL_law_993 rfl (j := 2) rfl ?_
  refine LX.arg (k := 1) C0 hL dL_law_994 dL_law_995 dL_law_996 kN_1 dL_law_997 dL_law_998 (by omega) rfl rfl ?_
  refine LX.callV (av := [.int (xs (i + 1))]) (ci := 11) (d := 7) C0 dL_law_999 (c_X11_whose (l := l) (D := D) (w := v) (k := g2) h2) cw_L_122 (by decide) rfl mk_X11_whose (o_X11_whose (w := v) (k := g2) h2) ⟨Nat.le_of_ble_eq_true rfl, Nat.le_of_ble_eq_true rfl⟩ (by simp [Value.category]) ?_
  refine LX.icmp_eq C0 dL_law_1002 (tgt := 1431) rfl rfl ?_
  exact K g2 hI2
theorem law_laws {l : Launch} {D : va_G} {p : Program} {e : Env} {s : State} {m : MethodId} {below : List Frame} {meth : Method} {c : Code} {b Ln : Nat} {xs : Nat → Int32} {S : e_S} {Inv : e_G → Prop} {g : e_G} {i : Nat} (C0 : lw_At p s m meth c b Ln xs) (hL : Ln ≤ 3584) (hi : i + 7 ≤ Ln) (hI : Inv g) (ok : OK_laws S Inv) (K : ∀ g2, Inv g2 → LX l D p e s m below meth c b 1431 [(0, .ref 4000000), (1, .ref 0), (2, .ref 76), (3, .int (nI i))] [] (S, g2)) : LX l D p e s m below meth c b 1007 [(0, .ref 4000000), (1, .ref 0), (2, .ref 76), (3, .int (nI i))] [] (S, g) := by
  obtain ⟨v, g1, g2, h1, h2, hI2⟩ := ok g (xs (i + 1)) (xs (i + 2)) hI
  refine LX.aload_n C0 dL_law_1007 rfl (j := 1) rfl ?_
  refine LX.arg (k := 1) C0 hL dL_law_1008 dL_law_1009 dL_law_1010 kN_1 dL_law_1011 dL_law_1012 (by omega) rfl rfl ?_
  refine LX.arg (k := 2) C0 hL dL_law_1013 dL_law_1014 dL_law_1015 kN_2 dL_law_1016 dL_law_1017 (by omega) rfl rfl ?_
  refine LX.callV (av := [.int (xs (i + 1)), .int (xs (i + 2))]) (ci := 10) (d := 7) C0 dL_law_1018 (c_X10_laws (l := l) (D := D) (w := v) (k := g1) h1) cw_L_123 (by decide) rfl mk_X10_laws (o_X10_laws (w := v) (k := g1) h1) ⟨Nat.le_of_ble_eq_true rfl, Nat.le_of_ble_eq_true rfl⟩ (by simp [Value.category]) ?_
  refine LX.aload_n C0 dL_law_1021 rfl (j := 2) rfl ?_
  refine LX.arg (k := 1) C0 hL dL_law_1022 dL_law_1023 dL_law_1024 kN_1 dL_law_1025 dL_law_1026 (by omega) rfl rfl ?_
  refine LX.arg (k := 2) C0 hL dL_law_1027 dL_law_1028 dL_law_1029 kN_2 dL_law_1030 dL_law_1031 (by omega) rfl rfl ?_
  refine LX.callV (av := [.int (xs (i + 1)), .int (xs (i + 2))]) (ci := 11) (d := 7) C0 dL_law_1032 (c_X11_laws (l := l) (D := D) (w := v) (k := g2) h2) cw_L_126 (by decide) rfl mk_X11_laws (o_X11_laws (w := v) (k := g2) h2) ⟨Nat.le_of_ble_eq_true rfl, Nat.le_of_ble_eq_true rfl⟩ (by simp [Value.category]) ?_
  refine LX.icmp_eq C0 dL_law_1035 (tgt := 1431) rfl rfl ?_
  exact K g2 hI2
theorem law_film {l : Launch} {D : va_G} {p : Program} {e : Env} {s : State} {m : MethodId} {below : List Frame} {meth : Method} {c : Code} {b Ln : Nat} {xs : Nat → Int32} {S : e_S} {Inv : e_G → Prop} {g : e_G} {i : Nat} (C0 : lw_At p s m meth c b Ln xs) (hL : Ln ≤ 3584) (hi : i + 7 ≤ Ln) (hI : Inv g) (ok : OK_film S Inv) (K : ∀ g2, Inv g2 → LX l D p e s m below meth c b 1431 [(0, .ref 4000000), (1, .ref 0), (2, .ref 76), (3, .int (nI i))] [] (S, g2)) : LX l D p e s m below meth c b 1040 [(0, .ref 4000000), (1, .ref 0), (2, .ref 76), (3, .int (nI i))] [] (S, g) := by
  obtain ⟨v, g1, g2, h1, h2, hI2⟩ := ok g (xs (i + 1)) (xs (i + 2)) (xs (i + 3)) hI
  refine LX.aload_n C0 dL_law_1040 rfl (j := 1) rfl ?_
  refine LX.arg (k := 1) C0 hL dL_law_1041 dL_law_1042 dL_law_1043 kN_1 dL_law_1044 dL_law_1045 (by omega) rfl rfl ?_
  refine LX.arg (k := 2) C0 hL dL_law_1046 dL_law_1047 dL_law_1048 kN_2 dL_law_1049 dL_law_1050 (by omega) rfl rfl ?_
  refine LX.arg (k := 3) C0 hL dL_law_1051 dL_law_1052 dL_law_1053 kN_3 dL_law_1054 dL_law_1055 (by omega) rfl rfl ?_
  refine LX.callV (av := [.int (xs (i + 1)), .int (xs (i + 2)), .int (xs (i + 3))]) (ci := 10) (d := 6) C0 dL_law_1056 (c_X10_film (l := l) (D := D) (w := v) (k := g1) h1) cw_L_127 (by decide) rfl mk_X10_film (o_X10_film (w := v) (k := g1) h1) ⟨Nat.le_of_ble_eq_true rfl, Nat.le_of_ble_eq_true rfl⟩ (by simp [Value.category]) ?_
  refine LX.aload_n C0 dL_law_1059 rfl (j := 2) rfl ?_
  refine LX.arg (k := 1) C0 hL dL_law_1060 dL_law_1061 dL_law_1062 kN_1 dL_law_1063 dL_law_1064 (by omega) rfl rfl ?_
  refine LX.arg (k := 2) C0 hL dL_law_1065 dL_law_1066 dL_law_1067 kN_2 dL_law_1068 dL_law_1069 (by omega) rfl rfl ?_
  refine LX.arg (k := 3) C0 hL dL_law_1070 dL_law_1071 dL_law_1072 kN_3 dL_law_1073 dL_law_1074 (by omega) rfl rfl ?_
  refine LX.callV (av := [.int (xs (i + 1)), .int (xs (i + 2)), .int (xs (i + 3))]) (ci := 11) (d := 6) C0 dL_law_1075 (c_X11_film (l := l) (D := D) (w := v) (k := g2) h2) cw_L_130 (by decide) rfl mk_X11_film (o_X11_film (w := v) (k := g2) h2) ⟨Nat.le_of_ble_eq_true rfl, Nat.le_of_ble_eq_true rfl⟩ (by simp [Value.category]) ?_
  refine LX.icmp_eq C0 dL_law_1078 (tgt := 1431) rfl rfl ?_
  exact K g2 hI2
theorem law_drawn {l : Launch} {D : va_G} {p : Program} {e : Env} {s : State} {m : MethodId} {below : List Frame} {meth : Method} {c : Code} {b Ln : Nat} {xs : Nat → Int32} {S : e_S} {Inv : e_G → Prop} {g : e_G} {i : Nat} (C0 : lw_At p s m meth c b Ln xs) (hL : Ln ≤ 3584) (hi : i + 7 ≤ Ln) (hI : Inv g) (ok : OK_drawn S Inv) (K : ∀ g2, Inv g2 → LX l D p e s m below meth c b 1431 [(0, .ref 4000000), (1, .ref 0), (2, .ref 76), (3, .int (nI i))] [] (S, g2)) : LX l D p e s m below meth c b 1083 [(0, .ref 4000000), (1, .ref 0), (2, .ref 76), (3, .int (nI i))] [] (S, g) := by
  obtain ⟨v, g1, g2, h1, h2, hI2⟩ := ok g (xs (i + 1)) (xs (i + 2)) hI
  refine LX.aload_n C0 dL_law_1083 rfl (j := 1) rfl ?_
  refine LX.arg (k := 1) C0 hL dL_law_1084 dL_law_1085 dL_law_1086 kN_1 dL_law_1087 dL_law_1088 (by omega) rfl rfl ?_
  refine LX.arg (k := 2) C0 hL dL_law_1089 dL_law_1090 dL_law_1091 kN_2 dL_law_1092 dL_law_1093 (by omega) rfl rfl ?_
  refine LX.callV (av := [.int (xs (i + 1)), .int (xs (i + 2))]) (ci := 10) (d := 7) C0 dL_law_1094 (c_X10_drawn (l := l) (D := D) (w := v) (k := g1) h1) cw_L_131 (by decide) rfl mk_X10_drawn (o_X10_drawn (w := v) (k := g1) h1) ⟨Nat.le_of_ble_eq_true rfl, Nat.le_of_ble_eq_true rfl⟩ (by simp [Value.category]) ?_
  refine LX.aload_n C0 dL_law_1097 rfl (j := 2) rfl ?_
  refine LX.arg (k := 1) C0 hL dL_law_1098 dL_law_1099 dL_law_1100 kN_1 dL_law_1101 dL_law_1102 (by omega) rfl rfl ?_
  refine LX.arg (k := 2) C0 hL dL_law_1103 dL_law_1104 dL_law_1105 kN_2 dL_law_1106 dL_law_1107 (by omega) rfl rfl ?_
  refine LX.callV (av := [.int (xs (i + 1)), .int (xs (i + 2))]) (ci := 11) (d := 7) C0 dL_law_1108 (c_X11_drawn (l := l) (D := D) (w := v) (k := g2) h2) cw_L_134 (by decide) rfl mk_X11_drawn (o_X11_drawn (w := v) (k := g2) h2) ⟨Nat.le_of_ble_eq_true rfl, Nat.le_of_ble_eq_true rfl⟩ (by simp [Value.category]) ?_
  refine LX.icmp_eq C0 dL_law_1111 (tgt := 1431) rfl rfl ?_
  exact K g2 hI2
theorem law_odds {l : Launch} {D : va_G} {p : Program} {e : Env} {s : State} {m : MethodId} {below : List Frame} {meth : Method} {c : Code} {b Ln : Nat} {xs : Nat → Int32} {S : e_S} {Inv : e_G → Prop} {g : e_G} {i : Nat} (C0 : lw_At p s m meth c b Ln xs) (hL : Ln ≤ 3584) (hi : i + 7 ≤ Ln) (hI : Inv g) (ok : OK_odds S Inv) (K : ∀ g2, Inv g2 → LX l D p e s m below meth c b 1431 [(0, .ref 4000000), (1, .ref 0), (2, .ref 76), (3, .int (nI i))] [] (S, g2)) : LX l D p e s m below meth c b 1116 [(0, .ref 4000000), (1, .ref 0), (2, .ref 76), (3, .int (nI i))] [] (S, g) := by
  obtain ⟨v, g1, g2, h1, h2, hI2⟩ := ok g (xs (i + 1)) (xs (i + 2)) (xs (i + 3)) (xs (i + 4)) hI
  refine LX.aload_n C0 dL_law_1116 rfl (j := 1) rfl ?_
  refine LX.arg (k := 1) C0 hL dL_law_1117 dL_law_1118 dL_law_1119 kN_1 dL_law_1120 dL_law_1121 (by omega) rfl rfl ?_
  refine LX.arg (k := 2) C0 hL dL_law_1122 dL_law_1123 dL_law_1124 kN_2 dL_law_1125 dL_law_1126 (by omega) rfl rfl ?_
  refine LX.arg (k := 3) C0 hL dL_law_1127 dL_law_1128 dL_law_1129 kN_3 dL_law_1130 dL_law_1131 (by omega) rfl rfl ?_
  refine LX.arg (k := 4) C0 hL dL_law_1132 dL_law_1133 dL_law_1134 kN_4 dL_law_1135 dL_law_1136 (by omega) rfl rfl ?_
  refine LX.callV (av := [.int (xs (i + 1)), .int (xs (i + 2)), .int (xs (i + 3)), .int (xs (i + 4))]) (ci := 10) (d := 7) C0 dL_law_1137 (c_X10_odds (l := l) (D := D) (w := v) (k := g1) h1) cw_L_135 (by decide) rfl mk_X10_odds (o_X10_odds (w := v) (k := g1) h1) ⟨Nat.le_of_ble_eq_true rfl, Nat.le_of_ble_eq_true rfl⟩ (by simp [Value.category]) ?_
  refine LX.aload_n C0 dL_law_1140 rfl (j := 2) rfl ?_
  refine LX.arg (k := 1) C0 hL dL_law_1141 dL_law_1142 dL_law_1143 kN_1 dL_law_1144 dL_law_1145 (by omega) rfl rfl ?_
  refine LX.arg (k := 2) C0 hL dL_law_1146 dL_law_1147 dL_law_1148 kN_2 dL_law_1149 dL_law_1150 (by omega) rfl rfl ?_
  refine LX.arg (k := 3) C0 hL dL_law_1151 dL_law_1152 dL_law_1153 kN_3 dL_law_1154 dL_law_1155 (by omega) rfl rfl ?_
  refine LX.arg (k := 4) C0 hL dL_law_1156 dL_law_1157 dL_law_1158 kN_4 dL_law_1159 dL_law_1160 (by omega) rfl rfl ?_
  refine LX.callV (av := [.int (xs (i + 1)), .int (xs (i + 2)), .int (xs (i + 3)), .int (xs (i + 4))]) (ci := 11) (d := 7) C0 dL_law_1161 (c_X11_odds (l := l) (D := D) (w := v) (k := g2) h2) cw_L_139 (by decide) rfl mk_X11_odds (o_X11_odds (w := v) (k := g2) h2) ⟨Nat.le_of_ble_eq_true rfl, Nat.le_of_ble_eq_true rfl⟩ (by simp [Value.category]) ?_
  refine LX.lcmp C0 dL_law_1164 ?_
  refine LX.if_eq C0 dL_law_1165 (tgt := 1431) rfl (lg_same v) ?_
  exact K g2 hI2
theorem law_image {l : Launch} {D : va_G} {p : Program} {e : Env} {s : State} {m : MethodId} {below : List Frame} {meth : Method} {c : Code} {b Ln : Nat} {xs : Nat → Int32} {S : e_S} {Inv : e_G → Prop} {g : e_G} {i : Nat} (C0 : lw_At p s m meth c b Ln xs) (hL : Ln ≤ 3584) (hi : i + 7 ≤ Ln) (hI : Inv g) (ok : OK_image S Inv) (K : ∀ g2, Inv g2 → LX l D p e s m below meth c b 1431 [(0, .ref 4000000), (1, .ref 0), (2, .ref 76), (3, .int (nI i))] [] (S, g2)) : LX l D p e s m below meth c b 1170 [(0, .ref 4000000), (1, .ref 0), (2, .ref 76), (3, .int (nI i))] [] (S, g) := by
  obtain ⟨v, g1, g2, h1, h2, hI2⟩ := ok g  hI
  refine LX.aload_n C0 dL_law_1170 rfl (j := 1) rfl ?_
  refine LX.callV (av := []) (ci := 10) (d := 2) C0 dL_law_1171 (c_X10_image (l := l) (D := D) (w := v) (k := g1) h1) cw_L_140 (by decide) rfl mk_X10_image (o_X10_image (w := v) (k := g1) h1) ⟨Nat.le_of_ble_eq_true rfl, Nat.le_of_ble_eq_true rfl⟩ (by simp [Value.category]) ?_
  refine LX.aload_n C0 dL_law_1174 rfl (j := 2) rfl ?_
  refine LX.callV (av := []) (ci := 11) (d := 1) C0 dL_law_1175 (c_X11_image (l := l) (D := D) (w := v) (k := g2) h2) cw_L_143 (by decide) rfl mk_X11_image (o_X11_image (w := v) (k := g2) h2) ⟨Nat.le_of_ble_eq_true rfl, Nat.le_of_ble_eq_true rfl⟩ (by simp [Value.category]) ?_
  refine LX.icmp_eq C0 dL_law_1178 (tgt := 1431) rfl rfl ?_
  exact K g2 hI2
theorem law_back {l : Launch} {D : va_G} {p : Program} {e : Env} {s : State} {m : MethodId} {below : List Frame} {meth : Method} {c : Code} {b Ln : Nat} {xs : Nat → Int32} {S : e_S} {Inv : e_G → Prop} {g : e_G} {i : Nat} (C0 : lw_At p s m meth c b Ln xs) (hL : Ln ≤ 3584) (hi : i + 7 ≤ Ln) (hI : Inv g) (ok : OK_back S Inv) (K : ∀ g2, Inv g2 → LX l D p e s m below meth c b 1431 [(0, .ref 4000000), (1, .ref 0), (2, .ref 76), (3, .int (nI i))] [] (S, g2)) : LX l D p e s m below meth c b 1183 [(0, .ref 4000000), (1, .ref 0), (2, .ref 76), (3, .int (nI i))] [] (S, g) := by
  obtain ⟨v, g1, g2, h1, h2, hI2⟩ := ok g  hI
  refine LX.aload_n C0 dL_law_1183 rfl (j := 1) rfl ?_
  refine LX.callV (av := []) (ci := 10) (d := 2) C0 dL_law_1184 (c_X10_back (l := l) (D := D) (w := v) (k := g1) h1) cw_L_144 (by decide) rfl mk_X10_back (o_X10_back (w := v) (k := g1) h1) ⟨Nat.le_of_ble_eq_true rfl, Nat.le_of_ble_eq_true rfl⟩ (by simp [Value.category]) ?_
  refine LX.aload_n C0 dL_law_1187 rfl (j := 2) rfl ?_
  refine LX.callV (av := []) (ci := 11) (d := 1) C0 dL_law_1188 (c_X11_back (l := l) (D := D) (w := v) (k := g2) h2) cw_L_147 (by decide) rfl mk_X11_back (o_X11_back (w := v) (k := g2) h2) ⟨Nat.le_of_ble_eq_true rfl, Nat.le_of_ble_eq_true rfl⟩ (by simp [Value.category]) ?_
  refine LX.icmp_eq C0 dL_law_1191 (tgt := 1431) rfl rfl ?_
  exact K g2 hI2
theorem law_sheet {l : Launch} {D : va_G} {p : Program} {e : Env} {s : State} {m : MethodId} {below : List Frame} {meth : Method} {c : Code} {b Ln : Nat} {xs : Nat → Int32} {S : e_S} {Inv : e_G → Prop} {g : e_G} {i : Nat} (C0 : lw_At p s m meth c b Ln xs) (hL : Ln ≤ 3584) (hi : i + 7 ≤ Ln) (hI : Inv g) (ok : OK_sheet S Inv) (K : ∀ g2, Inv g2 → LX l D p e s m below meth c b 1431 [(0, .ref 4000000), (1, .ref 0), (2, .ref 76), (3, .int (nI i))] [] (S, g2)) : LX l D p e s m below meth c b 1196 [(0, .ref 4000000), (1, .ref 0), (2, .ref 76), (3, .int (nI i))] [] (S, g) := by
  obtain ⟨v, g1, g2, h1, h2, hI2⟩ := ok g (xs (i + 1)) (xs (i + 2)) (xs (i + 3)) hI
  refine LX.aload_n C0 dL_law_1196 rfl (j := 1) rfl ?_
  refine LX.arg (k := 1) C0 hL dL_law_1197 dL_law_1198 dL_law_1199 kN_1 dL_law_1200 dL_law_1201 (by omega) rfl rfl ?_
  refine LX.arg (k := 2) C0 hL dL_law_1202 dL_law_1203 dL_law_1204 kN_2 dL_law_1205 dL_law_1206 (by omega) rfl rfl ?_
  refine LX.arg (k := 3) C0 hL dL_law_1207 dL_law_1208 dL_law_1209 kN_3 dL_law_1210 dL_law_1211 (by omega) rfl rfl ?_
  refine LX.callV (av := [.int (xs (i + 1)), .int (xs (i + 2)), .int (xs (i + 3))]) (ci := 10) (d := 2) C0 dL_law_1212 (c_X10_sheet (l := l) (D := D) (w := v) (k := g1) h1) cw_L_148 (by decide) rfl mk_X10_sheet (o_X10_sheet (w := v) (k := g1) h1) ⟨Nat.le_of_ble_eq_true rfl, Nat.le_of_ble_eq_true rfl⟩ (by simp [Value.category]) ?_
  refine LX.aload_n C0 dL_law_1215 rfl (j := 2) rfl ?_
  refine LX.arg (k := 1) C0 hL dL_law_1216 dL_law_1217 dL_law_1218 kN_1 dL_law_1219 dL_law_1220 (by omega) rfl rfl ?_
  refine LX.arg (k := 2) C0 hL dL_law_1221 dL_law_1222 dL_law_1223 kN_2 dL_law_1224 dL_law_1225 (by omega) rfl rfl ?_
  refine LX.arg (k := 3) C0 hL dL_law_1226 dL_law_1227 dL_law_1228 kN_3 dL_law_1229 dL_law_1230 (by omega) rfl rfl ?_
  refine LX.callV (av := [.int (xs (i + 1)), .int (xs (i + 2)), .int (xs (i + 3))]) (ci := 11) (d := 2) C0 dL_law_1231 (c_X11_sheet (l := l) (D := D) (w := v) (k := g2) h2) cw_L_151 (by decide) rfl mk_X11_sheet (o_X11_sheet (w := v) (k := g2) h2) ⟨Nat.le_of_ble_eq_true rfl, Nat.le_of_ble_eq_true rfl⟩ (by simp [Value.category]) ?_
  refine LX.icmp_eq C0 dL_law_1234 (tgt := 1431) rfl rfl ?_
  exact K g2 hI2
theorem law_cell {l : Launch} {D : va_G} {p : Program} {e : Env} {s : State} {m : MethodId} {below : List Frame} {meth : Method} {c : Code} {b Ln : Nat} {xs : Nat → Int32} {S : e_S} {Inv : e_G → Prop} {g : e_G} {i : Nat} (C0 : lw_At p s m meth c b Ln xs) (hL : Ln ≤ 3584) (hi : i + 7 ≤ Ln) (hI : Inv g) (ok : OK_cell S Inv) (K : ∀ g2, Inv g2 → LX l D p e s m below meth c b 1431 [(0, .ref 4000000), (1, .ref 0), (2, .ref 76), (3, .int (nI i))] [] (S, g2)) : LX l D p e s m below meth c b 1239 [(0, .ref 4000000), (1, .ref 0), (2, .ref 76), (3, .int (nI i))] [] (S, g) := by
  obtain ⟨v, g1, g2, h1, h2, hI2⟩ := ok g (xs (i + 1)) (xs (i + 2)) (xs (i + 3)) hI
  refine LX.aload_n C0 dL_law_1239 rfl (j := 1) rfl ?_
  refine LX.arg (k := 1) C0 hL dL_law_1240 dL_law_1241 dL_law_1242 kN_1 dL_law_1243 dL_law_1244 (by omega) rfl rfl ?_
  refine LX.arg (k := 2) C0 hL dL_law_1245 dL_law_1246 dL_law_1247 kN_2 dL_law_1248 dL_law_1249 (by omega) rfl rfl ?_
  refine LX.arg (k := 3) C0 hL dL_law_1250 dL_law_1251 dL_law_1252 kN_3 dL_law_1253 dL_law_1254 (by omega) rfl rfl ?_
  refine LX.callV (av := [.int (xs (i + 1)), .int (xs (i + 2)), .int (xs (i + 3))]) (ci := 10) (d := 3) C0 dL_law_1255 (c_X10_cell (l := l) (D := D) (w := v) (k := g1) h1) cw_L_152 (by decide) rfl mk_X10_cell (o_X10_cell (w := v) (k := g1) h1) ⟨Nat.le_of_ble_eq_true rfl, Nat.le_of_ble_eq_true rfl⟩ (by simp [Value.category]) ?_
  refine LX.aload_n C0 dL_law_1258 rfl (j := 2) rfl ?_
  refine LX.arg (k := 1) C0 hL dL_law_1259 dL_law_1260 dL_law_1261 kN_1 dL_law_1262 dL_law_1263 (by omega) rfl rfl ?_
  refine LX.arg (k := 2) C0 hL dL_law_1264 dL_law_1265 dL_law_1266 kN_2 dL_law_1267 dL_law_1268 (by omega) rfl rfl ?_
  refine LX.arg (k := 3) C0 hL dL_law_1269 dL_law_1270 dL_law_1271 kN_3 dL_law_1272 dL_law_1273 (by omega) rfl rfl ?_
  refine LX.callV (av := [.int (xs (i + 1)), .int (xs (i + 2)), .int (xs (i + 3))]) (ci := 11) (d := 2) C0 dL_law_1274 (c_X11_cell (l := l) (D := D) (w := v) (k := g2) h2) cw_L_155 (by decide) rfl mk_X11_cell (o_X11_cell (w := v) (k := g2) h2) ⟨Nat.le_of_ble_eq_true rfl, Nat.le_of_ble_eq_true rfl⟩ (by simp [Value.category]) ?_
  refine LX.icmp_eq C0 dL_law_1277 (tgt := 1431) rfl rfl ?_
  exact K g2 hI2
theorem law_copy {l : Launch} {D : va_G} {p : Program} {e : Env} {s : State} {m : MethodId} {below : List Frame} {meth : Method} {c : Code} {b Ln : Nat} {xs : Nat → Int32} {S : e_S} {Inv : e_G → Prop} {g : e_G} {i : Nat} (C0 : lw_At p s m meth c b Ln xs) (hL : Ln ≤ 3584) (hi : i + 7 ≤ Ln) (hI : Inv g) (ok : OK_copy S Inv) (K : ∀ g2, Inv g2 → LX l D p e s m below meth c b 1431 [(0, .ref 4000000), (1, .ref 0), (2, .ref 76), (3, .int (nI i))] [] (S, g2)) : LX l D p e s m below meth c b 1282 [(0, .ref 4000000), (1, .ref 0), (2, .ref 76), (3, .int (nI i))] [] (S, g) := by
  obtain ⟨v, g1, g2, h1, h2, hI2⟩ := ok g (xs (i + 1)) (xs (i + 2)) (xs (i + 3)) (xs (i + 4)) (xs (i + 5)) hI
  refine LX.aload_n C0 dL_law_1282 rfl (j := 1) rfl ?_
  refine LX.arg (k := 1) C0 hL dL_law_1283 dL_law_1284 dL_law_1285 kN_1 dL_law_1286 dL_law_1287 (by omega) rfl rfl ?_
  refine LX.arg (k := 2) C0 hL dL_law_1288 dL_law_1289 dL_law_1290 kN_2 dL_law_1291 dL_law_1292 (by omega) rfl rfl ?_
  refine LX.arg (k := 3) C0 hL dL_law_1293 dL_law_1294 dL_law_1295 kN_3 dL_law_1296 dL_law_1297 (by omega) rfl rfl ?_
  refine LX.arg (k := 4) C0 hL dL_law_1298 dL_law_1299 dL_law_1300 kN_4 dL_law_1301 dL_law_1302 (by omega) rfl rfl ?_
  refine LX.arg (k := 5) C0 hL dL_law_1303 dL_law_1304 dL_law_1305 kN_5 dL_law_1306 dL_law_1307 (by omega) rfl rfl ?_
  refine LX.callV (av := [.int (xs (i + 1)), .int (xs (i + 2)), .int (xs (i + 3)), .int (xs (i + 4)), .int (xs (i + 5))]) (ci := 10) (d := 2) C0 dL_law_1308 (c_X10_copy (l := l) (D := D) (w := v) (k := g1) h1) cw_L_156 (by decide) rfl mk_X10_copy (o_X10_copy (w := v) (k := g1) h1) ⟨Nat.le_of_ble_eq_true rfl, Nat.le_of_ble_eq_true rfl⟩ (by simp [Value.category]) ?_
  refine LX.aload_n C0 dL_law_1311 rfl (j := 2) rfl ?_
  refine LX.arg (k := 1) C0 hL dL_law_1312 dL_law_1313 dL_law_1314 kN_1 dL_law_1315 dL_law_1316 (by omega) rfl rfl ?_
  refine LX.arg (k := 2) C0 hL dL_law_1317 dL_law_1318 dL_law_1319 kN_2 dL_law_1320 dL_law_1321 (by omega) rfl rfl ?_
  refine LX.arg (k := 3) C0 hL dL_law_1322 dL_law_1323 dL_law_1324 kN_3 dL_law_1325 dL_law_1326 (by omega) rfl rfl ?_
  refine LX.arg (k := 4) C0 hL dL_law_1327 dL_law_1328 dL_law_1329 kN_4 dL_law_1330 dL_law_1331 (by omega) rfl rfl ?_
  refine LX.arg (k := 5) C0 hL dL_law_1332 dL_law_1333 dL_law_1334 kN_5 dL_law_1335 dL_law_1336 (by omega) rfl rfl ?_
  refine LX.callV (av := [.int (xs (i + 1)), .int (xs (i + 2)), .int (xs (i + 3)), .int (xs (i + 4)), .int (xs (i + 5))]) (ci := 11) (d := 2) C0 dL_law_1337 (c_X11_copy (l := l) (D := D) (w := v) (k := g2) h2) cw_L_160 (by decide) rfl mk_X11_copy (o_X11_copy (w := v) (k := g2) h2) ⟨Nat.le_of_ble_eq_true rfl, Nat.le_of_ble_eq_true rfl⟩ (by simp [Value.category]) ?_
  refine LX.icmp_eq C0 dL_law_1340 (tgt := 1431) rfl rfl ?_
  exact K g2 hI2
theorem law_peopleBy {l : Launch} {D : va_G} {p : Program} {e : Env} {s : State} {m : MethodId} {below : List Frame} {meth : Method} {c : Code} {b Ln : Nat} {xs : Nat → Int32} {S : e_S} {Inv : e_G → Prop} {g : e_G} {i : Nat} (C0 : lw_At p s m meth c b Ln xs) (hL : Ln ≤ 3584) (hi : i + 7 ≤ Ln) (hI : Inv g) (ok : OK_peopleBy S Inv) (K : ∀ g2, Inv g2 → LX l D p e s m below meth c b 1431 [(0, .ref 4000000), (1, .ref 0), (2, .ref 76), (3, .int (nI i))] [] (S, g2)) : LX l D p e s m below meth c b 1345 [(0, .ref 4000000), (1, .ref 0), (2, .ref 76), (3, .int (nI i))] [] (S, g) := by
  obtain ⟨v, g1, g2, h1, h2, hI2⟩ := ok g (xs (i + 1)) (xs (i + 2)) (xs (i + 3)) (xs (i + 4)) hI
  refine LX.aload_n C0 dL_law_1345 rfl (j := 1) rfl ?_
  refine LX.arg (k := 1) C0 hL dL_law_1346 dL_law_1347 dL_law_1348 kN_1 dL_law_1349 dL_law_1350 (by omega) rfl rfl ?_
  refine LX.arg (k := 2) C0 hL dL_law_1351 dL_law_1352 dL_law_1353 kN_2 dL_law_1354 dL_law_1355 (by omega) rfl rfl ?_
  refine LX.arg (k := 3) C0 hL dL_law_1356 dL_law_1357 dL_law_1358 kN_3 dL_law_1359 dL_law_1360 (by omega) rfl rfl ?_
  refine LX.arg (k := 4) C0 hL dL_law_1361 dL_law_1362 dL_law_1363 kN_4 dL_law_1364 dL_law_1365 (by omega) rfl rfl ?_
  refine LX.callV (av := [.int (xs (i + 1)), .int (xs (i + 2)), .int (xs (i + 3)), .int (xs (i + 4))]) (ci := 10) (d := 4) C0 dL_law_1366 (c_X10_peopleBy (l := l) (D := D) (w := v) (k := g1) h1) cw_L_161 (by decide) rfl mk_X10_peopleBy (o_X10_peopleBy (w := v) (k := g1) h1) ⟨Nat.le_of_ble_eq_true rfl, Nat.le_of_ble_eq_true rfl⟩ (by simp [Value.category]) ?_
  refine LX.aload_n C0 dL_law_1369 rfl (j := 2) rfl ?_
  refine LX.arg (k := 1) C0 hL dL_law_1370 dL_law_1371 dL_law_1372 kN_1 dL_law_1373 dL_law_1374 (by omega) rfl rfl ?_
  refine LX.arg (k := 2) C0 hL dL_law_1375 dL_law_1376 dL_law_1377 kN_2 dL_law_1378 dL_law_1379 (by omega) rfl rfl ?_
  refine LX.arg (k := 3) C0 hL dL_law_1380 dL_law_1381 dL_law_1382 kN_3 dL_law_1383 dL_law_1384 (by omega) rfl rfl ?_
  refine LX.arg (k := 4) C0 hL dL_law_1385 dL_law_1386 dL_law_1387 kN_4 dL_law_1388 dL_law_1389 (by omega) rfl rfl ?_
  refine LX.callV (av := [.int (xs (i + 1)), .int (xs (i + 2)), .int (xs (i + 3)), .int (xs (i + 4))]) (ci := 11) (d := 4) C0 dL_law_1390 (c_X11_peopleBy (l := l) (D := D) (w := v) (k := g2) h2) cw_L_165 (by decide) rfl mk_X11_peopleBy (o_X11_peopleBy (w := v) (k := g2) h2) ⟨Nat.le_of_ble_eq_true rfl, Nat.le_of_ble_eq_true rfl⟩ (by simp [Value.category]) ?_
  refine LX.icmp_eq C0 dL_law_1393 (tgt := 1431) rfl rfl ?_
  exact K g2 hI2
theorem law_taken {l : Launch} {D : va_G} {p : Program} {e : Env} {s : State} {m : MethodId} {below : List Frame} {meth : Method} {c : Code} {b Ln : Nat} {xs : Nat → Int32} {S : e_S} {Inv : e_G → Prop} {g : e_G} {i : Nat} (C0 : lw_At p s m meth c b Ln xs) (hL : Ln ≤ 3584) (hi : i + 7 ≤ Ln) (hI : Inv g) (ok : OK_taken S Inv) (K : ∀ g2, Inv g2 → LX l D p e s m below meth c b 1431 [(0, .ref 4000000), (1, .ref 0), (2, .ref 76), (3, .int (nI i))] [] (S, g2)) : LX l D p e s m below meth c b 1398 [(0, .ref 4000000), (1, .ref 0), (2, .ref 76), (3, .int (nI i))] [] (S, g) := by
  obtain ⟨v, g1, g2, h1, h2, hI2⟩ := ok g (xs (i + 1)) (xs (i + 2)) hI
  refine LX.aload_n C0 dL_law_1398 rfl (j := 1) rfl ?_
  refine LX.arg (k := 1) C0 hL dL_law_1399 dL_law_1400 dL_law_1401 kN_1 dL_law_1402 dL_law_1403 (by omega) rfl rfl ?_
  refine LX.arg (k := 2) C0 hL dL_law_1404 dL_law_1405 dL_law_1406 kN_2 dL_law_1407 dL_law_1408 (by omega) rfl rfl ?_
  refine LX.callV (av := [.int (xs (i + 1)), .int (xs (i + 2))]) (ci := 10) (d := 2) C0 dL_law_1409 (c_X10_taken (l := l) (D := D) (w := v) (k := g1) h1) cw_L_166 (by decide) rfl mk_X10_taken (o_X10_taken (w := v) (k := g1) h1) ⟨Nat.le_of_ble_eq_true rfl, Nat.le_of_ble_eq_true rfl⟩ (by simp [Value.category]) ?_
  refine LX.aload_n C0 dL_law_1412 rfl (j := 2) rfl ?_
  refine LX.arg (k := 1) C0 hL dL_law_1413 dL_law_1414 dL_law_1415 kN_1 dL_law_1416 dL_law_1417 (by omega) rfl rfl ?_
  refine LX.arg (k := 2) C0 hL dL_law_1418 dL_law_1419 dL_law_1420 kN_2 dL_law_1421 dL_law_1422 (by omega) rfl rfl ?_
  refine LX.callV (av := [.int (xs (i + 1)), .int (xs (i + 2))]) (ci := 11) (d := 2) C0 dL_law_1423 (c_X11_taken (l := l) (D := D) (w := v) (k := g2) h2) cw_L_169 (by decide) rfl mk_X11_taken (o_X11_taken (w := v) (k := g2) h2) ⟨Nat.le_of_ble_eq_true rfl, Nat.le_of_ble_eq_true rfl⟩ (by simp [Value.category]) ?_
  refine LX.icmp_eq C0 dL_law_1426 (tgt := 1431) rfl rfl ?_
  exact K g2 hI2
