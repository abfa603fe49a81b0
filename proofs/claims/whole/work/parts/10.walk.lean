theorem kI_m1 : Int32.ofInt (-1) = (-1 : Int32) := by decide +kernel
theorem kI_2 : Int32.ofInt (2) = (2 : Int32) := by decide +kernel
theorem kI_4 : Int32.ofInt (4) = (4 : Int32) := by decide +kernel
theorem kB_8 : (Int8.ofInt (8)).toInt32 = (8 : Int32) := by decide +kernel
theorem kB_16 : (Int8.ofInt (16)).toInt32 = (16 : Int32) := by decide +kernel
theorem kB_63 : (Int8.ofInt (63)).toInt32 = (63 : Int32) := by decide +kernel
theorem kB_20 : (Int8.ofInt (20)).toInt32 = (20 : Int32) := by decide +kernel
theorem kB_10 : (Int8.ofInt (10)).toInt32 = (10 : Int32) := by decide +kernel
theorem ww_467 : Cond.constant RJ6 265 (1431655765) ∈ e_big := bw (i := 467) (by decide +kernel) rfl
theorem ww_468 : Cond.constant RJ6 266 (858993459) ∈ e_big := bw (i := 468) (by decide +kernel) rfl
theorem ww_469 : Cond.constant RJ6 267 (252645135) ∈ e_big := bw (i := 469) (by decide +kernel) rfl
theorem fl_X7_42 : e_FL RX7 42 7 6 := ⟨⟨by decide, by decide⟩, bw (i := 236) (by decide +kernel) rfl⟩
theorem ww_551 : Cond.methodLink RX7 52 yX7_isWindow ∈ e_big := bw (i := 551) (by decide +kernel) rfl
theorem ww_552 : Cond.static yX7_isWindow ∈ e_big := bw (i := 552) (by decide +kernel) rfl
theorem ww_83 : Cond.initialized RX7 ∈ e_big := bw (i := 83) (by decide +kernel) rfl
theorem ww_553 : Cond.code yX7_isWindow cX7_isWindow 1 (some .boolean) ∈ e_big := bw (i := 553) (by decide +kernel) rfl
theorem cw_X7_52 : ∀ w ∈ va_wsS RX7 52 yX7_isWindow [Cond.code yX7_isWindow cX7_isWindow 1 (some .boolean)], w ∈ e_big := e_all4 ww_551 ww_552 ww_83 ww_553
theorem fl_X7_9 : e_FL RX7 9 7 0 := ⟨⟨by decide, by decide⟩, bw (i := 224) (by decide +kernel) rfl⟩
theorem ww_575 : Cond.methodLink RX7 56 yX7_areOpposite ∈ e_big := bw (i := 575) (by decide +kernel) rfl
theorem ww_549 : Cond.static yX7_areOpposite ∈ e_big := bw (i := 549) (by decide +kernel) rfl
theorem ww_550 : Cond.code yX7_areOpposite cX7_areOpposite 2 (some .boolean) ∈ e_big := bw (i := 550) (by decide +kernel) rfl
theorem cw_X7_56 : ∀ w ∈ va_wsS RX7 56 yX7_areOpposite [Cond.code yX7_areOpposite cX7_areOpposite 2 (some .boolean)], w ∈ e_big := e_all4 ww_575 ww_549 ww_83 ww_550
theorem ww_566 : Cond.methodLink RX7 60 yX7_whoIsAt ∈ e_big := bw (i := 566) (by decide +kernel) rfl
theorem ww_555 : Cond.instanceMethod yX7_whoIsAt ∈ e_big := bw (i := 555) (by decide +kernel) rfl
theorem ww_556 : Cond.selects RX7 yX7_whoIsAt yX7_whoIsAt ∈ e_big := bw (i := 556) (by decide +kernel) rfl
theorem ww_557 : Cond.code yX7_whoIsAt cX7_whoIsAt 3 (some .int) ∈ e_big := bw (i := 557) (by decide +kernel) rfl
theorem cw_X7_60 : ∀ w ∈ wsV RX7 60 RX7 yX7_whoIsAt [Cond.code yX7_whoIsAt cX7_whoIsAt 3 (some .int)], w ∈ e_big := e_all5 ww_566 ww_555 ww_556 ww_83 ww_557
theorem fl_X7_15 : e_FL RX7 15 7 1 := ⟨⟨by decide, by decide⟩, bw (i := 226) (by decide +kernel) rfl⟩
theorem fl_X7_27 : e_FL RX7 27 7 5 := ⟨⟨by decide, by decide⟩, bw (i := 234) (by decide +kernel) rfl⟩
theorem ww_509 : Cond.methodLink RX7 64 yJ9_abs_0f7a4 ∈ e_big := bw (i := 509) (by decide +kernel) rfl
theorem ww_510 : Cond.static yJ9_abs_0f7a4 ∈ e_big := bw (i := 510) (by decide +kernel) rfl
theorem ww_88 : Cond.initialized RJ9 ∈ e_big := bw (i := 88) (by decide +kernel) rfl
theorem ww_511 : Cond.code yJ9_abs_0f7a4 cJ9_abs_0f7a4 1 (some .int) ∈ e_big := bw (i := 511) (by decide +kernel) rfl
theorem ww_589 : Cond.methodLink RX7 69 yX7_isMet ∈ e_big := bw (i := 589) (by decide +kernel) rfl
theorem ww_591 : Cond.instanceMethod yX7_isMet ∈ e_big := bw (i := 591) (by decide +kernel) rfl
theorem ww_19 : Cond.selects RX7 yX7_isMet yX7_isMet ∈ e_big := bw (i := 19) (by decide +kernel) rfl
theorem ww_592 : Cond.code yX7_isMet cX7_isMet 3 (some .boolean) ∈ e_big := bw (i := 592) (by decide +kernel) rfl
theorem cw_X7_69 : ∀ w ∈ wsV RX7 69 RX7 yX7_isMet [Cond.code yX7_isMet cX7_isMet 3 (some .boolean)], w ∈ e_big := e_all5 ww_589 ww_591 ww_19 ww_83 ww_592
theorem ww_674 : Cond.methodLink RX7 72 yX7_endOn ∈ e_big := bw (i := 674) (by decide +kernel) rfl
theorem ww_676 : Cond.instanceMethod yX7_endOn ∈ e_big := bw (i := 676) (by decide +kernel) rfl
theorem ww_20 : Cond.selects RX7 yX7_endOn yX7_endOn ∈ e_big := bw (i := 20) (by decide +kernel) rfl
theorem ww_677 : Cond.code yX7_endOn cX7_endOn 3 (some .int) ∈ e_big := bw (i := 677) (by decide +kernel) rfl
theorem cw_X7_72 : ∀ w ∈ wsV RX7 72 RX7 yX7_endOn [Cond.code yX7_endOn cX7_endOn 3 (some .int)], w ∈ e_big := e_all5 ww_674 ww_676 ww_20 ww_83 ww_677
theorem ww_678 : Cond.methodLink RX7 76 yJ6_compare_7cf53 ∈ e_big := bw (i := 678) (by decide +kernel) rfl
theorem ww_679 : Cond.static yJ6_compare_7cf53 ∈ e_big := bw (i := 679) (by decide +kernel) rfl
theorem ww_90 : Cond.initialized RJ6 ∈ e_big := bw (i := 90) (by decide +kernel) rfl
theorem ww_680 : Cond.code yJ6_compare_7cf53 cJ6_compare_7cf53 2 (some .int) ∈ e_big := bw (i := 680) (by decide +kernel) rfl
theorem cw_X7_76 : ∀ w ∈ va_wsS RX7 76 yJ6_compare_7cf53 [Cond.code yJ6_compare_7cf53 cJ6_compare_7cf53 2 (some .int)], w ∈ e_big := e_all4 ww_678 ww_679 ww_90 ww_680
theorem ww_516 : Cond.methodLink RX7 81 yX7_lookers ∈ e_big := bw (i := 516) (by decide +kernel) rfl
theorem ww_517 : Cond.instanceMethod yX7_lookers ∈ e_big := bw (i := 517) (by decide +kernel) rfl
theorem ww_518 : Cond.selects RX7 yX7_lookers yX7_lookers ∈ e_big := bw (i := 518) (by decide +kernel) rfl
theorem ww_519 : Cond.code yX7_lookers cX7_lookers 4 (some .int) ∈ e_big := bw (i := 519) (by decide +kernel) rfl
theorem cw_X7_81 : ∀ w ∈ wsV RX7 81 RX7 yX7_lookers [Cond.code yX7_lookers cX7_lookers 4 (some .int)], w ∈ e_big := e_all5 ww_516 ww_517 ww_518 ww_83 ww_519
theorem fl_X7_18 : e_FL RX7 18 7 2 := ⟨⟨by decide, by decide⟩, bw (i := 228) (by decide +kernel) rfl⟩
/-! java/lang/Integer.compare(II)I -/
abbrev M_J6_compare_7cf53 : e_M := (yJ6_compare_7cf53, cJ6_compare_7cf53, 2, (some .int))
theorem mk_J6_compare_7cf53 : e_Mok M_J6_compare_7cf53 2 := ⟨by decide +kernel, by decide +kernel, by decide +kernel⟩
theorem dJ6_compare_7cf53_0 : decode cJ6_compare_7cf53 0 = .ok (.iload_n 0, 1) := by decide +kernel
theorem dJ6_compare_7cf53_1 : decode cJ6_compare_7cf53 1 = .ok (.iload_n 1, 1) := by decide +kernel
theorem dJ6_compare_7cf53_2 : decode cJ6_compare_7cf53 2 = .ok (.if_icmp .ge 7, 3) := by decide +kernel
theorem dJ6_compare_7cf53_5 : decode cJ6_compare_7cf53 5 = .ok (.iconst (-1), 1) := by decide +kernel
theorem dJ6_compare_7cf53_6 : decode cJ6_compare_7cf53 6 = .ok (.goto 13, 3) := by decide +kernel
theorem dJ6_compare_7cf53_9 : decode cJ6_compare_7cf53 9 = .ok (.iload_n 0, 1) := by decide +kernel
theorem dJ6_compare_7cf53_10 : decode cJ6_compare_7cf53 10 = .ok (.iload_n 1, 1) := by decide +kernel
theorem dJ6_compare_7cf53_11 : decode cJ6_compare_7cf53 11 = .ok (.if_icmp .ne 7, 3) := by decide +kernel
theorem dJ6_compare_7cf53_14 : decode cJ6_compare_7cf53 14 = .ok (.iconst 0, 1) := by decide +kernel
theorem dJ6_compare_7cf53_15 : decode cJ6_compare_7cf53 15 = .ok (.goto 4, 3) := by decide +kernel
theorem dJ6_compare_7cf53_18 : decode cJ6_compare_7cf53 18 = .ok (.iconst 1, 1) := by decide +kernel
theorem dJ6_compare_7cf53_19 : decode cJ6_compare_7cf53 19 = .ok (.ireturn, 1) := by decide +kernel
def f_J6_compare_7cf53 (S : e_S) (l0 : Int32) (l1 : Int32) (g : e_G) : Option (Int32 × e_G) :=
  if l1 ≤ l0 then
    if l0 = l1 then
      some ((0 : Int32), g)
    else
      some ((1 : Int32), g)
  else
    some ((-1 : Int32), g)
theorem c_J6_compare_7cf53 {l : Launch} {D : va_G}  {S : e_S} {w : Int32} {k : e_G} {l0 : Int32} {l1 : Int32} {g : e_G} (hf : f_J6_compare_7cf53 S l0 l1 g = some (w, k)) : CT l D (e_R 1) M_J6_compare_7cf53 [.int l0, .int l1] (S, g) (some (.int w)) (S, k) := by
  refine CT.of (by decide +kernel) (Nat.le_of_ble_eq_true rfl) ?_
  unfold f_J6_compare_7cf53 at hf
  show X l D (e_R 1) M_J6_compare_7cf53 0 0 0 [(0, .int l0), (1, .int l1)] [] (S, g) (some (.int w)) (S, k)
  refine X.iload_n dJ6_compare_7cf53_0 rfl (j := 0) rfl ?_
  refine X.iload_n dJ6_compare_7cf53_1 rfl (j := 1) rfl ?_
  refine X.icmp_ge dJ6_compare_7cf53_2 (tgt := 9) rfl (fun hc => ?_) (fun hc => ?_)
  · rw [if_pos hc] at hf
    refine X.iload_n dJ6_compare_7cf53_9 rfl (j := 0) rfl ?_
    refine X.iload_n dJ6_compare_7cf53_10 rfl (j := 1) rfl ?_
    refine X.icmp_ne dJ6_compare_7cf53_11 (tgt := 18) rfl (fun hc => ?_) (fun hc => ?_)
    · rw [if_neg hc] at hf
      refine X.iconst dJ6_compare_7cf53_18 kI_1 ?_
      obtain ⟨e1, e2⟩ := e_ret hf
      subst e1
      subst e2
      exact X.iret dJ6_compare_7cf53_19 rfl rfl
    · rw [if_pos hc] at hf
      refine X.iconst dJ6_compare_7cf53_14 kI_0 ?_
      refine X.goto dJ6_compare_7cf53_15 (tgt := 19) rfl ?_
      obtain ⟨e1, e2⟩ := e_ret hf
      subst e1
      subst e2
      exact X.iret dJ6_compare_7cf53_19 rfl rfl
  · rw [if_neg hc] at hf
    refine X.iconst dJ6_compare_7cf53_5 kI_m1 ?_
    refine X.goto dJ6_compare_7cf53_6 (tgt := 19) rfl ?_
    obtain ⟨e1, e2⟩ := e_ret hf
    subst e1
    subst e2
    exact X.iret dJ6_compare_7cf53_19 rfl rfl
/-! java/lang/Integer.bitCount(I)I -/
abbrev M_J6_bitCount_0f7a4 : e_M := (yJ6_bitCount_0f7a4, cJ6_bitCount_0f7a4, 1, (some .int))
theorem mk_J6_bitCount_0f7a4 : e_Mok M_J6_bitCount_0f7a4 1 := ⟨by decide +kernel, by decide +kernel, by decide +kernel⟩
theorem dJ6_bitCount_0f7a4_0 : decode cJ6_bitCount_0f7a4 0 = .ok (.iload_n 0, 1) := by decide +kernel
theorem dJ6_bitCount_0f7a4_1 : decode cJ6_bitCount_0f7a4 1 = .ok (.iload_n 0, 1) := by decide +kernel
theorem dJ6_bitCount_0f7a4_2 : decode cJ6_bitCount_0f7a4 2 = .ok (.iconst 1, 1) := by decide +kernel
theorem dJ6_bitCount_0f7a4_3 : decode cJ6_bitCount_0f7a4 3 = .ok (.iushr, 1) := by decide +kernel
theorem dJ6_bitCount_0f7a4_4 : decode cJ6_bitCount_0f7a4 4 = .ok (.ldc_w 265, 3) := by decide +kernel
theorem dJ6_bitCount_0f7a4_7 : decode cJ6_bitCount_0f7a4 7 = .ok (.iand, 1) := by decide +kernel
theorem dJ6_bitCount_0f7a4_8 : decode cJ6_bitCount_0f7a4 8 = .ok (.isub, 1) := by decide +kernel
theorem dJ6_bitCount_0f7a4_9 : decode cJ6_bitCount_0f7a4 9 = .ok (.istore_n 0, 1) := by decide +kernel
theorem dJ6_bitCount_0f7a4_10 : decode cJ6_bitCount_0f7a4 10 = .ok (.iload_n 0, 1) := by decide +kernel
theorem dJ6_bitCount_0f7a4_11 : decode cJ6_bitCount_0f7a4 11 = .ok (.ldc_w 266, 3) := by decide +kernel
theorem dJ6_bitCount_0f7a4_14 : decode cJ6_bitCount_0f7a4 14 = .ok (.iand, 1) := by decide +kernel
theorem dJ6_bitCount_0f7a4_15 : decode cJ6_bitCount_0f7a4 15 = .ok (.iload_n 0, 1) := by decide +kernel
theorem dJ6_bitCount_0f7a4_16 : decode cJ6_bitCount_0f7a4 16 = .ok (.iconst 2, 1) := by decide +kernel
theorem dJ6_bitCount_0f7a4_17 : decode cJ6_bitCount_0f7a4 17 = .ok (.iushr, 1) := by decide +kernel
theorem dJ6_bitCount_0f7a4_18 : decode cJ6_bitCount_0f7a4 18 = .ok (.ldc_w 266, 3) := by decide +kernel
theorem dJ6_bitCount_0f7a4_21 : decode cJ6_bitCount_0f7a4 21 = .ok (.iand, 1) := by decide +kernel
theorem dJ6_bitCount_0f7a4_22 : decode cJ6_bitCount_0f7a4 22 = .ok (.iadd, 1) := by decide +kernel
theorem dJ6_bitCount_0f7a4_23 : decode cJ6_bitCount_0f7a4 23 = .ok (.istore_n 0, 1) := by decide +kernel
theorem dJ6_bitCount_0f7a4_24 : decode cJ6_bitCount_0f7a4 24 = .ok (.iload_n 0, 1) := by decide +kernel
theorem dJ6_bitCount_0f7a4_25 : decode cJ6_bitCount_0f7a4 25 = .ok (.iload_n 0, 1) := by decide +kernel
theorem dJ6_bitCount_0f7a4_26 : decode cJ6_bitCount_0f7a4 26 = .ok (.iconst 4, 1) := by decide +kernel
theorem dJ6_bitCount_0f7a4_27 : decode cJ6_bitCount_0f7a4 27 = .ok (.iushr, 1) := by decide +kernel
theorem dJ6_bitCount_0f7a4_28 : decode cJ6_bitCount_0f7a4 28 = .ok (.iadd, 1) := by decide +kernel
theorem dJ6_bitCount_0f7a4_29 : decode cJ6_bitCount_0f7a4 29 = .ok (.ldc_w 267, 3) := by decide +kernel
theorem dJ6_bitCount_0f7a4_32 : decode cJ6_bitCount_0f7a4 32 = .ok (.iand, 1) := by decide +kernel
theorem dJ6_bitCount_0f7a4_33 : decode cJ6_bitCount_0f7a4 33 = .ok (.istore_n 0, 1) := by decide +kernel
theorem dJ6_bitCount_0f7a4_34 : decode cJ6_bitCount_0f7a4 34 = .ok (.iload_n 0, 1) := by decide +kernel
theorem dJ6_bitCount_0f7a4_35 : decode cJ6_bitCount_0f7a4 35 = .ok (.iload_n 0, 1) := by decide +kernel
theorem dJ6_bitCount_0f7a4_36 : decode cJ6_bitCount_0f7a4 36 = .ok (.bipush 8, 2) := by decide +kernel
theorem dJ6_bitCount_0f7a4_38 : decode cJ6_bitCount_0f7a4 38 = .ok (.iushr, 1) := by decide +kernel
theorem dJ6_bitCount_0f7a4_39 : decode cJ6_bitCount_0f7a4 39 = .ok (.iadd, 1) := by decide +kernel
theorem dJ6_bitCount_0f7a4_40 : decode cJ6_bitCount_0f7a4 40 = .ok (.istore_n 0, 1) := by decide +kernel
theorem dJ6_bitCount_0f7a4_41 : decode cJ6_bitCount_0f7a4 41 = .ok (.iload_n 0, 1) := by decide +kernel
theorem dJ6_bitCount_0f7a4_42 : decode cJ6_bitCount_0f7a4 42 = .ok (.iload_n 0, 1) := by decide +kernel
theorem dJ6_bitCount_0f7a4_43 : decode cJ6_bitCount_0f7a4 43 = .ok (.bipush 16, 2) := by decide +kernel
theorem dJ6_bitCount_0f7a4_45 : decode cJ6_bitCount_0f7a4 45 = .ok (.iushr, 1) := by decide +kernel
theorem dJ6_bitCount_0f7a4_46 : decode cJ6_bitCount_0f7a4 46 = .ok (.iadd, 1) := by decide +kernel
theorem dJ6_bitCount_0f7a4_47 : decode cJ6_bitCount_0f7a4 47 = .ok (.istore_n 0, 1) := by decide +kernel
theorem dJ6_bitCount_0f7a4_48 : decode cJ6_bitCount_0f7a4 48 = .ok (.iload_n 0, 1) := by decide +kernel
theorem dJ6_bitCount_0f7a4_49 : decode cJ6_bitCount_0f7a4 49 = .ok (.bipush 63, 2) := by decide +kernel
theorem dJ6_bitCount_0f7a4_51 : decode cJ6_bitCount_0f7a4 51 = .ok (.iand, 1) := by decide +kernel
theorem dJ6_bitCount_0f7a4_52 : decode cJ6_bitCount_0f7a4 52 = .ok (.ireturn, 1) := by decide +kernel
def f_J6_bitCount_0f7a4 (S : e_S) (l0 : Int32) (g : e_G) : Option (Int32 × e_G) :=
  some ((((((((l0 - ((i_ushr l0 (1 : Int32)) &&& (1431655765 : Int32))) &&& (858993459 : Int32)) + ((i_ushr (l0 - ((i_ushr l0 (1 : Int32)) &&& (1431655765 : Int32))) (2 : Int32)) &&& (858993459 : Int32))) + (i_ushr (((l0 - ((i_ushr l0 (1 : Int32)) &&& (1431655765 : Int32))) &&& (858993459 : Int32)) + ((i_ushr (l0 - ((i_ushr l0 (1 : Int32)) &&& (1431655765 : Int32))) (2 : Int32)) &&& (858993459 : Int32))) (4 : Int32))) &&& (252645135 : Int32)) + (i_ushr (((((l0 - ((i_ushr l0 (1 : Int32)) &&& (1431655765 : Int32))) &&& (858993459 : Int32)) + ((i_ushr (l0 - ((i_ushr l0 (1 : Int32)) &&& (1431655765 : Int32))) (2 : Int32)) &&& (858993459 : Int32))) + (i_ushr (((l0 - ((i_ushr l0 (1 : Int32)) &&& (1431655765 : Int32))) &&& (858993459 : Int32)) + ((i_ushr (l0 - ((i_ushr l0 (1 : Int32)) &&& (1431655765 : Int32))) (2 : Int32)) &&& (858993459 : Int32))) (4 : Int32))) &&& (252645135 : Int32)) (8 : Int32))) + (i_ushr ((((((l0 - ((i_ushr l0 (1 : Int32)) &&& (1431655765 : Int32))) &&& (858993459 : Int32)) + ((i_ushr (l0 - ((i_ushr l0 (1 : Int32)) &&& (1431655765 : Int32))) (2 : Int32)) &&& (858993459 : Int32))) + (i_ushr (((l0 - ((i_ushr l0 (1 : Int32)) &&& (1431655765 : Int32))) &&& (858993459 : Int32)) + ((i_ushr (l0 - ((i_ushr l0 (1 : Int32)) &&& (1431655765 : Int32))) (2 : Int32)) &&& (858993459 : Int32))) (4 : Int32))) &&& (252645135 : Int32)) + (i_ushr (((((l0 - ((i_ushr l0 (1 : Int32)) &&& (1431655765 : Int32))) &&& (858993459 : Int32)) + ((i_ushr (l0 - ((i_ushr l0 (1 : Int32)) &&& (1431655765 : Int32))) (2 : Int32)) &&& (858993459 : Int32))) + (i_ushr (((l0 - ((i_ushr l0 (1 : Int32)) &&& (1431655765 : Int32))) &&& (858993459 : Int32)) + ((i_ushr (l0 - ((i_ushr l0 (1 : Int32)) &&& (1431655765 : Int32))) (2 : Int32)) &&& (858993459 : Int32))) (4 : Int32))) &&& (252645135 : Int32)) (8 : Int32))) (16 : Int32))) &&& (63 : Int32), g)
theorem c_J6_bitCount_0f7a4 {l : Launch} {D : va_G}  {S : e_S} {w : Int32} {k : e_G} {l0 : Int32} {g : e_G} (hf : f_J6_bitCount_0f7a4 S l0 g = some (w, k)) : CT l D (e_R 1) M_J6_bitCount_0f7a4 [.int l0] (S, g) (some (.int w)) (S, k) := by
  refine CT.of (by decide +kernel) (Nat.le_of_ble_eq_true rfl) ?_
  unfold f_J6_bitCount_0f7a4 at hf
  show X l D (e_R 1) M_J6_bitCount_0f7a4 0 0 0 [(0, .int l0)] [] (S, g) (some (.int w)) (S, k)
  refine X.iload_n dJ6_bitCount_0f7a4_0 rfl (j := 0) rfl ?_
  refine X.iload_n dJ6_bitCount_0f7a4_1 rfl (j := 0) rfl ?_
  refine X.iconst dJ6_bitCount_0f7a4_2 kI_1 ?_
  refine Y.iushr dJ6_bitCount_0f7a4_3 ?_
  refine X.ldcw dJ6_bitCount_0f7a4_4 ww_467 ?_
  refine X.iand dJ6_bitCount_0f7a4_7 ?_
  refine X.isub dJ6_bitCount_0f7a4_8 ?_
  refine X.istore_n dJ6_bitCount_0f7a4_9 rfl (Nat.le_of_ble_eq_true rfl) (lc' := [(0, .int (l0 - ((i_ushr l0 (1 : Int32)) &&& (1431655765 : Int32))))]) rfl ?_
  refine X.iload_n dJ6_bitCount_0f7a4_10 rfl (j := 0) rfl ?_
  refine X.ldcw dJ6_bitCount_0f7a4_11 ww_468 ?_
  refine X.iand dJ6_bitCount_0f7a4_14 ?_
  refine X.iload_n dJ6_bitCount_0f7a4_15 rfl (j := 0) rfl ?_
  refine X.iconst dJ6_bitCount_0f7a4_16 kI_2 ?_
  refine Y.iushr dJ6_bitCount_0f7a4_17 ?_
  refine X.ldcw dJ6_bitCount_0f7a4_18 ww_468 ?_
  refine X.iand dJ6_bitCount_0f7a4_21 ?_
  refine X.iadd dJ6_bitCount_0f7a4_22 ?_
  refine X.istore_n dJ6_bitCount_0f7a4_23 rfl (Nat.le_of_ble_eq_true rfl) (lc' := [(0, .int (((l0 - ((i_ushr l0 (1 : Int32)) &&& (1431655765 : Int32))) &&& (858993459 : Int32)) + ((i_ushr (l0 - ((i_ushr l0 (1 : Int32)) &&& (1431655765 : Int32))) (2 : Int32)) &&& (858993459 : Int32))))]) rfl ?_
  refine X.iload_n dJ6_bitCount_0f7a4_24 rfl (j := 0) rfl ?_
  refine X.iload_n dJ6_bitCount_0f7a4_25 rfl (j := 0) rfl ?_
  refine X.iconst dJ6_bitCount_0f7a4_26 kI_4 ?_
  refine Y.iushr dJ6_bitCount_0f7a4_27 ?_
  refine X.iadd dJ6_bitCount_0f7a4_28 ?_
  refine X.ldcw dJ6_bitCount_0f7a4_29 ww_469 ?_
  refine X.iand dJ6_bitCount_0f7a4_32 ?_
  refine X.istore_n dJ6_bitCount_0f7a4_33 rfl (Nat.le_of_ble_eq_true rfl) (lc' := [(0, .int (((((l0 - ((i_ushr l0 (1 : Int32)) &&& (1431655765 : Int32))) &&& (858993459 : Int32)) + ((i_ushr (l0 - ((i_ushr l0 (1 : Int32)) &&& (1431655765 : Int32))) (2 : Int32)) &&& (858993459 : Int32))) + (i_ushr (((l0 - ((i_ushr l0 (1 : Int32)) &&& (1431655765 : Int32))) &&& (858993459 : Int32)) + ((i_ushr (l0 - ((i_ushr l0 (1 : Int32)) &&& (1431655765 : Int32))) (2 : Int32)) &&& (858993459 : Int32))) (4 : Int32))) &&& (252645135 : Int32)))]) rfl ?_
  refine X.iload_n dJ6_bitCount_0f7a4_34 rfl (j := 0) rfl ?_
  refine X.iload_n dJ6_bitCount_0f7a4_35 rfl (j := 0) rfl ?_
  refine X.bipush dJ6_bitCount_0f7a4_36 kB_8 ?_
  refine Y.iushr dJ6_bitCount_0f7a4_38 ?_
  refine X.iadd dJ6_bitCount_0f7a4_39 ?_
  refine X.istore_n dJ6_bitCount_0f7a4_40 rfl (Nat.le_of_ble_eq_true rfl) (lc' := [(0, .int ((((((l0 - ((i_ushr l0 (1 : Int32)) &&& (1431655765 : Int32))) &&& (858993459 : Int32)) + ((i_ushr (l0 - ((i_ushr l0 (1 : Int32)) &&& (1431655765 : Int32))) (2 : Int32)) &&& (858993459 : Int32))) + (i_ushr (((l0 - ((i_ushr l0 (1 : Int32)) &&& (1431655765 : Int32))) &&& (858993459 : Int32)) + ((i_ushr (l0 - ((i_ushr l0 (1 : Int32)) &&& (1431655765 : Int32))) (2 : Int32)) &&& (858993459 : Int32))) (4 : Int32))) &&& (252645135 : Int32)) + (i_ushr (((((l0 - ((i_ushr l0 (1 : Int32)) &&& (1431655765 : Int32))) &&& (858993459 : Int32)) + ((i_ushr (l0 - ((i_ushr l0 (1 : Int32)) &&& (1431655765 : Int32))) (2 : Int32)) &&& (858993459 : Int32))) + (i_ushr (((l0 - ((i_ushr l0 (1 : Int32)) &&& (1431655765 : Int32))) &&& (858993459 : Int32)) + ((i_ushr (l0 - ((i_ushr l0 (1 : Int32)) &&& (1431655765 : Int32))) (2 : Int32)) &&& (858993459 : Int32))) (4 : Int32))) &&& (252645135 : Int32)) (8 : Int32))))]) rfl ?_
  refine X.iload_n dJ6_bitCount_0f7a4_41 rfl (j := 0) rfl ?_
  refine X.iload_n dJ6_bitCount_0f7a4_42 rfl (j := 0) rfl ?_
  refine X.bipush dJ6_bitCount_0f7a4_43 kB_16 ?_
  refine Y.iushr dJ6_bitCount_0f7a4_45 ?_
  refine X.iadd dJ6_bitCount_0f7a4_46 ?_
  refine X.istore_n dJ6_bitCount_0f7a4_47 rfl (Nat.le_of_ble_eq_true rfl) (lc' := [(0, .int (((((((l0 - ((i_ushr l0 (1 : Int32)) &&& (1431655765 : Int32))) &&& (858993459 : Int32)) + ((i_ushr (l0 - ((i_ushr l0 (1 : Int32)) &&& (1431655765 : Int32))) (2 : Int32)) &&& (858993459 : Int32))) + (i_ushr (((l0 - ((i_ushr l0 (1 : Int32)) &&& (1431655765 : Int32))) &&& (858993459 : Int32)) + ((i_ushr (l0 - ((i_ushr l0 (1 : Int32)) &&& (1431655765 : Int32))) (2 : Int32)) &&& (858993459 : Int32))) (4 : Int32))) &&& (252645135 : Int32)) + (i_ushr (((((l0 - ((i_ushr l0 (1 : Int32)) &&& (1431655765 : Int32))) &&& (858993459 : Int32)) + ((i_ushr (l0 - ((i_ushr l0 (1 : Int32)) &&& (1431655765 : Int32))) (2 : Int32)) &&& (858993459 : Int32))) + (i_ushr (((l0 - ((i_ushr l0 (1 : Int32)) &&& (1431655765 : Int32))) &&& (858993459 : Int32)) + ((i_ushr (l0 - ((i_ushr l0 (1 : Int32)) &&& (1431655765 : Int32))) (2 : Int32)) &&& (858993459 : Int32))) (4 : Int32))) &&& (252645135 : Int32)) (8 : Int32))) + (i_ushr ((((((l0 - ((i_ushr l0 (1 : Int32)) &&& (1431655765 : Int32))) &&& (858993459 : Int32)) + ((i_ushr (l0 - ((i_ushr l0 (1 : Int32)) &&& (1431655765 : Int32))) (2 : Int32)) &&& (858993459 : Int32))) + (i_ushr (((l0 - ((i_ushr l0 (1 : Int32)) &&& (1431655765 : Int32))) &&& (858993459 : Int32)) + ((i_ushr (l0 - ((i_ushr l0 (1 : Int32)) &&& (1431655765 : Int32))) (2 : Int32)) &&& (858993459 : Int32))) (4 : Int32))) &&& (252645135 : Int32)) + (i_ushr (((((l0 - ((i_ushr l0 (1 : Int32)) &&& (1431655765 : Int32))) &&& (858993459 : Int32)) + ((i_ushr (l0 - ((i_ushr l0 (1 : Int32)) &&& (1431655765 : Int32))) (2 : Int32)) &&& (858993459 : Int32))) + (i_ushr (((l0 - ((i_ushr l0 (1 : Int32)) &&& (1431655765 : Int32))) &&& (858993459 : Int32)) + ((i_ushr (l0 - ((i_ushr l0 (1 : Int32)) &&& (1431655765 : Int32))) (2 : Int32)) &&& (858993459 : Int32))) (4 : Int32))) &&& (252645135 : Int32)) (8 : Int32))) (16 : Int32))))]) rfl ?_
  refine X.iload_n dJ6_bitCount_0f7a4_48 rfl (j := 0) rfl ?_
  refine X.bipush dJ6_bitCount_0f7a4_49 kB_63 ?_
  refine X.iand dJ6_bitCount_0f7a4_51 ?_
  obtain ⟨e1, e2⟩ := e_ret hf
  subst e1
  subst e2
  exact X.iret dJ6_bitCount_0f7a4_52 rfl rfl
/-! LeanedOut$Street.has(I)Z -/
abbrev M_X7_has : e_M := (yX7_has, cX7_has, 2, (some .boolean))
theorem mk_X7_has : e_Mok M_X7_has 1 := ⟨by decide +kernel, by decide +kernel, by decide +kernel⟩
theorem dX7_has_0 : decode cX7_has 0 = .ok (.iload_n 1, 1) := by decide +kernel
theorem dX7_has_1 : decode cX7_has 1 = .ok (.ifCond .lt 15, 3) := by decide +kernel
theorem dX7_has_4 : decode cX7_has 4 = .ok (.iload_n 1, 1) := by decide +kernel
theorem dX7_has_5 : decode cX7_has 5 = .ok (.aload_n 0, 1) := by decide +kernel
theorem dX7_has_6 : decode cX7_has 6 = .ok (.getfield 42, 3) := by decide +kernel
theorem dX7_has_9 : decode cX7_has 9 = .ok (.if_icmp .ge 7, 3) := by decide +kernel
theorem dX7_has_12 : decode cX7_has 12 = .ok (.iconst 1, 1) := by decide +kernel
theorem dX7_has_13 : decode cX7_has 13 = .ok (.goto 4, 3) := by decide +kernel
theorem dX7_has_16 : decode cX7_has 16 = .ok (.iconst 0, 1) := by decide +kernel
theorem dX7_has_17 : decode cX7_has 17 = .ok (.ireturn, 1) := by decide +kernel
def f_X7_has (S : e_S) (l0 : Nat) (l1 : Int32) (g : e_G) : Option (Int32 × e_G) :=
  if e_ob S 7 l0 = true then
    if l1 < 0 then
      some ((0 : Int32), g)
    else
      (e_gI S g 7 l0 6).bind fun v1 =>
      if v1 ≤ l1 then
        some ((0 : Int32), g)
      else
        some ((1 : Int32), g)
  else none
theorem o_X7_has  {S : e_S} {w : Int32} {k : e_G} {l0 : Nat} {l1 : Int32} {g : e_G} (hf : f_X7_has S l0 l1 g = some (w, k)) : e_ob S 7 l0 = true := by
  unfold f_X7_has at hf
  by_cases hc : e_ob S 7 l0 = true
  · exact hc
  · rw [if_neg hc] at hf
    cases hf
theorem c_X7_has {l : Launch} {D : va_G}  {S : e_S} {w : Int32} {k : e_G} {l0 : Nat} {l1 : Int32} {g : e_G} (hf : f_X7_has S l0 l1 g = some (w, k)) : CT l D (e_R 1) M_X7_has [.ref l0, .int l1] (S, g) (some (.int w)) (S, k) := by
  refine CT.of (by decide +kernel) (Nat.le_of_ble_eq_true rfl) ?_
  have ho := o_X7_has hf
  unfold f_X7_has at hf
  rw [if_pos ho] at hf
  show X l D (e_R 1) M_X7_has 0 0 0 [(0, .ref l0), (1, .int l1)] [] (S, g) (some (.int w)) (S, k)
  refine X.iload_n dX7_has_0 rfl (j := 1) rfl ?_
  refine X.if_lt dX7_has_1 (tgt := 16) rfl (fun hc => ?_) (fun hc => ?_)
  · rw [if_pos hc] at hf
    refine X.iconst dX7_has_16 kI_0 ?_
    obtain ⟨e1, e2⟩ := e_ret hf
    subst e1
    subst e2
    exact X.iret dX7_has_17 rfl rfl
  · rw [if_neg hc] at hf
    refine X.iload_n dX7_has_4 rfl (j := 1) rfl ?_
    refine X.aload_n dX7_has_5 rfl (j := 0) rfl ?_
    obtain ⟨v1, h2, hf⟩ := ob hf
    refine Y.getI dX7_has_6 fl_X7_42 rfl h2 ?_
    refine X.icmp_ge dX7_has_9 (tgt := 16) rfl (fun hc => ?_) (fun hc => ?_)
    · rw [if_pos hc] at hf
      refine X.iconst dX7_has_16 kI_0 ?_
      obtain ⟨e1, e2⟩ := e_ret hf
      subst e1
      subst e2
      exact X.iret dX7_has_17 rfl rfl
    · rw [if_neg hc] at hf
      refine X.iconst dX7_has_12 kI_1 ?_
      refine X.goto dX7_has_13 (tgt := 17) rfl ?_
      obtain ⟨e1, e2⟩ := e_ret hf
      subst e1
      subst e2
      exact X.iret dX7_has_17 rfl rfl
/-! LeanedOut$Street.isWindow(I)Z -/
abbrev M_X7_isWindow : e_M := (yX7_isWindow, cX7_isWindow, 1, (some .boolean))
theorem mk_X7_isWindow : e_Mok M_X7_isWindow 1 := ⟨by decide +kernel, by decide +kernel, by decide +kernel⟩
theorem dX7_isWindow_0 : decode cX7_isWindow 0 = .ok (.iload_n 0, 1) := by decide +kernel
theorem dX7_isWindow_1 : decode cX7_isWindow 1 = .ok (.ifCond .lt 13, 3) := by decide +kernel
theorem dX7_isWindow_4 : decode cX7_isWindow 4 = .ok (.iload_n 0, 1) := by decide +kernel
theorem dX7_isWindow_5 : decode cX7_isWindow 5 = .ok (.bipush 20, 2) := by decide +kernel
theorem dX7_isWindow_7 : decode cX7_isWindow 7 = .ok (.if_icmp .ge 7, 3) := by decide +kernel
theorem dX7_isWindow_10 : decode cX7_isWindow 10 = .ok (.iconst 1, 1) := by decide +kernel
theorem dX7_isWindow_11 : decode cX7_isWindow 11 = .ok (.goto 4, 3) := by decide +kernel
theorem dX7_isWindow_14 : decode cX7_isWindow 14 = .ok (.iconst 0, 1) := by decide +kernel
theorem dX7_isWindow_15 : decode cX7_isWindow 15 = .ok (.ireturn, 1) := by decide +kernel
def f_X7_isWindow (S : e_S) (l0 : Int32) (g : e_G) : Option (Int32 × e_G) :=
  if l0 < 0 then
    some ((0 : Int32), g)
  else
    if (20 : Int32) ≤ l0 then
      some ((0 : Int32), g)
    else
      some ((1 : Int32), g)
theorem c_X7_isWindow {l : Launch} {D : va_G}  {S : e_S} {w : Int32} {k : e_G} {l0 : Int32} {g : e_G} (hf : f_X7_isWindow S l0 g = some (w, k)) : CT l D (e_R 1) M_X7_isWindow [.int l0] (S, g) (some (.int w)) (S, k) := by
  refine CT.of (by decide +kernel) (Nat.le_of_ble_eq_true rfl) ?_
  unfold f_X7_isWindow at hf
  show X l D (e_R 1) M_X7_isWindow 0 0 0 [(0, .int l0)] [] (S, g) (some (.int w)) (S, k)
  refine X.iload_n dX7_isWindow_0 rfl (j := 0) rfl ?_
  refine X.if_lt dX7_isWindow_1 (tgt := 14) rfl (fun hc => ?_) (fun hc => ?_)
  · rw [if_pos hc] at hf
    refine X.iconst dX7_isWindow_14 kI_0 ?_
    obtain ⟨e1, e2⟩ := e_ret hf
    subst e1
    subst e2
    exact X.iret dX7_isWindow_15 rfl rfl
  · rw [if_neg hc] at hf
    refine X.iload_n dX7_isWindow_4 rfl (j := 0) rfl ?_
    refine X.bipush dX7_isWindow_5 kB_20 ?_
    refine X.icmp_ge dX7_isWindow_7 (tgt := 14) rfl (fun hc => ?_) (fun hc => ?_)
    · rw [if_pos hc] at hf
      refine X.iconst dX7_isWindow_14 kI_0 ?_
      obtain ⟨e1, e2⟩ := e_ret hf
      subst e1
      subst e2
      exact X.iret dX7_isWindow_15 rfl rfl
    · rw [if_neg hc] at hf
      refine X.iconst dX7_isWindow_10 kI_1 ?_
      refine X.goto dX7_isWindow_11 (tgt := 15) rfl ?_
      obtain ⟨e1, e2⟩ := e_ret hf
      subst e1
      subst e2
      exact X.iret dX7_isWindow_15 rfl rfl
/-! LeanedOut$Street.areOpposite(II)Z -/
abbrev M_X7_areOpposite : e_M := (yX7_areOpposite, cX7_areOpposite, 2, (some .boolean))
theorem mk_X7_areOpposite : e_Mok M_X7_areOpposite 2 := ⟨by decide +kernel, by decide +kernel, by decide +kernel⟩
theorem dX7_areOpposite_0 : decode cX7_areOpposite 0 = .ok (.iload_n 0, 1) := by decide +kernel
theorem dX7_areOpposite_1 : decode cX7_areOpposite 1 = .ok (.invokestatic 52, 3) := by decide +kernel
theorem dX7_areOpposite_4 : decode cX7_areOpposite 4 = .ok (.ifCond .eq 25, 3) := by decide +kernel
theorem dX7_areOpposite_7 : decode cX7_areOpposite 7 = .ok (.iload_n 1, 1) := by decide +kernel
theorem dX7_areOpposite_8 : decode cX7_areOpposite 8 = .ok (.invokestatic 52, 3) := by decide +kernel
theorem dX7_areOpposite_11 : decode cX7_areOpposite 11 = .ok (.ifCond .eq 18, 3) := by decide +kernel
theorem dX7_areOpposite_14 : decode cX7_areOpposite 14 = .ok (.iload_n 0, 1) := by decide +kernel
theorem dX7_areOpposite_15 : decode cX7_areOpposite 15 = .ok (.bipush 10, 2) := by decide +kernel
theorem dX7_areOpposite_17 : decode cX7_areOpposite 17 = .ok (.idiv, 1) := by decide +kernel
theorem dX7_areOpposite_18 : decode cX7_areOpposite 18 = .ok (.iload_n 1, 1) := by decide +kernel
theorem dX7_areOpposite_19 : decode cX7_areOpposite 19 = .ok (.bipush 10, 2) := by decide +kernel
theorem dX7_areOpposite_21 : decode cX7_areOpposite 21 = .ok (.idiv, 1) := by decide +kernel
theorem dX7_areOpposite_22 : decode cX7_areOpposite 22 = .ok (.if_icmp .eq 7, 3) := by decide +kernel
theorem dX7_areOpposite_25 : decode cX7_areOpposite 25 = .ok (.iconst 1, 1) := by decide +kernel
theorem dX7_areOpposite_26 : decode cX7_areOpposite 26 = .ok (.goto 4, 3) := by decide +kernel
theorem dX7_areOpposite_29 : decode cX7_areOpposite 29 = .ok (.iconst 0, 1) := by decide +kernel
theorem dX7_areOpposite_30 : decode cX7_areOpposite 30 = .ok (.ireturn, 1) := by decide +kernel
def f_X7_areOpposite (S : e_S) (l0 : Int32) (l1 : Int32) (g : e_G) : Option (Int32 × e_G) :=
  (f_X7_isWindow S l0 g).bind fun q2 =>
  if q2.1 = 0 then
    some ((0 : Int32), q2.2)
  else
    (f_X7_isWindow S l1 q2.2).bind fun q4 =>
    if q4.1 = 0 then
      some ((0 : Int32), q4.2)
    else
      if (l0 / (10 : Int32)) = (l1 / (10 : Int32)) then
        some ((0 : Int32), q4.2)
      else
        some ((1 : Int32), q4.2)
theorem c_X7_areOpposite {l : Launch} {D : va_G}  {S : e_S} {w : Int32} {k : e_G} {l0 : Int32} {l1 : Int32} {g : e_G} (hf : f_X7_areOpposite S l0 l1 g = some (w, k)) : CT l D (e_R 2) M_X7_areOpposite [.int l0, .int l1] (S, g) (some (.int w)) (S, k) := by
  refine CT.of (by decide +kernel) (Nat.le_of_ble_eq_true rfl) ?_
  unfold f_X7_areOpposite at hf
  show X l D (e_R 2) M_X7_areOpposite 0 0 0 [(0, .int l0), (1, .int l1)] [] (S, g) (some (.int w)) (S, k)
  refine X.iload_n dX7_areOpposite_0 rfl (j := 0) rfl ?_
  obtain ⟨q2, h1, hf⟩ := ob hf
  refine Y.callS (av := [.int l0]) dX7_areOpposite_1 (c_X7_isWindow (l := l) (D := D) (w := q2.1) (k := q2.2) h1) cw_X7_52 mk_X7_isWindow (e_R_ok (Nat.le_of_ble_eq_true rfl) (Nat.le_of_ble_eq_true rfl)) ⟨rfl, rfl⟩ (by simp [Value.category]) ?_
  refine X.if_eq dX7_areOpposite_4 (tgt := 29) rfl (fun hc => ?_) (fun hc => ?_)
  · rw [if_pos hc] at hf
    refine X.iconst dX7_areOpposite_29 kI_0 ?_
    obtain ⟨e1, e2⟩ := e_ret hf
    subst e1
    subst e2
    exact X.iret dX7_areOpposite_30 rfl rfl
  · rw [if_neg hc] at hf
    refine X.iload_n dX7_areOpposite_7 rfl (j := 1) rfl ?_
    obtain ⟨q4, h3, hf⟩ := ob hf
    refine Y.callS (av := [.int l1]) dX7_areOpposite_8 (c_X7_isWindow (l := l) (D := D) (w := q4.1) (k := q4.2) h3) cw_X7_52 mk_X7_isWindow (e_R_ok (Nat.le_of_ble_eq_true rfl) (Nat.le_of_ble_eq_true rfl)) ⟨rfl, rfl⟩ (by simp [Value.category]) ?_
    refine X.if_eq dX7_areOpposite_11 (tgt := 29) rfl (fun hc => ?_) (fun hc => ?_)
    · rw [if_pos hc] at hf
      refine X.iconst dX7_areOpposite_29 kI_0 ?_
      obtain ⟨e1, e2⟩ := e_ret hf
      subst e1
      subst e2
      exact X.iret dX7_areOpposite_30 rfl rfl
    · rw [if_neg hc] at hf
      refine X.iload_n dX7_areOpposite_14 rfl (j := 0) rfl ?_
      refine X.bipush dX7_areOpposite_15 kB_10 ?_
      refine X.idiv dX7_areOpposite_17 (by decide) ?_
      refine X.iload_n dX7_areOpposite_18 rfl (j := 1) rfl ?_
      refine X.bipush dX7_areOpposite_19 kB_10 ?_
      refine X.idiv dX7_areOpposite_21 (by decide) ?_
      refine X.icmp_eq dX7_areOpposite_22 (tgt := 29) rfl (fun hc => ?_) (fun hc => ?_)
      · rw [if_pos hc] at hf
        refine X.iconst dX7_areOpposite_29 kI_0 ?_
        obtain ⟨e1, e2⟩ := e_ret hf
        subst e1
        subst e2
        exact X.iret dX7_areOpposite_30 rfl rfl
      · rw [if_neg hc] at hf
        refine X.iconst dX7_areOpposite_25 kI_1 ?_
        refine X.goto dX7_areOpposite_26 (tgt := 30) rfl ?_
        obtain ⟨e1, e2⟩ := e_ret hf
        subst e1
        subst e2
        exact X.iret dX7_areOpposite_30 rfl rfl
/-! LeanedOut$Street.mayLookAt(II)Z -/
abbrev M_X7_mayLookAt : e_M := (yX7_mayLookAt, cX7_mayLookAt, 3, (some .boolean))
theorem mk_X7_mayLookAt : e_Mok M_X7_mayLookAt 2 := ⟨by decide +kernel, by decide +kernel, by decide +kernel⟩
theorem dX7_mayLookAt_0 : decode cX7_mayLookAt 0 = .ok (.aload_n 0, 1) := by decide +kernel
theorem dX7_mayLookAt_1 : decode cX7_mayLookAt 1 = .ok (.getfield 9, 3) := by decide +kernel
theorem dX7_mayLookAt_4 : decode cX7_mayLookAt 4 = .ok (.iload_n 1, 1) := by decide +kernel
theorem dX7_mayLookAt_5 : decode cX7_mayLookAt 5 = .ok (.iaload, 1) := by decide +kernel
theorem dX7_mayLookAt_6 : decode cX7_mayLookAt 6 = .ok (.iload_n 2, 1) := by decide +kernel
theorem dX7_mayLookAt_7 : decode cX7_mayLookAt 7 = .ok (.invokestatic 56, 3) := by decide +kernel
theorem dX7_mayLookAt_10 : decode cX7_mayLookAt 10 = .ok (.ireturn, 1) := by decide +kernel
def f_X7_mayLookAt (S : e_S) (l0 : Nat) (l1 : Int32) (l2 : Int32) (g : e_G) : Option (Int32 × e_G) :=
  if e_ob S 7 l0 = true then
    (e_gR S g 7 l0 0).bind fun v1 =>
    (e_aI S g 0 v1 l1).bind fun v3 =>
    (f_X7_areOpposite S v3 l2 g).bind fun q6 =>
    if q6.1 = 0 ∨ q6.1 = 1 then some (q6.1, q6.2) else none
  else none
theorem o_X7_mayLookAt  {S : e_S} {w : Int32} {k : e_G} {l0 : Nat} {l1 : Int32} {l2 : Int32} {g : e_G} (hf : f_X7_mayLookAt S l0 l1 l2 g = some (w, k)) : e_ob S 7 l0 = true := by
  unfold f_X7_mayLookAt at hf
  by_cases hc : e_ob S 7 l0 = true
  · exact hc
  · rw [if_neg hc] at hf
    cases hf
theorem c_X7_mayLookAt {l : Launch} {D : va_G}  {S : e_S} {w : Int32} {k : e_G} {l0 : Nat} {l1 : Int32} {l2 : Int32} {g : e_G} (hf : f_X7_mayLookAt S l0 l1 l2 g = some (w, k)) : CT l D (e_R 3) M_X7_mayLookAt [.ref l0, .int l1, .int l2] (S, g) (some (.int w)) (S, k) := by
  refine CT.of (by decide +kernel) (Nat.le_of_ble_eq_true rfl) ?_
  have ho := o_X7_mayLookAt hf
  unfold f_X7_mayLookAt at hf
  rw [if_pos ho] at hf
  show X l D (e_R 3) M_X7_mayLookAt 0 0 0 [(0, .ref l0), (1, .int l1), (2, .int l2)] [] (S, g) (some (.int w)) (S, k)
  refine X.aload_n dX7_mayLookAt_0 rfl (j := 0) rfl ?_
  obtain ⟨v1, h2, hf⟩ := ob hf
  refine Y.getR dX7_mayLookAt_1 fl_X7_9 rfl h2 ?_
  refine X.iload_n dX7_mayLookAt_4 rfl (j := 1) rfl ?_
  obtain ⟨v3, h4, hf⟩ := ob hf
  refine Y.iald dX7_mayLookAt_5 h4 ?_
  refine X.iload_n dX7_mayLookAt_6 rfl (j := 2) rfl ?_
  obtain ⟨q6, h5, hf⟩ := ob hf
  refine Y.callS (av := [.int v3, .int l2]) dX7_mayLookAt_7 (c_X7_areOpposite (l := l) (D := D) (w := q6.1) (k := q6.2) h5) cw_X7_56 mk_X7_areOpposite (e_R_ok (Nat.le_of_ble_eq_true rfl) (Nat.le_of_ble_eq_true rfl)) ⟨rfl, rfl⟩ (by simp [Value.category]) ?_
  by_cases h7 : q6.1 = 0 ∨ q6.1 = 1
  · rw [if_pos h7] at hf
    obtain ⟨e1, e2⟩ := e_ret hf
    subst e1
    subst e2
    exact X.iret dX7_mayLookAt_10 rfl (e_bool h7)
  · rw [if_neg h7] at hf
    cases hf
/-! LeanedOut$Street.whoIsAt(I)I -/
abbrev M_X7_whoIsAt : e_M := (yX7_whoIsAt, cX7_whoIsAt, 3, (some .int))
theorem mk_X7_whoIsAt : e_Mok M_X7_whoIsAt 1 := ⟨by decide +kernel, by decide +kernel, by decide +kernel⟩
theorem dX7_whoIsAt_0 : decode cX7_whoIsAt 0 = .ok (.iconst 0, 1) := by decide +kernel
theorem dX7_whoIsAt_1 : decode cX7_whoIsAt 1 = .ok (.istore_n 2, 1) := by decide +kernel
theorem dX7_whoIsAt_2 : decode cX7_whoIsAt 2 = .ok (.iload_n 2, 1) := by decide +kernel
theorem dX7_whoIsAt_3 : decode cX7_whoIsAt 3 = .ok (.aload_n 0, 1) := by decide +kernel
theorem dX7_whoIsAt_4 : decode cX7_whoIsAt 4 = .ok (.getfield 42, 3) := by decide +kernel
theorem dX7_whoIsAt_7 : decode cX7_whoIsAt 7 = .ok (.if_icmp .ge 21, 3) := by decide +kernel
theorem dX7_whoIsAt_10 : decode cX7_whoIsAt 10 = .ok (.aload_n 0, 1) := by decide +kernel
theorem dX7_whoIsAt_11 : decode cX7_whoIsAt 11 = .ok (.getfield 9, 3) := by decide +kernel
theorem dX7_whoIsAt_14 : decode cX7_whoIsAt 14 = .ok (.iload_n 2, 1) := by decide +kernel
theorem dX7_whoIsAt_15 : decode cX7_whoIsAt 15 = .ok (.iaload, 1) := by decide +kernel
theorem dX7_whoIsAt_16 : decode cX7_whoIsAt 16 = .ok (.iload_n 1, 1) := by decide +kernel
theorem dX7_whoIsAt_17 : decode cX7_whoIsAt 17 = .ok (.if_icmp .ne 5, 3) := by decide +kernel
theorem dX7_whoIsAt_20 : decode cX7_whoIsAt 20 = .ok (.iload_n 2, 1) := by decide +kernel
theorem dX7_whoIsAt_21 : decode cX7_whoIsAt 21 = .ok (.ireturn, 1) := by decide +kernel
theorem dX7_whoIsAt_22 : decode cX7_whoIsAt 22 = .ok (.iinc 2 1, 3) := by decide +kernel
theorem dX7_whoIsAt_25 : decode cX7_whoIsAt 25 = .ok (.goto (-23), 3) := by decide +kernel
theorem dX7_whoIsAt_28 : decode cX7_whoIsAt 28 = .ok (.iconst (-1), 1) := by decide +kernel
theorem dX7_whoIsAt_29 : decode cX7_whoIsAt 29 = .ok (.ireturn, 1) := by decide +kernel
def L_X7_whoIsAt_2 : Nat → e_S → Nat → Int32 → Int32 → e_G → Option (Int32 × e_G)
  | 0, _, _, _, _, _ => none
  | n + 1, S, l0, l1, l2, g =>
  (e_gI S g 7 l0 6).bind fun v1 =>
  if v1 ≤ l2 then
    some ((-1 : Int32), g)
  else
    (e_gR S g 7 l0 0).bind fun v3 =>
    (e_aI S g 0 v3 l2).bind fun v5 =>
    if v5 = l1 then
      some (l2, g)
    else
      L_X7_whoIsAt_2 n S l0 l1 (l2 + (1 : Int32)) g
def f_X7_whoIsAt (S : e_S) (l0 : Nat) (l1 : Int32) (g : e_G) : Option (Int32 × e_G) :=
  if e_ob S 7 l0 = true then
    L_X7_whoIsAt_2 50000 S l0 l1 (0 : Int32) g
  else none
theorem x_L_X7_whoIsAt_2 {l : Launch} {D : va_G} {S : e_S} {w : Int32} {k : e_G} : ∀ (n : Nat) (l0 : Nat) (l1 : Int32) (l2 : Int32) (g : e_G), L_X7_whoIsAt_2 n S l0 l1 l2 g = some (w, k) → X l D (e_R 1) M_X7_whoIsAt 0 0 2 [(0, .ref l0), (1, .int l1), (2, .int l2)] [] (S, g) (some (.int w)) (S, k) := by
  intro n
  induction n with
  | zero =>
    intro l0 l1 l2 g hf
    cases hf
  | succ n ih =>
    intro l0 l1 l2 g hf
    rw [L_X7_whoIsAt_2] at hf
    refine X.iload_n dX7_whoIsAt_2 rfl (j := 2) rfl ?_
    refine X.aload_n dX7_whoIsAt_3 rfl (j := 0) rfl ?_
    obtain ⟨v1, h2, hf⟩ := ob hf
    refine Y.getI dX7_whoIsAt_4 fl_X7_42 rfl h2 ?_
    refine X.icmp_ge dX7_whoIsAt_7 (tgt := 28) rfl (fun hc => ?_) (fun hc => ?_)
    · rw [if_pos hc] at hf
      refine X.iconst dX7_whoIsAt_28 kI_m1 ?_
      obtain ⟨e1, e2⟩ := e_ret hf
      subst e1
      subst e2
      exact X.iret dX7_whoIsAt_29 rfl rfl
    · rw [if_neg hc] at hf
      refine X.aload_n dX7_whoIsAt_10 rfl (j := 0) rfl ?_
      obtain ⟨v3, h4, hf⟩ := ob hf
      refine Y.getR dX7_whoIsAt_11 fl_X7_9 rfl h4 ?_
      refine X.iload_n dX7_whoIsAt_14 rfl (j := 2) rfl ?_
      obtain ⟨v5, h6, hf⟩ := ob hf
      refine Y.iald dX7_whoIsAt_15 h6 ?_
      refine X.iload_n dX7_whoIsAt_16 rfl (j := 1) rfl ?_
      refine X.icmp_ne dX7_whoIsAt_17 (tgt := 22) rfl (fun hc => ?_) (fun hc => ?_)
      · rw [if_neg hc] at hf
        refine X.iinc (j := 2) dX7_whoIsAt_22 rfl (v := l2 + (1 : Int32)) (by rw [kI_1]) (Nat.le_of_ble_eq_true rfl) (lc' := [(2, .int (l2 + (1 : Int32))), (0, .ref l0), (1, .int l1)]) rfl ?_
        refine X.goto dX7_whoIsAt_25 (tgt := 2) rfl ?_
        refine X.sub [1, 2, 0] rfl ?_
        exact ih _ _ _ _ hf
      · rw [if_pos hc] at hf
        refine X.iload_n dX7_whoIsAt_20 rfl (j := 2) rfl ?_
        obtain ⟨e1, e2⟩ := e_ret hf
        subst e1
        subst e2
        exact X.iret dX7_whoIsAt_21 rfl rfl
theorem o_X7_whoIsAt  {S : e_S} {w : Int32} {k : e_G} {l0 : Nat} {l1 : Int32} {g : e_G} (hf : f_X7_whoIsAt S l0 l1 g = some (w, k)) : e_ob S 7 l0 = true := by
  unfold f_X7_whoIsAt at hf
  by_cases hc : e_ob S 7 l0 = true
  · exact hc
  · rw [if_neg hc] at hf
    cases hf
theorem c_X7_whoIsAt {l : Launch} {D : va_G}  {S : e_S} {w : Int32} {k : e_G} {l0 : Nat} {l1 : Int32} {g : e_G} (hf : f_X7_whoIsAt S l0 l1 g = some (w, k)) : CT l D (e_R 1) M_X7_whoIsAt [.ref l0, .int l1] (S, g) (some (.int w)) (S, k) := by
  refine CT.of (by decide +kernel) (Nat.le_of_ble_eq_true rfl) ?_
  have ho := o_X7_whoIsAt hf
  unfold f_X7_whoIsAt at hf
  rw [if_pos ho] at hf
  show X l D (e_R 1) M_X7_whoIsAt 0 0 0 [(0, .ref l0), (1, .int l1)] [] (S, g) (some (.int w)) (S, k)
  refine X.iconst dX7_whoIsAt_0 kI_0 ?_
  refine X.istore_n dX7_whoIsAt_1 rfl (Nat.le_of_ble_eq_true rfl) (lc' := [(2, .int (0 : Int32)), (0, .ref l0), (1, .int l1)]) rfl ?_
  refine X.sub [1, 2, 0] rfl ?_
  exact x_L_X7_whoIsAt_2 50000 _ _ _ _ hf
/-! LeanedOut$Street.mayBeAt(II)Z -/
abbrev M_X7_mayBeAt : e_M := (yX7_mayBeAt, cX7_mayBeAt, 4, (some .boolean))
theorem mk_X7_mayBeAt : e_Mok M_X7_mayBeAt 2 := ⟨by decide +kernel, by decide +kernel, by decide +kernel⟩
theorem dX7_mayBeAt_0 : decode cX7_mayBeAt 0 = .ok (.iload_n 2, 1) := by decide +kernel
theorem dX7_mayBeAt_1 : decode cX7_mayBeAt 1 = .ok (.invokestatic 52, 3) := by decide +kernel
theorem dX7_mayBeAt_4 : decode cX7_mayBeAt 4 = .ok (.ifCond .eq 19, 3) := by decide +kernel
theorem dX7_mayBeAt_7 : decode cX7_mayBeAt 7 = .ok (.iload_n 2, 1) := by decide +kernel
theorem dX7_mayBeAt_8 : decode cX7_mayBeAt 8 = .ok (.bipush 10, 2) := by decide +kernel
theorem dX7_mayBeAt_10 : decode cX7_mayBeAt 10 = .ok (.idiv, 1) := by decide +kernel
theorem dX7_mayBeAt_11 : decode cX7_mayBeAt 11 = .ok (.aload_n 0, 1) := by decide +kernel
theorem dX7_mayBeAt_12 : decode cX7_mayBeAt 12 = .ok (.getfield 9, 3) := by decide +kernel
theorem dX7_mayBeAt_15 : decode cX7_mayBeAt 15 = .ok (.iload_n 1, 1) := by decide +kernel
theorem dX7_mayBeAt_16 : decode cX7_mayBeAt 16 = .ok (.iaload, 1) := by decide +kernel
theorem dX7_mayBeAt_17 : decode cX7_mayBeAt 17 = .ok (.bipush 10, 2) := by decide +kernel
theorem dX7_mayBeAt_19 : decode cX7_mayBeAt 19 = .ok (.idiv, 1) := by decide +kernel
theorem dX7_mayBeAt_20 : decode cX7_mayBeAt 20 = .ok (.if_icmp .eq 5, 3) := by decide +kernel
theorem dX7_mayBeAt_23 : decode cX7_mayBeAt 23 = .ok (.iconst 0, 1) := by decide +kernel
theorem dX7_mayBeAt_24 : decode cX7_mayBeAt 24 = .ok (.ireturn, 1) := by decide +kernel
theorem dX7_mayBeAt_25 : decode cX7_mayBeAt 25 = .ok (.aload_n 0, 1) := by decide +kernel
theorem dX7_mayBeAt_26 : decode cX7_mayBeAt 26 = .ok (.iload_n 2, 1) := by decide +kernel
theorem dX7_mayBeAt_27 : decode cX7_mayBeAt 27 = .ok (.invokevirtual 60, 3) := by decide +kernel
theorem dX7_mayBeAt_30 : decode cX7_mayBeAt 30 = .ok (.istore_n 3, 1) := by decide +kernel
theorem dX7_mayBeAt_31 : decode cX7_mayBeAt 31 = .ok (.iload_n 3, 1) := by decide +kernel
theorem dX7_mayBeAt_32 : decode cX7_mayBeAt 32 = .ok (.iconst (-1), 1) := by decide +kernel
theorem dX7_mayBeAt_33 : decode cX7_mayBeAt 33 = .ok (.if_icmp .eq 8, 3) := by decide +kernel
theorem dX7_mayBeAt_36 : decode cX7_mayBeAt 36 = .ok (.iload_n 3, 1) := by decide +kernel
theorem dX7_mayBeAt_37 : decode cX7_mayBeAt 37 = .ok (.iload_n 1, 1) := by decide +kernel
theorem dX7_mayBeAt_38 : decode cX7_mayBeAt 38 = .ok (.if_icmp .ne 7, 3) := by decide +kernel
theorem dX7_mayBeAt_41 : decode cX7_mayBeAt 41 = .ok (.iconst 1, 1) := by decide +kernel
theorem dX7_mayBeAt_42 : decode cX7_mayBeAt 42 = .ok (.goto 4, 3) := by decide +kernel
theorem dX7_mayBeAt_45 : decode cX7_mayBeAt 45 = .ok (.iconst 0, 1) := by decide +kernel
theorem dX7_mayBeAt_46 : decode cX7_mayBeAt 46 = .ok (.ireturn, 1) := by decide +kernel
def J_X7_mayBeAt_41 (S : e_S) (g : e_G) : Option (Int32 × e_G) :=
  some ((1 : Int32), g)
def f_X7_mayBeAt (S : e_S) (l0 : Nat) (l1 : Int32) (l2 : Int32) (g : e_G) : Option (Int32 × e_G) :=
  if e_ob S 7 l0 = true then
    (f_X7_isWindow S l2 g).bind fun q2 =>
    if q2.1 = 0 then
      some ((0 : Int32), q2.2)
    else
      (e_gR S q2.2 7 l0 0).bind fun v3 =>
      (e_aI S q2.2 0 v3 l1).bind fun v5 =>
      if (l2 / (10 : Int32)) = (v5 / (10 : Int32)) then
        (f_X7_whoIsAt S l0 l2 q2.2).bind fun q8 =>
        if q8.1 = (-1 : Int32) then
          J_X7_mayBeAt_41 S q8.2
        else
          if q8.1 = l1 then
            J_X7_mayBeAt_41 S q8.2
          else
            some ((0 : Int32), q8.2)
      else
        some ((0 : Int32), q2.2)
  else none
theorem x_J_X7_mayBeAt_41 {l : Launch} {D : va_G} {S : e_S} {w : Int32} {k : e_G} {g : e_G} (hf : J_X7_mayBeAt_41 S g = some (w, k)) : X l D (e_R 2) M_X7_mayBeAt 0 0 41 [] [] (S, g) (some (.int w)) (S, k) := by
  unfold J_X7_mayBeAt_41 at hf
  refine X.iconst dX7_mayBeAt_41 kI_1 ?_
  refine X.goto dX7_mayBeAt_42 (tgt := 46) rfl ?_
  obtain ⟨e1, e2⟩ := e_ret hf
  subst e1
  subst e2
  exact X.iret dX7_mayBeAt_46 rfl rfl
theorem o_X7_mayBeAt  {S : e_S} {w : Int32} {k : e_G} {l0 : Nat} {l1 : Int32} {l2 : Int32} {g : e_G} (hf : f_X7_mayBeAt S l0 l1 l2 g = some (w, k)) : e_ob S 7 l0 = true := by
  unfold f_X7_mayBeAt at hf
  by_cases hc : e_ob S 7 l0 = true
  · exact hc
  · rw [if_neg hc] at hf
    cases hf
theorem c_X7_mayBeAt {l : Launch} {D : va_G}  {S : e_S} {w : Int32} {k : e_G} {l0 : Nat} {l1 : Int32} {l2 : Int32} {g : e_G} (hf : f_X7_mayBeAt S l0 l1 l2 g = some (w, k)) : CT l D (e_R 2) M_X7_mayBeAt [.ref l0, .int l1, .int l2] (S, g) (some (.int w)) (S, k) := by
  refine CT.of (by decide +kernel) (Nat.le_of_ble_eq_true rfl) ?_
  have ho := o_X7_mayBeAt hf
  unfold f_X7_mayBeAt at hf
  rw [if_pos ho] at hf
  show X l D (e_R 2) M_X7_mayBeAt 0 0 0 [(0, .ref l0), (1, .int l1), (2, .int l2)] [] (S, g) (some (.int w)) (S, k)
  refine X.iload_n dX7_mayBeAt_0 rfl (j := 2) rfl ?_
  obtain ⟨q2, h1, hf⟩ := ob hf
  refine Y.callS (av := [.int l2]) dX7_mayBeAt_1 (c_X7_isWindow (l := l) (D := D) (w := q2.1) (k := q2.2) h1) cw_X7_52 mk_X7_isWindow (e_R_ok (Nat.le_of_ble_eq_true rfl) (Nat.le_of_ble_eq_true rfl)) ⟨rfl, rfl⟩ (by simp [Value.category]) ?_
  refine X.if_eq dX7_mayBeAt_4 (tgt := 23) rfl (fun hc => ?_) (fun hc => ?_)
  · rw [if_pos hc] at hf
    refine X.iconst dX7_mayBeAt_23 kI_0 ?_
    obtain ⟨e1, e2⟩ := e_ret hf
    subst e1
    subst e2
    exact X.iret dX7_mayBeAt_24 rfl rfl
  · rw [if_neg hc] at hf
    refine X.iload_n dX7_mayBeAt_7 rfl (j := 2) rfl ?_
    refine X.bipush dX7_mayBeAt_8 kB_10 ?_
    refine X.idiv dX7_mayBeAt_10 (by decide) ?_
    refine X.aload_n dX7_mayBeAt_11 rfl (j := 0) rfl ?_
    obtain ⟨v3, h4, hf⟩ := ob hf
    refine Y.getR dX7_mayBeAt_12 fl_X7_9 rfl h4 ?_
    refine X.iload_n dX7_mayBeAt_15 rfl (j := 1) rfl ?_
    obtain ⟨v5, h6, hf⟩ := ob hf
    refine Y.iald dX7_mayBeAt_16 h6 ?_
    refine X.bipush dX7_mayBeAt_17 kB_10 ?_
    refine X.idiv dX7_mayBeAt_19 (by decide) ?_
    refine X.icmp_eq dX7_mayBeAt_20 (tgt := 25) rfl (fun hc => ?_) (fun hc => ?_)
    · rw [if_pos hc] at hf
      refine X.aload_n dX7_mayBeAt_25 rfl (j := 0) rfl ?_
      refine X.iload_n dX7_mayBeAt_26 rfl (j := 2) rfl ?_
      obtain ⟨q8, h7, hf⟩ := ob hf
      refine Y.callV (av := [.int l2]) (ci := 7) dX7_mayBeAt_27 (c_X7_whoIsAt (l := l) (D := D) (w := q8.1) (k := q8.2) h7) cw_X7_60 (by decide) rfl mk_X7_whoIsAt (o_X7_whoIsAt (w := q8.1) (k := q8.2) h7) (e_R_ok (Nat.le_of_ble_eq_true rfl) (Nat.le_of_ble_eq_true rfl)) ⟨rfl, rfl⟩ (by simp [Value.category]) ?_
      refine X.istore_n dX7_mayBeAt_30 rfl (Nat.le_of_ble_eq_true rfl) (lc' := [(3, .int q8.1), (0, .ref l0), (1, .int l1), (2, .int l2)]) rfl ?_
      refine X.iload_n dX7_mayBeAt_31 rfl (j := 0) rfl ?_
      refine X.iconst dX7_mayBeAt_32 kI_m1 ?_
      refine X.icmp_eq dX7_mayBeAt_33 (tgt := 41) rfl (fun hc => ?_) (fun hc => ?_)
      · rw [if_pos hc] at hf
        refine X.sub [] rfl ?_
        exact x_J_X7_mayBeAt_41 hf
      · rw [if_neg hc] at hf
        refine X.iload_n dX7_mayBeAt_36 rfl (j := 0) rfl ?_
        refine X.iload_n dX7_mayBeAt_37 rfl (j := 2) rfl ?_
        refine X.icmp_ne dX7_mayBeAt_38 (tgt := 45) rfl (fun hc => ?_) (fun hc => ?_)
        · rw [if_neg hc] at hf
          refine X.iconst dX7_mayBeAt_45 kI_0 ?_
          obtain ⟨e1, e2⟩ := e_ret hf
          subst e1
          subst e2
          exact X.iret dX7_mayBeAt_46 rfl rfl
        · rw [if_pos hc] at hf
          refine X.sub [] rfl ?_
          exact x_J_X7_mayBeAt_41 hf
    · rw [if_neg hc] at hf
      refine X.iconst dX7_mayBeAt_23 kI_0 ?_
      obtain ⟨e1, e2⟩ := e_ret hf
      subst e1
      subst e2
      exact X.iret dX7_mayBeAt_24 rfl rfl
/-! LeanedOut$Street.isMet(I)Z -/
abbrev M_X7_isMet : e_M := (yX7_isMet, cX7_isMet, 3, (some .boolean))
theorem mk_X7_isMet : e_Mok M_X7_isMet 1 := ⟨by decide +kernel, by decide +kernel, by decide +kernel⟩
theorem dX7_isMet_0 : decode cX7_isMet 0 = .ok (.aload_n 0, 1) := by decide +kernel
theorem dX7_isMet_1 : decode cX7_isMet 1 = .ok (.aload_n 0, 1) := by decide +kernel
theorem dX7_isMet_2 : decode cX7_isMet 2 = .ok (.getfield 15, 3) := by decide +kernel
theorem dX7_isMet_5 : decode cX7_isMet 5 = .ok (.iload_n 1, 1) := by decide +kernel
theorem dX7_isMet_6 : decode cX7_isMet 6 = .ok (.iaload, 1) := by decide +kernel
theorem dX7_isMet_7 : decode cX7_isMet 7 = .ok (.invokevirtual 60, 3) := by decide +kernel
theorem dX7_isMet_10 : decode cX7_isMet 10 = .ok (.istore_n 2, 1) := by decide +kernel
theorem dX7_isMet_11 : decode cX7_isMet 11 = .ok (.iload_n 2, 1) := by decide +kernel
theorem dX7_isMet_12 : decode cX7_isMet 12 = .ok (.iconst (-1), 1) := by decide +kernel
theorem dX7_isMet_13 : decode cX7_isMet 13 = .ok (.if_icmp .eq 22, 3) := by decide +kernel
theorem dX7_isMet_16 : decode cX7_isMet 16 = .ok (.aload_n 0, 1) := by decide +kernel
theorem dX7_isMet_17 : decode cX7_isMet 17 = .ok (.getfield 15, 3) := by decide +kernel
theorem dX7_isMet_20 : decode cX7_isMet 20 = .ok (.iload_n 2, 1) := by decide +kernel
theorem dX7_isMet_21 : decode cX7_isMet 21 = .ok (.iaload, 1) := by decide +kernel
theorem dX7_isMet_22 : decode cX7_isMet 22 = .ok (.aload_n 0, 1) := by decide +kernel
theorem dX7_isMet_23 : decode cX7_isMet 23 = .ok (.getfield 9, 3) := by decide +kernel
theorem dX7_isMet_26 : decode cX7_isMet 26 = .ok (.iload_n 1, 1) := by decide +kernel
theorem dX7_isMet_27 : decode cX7_isMet 27 = .ok (.iaload, 1) := by decide +kernel
theorem dX7_isMet_28 : decode cX7_isMet 28 = .ok (.if_icmp .ne 7, 3) := by decide +kernel
theorem dX7_isMet_31 : decode cX7_isMet 31 = .ok (.iconst 1, 1) := by decide +kernel
theorem dX7_isMet_32 : decode cX7_isMet 32 = .ok (.goto 4, 3) := by decide +kernel
theorem dX7_isMet_35 : decode cX7_isMet 35 = .ok (.iconst 0, 1) := by decide +kernel
theorem dX7_isMet_36 : decode cX7_isMet 36 = .ok (.ireturn, 1) := by decide +kernel
def f_X7_isMet (S : e_S) (l0 : Nat) (l1 : Int32) (g : e_G) : Option (Int32 × e_G) :=
  if e_ob S 7 l0 = true then
    (e_gR S g 7 l0 1).bind fun v1 =>
    (e_aI S g 0 v1 l1).bind fun v3 =>
    (f_X7_whoIsAt S l0 v3 g).bind fun q6 =>
    if q6.1 = (-1 : Int32) then
      some ((0 : Int32), q6.2)
    else
      (e_gR S q6.2 7 l0 1).bind fun v7 =>
      (e_aI S q6.2 0 v7 q6.1).bind fun v9 =>
      (e_gR S q6.2 7 l0 0).bind fun v11 =>
      (e_aI S q6.2 0 v11 l1).bind fun v13 =>
      if v9 = v13 then
        some ((1 : Int32), q6.2)
      else
        some ((0 : Int32), q6.2)
  else none
theorem o_X7_isMet  {S : e_S} {w : Int32} {k : e_G} {l0 : Nat} {l1 : Int32} {g : e_G} (hf : f_X7_isMet S l0 l1 g = some (w, k)) : e_ob S 7 l0 = true := by
  unfold f_X7_isMet at hf
  by_cases hc : e_ob S 7 l0 = true
  · exact hc
  · rw [if_neg hc] at hf
    cases hf
theorem c_X7_isMet {l : Launch} {D : va_G}  {S : e_S} {w : Int32} {k : e_G} {l0 : Nat} {l1 : Int32} {g : e_G} (hf : f_X7_isMet S l0 l1 g = some (w, k)) : CT l D (e_R 2) M_X7_isMet [.ref l0, .int l1] (S, g) (some (.int w)) (S, k) := by
  refine CT.of (by decide +kernel) (Nat.le_of_ble_eq_true rfl) ?_
  have ho := o_X7_isMet hf
  unfold f_X7_isMet at hf
  rw [if_pos ho] at hf
  show X l D (e_R 2) M_X7_isMet 0 0 0 [(0, .ref l0), (1, .int l1)] [] (S, g) (some (.int w)) (S, k)
  refine X.aload_n dX7_isMet_0 rfl (j := 0) rfl ?_
  refine X.aload_n dX7_isMet_1 rfl (j := 0) rfl ?_
  obtain ⟨v1, h2, hf⟩ := ob hf
  refine Y.getR dX7_isMet_2 fl_X7_15 rfl h2 ?_
  refine X.iload_n dX7_isMet_5 rfl (j := 1) rfl ?_
  obtain ⟨v3, h4, hf⟩ := ob hf
  refine Y.iald dX7_isMet_6 h4 ?_
  obtain ⟨q6, h5, hf⟩ := ob hf
  refine Y.callV (av := [.int v3]) (ci := 7) dX7_isMet_7 (c_X7_whoIsAt (l := l) (D := D) (w := q6.1) (k := q6.2) h5) cw_X7_60 (by decide) rfl mk_X7_whoIsAt (o_X7_whoIsAt (w := q6.1) (k := q6.2) h5) (e_R_ok (Nat.le_of_ble_eq_true rfl) (Nat.le_of_ble_eq_true rfl)) ⟨rfl, rfl⟩ (by simp [Value.category]) ?_
  refine X.istore_n dX7_isMet_10 rfl (Nat.le_of_ble_eq_true rfl) (lc' := [(2, .int q6.1), (0, .ref l0), (1, .int l1)]) rfl ?_
  refine X.iload_n dX7_isMet_11 rfl (j := 0) rfl ?_
  refine X.iconst dX7_isMet_12 kI_m1 ?_
  refine X.icmp_eq dX7_isMet_13 (tgt := 35) rfl (fun hc => ?_) (fun hc => ?_)
  · rw [if_pos hc] at hf
    refine X.iconst dX7_isMet_35 kI_0 ?_
    obtain ⟨e1, e2⟩ := e_ret hf
    subst e1
    subst e2
    exact X.iret dX7_isMet_36 rfl rfl
  · rw [if_neg hc] at hf
    refine X.aload_n dX7_isMet_16 rfl (j := 1) rfl ?_
    obtain ⟨v7, h8, hf⟩ := ob hf
    refine Y.getR dX7_isMet_17 fl_X7_15 rfl h8 ?_
    refine X.iload_n dX7_isMet_20 rfl (j := 0) rfl ?_
    obtain ⟨v9, h10, hf⟩ := ob hf
    refine Y.iald dX7_isMet_21 h10 ?_
    refine X.aload_n dX7_isMet_22 rfl (j := 1) rfl ?_
    obtain ⟨v11, h12, hf⟩ := ob hf
    refine Y.getR dX7_isMet_23 fl_X7_9 rfl h12 ?_
    refine X.iload_n dX7_isMet_26 rfl (j := 2) rfl ?_
    obtain ⟨v13, h14, hf⟩ := ob hf
    refine Y.iald dX7_isMet_27 h14 ?_
    refine X.icmp_ne dX7_isMet_28 (tgt := 35) rfl (fun hc => ?_) (fun hc => ?_)
    · rw [if_neg hc] at hf
      refine X.iconst dX7_isMet_35 kI_0 ?_
      obtain ⟨e1, e2⟩ := e_ret hf
      subst e1
      subst e2
      exact X.iret dX7_isMet_36 rfl rfl
    · rw [if_pos hc] at hf
      refine X.iconst dX7_isMet_31 kI_1 ?_
      refine X.goto dX7_isMet_32 (tgt := 36) rfl ?_
      obtain ⟨e1, e2⟩ := e_ret hf
      subst e1
      subst e2
      exact X.iret dX7_isMet_36 rfl rfl
/-! LeanedOut$Street.lookers(I)I -/
abbrev M_X7_lookers : e_M := (yX7_lookers, cX7_lookers, 4, (some .int))
theorem mk_X7_lookers : e_Mok M_X7_lookers 1 := ⟨by decide +kernel, by decide +kernel, by decide +kernel⟩
theorem dX7_lookers_0 : decode cX7_lookers 0 = .ok (.iconst 0, 1) := by decide +kernel
theorem dX7_lookers_1 : decode cX7_lookers 1 = .ok (.istore_n 2, 1) := by decide +kernel
theorem dX7_lookers_2 : decode cX7_lookers 2 = .ok (.iconst 0, 1) := by decide +kernel
theorem dX7_lookers_3 : decode cX7_lookers 3 = .ok (.istore_n 3, 1) := by decide +kernel
theorem dX7_lookers_4 : decode cX7_lookers 4 = .ok (.iload_n 3, 1) := by decide +kernel
theorem dX7_lookers_5 : decode cX7_lookers 5 = .ok (.aload_n 0, 1) := by decide +kernel
theorem dX7_lookers_6 : decode cX7_lookers 6 = .ok (.getfield 42, 3) := by decide +kernel
theorem dX7_lookers_9 : decode cX7_lookers 9 = .ok (.if_icmp .ge 22, 3) := by decide +kernel
theorem dX7_lookers_12 : decode cX7_lookers 12 = .ok (.aload_n 0, 1) := by decide +kernel
theorem dX7_lookers_13 : decode cX7_lookers 13 = .ok (.getfield 15, 3) := by decide +kernel
theorem dX7_lookers_16 : decode cX7_lookers 16 = .ok (.iload_n 3, 1) := by decide +kernel
theorem dX7_lookers_17 : decode cX7_lookers 17 = .ok (.iaload, 1) := by decide +kernel
theorem dX7_lookers_18 : decode cX7_lookers 18 = .ok (.iload_n 1, 1) := by decide +kernel
theorem dX7_lookers_19 : decode cX7_lookers 19 = .ok (.if_icmp .ne 6, 3) := by decide +kernel
theorem dX7_lookers_22 : decode cX7_lookers 22 = .ok (.iinc 2 1, 3) := by decide +kernel
theorem dX7_lookers_25 : decode cX7_lookers 25 = .ok (.iinc 3 1, 3) := by decide +kernel
theorem dX7_lookers_28 : decode cX7_lookers 28 = .ok (.goto (-24), 3) := by decide +kernel
theorem dX7_lookers_31 : decode cX7_lookers 31 = .ok (.iload_n 2, 1) := by decide +kernel
theorem dX7_lookers_32 : decode cX7_lookers 32 = .ok (.ireturn, 1) := by decide +kernel
def J_X7_lookers_25 (c4 : Nat → Int32 → Int32 → Int32 → e_G → Option (Int32 × e_G)) (S : e_S) (l0 : Nat) (l1 : Int32) (l2 : Int32) (l3 : Int32) (g : e_G) : Option (Int32 × e_G) :=
  c4 l0 l1 l2 (l3 + (1 : Int32)) g
def L_X7_lookers_4 : Nat → e_S → Nat → Int32 → Int32 → Int32 → e_G → Option (Int32 × e_G)
  | 0, _, _, _, _, _, _ => none
  | n + 1, S, l0, l1, l2, l3, g =>
  (e_gI S g 7 l0 6).bind fun v1 =>
  if v1 ≤ l3 then
    some (l2, g)
  else
    (e_gR S g 7 l0 1).bind fun v3 =>
    (e_aI S g 0 v3 l3).bind fun v5 =>
    if v5 = l1 then
      J_X7_lookers_25 (L_X7_lookers_4 n S) S l0 l1 (l2 + (1 : Int32)) l3 g
    else
      J_X7_lookers_25 (L_X7_lookers_4 n S) S l0 l1 l2 l3 g
def f_X7_lookers (S : e_S) (l0 : Nat) (l1 : Int32) (g : e_G) : Option (Int32 × e_G) :=
  if e_ob S 7 l0 = true then
    L_X7_lookers_4 50000 S l0 l1 (0 : Int32) (0 : Int32) g
  else none
theorem x_J_X7_lookers_25 {l : Launch} {D : va_G} {S : e_S} {w : Int32} {k : e_G} (c4 : Nat → Int32 → Int32 → Int32 → e_G → Option (Int32 × e_G)) (hc4 : ∀ (l0 : Nat) (l1 : Int32) (l2 : Int32) (l3 : Int32) (g : e_G), c4 l0 l1 l2 l3 g = some (w, k) → X l D (e_R 1) M_X7_lookers 0 0 4 [(0, .ref l0), (1, .int l1), (2, .int l2), (3, .int l3)] [] (S, g) (some (.int w)) (S, k)) {l0 : Nat} {l1 : Int32} {l2 : Int32} {l3 : Int32} {g : e_G} (hf : J_X7_lookers_25 c4 S l0 l1 l2 l3 g = some (w, k)) : X l D (e_R 1) M_X7_lookers 0 0 25 [(0, .ref l0), (1, .int l1), (2, .int l2), (3, .int l3)] [] (S, g) (some (.int w)) (S, k) := by
  unfold J_X7_lookers_25 at hf
  refine X.iinc (j := 3) dX7_lookers_25 rfl (v := l3 + (1 : Int32)) (by rw [kI_1]) (Nat.le_of_ble_eq_true rfl) (lc' := [(3, .int (l3 + (1 : Int32))), (0, .ref l0), (1, .int l1), (2, .int l2)]) rfl ?_
  refine X.goto dX7_lookers_28 (tgt := 4) rfl ?_
  refine X.sub [1, 2, 3, 0] rfl ?_
  exact hc4 _ _ _ _ _ hf
theorem x_L_X7_lookers_4 {l : Launch} {D : va_G} {S : e_S} {w : Int32} {k : e_G} : ∀ (n : Nat) (l0 : Nat) (l1 : Int32) (l2 : Int32) (l3 : Int32) (g : e_G), L_X7_lookers_4 n S l0 l1 l2 l3 g = some (w, k) → X l D (e_R 1) M_X7_lookers 0 0 4 [(0, .ref l0), (1, .int l1), (2, .int l2), (3, .int l3)] [] (S, g) (some (.int w)) (S, k) := by
  intro n
  induction n with
  | zero =>
    intro l0 l1 l2 l3 g hf
    cases hf
  | succ n ih =>
    intro l0 l1 l2 l3 g hf
    rw [L_X7_lookers_4] at hf
    refine X.iload_n dX7_lookers_4 rfl (j := 3) rfl ?_
    refine X.aload_n dX7_lookers_5 rfl (j := 0) rfl ?_
    obtain ⟨v1, h2, hf⟩ := ob hf
    refine Y.getI dX7_lookers_6 fl_X7_42 rfl h2 ?_
    refine X.icmp_ge dX7_lookers_9 (tgt := 31) rfl (fun hc => ?_) (fun hc => ?_)
    · rw [if_pos hc] at hf
      refine X.iload_n dX7_lookers_31 rfl (j := 2) rfl ?_
      obtain ⟨e1, e2⟩ := e_ret hf
      subst e1
      subst e2
      exact X.iret dX7_lookers_32 rfl rfl
    · rw [if_neg hc] at hf
      refine X.aload_n dX7_lookers_12 rfl (j := 0) rfl ?_
      obtain ⟨v3, h4, hf⟩ := ob hf
      refine Y.getR dX7_lookers_13 fl_X7_15 rfl h4 ?_
      refine X.iload_n dX7_lookers_16 rfl (j := 3) rfl ?_
      obtain ⟨v5, h6, hf⟩ := ob hf
      refine Y.iald dX7_lookers_17 h6 ?_
      refine X.iload_n dX7_lookers_18 rfl (j := 1) rfl ?_
      refine X.icmp_ne dX7_lookers_19 (tgt := 25) rfl (fun hc => ?_) (fun hc => ?_)
      · rw [if_neg hc] at hf
        exact x_J_X7_lookers_25 _ ih hf
      · rw [if_pos hc] at hf
        refine X.iinc (j := 2) dX7_lookers_22 rfl (v := l2 + (1 : Int32)) (by rw [kI_1]) (Nat.le_of_ble_eq_true rfl) (lc' := [(2, .int (l2 + (1 : Int32))), (0, .ref l0), (1, .int l1), (3, .int l3)]) rfl ?_
        refine X.sub [1, 2, 0, 3] rfl ?_
        exact x_J_X7_lookers_25 _ ih hf
theorem o_X7_lookers  {S : e_S} {w : Int32} {k : e_G} {l0 : Nat} {l1 : Int32} {g : e_G} (hf : f_X7_lookers S l0 l1 g = some (w, k)) : e_ob S 7 l0 = true := by
  unfold f_X7_lookers at hf
  by_cases hc : e_ob S 7 l0 = true
  · exact hc
  · rw [if_neg hc] at hf
    cases hf
theorem c_X7_lookers {l : Launch} {D : va_G}  {S : e_S} {w : Int32} {k : e_G} {l0 : Nat} {l1 : Int32} {g : e_G} (hf : f_X7_lookers S l0 l1 g = some (w, k)) : CT l D (e_R 1) M_X7_lookers [.ref l0, .int l1] (S, g) (some (.int w)) (S, k) := by
  refine CT.of (by decide +kernel) (Nat.le_of_ble_eq_true rfl) ?_
  have ho := o_X7_lookers hf
  unfold f_X7_lookers at hf
  rw [if_pos ho] at hf
  show X l D (e_R 1) M_X7_lookers 0 0 0 [(0, .ref l0), (1, .int l1)] [] (S, g) (some (.int w)) (S, k)
  refine X.iconst dX7_lookers_0 kI_0 ?_
  refine X.istore_n dX7_lookers_1 rfl (Nat.le_of_ble_eq_true rfl) (lc' := [(2, .int (0 : Int32)), (0, .ref l0), (1, .int l1)]) rfl ?_
  refine X.iconst dX7_lookers_2 kI_0 ?_
  refine X.istore_n dX7_lookers_3 rfl (Nat.le_of_ble_eq_true rfl) (lc' := [(3, .int (0 : Int32)), (2, .int (0 : Int32)), (0, .ref l0), (1, .int l1)]) rfl ?_
  refine X.sub [2, 3, 1, 0] rfl ?_
  exact x_L_X7_lookers_4 50000 _ _ _ _ _ hf
/-! LeanedOut$Street.beside(I)I -/
abbrev M_X7_beside : e_M := (yX7_beside, cX7_beside, 4, (some .int))
theorem mk_X7_beside : e_Mok M_X7_beside 1 := ⟨by decide +kernel, by decide +kernel, by decide +kernel⟩
theorem dX7_beside_0 : decode cX7_beside 0 = .ok (.iconst 0, 1) := by decide +kernel
theorem dX7_beside_1 : decode cX7_beside 1 = .ok (.istore_n 2, 1) := by decide +kernel
theorem dX7_beside_2 : decode cX7_beside 2 = .ok (.iconst 0, 1) := by decide +kernel
theorem dX7_beside_3 : decode cX7_beside 3 = .ok (.istore_n 3, 1) := by decide +kernel
theorem dX7_beside_4 : decode cX7_beside 4 = .ok (.iload_n 3, 1) := by decide +kernel
theorem dX7_beside_5 : decode cX7_beside 5 = .ok (.aload_n 0, 1) := by decide +kernel
theorem dX7_beside_6 : decode cX7_beside 6 = .ok (.getfield 42, 3) := by decide +kernel
theorem dX7_beside_9 : decode cX7_beside 9 = .ok (.if_icmp .ge 65, 3) := by decide +kernel
theorem dX7_beside_12 : decode cX7_beside 12 = .ok (.aload_n 0, 1) := by decide +kernel
theorem dX7_beside_13 : decode cX7_beside 13 = .ok (.getfield 27, 3) := by decide +kernel
theorem dX7_beside_16 : decode cX7_beside 16 = .ok (.iload_n 3, 1) := by decide +kernel
theorem dX7_beside_17 : decode cX7_beside 17 = .ok (.baload, 1) := by decide +kernel
theorem dX7_beside_18 : decode cX7_beside 18 = .ok (.ifCond .eq 50, 3) := by decide +kernel
theorem dX7_beside_21 : decode cX7_beside 21 = .ok (.aload_n 0, 1) := by decide +kernel
theorem dX7_beside_22 : decode cX7_beside 22 = .ok (.getfield 9, 3) := by decide +kernel
theorem dX7_beside_25 : decode cX7_beside 25 = .ok (.iload_n 3, 1) := by decide +kernel
theorem dX7_beside_26 : decode cX7_beside 26 = .ok (.iaload, 1) := by decide +kernel
theorem dX7_beside_27 : decode cX7_beside 27 = .ok (.bipush 10, 2) := by decide +kernel
theorem dX7_beside_29 : decode cX7_beside 29 = .ok (.idiv, 1) := by decide +kernel
theorem dX7_beside_30 : decode cX7_beside 30 = .ok (.aload_n 0, 1) := by decide +kernel
theorem dX7_beside_31 : decode cX7_beside 31 = .ok (.getfield 9, 3) := by decide +kernel
theorem dX7_beside_34 : decode cX7_beside 34 = .ok (.iload_n 1, 1) := by decide +kernel
theorem dX7_beside_35 : decode cX7_beside 35 = .ok (.iaload, 1) := by decide +kernel
theorem dX7_beside_36 : decode cX7_beside 36 = .ok (.bipush 10, 2) := by decide +kernel
theorem dX7_beside_38 : decode cX7_beside 38 = .ok (.idiv, 1) := by decide +kernel
theorem dX7_beside_39 : decode cX7_beside 39 = .ok (.if_icmp .eq 6, 3) := by decide +kernel
theorem dX7_beside_42 : decode cX7_beside 42 = .ok (.goto 26, 3) := by decide +kernel
theorem dX7_beside_45 : decode cX7_beside 45 = .ok (.aload_n 0, 1) := by decide +kernel
theorem dX7_beside_46 : decode cX7_beside 46 = .ok (.getfield 9, 3) := by decide +kernel
theorem dX7_beside_49 : decode cX7_beside 49 = .ok (.iload_n 3, 1) := by decide +kernel
theorem dX7_beside_50 : decode cX7_beside 50 = .ok (.iaload, 1) := by decide +kernel
theorem dX7_beside_51 : decode cX7_beside 51 = .ok (.aload_n 0, 1) := by decide +kernel
theorem dX7_beside_52 : decode cX7_beside 52 = .ok (.getfield 9, 3) := by decide +kernel
theorem dX7_beside_55 : decode cX7_beside 55 = .ok (.iload_n 1, 1) := by decide +kernel
theorem dX7_beside_56 : decode cX7_beside 56 = .ok (.iaload, 1) := by decide +kernel
theorem dX7_beside_57 : decode cX7_beside 57 = .ok (.isub, 1) := by decide +kernel
theorem dX7_beside_58 : decode cX7_beside 58 = .ok (.invokestatic 64, 3) := by decide +kernel
theorem dX7_beside_61 : decode cX7_beside 61 = .ok (.iconst 1, 1) := by decide +kernel
theorem dX7_beside_62 : decode cX7_beside 62 = .ok (.if_icmp .ne 6, 3) := by decide +kernel
theorem dX7_beside_65 : decode cX7_beside 65 = .ok (.iinc 2 1, 3) := by decide +kernel
theorem dX7_beside_68 : decode cX7_beside 68 = .ok (.iinc 3 1, 3) := by decide +kernel
theorem dX7_beside_71 : decode cX7_beside 71 = .ok (.goto (-67), 3) := by decide +kernel
theorem dX7_beside_74 : decode cX7_beside 74 = .ok (.iload_n 2, 1) := by decide +kernel
theorem dX7_beside_75 : decode cX7_beside 75 = .ok (.ireturn, 1) := by decide +kernel
def J_X7_beside_68 (c4 : Nat → Int32 → Int32 → Int32 → e_G → Option (Int32 × e_G)) (S : e_S) (l0 : Nat) (l1 : Int32) (l2 : Int32) (l3 : Int32) (g : e_G) : Option (Int32 × e_G) :=
  c4 l0 l1 l2 (l3 + (1 : Int32)) g
def L_X7_beside_4 : Nat → e_S → Nat → Int32 → Int32 → Int32 → e_G → Option (Int32 × e_G)
  | 0, _, _, _, _, _, _ => none
  | n + 1, S, l0, l1, l2, l3, g =>
  (e_gI S g 7 l0 6).bind fun v1 =>
  if v1 ≤ l3 then
    some (l2, g)
  else
    (e_gR S g 7 l0 5).bind fun v3 =>
    (e_aI S g 1 v3 l3).bind fun v5 =>
    if v5 = 0 then
      J_X7_beside_68 (L_X7_beside_4 n S) S l0 l1 l2 l3 g
    else
      (e_gR S g 7 l0 0).bind fun v7 =>
      (e_aI S g 0 v7 l3).bind fun v9 =>
      (e_gR S g 7 l0 0).bind fun v11 =>
      (e_aI S g 0 v11 l1).bind fun v13 =>
      if (v9 / (10 : Int32)) = (v13 / (10 : Int32)) then
        (e_gR S g 7 l0 0).bind fun v15 =>
        (e_aI S g 0 v15 l3).bind fun v17 =>
        (e_gR S g 7 l0 0).bind fun v19 =>
        (e_aI S g 0 v19 l1).bind fun v21 =>
        if (i_abs (v17 - v21)) = (1 : Int32) then
          J_X7_beside_68 (L_X7_beside_4 n S) S l0 l1 (l2 + (1 : Int32)) l3 g
        else
          J_X7_beside_68 (L_X7_beside_4 n S) S l0 l1 l2 l3 g
      else
        J_X7_beside_68 (L_X7_beside_4 n S) S l0 l1 l2 l3 g
def f_X7_beside (S : e_S) (l0 : Nat) (l1 : Int32) (g : e_G) : Option (Int32 × e_G) :=
  if e_ob S 7 l0 = true then
    L_X7_beside_4 50000 S l0 l1 (0 : Int32) (0 : Int32) g
  else none
theorem x_J_X7_beside_68 {l : Launch} {D : va_G} {S : e_S} {w : Int32} {k : e_G} (c4 : Nat → Int32 → Int32 → Int32 → e_G → Option (Int32 × e_G)) (hc4 : ∀ (l0 : Nat) (l1 : Int32) (l2 : Int32) (l3 : Int32) (g : e_G), c4 l0 l1 l2 l3 g = some (w, k) → X l D (e_R 1) M_X7_beside 0 0 4 [(0, .ref l0), (1, .int l1), (2, .int l2), (3, .int l3)] [] (S, g) (some (.int w)) (S, k)) {l0 : Nat} {l1 : Int32} {l2 : Int32} {l3 : Int32} {g : e_G} (hf : J_X7_beside_68 c4 S l0 l1 l2 l3 g = some (w, k)) : X l D (e_R 1) M_X7_beside 0 0 68 [(0, .ref l0), (1, .int l1), (2, .int l2), (3, .int l3)] [] (S, g) (some (.int w)) (S, k) := by
  unfold J_X7_beside_68 at hf
  refine X.iinc (j := 3) dX7_beside_68 rfl (v := l3 + (1 : Int32)) (by rw [kI_1]) (Nat.le_of_ble_eq_true rfl) (lc' := [(3, .int (l3 + (1 : Int32))), (0, .ref l0), (1, .int l1), (2, .int l2)]) rfl ?_
  refine X.goto dX7_beside_71 (tgt := 4) rfl ?_
  refine X.sub [1, 2, 3, 0] rfl ?_
  exact hc4 _ _ _ _ _ hf
theorem x_L_X7_beside_4 {l : Launch} {D : va_G} {S : e_S} {w : Int32} {k : e_G} : ∀ (n : Nat) (l0 : Nat) (l1 : Int32) (l2 : Int32) (l3 : Int32) (g : e_G), L_X7_beside_4 n S l0 l1 l2 l3 g = some (w, k) → X l D (e_R 1) M_X7_beside 0 0 4 [(0, .ref l0), (1, .int l1), (2, .int l2), (3, .int l3)] [] (S, g) (some (.int w)) (S, k) := by
  intro n
  induction n with
  | zero =>
    intro l0 l1 l2 l3 g hf
    cases hf
  | succ n ih =>
    intro l0 l1 l2 l3 g hf
    rw [L_X7_beside_4] at hf
    refine X.iload_n dX7_beside_4 rfl (j := 3) rfl ?_
    refine X.aload_n dX7_beside_5 rfl (j := 0) rfl ?_
    obtain ⟨v1, h2, hf⟩ := ob hf
    refine Y.getI dX7_beside_6 fl_X7_42 rfl h2 ?_
    refine X.icmp_ge dX7_beside_9 (tgt := 74) rfl (fun hc => ?_) (fun hc => ?_)
    · rw [if_pos hc] at hf
      refine X.iload_n dX7_beside_74 rfl (j := 2) rfl ?_
      obtain ⟨e1, e2⟩ := e_ret hf
      subst e1
      subst e2
      exact X.iret dX7_beside_75 rfl rfl
    · rw [if_neg hc] at hf
      refine X.aload_n dX7_beside_12 rfl (j := 0) rfl ?_
      obtain ⟨v3, h4, hf⟩ := ob hf
      refine Y.getR dX7_beside_13 fl_X7_27 rfl h4 ?_
      refine X.iload_n dX7_beside_16 rfl (j := 3) rfl ?_
      obtain ⟨v5, h6, hf⟩ := ob hf
      refine Y.zald dX7_beside_17 h6 ?_
      refine X.if_eq dX7_beside_18 (tgt := 68) rfl (fun hc => ?_) (fun hc => ?_)
      · rw [if_pos hc] at hf
        exact x_J_X7_beside_68 _ ih hf
      · rw [if_neg hc] at hf
        refine X.aload_n dX7_beside_21 rfl (j := 0) rfl ?_
        obtain ⟨v7, h8, hf⟩ := ob hf
        refine Y.getR dX7_beside_22 fl_X7_9 rfl h8 ?_
        refine X.iload_n dX7_beside_25 rfl (j := 3) rfl ?_
        obtain ⟨v9, h10, hf⟩ := ob hf
        refine Y.iald dX7_beside_26 h10 ?_
        refine X.bipush dX7_beside_27 kB_10 ?_
        refine X.idiv dX7_beside_29 (by decide) ?_
        refine X.aload_n dX7_beside_30 rfl (j := 0) rfl ?_
        obtain ⟨v11, h12, hf⟩ := ob hf
        refine Y.getR dX7_beside_31 fl_X7_9 rfl h12 ?_
        refine X.iload_n dX7_beside_34 rfl (j := 1) rfl ?_
        obtain ⟨v13, h14, hf⟩ := ob hf
        refine Y.iald dX7_beside_35 h14 ?_
        refine X.bipush dX7_beside_36 kB_10 ?_
        refine X.idiv dX7_beside_38 (by decide) ?_
        refine X.icmp_eq dX7_beside_39 (tgt := 45) rfl (fun hc => ?_) (fun hc => ?_)
        · rw [if_pos hc] at hf
          refine X.aload_n dX7_beside_45 rfl (j := 0) rfl ?_
          obtain ⟨v15, h16, hf⟩ := ob hf
          refine Y.getR dX7_beside_46 fl_X7_9 rfl h16 ?_
          refine X.iload_n dX7_beside_49 rfl (j := 3) rfl ?_
          obtain ⟨v17, h18, hf⟩ := ob hf
          refine Y.iald dX7_beside_50 h18 ?_
          refine X.aload_n dX7_beside_51 rfl (j := 0) rfl ?_
          obtain ⟨v19, h20, hf⟩ := ob hf
          refine Y.getR dX7_beside_52 fl_X7_9 rfl h20 ?_
          refine X.iload_n dX7_beside_55 rfl (j := 1) rfl ?_
          obtain ⟨v21, h22, hf⟩ := ob hf
          refine Y.iald dX7_beside_56 h22 ?_
          refine X.isub dX7_beside_57 ?_
          refine Y.mabs dX7_beside_58 ww_509 ww_510 ww_88 ww_511 ⟨Nat.le_of_ble_eq_true rfl, Nat.le_of_ble_eq_true rfl⟩ (by simp [Value.category]) ?_
          refine X.iconst dX7_beside_61 kI_1 ?_
          refine X.icmp_ne dX7_beside_62 (tgt := 68) rfl (fun hc => ?_) (fun hc => ?_)
          · rw [if_neg hc] at hf
            exact x_J_X7_beside_68 _ ih hf
          · rw [if_pos hc] at hf
            refine X.iinc (j := 2) dX7_beside_65 rfl (v := l2 + (1 : Int32)) (by rw [kI_1]) (Nat.le_of_ble_eq_true rfl) (lc' := [(2, .int (l2 + (1 : Int32))), (0, .ref l0), (1, .int l1), (3, .int l3)]) rfl ?_
            refine X.sub [1, 2, 0, 3] rfl ?_
            exact x_J_X7_beside_68 _ ih hf
        · rw [if_neg hc] at hf
          refine X.goto dX7_beside_42 (tgt := 68) rfl ?_
          exact x_J_X7_beside_68 _ ih hf
theorem o_X7_beside  {S : e_S} {w : Int32} {k : e_G} {l0 : Nat} {l1 : Int32} {g : e_G} (hf : f_X7_beside S l0 l1 g = some (w, k)) : e_ob S 7 l0 = true := by
  unfold f_X7_beside at hf
  by_cases hc : e_ob S 7 l0 = true
  · exact hc
  · rw [if_neg hc] at hf
    cases hf
theorem c_X7_beside {l : Launch} {D : va_G}  {S : e_S} {w : Int32} {k : e_G} {l0 : Nat} {l1 : Int32} {g : e_G} (hf : f_X7_beside S l0 l1 g = some (w, k)) : CT l D (e_R 1) M_X7_beside [.ref l0, .int l1] (S, g) (some (.int w)) (S, k) := by
  refine CT.of (by decide +kernel) (Nat.le_of_ble_eq_true rfl) ?_
  have ho := o_X7_beside hf
  unfold f_X7_beside at hf
  rw [if_pos ho] at hf
  show X l D (e_R 1) M_X7_beside 0 0 0 [(0, .ref l0), (1, .int l1)] [] (S, g) (some (.int w)) (S, k)
  refine X.iconst dX7_beside_0 kI_0 ?_
  refine X.istore_n dX7_beside_1 rfl (Nat.le_of_ble_eq_true rfl) (lc' := [(2, .int (0 : Int32)), (0, .ref l0), (1, .int l1)]) rfl ?_
  refine X.iconst dX7_beside_2 kI_0 ?_
  refine X.istore_n dX7_beside_3 rfl (Nat.le_of_ble_eq_true rfl) (lc' := [(3, .int (0 : Int32)), (2, .int (0 : Int32)), (0, .ref l0), (1, .int l1)]) rfl ?_
  refine X.sub [2, 3, 1, 0] rfl ?_
  exact x_L_X7_beside_4 50000 _ _ _ _ _ hf
/-! LeanedOut$Street.meetings()I -/
abbrev M_X7_meetings : e_M := (yX7_meetings, cX7_meetings, 3, (some .int))
theorem mk_X7_meetings : e_Mok M_X7_meetings 0 := ⟨by decide +kernel, by decide +kernel, by decide +kernel⟩
theorem dX7_meetings_0 : decode cX7_meetings 0 = .ok (.iconst 0, 1) := by decide +kernel
theorem dX7_meetings_1 : decode cX7_meetings 1 = .ok (.istore_n 1, 1) := by decide +kernel
theorem dX7_meetings_2 : decode cX7_meetings 2 = .ok (.iconst 0, 1) := by decide +kernel
theorem dX7_meetings_3 : decode cX7_meetings 3 = .ok (.istore_n 2, 1) := by decide +kernel
theorem dX7_meetings_4 : decode cX7_meetings 4 = .ok (.iload_n 2, 1) := by decide +kernel
theorem dX7_meetings_5 : decode cX7_meetings 5 = .ok (.aload_n 0, 1) := by decide +kernel
theorem dX7_meetings_6 : decode cX7_meetings 6 = .ok (.getfield 42, 3) := by decide +kernel
theorem dX7_meetings_9 : decode cX7_meetings 9 = .ok (.if_icmp .ge 34, 3) := by decide +kernel
theorem dX7_meetings_12 : decode cX7_meetings 12 = .ok (.aload_n 0, 1) := by decide +kernel
theorem dX7_meetings_13 : decode cX7_meetings 13 = .ok (.iload_n 2, 1) := by decide +kernel
theorem dX7_meetings_14 : decode cX7_meetings 14 = .ok (.invokevirtual 69, 3) := by decide +kernel
theorem dX7_meetings_17 : decode cX7_meetings 17 = .ok (.ifCond .eq 20, 3) := by decide +kernel
theorem dX7_meetings_20 : decode cX7_meetings 20 = .ok (.aload_n 0, 1) := by decide +kernel
theorem dX7_meetings_21 : decode cX7_meetings 21 = .ok (.aload_n 0, 1) := by decide +kernel
theorem dX7_meetings_22 : decode cX7_meetings 22 = .ok (.getfield 15, 3) := by decide +kernel
theorem dX7_meetings_25 : decode cX7_meetings 25 = .ok (.iload_n 2, 1) := by decide +kernel
theorem dX7_meetings_26 : decode cX7_meetings 26 = .ok (.iaload, 1) := by decide +kernel
theorem dX7_meetings_27 : decode cX7_meetings 27 = .ok (.invokevirtual 60, 3) := by decide +kernel
theorem dX7_meetings_30 : decode cX7_meetings 30 = .ok (.iload_n 2, 1) := by decide +kernel
theorem dX7_meetings_31 : decode cX7_meetings 31 = .ok (.if_icmp .le 6, 3) := by decide +kernel
theorem dX7_meetings_34 : decode cX7_meetings 34 = .ok (.iinc 1 1, 3) := by decide +kernel
theorem dX7_meetings_37 : decode cX7_meetings 37 = .ok (.iinc 2 1, 3) := by decide +kernel
theorem dX7_meetings_40 : decode cX7_meetings 40 = .ok (.goto (-36), 3) := by decide +kernel
theorem dX7_meetings_43 : decode cX7_meetings 43 = .ok (.iload_n 1, 1) := by decide +kernel
theorem dX7_meetings_44 : decode cX7_meetings 44 = .ok (.ireturn, 1) := by decide +kernel
def J_X7_meetings_37 (c4 : Nat → Int32 → Int32 → e_G → Option (Int32 × e_G)) (S : e_S) (l0 : Nat) (l1 : Int32) (l2 : Int32) (g : e_G) : Option (Int32 × e_G) :=
  c4 l0 l1 (l2 + (1 : Int32)) g
def L_X7_meetings_4 : Nat → e_S → Nat → Int32 → Int32 → e_G → Option (Int32 × e_G)
  | 0, _, _, _, _, _ => none
  | n + 1, S, l0, l1, l2, g =>
  (e_gI S g 7 l0 6).bind fun v1 =>
  if v1 ≤ l2 then
    some (l1, g)
  else
    (f_X7_isMet S l0 l2 g).bind fun q4 =>
    if q4.1 = 0 then
      J_X7_meetings_37 (L_X7_meetings_4 n S) S l0 l1 l2 q4.2
    else
      (e_gR S q4.2 7 l0 1).bind fun v5 =>
      (e_aI S q4.2 0 v5 l2).bind fun v7 =>
      (f_X7_whoIsAt S l0 v7 q4.2).bind fun q10 =>
      if q10.1 ≤ l2 then
        J_X7_meetings_37 (L_X7_meetings_4 n S) S l0 l1 l2 q10.2
      else
        J_X7_meetings_37 (L_X7_meetings_4 n S) S l0 (l1 + (1 : Int32)) l2 q10.2
def f_X7_meetings (S : e_S) (l0 : Nat) (g : e_G) : Option (Int32 × e_G) :=
  if e_ob S 7 l0 = true then
    L_X7_meetings_4 50000 S l0 (0 : Int32) (0 : Int32) g
  else none
theorem x_J_X7_meetings_37 {l : Launch} {D : va_G} {S : e_S} {w : Int32} {k : e_G} (c4 : Nat → Int32 → Int32 → e_G → Option (Int32 × e_G)) (hc4 : ∀ (l0 : Nat) (l1 : Int32) (l2 : Int32) (g : e_G), c4 l0 l1 l2 g = some (w, k) → X l D (e_R 3) M_X7_meetings 0 0 4 [(0, .ref l0), (1, .int l1), (2, .int l2)] [] (S, g) (some (.int w)) (S, k)) {l0 : Nat} {l1 : Int32} {l2 : Int32} {g : e_G} (hf : J_X7_meetings_37 c4 S l0 l1 l2 g = some (w, k)) : X l D (e_R 3) M_X7_meetings 0 0 37 [(0, .ref l0), (1, .int l1), (2, .int l2)] [] (S, g) (some (.int w)) (S, k) := by
  unfold J_X7_meetings_37 at hf
  refine X.iinc (j := 2) dX7_meetings_37 rfl (v := l2 + (1 : Int32)) (by rw [kI_1]) (Nat.le_of_ble_eq_true rfl) (lc' := [(2, .int (l2 + (1 : Int32))), (0, .ref l0), (1, .int l1)]) rfl ?_
  refine X.goto dX7_meetings_40 (tgt := 4) rfl ?_
  refine X.sub [1, 2, 0] rfl ?_
  exact hc4 _ _ _ _ hf
theorem x_L_X7_meetings_4 {l : Launch} {D : va_G} {S : e_S} {w : Int32} {k : e_G} : ∀ (n : Nat) (l0 : Nat) (l1 : Int32) (l2 : Int32) (g : e_G), L_X7_meetings_4 n S l0 l1 l2 g = some (w, k) → X l D (e_R 3) M_X7_meetings 0 0 4 [(0, .ref l0), (1, .int l1), (2, .int l2)] [] (S, g) (some (.int w)) (S, k) := by
  intro n
  induction n with
  | zero =>
    intro l0 l1 l2 g hf
    cases hf
  | succ n ih =>
    intro l0 l1 l2 g hf
    rw [L_X7_meetings_4] at hf
    refine X.iload_n dX7_meetings_4 rfl (j := 2) rfl ?_
    refine X.aload_n dX7_meetings_5 rfl (j := 0) rfl ?_
    obtain ⟨v1, h2, hf⟩ := ob hf
    refine Y.getI dX7_meetings_6 fl_X7_42 rfl h2 ?_
    refine X.icmp_ge dX7_meetings_9 (tgt := 43) rfl (fun hc => ?_) (fun hc => ?_)
    · rw [if_pos hc] at hf
      refine X.iload_n dX7_meetings_43 rfl (j := 1) rfl ?_
      obtain ⟨e1, e2⟩ := e_ret hf
      subst e1
      subst e2
      exact X.iret dX7_meetings_44 rfl rfl
    · rw [if_neg hc] at hf
      refine X.aload_n dX7_meetings_12 rfl (j := 0) rfl ?_
      refine X.iload_n dX7_meetings_13 rfl (j := 2) rfl ?_
      obtain ⟨q4, h3, hf⟩ := ob hf
      refine Y.callV (av := [.int l2]) (ci := 7) dX7_meetings_14 (c_X7_isMet (l := l) (D := D) (w := q4.1) (k := q4.2) h3) cw_X7_69 (by decide) rfl mk_X7_isMet (o_X7_isMet (w := q4.1) (k := q4.2) h3) (e_R_ok (Nat.le_of_ble_eq_true rfl) (Nat.le_of_ble_eq_true rfl)) ⟨rfl, rfl⟩ (by simp [Value.category]) ?_
      refine X.if_eq dX7_meetings_17 (tgt := 37) rfl (fun hc => ?_) (fun hc => ?_)
      · rw [if_pos hc] at hf
        exact x_J_X7_meetings_37 _ ih hf
      · rw [if_neg hc] at hf
        refine X.aload_n dX7_meetings_20 rfl (j := 0) rfl ?_
        refine X.aload_n dX7_meetings_21 rfl (j := 0) rfl ?_
        obtain ⟨v5, h6, hf⟩ := ob hf
        refine Y.getR dX7_meetings_22 fl_X7_15 rfl h6 ?_
        refine X.iload_n dX7_meetings_25 rfl (j := 2) rfl ?_
        obtain ⟨v7, h8, hf⟩ := ob hf
        refine Y.iald dX7_meetings_26 h8 ?_
        obtain ⟨q10, h9, hf⟩ := ob hf
        refine Y.callV (av := [.int v7]) (ci := 7) dX7_meetings_27 (c_X7_whoIsAt (l := l) (D := D) (w := q10.1) (k := q10.2) h9) cw_X7_60 (by decide) rfl mk_X7_whoIsAt (o_X7_whoIsAt (w := q10.1) (k := q10.2) h9) (e_R_ok (Nat.le_of_ble_eq_true rfl) (Nat.le_of_ble_eq_true rfl)) ⟨rfl, rfl⟩ (by simp [Value.category]) ?_
        refine X.iload_n dX7_meetings_30 rfl (j := 2) rfl ?_
        refine X.icmp_le dX7_meetings_31 (tgt := 37) rfl (fun hc => ?_) (fun hc => ?_)
        · rw [if_pos hc] at hf
          exact x_J_X7_meetings_37 _ ih hf
        · rw [if_neg hc] at hf
          refine X.iinc (j := 1) dX7_meetings_34 rfl (v := l1 + (1 : Int32)) (by rw [kI_1]) (Nat.le_of_ble_eq_true rfl) (lc' := [(1, .int (l1 + (1 : Int32))), (0, .ref l0), (2, .int l2)]) rfl ?_
          refine X.sub [1, 0, 2] rfl ?_
          exact x_J_X7_meetings_37 _ ih hf
theorem o_X7_meetings  {S : e_S} {w : Int32} {k : e_G} {l0 : Nat} {g : e_G} (hf : f_X7_meetings S l0 g = some (w, k)) : e_ob S 7 l0 = true := by
  unfold f_X7_meetings at hf
  by_cases hc : e_ob S 7 l0 = true
  · exact hc
  · rw [if_neg hc] at hf
    cases hf
theorem c_X7_meetings {l : Launch} {D : va_G}  {S : e_S} {w : Int32} {k : e_G} {l0 : Nat} {g : e_G} (hf : f_X7_meetings S l0 g = some (w, k)) : CT l D (e_R 3) M_X7_meetings [.ref l0] (S, g) (some (.int w)) (S, k) := by
  refine CT.of (by decide +kernel) (Nat.le_of_ble_eq_true rfl) ?_
  have ho := o_X7_meetings hf
  unfold f_X7_meetings at hf
  rw [if_pos ho] at hf
  show X l D (e_R 3) M_X7_meetings 0 0 0 [(0, .ref l0)] [] (S, g) (some (.int w)) (S, k)
  refine X.iconst dX7_meetings_0 kI_0 ?_
  refine X.istore_n dX7_meetings_1 rfl (Nat.le_of_ble_eq_true rfl) (lc' := [(1, .int (0 : Int32)), (0, .ref l0)]) rfl ?_
  refine X.iconst dX7_meetings_2 kI_0 ?_
  refine X.istore_n dX7_meetings_3 rfl (Nat.le_of_ble_eq_true rfl) (lc' := [(2, .int (0 : Int32)), (1, .int (0 : Int32)), (0, .ref l0)]) rfl ?_
  refine X.sub [2, 1, 0] rfl ?_
  exact x_L_X7_meetings_4 50000 _ _ _ _ hf
/-! LeanedOut$Street.endOn(II)I -/
abbrev M_X7_endOn : e_M := (yX7_endOn, cX7_endOn, 3, (some .int))
theorem mk_X7_endOn : e_Mok M_X7_endOn 2 := ⟨by decide +kernel, by decide +kernel, by decide +kernel⟩
theorem dX7_endOn_0 : decode cX7_endOn 0 = .ok (.aload_n 0, 1) := by decide +kernel
theorem dX7_endOn_1 : decode cX7_endOn 1 = .ok (.getfield 9, 3) := by decide +kernel
theorem dX7_endOn_4 : decode cX7_endOn 4 = .ok (.iload_n 2, 1) := by decide +kernel
theorem dX7_endOn_5 : decode cX7_endOn 5 = .ok (.iaload, 1) := by decide +kernel
theorem dX7_endOn_6 : decode cX7_endOn 6 = .ok (.bipush 10, 2) := by decide +kernel
theorem dX7_endOn_8 : decode cX7_endOn 8 = .ok (.idiv, 1) := by decide +kernel
theorem dX7_endOn_9 : decode cX7_endOn 9 = .ok (.iload_n 1, 1) := by decide +kernel
theorem dX7_endOn_10 : decode cX7_endOn 10 = .ok (.if_icmp .ne 12, 3) := by decide +kernel
theorem dX7_endOn_13 : decode cX7_endOn 13 = .ok (.aload_n 0, 1) := by decide +kernel
theorem dX7_endOn_14 : decode cX7_endOn 14 = .ok (.getfield 9, 3) := by decide +kernel
theorem dX7_endOn_17 : decode cX7_endOn 17 = .ok (.iload_n 2, 1) := by decide +kernel
theorem dX7_endOn_18 : decode cX7_endOn 18 = .ok (.iaload, 1) := by decide +kernel
theorem dX7_endOn_19 : decode cX7_endOn 19 = .ok (.goto 9, 3) := by decide +kernel
theorem dX7_endOn_22 : decode cX7_endOn 22 = .ok (.aload_n 0, 1) := by decide +kernel
theorem dX7_endOn_23 : decode cX7_endOn 23 = .ok (.getfield 15, 3) := by decide +kernel
theorem dX7_endOn_26 : decode cX7_endOn 26 = .ok (.iload_n 2, 1) := by decide +kernel
theorem dX7_endOn_27 : decode cX7_endOn 27 = .ok (.iaload, 1) := by decide +kernel
theorem dX7_endOn_28 : decode cX7_endOn 28 = .ok (.ireturn, 1) := by decide +kernel
def f_X7_endOn (S : e_S) (l0 : Nat) (l1 : Int32) (l2 : Int32) (g : e_G) : Option (Int32 × e_G) :=
  if e_ob S 7 l0 = true then
    (e_gR S g 7 l0 0).bind fun v1 =>
    (e_aI S g 0 v1 l2).bind fun v3 =>
    if (v3 / (10 : Int32)) = l1 then
      (e_gR S g 7 l0 0).bind fun v9 =>
      (e_aI S g 0 v9 l2).bind fun v11 =>
      some (v11, g)
    else
      (e_gR S g 7 l0 1).bind fun v5 =>
      (e_aI S g 0 v5 l2).bind fun v7 =>
      some (v7, g)
  else none
theorem o_X7_endOn  {S : e_S} {w : Int32} {k : e_G} {l0 : Nat} {l1 : Int32} {l2 : Int32} {g : e_G} (hf : f_X7_endOn S l0 l1 l2 g = some (w, k)) : e_ob S 7 l0 = true := by
  unfold f_X7_endOn at hf
  by_cases hc : e_ob S 7 l0 = true
  · exact hc
  · rw [if_neg hc] at hf
    cases hf
theorem c_X7_endOn {l : Launch} {D : va_G}  {S : e_S} {w : Int32} {k : e_G} {l0 : Nat} {l1 : Int32} {l2 : Int32} {g : e_G} (hf : f_X7_endOn S l0 l1 l2 g = some (w, k)) : CT l D (e_R 1) M_X7_endOn [.ref l0, .int l1, .int l2] (S, g) (some (.int w)) (S, k) := by
  refine CT.of (by decide +kernel) (Nat.le_of_ble_eq_true rfl) ?_
  have ho := o_X7_endOn hf
  unfold f_X7_endOn at hf
  rw [if_pos ho] at hf
  show X l D (e_R 1) M_X7_endOn 0 0 0 [(0, .ref l0), (1, .int l1), (2, .int l2)] [] (S, g) (some (.int w)) (S, k)
  refine X.aload_n dX7_endOn_0 rfl (j := 0) rfl ?_
  obtain ⟨v1, h2, hf⟩ := ob hf
  refine Y.getR dX7_endOn_1 fl_X7_9 rfl h2 ?_
  refine X.iload_n dX7_endOn_4 rfl (j := 2) rfl ?_
  obtain ⟨v3, h4, hf⟩ := ob hf
  refine Y.iald dX7_endOn_5 h4 ?_
  refine X.bipush dX7_endOn_6 kB_10 ?_
  refine X.idiv dX7_endOn_8 (by decide) ?_
  refine X.iload_n dX7_endOn_9 rfl (j := 1) rfl ?_
  refine X.icmp_ne dX7_endOn_10 (tgt := 22) rfl (fun hc => ?_) (fun hc => ?_)
  · rw [if_neg hc] at hf
    refine X.aload_n dX7_endOn_22 rfl (j := 0) rfl ?_
    obtain ⟨v5, h6, hf⟩ := ob hf
    refine Y.getR dX7_endOn_23 fl_X7_15 rfl h6 ?_
    refine X.iload_n dX7_endOn_26 rfl (j := 2) rfl ?_
    obtain ⟨v7, h8, hf⟩ := ob hf
    refine Y.iald dX7_endOn_27 h8 ?_
    obtain ⟨e1, e2⟩ := e_ret hf
    subst e1
    subst e2
    exact X.iret dX7_endOn_28 rfl rfl
  · rw [if_pos hc] at hf
    refine X.aload_n dX7_endOn_13 rfl (j := 0) rfl ?_
    obtain ⟨v9, h10, hf⟩ := ob hf
    refine Y.getR dX7_endOn_14 fl_X7_9 rfl h10 ?_
    refine X.iload_n dX7_endOn_17 rfl (j := 2) rfl ?_
    obtain ⟨v11, h12, hf⟩ := ob hf
    refine Y.iald dX7_endOn_18 h12 ?_
    refine X.goto dX7_endOn_19 (tgt := 28) rfl ?_
    obtain ⟨e1, e2⟩ := e_ret hf
    subst e1
    subst e2
    exact X.iret dX7_endOn_28 rfl rfl
/-! LeanedOut$Street.crossings()I -/
abbrev M_X7_crossings : e_M := (yX7_crossings, cX7_crossings, 6, (some .int))
theorem mk_X7_crossings : e_Mok M_X7_crossings 0 := ⟨by decide +kernel, by decide +kernel, by decide +kernel⟩
theorem dX7_crossings_0 : decode cX7_crossings 0 = .ok (.iconst 0, 1) := by decide +kernel
theorem dX7_crossings_1 : decode cX7_crossings 1 = .ok (.istore_n 1, 1) := by decide +kernel
theorem dX7_crossings_2 : decode cX7_crossings 2 = .ok (.iconst 0, 1) := by decide +kernel
theorem dX7_crossings_3 : decode cX7_crossings 3 = .ok (.istore_n 2, 1) := by decide +kernel
theorem dX7_crossings_4 : decode cX7_crossings 4 = .ok (.iload_n 2, 1) := by decide +kernel
theorem dX7_crossings_5 : decode cX7_crossings 5 = .ok (.aload_n 0, 1) := by decide +kernel
theorem dX7_crossings_6 : decode cX7_crossings 6 = .ok (.getfield 42, 3) := by decide +kernel
theorem dX7_crossings_9 : decode cX7_crossings 9 = .ok (.if_icmp .ge 72, 3) := by decide +kernel
theorem dX7_crossings_12 : decode cX7_crossings 12 = .ok (.iload_n 2, 1) := by decide +kernel
theorem dX7_crossings_13 : decode cX7_crossings 13 = .ok (.iconst 1, 1) := by decide +kernel
theorem dX7_crossings_14 : decode cX7_crossings 14 = .ok (.iadd, 1) := by decide +kernel
theorem dX7_crossings_15 : decode cX7_crossings 15 = .ok (.istore_n 3, 1) := by decide +kernel
theorem dX7_crossings_16 : decode cX7_crossings 16 = .ok (.iload_n 3, 1) := by decide +kernel
theorem dX7_crossings_17 : decode cX7_crossings 17 = .ok (.aload_n 0, 1) := by decide +kernel
theorem dX7_crossings_18 : decode cX7_crossings 18 = .ok (.getfield 42, 3) := by decide +kernel
theorem dX7_crossings_21 : decode cX7_crossings 21 = .ok (.if_icmp .ge 54, 3) := by decide +kernel
theorem dX7_crossings_24 : decode cX7_crossings 24 = .ok (.aload_n 0, 1) := by decide +kernel
theorem dX7_crossings_25 : decode cX7_crossings 25 = .ok (.iconst 0, 1) := by decide +kernel
theorem dX7_crossings_26 : decode cX7_crossings 26 = .ok (.iload_n 2, 1) := by decide +kernel
theorem dX7_crossings_27 : decode cX7_crossings 27 = .ok (.invokevirtual 72, 3) := by decide +kernel
theorem dX7_crossings_30 : decode cX7_crossings 30 = .ok (.aload_n 0, 1) := by decide +kernel
theorem dX7_crossings_31 : decode cX7_crossings 31 = .ok (.iconst 0, 1) := by decide +kernel
theorem dX7_crossings_32 : decode cX7_crossings 32 = .ok (.iload_n 3, 1) := by decide +kernel
theorem dX7_crossings_33 : decode cX7_crossings 33 = .ok (.invokevirtual 72, 3) := by decide +kernel
theorem dX7_crossings_36 : decode cX7_crossings 36 = .ok (.invokestatic 76, 3) := by decide +kernel
theorem dX7_crossings_39 : decode cX7_crossings 39 = .ok (.istore 4, 2) := by decide +kernel
theorem dX7_crossings_41 : decode cX7_crossings 41 = .ok (.aload_n 0, 1) := by decide +kernel
theorem dX7_crossings_42 : decode cX7_crossings 42 = .ok (.iconst 1, 1) := by decide +kernel
theorem dX7_crossings_43 : decode cX7_crossings 43 = .ok (.iload_n 2, 1) := by decide +kernel
theorem dX7_crossings_44 : decode cX7_crossings 44 = .ok (.invokevirtual 72, 3) := by decide +kernel
theorem dX7_crossings_47 : decode cX7_crossings 47 = .ok (.aload_n 0, 1) := by decide +kernel
theorem dX7_crossings_48 : decode cX7_crossings 48 = .ok (.iconst 1, 1) := by decide +kernel
theorem dX7_crossings_49 : decode cX7_crossings 49 = .ok (.iload_n 3, 1) := by decide +kernel
theorem dX7_crossings_50 : decode cX7_crossings 50 = .ok (.invokevirtual 72, 3) := by decide +kernel
theorem dX7_crossings_53 : decode cX7_crossings 53 = .ok (.invokestatic 76, 3) := by decide +kernel
theorem dX7_crossings_56 : decode cX7_crossings 56 = .ok (.istore 5, 2) := by decide +kernel
theorem dX7_crossings_58 : decode cX7_crossings 58 = .ok (.iload 4, 2) := by decide +kernel
theorem dX7_crossings_60 : decode cX7_crossings 60 = .ok (.iload 5, 2) := by decide +kernel
theorem dX7_crossings_62 : decode cX7_crossings 62 = .ok (.imul, 1) := by decide +kernel
theorem dX7_crossings_63 : decode cX7_crossings 63 = .ok (.ifCond .ge 6, 3) := by decide +kernel
theorem dX7_crossings_66 : decode cX7_crossings 66 = .ok (.iinc 1 1, 3) := by decide +kernel
theorem dX7_crossings_69 : decode cX7_crossings 69 = .ok (.iinc 3 1, 3) := by decide +kernel
theorem dX7_crossings_72 : decode cX7_crossings 72 = .ok (.goto (-56), 3) := by decide +kernel
theorem dX7_crossings_75 : decode cX7_crossings 75 = .ok (.iinc 2 1, 3) := by decide +kernel
theorem dX7_crossings_78 : decode cX7_crossings 78 = .ok (.goto (-74), 3) := by decide +kernel
theorem dX7_crossings_81 : decode cX7_crossings 81 = .ok (.iload_n 1, 1) := by decide +kernel
theorem dX7_crossings_82 : decode cX7_crossings 82 = .ok (.ireturn, 1) := by decide +kernel
def J_X7_crossings_69 (c16 : Nat → Int32 → Int32 → Int32 → e_G → Option (Int32 × e_G)) (S : e_S) (l0 : Nat) (l1 : Int32) (l2 : Int32) (l3 : Int32) (g : e_G) : Option (Int32 × e_G) :=
  c16 l0 l1 l2 (l3 + (1 : Int32)) g
def L_X7_crossings_16 (c4 : Nat → Int32 → Int32 → e_G → Option (Int32 × e_G)) : Nat → e_S → Nat → Int32 → Int32 → Int32 → e_G → Option (Int32 × e_G)
  | 0, _, _, _, _, _, _ => none
  | n + 1, S, l0, l1, l2, l3, g =>
  (e_gI S g 7 l0 6).bind fun v1 =>
  if v1 ≤ l3 then
    c4 l0 l1 (l2 + (1 : Int32)) g
  else
    (f_X7_endOn S l0 (0 : Int32) l2 g).bind fun q4 =>
    (f_X7_endOn S l0 (0 : Int32) l3 q4.2).bind fun q6 =>
    (f_J6_compare_7cf53 S q4.1 q6.1 q6.2).bind fun q8 =>
    (f_X7_endOn S l0 (1 : Int32) l2 q8.2).bind fun q10 =>
    (f_X7_endOn S l0 (1 : Int32) l3 q10.2).bind fun q12 =>
    (f_J6_compare_7cf53 S q10.1 q12.1 q12.2).bind fun q14 =>
    if 0 ≤ (q8.1 * q14.1) then
      J_X7_crossings_69 (L_X7_crossings_16 c4 n S) S l0 l1 l2 l3 q14.2
    else
      J_X7_crossings_69 (L_X7_crossings_16 c4 n S) S l0 (l1 + (1 : Int32)) l2 l3 q14.2
def L_X7_crossings_4 : Nat → e_S → Nat → Int32 → Int32 → e_G → Option (Int32 × e_G)
  | 0, _, _, _, _, _ => none
  | n + 1, S, l0, l1, l2, g =>
  (e_gI S g 7 l0 6).bind fun v1 =>
  if v1 ≤ l2 then
    some (l1, g)
  else
    L_X7_crossings_16 (L_X7_crossings_4 n S) 50000 S l0 l1 l2 (l2 + (1 : Int32)) g
def f_X7_crossings (S : e_S) (l0 : Nat) (g : e_G) : Option (Int32 × e_G) :=
  if e_ob S 7 l0 = true then
    L_X7_crossings_4 50000 S l0 (0 : Int32) (0 : Int32) g
  else none
theorem x_J_X7_crossings_69 {l : Launch} {D : va_G} {S : e_S} {w : Int32} {k : e_G} (c16 : Nat → Int32 → Int32 → Int32 → e_G → Option (Int32 × e_G)) (hc16 : ∀ (l0 : Nat) (l1 : Int32) (l2 : Int32) (l3 : Int32) (g : e_G), c16 l0 l1 l2 l3 g = some (w, k) → X l D (e_R 2) M_X7_crossings 0 0 16 [(0, .ref l0), (1, .int l1), (2, .int l2), (3, .int l3)] [] (S, g) (some (.int w)) (S, k)) {l0 : Nat} {l1 : Int32} {l2 : Int32} {l3 : Int32} {g : e_G} (hf : J_X7_crossings_69 c16 S l0 l1 l2 l3 g = some (w, k)) : X l D (e_R 2) M_X7_crossings 0 0 69 [(0, .ref l0), (1, .int l1), (2, .int l2), (3, .int l3)] [] (S, g) (some (.int w)) (S, k) := by
  unfold J_X7_crossings_69 at hf
  refine X.iinc (j := 3) dX7_crossings_69 rfl (v := l3 + (1 : Int32)) (by rw [kI_1]) (Nat.le_of_ble_eq_true rfl) (lc' := [(3, .int (l3 + (1 : Int32))), (0, .ref l0), (1, .int l1), (2, .int l2)]) rfl ?_
  refine X.goto dX7_crossings_72 (tgt := 16) rfl ?_
  refine X.sub [1, 2, 3, 0] rfl ?_
  exact hc16 _ _ _ _ _ hf
theorem x_L_X7_crossings_16 {l : Launch} {D : va_G} {S : e_S} {w : Int32} {k : e_G} (c4 : Nat → Int32 → Int32 → e_G → Option (Int32 × e_G)) (hc4 : ∀ (l0 : Nat) (l1 : Int32) (l2 : Int32) (g : e_G), c4 l0 l1 l2 g = some (w, k) → X l D (e_R 2) M_X7_crossings 0 0 4 [(0, .ref l0), (1, .int l1), (2, .int l2)] [] (S, g) (some (.int w)) (S, k)) : ∀ (n : Nat) (l0 : Nat) (l1 : Int32) (l2 : Int32) (l3 : Int32) (g : e_G), L_X7_crossings_16 c4 n S l0 l1 l2 l3 g = some (w, k) → X l D (e_R 2) M_X7_crossings 0 0 16 [(0, .ref l0), (1, .int l1), (2, .int l2), (3, .int l3)] [] (S, g) (some (.int w)) (S, k) := by
  intro n
  induction n with
  | zero =>
    intro l0 l1 l2 l3 g hf
    cases hf
  | succ n ih =>
    intro l0 l1 l2 l3 g hf
    rw [L_X7_crossings_16] at hf
    refine X.iload_n dX7_crossings_16 rfl (j := 3) rfl ?_
    refine X.aload_n dX7_crossings_17 rfl (j := 0) rfl ?_
    obtain ⟨v1, h2, hf⟩ := ob hf
    refine Y.getI dX7_crossings_18 fl_X7_42 rfl h2 ?_
    refine X.icmp_ge dX7_crossings_21 (tgt := 75) rfl (fun hc => ?_) (fun hc => ?_)
    · rw [if_pos hc] at hf
      refine X.iinc (j := 2) dX7_crossings_75 rfl (v := l2 + (1 : Int32)) (by rw [kI_1]) (Nat.le_of_ble_eq_true rfl) (lc' := [(2, .int (l2 + (1 : Int32))), (0, .ref l0), (1, .int l1), (3, .int l3)]) rfl ?_
      refine X.goto dX7_crossings_78 (tgt := 4) rfl ?_
      refine X.sub [1, 2, 0] rfl ?_
      exact hc4 _ _ _ _ hf
    · rw [if_neg hc] at hf
      refine X.aload_n dX7_crossings_24 rfl (j := 0) rfl ?_
      refine X.iconst dX7_crossings_25 kI_0 ?_
      refine X.iload_n dX7_crossings_26 rfl (j := 2) rfl ?_
      obtain ⟨q4, h3, hf⟩ := ob hf
      refine Y.callV (av := [.int (0 : Int32), .int l2]) (ci := 7) dX7_crossings_27 (c_X7_endOn (l := l) (D := D) (w := q4.1) (k := q4.2) h3) cw_X7_72 (by decide) rfl mk_X7_endOn (o_X7_endOn (w := q4.1) (k := q4.2) h3) (e_R_ok (Nat.le_of_ble_eq_true rfl) (Nat.le_of_ble_eq_true rfl)) ⟨rfl, rfl⟩ (by simp [Value.category]) ?_
      refine X.aload_n dX7_crossings_30 rfl (j := 0) rfl ?_
      refine X.iconst dX7_crossings_31 kI_0 ?_
      refine X.iload_n dX7_crossings_32 rfl (j := 3) rfl ?_
      obtain ⟨q6, h5, hf⟩ := ob hf
      refine Y.callV (av := [.int (0 : Int32), .int l3]) (ci := 7) dX7_crossings_33 (c_X7_endOn (l := l) (D := D) (w := q6.1) (k := q6.2) h5) cw_X7_72 (by decide) rfl mk_X7_endOn (o_X7_endOn (w := q6.1) (k := q6.2) h5) (e_R_ok (Nat.le_of_ble_eq_true rfl) (Nat.le_of_ble_eq_true rfl)) ⟨rfl, rfl⟩ (by simp [Value.category]) ?_
      obtain ⟨q8, h7, hf⟩ := ob hf
      refine Y.callS (av := [.int q4.1, .int q6.1]) dX7_crossings_36 (c_J6_compare_7cf53 (l := l) (D := D) (w := q8.1) (k := q8.2) h7) cw_X7_76 mk_J6_compare_7cf53 (e_R_ok (Nat.le_of_ble_eq_true rfl) (Nat.le_of_ble_eq_true rfl)) ⟨rfl, rfl⟩ (by simp [Value.category]) ?_
      refine X.istore dX7_crossings_39 (Nat.le_of_ble_eq_true rfl) (lc' := [(4, .int q8.1), (0, .ref l0), (1, .int l1), (2, .int l2), (3, .int l3)]) rfl ?_
      refine X.aload_n dX7_crossings_41 rfl (j := 1) rfl ?_
      refine X.iconst dX7_crossings_42 kI_1 ?_
      refine X.iload_n dX7_crossings_43 rfl (j := 3) rfl ?_
      obtain ⟨q10, h9, hf⟩ := ob hf
      refine Y.callV (av := [.int (1 : Int32), .int l2]) (ci := 7) dX7_crossings_44 (c_X7_endOn (l := l) (D := D) (w := q10.1) (k := q10.2) h9) cw_X7_72 (by decide) rfl mk_X7_endOn (o_X7_endOn (w := q10.1) (k := q10.2) h9) (e_R_ok (Nat.le_of_ble_eq_true rfl) (Nat.le_of_ble_eq_true rfl)) ⟨rfl, rfl⟩ (by simp [Value.category]) ?_
      refine X.aload_n dX7_crossings_47 rfl (j := 1) rfl ?_
      refine X.iconst dX7_crossings_48 kI_1 ?_
      refine X.iload_n dX7_crossings_49 rfl (j := 4) rfl ?_
      obtain ⟨q12, h11, hf⟩ := ob hf
      refine Y.callV (av := [.int (1 : Int32), .int l3]) (ci := 7) dX7_crossings_50 (c_X7_endOn (l := l) (D := D) (w := q12.1) (k := q12.2) h11) cw_X7_72 (by decide) rfl mk_X7_endOn (o_X7_endOn (w := q12.1) (k := q12.2) h11) (e_R_ok (Nat.le_of_ble_eq_true rfl) (Nat.le_of_ble_eq_true rfl)) ⟨rfl, rfl⟩ (by simp [Value.category]) ?_
      obtain ⟨q14, h13, hf⟩ := ob hf
      refine Y.callS (av := [.int q10.1, .int q12.1]) dX7_crossings_53 (c_J6_compare_7cf53 (l := l) (D := D) (w := q14.1) (k := q14.2) h13) cw_X7_76 mk_J6_compare_7cf53 (e_R_ok (Nat.le_of_ble_eq_true rfl) (Nat.le_of_ble_eq_true rfl)) ⟨rfl, rfl⟩ (by simp [Value.category]) ?_
      refine X.istore dX7_crossings_56 (Nat.le_of_ble_eq_true rfl) (lc' := [(5, .int q14.1), (4, .int q8.1), (0, .ref l0), (1, .int l1), (2, .int l2), (3, .int l3)]) rfl ?_
      refine X.iload dX7_crossings_58 (j := 1) rfl ?_
      refine X.iload dX7_crossings_60 (j := 0) rfl ?_
      refine X.imul dX7_crossings_62 ?_
      refine X.if_ge dX7_crossings_63 (tgt := 69) rfl (fun hc => ?_) (fun hc => ?_)
      · rw [if_pos hc] at hf
        refine X.sub [2, 3, 4, 5] rfl ?_
        exact x_J_X7_crossings_69 _ ih hf
      · rw [if_neg hc] at hf
        refine X.iinc (j := 3) dX7_crossings_66 rfl (v := l1 + (1 : Int32)) (by rw [kI_1]) (Nat.le_of_ble_eq_true rfl) (lc' := [(1, .int (l1 + (1 : Int32))), (5, .int q14.1), (4, .int q8.1), (0, .ref l0), (2, .int l2), (3, .int l3)]) rfl ?_
        refine X.sub [3, 0, 4, 5] rfl ?_
        exact x_J_X7_crossings_69 _ ih hf
theorem x_L_X7_crossings_4 {l : Launch} {D : va_G} {S : e_S} {w : Int32} {k : e_G} : ∀ (n : Nat) (l0 : Nat) (l1 : Int32) (l2 : Int32) (g : e_G), L_X7_crossings_4 n S l0 l1 l2 g = some (w, k) → X l D (e_R 2) M_X7_crossings 0 0 4 [(0, .ref l0), (1, .int l1), (2, .int l2)] [] (S, g) (some (.int w)) (S, k) := by
  intro n
  induction n with
  | zero =>
    intro l0 l1 l2 g hf
    cases hf
  | succ n ih =>
    intro l0 l1 l2 g hf
    rw [L_X7_crossings_4] at hf
    refine X.iload_n dX7_crossings_4 rfl (j := 2) rfl ?_
    refine X.aload_n dX7_crossings_5 rfl (j := 0) rfl ?_
    obtain ⟨v1, h2, hf⟩ := ob hf
    refine Y.getI dX7_crossings_6 fl_X7_42 rfl h2 ?_
    refine X.icmp_ge dX7_crossings_9 (tgt := 81) rfl (fun hc => ?_) (fun hc => ?_)
    · rw [if_pos hc] at hf
      refine X.iload_n dX7_crossings_81 rfl (j := 1) rfl ?_
      obtain ⟨e1, e2⟩ := e_ret hf
      subst e1
      subst e2
      exact X.iret dX7_crossings_82 rfl rfl
    · rw [if_neg hc] at hf
      refine X.iload_n dX7_crossings_12 rfl (j := 2) rfl ?_
      refine X.iconst dX7_crossings_13 kI_1 ?_
      refine X.iadd dX7_crossings_14 ?_
      refine X.istore_n dX7_crossings_15 rfl (Nat.le_of_ble_eq_true rfl) (lc' := [(3, .int (l2 + (1 : Int32))), (0, .ref l0), (1, .int l1), (2, .int l2)]) rfl ?_
      refine X.sub [1, 2, 3, 0] rfl ?_
      exact x_L_X7_crossings_16 _ ih 50000 _ _ _ _ _ hf
theorem o_X7_crossings  {S : e_S} {w : Int32} {k : e_G} {l0 : Nat} {g : e_G} (hf : f_X7_crossings S l0 g = some (w, k)) : e_ob S 7 l0 = true := by
  unfold f_X7_crossings at hf
  by_cases hc : e_ob S 7 l0 = true
  · exact hc
  · rw [if_neg hc] at hf
    cases hf
theorem c_X7_crossings {l : Launch} {D : va_G}  {S : e_S} {w : Int32} {k : e_G} {l0 : Nat} {g : e_G} (hf : f_X7_crossings S l0 g = some (w, k)) : CT l D (e_R 2) M_X7_crossings [.ref l0] (S, g) (some (.int w)) (S, k) := by
  refine CT.of (by decide +kernel) (Nat.le_of_ble_eq_true rfl) ?_
  have ho := o_X7_crossings hf
  unfold f_X7_crossings at hf
  rw [if_pos ho] at hf
  show X l D (e_R 2) M_X7_crossings 0 0 0 [(0, .ref l0)] [] (S, g) (some (.int w)) (S, k)
  refine X.iconst dX7_crossings_0 kI_0 ?_
  refine X.istore_n dX7_crossings_1 rfl (Nat.le_of_ble_eq_true rfl) (lc' := [(1, .int (0 : Int32)), (0, .ref l0)]) rfl ?_
  refine X.iconst dX7_crossings_2 kI_0 ?_
  refine X.istore_n dX7_crossings_3 rfl (Nat.le_of_ble_eq_true rfl) (lc' := [(2, .int (0 : Int32)), (1, .int (0 : Int32)), (0, .ref l0)]) rfl ?_
  refine X.sub [2, 1, 0] rfl ?_
  exact x_L_X7_crossings_4 50000 _ _ _ _ hf
/-! LeanedOut$Street.mostLookedAt()I -/
abbrev M_X7_mostLookedAt : e_M := (yX7_mostLookedAt, cX7_mostLookedAt, 5, (some .int))
theorem mk_X7_mostLookedAt : e_Mok M_X7_mostLookedAt 0 := ⟨by decide +kernel, by decide +kernel, by decide +kernel⟩
theorem dX7_mostLookedAt_0 : decode cX7_mostLookedAt 0 = .ok (.iconst 0, 1) := by decide +kernel
theorem dX7_mostLookedAt_1 : decode cX7_mostLookedAt 1 = .ok (.istore_n 1, 1) := by decide +kernel
theorem dX7_mostLookedAt_2 : decode cX7_mostLookedAt 2 = .ok (.iconst (-1), 1) := by decide +kernel
theorem dX7_mostLookedAt_3 : decode cX7_mostLookedAt 3 = .ok (.istore_n 2, 1) := by decide +kernel
theorem dX7_mostLookedAt_4 : decode cX7_mostLookedAt 4 = .ok (.iconst 0, 1) := by decide +kernel
theorem dX7_mostLookedAt_5 : decode cX7_mostLookedAt 5 = .ok (.istore_n 3, 1) := by decide +kernel
theorem dX7_mostLookedAt_6 : decode cX7_mostLookedAt 6 = .ok (.iload_n 3, 1) := by decide +kernel
theorem dX7_mostLookedAt_7 : decode cX7_mostLookedAt 7 = .ok (.bipush 20, 2) := by decide +kernel
theorem dX7_mostLookedAt_9 : decode cX7_mostLookedAt 9 = .ok (.if_icmp .ge 27, 3) := by decide +kernel
theorem dX7_mostLookedAt_12 : decode cX7_mostLookedAt 12 = .ok (.aload_n 0, 1) := by decide +kernel
theorem dX7_mostLookedAt_13 : decode cX7_mostLookedAt 13 = .ok (.iload_n 3, 1) := by decide +kernel
theorem dX7_mostLookedAt_14 : decode cX7_mostLookedAt 14 = .ok (.invokevirtual 81, 3) := by decide +kernel
theorem dX7_mostLookedAt_17 : decode cX7_mostLookedAt 17 = .ok (.istore 4, 2) := by decide +kernel
theorem dX7_mostLookedAt_19 : decode cX7_mostLookedAt 19 = .ok (.iload 4, 2) := by decide +kernel
theorem dX7_mostLookedAt_21 : decode cX7_mostLookedAt 21 = .ok (.iload_n 1, 1) := by decide +kernel
theorem dX7_mostLookedAt_22 : decode cX7_mostLookedAt 22 = .ok (.if_icmp .le 8, 3) := by decide +kernel
theorem dX7_mostLookedAt_25 : decode cX7_mostLookedAt 25 = .ok (.iload 4, 2) := by decide +kernel
theorem dX7_mostLookedAt_27 : decode cX7_mostLookedAt 27 = .ok (.istore_n 1, 1) := by decide +kernel
theorem dX7_mostLookedAt_28 : decode cX7_mostLookedAt 28 = .ok (.iload_n 3, 1) := by decide +kernel
theorem dX7_mostLookedAt_29 : decode cX7_mostLookedAt 29 = .ok (.istore_n 2, 1) := by decide +kernel
theorem dX7_mostLookedAt_30 : decode cX7_mostLookedAt 30 = .ok (.iinc 3 1, 3) := by decide +kernel
theorem dX7_mostLookedAt_33 : decode cX7_mostLookedAt 33 = .ok (.goto (-27), 3) := by decide +kernel
theorem dX7_mostLookedAt_36 : decode cX7_mostLookedAt 36 = .ok (.iload_n 2, 1) := by decide +kernel
theorem dX7_mostLookedAt_37 : decode cX7_mostLookedAt 37 = .ok (.ireturn, 1) := by decide +kernel
def J_X7_mostLookedAt_30 (c6 : Nat → Int32 → Int32 → Int32 → e_G → Option (Int32 × e_G)) (S : e_S) (l0 : Nat) (l1 : Int32) (l2 : Int32) (l3 : Int32) (g : e_G) : Option (Int32 × e_G) :=
  c6 l0 l1 l2 (l3 + (1 : Int32)) g
def L_X7_mostLookedAt_6 : Nat → e_S → Nat → Int32 → Int32 → Int32 → e_G → Option (Int32 × e_G)
  | 0, _, _, _, _, _, _ => none
  | n + 1, S, l0, l1, l2, l3, g =>
  if (20 : Int32) ≤ l3 then
    some (l2, g)
  else
    (f_X7_lookers S l0 l3 g).bind fun q2 =>
    if q2.1 ≤ l1 then
      J_X7_mostLookedAt_30 (L_X7_mostLookedAt_6 n S) S l0 l1 l2 l3 q2.2
    else
      J_X7_mostLookedAt_30 (L_X7_mostLookedAt_6 n S) S l0 q2.1 l3 l3 q2.2
def f_X7_mostLookedAt (S : e_S) (l0 : Nat) (g : e_G) : Option (Int32 × e_G) :=
  if e_ob S 7 l0 = true then
    L_X7_mostLookedAt_6 50000 S l0 (0 : Int32) (-1 : Int32) (0 : Int32) g
  else none
theorem x_J_X7_mostLookedAt_30 {l : Launch} {D : va_G} {S : e_S} {w : Int32} {k : e_G} (c6 : Nat → Int32 → Int32 → Int32 → e_G → Option (Int32 × e_G)) (hc6 : ∀ (l0 : Nat) (l1 : Int32) (l2 : Int32) (l3 : Int32) (g : e_G), c6 l0 l1 l2 l3 g = some (w, k) → X l D (e_R 2) M_X7_mostLookedAt 0 0 6 [(0, .ref l0), (1, .int l1), (2, .int l2), (3, .int l3)] [] (S, g) (some (.int w)) (S, k)) {l0 : Nat} {l1 : Int32} {l2 : Int32} {l3 : Int32} {g : e_G} (hf : J_X7_mostLookedAt_30 c6 S l0 l1 l2 l3 g = some (w, k)) : X l D (e_R 2) M_X7_mostLookedAt 0 0 30 [(0, .ref l0), (1, .int l1), (2, .int l2), (3, .int l3)] [] (S, g) (some (.int w)) (S, k) := by
  unfold J_X7_mostLookedAt_30 at hf
  refine X.iinc (j := 3) dX7_mostLookedAt_30 rfl (v := l3 + (1 : Int32)) (by rw [kI_1]) (Nat.le_of_ble_eq_true rfl) (lc' := [(3, .int (l3 + (1 : Int32))), (0, .ref l0), (1, .int l1), (2, .int l2)]) rfl ?_
  refine X.goto dX7_mostLookedAt_33 (tgt := 6) rfl ?_
  refine X.sub [1, 2, 3, 0] rfl ?_
  exact hc6 _ _ _ _ _ hf
theorem x_L_X7_mostLookedAt_6 {l : Launch} {D : va_G} {S : e_S} {w : Int32} {k : e_G} : ∀ (n : Nat) (l0 : Nat) (l1 : Int32) (l2 : Int32) (l3 : Int32) (g : e_G), L_X7_mostLookedAt_6 n S l0 l1 l2 l3 g = some (w, k) → X l D (e_R 2) M_X7_mostLookedAt 0 0 6 [(0, .ref l0), (1, .int l1), (2, .int l2), (3, .int l3)] [] (S, g) (some (.int w)) (S, k) := by
  intro n
  induction n with
  | zero =>
    intro l0 l1 l2 l3 g hf
    cases hf
  | succ n ih =>
    intro l0 l1 l2 l3 g hf
    rw [L_X7_mostLookedAt_6] at hf
    refine X.iload_n dX7_mostLookedAt_6 rfl (j := 3) rfl ?_
    refine X.bipush dX7_mostLookedAt_7 kB_20 ?_
    refine X.icmp_ge dX7_mostLookedAt_9 (tgt := 36) rfl (fun hc => ?_) (fun hc => ?_)
    · rw [if_pos hc] at hf
      refine X.iload_n dX7_mostLookedAt_36 rfl (j := 2) rfl ?_
      obtain ⟨e1, e2⟩ := e_ret hf
      subst e1
      subst e2
      exact X.iret dX7_mostLookedAt_37 rfl rfl
    · rw [if_neg hc] at hf
      refine X.aload_n dX7_mostLookedAt_12 rfl (j := 0) rfl ?_
      refine X.iload_n dX7_mostLookedAt_13 rfl (j := 3) rfl ?_
      obtain ⟨q2, h1, hf⟩ := ob hf
      refine Y.callV (av := [.int l3]) (ci := 7) dX7_mostLookedAt_14 (c_X7_lookers (l := l) (D := D) (w := q2.1) (k := q2.2) h1) cw_X7_81 (by decide) rfl mk_X7_lookers (o_X7_lookers (w := q2.1) (k := q2.2) h1) (e_R_ok (Nat.le_of_ble_eq_true rfl) (Nat.le_of_ble_eq_true rfl)) ⟨rfl, rfl⟩ (by simp [Value.category]) ?_
      refine X.istore dX7_mostLookedAt_17 (Nat.le_of_ble_eq_true rfl) (lc' := [(4, .int q2.1), (0, .ref l0), (1, .int l1), (2, .int l2), (3, .int l3)]) rfl ?_
      refine X.iload dX7_mostLookedAt_19 (j := 0) rfl ?_
      refine X.iload_n dX7_mostLookedAt_21 rfl (j := 2) rfl ?_
      refine X.icmp_le dX7_mostLookedAt_22 (tgt := 30) rfl (fun hc => ?_) (fun hc => ?_)
      · rw [if_pos hc] at hf
        refine X.sub [1, 2, 3, 4] rfl ?_
        exact x_J_X7_mostLookedAt_30 _ ih hf
      · rw [if_neg hc] at hf
        refine X.iload dX7_mostLookedAt_25 (j := 0) rfl ?_
        refine X.istore_n dX7_mostLookedAt_27 rfl (Nat.le_of_ble_eq_true rfl) (lc' := [(1, .int q2.1), (4, .int q2.1), (0, .ref l0), (2, .int l2), (3, .int l3)]) rfl ?_
        refine X.iload_n dX7_mostLookedAt_28 rfl (j := 4) rfl ?_
        refine X.istore_n dX7_mostLookedAt_29 rfl (Nat.le_of_ble_eq_true rfl) (lc' := [(2, .int l3), (1, .int q2.1), (4, .int q2.1), (0, .ref l0), (3, .int l3)]) rfl ?_
        refine X.sub [3, 1, 0, 4] rfl ?_
        exact x_J_X7_mostLookedAt_30 _ ih hf
theorem o_X7_mostLookedAt  {S : e_S} {w : Int32} {k : e_G} {l0 : Nat} {g : e_G} (hf : f_X7_mostLookedAt S l0 g = some (w, k)) : e_ob S 7 l0 = true := by
  unfold f_X7_mostLookedAt at hf
  by_cases hc : e_ob S 7 l0 = true
  · exact hc
  · rw [if_neg hc] at hf
    cases hf
theorem c_X7_mostLookedAt {l : Launch} {D : va_G}  {S : e_S} {w : Int32} {k : e_G} {l0 : Nat} {g : e_G} (hf : f_X7_mostLookedAt S l0 g = some (w, k)) : CT l D (e_R 2) M_X7_mostLookedAt [.ref l0] (S, g) (some (.int w)) (S, k) := by
  refine CT.of (by decide +kernel) (Nat.le_of_ble_eq_true rfl) ?_
  have ho := o_X7_mostLookedAt hf
  unfold f_X7_mostLookedAt at hf
  rw [if_pos ho] at hf
  show X l D (e_R 2) M_X7_mostLookedAt 0 0 0 [(0, .ref l0)] [] (S, g) (some (.int w)) (S, k)
  refine X.iconst dX7_mostLookedAt_0 kI_0 ?_
  refine X.istore_n dX7_mostLookedAt_1 rfl (Nat.le_of_ble_eq_true rfl) (lc' := [(1, .int (0 : Int32)), (0, .ref l0)]) rfl ?_
  refine X.iconst dX7_mostLookedAt_2 kI_m1 ?_
  refine X.istore_n dX7_mostLookedAt_3 rfl (Nat.le_of_ble_eq_true rfl) (lc' := [(2, .int (-1 : Int32)), (1, .int (0 : Int32)), (0, .ref l0)]) rfl ?_
  refine X.iconst dX7_mostLookedAt_4 kI_0 ?_
  refine X.istore_n dX7_mostLookedAt_5 rfl (Nat.le_of_ble_eq_true rfl) (lc' := [(3, .int (0 : Int32)), (2, .int (-1 : Int32)), (1, .int (0 : Int32)), (0, .ref l0)]) rfl ?_
  refine X.sub [3, 2, 1, 0] rfl ?_
  exact x_L_X7_mostLookedAt_6 50000 _ _ _ _ _ hf
/-! LeanedOut$Street.unseen()I -/
abbrev M_X7_unseen : e_M := (yX7_unseen, cX7_unseen, 3, (some .int))
theorem mk_X7_unseen : e_Mok M_X7_unseen 0 := ⟨by decide +kernel, by decide +kernel, by decide +kernel⟩
theorem dX7_unseen_0 : decode cX7_unseen 0 = .ok (.iconst 0, 1) := by decide +kernel
theorem dX7_unseen_1 : decode cX7_unseen 1 = .ok (.istore_n 1, 1) := by decide +kernel
theorem dX7_unseen_2 : decode cX7_unseen 2 = .ok (.iconst 0, 1) := by decide +kernel
theorem dX7_unseen_3 : decode cX7_unseen 3 = .ok (.istore_n 2, 1) := by decide +kernel
theorem dX7_unseen_4 : decode cX7_unseen 4 = .ok (.iload_n 2, 1) := by decide +kernel
theorem dX7_unseen_5 : decode cX7_unseen 5 = .ok (.aload_n 0, 1) := by decide +kernel
theorem dX7_unseen_6 : decode cX7_unseen 6 = .ok (.getfield 42, 3) := by decide +kernel
theorem dX7_unseen_9 : decode cX7_unseen 9 = .ok (.if_icmp .ge 28, 3) := by decide +kernel
theorem dX7_unseen_12 : decode cX7_unseen 12 = .ok (.aload_n 0, 1) := by decide +kernel
theorem dX7_unseen_13 : decode cX7_unseen 13 = .ok (.aload_n 0, 1) := by decide +kernel
theorem dX7_unseen_14 : decode cX7_unseen 14 = .ok (.getfield 9, 3) := by decide +kernel
theorem dX7_unseen_17 : decode cX7_unseen 17 = .ok (.iload_n 2, 1) := by decide +kernel
theorem dX7_unseen_18 : decode cX7_unseen 18 = .ok (.iaload, 1) := by decide +kernel
theorem dX7_unseen_19 : decode cX7_unseen 19 = .ok (.invokevirtual 81, 3) := by decide +kernel
theorem dX7_unseen_22 : decode cX7_unseen 22 = .ok (.ifCond .ne 9, 3) := by decide +kernel
theorem dX7_unseen_25 : decode cX7_unseen 25 = .ok (.iload_n 1, 1) := by decide +kernel
theorem dX7_unseen_26 : decode cX7_unseen 26 = .ok (.iconst 1, 1) := by decide +kernel
theorem dX7_unseen_27 : decode cX7_unseen 27 = .ok (.iload_n 2, 1) := by decide +kernel
theorem dX7_unseen_28 : decode cX7_unseen 28 = .ok (.ishl, 1) := by decide +kernel
theorem dX7_unseen_29 : decode cX7_unseen 29 = .ok (.ior, 1) := by decide +kernel
theorem dX7_unseen_30 : decode cX7_unseen 30 = .ok (.istore_n 1, 1) := by decide +kernel
theorem dX7_unseen_31 : decode cX7_unseen 31 = .ok (.iinc 2 1, 3) := by decide +kernel
theorem dX7_unseen_34 : decode cX7_unseen 34 = .ok (.goto (-30), 3) := by decide +kernel
theorem dX7_unseen_37 : decode cX7_unseen 37 = .ok (.iload_n 1, 1) := by decide +kernel
theorem dX7_unseen_38 : decode cX7_unseen 38 = .ok (.ireturn, 1) := by decide +kernel
def J_X7_unseen_31 (c4 : Nat → Int32 → Int32 → e_G → Option (Int32 × e_G)) (S : e_S) (l0 : Nat) (l1 : Int32) (l2 : Int32) (g : e_G) : Option (Int32 × e_G) :=
  c4 l0 l1 (l2 + (1 : Int32)) g
def L_X7_unseen_4 : Nat → e_S → Nat → Int32 → Int32 → e_G → Option (Int32 × e_G)
  | 0, _, _, _, _, _ => none
  | n + 1, S, l0, l1, l2, g =>
  (e_gI S g 7 l0 6).bind fun v1 =>
  if v1 ≤ l2 then
    some (l1, g)
  else
    (e_gR S g 7 l0 0).bind fun v3 =>
    (e_aI S g 0 v3 l2).bind fun v5 =>
    (f_X7_lookers S l0 v5 g).bind fun q8 =>
    if q8.1 = 0 then
      J_X7_unseen_31 (L_X7_unseen_4 n S) S l0 (l1 ||| ((1 : Int32) <<< (l2 &&& 31))) l2 q8.2
    else
      J_X7_unseen_31 (L_X7_unseen_4 n S) S l0 l1 l2 q8.2
def f_X7_unseen (S : e_S) (l0 : Nat) (g : e_G) : Option (Int32 × e_G) :=
  if e_ob S 7 l0 = true then
    L_X7_unseen_4 50000 S l0 (0 : Int32) (0 : Int32) g
  else none
theorem x_J_X7_unseen_31 {l : Launch} {D : va_G} {S : e_S} {w : Int32} {k : e_G} (c4 : Nat → Int32 → Int32 → e_G → Option (Int32 × e_G)) (hc4 : ∀ (l0 : Nat) (l1 : Int32) (l2 : Int32) (g : e_G), c4 l0 l1 l2 g = some (w, k) → X l D (e_R 2) M_X7_unseen 0 0 4 [(0, .ref l0), (1, .int l1), (2, .int l2)] [] (S, g) (some (.int w)) (S, k)) {l0 : Nat} {l1 : Int32} {l2 : Int32} {g : e_G} (hf : J_X7_unseen_31 c4 S l0 l1 l2 g = some (w, k)) : X l D (e_R 2) M_X7_unseen 0 0 31 [(0, .ref l0), (1, .int l1), (2, .int l2)] [] (S, g) (some (.int w)) (S, k) := by
  unfold J_X7_unseen_31 at hf
  refine X.iinc (j := 2) dX7_unseen_31 rfl (v := l2 + (1 : Int32)) (by rw [kI_1]) (Nat.le_of_ble_eq_true rfl) (lc' := [(2, .int (l2 + (1 : Int32))), (0, .ref l0), (1, .int l1)]) rfl ?_
  refine X.goto dX7_unseen_34 (tgt := 4) rfl ?_
  refine X.sub [1, 2, 0] rfl ?_
  exact hc4 _ _ _ _ hf
theorem x_L_X7_unseen_4 {l : Launch} {D : va_G} {S : e_S} {w : Int32} {k : e_G} : ∀ (n : Nat) (l0 : Nat) (l1 : Int32) (l2 : Int32) (g : e_G), L_X7_unseen_4 n S l0 l1 l2 g = some (w, k) → X l D (e_R 2) M_X7_unseen 0 0 4 [(0, .ref l0), (1, .int l1), (2, .int l2)] [] (S, g) (some (.int w)) (S, k) := by
  intro n
  induction n with
  | zero =>
    intro l0 l1 l2 g hf
    cases hf
  | succ n ih =>
    intro l0 l1 l2 g hf
    rw [L_X7_unseen_4] at hf
    refine X.iload_n dX7_unseen_4 rfl (j := 2) rfl ?_
    refine X.aload_n dX7_unseen_5 rfl (j := 0) rfl ?_
    obtain ⟨v1, h2, hf⟩ := ob hf
    refine Y.getI dX7_unseen_6 fl_X7_42 rfl h2 ?_
    refine X.icmp_ge dX7_unseen_9 (tgt := 37) rfl (fun hc => ?_) (fun hc => ?_)
    · rw [if_pos hc] at hf
      refine X.iload_n dX7_unseen_37 rfl (j := 1) rfl ?_
      obtain ⟨e1, e2⟩ := e_ret hf
      subst e1
      subst e2
      exact X.iret dX7_unseen_38 rfl rfl
    · rw [if_neg hc] at hf
      refine X.aload_n dX7_unseen_12 rfl (j := 0) rfl ?_
      refine X.aload_n dX7_unseen_13 rfl (j := 0) rfl ?_
      obtain ⟨v3, h4, hf⟩ := ob hf
      refine Y.getR dX7_unseen_14 fl_X7_9 rfl h4 ?_
      refine X.iload_n dX7_unseen_17 rfl (j := 2) rfl ?_
      obtain ⟨v5, h6, hf⟩ := ob hf
      refine Y.iald dX7_unseen_18 h6 ?_
      obtain ⟨q8, h7, hf⟩ := ob hf
      refine Y.callV (av := [.int v5]) (ci := 7) dX7_unseen_19 (c_X7_lookers (l := l) (D := D) (w := q8.1) (k := q8.2) h7) cw_X7_81 (by decide) rfl mk_X7_lookers (o_X7_lookers (w := q8.1) (k := q8.2) h7) (e_R_ok (Nat.le_of_ble_eq_true rfl) (Nat.le_of_ble_eq_true rfl)) ⟨rfl, rfl⟩ (by simp [Value.category]) ?_
      refine X.if_ne dX7_unseen_22 (tgt := 31) rfl (fun hc => ?_) (fun hc => ?_)
      · rw [if_neg hc] at hf
        exact x_J_X7_unseen_31 _ ih hf
      · rw [if_pos hc] at hf
        refine X.iload_n dX7_unseen_25 rfl (j := 1) rfl ?_
        refine X.iconst dX7_unseen_26 kI_1 ?_
        refine X.iload_n dX7_unseen_27 rfl (j := 2) rfl ?_
        refine X.ishl dX7_unseen_28 ?_
        refine X.ior dX7_unseen_29 ?_
        refine X.istore_n dX7_unseen_30 rfl (Nat.le_of_ble_eq_true rfl) (lc' := [(1, .int (l1 ||| ((1 : Int32) <<< (l2 &&& 31)))), (0, .ref l0), (2, .int l2)]) rfl ?_
        refine X.sub [1, 0, 2] rfl ?_
        exact x_J_X7_unseen_31 _ ih hf
theorem o_X7_unseen  {S : e_S} {w : Int32} {k : e_G} {l0 : Nat} {g : e_G} (hf : f_X7_unseen S l0 g = some (w, k)) : e_ob S 7 l0 = true := by
  unfold f_X7_unseen at hf
  by_cases hc : e_ob S 7 l0 = true
  · exact hc
  · rw [if_neg hc] at hf
    cases hf
theorem c_X7_unseen {l : Launch} {D : va_G}  {S : e_S} {w : Int32} {k : e_G} {l0 : Nat} {g : e_G} (hf : f_X7_unseen S l0 g = some (w, k)) : CT l D (e_R 2) M_X7_unseen [.ref l0] (S, g) (some (.int w)) (S, k) := by
  refine CT.of (by decide +kernel) (Nat.le_of_ble_eq_true rfl) ?_
  have ho := o_X7_unseen hf
  unfold f_X7_unseen at hf
  rw [if_pos ho] at hf
  show X l D (e_R 2) M_X7_unseen 0 0 0 [(0, .ref l0)] [] (S, g) (some (.int w)) (S, k)
  refine X.iconst dX7_unseen_0 kI_0 ?_
  refine X.istore_n dX7_unseen_1 rfl (Nat.le_of_ble_eq_true rfl) (lc' := [(1, .int (0 : Int32)), (0, .ref l0)]) rfl ?_
  refine X.iconst dX7_unseen_2 kI_0 ?_
  refine X.istore_n dX7_unseen_3 rfl (Nat.le_of_ble_eq_true rfl) (lc' := [(2, .int (0 : Int32)), (1, .int (0 : Int32)), (0, .ref l0)]) rfl ?_
  refine X.sub [2, 1, 0] rfl ?_
  exact x_L_X7_unseen_4 50000 _ _ _ _ hf
/-! LeanedOut$Street.keptBits()I -/
abbrev M_X7_keptBits : e_M := (yX7_keptBits, cX7_keptBits, 3, (some .int))
theorem mk_X7_keptBits : e_Mok M_X7_keptBits 0 := ⟨by decide +kernel, by decide +kernel, by decide +kernel⟩
theorem dX7_keptBits_0 : decode cX7_keptBits 0 = .ok (.iconst 0, 1) := by decide +kernel
theorem dX7_keptBits_1 : decode cX7_keptBits 1 = .ok (.istore_n 1, 1) := by decide +kernel
theorem dX7_keptBits_2 : decode cX7_keptBits 2 = .ok (.iconst 0, 1) := by decide +kernel
theorem dX7_keptBits_3 : decode cX7_keptBits 3 = .ok (.istore_n 2, 1) := by decide +kernel
theorem dX7_keptBits_4 : decode cX7_keptBits 4 = .ok (.iload_n 2, 1) := by decide +kernel
theorem dX7_keptBits_5 : decode cX7_keptBits 5 = .ok (.aload_n 0, 1) := by decide +kernel
theorem dX7_keptBits_6 : decode cX7_keptBits 6 = .ok (.getfield 42, 3) := by decide +kernel
theorem dX7_keptBits_9 : decode cX7_keptBits 9 = .ok (.if_icmp .ge 24, 3) := by decide +kernel
theorem dX7_keptBits_12 : decode cX7_keptBits 12 = .ok (.aload_n 0, 1) := by decide +kernel
theorem dX7_keptBits_13 : decode cX7_keptBits 13 = .ok (.getfield 27, 3) := by decide +kernel
theorem dX7_keptBits_16 : decode cX7_keptBits 16 = .ok (.iload_n 2, 1) := by decide +kernel
theorem dX7_keptBits_17 : decode cX7_keptBits 17 = .ok (.baload, 1) := by decide +kernel
theorem dX7_keptBits_18 : decode cX7_keptBits 18 = .ok (.ifCond .eq 9, 3) := by decide +kernel
theorem dX7_keptBits_21 : decode cX7_keptBits 21 = .ok (.iload_n 1, 1) := by decide +kernel
theorem dX7_keptBits_22 : decode cX7_keptBits 22 = .ok (.iconst 1, 1) := by decide +kernel
theorem dX7_keptBits_23 : decode cX7_keptBits 23 = .ok (.iload_n 2, 1) := by decide +kernel
theorem dX7_keptBits_24 : decode cX7_keptBits 24 = .ok (.ishl, 1) := by decide +kernel
theorem dX7_keptBits_25 : decode cX7_keptBits 25 = .ok (.ior, 1) := by decide +kernel
theorem dX7_keptBits_26 : decode cX7_keptBits 26 = .ok (.istore_n 1, 1) := by decide +kernel
theorem dX7_keptBits_27 : decode cX7_keptBits 27 = .ok (.iinc 2 1, 3) := by decide +kernel
theorem dX7_keptBits_30 : decode cX7_keptBits 30 = .ok (.goto (-26), 3) := by decide +kernel
theorem dX7_keptBits_33 : decode cX7_keptBits 33 = .ok (.iload_n 1, 1) := by decide +kernel
theorem dX7_keptBits_34 : decode cX7_keptBits 34 = .ok (.ireturn, 1) := by decide +kernel
def J_X7_keptBits_27 (c4 : Nat → Int32 → Int32 → e_G → Option (Int32 × e_G)) (S : e_S) (l0 : Nat) (l1 : Int32) (l2 : Int32) (g : e_G) : Option (Int32 × e_G) :=
  c4 l0 l1 (l2 + (1 : Int32)) g
def L_X7_keptBits_4 : Nat → e_S → Nat → Int32 → Int32 → e_G → Option (Int32 × e_G)
  | 0, _, _, _, _, _ => none
  | n + 1, S, l0, l1, l2, g =>
  (e_gI S g 7 l0 6).bind fun v1 =>
  if v1 ≤ l2 then
    some (l1, g)
  else
    (e_gR S g 7 l0 5).bind fun v3 =>
    (e_aI S g 1 v3 l2).bind fun v5 =>
    if v5 = 0 then
      J_X7_keptBits_27 (L_X7_keptBits_4 n S) S l0 l1 l2 g
    else
      J_X7_keptBits_27 (L_X7_keptBits_4 n S) S l0 (l1 ||| ((1 : Int32) <<< (l2 &&& 31))) l2 g
def f_X7_keptBits (S : e_S) (l0 : Nat) (g : e_G) : Option (Int32 × e_G) :=
  if e_ob S 7 l0 = true then
    L_X7_keptBits_4 50000 S l0 (0 : Int32) (0 : Int32) g
  else none
theorem x_J_X7_keptBits_27 {l : Launch} {D : va_G} {S : e_S} {w : Int32} {k : e_G} (c4 : Nat → Int32 → Int32 → e_G → Option (Int32 × e_G)) (hc4 : ∀ (l0 : Nat) (l1 : Int32) (l2 : Int32) (g : e_G), c4 l0 l1 l2 g = some (w, k) → X l D (e_R 1) M_X7_keptBits 0 0 4 [(0, .ref l0), (1, .int l1), (2, .int l2)] [] (S, g) (some (.int w)) (S, k)) {l0 : Nat} {l1 : Int32} {l2 : Int32} {g : e_G} (hf : J_X7_keptBits_27 c4 S l0 l1 l2 g = some (w, k)) : X l D (e_R 1) M_X7_keptBits 0 0 27 [(0, .ref l0), (1, .int l1), (2, .int l2)] [] (S, g) (some (.int w)) (S, k) := by
  unfold J_X7_keptBits_27 at hf
  refine X.iinc (j := 2) dX7_keptBits_27 rfl (v := l2 + (1 : Int32)) (by rw [kI_1]) (Nat.le_of_ble_eq_true rfl) (lc' := [(2, .int (l2 + (1 : Int32))), (0, .ref l0), (1, .int l1)]) rfl ?_
  refine X.goto dX7_keptBits_30 (tgt := 4) rfl ?_
  refine X.sub [1, 2, 0] rfl ?_
  exact hc4 _ _ _ _ hf
theorem x_L_X7_keptBits_4 {l : Launch} {D : va_G} {S : e_S} {w : Int32} {k : e_G} : ∀ (n : Nat) (l0 : Nat) (l1 : Int32) (l2 : Int32) (g : e_G), L_X7_keptBits_4 n S l0 l1 l2 g = some (w, k) → X l D (e_R 1) M_X7_keptBits 0 0 4 [(0, .ref l0), (1, .int l1), (2, .int l2)] [] (S, g) (some (.int w)) (S, k) := by
  intro n
  induction n with
  | zero =>
    intro l0 l1 l2 g hf
    cases hf
  | succ n ih =>
    intro l0 l1 l2 g hf
    rw [L_X7_keptBits_4] at hf
    refine X.iload_n dX7_keptBits_4 rfl (j := 2) rfl ?_
    refine X.aload_n dX7_keptBits_5 rfl (j := 0) rfl ?_
    obtain ⟨v1, h2, hf⟩ := ob hf
    refine Y.getI dX7_keptBits_6 fl_X7_42 rfl h2 ?_
    refine X.icmp_ge dX7_keptBits_9 (tgt := 33) rfl (fun hc => ?_) (fun hc => ?_)
    · rw [if_pos hc] at hf
      refine X.iload_n dX7_keptBits_33 rfl (j := 1) rfl ?_
      obtain ⟨e1, e2⟩ := e_ret hf
      subst e1
      subst e2
      exact X.iret dX7_keptBits_34 rfl rfl
    · rw [if_neg hc] at hf
      refine X.aload_n dX7_keptBits_12 rfl (j := 0) rfl ?_
      obtain ⟨v3, h4, hf⟩ := ob hf
      refine Y.getR dX7_keptBits_13 fl_X7_27 rfl h4 ?_
      refine X.iload_n dX7_keptBits_16 rfl (j := 2) rfl ?_
      obtain ⟨v5, h6, hf⟩ := ob hf
      refine Y.zald dX7_keptBits_17 h6 ?_
      refine X.if_eq dX7_keptBits_18 (tgt := 27) rfl (fun hc => ?_) (fun hc => ?_)
      · rw [if_pos hc] at hf
        exact x_J_X7_keptBits_27 _ ih hf
      · rw [if_neg hc] at hf
        refine X.iload_n dX7_keptBits_21 rfl (j := 1) rfl ?_
        refine X.iconst dX7_keptBits_22 kI_1 ?_
        refine X.iload_n dX7_keptBits_23 rfl (j := 2) rfl ?_
        refine X.ishl dX7_keptBits_24 ?_
        refine X.ior dX7_keptBits_25 ?_
        refine X.istore_n dX7_keptBits_26 rfl (Nat.le_of_ble_eq_true rfl) (lc' := [(1, .int (l1 ||| ((1 : Int32) <<< (l2 &&& 31)))), (0, .ref l0), (2, .int l2)]) rfl ?_
        refine X.sub [1, 0, 2] rfl ?_
        exact x_J_X7_keptBits_27 _ ih hf
theorem o_X7_keptBits  {S : e_S} {w : Int32} {k : e_G} {l0 : Nat} {g : e_G} (hf : f_X7_keptBits S l0 g = some (w, k)) : e_ob S 7 l0 = true := by
  unfold f_X7_keptBits at hf
  by_cases hc : e_ob S 7 l0 = true
  · exact hc
  · rw [if_neg hc] at hf
    cases hf
theorem c_X7_keptBits {l : Launch} {D : va_G}  {S : e_S} {w : Int32} {k : e_G} {l0 : Nat} {g : e_G} (hf : f_X7_keptBits S l0 g = some (w, k)) : CT l D (e_R 1) M_X7_keptBits [.ref l0] (S, g) (some (.int w)) (S, k) := by
  refine CT.of (by decide +kernel) (Nat.le_of_ble_eq_true rfl) ?_
  have ho := o_X7_keptBits hf
  unfold f_X7_keptBits at hf
  rw [if_pos ho] at hf
  show X l D (e_R 1) M_X7_keptBits 0 0 0 [(0, .ref l0)] [] (S, g) (some (.int w)) (S, k)
  refine X.iconst dX7_keptBits_0 kI_0 ?_
  refine X.istore_n dX7_keptBits_1 rfl (Nat.le_of_ble_eq_true rfl) (lc' := [(1, .int (0 : Int32)), (0, .ref l0)]) rfl ?_
  refine X.iconst dX7_keptBits_2 kI_0 ?_
  refine X.istore_n dX7_keptBits_3 rfl (Nat.le_of_ble_eq_true rfl) (lc' := [(2, .int (0 : Int32)), (1, .int (0 : Int32)), (0, .ref l0)]) rfl ?_
  refine X.sub [2, 1, 0] rfl ?_
  exact x_L_X7_keptBits_4 50000 _ _ _ _ hf
/-! LeanedOut$Street.leanOfAll()I -/
abbrev M_X7_leanOfAll : e_M := (yX7_leanOfAll, cX7_leanOfAll, 3, (some .int))
theorem mk_X7_leanOfAll : e_Mok M_X7_leanOfAll 0 := ⟨by decide +kernel, by decide +kernel, by decide +kernel⟩
theorem dX7_leanOfAll_0 : decode cX7_leanOfAll 0 = .ok (.iconst 0, 1) := by decide +kernel
theorem dX7_leanOfAll_1 : decode cX7_leanOfAll 1 = .ok (.istore_n 1, 1) := by decide +kernel
theorem dX7_leanOfAll_2 : decode cX7_leanOfAll 2 = .ok (.iconst 0, 1) := by decide +kernel
theorem dX7_leanOfAll_3 : decode cX7_leanOfAll 3 = .ok (.istore_n 2, 1) := by decide +kernel
theorem dX7_leanOfAll_4 : decode cX7_leanOfAll 4 = .ok (.iload_n 2, 1) := by decide +kernel
theorem dX7_leanOfAll_5 : decode cX7_leanOfAll 5 = .ok (.aload_n 0, 1) := by decide +kernel
theorem dX7_leanOfAll_6 : decode cX7_leanOfAll 6 = .ok (.getfield 42, 3) := by decide +kernel
theorem dX7_leanOfAll_9 : decode cX7_leanOfAll 9 = .ok (.if_icmp .ge 18, 3) := by decide +kernel
theorem dX7_leanOfAll_12 : decode cX7_leanOfAll 12 = .ok (.iload_n 1, 1) := by decide +kernel
theorem dX7_leanOfAll_13 : decode cX7_leanOfAll 13 = .ok (.aload_n 0, 1) := by decide +kernel
theorem dX7_leanOfAll_14 : decode cX7_leanOfAll 14 = .ok (.getfield 18, 3) := by decide +kernel
theorem dX7_leanOfAll_17 : decode cX7_leanOfAll 17 = .ok (.iload_n 2, 1) := by decide +kernel
theorem dX7_leanOfAll_18 : decode cX7_leanOfAll 18 = .ok (.iaload, 1) := by decide +kernel
theorem dX7_leanOfAll_19 : decode cX7_leanOfAll 19 = .ok (.iadd, 1) := by decide +kernel
theorem dX7_leanOfAll_20 : decode cX7_leanOfAll 20 = .ok (.istore_n 1, 1) := by decide +kernel
theorem dX7_leanOfAll_21 : decode cX7_leanOfAll 21 = .ok (.iinc 2 1, 3) := by decide +kernel
theorem dX7_leanOfAll_24 : decode cX7_leanOfAll 24 = .ok (.goto (-20), 3) := by decide +kernel
theorem dX7_leanOfAll_27 : decode cX7_leanOfAll 27 = .ok (.iload_n 1, 1) := by decide +kernel
theorem dX7_leanOfAll_28 : decode cX7_leanOfAll 28 = .ok (.ireturn, 1) := by decide +kernel
def L_X7_leanOfAll_4 : Nat → e_S → Nat → Int32 → Int32 → e_G → Option (Int32 × e_G)
  | 0, _, _, _, _, _ => none
  | n + 1, S, l0, l1, l2, g =>
  (e_gI S g 7 l0 6).bind fun v1 =>
  if v1 ≤ l2 then
    some (l1, g)
  else
    (e_gR S g 7 l0 2).bind fun v3 =>
    (e_aI S g 0 v3 l2).bind fun v5 =>
    L_X7_leanOfAll_4 n S l0 (l1 + v5) (l2 + (1 : Int32)) g
def f_X7_leanOfAll (S : e_S) (l0 : Nat) (g : e_G) : Option (Int32 × e_G) :=
  if e_ob S 7 l0 = true then
    L_X7_leanOfAll_4 50000 S l0 (0 : Int32) (0 : Int32) g
  else none
theorem x_L_X7_leanOfAll_4 {l : Launch} {D : va_G} {S : e_S} {w : Int32} {k : e_G} : ∀ (n : Nat) (l0 : Nat) (l1 : Int32) (l2 : Int32) (g : e_G), L_X7_leanOfAll_4 n S l0 l1 l2 g = some (w, k) → X l D (e_R 1) M_X7_leanOfAll 0 0 4 [(0, .ref l0), (1, .int l1), (2, .int l2)] [] (S, g) (some (.int w)) (S, k) := by
  intro n
  induction n with
  | zero =>
    intro l0 l1 l2 g hf
    cases hf
  | succ n ih =>
    intro l0 l1 l2 g hf
    rw [L_X7_leanOfAll_4] at hf
    refine X.iload_n dX7_leanOfAll_4 rfl (j := 2) rfl ?_
    refine X.aload_n dX7_leanOfAll_5 rfl (j := 0) rfl ?_
    obtain ⟨v1, h2, hf⟩ := ob hf
    refine Y.getI dX7_leanOfAll_6 fl_X7_42 rfl h2 ?_
    refine X.icmp_ge dX7_leanOfAll_9 (tgt := 27) rfl (fun hc => ?_) (fun hc => ?_)
    · rw [if_pos hc] at hf
      refine X.iload_n dX7_leanOfAll_27 rfl (j := 1) rfl ?_
      obtain ⟨e1, e2⟩ := e_ret hf
      subst e1
      subst e2
      exact X.iret dX7_leanOfAll_28 rfl rfl
    · rw [if_neg hc] at hf
      refine X.iload_n dX7_leanOfAll_12 rfl (j := 1) rfl ?_
      refine X.aload_n dX7_leanOfAll_13 rfl (j := 0) rfl ?_
      obtain ⟨v3, h4, hf⟩ := ob hf
      refine Y.getR dX7_leanOfAll_14 fl_X7_18 rfl h4 ?_
      refine X.iload_n dX7_leanOfAll_17 rfl (j := 2) rfl ?_
      obtain ⟨v5, h6, hf⟩ := ob hf
      refine Y.iald dX7_leanOfAll_18 h6 ?_
      refine X.iadd dX7_leanOfAll_19 ?_
      refine X.istore_n dX7_leanOfAll_20 rfl (Nat.le_of_ble_eq_true rfl) (lc' := [(1, .int (l1 + v5)), (0, .ref l0), (2, .int l2)]) rfl ?_
      refine X.iinc (j := 2) dX7_leanOfAll_21 rfl (v := l2 + (1 : Int32)) (by rw [kI_1]) (Nat.le_of_ble_eq_true rfl) (lc' := [(2, .int (l2 + (1 : Int32))), (1, .int (l1 + v5)), (0, .ref l0)]) rfl ?_
      refine X.goto dX7_leanOfAll_24 (tgt := 4) rfl ?_
      refine X.sub [2, 1, 0] rfl ?_
      exact ih _ _ _ _ hf
theorem o_X7_leanOfAll  {S : e_S} {w : Int32} {k : e_G} {l0 : Nat} {g : e_G} (hf : f_X7_leanOfAll S l0 g = some (w, k)) : e_ob S 7 l0 = true := by
  unfold f_X7_leanOfAll at hf
  by_cases hc : e_ob S 7 l0 = true
  · exact hc
  · rw [if_neg hc] at hf
    cases hf
theorem c_X7_leanOfAll {l : Launch} {D : va_G}  {S : e_S} {w : Int32} {k : e_G} {l0 : Nat} {g : e_G} (hf : f_X7_leanOfAll S l0 g = some (w, k)) : CT l D (e_R 1) M_X7_leanOfAll [.ref l0] (S, g) (some (.int w)) (S, k) := by
  refine CT.of (by decide +kernel) (Nat.le_of_ble_eq_true rfl) ?_
  have ho := o_X7_leanOfAll hf
  unfold f_X7_leanOfAll at hf
  rw [if_pos ho] at hf
  show X l D (e_R 1) M_X7_leanOfAll 0 0 0 [(0, .ref l0)] [] (S, g) (some (.int w)) (S, k)
  refine X.iconst dX7_leanOfAll_0 kI_0 ?_
  refine X.istore_n dX7_leanOfAll_1 rfl (Nat.le_of_ble_eq_true rfl) (lc' := [(1, .int (0 : Int32)), (0, .ref l0)]) rfl ?_
  refine X.iconst dX7_leanOfAll_2 kI_0 ?_
  refine X.istore_n dX7_leanOfAll_3 rfl (Nat.le_of_ble_eq_true rfl) (lc' := [(2, .int (0 : Int32)), (1, .int (0 : Int32)), (0, .ref l0)]) rfl ?_
  refine X.sub [2, 1, 0] rfl ?_
  exact x_L_X7_leanOfAll_4 50000 _ _ _ _ hf
