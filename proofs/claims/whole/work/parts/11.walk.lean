theorem kS_160 : (Int16.ofInt (160)).toInt32 = (160 : Int32) := by decide +kernel
theorem kI_3 : Int32.ofInt (3) = (3 : Int32) := by decide +kernel
theorem kI_5 : Int32.ofInt (5) = (5 : Int32) := by decide +kernel
theorem fl_X9_24 : e_FL RX9 24 9 4 := ⟨⟨by decide, by decide⟩, bw (i := 144) (by decide +kernel) rfl⟩
theorem fl_X9_9 : e_FL RX9 9 9 0 := ⟨⟨by decide, by decide⟩, bw (i := 140) (by decide +kernel) rfl⟩
theorem fl_X9_15 : e_FL RX9 15 9 1 := ⟨⟨by decide, by decide⟩, bw (i := 141) (by decide +kernel) rfl⟩
theorem fl_X9_21 : e_FL RX9 21 9 3 := ⟨⟨by decide, by decide⟩, bw (i := 143) (by decide +kernel) rfl⟩
theorem fl_X9_18 : e_FL RX9 18 9 2 := ⟨⟨by decide, by decide⟩, bw (i := 142) (by decide +kernel) rfl⟩
theorem ww_530 : Cond.methodLink RX9 36 yX9_ofTwo ∈ e_big := bw (i := 530) (by decide +kernel) rfl
theorem ww_531 : Cond.static yX9_ofTwo ∈ e_big := bw (i := 531) (by decide +kernel) rfl
theorem ww_75 : Cond.initialized RX9 ∈ e_big := bw (i := 75) (by decide +kernel) rfl
theorem ww_532 : Cond.code yX9_ofTwo cX9_ofTwo 3 (some .int) ∈ e_big := bw (i := 532) (by decide +kernel) rfl
theorem cw_X9_36 : ∀ w ∈ va_wsS RX9 36 yX9_ofTwo [Cond.code yX9_ofTwo cX9_ofTwo 3 (some .int)], w ∈ e_big := e_all4 ww_530 ww_531 ww_75 ww_532
theorem ww_527 : Cond.methodLink RX9 32 yX9_ofOne ∈ e_big := bw (i := 527) (by decide +kernel) rfl
theorem ww_528 : Cond.static yX9_ofOne ∈ e_big := bw (i := 528) (by decide +kernel) rfl
theorem ww_529 : Cond.code yX9_ofOne cX9_ofOne 2 (some .int) ∈ e_big := bw (i := 529) (by decide +kernel) rfl
theorem cw_X9_32 : ∀ w ∈ va_wsS RX9 32 yX9_ofOne [Cond.code yX9_ofOne cX9_ofOne 2 (some .int)], w ∈ e_big := e_all4 ww_527 ww_528 ww_75 ww_529
theorem ww_524 : Cond.methodLink RX9 28 yX9_operand ∈ e_big := bw (i := 524) (by decide +kernel) rfl
theorem ww_525 : Cond.static yX9_operand ∈ e_big := bw (i := 525) (by decide +kernel) rfl
theorem ww_526 : Cond.code yX9_operand cX9_operand 3 (some .int) ∈ e_big := bw (i := 526) (by decide +kernel) rfl
theorem cw_X9_28 : ∀ w ∈ va_wsS RX9 28 yX9_operand [Cond.code yX9_operand cX9_operand 3 (some .int)], w ∈ e_big := e_all4 ww_524 ww_525 ww_75 ww_526
theorem ww_603 : Cond.methodLink RX2 7 yX3_leaning ∈ e_big := bw (i := 603) (by decide +kernel) rfl
theorem ww_596 : Cond.sameMethod RX3 RX3 "leaning" "(IZII)I" ∈ e_big := bw (i := 596) (by decide +kernel) rfl
theorem ww_189 : Cond.superclass RX2 RX3 ∈ e_big := bw (i := 189) (by decide +kernel) rfl
theorem ww_594 : Cond.instanceMethod yX3_leaning ∈ e_big := bw (i := 594) (by decide +kernel) rfl
theorem ww_77 : Cond.initialized RX3 ∈ e_big := bw (i := 77) (by decide +kernel) rfl
theorem ww_615 : Cond.code yX3_leaning cX3_leaning 5 (some .int) ∈ e_big := bw (i := 615) (by decide +kernel) rfl
theorem ww_633 : Cond.methodLink RX8 7 yX3_holding ∈ e_big := bw (i := 633) (by decide +kernel) rfl
theorem ww_623 : Cond.sameMethod RX3 RX3 "holding" "(II)I" ∈ e_big := bw (i := 623) (by decide +kernel) rfl
theorem ww_196 : Cond.superclass RX8 RX3 ∈ e_big := bw (i := 196) (by decide +kernel) rfl
theorem ww_621 : Cond.instanceMethod yX3_holding ∈ e_big := bw (i := 621) (by decide +kernel) rfl
theorem ww_639 : Cond.code yX3_holding cX3_holding 3 (some .int) ∈ e_big := bw (i := 639) (by decide +kernel) rfl
theorem ww_657 : Cond.methodLink RX8 11 yX3_minding ∈ e_big := bw (i := 657) (by decide +kernel) rfl
theorem ww_647 : Cond.sameMethod RX3 RX3 "minding" "(II)I" ∈ e_big := bw (i := 647) (by decide +kernel) rfl
theorem ww_645 : Cond.instanceMethod yX3_minding ∈ e_big := bw (i := 645) (by decide +kernel) rfl
theorem ww_661 : Cond.code yX3_minding cX3_minding 3 (some .int) ∈ e_big := bw (i := 661) (by decide +kernel) rfl
theorem ww_600 : Cond.methodLink RX0 7 yX2_leaning ∈ e_big := bw (i := 600) (by decide +kernel) rfl
theorem ww_1368 : Cond.sameMethod RX2 RX2 "leaning" "(IZII)I" ∈ e_big := bw (i := 1368) (by decide +kernel) rfl
theorem ww_203 : Cond.superclass RX0 RX2 ∈ e_big := bw (i := 203) (by decide +kernel) rfl
theorem ww_601 : Cond.instanceMethod yX2_leaning ∈ e_big := bw (i := 601) (by decide +kernel) rfl
theorem ww_78 : Cond.initialized RX2 ∈ e_big := bw (i := 78) (by decide +kernel) rfl
theorem ww_602 : Cond.code yX2_leaning cX2_leaning 6 (some .int) ∈ e_big := bw (i := 602) (by decide +kernel) rfl
theorem ww_627 : Cond.methodLink RX0 11 ⟨RX2, "holding", "(II)I"⟩ ∈ e_big := bw (i := 627) (by decide +kernel) rfl
theorem ww_628 : Cond.sameMethod RX2 RX3 "holding" "(II)I" ∈ e_big := bw (i := 628) (by decide +kernel) rfl
theorem ww_607 : Cond.methodLink RX1 7 ⟨RX8, "leaning", "(IZII)I"⟩ ∈ e_big := bw (i := 607) (by decide +kernel) rfl
theorem ww_608 : Cond.sameMethod RX8 RX3 "leaning" "(IZII)I" ∈ e_big := bw (i := 608) (by decide +kernel) rfl
theorem ww_210 : Cond.superclass RX1 RX8 ∈ e_big := bw (i := 210) (by decide +kernel) rfl
theorem ww_654 : Cond.methodLink RX1 11 yX8_minding ∈ e_big := bw (i := 654) (by decide +kernel) rfl
theorem ww_1369 : Cond.sameMethod RX8 RX8 "minding" "(II)I" ∈ e_big := bw (i := 1369) (by decide +kernel) rfl
theorem ww_655 : Cond.instanceMethod yX8_minding ∈ e_big := bw (i := 655) (by decide +kernel) rfl
theorem ww_79 : Cond.initialized RX8 ∈ e_big := bw (i := 79) (by decide +kernel) rfl
theorem ww_656 : Cond.code yX8_minding cX8_minding 3 (some .int) ∈ e_big := bw (i := 656) (by decide +kernel) rfl
theorem ww_593 : Cond.methodLink RX7 117 yX3_leaning ∈ e_big := bw (i := 593) (by decide +kernel) rfl
theorem ww_595 : Cond.selects RX3 yX3_leaning yX3_leaning ∈ e_big := bw (i := 595) (by decide +kernel) rfl
theorem vw_leaning_3 : ∀ w ∈ va_wsU RX7 117 RX3 RX3 yX3_leaning yX3_leaning [Cond.code yX3_leaning cX3_leaning 5 (some .int)], w ∈ e_big := e_all6 ww_593 ww_596 ww_595 ww_594 ww_77 ww_615
theorem ww_610 : Cond.selects RX2 yX3_leaning yX2_leaning ∈ e_big := bw (i := 610) (by decide +kernel) rfl
theorem vw_leaning_2 : ∀ w ∈ va_wsU RX7 117 RX2 RX3 yX3_leaning yX2_leaning [Cond.code yX2_leaning cX2_leaning 6 (some .int)], w ∈ e_big := e_all6 ww_593 ww_596 ww_610 ww_601 ww_78 ww_602
theorem ww_614 : Cond.selects RX8 yX3_leaning yX3_leaning ∈ e_big := bw (i := 614) (by decide +kernel) rfl
theorem vw_leaning_8 : ∀ w ∈ va_wsU RX7 117 RX8 RX3 yX3_leaning yX3_leaning [Cond.code yX3_leaning cX3_leaning 5 (some .int)], w ∈ e_big := e_all6 ww_593 ww_596 ww_614 ww_594 ww_77 ww_615
theorem ww_597 : Cond.selects RX0 yX3_leaning yX0_leaning ∈ e_big := bw (i := 597) (by decide +kernel) rfl
theorem ww_598 : Cond.instanceMethod yX0_leaning ∈ e_big := bw (i := 598) (by decide +kernel) rfl
theorem ww_80 : Cond.initialized RX0 ∈ e_big := bw (i := 80) (by decide +kernel) rfl
theorem ww_599 : Cond.code yX0_leaning cX0_leaning 5 (some .int) ∈ e_big := bw (i := 599) (by decide +kernel) rfl
theorem vw_leaning_0 : ∀ w ∈ va_wsU RX7 117 RX0 RX3 yX3_leaning yX0_leaning [Cond.code yX0_leaning cX0_leaning 5 (some .int)], w ∈ e_big := e_all6 ww_593 ww_596 ww_597 ww_598 ww_80 ww_599
theorem ww_604 : Cond.selects RX1 yX3_leaning yX1_leaning ∈ e_big := bw (i := 604) (by decide +kernel) rfl
theorem ww_605 : Cond.instanceMethod yX1_leaning ∈ e_big := bw (i := 605) (by decide +kernel) rfl
theorem ww_81 : Cond.initialized RX1 ∈ e_big := bw (i := 81) (by decide +kernel) rfl
theorem ww_606 : Cond.code yX1_leaning cX1_leaning 5 (some .int) ∈ e_big := bw (i := 606) (by decide +kernel) rfl
theorem vw_leaning_1 : ∀ w ∈ va_wsU RX7 117 RX1 RX3 yX3_leaning yX1_leaning [Cond.code yX1_leaning cX1_leaning 5 (some .int)], w ∈ e_big := e_all6 ww_593 ww_596 ww_604 ww_605 ww_81 ww_606
theorem ww_611 : Cond.selects RX4 yX3_leaning yX4_leaning ∈ e_big := bw (i := 611) (by decide +kernel) rfl
theorem ww_612 : Cond.instanceMethod yX4_leaning ∈ e_big := bw (i := 612) (by decide +kernel) rfl
theorem ww_82 : Cond.initialized RX4 ∈ e_big := bw (i := 82) (by decide +kernel) rfl
theorem ww_613 : Cond.code yX4_leaning cX4_leaning 5 (some .int) ∈ e_big := bw (i := 613) (by decide +kernel) rfl
theorem vw_leaning_4 : ∀ w ∈ va_wsU RX7 117 RX4 RX3 yX3_leaning yX4_leaning [Cond.code yX4_leaning cX4_leaning 5 (some .int)], w ∈ e_big := e_all6 ww_593 ww_596 ww_611 ww_612 ww_82 ww_613
theorem ww_620 : Cond.methodLink RX7 123 yX3_holding ∈ e_big := bw (i := 620) (by decide +kernel) rfl
theorem ww_622 : Cond.selects RX3 yX3_holding yX3_holding ∈ e_big := bw (i := 622) (by decide +kernel) rfl
theorem vw_holding_3 : ∀ w ∈ va_wsU RX7 123 RX3 RX3 yX3_holding yX3_holding [Cond.code yX3_holding cX3_holding 3 (some .int)], w ∈ e_big := e_all6 ww_620 ww_623 ww_622 ww_621 ww_77 ww_639
theorem ww_634 : Cond.selects RX2 yX3_holding yX3_holding ∈ e_big := bw (i := 634) (by decide +kernel) rfl
theorem vw_holding_2 : ∀ w ∈ va_wsU RX7 123 RX2 RX3 yX3_holding yX3_holding [Cond.code yX3_holding cX3_holding 3 (some .int)], w ∈ e_big := e_all6 ww_620 ww_623 ww_634 ww_621 ww_77 ww_639
theorem ww_638 : Cond.selects RX8 yX3_holding yX8_holding ∈ e_big := bw (i := 638) (by decide +kernel) rfl
theorem ww_631 : Cond.instanceMethod yX8_holding ∈ e_big := bw (i := 631) (by decide +kernel) rfl
theorem ww_632 : Cond.code yX8_holding cX8_holding 3 (some .int) ∈ e_big := bw (i := 632) (by decide +kernel) rfl
theorem vw_holding_8 : ∀ w ∈ va_wsU RX7 123 RX8 RX3 yX3_holding yX8_holding [Cond.code yX8_holding cX8_holding 3 (some .int)], w ∈ e_big := e_all6 ww_620 ww_623 ww_638 ww_631 ww_79 ww_632
theorem ww_624 : Cond.selects RX0 yX3_holding yX0_holding ∈ e_big := bw (i := 624) (by decide +kernel) rfl
theorem ww_625 : Cond.instanceMethod yX0_holding ∈ e_big := bw (i := 625) (by decide +kernel) rfl
theorem ww_626 : Cond.code yX0_holding cX0_holding 3 (some .int) ∈ e_big := bw (i := 626) (by decide +kernel) rfl
theorem vw_holding_0 : ∀ w ∈ va_wsU RX7 123 RX0 RX3 yX3_holding yX0_holding [Cond.code yX0_holding cX0_holding 3 (some .int)], w ∈ e_big := e_all6 ww_620 ww_623 ww_624 ww_625 ww_80 ww_626
theorem ww_630 : Cond.selects RX1 yX3_holding yX8_holding ∈ e_big := bw (i := 630) (by decide +kernel) rfl
theorem vw_holding_1 : ∀ w ∈ va_wsU RX7 123 RX1 RX3 yX3_holding yX8_holding [Cond.code yX8_holding cX8_holding 3 (some .int)], w ∈ e_big := e_all6 ww_620 ww_623 ww_630 ww_631 ww_79 ww_632
theorem ww_635 : Cond.selects RX4 yX3_holding yX4_holding ∈ e_big := bw (i := 635) (by decide +kernel) rfl
theorem ww_636 : Cond.instanceMethod yX4_holding ∈ e_big := bw (i := 636) (by decide +kernel) rfl
theorem ww_637 : Cond.code yX4_holding cX4_holding 3 (some .int) ∈ e_big := bw (i := 637) (by decide +kernel) rfl
theorem vw_holding_4 : ∀ w ∈ va_wsU RX7 123 RX4 RX3 yX3_holding yX4_holding [Cond.code yX4_holding cX4_holding 3 (some .int)], w ∈ e_big := e_all6 ww_620 ww_623 ww_635 ww_636 ww_82 ww_637
theorem ww_644 : Cond.methodLink RX7 126 yX3_minding ∈ e_big := bw (i := 644) (by decide +kernel) rfl
theorem ww_646 : Cond.selects RX3 yX3_minding yX3_minding ∈ e_big := bw (i := 646) (by decide +kernel) rfl
theorem vw_minding_3 : ∀ w ∈ va_wsU RX7 126 RX3 RX3 yX3_minding yX3_minding [Cond.code yX3_minding cX3_minding 3 (some .int)], w ∈ e_big := e_all6 ww_644 ww_647 ww_646 ww_645 ww_77 ww_661
theorem ww_658 : Cond.selects RX2 yX3_minding yX2_minding ∈ e_big := bw (i := 658) (by decide +kernel) rfl
theorem ww_649 : Cond.instanceMethod yX2_minding ∈ e_big := bw (i := 649) (by decide +kernel) rfl
theorem ww_650 : Cond.code yX2_minding cX2_minding 3 (some .int) ∈ e_big := bw (i := 650) (by decide +kernel) rfl
theorem vw_minding_2 : ∀ w ∈ va_wsU RX7 126 RX2 RX3 yX3_minding yX2_minding [Cond.code yX2_minding cX2_minding 3 (some .int)], w ∈ e_big := e_all6 ww_644 ww_647 ww_658 ww_649 ww_78 ww_650
theorem ww_660 : Cond.selects RX8 yX3_minding yX8_minding ∈ e_big := bw (i := 660) (by decide +kernel) rfl
theorem vw_minding_8 : ∀ w ∈ va_wsU RX7 126 RX8 RX3 yX3_minding yX8_minding [Cond.code yX8_minding cX8_minding 3 (some .int)], w ∈ e_big := e_all6 ww_644 ww_647 ww_660 ww_655 ww_79 ww_656
theorem ww_648 : Cond.selects RX0 yX3_minding yX2_minding ∈ e_big := bw (i := 648) (by decide +kernel) rfl
theorem vw_minding_0 : ∀ w ∈ va_wsU RX7 126 RX0 RX3 yX3_minding yX2_minding [Cond.code yX2_minding cX2_minding 3 (some .int)], w ∈ e_big := e_all6 ww_644 ww_647 ww_648 ww_649 ww_78 ww_650
theorem ww_651 : Cond.selects RX1 yX3_minding yX1_minding ∈ e_big := bw (i := 651) (by decide +kernel) rfl
theorem ww_652 : Cond.instanceMethod yX1_minding ∈ e_big := bw (i := 652) (by decide +kernel) rfl
theorem ww_653 : Cond.code yX1_minding cX1_minding 3 (some .int) ∈ e_big := bw (i := 653) (by decide +kernel) rfl
theorem vw_minding_1 : ∀ w ∈ va_wsU RX7 126 RX1 RX3 yX3_minding yX1_minding [Cond.code yX1_minding cX1_minding 3 (some .int)], w ∈ e_big := e_all6 ww_644 ww_647 ww_651 ww_652 ww_81 ww_653
theorem ww_659 : Cond.selects RX4 yX3_minding yX3_minding ∈ e_big := bw (i := 659) (by decide +kernel) rfl
theorem vw_minding_4 : ∀ w ∈ va_wsU RX7 126 RX4 RX3 yX3_minding yX3_minding [Cond.code yX3_minding cX3_minding 3 (some .int)], w ∈ e_big := e_all6 ww_644 ww_647 ww_659 ww_645 ww_77 ww_661
/-! LeanedOut$Text.empty()V -/
abbrev M_X9_empty : e_M := (yX9_empty, cX9_empty, 1, none)
theorem mk_X9_empty : e_Mok M_X9_empty 0 := ⟨by decide +kernel, by decide +kernel, by decide +kernel⟩
theorem dX9_empty_0 : decode cX9_empty 0 = .ok (.aload_n 0, 1) := by decide +kernel
theorem dX9_empty_1 : decode cX9_empty 1 = .ok (.iconst 0, 1) := by decide +kernel
theorem dX9_empty_2 : decode cX9_empty 2 = .ok (.putfield 24, 3) := by decide +kernel
theorem dX9_empty_5 : decode cX9_empty 5 = .ok (.return_, 1) := by decide +kernel
def f_X9_empty (S : e_S) (l0 : Nat) (g : e_G) : Option (e_G) :=
  if e_ob S 9 l0 = true then
    (e_sI S g 9 l0 4 (0 : Int32)).bind fun g1 =>
    some g1
  else none
theorem o_X9_empty  {S : e_S} {k : e_G} {l0 : Nat} {g : e_G} (hf : f_X9_empty S l0 g = some k) : e_ob S 9 l0 = true := by
  unfold f_X9_empty at hf
  by_cases hc : e_ob S 9 l0 = true
  · exact hc
  · rw [if_neg hc] at hf
    cases hf
theorem c_X9_empty {l : Launch} {D : va_G}  {S : e_S} {k : e_G} {l0 : Nat} {g : e_G} (hf : f_X9_empty S l0 g = some k) : CT l D (e_R 1) M_X9_empty [.ref l0] (S, g) none (S, k) := by
  refine CT.of (by decide +kernel) (Nat.le_of_ble_eq_true rfl) ?_
  have ho := o_X9_empty hf
  unfold f_X9_empty at hf
  rw [if_pos ho] at hf
  show X l D (e_R 1) M_X9_empty 0 0 0 [(0, .ref l0)] [] (S, g) none (S, k)
  refine X.aload_n dX9_empty_0 rfl (j := 0) rfl ?_
  refine X.iconst dX9_empty_1 kI_0 ?_
  obtain ⟨g1, h2, hf⟩ := ob hf
  refine Y.putI dX9_empty_2 fl_X9_24 rfl rfl rfl rfl h2 ?_
  have e1 := Option.some.inj hf
  subst e1
  exact X.vret dX9_empty_5 rfl
/-! LeanedOut$Text.add(II)V -/
abbrev M_X9_add : e_M := (yX9_add, cX9_add, 3, none)
theorem mk_X9_add : e_Mok M_X9_add 2 := ⟨by decide +kernel, by decide +kernel, by decide +kernel⟩
theorem dX9_add_0 : decode cX9_add 0 = .ok (.aload_n 0, 1) := by decide +kernel
theorem dX9_add_1 : decode cX9_add 1 = .ok (.getfield 24, 3) := by decide +kernel
theorem dX9_add_4 : decode cX9_add 4 = .ok (.sipush 160, 3) := by decide +kernel
theorem dX9_add_7 : decode cX9_add 7 = .ok (.if_icmp .lt 4, 3) := by decide +kernel
theorem dX9_add_10 : decode cX9_add 10 = .ok (.return_, 1) := by decide +kernel
theorem dX9_add_11 : decode cX9_add 11 = .ok (.aload_n 0, 1) := by decide +kernel
theorem dX9_add_12 : decode cX9_add 12 = .ok (.getfield 9, 3) := by decide +kernel
theorem dX9_add_15 : decode cX9_add 15 = .ok (.aload_n 0, 1) := by decide +kernel
theorem dX9_add_16 : decode cX9_add 16 = .ok (.getfield 24, 3) := by decide +kernel
theorem dX9_add_19 : decode cX9_add 19 = .ok (.iload_n 1, 1) := by decide +kernel
theorem dX9_add_20 : decode cX9_add 20 = .ok (.iastore, 1) := by decide +kernel
theorem dX9_add_21 : decode cX9_add 21 = .ok (.aload_n 0, 1) := by decide +kernel
theorem dX9_add_22 : decode cX9_add 22 = .ok (.getfield 15, 3) := by decide +kernel
theorem dX9_add_25 : decode cX9_add 25 = .ok (.aload_n 0, 1) := by decide +kernel
theorem dX9_add_26 : decode cX9_add 26 = .ok (.getfield 24, 3) := by decide +kernel
theorem dX9_add_29 : decode cX9_add 29 = .ok (.iload_n 2, 1) := by decide +kernel
theorem dX9_add_30 : decode cX9_add 30 = .ok (.iastore, 1) := by decide +kernel
theorem dX9_add_31 : decode cX9_add 31 = .ok (.aload_n 0, 1) := by decide +kernel
theorem dX9_add_32 : decode cX9_add 32 = .ok (.dup, 1) := by decide +kernel
theorem dX9_add_33 : decode cX9_add 33 = .ok (.getfield 24, 3) := by decide +kernel
theorem dX9_add_36 : decode cX9_add 36 = .ok (.iconst 1, 1) := by decide +kernel
theorem dX9_add_37 : decode cX9_add 37 = .ok (.iadd, 1) := by decide +kernel
theorem dX9_add_38 : decode cX9_add 38 = .ok (.putfield 24, 3) := by decide +kernel
theorem dX9_add_41 : decode cX9_add 41 = .ok (.return_, 1) := by decide +kernel
def f_X9_add (S : e_S) (l0 : Nat) (l1 : Int32) (l2 : Int32) (g : e_G) : Option (e_G) :=
  if e_ob S 9 l0 = true then
    (e_gI S g 9 l0 4).bind fun v1 =>
    if v1 < (160 : Int32) then
      (e_gR S g 9 l0 0).bind fun v3 =>
      (e_gI S g 9 l0 4).bind fun v5 =>
      (e_aS S g 0 v3 v5 l1).bind fun g7 =>
      (e_gR S g7 9 l0 1).bind fun v9 =>
      (e_gI S g7 9 l0 4).bind fun v11 =>
      (e_aS S g7 0 v9 v11 l2).bind fun g13 =>
      (e_gI S g13 9 l0 4).bind fun v15 =>
      (e_sI S g13 9 l0 4 (v15 + (1 : Int32))).bind fun g17 =>
      some g17
    else
      some g
  else none
theorem o_X9_add  {S : e_S} {k : e_G} {l0 : Nat} {l1 : Int32} {l2 : Int32} {g : e_G} (hf : f_X9_add S l0 l1 l2 g = some k) : e_ob S 9 l0 = true := by
  unfold f_X9_add at hf
  by_cases hc : e_ob S 9 l0 = true
  · exact hc
  · rw [if_neg hc] at hf
    cases hf
theorem c_X9_add {l : Launch} {D : va_G}  {S : e_S} {k : e_G} {l0 : Nat} {l1 : Int32} {l2 : Int32} {g : e_G} (hf : f_X9_add S l0 l1 l2 g = some k) : CT l D (e_R 1) M_X9_add [.ref l0, .int l1, .int l2] (S, g) none (S, k) := by
  refine CT.of (by decide +kernel) (Nat.le_of_ble_eq_true rfl) ?_
  have ho := o_X9_add hf
  unfold f_X9_add at hf
  rw [if_pos ho] at hf
  show X l D (e_R 1) M_X9_add 0 0 0 [(0, .ref l0), (1, .int l1), (2, .int l2)] [] (S, g) none (S, k)
  refine X.aload_n dX9_add_0 rfl (j := 0) rfl ?_
  obtain ⟨v1, h2, hf⟩ := ob hf
  refine Y.getI dX9_add_1 fl_X9_24 rfl h2 ?_
  refine X.sipush dX9_add_4 kS_160 ?_
  refine X.icmp_lt dX9_add_7 (tgt := 11) rfl (fun hc => ?_) (fun hc => ?_)
  · rw [if_pos hc] at hf
    refine X.aload_n dX9_add_11 rfl (j := 0) rfl ?_
    obtain ⟨v3, h4, hf⟩ := ob hf
    refine Y.getR dX9_add_12 fl_X9_9 rfl h4 ?_
    refine X.aload_n dX9_add_15 rfl (j := 0) rfl ?_
    obtain ⟨v5, h6, hf⟩ := ob hf
    refine Y.getI dX9_add_16 fl_X9_24 rfl h6 ?_
    refine X.iload_n dX9_add_19 rfl (j := 1) rfl ?_
    obtain ⟨g7, h8, hf⟩ := ob hf
    refine Y.iast dX9_add_20 h8 ?_
    refine X.aload_n dX9_add_21 rfl (j := 0) rfl ?_
    obtain ⟨v9, h10, hf⟩ := ob hf
    refine Y.getR dX9_add_22 fl_X9_15 rfl h10 ?_
    refine X.aload_n dX9_add_25 rfl (j := 0) rfl ?_
    obtain ⟨v11, h12, hf⟩ := ob hf
    refine Y.getI dX9_add_26 fl_X9_24 rfl h12 ?_
    refine X.iload_n dX9_add_29 rfl (j := 2) rfl ?_
    obtain ⟨g13, h14, hf⟩ := ob hf
    refine Y.iast dX9_add_30 h14 ?_
    refine X.aload_n dX9_add_31 rfl (j := 0) rfl ?_
    refine X.dup dX9_add_32 rfl ?_
    obtain ⟨v15, h16, hf⟩ := ob hf
    refine Y.getI dX9_add_33 fl_X9_24 rfl h16 ?_
    refine X.iconst dX9_add_36 kI_1 ?_
    refine X.iadd dX9_add_37 ?_
    obtain ⟨g17, h18, hf⟩ := ob hf
    refine Y.putI dX9_add_38 fl_X9_24 rfl rfl rfl rfl h18 ?_
    have e1 := Option.some.inj hf
    subst e1
    exact X.vret dX9_add_41 rfl
  · rw [if_neg hc] at hf
    have e1 := Option.some.inj hf
    subst e1
    exact X.vret dX9_add_10 rfl
/-! LeanedOut$Text.endPart(I)V -/
abbrev M_X9_endPart : e_M := (yX9_endPart, cX9_endPart, 2, none)
theorem mk_X9_endPart : e_Mok M_X9_endPart 1 := ⟨by decide +kernel, by decide +kernel, by decide +kernel⟩
theorem dX9_endPart_0 : decode cX9_endPart 0 = .ok (.iload_n 1, 1) := by decide +kernel
theorem dX9_endPart_1 : decode cX9_endPart 1 = .ok (.ifCond .lt 18, 3) := by decide +kernel
theorem dX9_endPart_4 : decode cX9_endPart 4 = .ok (.iload_n 1, 1) := by decide +kernel
theorem dX9_endPart_5 : decode cX9_endPart 5 = .ok (.iconst 3, 1) := by decide +kernel
theorem dX9_endPart_6 : decode cX9_endPart 6 = .ok (.if_icmp .ge 13, 3) := by decide +kernel
theorem dX9_endPart_9 : decode cX9_endPart 9 = .ok (.aload_n 0, 1) := by decide +kernel
theorem dX9_endPart_10 : decode cX9_endPart 10 = .ok (.getfield 21, 3) := by decide +kernel
theorem dX9_endPart_13 : decode cX9_endPart 13 = .ok (.iload_n 1, 1) := by decide +kernel
theorem dX9_endPart_14 : decode cX9_endPart 14 = .ok (.aload_n 0, 1) := by decide +kernel
theorem dX9_endPart_15 : decode cX9_endPart 15 = .ok (.getfield 24, 3) := by decide +kernel
theorem dX9_endPart_18 : decode cX9_endPart 18 = .ok (.iastore, 1) := by decide +kernel
theorem dX9_endPart_19 : decode cX9_endPart 19 = .ok (.return_, 1) := by decide +kernel
def f_X9_endPart (S : e_S) (l0 : Nat) (l1 : Int32) (g : e_G) : Option (e_G) :=
  if e_ob S 9 l0 = true then
    if l1 < 0 then
      some g
    else
      if (3 : Int32) ≤ l1 then
        some g
      else
        (e_gR S g 9 l0 3).bind fun v1 =>
        (e_gI S g 9 l0 4).bind fun v3 =>
        (e_aS S g 0 v1 l1 v3).bind fun g5 =>
        some g5
  else none
theorem o_X9_endPart  {S : e_S} {k : e_G} {l0 : Nat} {l1 : Int32} {g : e_G} (hf : f_X9_endPart S l0 l1 g = some k) : e_ob S 9 l0 = true := by
  unfold f_X9_endPart at hf
  by_cases hc : e_ob S 9 l0 = true
  · exact hc
  · rw [if_neg hc] at hf
    cases hf
theorem c_X9_endPart {l : Launch} {D : va_G}  {S : e_S} {k : e_G} {l0 : Nat} {l1 : Int32} {g : e_G} (hf : f_X9_endPart S l0 l1 g = some k) : CT l D (e_R 1) M_X9_endPart [.ref l0, .int l1] (S, g) none (S, k) := by
  refine CT.of (by decide +kernel) (Nat.le_of_ble_eq_true rfl) ?_
  have ho := o_X9_endPart hf
  unfold f_X9_endPart at hf
  rw [if_pos ho] at hf
  show X l D (e_R 1) M_X9_endPart 0 0 0 [(0, .ref l0), (1, .int l1)] [] (S, g) none (S, k)
  refine X.iload_n dX9_endPart_0 rfl (j := 1) rfl ?_
  refine X.if_lt dX9_endPart_1 (tgt := 19) rfl (fun hc => ?_) (fun hc => ?_)
  · rw [if_pos hc] at hf
    have e1 := Option.some.inj hf
    subst e1
    exact X.vret dX9_endPart_19 rfl
  · rw [if_neg hc] at hf
    refine X.iload_n dX9_endPart_4 rfl (j := 1) rfl ?_
    refine X.iconst dX9_endPart_5 kI_3 ?_
    refine X.icmp_ge dX9_endPart_6 (tgt := 19) rfl (fun hc => ?_) (fun hc => ?_)
    · rw [if_pos hc] at hf
      have e1 := Option.some.inj hf
      subst e1
      exact X.vret dX9_endPart_19 rfl
    · rw [if_neg hc] at hf
      refine X.aload_n dX9_endPart_9 rfl (j := 0) rfl ?_
      obtain ⟨v1, h2, hf⟩ := ob hf
      refine Y.getR dX9_endPart_10 fl_X9_21 rfl h2 ?_
      refine X.iload_n dX9_endPart_13 rfl (j := 1) rfl ?_
      refine X.aload_n dX9_endPart_14 rfl (j := 0) rfl ?_
      obtain ⟨v3, h4, hf⟩ := ob hf
      refine Y.getI dX9_endPart_15 fl_X9_24 rfl h4 ?_
      obtain ⟨g5, h6, hf⟩ := ob hf
      refine Y.iast dX9_endPart_18 h6 ?_
      have e1 := Option.some.inj hf
      subst e1
      exact X.vret dX9_endPart_19 rfl
/-! LeanedOut$Text.operand(II[I)I -/
abbrev M_X9_operand : e_M := (yX9_operand, cX9_operand, 3, (some .int))
theorem mk_X9_operand : e_Mok M_X9_operand 3 := ⟨by decide +kernel, by decide +kernel, by decide +kernel⟩
theorem dX9_operand_0 : decode cX9_operand 0 = .ok (.iload_n 0, 1) := by decide +kernel
theorem dX9_operand_1 : decode cX9_operand 1 = .ok (.ifCond .ne 5, 3) := by decide +kernel
theorem dX9_operand_4 : decode cX9_operand 4 = .ok (.iload_n 1, 1) := by decide +kernel
theorem dX9_operand_5 : decode cX9_operand 5 = .ok (.ireturn, 1) := by decide +kernel
theorem dX9_operand_6 : decode cX9_operand 6 = .ok (.iload_n 1, 1) := by decide +kernel
theorem dX9_operand_7 : decode cX9_operand 7 = .ok (.ifCond .lt 15, 3) := by decide +kernel
theorem dX9_operand_10 : decode cX9_operand 10 = .ok (.iload_n 1, 1) := by decide +kernel
theorem dX9_operand_11 : decode cX9_operand 11 = .ok (.aload_n 2, 1) := by decide +kernel
theorem dX9_operand_12 : decode cX9_operand 12 = .ok (.arraylength, 1) := by decide +kernel
theorem dX9_operand_13 : decode cX9_operand 13 = .ok (.if_icmp .ge 9, 3) := by decide +kernel
theorem dX9_operand_16 : decode cX9_operand 16 = .ok (.aload_n 2, 1) := by decide +kernel
theorem dX9_operand_17 : decode cX9_operand 17 = .ok (.iload_n 1, 1) := by decide +kernel
theorem dX9_operand_18 : decode cX9_operand 18 = .ok (.iaload, 1) := by decide +kernel
theorem dX9_operand_19 : decode cX9_operand 19 = .ok (.goto 4, 3) := by decide +kernel
theorem dX9_operand_22 : decode cX9_operand 22 = .ok (.iconst 0, 1) := by decide +kernel
theorem dX9_operand_23 : decode cX9_operand 23 = .ok (.ireturn, 1) := by decide +kernel
def f_X9_operand (S : e_S) (l0 : Int32) (l1 : Int32) (l2 : Nat) (g : e_G) : Option (Int32 × e_G) :=
  if l0 = 0 then
    some (l1, g)
  else
    if l1 < 0 then
      some ((0 : Int32), g)
    else
      (e_aL S 0 l2).bind fun v1 =>
      if v1 ≤ l1 then
        some ((0 : Int32), g)
      else
        (e_aI S g 0 l2 l1).bind fun v3 =>
        some (v3, g)
theorem c_X9_operand {l : Launch} {D : va_G}  {S : e_S} {w : Int32} {k : e_G} {l0 : Int32} {l1 : Int32} {l2 : Nat} {g : e_G} (hf : f_X9_operand S l0 l1 l2 g = some (w, k)) : CT l D (e_R 1) M_X9_operand [.int l0, .int l1, .ref l2] (S, g) (some (.int w)) (S, k) := by
  refine CT.of (by decide +kernel) (Nat.le_of_ble_eq_true rfl) ?_
  unfold f_X9_operand at hf
  show X l D (e_R 1) M_X9_operand 0 0 0 [(0, .int l0), (1, .int l1), (2, .ref l2)] [] (S, g) (some (.int w)) (S, k)
  refine X.iload_n dX9_operand_0 rfl (j := 0) rfl ?_
  refine X.if_ne dX9_operand_1 (tgt := 6) rfl (fun hc => ?_) (fun hc => ?_)
  · rw [if_neg hc] at hf
    refine X.iload_n dX9_operand_6 rfl (j := 1) rfl ?_
    refine X.if_lt dX9_operand_7 (tgt := 22) rfl (fun hc => ?_) (fun hc => ?_)
    · rw [if_pos hc] at hf
      refine X.iconst dX9_operand_22 kI_0 ?_
      obtain ⟨e1, e2⟩ := e_ret hf
      subst e1
      subst e2
      exact X.iret dX9_operand_23 rfl rfl
    · rw [if_neg hc] at hf
      refine X.iload_n dX9_operand_10 rfl (j := 1) rfl ?_
      refine X.aload_n dX9_operand_11 rfl (j := 2) rfl ?_
      obtain ⟨v1, h2, hf⟩ := ob hf
      refine Y.alen dX9_operand_12 (kd := 0) (by decide) h2 ?_
      refine X.icmp_ge dX9_operand_13 (tgt := 22) rfl (fun hc => ?_) (fun hc => ?_)
      · rw [if_pos hc] at hf
        refine X.iconst dX9_operand_22 kI_0 ?_
        obtain ⟨e1, e2⟩ := e_ret hf
        subst e1
        subst e2
        exact X.iret dX9_operand_23 rfl rfl
      · rw [if_neg hc] at hf
        refine X.aload_n dX9_operand_16 rfl (j := 2) rfl ?_
        refine X.iload_n dX9_operand_17 rfl (j := 1) rfl ?_
        obtain ⟨v3, h4, hf⟩ := ob hf
        refine Y.iald dX9_operand_18 h4 ?_
        refine X.goto dX9_operand_19 (tgt := 23) rfl ?_
        obtain ⟨e1, e2⟩ := e_ret hf
        subst e1
        subst e2
        exact X.iret dX9_operand_23 rfl rfl
  · rw [if_pos hc] at hf
    refine X.iload_n dX9_operand_4 rfl (j := 1) rfl ?_
    obtain ⟨e1, e2⟩ := e_ret hf
    subst e1
    subst e2
    exact X.iret dX9_operand_5 rfl rfl
/-! LeanedOut$Text.ofOne(II)I -/
abbrev M_X9_ofOne : e_M := (yX9_ofOne, cX9_ofOne, 2, (some .int))
theorem mk_X9_ofOne : e_Mok M_X9_ofOne 2 := ⟨by decide +kernel, by decide +kernel, by decide +kernel⟩
theorem dX9_ofOne_0 : decode cX9_ofOne 0 = .ok (.iload_n 0, 1) := by decide +kernel
theorem dX9_ofOne_1 : decode cX9_ofOne 1 = .ok (.iconst 2, 1) := by decide +kernel
theorem dX9_ofOne_2 : decode cX9_ofOne 2 = .ok (.if_icmp .ne 6, 3) := by decide +kernel
theorem dX9_ofOne_5 : decode cX9_ofOne 5 = .ok (.iload_n 1, 1) := by decide +kernel
theorem dX9_ofOne_6 : decode cX9_ofOne 6 = .ok (.ineg, 1) := by decide +kernel
theorem dX9_ofOne_7 : decode cX9_ofOne 7 = .ok (.ireturn, 1) := by decide +kernel
theorem dX9_ofOne_8 : decode cX9_ofOne 8 = .ok (.iload_n 1, 1) := by decide +kernel
theorem dX9_ofOne_9 : decode cX9_ofOne 9 = .ok (.ifCond .ne 7, 3) := by decide +kernel
theorem dX9_ofOne_12 : decode cX9_ofOne 12 = .ok (.iconst 1, 1) := by decide +kernel
theorem dX9_ofOne_13 : decode cX9_ofOne 13 = .ok (.goto 4, 3) := by decide +kernel
theorem dX9_ofOne_16 : decode cX9_ofOne 16 = .ok (.iconst 0, 1) := by decide +kernel
theorem dX9_ofOne_17 : decode cX9_ofOne 17 = .ok (.ireturn, 1) := by decide +kernel
def f_X9_ofOne (S : e_S) (l0 : Int32) (l1 : Int32) (g : e_G) : Option (Int32 × e_G) :=
  if l0 = (2 : Int32) then
    some (-l1, g)
  else
    if l1 = 0 then
      some ((1 : Int32), g)
    else
      some ((0 : Int32), g)
theorem c_X9_ofOne {l : Launch} {D : va_G}  {S : e_S} {w : Int32} {k : e_G} {l0 : Int32} {l1 : Int32} {g : e_G} (hf : f_X9_ofOne S l0 l1 g = some (w, k)) : CT l D (e_R 1) M_X9_ofOne [.int l0, .int l1] (S, g) (some (.int w)) (S, k) := by
  refine CT.of (by decide +kernel) (Nat.le_of_ble_eq_true rfl) ?_
  unfold f_X9_ofOne at hf
  show X l D (e_R 1) M_X9_ofOne 0 0 0 [(0, .int l0), (1, .int l1)] [] (S, g) (some (.int w)) (S, k)
  refine X.iload_n dX9_ofOne_0 rfl (j := 0) rfl ?_
  refine X.iconst dX9_ofOne_1 kI_2 ?_
  refine X.icmp_ne dX9_ofOne_2 (tgt := 8) rfl (fun hc => ?_) (fun hc => ?_)
  · rw [if_neg hc] at hf
    refine X.iload_n dX9_ofOne_8 rfl (j := 1) rfl ?_
    refine X.if_ne dX9_ofOne_9 (tgt := 16) rfl (fun hc => ?_) (fun hc => ?_)
    · rw [if_neg hc] at hf
      refine X.iconst dX9_ofOne_16 kI_0 ?_
      obtain ⟨e1, e2⟩ := e_ret hf
      subst e1
      subst e2
      exact X.iret dX9_ofOne_17 rfl rfl
    · rw [if_pos hc] at hf
      refine X.iconst dX9_ofOne_12 kI_1 ?_
      refine X.goto dX9_ofOne_13 (tgt := 17) rfl ?_
      obtain ⟨e1, e2⟩ := e_ret hf
      subst e1
      subst e2
      exact X.iret dX9_ofOne_17 rfl rfl
  · rw [if_pos hc] at hf
    refine X.iload_n dX9_ofOne_5 rfl (j := 1) rfl ?_
    refine X.ineg dX9_ofOne_6 ?_
    obtain ⟨e1, e2⟩ := e_ret hf
    subst e1
    subst e2
    exact X.iret dX9_ofOne_7 rfl rfl
/-! LeanedOut$Text.ofTwo(III)I -/
abbrev M_X9_ofTwo : e_M := (yX9_ofTwo, cX9_ofTwo, 3, (some .int))
theorem mk_X9_ofTwo : e_Mok M_X9_ofTwo 3 := ⟨by decide +kernel, by decide +kernel, by decide +kernel⟩
theorem dX9_ofTwo_0 : decode cX9_ofTwo 0 = .ok (.iload_n 0, 1) := by decide +kernel
theorem dX9_ofTwo_1 : decode cX9_ofTwo 1 = .ok (.tableswitch 105 4 10 #[43, 47, 51, 55, 66, 77, 91], 43) := by decide +kernel
theorem dX9_ofTwo_44 : decode cX9_ofTwo 44 = .ok (.iload_n 1, 1) := by decide +kernel
theorem dX9_ofTwo_45 : decode cX9_ofTwo 45 = .ok (.iload_n 2, 1) := by decide +kernel
theorem dX9_ofTwo_46 : decode cX9_ofTwo 46 = .ok (.imul, 1) := by decide +kernel
theorem dX9_ofTwo_47 : decode cX9_ofTwo 47 = .ok (.ireturn, 1) := by decide +kernel
theorem dX9_ofTwo_48 : decode cX9_ofTwo 48 = .ok (.iload_n 1, 1) := by decide +kernel
theorem dX9_ofTwo_49 : decode cX9_ofTwo 49 = .ok (.iload_n 2, 1) := by decide +kernel
theorem dX9_ofTwo_50 : decode cX9_ofTwo 50 = .ok (.iadd, 1) := by decide +kernel
theorem dX9_ofTwo_51 : decode cX9_ofTwo 51 = .ok (.ireturn, 1) := by decide +kernel
theorem dX9_ofTwo_52 : decode cX9_ofTwo 52 = .ok (.iload_n 1, 1) := by decide +kernel
theorem dX9_ofTwo_53 : decode cX9_ofTwo 53 = .ok (.iload_n 2, 1) := by decide +kernel
theorem dX9_ofTwo_54 : decode cX9_ofTwo 54 = .ok (.isub, 1) := by decide +kernel
theorem dX9_ofTwo_55 : decode cX9_ofTwo 55 = .ok (.ireturn, 1) := by decide +kernel
theorem dX9_ofTwo_56 : decode cX9_ofTwo 56 = .ok (.iload_n 1, 1) := by decide +kernel
theorem dX9_ofTwo_57 : decode cX9_ofTwo 57 = .ok (.iload_n 2, 1) := by decide +kernel
theorem dX9_ofTwo_58 : decode cX9_ofTwo 58 = .ok (.if_icmp .ge 7, 3) := by decide +kernel
theorem dX9_ofTwo_61 : decode cX9_ofTwo 61 = .ok (.iconst 1, 1) := by decide +kernel
theorem dX9_ofTwo_62 : decode cX9_ofTwo 62 = .ok (.goto 4, 3) := by decide +kernel
theorem dX9_ofTwo_65 : decode cX9_ofTwo 65 = .ok (.iconst 0, 1) := by decide +kernel
theorem dX9_ofTwo_66 : decode cX9_ofTwo 66 = .ok (.ireturn, 1) := by decide +kernel
theorem dX9_ofTwo_67 : decode cX9_ofTwo 67 = .ok (.iload_n 1, 1) := by decide +kernel
theorem dX9_ofTwo_68 : decode cX9_ofTwo 68 = .ok (.iload_n 2, 1) := by decide +kernel
theorem dX9_ofTwo_69 : decode cX9_ofTwo 69 = .ok (.if_icmp .ne 7, 3) := by decide +kernel
theorem dX9_ofTwo_72 : decode cX9_ofTwo 72 = .ok (.iconst 1, 1) := by decide +kernel
theorem dX9_ofTwo_73 : decode cX9_ofTwo 73 = .ok (.goto 4, 3) := by decide +kernel
theorem dX9_ofTwo_76 : decode cX9_ofTwo 76 = .ok (.iconst 0, 1) := by decide +kernel
theorem dX9_ofTwo_77 : decode cX9_ofTwo 77 = .ok (.ireturn, 1) := by decide +kernel
theorem dX9_ofTwo_78 : decode cX9_ofTwo 78 = .ok (.iload_n 1, 1) := by decide +kernel
theorem dX9_ofTwo_79 : decode cX9_ofTwo 79 = .ok (.ifCond .eq 11, 3) := by decide +kernel
theorem dX9_ofTwo_82 : decode cX9_ofTwo 82 = .ok (.iload_n 2, 1) := by decide +kernel
theorem dX9_ofTwo_83 : decode cX9_ofTwo 83 = .ok (.ifCond .eq 7, 3) := by decide +kernel
theorem dX9_ofTwo_86 : decode cX9_ofTwo 86 = .ok (.iconst 1, 1) := by decide +kernel
theorem dX9_ofTwo_87 : decode cX9_ofTwo 87 = .ok (.goto 4, 3) := by decide +kernel
theorem dX9_ofTwo_90 : decode cX9_ofTwo 90 = .ok (.iconst 0, 1) := by decide +kernel
theorem dX9_ofTwo_91 : decode cX9_ofTwo 91 = .ok (.ireturn, 1) := by decide +kernel
theorem dX9_ofTwo_92 : decode cX9_ofTwo 92 = .ok (.iload_n 1, 1) := by decide +kernel
theorem dX9_ofTwo_93 : decode cX9_ofTwo 93 = .ok (.ifCond .ne 7, 3) := by decide +kernel
theorem dX9_ofTwo_96 : decode cX9_ofTwo 96 = .ok (.iload_n 2, 1) := by decide +kernel
theorem dX9_ofTwo_97 : decode cX9_ofTwo 97 = .ok (.ifCond .eq 7, 3) := by decide +kernel
theorem dX9_ofTwo_100 : decode cX9_ofTwo 100 = .ok (.iconst 1, 1) := by decide +kernel
theorem dX9_ofTwo_101 : decode cX9_ofTwo 101 = .ok (.goto 4, 3) := by decide +kernel
theorem dX9_ofTwo_104 : decode cX9_ofTwo 104 = .ok (.iconst 0, 1) := by decide +kernel
theorem dX9_ofTwo_105 : decode cX9_ofTwo 105 = .ok (.ireturn, 1) := by decide +kernel
theorem dX9_ofTwo_106 : decode cX9_ofTwo 106 = .ok (.iconst 0, 1) := by decide +kernel
theorem dX9_ofTwo_107 : decode cX9_ofTwo 107 = .ok (.ireturn, 1) := by decide +kernel
def J_X9_ofTwo_100 (S : e_S) (g : e_G) : Option (Int32 × e_G) :=
  some ((1 : Int32), g)
def f_X9_ofTwo (S : e_S) (l0 : Int32) (l1 : Int32) (l2 : Int32) (g : e_G) : Option (Int32 × e_G) :=
  if l0 = 4 then
    some (l1 * l2, g)
  else
  if l0 = 5 then
    some (l1 + l2, g)
  else
  if l0 = 6 then
    some (l1 - l2, g)
  else
  if l0 = 7 then
    if l2 ≤ l1 then
      some ((0 : Int32), g)
    else
      some ((1 : Int32), g)
  else
  if l0 = 8 then
    if l1 = l2 then
      some ((1 : Int32), g)
    else
      some ((0 : Int32), g)
  else
  if l0 = 9 then
    if l1 = 0 then
      some ((0 : Int32), g)
    else
      if l2 = 0 then
        some ((0 : Int32), g)
      else
        some ((1 : Int32), g)
  else
  if l0 = 10 then
    if l1 = 0 then
      if l2 = 0 then
        some ((0 : Int32), g)
      else
        J_X9_ofTwo_100 S g
    else
      J_X9_ofTwo_100 S g
  else
  some ((0 : Int32), g)
theorem x_J_X9_ofTwo_100 {l : Launch} {D : va_G} {S : e_S} {w : Int32} {k : e_G} {g : e_G} (hf : J_X9_ofTwo_100 S g = some (w, k)) : X l D (e_R 1) M_X9_ofTwo 0 0 100 [] [] (S, g) (some (.int w)) (S, k) := by
  unfold J_X9_ofTwo_100 at hf
  refine X.iconst dX9_ofTwo_100 kI_1 ?_
  refine X.goto dX9_ofTwo_101 (tgt := 105) rfl ?_
  obtain ⟨e1, e2⟩ := e_ret hf
  subst e1
  subst e2
  exact X.iret dX9_ofTwo_105 rfl rfl
theorem c_X9_ofTwo {l : Launch} {D : va_G}  {S : e_S} {w : Int32} {k : e_G} {l0 : Int32} {l1 : Int32} {l2 : Int32} {g : e_G} (hf : f_X9_ofTwo S l0 l1 l2 g = some (w, k)) : CT l D (e_R 1) M_X9_ofTwo [.int l0, .int l1, .int l2] (S, g) (some (.int w)) (S, k) := by
  refine CT.of (by decide +kernel) (Nat.le_of_ble_eq_true rfl) ?_
  unfold f_X9_ofTwo at hf
  show X l D (e_R 1) M_X9_ofTwo 0 0 0 [(0, .int l0), (1, .int l1), (2, .int l2)] [] (S, g) (some (.int w)) (S, k)
  refine X.iload_n dX9_ofTwo_0 rfl (j := 0) rfl ?_
  by_cases h1 : l0 = (4 : Int32)
  · rw [if_pos h1] at hf
    refine X.tableIn dX9_ofTwo_1 (by rw [h1]; decide) (by rw [h1]; decide) (off := 43) (tgt := 44) (by rw [h1]; rfl) rfl ?_
    refine X.iload_n dX9_ofTwo_44 rfl (j := 1) rfl ?_
    refine X.iload_n dX9_ofTwo_45 rfl (j := 2) rfl ?_
    refine X.imul dX9_ofTwo_46 ?_
    obtain ⟨e1, e2⟩ := e_ret hf
    subst e1
    subst e2
    exact X.iret dX9_ofTwo_47 rfl rfl
  rw [if_neg h1] at hf
  by_cases h2 : l0 = (5 : Int32)
  · rw [if_pos h2] at hf
    refine X.tableIn dX9_ofTwo_1 (by rw [h2]; decide) (by rw [h2]; decide) (off := 47) (tgt := 48) (by rw [h2]; rfl) rfl ?_
    refine X.iload_n dX9_ofTwo_48 rfl (j := 1) rfl ?_
    refine X.iload_n dX9_ofTwo_49 rfl (j := 2) rfl ?_
    refine X.iadd dX9_ofTwo_50 ?_
    obtain ⟨e1, e2⟩ := e_ret hf
    subst e1
    subst e2
    exact X.iret dX9_ofTwo_51 rfl rfl
  rw [if_neg h2] at hf
  by_cases h3 : l0 = (6 : Int32)
  · rw [if_pos h3] at hf
    refine X.tableIn dX9_ofTwo_1 (by rw [h3]; decide) (by rw [h3]; decide) (off := 51) (tgt := 52) (by rw [h3]; rfl) rfl ?_
    refine X.iload_n dX9_ofTwo_52 rfl (j := 1) rfl ?_
    refine X.iload_n dX9_ofTwo_53 rfl (j := 2) rfl ?_
    refine X.isub dX9_ofTwo_54 ?_
    obtain ⟨e1, e2⟩ := e_ret hf
    subst e1
    subst e2
    exact X.iret dX9_ofTwo_55 rfl rfl
  rw [if_neg h3] at hf
  by_cases h4 : l0 = (7 : Int32)
  · rw [if_pos h4] at hf
    refine X.tableIn dX9_ofTwo_1 (by rw [h4]; decide) (by rw [h4]; decide) (off := 55) (tgt := 56) (by rw [h4]; rfl) rfl ?_
    refine X.iload_n dX9_ofTwo_56 rfl (j := 1) rfl ?_
    refine X.iload_n dX9_ofTwo_57 rfl (j := 2) rfl ?_
    refine X.icmp_ge dX9_ofTwo_58 (tgt := 65) rfl (fun hc => ?_) (fun hc => ?_)
    · rw [if_pos hc] at hf
      refine X.iconst dX9_ofTwo_65 kI_0 ?_
      obtain ⟨e1, e2⟩ := e_ret hf
      subst e1
      subst e2
      exact X.iret dX9_ofTwo_66 rfl rfl
    · rw [if_neg hc] at hf
      refine X.iconst dX9_ofTwo_61 kI_1 ?_
      refine X.goto dX9_ofTwo_62 (tgt := 66) rfl ?_
      obtain ⟨e1, e2⟩ := e_ret hf
      subst e1
      subst e2
      exact X.iret dX9_ofTwo_66 rfl rfl
  rw [if_neg h4] at hf
  by_cases h5 : l0 = (8 : Int32)
  · rw [if_pos h5] at hf
    refine X.tableIn dX9_ofTwo_1 (by rw [h5]; decide) (by rw [h5]; decide) (off := 66) (tgt := 67) (by rw [h5]; rfl) rfl ?_
    refine X.iload_n dX9_ofTwo_67 rfl (j := 1) rfl ?_
    refine X.iload_n dX9_ofTwo_68 rfl (j := 2) rfl ?_
    refine X.icmp_ne dX9_ofTwo_69 (tgt := 76) rfl (fun hc => ?_) (fun hc => ?_)
    · rw [if_neg hc] at hf
      refine X.iconst dX9_ofTwo_76 kI_0 ?_
      obtain ⟨e1, e2⟩ := e_ret hf
      subst e1
      subst e2
      exact X.iret dX9_ofTwo_77 rfl rfl
    · rw [if_pos hc] at hf
      refine X.iconst dX9_ofTwo_72 kI_1 ?_
      refine X.goto dX9_ofTwo_73 (tgt := 77) rfl ?_
      obtain ⟨e1, e2⟩ := e_ret hf
      subst e1
      subst e2
      exact X.iret dX9_ofTwo_77 rfl rfl
  rw [if_neg h5] at hf
  by_cases h6 : l0 = (9 : Int32)
  · rw [if_pos h6] at hf
    refine X.tableIn dX9_ofTwo_1 (by rw [h6]; decide) (by rw [h6]; decide) (off := 77) (tgt := 78) (by rw [h6]; rfl) rfl ?_
    refine X.iload_n dX9_ofTwo_78 rfl (j := 1) rfl ?_
    refine X.if_eq dX9_ofTwo_79 (tgt := 90) rfl (fun hc => ?_) (fun hc => ?_)
    · rw [if_pos hc] at hf
      refine X.iconst dX9_ofTwo_90 kI_0 ?_
      obtain ⟨e1, e2⟩ := e_ret hf
      subst e1
      subst e2
      exact X.iret dX9_ofTwo_91 rfl rfl
    · rw [if_neg hc] at hf
      refine X.iload_n dX9_ofTwo_82 rfl (j := 2) rfl ?_
      refine X.if_eq dX9_ofTwo_83 (tgt := 90) rfl (fun hc => ?_) (fun hc => ?_)
      · rw [if_pos hc] at hf
        refine X.iconst dX9_ofTwo_90 kI_0 ?_
        obtain ⟨e1, e2⟩ := e_ret hf
        subst e1
        subst e2
        exact X.iret dX9_ofTwo_91 rfl rfl
      · rw [if_neg hc] at hf
        refine X.iconst dX9_ofTwo_86 kI_1 ?_
        refine X.goto dX9_ofTwo_87 (tgt := 91) rfl ?_
        obtain ⟨e1, e2⟩ := e_ret hf
        subst e1
        subst e2
        exact X.iret dX9_ofTwo_91 rfl rfl
  rw [if_neg h6] at hf
  by_cases h7 : l0 = (10 : Int32)
  · rw [if_pos h7] at hf
    refine X.tableIn dX9_ofTwo_1 (by rw [h7]; decide) (by rw [h7]; decide) (off := 91) (tgt := 92) (by rw [h7]; rfl) rfl ?_
    refine X.iload_n dX9_ofTwo_92 rfl (j := 1) rfl ?_
    refine X.if_ne dX9_ofTwo_93 (tgt := 100) rfl (fun hc => ?_) (fun hc => ?_)
    · rw [if_neg hc] at hf
      refine X.sub [] rfl ?_
      exact x_J_X9_ofTwo_100 hf
    · rw [if_pos hc] at hf
      refine X.iload_n dX9_ofTwo_96 rfl (j := 2) rfl ?_
      refine X.if_eq dX9_ofTwo_97 (tgt := 104) rfl (fun hc => ?_) (fun hc => ?_)
      · rw [if_pos hc] at hf
        refine X.iconst dX9_ofTwo_104 kI_0 ?_
        obtain ⟨e1, e2⟩ := e_ret hf
        subst e1
        subst e2
        exact X.iret dX9_ofTwo_105 rfl rfl
      · rw [if_neg hc] at hf
        refine X.sub [] rfl ?_
        exact x_J_X9_ofTwo_100 hf
  rw [if_neg h7] at hf
  refine X.tableOut dX9_ofTwo_1 (tgt := 106) (by have qh1 := e_ne (z := 4) (by decide) h1; have qh2 := e_ne (z := 5) (by decide) h2; have qh3 := e_ne (z := 6) (by decide) h3; have qh4 := e_ne (z := 7) (by decide) h4; have qh5 := e_ne (z := 8) (by decide) h5; have qh6 := e_ne (z := 9) (by decide) h6; have qh7 := e_ne (z := 10) (by decide) h7; omega) rfl ?_
  refine X.iconst dX9_ofTwo_106 kI_0 ?_
  obtain ⟨e1, e2⟩ := e_ret hf
  subst e1
  subst e2
  exact X.iret dX9_ofTwo_107 rfl rfl
/-! LeanedOut$Text.value(I[I)I -/
abbrev M_X9_value : e_M := (yX9_value, cX9_value, 6, (some .int))
theorem mk_X9_value : e_Mok M_X9_value 2 := ⟨by decide +kernel, by decide +kernel, by decide +kernel⟩
theorem dX9_value_0 : decode cX9_value 0 = .ok (.iload_n 1, 1) := by decide +kernel
theorem dX9_value_1 : decode cX9_value 1 = .ok (.ifCond .lt 8, 3) := by decide +kernel
theorem dX9_value_4 : decode cX9_value 4 = .ok (.iload_n 1, 1) := by decide +kernel
theorem dX9_value_5 : decode cX9_value 5 = .ok (.iconst 3, 1) := by decide +kernel
theorem dX9_value_6 : decode cX9_value 6 = .ok (.if_icmp .lt 5, 3) := by decide +kernel
theorem dX9_value_9 : decode cX9_value 9 = .ok (.iconst 0, 1) := by decide +kernel
theorem dX9_value_10 : decode cX9_value 10 = .ok (.ireturn, 1) := by decide +kernel
theorem dX9_value_11 : decode cX9_value 11 = .ok (.iconst 0, 1) := by decide +kernel
theorem dX9_value_12 : decode cX9_value 12 = .ok (.istore_n 3, 1) := by decide +kernel
theorem dX9_value_13 : decode cX9_value 13 = .ok (.iload_n 1, 1) := by decide +kernel
theorem dX9_value_14 : decode cX9_value 14 = .ok (.ifCond .ne 7, 3) := by decide +kernel
theorem dX9_value_17 : decode cX9_value 17 = .ok (.iconst 0, 1) := by decide +kernel
theorem dX9_value_18 : decode cX9_value 18 = .ok (.goto 11, 3) := by decide +kernel
theorem dX9_value_21 : decode cX9_value 21 = .ok (.aload_n 0, 1) := by decide +kernel
theorem dX9_value_22 : decode cX9_value 22 = .ok (.getfield 21, 3) := by decide +kernel
theorem dX9_value_25 : decode cX9_value 25 = .ok (.iload_n 1, 1) := by decide +kernel
theorem dX9_value_26 : decode cX9_value 26 = .ok (.iconst 1, 1) := by decide +kernel
theorem dX9_value_27 : decode cX9_value 27 = .ok (.isub, 1) := by decide +kernel
theorem dX9_value_28 : decode cX9_value 28 = .ok (.iaload, 1) := by decide +kernel
theorem dX9_value_29 : decode cX9_value 29 = .ok (.istore 4, 2) := by decide +kernel
theorem dX9_value_31 : decode cX9_value 31 = .ok (.iload 4, 2) := by decide +kernel
theorem dX9_value_33 : decode cX9_value 33 = .ok (.aload_n 0, 1) := by decide +kernel
theorem dX9_value_34 : decode cX9_value 34 = .ok (.getfield 21, 3) := by decide +kernel
theorem dX9_value_37 : decode cX9_value 37 = .ok (.iload_n 1, 1) := by decide +kernel
theorem dX9_value_38 : decode cX9_value 38 = .ok (.iaload, 1) := by decide +kernel
theorem dX9_value_39 : decode cX9_value 39 = .ok (.if_icmp .ge 132, 3) := by decide +kernel
theorem dX9_value_42 : decode cX9_value 42 = .ok (.aload_n 0, 1) := by decide +kernel
theorem dX9_value_43 : decode cX9_value 43 = .ok (.getfield 9, 3) := by decide +kernel
theorem dX9_value_46 : decode cX9_value 46 = .ok (.iload 4, 2) := by decide +kernel
theorem dX9_value_48 : decode cX9_value 48 = .ok (.iaload, 1) := by decide +kernel
theorem dX9_value_49 : decode cX9_value 49 = .ok (.istore 5, 2) := by decide +kernel
theorem dX9_value_51 : decode cX9_value 51 = .ok (.iload 5, 2) := by decide +kernel
theorem dX9_value_53 : decode cX9_value 53 = .ok (.iconst 1, 1) := by decide +kernel
theorem dX9_value_54 : decode cX9_value 54 = .ok (.if_icmp .gt 37, 3) := by decide +kernel
theorem dX9_value_57 : decode cX9_value 57 = .ok (.iload_n 3, 1) := by decide +kernel
theorem dX9_value_58 : decode cX9_value 58 = .ok (.sipush 160, 3) := by decide +kernel
theorem dX9_value_61 : decode cX9_value 61 = .ok (.if_icmp .lt 5, 3) := by decide +kernel
theorem dX9_value_64 : decode cX9_value 64 = .ok (.iconst 0, 1) := by decide +kernel
theorem dX9_value_65 : decode cX9_value 65 = .ok (.ireturn, 1) := by decide +kernel
theorem dX9_value_66 : decode cX9_value 66 = .ok (.aload_n 0, 1) := by decide +kernel
theorem dX9_value_67 : decode cX9_value 67 = .ok (.getfield 18, 3) := by decide +kernel
theorem dX9_value_70 : decode cX9_value 70 = .ok (.iload_n 3, 1) := by decide +kernel
theorem dX9_value_71 : decode cX9_value 71 = .ok (.iload 5, 2) := by decide +kernel
theorem dX9_value_73 : decode cX9_value 73 = .ok (.aload_n 0, 1) := by decide +kernel
theorem dX9_value_74 : decode cX9_value 74 = .ok (.getfield 15, 3) := by decide +kernel
theorem dX9_value_77 : decode cX9_value 77 = .ok (.iload 4, 2) := by decide +kernel
theorem dX9_value_79 : decode cX9_value 79 = .ok (.iaload, 1) := by decide +kernel
theorem dX9_value_80 : decode cX9_value 80 = .ok (.aload_n 2, 1) := by decide +kernel
theorem dX9_value_81 : decode cX9_value 81 = .ok (.invokestatic 28, 3) := by decide +kernel
theorem dX9_value_84 : decode cX9_value 84 = .ok (.iastore, 1) := by decide +kernel
theorem dX9_value_85 : decode cX9_value 85 = .ok (.iinc 3 1, 3) := by decide +kernel
theorem dX9_value_88 : decode cX9_value 88 = .ok (.goto 77, 3) := by decide +kernel
theorem dX9_value_91 : decode cX9_value 91 = .ok (.iload 5, 2) := by decide +kernel
theorem dX9_value_93 : decode cX9_value 93 = .ok (.iconst 3, 1) := by decide +kernel
theorem dX9_value_94 : decode cX9_value 94 = .ok (.if_icmp .gt 34, 3) := by decide +kernel
theorem dX9_value_97 : decode cX9_value 97 = .ok (.iload_n 3, 1) := by decide +kernel
theorem dX9_value_98 : decode cX9_value 98 = .ok (.iconst 1, 1) := by decide +kernel
theorem dX9_value_99 : decode cX9_value 99 = .ok (.if_icmp .ge 5, 3) := by decide +kernel
theorem dX9_value_102 : decode cX9_value 102 = .ok (.iconst 0, 1) := by decide +kernel
theorem dX9_value_103 : decode cX9_value 103 = .ok (.ireturn, 1) := by decide +kernel
theorem dX9_value_104 : decode cX9_value 104 = .ok (.aload_n 0, 1) := by decide +kernel
theorem dX9_value_105 : decode cX9_value 105 = .ok (.getfield 18, 3) := by decide +kernel
theorem dX9_value_108 : decode cX9_value 108 = .ok (.iload_n 3, 1) := by decide +kernel
theorem dX9_value_109 : decode cX9_value 109 = .ok (.iconst 1, 1) := by decide +kernel
theorem dX9_value_110 : decode cX9_value 110 = .ok (.isub, 1) := by decide +kernel
theorem dX9_value_111 : decode cX9_value 111 = .ok (.iload 5, 2) := by decide +kernel
theorem dX9_value_113 : decode cX9_value 113 = .ok (.aload_n 0, 1) := by decide +kernel
theorem dX9_value_114 : decode cX9_value 114 = .ok (.getfield 18, 3) := by decide +kernel
theorem dX9_value_117 : decode cX9_value 117 = .ok (.iload_n 3, 1) := by decide +kernel
theorem dX9_value_118 : decode cX9_value 118 = .ok (.iconst 1, 1) := by decide +kernel
theorem dX9_value_119 : decode cX9_value 119 = .ok (.isub, 1) := by decide +kernel
theorem dX9_value_120 : decode cX9_value 120 = .ok (.iaload, 1) := by decide +kernel
theorem dX9_value_121 : decode cX9_value 121 = .ok (.invokestatic 32, 3) := by decide +kernel
theorem dX9_value_124 : decode cX9_value 124 = .ok (.iastore, 1) := by decide +kernel
theorem dX9_value_125 : decode cX9_value 125 = .ok (.goto 40, 3) := by decide +kernel
theorem dX9_value_128 : decode cX9_value 128 = .ok (.iload_n 3, 1) := by decide +kernel
theorem dX9_value_129 : decode cX9_value 129 = .ok (.iconst 2, 1) := by decide +kernel
theorem dX9_value_130 : decode cX9_value 130 = .ok (.if_icmp .ge 5, 3) := by decide +kernel
theorem dX9_value_133 : decode cX9_value 133 = .ok (.iconst 0, 1) := by decide +kernel
theorem dX9_value_134 : decode cX9_value 134 = .ok (.ireturn, 1) := by decide +kernel
theorem dX9_value_135 : decode cX9_value 135 = .ok (.iinc 3 (-1), 3) := by decide +kernel
theorem dX9_value_138 : decode cX9_value 138 = .ok (.aload_n 0, 1) := by decide +kernel
theorem dX9_value_139 : decode cX9_value 139 = .ok (.getfield 18, 3) := by decide +kernel
theorem dX9_value_142 : decode cX9_value 142 = .ok (.iload_n 3, 1) := by decide +kernel
theorem dX9_value_143 : decode cX9_value 143 = .ok (.iconst 1, 1) := by decide +kernel
theorem dX9_value_144 : decode cX9_value 144 = .ok (.isub, 1) := by decide +kernel
theorem dX9_value_145 : decode cX9_value 145 = .ok (.iload 5, 2) := by decide +kernel
theorem dX9_value_147 : decode cX9_value 147 = .ok (.aload_n 0, 1) := by decide +kernel
theorem dX9_value_148 : decode cX9_value 148 = .ok (.getfield 18, 3) := by decide +kernel
theorem dX9_value_151 : decode cX9_value 151 = .ok (.iload_n 3, 1) := by decide +kernel
theorem dX9_value_152 : decode cX9_value 152 = .ok (.iconst 1, 1) := by decide +kernel
theorem dX9_value_153 : decode cX9_value 153 = .ok (.isub, 1) := by decide +kernel
theorem dX9_value_154 : decode cX9_value 154 = .ok (.iaload, 1) := by decide +kernel
theorem dX9_value_155 : decode cX9_value 155 = .ok (.aload_n 0, 1) := by decide +kernel
theorem dX9_value_156 : decode cX9_value 156 = .ok (.getfield 18, 3) := by decide +kernel
theorem dX9_value_159 : decode cX9_value 159 = .ok (.iload_n 3, 1) := by decide +kernel
theorem dX9_value_160 : decode cX9_value 160 = .ok (.iaload, 1) := by decide +kernel
theorem dX9_value_161 : decode cX9_value 161 = .ok (.invokestatic 36, 3) := by decide +kernel
theorem dX9_value_164 : decode cX9_value 164 = .ok (.iastore, 1) := by decide +kernel
theorem dX9_value_165 : decode cX9_value 165 = .ok (.iinc 4 1, 3) := by decide +kernel
theorem dX9_value_168 : decode cX9_value 168 = .ok (.goto (-137), 3) := by decide +kernel
theorem dX9_value_171 : decode cX9_value 171 = .ok (.iload_n 3, 1) := by decide +kernel
theorem dX9_value_172 : decode cX9_value 172 = .ok (.ifCond .le 14, 3) := by decide +kernel
theorem dX9_value_175 : decode cX9_value 175 = .ok (.aload_n 0, 1) := by decide +kernel
theorem dX9_value_176 : decode cX9_value 176 = .ok (.getfield 18, 3) := by decide +kernel
theorem dX9_value_179 : decode cX9_value 179 = .ok (.iload_n 3, 1) := by decide +kernel
theorem dX9_value_180 : decode cX9_value 180 = .ok (.iconst 1, 1) := by decide +kernel
theorem dX9_value_181 : decode cX9_value 181 = .ok (.isub, 1) := by decide +kernel
theorem dX9_value_182 : decode cX9_value 182 = .ok (.iaload, 1) := by decide +kernel
theorem dX9_value_183 : decode cX9_value 183 = .ok (.goto 4, 3) := by decide +kernel
theorem dX9_value_186 : decode cX9_value 186 = .ok (.iconst 0, 1) := by decide +kernel
theorem dX9_value_187 : decode cX9_value 187 = .ok (.ireturn, 1) := by decide +kernel
def J_X9_value_165 (c31 : Nat → Int32 → Nat → Int32 → Int32 → e_G → Option (Int32 × e_G)) (S : e_S) (l0 : Nat) (l1 : Int32) (l2 : Nat) (l3 : Int32) (l4 : Int32) (g : e_G) : Option (Int32 × e_G) :=
  c31 l0 l1 l2 l3 (l4 + (1 : Int32)) g
def L_X9_value_31 : Nat → e_S → Nat → Int32 → Nat → Int32 → Int32 → e_G → Option (Int32 × e_G)
  | 0, _, _, _, _, _, _, _ => none
  | n + 1, S, l0, l1, l2, l3, l4, g =>
  (e_gR S g 9 l0 3).bind fun v1 =>
  (e_aI S g 0 v1 l1).bind fun v3 =>
  if v3 ≤ l4 then
    if l3 ≤ 0 then
      some ((0 : Int32), g)
    else
      (e_gR S g 9 l0 2).bind fun v5 =>
      (e_aI S g 0 v5 (l3 - (1 : Int32))).bind fun v7 =>
      some (v7, g)
  else
    (e_gR S g 9 l0 0).bind fun v9 =>
    (e_aI S g 0 v9 l4).bind fun v11 =>
    if (1 : Int32) < v11 then
      if (3 : Int32) < v11 then
        if (2 : Int32) ≤ l3 then
          (e_gR S g 9 l0 2).bind fun v13 =>
          (e_gR S g 9 l0 2).bind fun v15 =>
          (e_aI S g 0 v15 ((l3 + (-1 : Int32)) - (1 : Int32))).bind fun v17 =>
          (e_gR S g 9 l0 2).bind fun v19 =>
          (e_aI S g 0 v19 (l3 + (-1 : Int32))).bind fun v21 =>
          (f_X9_ofTwo S v11 v17 v21 g).bind fun q24 =>
          (e_aS S q24.2 0 v13 ((l3 + (-1 : Int32)) - (1 : Int32)) q24.1).bind fun g25 =>
          J_X9_value_165 (L_X9_value_31 n S) S l0 l1 l2 (l3 + (-1 : Int32)) l4 g25
        else
          some ((0 : Int32), g)
      else
        if (1 : Int32) ≤ l3 then
          (e_gR S g 9 l0 2).bind fun v27 =>
          (e_gR S g 9 l0 2).bind fun v29 =>
          (e_aI S g 0 v29 (l3 - (1 : Int32))).bind fun v31 =>
          (f_X9_ofOne S v11 v31 g).bind fun q34 =>
          (e_aS S q34.2 0 v27 (l3 - (1 : Int32)) q34.1).bind fun g35 =>
          J_X9_value_165 (L_X9_value_31 n S) S l0 l1 l2 l3 l4 g35
        else
          some ((0 : Int32), g)
    else
      if l3 < (160 : Int32) then
        (e_gR S g 9 l0 2).bind fun v37 =>
        (e_gR S g 9 l0 1).bind fun v39 =>
        (e_aI S g 0 v39 l4).bind fun v41 =>
        (f_X9_operand S v11 v41 l2 g).bind fun q44 =>
        (e_aS S q44.2 0 v37 l3 q44.1).bind fun g45 =>
        J_X9_value_165 (L_X9_value_31 n S) S l0 l1 l2 (l3 + (1 : Int32)) l4 g45
      else
        some ((0 : Int32), g)
def J_X9_value_29 (S : e_S) (l0 : Nat) (l1 : Int32) (l2 : Nat) (l3 : Int32) (t0 : Int32) (g : e_G) : Option (Int32 × e_G) :=
  L_X9_value_31 50000 S l0 l1 l2 l3 t0 g
def f_X9_value (S : e_S) (l0 : Nat) (l1 : Int32) (l2 : Nat) (g : e_G) : Option (Int32 × e_G) :=
  if e_ob S 9 l0 = true then
    if l1 < 0 then
      some ((0 : Int32), g)
    else
      if l1 < (3 : Int32) then
        if l1 = 0 then
          J_X9_value_29 S l0 l1 l2 (0 : Int32) (0 : Int32) g
        else
          (e_gR S g 9 l0 3).bind fun v1 =>
          (e_aI S g 0 v1 (l1 - (1 : Int32))).bind fun v3 =>
          J_X9_value_29 S l0 l1 l2 (0 : Int32) v3 g
      else
        some ((0 : Int32), g)
  else none
theorem x_J_X9_value_165 {l : Launch} {D : va_G} {S : e_S} {w : Int32} {k : e_G} (c31 : Nat → Int32 → Nat → Int32 → Int32 → e_G → Option (Int32 × e_G)) (hc31 : ∀ (l0 : Nat) (l1 : Int32) (l2 : Nat) (l3 : Int32) (l4 : Int32) (g : e_G), c31 l0 l1 l2 l3 l4 g = some (w, k) → X l D (e_R 2) M_X9_value 0 0 31 [(0, .ref l0), (1, .int l1), (2, .ref l2), (3, .int l3), (4, .int l4)] [] (S, g) (some (.int w)) (S, k)) {l0 : Nat} {l1 : Int32} {l2 : Nat} {l3 : Int32} {l4 : Int32} {g : e_G} (hf : J_X9_value_165 c31 S l0 l1 l2 l3 l4 g = some (w, k)) : X l D (e_R 2) M_X9_value 0 0 165 [(0, .ref l0), (1, .int l1), (2, .ref l2), (3, .int l3), (4, .int l4)] [] (S, g) (some (.int w)) (S, k) := by
  unfold J_X9_value_165 at hf
  refine X.iinc (j := 4) dX9_value_165 rfl (v := l4 + (1 : Int32)) (by rw [kI_1]) (Nat.le_of_ble_eq_true rfl) (lc' := [(4, .int (l4 + (1 : Int32))), (0, .ref l0), (1, .int l1), (2, .ref l2), (3, .int l3)]) rfl ?_
  refine X.goto dX9_value_168 (tgt := 31) rfl ?_
  refine X.sub [1, 2, 3, 4, 0] rfl ?_
  exact hc31 _ _ _ _ _ _ hf
theorem x_L_X9_value_31 {l : Launch} {D : va_G} {S : e_S} {w : Int32} {k : e_G} : ∀ (n : Nat) (l0 : Nat) (l1 : Int32) (l2 : Nat) (l3 : Int32) (l4 : Int32) (g : e_G), L_X9_value_31 n S l0 l1 l2 l3 l4 g = some (w, k) → X l D (e_R 2) M_X9_value 0 0 31 [(0, .ref l0), (1, .int l1), (2, .ref l2), (3, .int l3), (4, .int l4)] [] (S, g) (some (.int w)) (S, k) := by
  intro n
  induction n with
  | zero =>
    intro l0 l1 l2 l3 l4 g hf
    cases hf
  | succ n ih =>
    intro l0 l1 l2 l3 l4 g hf
    rw [L_X9_value_31] at hf
    refine X.iload dX9_value_31 (j := 4) rfl ?_
    refine X.aload_n dX9_value_33 rfl (j := 0) rfl ?_
    obtain ⟨v1, h2, hf⟩ := ob hf
    refine Y.getR dX9_value_34 fl_X9_21 rfl h2 ?_
    refine X.iload_n dX9_value_37 rfl (j := 1) rfl ?_
    obtain ⟨v3, h4, hf⟩ := ob hf
    refine Y.iald dX9_value_38 h4 ?_
    refine X.icmp_ge dX9_value_39 (tgt := 171) rfl (fun hc => ?_) (fun hc => ?_)
    · rw [if_pos hc] at hf
      refine X.iload_n dX9_value_171 rfl (j := 3) rfl ?_
      refine X.if_le dX9_value_172 (tgt := 186) rfl (fun hc => ?_) (fun hc => ?_)
      · rw [if_pos hc] at hf
        refine X.iconst dX9_value_186 kI_0 ?_
        obtain ⟨e1, e2⟩ := e_ret hf
        subst e1
        subst e2
        exact X.iret dX9_value_187 rfl rfl
      · rw [if_neg hc] at hf
        refine X.aload_n dX9_value_175 rfl (j := 0) rfl ?_
        obtain ⟨v5, h6, hf⟩ := ob hf
        refine Y.getR dX9_value_176 fl_X9_18 rfl h6 ?_
        refine X.iload_n dX9_value_179 rfl (j := 3) rfl ?_
        refine X.iconst dX9_value_180 kI_1 ?_
        refine X.isub dX9_value_181 ?_
        obtain ⟨v7, h8, hf⟩ := ob hf
        refine Y.iald dX9_value_182 h8 ?_
        refine X.goto dX9_value_183 (tgt := 187) rfl ?_
        obtain ⟨e1, e2⟩ := e_ret hf
        subst e1
        subst e2
        exact X.iret dX9_value_187 rfl rfl
    · rw [if_neg hc] at hf
      refine X.aload_n dX9_value_42 rfl (j := 0) rfl ?_
      obtain ⟨v9, h10, hf⟩ := ob hf
      refine Y.getR dX9_value_43 fl_X9_9 rfl h10 ?_
      refine X.iload dX9_value_46 (j := 4) rfl ?_
      obtain ⟨v11, h12, hf⟩ := ob hf
      refine Y.iald dX9_value_48 h12 ?_
      refine X.istore dX9_value_49 (Nat.le_of_ble_eq_true rfl) (lc' := [(5, .int v11), (0, .ref l0), (1, .int l1), (2, .ref l2), (3, .int l3), (4, .int l4)]) rfl ?_
      refine X.iload dX9_value_51 (j := 0) rfl ?_
      refine X.iconst dX9_value_53 kI_1 ?_
      refine X.icmp_gt dX9_value_54 (tgt := 91) rfl (fun hc => ?_) (fun hc => ?_)
      · rw [if_pos hc] at hf
        refine X.iload dX9_value_91 (j := 0) rfl ?_
        refine X.iconst dX9_value_93 kI_3 ?_
        refine X.icmp_gt dX9_value_94 (tgt := 128) rfl (fun hc => ?_) (fun hc => ?_)
        · rw [if_pos hc] at hf
          refine X.iload_n dX9_value_128 rfl (j := 4) rfl ?_
          refine X.iconst dX9_value_129 kI_2 ?_
          refine X.icmp_ge dX9_value_130 (tgt := 135) rfl (fun hc => ?_) (fun hc => ?_)
          · rw [if_pos hc] at hf
            refine X.iinc (j := 4) dX9_value_135 rfl (v := l3 + (-1 : Int32)) (by rw [kI_m1]) (Nat.le_of_ble_eq_true rfl) (lc' := [(3, .int (l3 + (-1 : Int32))), (5, .int v11), (0, .ref l0), (1, .int l1), (2, .ref l2), (4, .int l4)]) rfl ?_
            refine X.aload_n dX9_value_138 rfl (j := 2) rfl ?_
            obtain ⟨v13, h14, hf⟩ := ob hf
            refine Y.getR dX9_value_139 fl_X9_18 rfl h14 ?_
            refine X.iload_n dX9_value_142 rfl (j := 0) rfl ?_
            refine X.iconst dX9_value_143 kI_1 ?_
            refine X.isub dX9_value_144 ?_
            refine X.iload dX9_value_145 (j := 1) rfl ?_
            refine X.aload_n dX9_value_147 rfl (j := 2) rfl ?_
            obtain ⟨v15, h16, hf⟩ := ob hf
            refine Y.getR dX9_value_148 fl_X9_18 rfl h16 ?_
            refine X.iload_n dX9_value_151 rfl (j := 0) rfl ?_
            refine X.iconst dX9_value_152 kI_1 ?_
            refine X.isub dX9_value_153 ?_
            obtain ⟨v17, h18, hf⟩ := ob hf
            refine Y.iald dX9_value_154 h18 ?_
            refine X.aload_n dX9_value_155 rfl (j := 2) rfl ?_
            obtain ⟨v19, h20, hf⟩ := ob hf
            refine Y.getR dX9_value_156 fl_X9_18 rfl h20 ?_
            refine X.iload_n dX9_value_159 rfl (j := 0) rfl ?_
            obtain ⟨v21, h22, hf⟩ := ob hf
            refine Y.iald dX9_value_160 h22 ?_
            obtain ⟨q24, h23, hf⟩ := ob hf
            refine Y.callS (av := [.int v11, .int v17, .int v21]) dX9_value_161 (c_X9_ofTwo (l := l) (D := D) (w := q24.1) (k := q24.2) h23) cw_X9_36 mk_X9_ofTwo (e_R_ok (Nat.le_of_ble_eq_true rfl) (Nat.le_of_ble_eq_true rfl)) ⟨rfl, rfl⟩ (by simp [Value.category]) ?_
            obtain ⟨g25, h26, hf⟩ := ob hf
            refine Y.iast dX9_value_164 h26 ?_
            refine X.sub [2, 3, 4, 0, 5] rfl ?_
            exact x_J_X9_value_165 _ ih hf
          · rw [if_neg hc] at hf
            refine X.iconst dX9_value_133 kI_0 ?_
            obtain ⟨e1, e2⟩ := e_ret hf
            subst e1
            subst e2
            exact X.iret dX9_value_134 rfl rfl
        · rw [if_neg hc] at hf
          refine X.iload_n dX9_value_97 rfl (j := 4) rfl ?_
          refine X.iconst dX9_value_98 kI_1 ?_
          refine X.icmp_ge dX9_value_99 (tgt := 104) rfl (fun hc => ?_) (fun hc => ?_)
          · rw [if_pos hc] at hf
            refine X.aload_n dX9_value_104 rfl (j := 1) rfl ?_
            obtain ⟨v27, h28, hf⟩ := ob hf
            refine Y.getR dX9_value_105 fl_X9_18 rfl h28 ?_
            refine X.iload_n dX9_value_108 rfl (j := 4) rfl ?_
            refine X.iconst dX9_value_109 kI_1 ?_
            refine X.isub dX9_value_110 ?_
            refine X.iload dX9_value_111 (j := 0) rfl ?_
            refine X.aload_n dX9_value_113 rfl (j := 1) rfl ?_
            obtain ⟨v29, h30, hf⟩ := ob hf
            refine Y.getR dX9_value_114 fl_X9_18 rfl h30 ?_
            refine X.iload_n dX9_value_117 rfl (j := 4) rfl ?_
            refine X.iconst dX9_value_118 kI_1 ?_
            refine X.isub dX9_value_119 ?_
            obtain ⟨v31, h32, hf⟩ := ob hf
            refine Y.iald dX9_value_120 h32 ?_
            obtain ⟨q34, h33, hf⟩ := ob hf
            refine Y.callS (av := [.int v11, .int v31]) dX9_value_121 (c_X9_ofOne (l := l) (D := D) (w := q34.1) (k := q34.2) h33) cw_X9_32 mk_X9_ofOne (e_R_ok (Nat.le_of_ble_eq_true rfl) (Nat.le_of_ble_eq_true rfl)) ⟨rfl, rfl⟩ (by simp [Value.category]) ?_
            obtain ⟨g35, h36, hf⟩ := ob hf
            refine Y.iast dX9_value_124 h36 ?_
            refine X.goto dX9_value_125 (tgt := 165) rfl ?_
            refine X.sub [1, 2, 3, 4, 5] rfl ?_
            exact x_J_X9_value_165 _ ih hf
          · rw [if_neg hc] at hf
            refine X.iconst dX9_value_102 kI_0 ?_
            obtain ⟨e1, e2⟩ := e_ret hf
            subst e1
            subst e2
            exact X.iret dX9_value_103 rfl rfl
      · rw [if_neg hc] at hf
        refine X.iload_n dX9_value_57 rfl (j := 4) rfl ?_
        refine X.sipush dX9_value_58 kS_160 ?_
        refine X.icmp_lt dX9_value_61 (tgt := 66) rfl (fun hc => ?_) (fun hc => ?_)
        · rw [if_pos hc] at hf
          refine X.aload_n dX9_value_66 rfl (j := 1) rfl ?_
          obtain ⟨v37, h38, hf⟩ := ob hf
          refine Y.getR dX9_value_67 fl_X9_18 rfl h38 ?_
          refine X.iload_n dX9_value_70 rfl (j := 4) rfl ?_
          refine X.iload dX9_value_71 (j := 0) rfl ?_
          refine X.aload_n dX9_value_73 rfl (j := 1) rfl ?_
          obtain ⟨v39, h40, hf⟩ := ob hf
          refine Y.getR dX9_value_74 fl_X9_15 rfl h40 ?_
          refine X.iload dX9_value_77 (j := 5) rfl ?_
          obtain ⟨v41, h42, hf⟩ := ob hf
          refine Y.iald dX9_value_79 h42 ?_
          refine X.aload_n dX9_value_80 rfl (j := 3) rfl ?_
          obtain ⟨q44, h43, hf⟩ := ob hf
          refine Y.callS (av := [.int v11, .int v41, .ref l2]) dX9_value_81 (c_X9_operand (l := l) (D := D) (w := q44.1) (k := q44.2) h43) cw_X9_28 mk_X9_operand (e_R_ok (Nat.le_of_ble_eq_true rfl) (Nat.le_of_ble_eq_true rfl)) ⟨rfl, rfl⟩ (by simp [Value.category]) ?_
          obtain ⟨g45, h46, hf⟩ := ob hf
          refine Y.iast dX9_value_84 h46 ?_
          refine X.iinc (j := 4) dX9_value_85 rfl (v := l3 + (1 : Int32)) (by rw [kI_1]) (Nat.le_of_ble_eq_true rfl) (lc' := [(3, .int (l3 + (1 : Int32))), (5, .int v11), (0, .ref l0), (1, .int l1), (2, .ref l2), (4, .int l4)]) rfl ?_
          refine X.goto dX9_value_88 (tgt := 165) rfl ?_
          refine X.sub [2, 3, 4, 0, 5] rfl ?_
          exact x_J_X9_value_165 _ ih hf
        · rw [if_neg hc] at hf
          refine X.iconst dX9_value_64 kI_0 ?_
          obtain ⟨e1, e2⟩ := e_ret hf
          subst e1
          subst e2
          exact X.iret dX9_value_65 rfl rfl
theorem x_J_X9_value_29 {l : Launch} {D : va_G} {S : e_S} {w : Int32} {k : e_G} {l0 : Nat} {l1 : Int32} {l2 : Nat} {l3 : Int32} {t0 : Int32} {g : e_G} (hf : J_X9_value_29 S l0 l1 l2 l3 t0 g = some (w, k)) : X l D (e_R 2) M_X9_value 0 0 29 [(0, .ref l0), (1, .int l1), (2, .ref l2), (3, .int l3)] [.int t0] (S, g) (some (.int w)) (S, k) := by
  unfold J_X9_value_29 at hf
  refine X.istore dX9_value_29 (Nat.le_of_ble_eq_true rfl) (lc' := [(4, .int t0), (0, .ref l0), (1, .int l1), (2, .ref l2), (3, .int l3)]) rfl ?_
  refine X.sub [1, 2, 3, 4, 0] rfl ?_
  exact x_L_X9_value_31 50000 _ _ _ _ _ _ hf
theorem o_X9_value  {S : e_S} {w : Int32} {k : e_G} {l0 : Nat} {l1 : Int32} {l2 : Nat} {g : e_G} (hf : f_X9_value S l0 l1 l2 g = some (w, k)) : e_ob S 9 l0 = true := by
  unfold f_X9_value at hf
  by_cases hc : e_ob S 9 l0 = true
  · exact hc
  · rw [if_neg hc] at hf
    cases hf
theorem c_X9_value {l : Launch} {D : va_G}  {S : e_S} {w : Int32} {k : e_G} {l0 : Nat} {l1 : Int32} {l2 : Nat} {g : e_G} (hf : f_X9_value S l0 l1 l2 g = some (w, k)) : CT l D (e_R 2) M_X9_value [.ref l0, .int l1, .ref l2] (S, g) (some (.int w)) (S, k) := by
  refine CT.of (by decide +kernel) (Nat.le_of_ble_eq_true rfl) ?_
  have ho := o_X9_value hf
  unfold f_X9_value at hf
  rw [if_pos ho] at hf
  show X l D (e_R 2) M_X9_value 0 0 0 [(0, .ref l0), (1, .int l1), (2, .ref l2)] [] (S, g) (some (.int w)) (S, k)
  refine X.iload_n dX9_value_0 rfl (j := 1) rfl ?_
  refine X.if_lt dX9_value_1 (tgt := 9) rfl (fun hc => ?_) (fun hc => ?_)
  · rw [if_pos hc] at hf
    refine X.iconst dX9_value_9 kI_0 ?_
    obtain ⟨e1, e2⟩ := e_ret hf
    subst e1
    subst e2
    exact X.iret dX9_value_10 rfl rfl
  · rw [if_neg hc] at hf
    refine X.iload_n dX9_value_4 rfl (j := 1) rfl ?_
    refine X.iconst dX9_value_5 kI_3 ?_
    refine X.icmp_lt dX9_value_6 (tgt := 11) rfl (fun hc => ?_) (fun hc => ?_)
    · rw [if_pos hc] at hf
      refine X.iconst dX9_value_11 kI_0 ?_
      refine X.istore_n dX9_value_12 rfl (Nat.le_of_ble_eq_true rfl) (lc' := [(3, .int (0 : Int32)), (0, .ref l0), (1, .int l1), (2, .ref l2)]) rfl ?_
      refine X.iload_n dX9_value_13 rfl (j := 2) rfl ?_
      refine X.if_ne dX9_value_14 (tgt := 21) rfl (fun hc => ?_) (fun hc => ?_)
      · rw [if_neg hc] at hf
        refine X.aload_n dX9_value_21 rfl (j := 1) rfl ?_
        obtain ⟨v1, h2, hf⟩ := ob hf
        refine Y.getR dX9_value_22 fl_X9_21 rfl h2 ?_
        refine X.iload_n dX9_value_25 rfl (j := 2) rfl ?_
        refine X.iconst dX9_value_26 kI_1 ?_
        refine X.isub dX9_value_27 ?_
        obtain ⟨v3, h4, hf⟩ := ob hf
        refine Y.iald dX9_value_28 h4 ?_
        refine X.sub [1, 2, 3, 0] rfl ?_
        exact x_J_X9_value_29 hf
      · rw [if_pos hc] at hf
        refine X.iconst dX9_value_17 kI_0 ?_
        refine X.goto dX9_value_18 (tgt := 29) rfl ?_
        refine X.sub [1, 2, 3, 0] rfl ?_
        exact x_J_X9_value_29 hf
    · rw [if_neg hc] at hf
      refine X.iconst dX9_value_9 kI_0 ?_
      obtain ⟨e1, e2⟩ := e_ret hf
      subst e1
      subst e2
      exact X.iret dX9_value_10 rfl rfl
/-! LeanedOut$Person.leaning(IZII)I -/
abbrev M_X3_leaning : e_M := (yX3_leaning, cX3_leaning, 5, (some .int))
theorem mk_X3_leaning : e_Mok M_X3_leaning 4 := ⟨by decide +kernel, by decide +kernel, by decide +kernel⟩
theorem dX3_leaning_0 : decode cX3_leaning 0 = .ok (.iload_n 1, 1) := by decide +kernel
theorem dX3_leaning_1 : decode cX3_leaning 1 = .ok (.ireturn, 1) := by decide +kernel
def f_X3_leaning (S : e_S) (l0 : Nat) (l1 : Int32) (l2 : Int32) (l3 : Int32) (l4 : Int32) (g : e_G) : Option (Int32 × e_G) :=
  if e_any S l0 = true then
    some (l1, g)
  else none
theorem o_X3_leaning  {S : e_S} {w : Int32} {k : e_G} {l0 : Nat} {l1 : Int32} {l2 : Int32} {l3 : Int32} {l4 : Int32} {g : e_G} (hf : f_X3_leaning S l0 l1 l2 l3 l4 g = some (w, k)) : e_any S l0 = true := by
  unfold f_X3_leaning at hf
  by_cases hc : e_any S l0 = true
  · exact hc
  · rw [if_neg hc] at hf
    cases hf
theorem c_X3_leaning {l : Launch} {D : va_G}  {S : e_S} {w : Int32} {k : e_G} {l0 : Nat} {l1 : Int32} {l2 : Int32} {l3 : Int32} {l4 : Int32} {g : e_G} (hf : f_X3_leaning S l0 l1 l2 l3 l4 g = some (w, k)) : CT l D (e_R 1) M_X3_leaning [.ref l0, .int l1, .int l2, .int l3, .int l4] (S, g) (some (.int w)) (S, k) := by
  refine CT.of (by decide +kernel) (Nat.le_of_ble_eq_true rfl) ?_
  have ho := o_X3_leaning hf
  unfold f_X3_leaning at hf
  rw [if_pos ho] at hf
  show X l D (e_R 1) M_X3_leaning 0 0 0 [(0, .ref l0), (1, .int l1), (2, .int l2), (3, .int l3), (4, .int l4)] [] (S, g) (some (.int w)) (S, k)
  refine X.iload_n dX3_leaning_0 rfl (j := 1) rfl ?_
  obtain ⟨e1, e2⟩ := e_ret hf
  subst e1
  subst e2
  exact X.iret dX3_leaning_1 rfl rfl
/-! LeanedOut$Person.holding(II)I -/
abbrev M_X3_holding : e_M := (yX3_holding, cX3_holding, 3, (some .int))
theorem mk_X3_holding : e_Mok M_X3_holding 2 := ⟨by decide +kernel, by decide +kernel, by decide +kernel⟩
theorem dX3_holding_0 : decode cX3_holding 0 = .ok (.iload_n 1, 1) := by decide +kernel
theorem dX3_holding_1 : decode cX3_holding 1 = .ok (.ireturn, 1) := by decide +kernel
def f_X3_holding (S : e_S) (l0 : Nat) (l1 : Int32) (l2 : Int32) (g : e_G) : Option (Int32 × e_G) :=
  if e_any S l0 = true then
    some (l1, g)
  else none
theorem o_X3_holding  {S : e_S} {w : Int32} {k : e_G} {l0 : Nat} {l1 : Int32} {l2 : Int32} {g : e_G} (hf : f_X3_holding S l0 l1 l2 g = some (w, k)) : e_any S l0 = true := by
  unfold f_X3_holding at hf
  by_cases hc : e_any S l0 = true
  · exact hc
  · rw [if_neg hc] at hf
    cases hf
theorem c_X3_holding {l : Launch} {D : va_G}  {S : e_S} {w : Int32} {k : e_G} {l0 : Nat} {l1 : Int32} {l2 : Int32} {g : e_G} (hf : f_X3_holding S l0 l1 l2 g = some (w, k)) : CT l D (e_R 1) M_X3_holding [.ref l0, .int l1, .int l2] (S, g) (some (.int w)) (S, k) := by
  refine CT.of (by decide +kernel) (Nat.le_of_ble_eq_true rfl) ?_
  have ho := o_X3_holding hf
  unfold f_X3_holding at hf
  rw [if_pos ho] at hf
  show X l D (e_R 1) M_X3_holding 0 0 0 [(0, .ref l0), (1, .int l1), (2, .int l2)] [] (S, g) (some (.int w)) (S, k)
  refine X.iload_n dX3_holding_0 rfl (j := 1) rfl ?_
  obtain ⟨e1, e2⟩ := e_ret hf
  subst e1
  subst e2
  exact X.iret dX3_holding_1 rfl rfl
/-! LeanedOut$Person.minding(II)I -/
abbrev M_X3_minding : e_M := (yX3_minding, cX3_minding, 3, (some .int))
theorem mk_X3_minding : e_Mok M_X3_minding 2 := ⟨by decide +kernel, by decide +kernel, by decide +kernel⟩
theorem dX3_minding_0 : decode cX3_minding 0 = .ok (.iload_n 1, 1) := by decide +kernel
theorem dX3_minding_1 : decode cX3_minding 1 = .ok (.ireturn, 1) := by decide +kernel
def f_X3_minding (S : e_S) (l0 : Nat) (l1 : Int32) (l2 : Int32) (g : e_G) : Option (Int32 × e_G) :=
  if e_any S l0 = true then
    some (l1, g)
  else none
theorem o_X3_minding  {S : e_S} {w : Int32} {k : e_G} {l0 : Nat} {l1 : Int32} {l2 : Int32} {g : e_G} (hf : f_X3_minding S l0 l1 l2 g = some (w, k)) : e_any S l0 = true := by
  unfold f_X3_minding at hf
  by_cases hc : e_any S l0 = true
  · exact hc
  · rw [if_neg hc] at hf
    cases hf
theorem c_X3_minding {l : Launch} {D : va_G}  {S : e_S} {w : Int32} {k : e_G} {l0 : Nat} {l1 : Int32} {l2 : Int32} {g : e_G} (hf : f_X3_minding S l0 l1 l2 g = some (w, k)) : CT l D (e_R 1) M_X3_minding [.ref l0, .int l1, .int l2] (S, g) (some (.int w)) (S, k) := by
  refine CT.of (by decide +kernel) (Nat.le_of_ble_eq_true rfl) ?_
  have ho := o_X3_minding hf
  unfold f_X3_minding at hf
  rw [if_pos ho] at hf
  show X l D (e_R 1) M_X3_minding 0 0 0 [(0, .ref l0), (1, .int l1), (2, .int l2)] [] (S, g) (some (.int w)) (S, k)
  refine X.iload_n dX3_minding_0 rfl (j := 1) rfl ?_
  obtain ⟨e1, e2⟩ := e_ret hf
  subst e1
  subst e2
  exact X.iret dX3_minding_1 rfl rfl
/-! LeanedOut$Lover.leaning(IZII)I -/
abbrev M_X2_leaning : e_M := (yX2_leaning, cX2_leaning, 6, (some .int))
theorem mk_X2_leaning : e_Mok M_X2_leaning 4 := ⟨by decide +kernel, by decide +kernel, by decide +kernel⟩
theorem dX2_leaning_0 : decode cX2_leaning 0 = .ok (.aload_n 0, 1) := by decide +kernel
theorem dX2_leaning_1 : decode cX2_leaning 1 = .ok (.iload_n 1, 1) := by decide +kernel
theorem dX2_leaning_2 : decode cX2_leaning 2 = .ok (.iload_n 2, 1) := by decide +kernel
theorem dX2_leaning_3 : decode cX2_leaning 3 = .ok (.iload_n 3, 1) := by decide +kernel
theorem dX2_leaning_4 : decode cX2_leaning 4 = .ok (.iload 4, 2) := by decide +kernel
theorem dX2_leaning_6 : decode cX2_leaning 6 = .ok (.invokespecial 7, 3) := by decide +kernel
theorem dX2_leaning_9 : decode cX2_leaning 9 = .ok (.istore 5, 2) := by decide +kernel
theorem dX2_leaning_11 : decode cX2_leaning 11 = .ok (.iload_n 2, 1) := by decide +kernel
theorem dX2_leaning_12 : decode cX2_leaning 12 = .ok (.ifCond .eq 11, 3) := by decide +kernel
theorem dX2_leaning_15 : decode cX2_leaning 15 = .ok (.iload 5, 2) := by decide +kernel
theorem dX2_leaning_17 : decode cX2_leaning 17 = .ok (.iload 4, 2) := by decide +kernel
theorem dX2_leaning_19 : decode cX2_leaning 19 = .ok (.iadd, 1) := by decide +kernel
theorem dX2_leaning_20 : decode cX2_leaning 20 = .ok (.goto 5, 3) := by decide +kernel
theorem dX2_leaning_23 : decode cX2_leaning 23 = .ok (.iload 5, 2) := by decide +kernel
theorem dX2_leaning_25 : decode cX2_leaning 25 = .ok (.ireturn, 1) := by decide +kernel
def f_X2_leaning (S : e_S) (l0 : Nat) (l1 : Int32) (l2 : Int32) (l3 : Int32) (l4 : Int32) (g : e_G) : Option (Int32 × e_G) :=
  if e_any S l0 = true then
    (f_X3_leaning S l0 l1 l2 l3 l4 g).bind fun q2 =>
    if l2 = 0 then
      some (q2.1, q2.2)
    else
      some (q2.1 + l4, q2.2)
  else none
theorem o_X2_leaning  {S : e_S} {w : Int32} {k : e_G} {l0 : Nat} {l1 : Int32} {l2 : Int32} {l3 : Int32} {l4 : Int32} {g : e_G} (hf : f_X2_leaning S l0 l1 l2 l3 l4 g = some (w, k)) : e_any S l0 = true := by
  unfold f_X2_leaning at hf
  by_cases hc : e_any S l0 = true
  · exact hc
  · rw [if_neg hc] at hf
    cases hf
theorem c_X2_leaning {l : Launch} {D : va_G}  {S : e_S} {w : Int32} {k : e_G} {l0 : Nat} {l1 : Int32} {l2 : Int32} {l3 : Int32} {l4 : Int32} {g : e_G} (hf : f_X2_leaning S l0 l1 l2 l3 l4 g = some (w, k)) : CT l D (e_R 2) M_X2_leaning [.ref l0, .int l1, .int l2, .int l3, .int l4] (S, g) (some (.int w)) (S, k) := by
  refine CT.of (by decide +kernel) (Nat.le_of_ble_eq_true rfl) ?_
  have ho := o_X2_leaning hf
  unfold f_X2_leaning at hf
  rw [if_pos ho] at hf
  show X l D (e_R 2) M_X2_leaning 0 0 0 [(0, .ref l0), (1, .int l1), (2, .int l2), (3, .int l3), (4, .int l4)] [] (S, g) (some (.int w)) (S, k)
  refine X.aload_n dX2_leaning_0 rfl (j := 0) rfl ?_
  refine X.iload_n dX2_leaning_1 rfl (j := 1) rfl ?_
  refine X.iload_n dX2_leaning_2 rfl (j := 2) rfl ?_
  refine X.iload_n dX2_leaning_3 rfl (j := 3) rfl ?_
  refine X.iload dX2_leaning_4 (j := 4) rfl ?_
  obtain ⟨q2, h1, hf⟩ := ob hf
  refine Y.callSU (x := yX3_leaning) (av := [.int l1, .int l2, .int l3, .int l4]) dX2_leaning_6 (c_X3_leaning (l := l) (D := D) (w := q2.1) (k := q2.2) h1) (e_all6 ww_603 ww_596 ww_189 ww_594 ww_77 ww_615) (Or.inl rfl) ⟨rfl, rfl⟩ (by decide +kernel) mk_X3_leaning (o_X3_leaning (w := q2.1) (k := q2.2) h1) (e_R_ok (Nat.le_of_ble_eq_true rfl) (Nat.le_of_ble_eq_true rfl)) ⟨rfl, rfl⟩ (by simp [Value.category]) ?_
  refine X.istore dX2_leaning_9 (Nat.le_of_ble_eq_true rfl) (lc' := [(5, .int q2.1), (0, .ref l0), (1, .int l1), (2, .int l2), (3, .int l3), (4, .int l4)]) rfl ?_
  refine X.iload_n dX2_leaning_11 rfl (j := 3) rfl ?_
  refine X.if_eq dX2_leaning_12 (tgt := 23) rfl (fun hc => ?_) (fun hc => ?_)
  · rw [if_pos hc] at hf
    refine X.iload dX2_leaning_23 (j := 0) rfl ?_
    obtain ⟨e1, e2⟩ := e_ret hf
    subst e1
    subst e2
    exact X.iret dX2_leaning_25 rfl rfl
  · rw [if_neg hc] at hf
    refine X.iload dX2_leaning_15 (j := 0) rfl ?_
    refine X.iload dX2_leaning_17 (j := 5) rfl ?_
    refine X.iadd dX2_leaning_19 ?_
    refine X.goto dX2_leaning_20 (tgt := 25) rfl ?_
    obtain ⟨e1, e2⟩ := e_ret hf
    subst e1
    subst e2
    exact X.iret dX2_leaning_25 rfl rfl
/-! LeanedOut$Lover.minding(II)I -/
abbrev M_X2_minding : e_M := (yX2_minding, cX2_minding, 3, (some .int))
theorem mk_X2_minding : e_Mok M_X2_minding 2 := ⟨by decide +kernel, by decide +kernel, by decide +kernel⟩
theorem dX2_minding_0 : decode cX2_minding 0 = .ok (.iconst 0, 1) := by decide +kernel
theorem dX2_minding_1 : decode cX2_minding 1 = .ok (.ireturn, 1) := by decide +kernel
def f_X2_minding (S : e_S) (l0 : Nat) (l1 : Int32) (l2 : Int32) (g : e_G) : Option (Int32 × e_G) :=
  if e_any S l0 = true then
    some ((0 : Int32), g)
  else none
theorem o_X2_minding  {S : e_S} {w : Int32} {k : e_G} {l0 : Nat} {l1 : Int32} {l2 : Int32} {g : e_G} (hf : f_X2_minding S l0 l1 l2 g = some (w, k)) : e_any S l0 = true := by
  unfold f_X2_minding at hf
  by_cases hc : e_any S l0 = true
  · exact hc
  · rw [if_neg hc] at hf
    cases hf
theorem c_X2_minding {l : Launch} {D : va_G}  {S : e_S} {w : Int32} {k : e_G} {l0 : Nat} {l1 : Int32} {l2 : Int32} {g : e_G} (hf : f_X2_minding S l0 l1 l2 g = some (w, k)) : CT l D (e_R 1) M_X2_minding [.ref l0, .int l1, .int l2] (S, g) (some (.int w)) (S, k) := by
  refine CT.of (by decide +kernel) (Nat.le_of_ble_eq_true rfl) ?_
  have ho := o_X2_minding hf
  unfold f_X2_minding at hf
  rw [if_pos ho] at hf
  show X l D (e_R 1) M_X2_minding 0 0 0 [(0, .ref l0), (1, .int l1), (2, .int l2)] [] (S, g) (some (.int w)) (S, k)
  refine X.iconst dX2_minding_0 kI_0 ?_
  obtain ⟨e1, e2⟩ := e_ret hf
  subst e1
  subst e2
  exact X.iret dX2_minding_1 rfl rfl
/-! LeanedOut$Tenant.holding(II)I -/
abbrev M_X8_holding : e_M := (yX8_holding, cX8_holding, 3, (some .int))
theorem mk_X8_holding : e_Mok M_X8_holding 2 := ⟨by decide +kernel, by decide +kernel, by decide +kernel⟩
theorem dX8_holding_0 : decode cX8_holding 0 = .ok (.aload_n 0, 1) := by decide +kernel
theorem dX8_holding_1 : decode cX8_holding 1 = .ok (.iload_n 1, 1) := by decide +kernel
theorem dX8_holding_2 : decode cX8_holding 2 = .ok (.iload_n 2, 1) := by decide +kernel
theorem dX8_holding_3 : decode cX8_holding 3 = .ok (.invokespecial 7, 3) := by decide +kernel
theorem dX8_holding_6 : decode cX8_holding 6 = .ok (.bipush 10, 2) := by decide +kernel
theorem dX8_holding_8 : decode cX8_holding 8 = .ok (.iadd, 1) := by decide +kernel
theorem dX8_holding_9 : decode cX8_holding 9 = .ok (.ireturn, 1) := by decide +kernel
def f_X8_holding (S : e_S) (l0 : Nat) (l1 : Int32) (l2 : Int32) (g : e_G) : Option (Int32 × e_G) :=
  if e_any S l0 = true then
    (f_X3_holding S l0 l1 l2 g).bind fun q2 =>
    some (q2.1 + (10 : Int32), q2.2)
  else none
theorem o_X8_holding  {S : e_S} {w : Int32} {k : e_G} {l0 : Nat} {l1 : Int32} {l2 : Int32} {g : e_G} (hf : f_X8_holding S l0 l1 l2 g = some (w, k)) : e_any S l0 = true := by
  unfold f_X8_holding at hf
  by_cases hc : e_any S l0 = true
  · exact hc
  · rw [if_neg hc] at hf
    cases hf
theorem c_X8_holding {l : Launch} {D : va_G}  {S : e_S} {w : Int32} {k : e_G} {l0 : Nat} {l1 : Int32} {l2 : Int32} {g : e_G} (hf : f_X8_holding S l0 l1 l2 g = some (w, k)) : CT l D (e_R 2) M_X8_holding [.ref l0, .int l1, .int l2] (S, g) (some (.int w)) (S, k) := by
  refine CT.of (by decide +kernel) (Nat.le_of_ble_eq_true rfl) ?_
  have ho := o_X8_holding hf
  unfold f_X8_holding at hf
  rw [if_pos ho] at hf
  show X l D (e_R 2) M_X8_holding 0 0 0 [(0, .ref l0), (1, .int l1), (2, .int l2)] [] (S, g) (some (.int w)) (S, k)
  refine X.aload_n dX8_holding_0 rfl (j := 0) rfl ?_
  refine X.iload_n dX8_holding_1 rfl (j := 1) rfl ?_
  refine X.iload_n dX8_holding_2 rfl (j := 2) rfl ?_
  obtain ⟨q2, h1, hf⟩ := ob hf
  refine Y.callSU (x := yX3_holding) (av := [.int l1, .int l2]) dX8_holding_3 (c_X3_holding (l := l) (D := D) (w := q2.1) (k := q2.2) h1) (e_all6 ww_633 ww_623 ww_196 ww_621 ww_77 ww_639) (Or.inl rfl) ⟨rfl, rfl⟩ (by decide +kernel) mk_X3_holding (o_X3_holding (w := q2.1) (k := q2.2) h1) (e_R_ok (Nat.le_of_ble_eq_true rfl) (Nat.le_of_ble_eq_true rfl)) ⟨rfl, rfl⟩ (by simp [Value.category]) ?_
  refine X.bipush dX8_holding_6 kB_10 ?_
  refine X.iadd dX8_holding_8 ?_
  obtain ⟨e1, e2⟩ := e_ret hf
  subst e1
  subst e2
  exact X.iret dX8_holding_9 rfl rfl
/-! LeanedOut$Tenant.minding(II)I -/
abbrev M_X8_minding : e_M := (yX8_minding, cX8_minding, 3, (some .int))
theorem mk_X8_minding : e_Mok M_X8_minding 2 := ⟨by decide +kernel, by decide +kernel, by decide +kernel⟩
theorem dX8_minding_0 : decode cX8_minding 0 = .ok (.iconst 2, 1) := by decide +kernel
theorem dX8_minding_1 : decode cX8_minding 1 = .ok (.aload_n 0, 1) := by decide +kernel
theorem dX8_minding_2 : decode cX8_minding 2 = .ok (.iload_n 1, 1) := by decide +kernel
theorem dX8_minding_3 : decode cX8_minding 3 = .ok (.iload_n 2, 1) := by decide +kernel
theorem dX8_minding_4 : decode cX8_minding 4 = .ok (.invokespecial 11, 3) := by decide +kernel
theorem dX8_minding_7 : decode cX8_minding 7 = .ok (.imul, 1) := by decide +kernel
theorem dX8_minding_8 : decode cX8_minding 8 = .ok (.iload_n 2, 1) := by decide +kernel
theorem dX8_minding_9 : decode cX8_minding 9 = .ok (.iadd, 1) := by decide +kernel
theorem dX8_minding_10 : decode cX8_minding 10 = .ok (.ireturn, 1) := by decide +kernel
def f_X8_minding (S : e_S) (l0 : Nat) (l1 : Int32) (l2 : Int32) (g : e_G) : Option (Int32 × e_G) :=
  if e_any S l0 = true then
    (f_X3_minding S l0 l1 l2 g).bind fun q2 =>
    some (((2 : Int32) * q2.1) + l2, q2.2)
  else none
theorem o_X8_minding  {S : e_S} {w : Int32} {k : e_G} {l0 : Nat} {l1 : Int32} {l2 : Int32} {g : e_G} (hf : f_X8_minding S l0 l1 l2 g = some (w, k)) : e_any S l0 = true := by
  unfold f_X8_minding at hf
  by_cases hc : e_any S l0 = true
  · exact hc
  · rw [if_neg hc] at hf
    cases hf
theorem c_X8_minding {l : Launch} {D : va_G}  {S : e_S} {w : Int32} {k : e_G} {l0 : Nat} {l1 : Int32} {l2 : Int32} {g : e_G} (hf : f_X8_minding S l0 l1 l2 g = some (w, k)) : CT l D (e_R 2) M_X8_minding [.ref l0, .int l1, .int l2] (S, g) (some (.int w)) (S, k) := by
  refine CT.of (by decide +kernel) (Nat.le_of_ble_eq_true rfl) ?_
  have ho := o_X8_minding hf
  unfold f_X8_minding at hf
  rw [if_pos ho] at hf
  show X l D (e_R 2) M_X8_minding 0 0 0 [(0, .ref l0), (1, .int l1), (2, .int l2)] [] (S, g) (some (.int w)) (S, k)
  refine X.iconst dX8_minding_0 kI_2 ?_
  refine X.aload_n dX8_minding_1 rfl (j := 0) rfl ?_
  refine X.iload_n dX8_minding_2 rfl (j := 1) rfl ?_
  refine X.iload_n dX8_minding_3 rfl (j := 2) rfl ?_
  obtain ⟨q2, h1, hf⟩ := ob hf
  refine Y.callSU (x := yX3_minding) (av := [.int l1, .int l2]) dX8_minding_4 (c_X3_minding (l := l) (D := D) (w := q2.1) (k := q2.2) h1) (e_all6 ww_657 ww_647 ww_196 ww_645 ww_77 ww_661) (Or.inl rfl) ⟨rfl, rfl⟩ (by decide +kernel) mk_X3_minding (o_X3_minding (w := q2.1) (k := q2.2) h1) (e_R_ok (Nat.le_of_ble_eq_true rfl) (Nat.le_of_ble_eq_true rfl)) ⟨rfl, rfl⟩ (by simp [Value.category]) ?_
  refine X.imul dX8_minding_7 ?_
  refine X.iload_n dX8_minding_8 rfl (j := 2) rfl ?_
  refine X.iadd dX8_minding_9 ?_
  obtain ⟨e1, e2⟩ := e_ret hf
  subst e1
  subst e2
  exact X.iret dX8_minding_10 rfl rfl
/-! LeanedOut$Child.leaning(IZII)I -/
abbrev M_X0_leaning : e_M := (yX0_leaning, cX0_leaning, 5, (some .int))
theorem mk_X0_leaning : e_Mok M_X0_leaning 4 := ⟨by decide +kernel, by decide +kernel, by decide +kernel⟩
theorem dX0_leaning_0 : decode cX0_leaning 0 = .ok (.iconst 2, 1) := by decide +kernel
theorem dX0_leaning_1 : decode cX0_leaning 1 = .ok (.aload_n 0, 1) := by decide +kernel
theorem dX0_leaning_2 : decode cX0_leaning 2 = .ok (.iload_n 1, 1) := by decide +kernel
theorem dX0_leaning_3 : decode cX0_leaning 3 = .ok (.iload_n 2, 1) := by decide +kernel
theorem dX0_leaning_4 : decode cX0_leaning 4 = .ok (.iload_n 3, 1) := by decide +kernel
theorem dX0_leaning_5 : decode cX0_leaning 5 = .ok (.iload 4, 2) := by decide +kernel
theorem dX0_leaning_7 : decode cX0_leaning 7 = .ok (.invokespecial 7, 3) := by decide +kernel
theorem dX0_leaning_10 : decode cX0_leaning 10 = .ok (.imul, 1) := by decide +kernel
theorem dX0_leaning_11 : decode cX0_leaning 11 = .ok (.ireturn, 1) := by decide +kernel
def f_X0_leaning (S : e_S) (l0 : Nat) (l1 : Int32) (l2 : Int32) (l3 : Int32) (l4 : Int32) (g : e_G) : Option (Int32 × e_G) :=
  if e_any S l0 = true then
    (f_X2_leaning S l0 l1 l2 l3 l4 g).bind fun q2 =>
    some ((2 : Int32) * q2.1, q2.2)
  else none
theorem o_X0_leaning  {S : e_S} {w : Int32} {k : e_G} {l0 : Nat} {l1 : Int32} {l2 : Int32} {l3 : Int32} {l4 : Int32} {g : e_G} (hf : f_X0_leaning S l0 l1 l2 l3 l4 g = some (w, k)) : e_any S l0 = true := by
  unfold f_X0_leaning at hf
  by_cases hc : e_any S l0 = true
  · exact hc
  · rw [if_neg hc] at hf
    cases hf
theorem c_X0_leaning {l : Launch} {D : va_G}  {S : e_S} {w : Int32} {k : e_G} {l0 : Nat} {l1 : Int32} {l2 : Int32} {l3 : Int32} {l4 : Int32} {g : e_G} (hf : f_X0_leaning S l0 l1 l2 l3 l4 g = some (w, k)) : CT l D (e_R 3) M_X0_leaning [.ref l0, .int l1, .int l2, .int l3, .int l4] (S, g) (some (.int w)) (S, k) := by
  refine CT.of (by decide +kernel) (Nat.le_of_ble_eq_true rfl) ?_
  have ho := o_X0_leaning hf
  unfold f_X0_leaning at hf
  rw [if_pos ho] at hf
  show X l D (e_R 3) M_X0_leaning 0 0 0 [(0, .ref l0), (1, .int l1), (2, .int l2), (3, .int l3), (4, .int l4)] [] (S, g) (some (.int w)) (S, k)
  refine X.iconst dX0_leaning_0 kI_2 ?_
  refine X.aload_n dX0_leaning_1 rfl (j := 0) rfl ?_
  refine X.iload_n dX0_leaning_2 rfl (j := 1) rfl ?_
  refine X.iload_n dX0_leaning_3 rfl (j := 2) rfl ?_
  refine X.iload_n dX0_leaning_4 rfl (j := 3) rfl ?_
  refine X.iload dX0_leaning_5 (j := 4) rfl ?_
  obtain ⟨q2, h1, hf⟩ := ob hf
  refine Y.callSU (x := yX2_leaning) (av := [.int l1, .int l2, .int l3, .int l4]) dX0_leaning_7 (c_X2_leaning (l := l) (D := D) (w := q2.1) (k := q2.2) h1) (e_all6 ww_600 ww_1368 ww_203 ww_601 ww_78 ww_602) (Or.inl rfl) ⟨rfl, rfl⟩ (by decide +kernel) mk_X2_leaning (o_X2_leaning (w := q2.1) (k := q2.2) h1) (e_R_ok (Nat.le_of_ble_eq_true rfl) (Nat.le_of_ble_eq_true rfl)) ⟨rfl, rfl⟩ (by simp [Value.category]) ?_
  refine X.imul dX0_leaning_10 ?_
  obtain ⟨e1, e2⟩ := e_ret hf
  subst e1
  subst e2
  exact X.iret dX0_leaning_11 rfl rfl
/-! LeanedOut$Child.holding(II)I -/
abbrev M_X0_holding : e_M := (yX0_holding, cX0_holding, 3, (some .int))
theorem mk_X0_holding : e_Mok M_X0_holding 2 := ⟨by decide +kernel, by decide +kernel, by decide +kernel⟩
theorem dX0_holding_0 : decode cX0_holding 0 = .ok (.aload_n 0, 1) := by decide +kernel
theorem dX0_holding_1 : decode cX0_holding 1 = .ok (.iload_n 1, 1) := by decide +kernel
theorem dX0_holding_2 : decode cX0_holding 2 = .ok (.iload_n 2, 1) := by decide +kernel
theorem dX0_holding_3 : decode cX0_holding 3 = .ok (.invokespecial 11, 3) := by decide +kernel
theorem dX0_holding_6 : decode cX0_holding 6 = .ok (.iconst 2, 1) := by decide +kernel
theorem dX0_holding_7 : decode cX0_holding 7 = .ok (.idiv, 1) := by decide +kernel
theorem dX0_holding_8 : decode cX0_holding 8 = .ok (.ireturn, 1) := by decide +kernel
def f_X0_holding (S : e_S) (l0 : Nat) (l1 : Int32) (l2 : Int32) (g : e_G) : Option (Int32 × e_G) :=
  if e_any S l0 = true then
    (f_X3_holding S l0 l1 l2 g).bind fun q2 =>
    some (q2.1 / (2 : Int32), q2.2)
  else none
theorem o_X0_holding  {S : e_S} {w : Int32} {k : e_G} {l0 : Nat} {l1 : Int32} {l2 : Int32} {g : e_G} (hf : f_X0_holding S l0 l1 l2 g = some (w, k)) : e_any S l0 = true := by
  unfold f_X0_holding at hf
  by_cases hc : e_any S l0 = true
  · exact hc
  · rw [if_neg hc] at hf
    cases hf
theorem c_X0_holding {l : Launch} {D : va_G}  {S : e_S} {w : Int32} {k : e_G} {l0 : Nat} {l1 : Int32} {l2 : Int32} {g : e_G} (hf : f_X0_holding S l0 l1 l2 g = some (w, k)) : CT l D (e_R 2) M_X0_holding [.ref l0, .int l1, .int l2] (S, g) (some (.int w)) (S, k) := by
  refine CT.of (by decide +kernel) (Nat.le_of_ble_eq_true rfl) ?_
  have ho := o_X0_holding hf
  unfold f_X0_holding at hf
  rw [if_pos ho] at hf
  show X l D (e_R 2) M_X0_holding 0 0 0 [(0, .ref l0), (1, .int l1), (2, .int l2)] [] (S, g) (some (.int w)) (S, k)
  refine X.aload_n dX0_holding_0 rfl (j := 0) rfl ?_
  refine X.iload_n dX0_holding_1 rfl (j := 1) rfl ?_
  refine X.iload_n dX0_holding_2 rfl (j := 2) rfl ?_
  obtain ⟨q2, h1, hf⟩ := ob hf
  refine Y.callSU (x := ⟨RX2, "holding", "(II)I"⟩) (av := [.int l1, .int l2]) dX0_holding_3 (c_X3_holding (l := l) (D := D) (w := q2.1) (k := q2.2) h1) (e_all6 ww_627 ww_628 ww_203 ww_621 ww_77 ww_639) (Or.inr ww_189) ⟨rfl, rfl⟩ (by decide +kernel) mk_X3_holding (o_X3_holding (w := q2.1) (k := q2.2) h1) (e_R_ok (Nat.le_of_ble_eq_true rfl) (Nat.le_of_ble_eq_true rfl)) ⟨rfl, rfl⟩ (by simp [Value.category]) ?_
  refine X.iconst dX0_holding_6 kI_2 ?_
  refine X.idiv dX0_holding_7 (by decide) ?_
  obtain ⟨e1, e2⟩ := e_ret hf
  subst e1
  subst e2
  exact X.iret dX0_holding_8 rfl rfl
/-! LeanedOut$Duster.leaning(IZII)I -/
abbrev M_X1_leaning : e_M := (yX1_leaning, cX1_leaning, 5, (some .int))
theorem mk_X1_leaning : e_Mok M_X1_leaning 4 := ⟨by decide +kernel, by decide +kernel, by decide +kernel⟩
theorem dX1_leaning_0 : decode cX1_leaning 0 = .ok (.iload_n 3, 1) := by decide +kernel
theorem dX1_leaning_1 : decode cX1_leaning 1 = .ok (.iconst 5, 1) := by decide +kernel
theorem dX1_leaning_2 : decode cX1_leaning 2 = .ok (.irem, 1) := by decide +kernel
theorem dX1_leaning_3 : decode cX1_leaning 3 = .ok (.ifCond .ne 8, 3) := by decide +kernel
theorem dX1_leaning_6 : decode cX1_leaning 6 = .ok (.iload 4, 2) := by decide +kernel
theorem dX1_leaning_8 : decode cX1_leaning 8 = .ok (.goto 13, 3) := by decide +kernel
theorem dX1_leaning_11 : decode cX1_leaning 11 = .ok (.aload_n 0, 1) := by decide +kernel
theorem dX1_leaning_12 : decode cX1_leaning 12 = .ok (.iload_n 1, 1) := by decide +kernel
theorem dX1_leaning_13 : decode cX1_leaning 13 = .ok (.iload_n 2, 1) := by decide +kernel
theorem dX1_leaning_14 : decode cX1_leaning 14 = .ok (.iload_n 3, 1) := by decide +kernel
theorem dX1_leaning_15 : decode cX1_leaning 15 = .ok (.iload 4, 2) := by decide +kernel
theorem dX1_leaning_17 : decode cX1_leaning 17 = .ok (.invokespecial 7, 3) := by decide +kernel
theorem dX1_leaning_20 : decode cX1_leaning 20 = .ok (.ineg, 1) := by decide +kernel
theorem dX1_leaning_21 : decode cX1_leaning 21 = .ok (.ireturn, 1) := by decide +kernel
def f_X1_leaning (S : e_S) (l0 : Nat) (l1 : Int32) (l2 : Int32) (l3 : Int32) (l4 : Int32) (g : e_G) : Option (Int32 × e_G) :=
  if e_any S l0 = true then
    if (i_rem l3 (5 : Int32)) = 0 then
      some (l4, g)
    else
      (f_X3_leaning S l0 l1 l2 l3 l4 g).bind fun q2 =>
      some (-q2.1, q2.2)
  else none
theorem o_X1_leaning  {S : e_S} {w : Int32} {k : e_G} {l0 : Nat} {l1 : Int32} {l2 : Int32} {l3 : Int32} {l4 : Int32} {g : e_G} (hf : f_X1_leaning S l0 l1 l2 l3 l4 g = some (w, k)) : e_any S l0 = true := by
  unfold f_X1_leaning at hf
  by_cases hc : e_any S l0 = true
  · exact hc
  · rw [if_neg hc] at hf
    cases hf
theorem c_X1_leaning {l : Launch} {D : va_G}  {S : e_S} {w : Int32} {k : e_G} {l0 : Nat} {l1 : Int32} {l2 : Int32} {l3 : Int32} {l4 : Int32} {g : e_G} (hf : f_X1_leaning S l0 l1 l2 l3 l4 g = some (w, k)) : CT l D (e_R 2) M_X1_leaning [.ref l0, .int l1, .int l2, .int l3, .int l4] (S, g) (some (.int w)) (S, k) := by
  refine CT.of (by decide +kernel) (Nat.le_of_ble_eq_true rfl) ?_
  have ho := o_X1_leaning hf
  unfold f_X1_leaning at hf
  rw [if_pos ho] at hf
  show X l D (e_R 2) M_X1_leaning 0 0 0 [(0, .ref l0), (1, .int l1), (2, .int l2), (3, .int l3), (4, .int l4)] [] (S, g) (some (.int w)) (S, k)
  refine X.iload_n dX1_leaning_0 rfl (j := 3) rfl ?_
  refine X.iconst dX1_leaning_1 kI_5 ?_
  refine Y.irem dX1_leaning_2 (by decide) ?_
  refine X.if_ne dX1_leaning_3 (tgt := 11) rfl (fun hc => ?_) (fun hc => ?_)
  · rw [if_neg hc] at hf
    refine X.aload_n dX1_leaning_11 rfl (j := 0) rfl ?_
    refine X.iload_n dX1_leaning_12 rfl (j := 1) rfl ?_
    refine X.iload_n dX1_leaning_13 rfl (j := 2) rfl ?_
    refine X.iload_n dX1_leaning_14 rfl (j := 3) rfl ?_
    refine X.iload dX1_leaning_15 (j := 4) rfl ?_
    obtain ⟨q2, h1, hf⟩ := ob hf
    refine Y.callSU (x := ⟨RX8, "leaning", "(IZII)I"⟩) (av := [.int l1, .int l2, .int l3, .int l4]) dX1_leaning_17 (c_X3_leaning (l := l) (D := D) (w := q2.1) (k := q2.2) h1) (e_all6 ww_607 ww_608 ww_210 ww_594 ww_77 ww_615) (Or.inr ww_196) ⟨rfl, rfl⟩ (by decide +kernel) mk_X3_leaning (o_X3_leaning (w := q2.1) (k := q2.2) h1) (e_R_ok (Nat.le_of_ble_eq_true rfl) (Nat.le_of_ble_eq_true rfl)) ⟨rfl, rfl⟩ (by simp [Value.category]) ?_
    refine X.ineg dX1_leaning_20 ?_
    obtain ⟨e1, e2⟩ := e_ret hf
    subst e1
    subst e2
    exact X.iret dX1_leaning_21 rfl rfl
  · rw [if_pos hc] at hf
    refine X.iload dX1_leaning_6 (j := 4) rfl ?_
    refine X.goto dX1_leaning_8 (tgt := 21) rfl ?_
    obtain ⟨e1, e2⟩ := e_ret hf
    subst e1
    subst e2
    exact X.iret dX1_leaning_21 rfl rfl
/-! LeanedOut$Duster.minding(II)I -/
abbrev M_X1_minding : e_M := (yX1_minding, cX1_minding, 3, (some .int))
theorem mk_X1_minding : e_Mok M_X1_minding 2 := ⟨by decide +kernel, by decide +kernel, by decide +kernel⟩
theorem dX1_minding_0 : decode cX1_minding 0 = .ok (.aload_n 0, 1) := by decide +kernel
theorem dX1_minding_1 : decode cX1_minding 1 = .ok (.iload_n 1, 1) := by decide +kernel
theorem dX1_minding_2 : decode cX1_minding 2 = .ok (.iload_n 2, 1) := by decide +kernel
theorem dX1_minding_3 : decode cX1_minding 3 = .ok (.invokespecial 11, 3) := by decide +kernel
theorem dX1_minding_6 : decode cX1_minding 6 = .ok (.iconst 3, 1) := by decide +kernel
theorem dX1_minding_7 : decode cX1_minding 7 = .ok (.idiv, 1) := by decide +kernel
theorem dX1_minding_8 : decode cX1_minding 8 = .ok (.ireturn, 1) := by decide +kernel
def f_X1_minding (S : e_S) (l0 : Nat) (l1 : Int32) (l2 : Int32) (g : e_G) : Option (Int32 × e_G) :=
  if e_any S l0 = true then
    (f_X8_minding S l0 l1 l2 g).bind fun q2 =>
    some (q2.1 / (3 : Int32), q2.2)
  else none
theorem o_X1_minding  {S : e_S} {w : Int32} {k : e_G} {l0 : Nat} {l1 : Int32} {l2 : Int32} {g : e_G} (hf : f_X1_minding S l0 l1 l2 g = some (w, k)) : e_any S l0 = true := by
  unfold f_X1_minding at hf
  by_cases hc : e_any S l0 = true
  · exact hc
  · rw [if_neg hc] at hf
    cases hf
theorem c_X1_minding {l : Launch} {D : va_G}  {S : e_S} {w : Int32} {k : e_G} {l0 : Nat} {l1 : Int32} {l2 : Int32} {g : e_G} (hf : f_X1_minding S l0 l1 l2 g = some (w, k)) : CT l D (e_R 3) M_X1_minding [.ref l0, .int l1, .int l2] (S, g) (some (.int w)) (S, k) := by
  refine CT.of (by decide +kernel) (Nat.le_of_ble_eq_true rfl) ?_
  have ho := o_X1_minding hf
  unfold f_X1_minding at hf
  rw [if_pos ho] at hf
  show X l D (e_R 3) M_X1_minding 0 0 0 [(0, .ref l0), (1, .int l1), (2, .int l2)] [] (S, g) (some (.int w)) (S, k)
  refine X.aload_n dX1_minding_0 rfl (j := 0) rfl ?_
  refine X.iload_n dX1_minding_1 rfl (j := 1) rfl ?_
  refine X.iload_n dX1_minding_2 rfl (j := 2) rfl ?_
  obtain ⟨q2, h1, hf⟩ := ob hf
  refine Y.callSU (x := yX8_minding) (av := [.int l1, .int l2]) dX1_minding_3 (c_X8_minding (l := l) (D := D) (w := q2.1) (k := q2.2) h1) (e_all6 ww_654 ww_1369 ww_210 ww_655 ww_79 ww_656) (Or.inl rfl) ⟨rfl, rfl⟩ (by decide +kernel) mk_X8_minding (o_X8_minding (w := q2.1) (k := q2.2) h1) (e_R_ok (Nat.le_of_ble_eq_true rfl) (Nat.le_of_ble_eq_true rfl)) ⟨rfl, rfl⟩ (by simp [Value.category]) ?_
  refine X.iconst dX1_minding_6 kI_3 ?_
  refine X.idiv dX1_minding_7 (by decide) ?_
  obtain ⟨e1, e2⟩ := e_ret hf
  subst e1
  subst e2
  exact X.iret dX1_minding_8 rfl rfl
/-! LeanedOut$Plaster.leaning(IZII)I -/
abbrev M_X4_leaning : e_M := (yX4_leaning, cX4_leaning, 5, (some .int))
theorem mk_X4_leaning : e_Mok M_X4_leaning 4 := ⟨by decide +kernel, by decide +kernel, by decide +kernel⟩
theorem dX4_leaning_0 : decode cX4_leaning 0 = .ok (.iload_n 2, 1) := by decide +kernel
theorem dX4_leaning_1 : decode cX4_leaning 1 = .ok (.ifCond .eq 7, 3) := by decide +kernel
theorem dX4_leaning_4 : decode cX4_leaning 4 = .ok (.iconst (-1), 1) := by decide +kernel
theorem dX4_leaning_5 : decode cX4_leaning 5 = .ok (.goto 4, 3) := by decide +kernel
theorem dX4_leaning_8 : decode cX4_leaning 8 = .ok (.iconst 0, 1) := by decide +kernel
theorem dX4_leaning_9 : decode cX4_leaning 9 = .ok (.ireturn, 1) := by decide +kernel
def f_X4_leaning (S : e_S) (l0 : Nat) (l1 : Int32) (l2 : Int32) (l3 : Int32) (l4 : Int32) (g : e_G) : Option (Int32 × e_G) :=
  if e_any S l0 = true then
    if l2 = 0 then
      some ((0 : Int32), g)
    else
      some ((-1 : Int32), g)
  else none
theorem o_X4_leaning  {S : e_S} {w : Int32} {k : e_G} {l0 : Nat} {l1 : Int32} {l2 : Int32} {l3 : Int32} {l4 : Int32} {g : e_G} (hf : f_X4_leaning S l0 l1 l2 l3 l4 g = some (w, k)) : e_any S l0 = true := by
  unfold f_X4_leaning at hf
  by_cases hc : e_any S l0 = true
  · exact hc
  · rw [if_neg hc] at hf
    cases hf
theorem c_X4_leaning {l : Launch} {D : va_G}  {S : e_S} {w : Int32} {k : e_G} {l0 : Nat} {l1 : Int32} {l2 : Int32} {l3 : Int32} {l4 : Int32} {g : e_G} (hf : f_X4_leaning S l0 l1 l2 l3 l4 g = some (w, k)) : CT l D (e_R 1) M_X4_leaning [.ref l0, .int l1, .int l2, .int l3, .int l4] (S, g) (some (.int w)) (S, k) := by
  refine CT.of (by decide +kernel) (Nat.le_of_ble_eq_true rfl) ?_
  have ho := o_X4_leaning hf
  unfold f_X4_leaning at hf
  rw [if_pos ho] at hf
  show X l D (e_R 1) M_X4_leaning 0 0 0 [(0, .ref l0), (1, .int l1), (2, .int l2), (3, .int l3), (4, .int l4)] [] (S, g) (some (.int w)) (S, k)
  refine X.iload_n dX4_leaning_0 rfl (j := 2) rfl ?_
  refine X.if_eq dX4_leaning_1 (tgt := 8) rfl (fun hc => ?_) (fun hc => ?_)
  · rw [if_pos hc] at hf
    refine X.iconst dX4_leaning_8 kI_0 ?_
    obtain ⟨e1, e2⟩ := e_ret hf
    subst e1
    subst e2
    exact X.iret dX4_leaning_9 rfl rfl
  · rw [if_neg hc] at hf
    refine X.iconst dX4_leaning_4 kI_m1 ?_
    refine X.goto dX4_leaning_5 (tgt := 9) rfl ?_
    obtain ⟨e1, e2⟩ := e_ret hf
    subst e1
    subst e2
    exact X.iret dX4_leaning_9 rfl rfl
/-! LeanedOut$Plaster.holding(II)I -/
abbrev M_X4_holding : e_M := (yX4_holding, cX4_holding, 3, (some .int))
theorem mk_X4_holding : e_Mok M_X4_holding 2 := ⟨by decide +kernel, by decide +kernel, by decide +kernel⟩
theorem dX4_holding_0 : decode cX4_holding 0 = .ok (.iload_n 2, 1) := by decide +kernel
theorem dX4_holding_1 : decode cX4_holding 1 = .ok (.ireturn, 1) := by decide +kernel
def f_X4_holding (S : e_S) (l0 : Nat) (l1 : Int32) (l2 : Int32) (g : e_G) : Option (Int32 × e_G) :=
  if e_any S l0 = true then
    some (l2, g)
  else none
theorem o_X4_holding  {S : e_S} {w : Int32} {k : e_G} {l0 : Nat} {l1 : Int32} {l2 : Int32} {g : e_G} (hf : f_X4_holding S l0 l1 l2 g = some (w, k)) : e_any S l0 = true := by
  unfold f_X4_holding at hf
  by_cases hc : e_any S l0 = true
  · exact hc
  · rw [if_neg hc] at hf
    cases hf
theorem c_X4_holding {l : Launch} {D : va_G}  {S : e_S} {w : Int32} {k : e_G} {l0 : Nat} {l1 : Int32} {l2 : Int32} {g : e_G} (hf : f_X4_holding S l0 l1 l2 g = some (w, k)) : CT l D (e_R 1) M_X4_holding [.ref l0, .int l1, .int l2] (S, g) (some (.int w)) (S, k) := by
  refine CT.of (by decide +kernel) (Nat.le_of_ble_eq_true rfl) ?_
  have ho := o_X4_holding hf
  unfold f_X4_holding at hf
  rw [if_pos ho] at hf
  show X l D (e_R 1) M_X4_holding 0 0 0 [(0, .ref l0), (1, .int l1), (2, .int l2)] [] (S, g) (some (.int w)) (S, k)
  refine X.iload_n dX4_holding_0 rfl (j := 2) rfl ?_
  obtain ⟨e1, e2⟩ := e_ret hf
  subst e1
  subst e2
  exact X.iret dX4_holding_1 rfl rfl
def dv_leaning (S : e_S) (b : Nat) (a0 : Int32) (a1 : Int32) (a2 : Int32) (a3 : Int32) (g : e_G) : Option (Int32 × e_G) :=
  if e_ob S 3 b = true then f_X3_leaning S b a0 a1 a2 a3 g else
  if e_ob S 2 b = true then f_X2_leaning S b a0 a1 a2 a3 g else
  if e_ob S 8 b = true then f_X3_leaning S b a0 a1 a2 a3 g else
  if e_ob S 0 b = true then f_X0_leaning S b a0 a1 a2 a3 g else
  if e_ob S 1 b = true then f_X1_leaning S b a0 a1 a2 a3 g else
  if e_ob S 4 b = true then f_X4_leaning S b a0 a1 a2 a3 g else
  none
theorem Y.v_leaning {l : Launch} {D : va_G} {n : Nat} {M : e_M} {bc bs pc : Nat} {lc : List (Nat × Value)} {st : List Value} {S : e_S} {g g1 : e_G} {r : Option Value} {h' : e_H} {b : Nat} {a0 : Int32} {a1 : Int32} {a2 : Int32} {a3 : Int32} {w : Int32} (hd : decode M.2.1 pc = .ok (.invokevirtual 117, 3)) (hM : M.1.cls = RX7) (hn : 4 ≤ n) (hst : (st.map fun v => v.category).sum ≤ 8) (hg : dv_leaning S b a0 a1 a2 a3 g = some (w, g1)) (K : X l D (e_R n) M bc bs (pc + 3) lc (.int w :: st) (S, g1) r h') : X l D (e_R n) M bc bs pc lc (.int a3 :: .int a2 :: .int a1 :: .int a0 :: .ref b :: st) (S, g) r h' := by
  unfold dv_leaning at hg
  split at hg
  next ho => exact X.callU (h := (S, g)) (av := [.int a0, .int a1, .int a2, .int a3]) (ci := 3) (x := yX3_leaning) (owner := RX3) hd (c_X3_leaning (l := l) (D := D) hg) (by rw [hM]; exact vw_leaning_3) (by decide) (Or.inl (by decide +kernel)) mk_X3_leaning ho (e_R_ok (by omega) (Nat.le_of_ble_eq_true rfl)) ⟨rfl, rfl⟩ hst K
  split at hg
  next ho => exact X.callU (h := (S, g)) (av := [.int a0, .int a1, .int a2, .int a3]) (ci := 2) (x := yX3_leaning) (owner := RX3) hd (c_X2_leaning (l := l) (D := D) hg) (by rw [hM]; exact vw_leaning_2) (by decide) (Or.inl (by decide +kernel)) mk_X3_leaning ho (e_R_ok (by omega) (Nat.le_of_ble_eq_true rfl)) ⟨rfl, rfl⟩ hst K
  split at hg
  next ho => exact X.callU (h := (S, g)) (av := [.int a0, .int a1, .int a2, .int a3]) (ci := 8) (x := yX3_leaning) (owner := RX3) hd (c_X3_leaning (l := l) (D := D) hg) (by rw [hM]; exact vw_leaning_8) (by decide) (Or.inl (by decide +kernel)) mk_X3_leaning ho (e_R_ok (by omega) (Nat.le_of_ble_eq_true rfl)) ⟨rfl, rfl⟩ hst K
  split at hg
  next ho => exact X.callU (h := (S, g)) (av := [.int a0, .int a1, .int a2, .int a3]) (ci := 0) (x := yX3_leaning) (owner := RX3) hd (c_X0_leaning (l := l) (D := D) hg) (by rw [hM]; exact vw_leaning_0) (by decide) (Or.inl (by decide +kernel)) mk_X3_leaning ho (e_R_ok (by omega) (Nat.le_of_ble_eq_true rfl)) ⟨rfl, rfl⟩ hst K
  split at hg
  next ho => exact X.callU (h := (S, g)) (av := [.int a0, .int a1, .int a2, .int a3]) (ci := 1) (x := yX3_leaning) (owner := RX3) hd (c_X1_leaning (l := l) (D := D) hg) (by rw [hM]; exact vw_leaning_1) (by decide) (Or.inl (by decide +kernel)) mk_X3_leaning ho (e_R_ok (by omega) (Nat.le_of_ble_eq_true rfl)) ⟨rfl, rfl⟩ hst K
  split at hg
  next ho => exact X.callU (h := (S, g)) (av := [.int a0, .int a1, .int a2, .int a3]) (ci := 4) (x := yX3_leaning) (owner := RX3) hd (c_X4_leaning (l := l) (D := D) hg) (by rw [hM]; exact vw_leaning_4) (by decide) (Or.inl (by decide +kernel)) mk_X3_leaning ho (e_R_ok (by omega) (Nat.le_of_ble_eq_true rfl)) ⟨rfl, rfl⟩ hst K
  cases hg
def dv_holding (S : e_S) (b : Nat) (a0 : Int32) (a1 : Int32) (g : e_G) : Option (Int32 × e_G) :=
  if e_ob S 3 b = true then f_X3_holding S b a0 a1 g else
  if e_ob S 2 b = true then f_X3_holding S b a0 a1 g else
  if e_ob S 8 b = true then f_X8_holding S b a0 a1 g else
  if e_ob S 0 b = true then f_X0_holding S b a0 a1 g else
  if e_ob S 1 b = true then f_X8_holding S b a0 a1 g else
  if e_ob S 4 b = true then f_X4_holding S b a0 a1 g else
  none
theorem Y.v_holding {l : Launch} {D : va_G} {n : Nat} {M : e_M} {bc bs pc : Nat} {lc : List (Nat × Value)} {st : List Value} {S : e_S} {g g1 : e_G} {r : Option Value} {h' : e_H} {b : Nat} {a0 : Int32} {a1 : Int32} {w : Int32} (hd : decode M.2.1 pc = .ok (.invokevirtual 123, 3)) (hM : M.1.cls = RX7) (hn : 3 ≤ n) (hst : (st.map fun v => v.category).sum ≤ 8) (hg : dv_holding S b a0 a1 g = some (w, g1)) (K : X l D (e_R n) M bc bs (pc + 3) lc (.int w :: st) (S, g1) r h') : X l D (e_R n) M bc bs pc lc (.int a1 :: .int a0 :: .ref b :: st) (S, g) r h' := by
  unfold dv_holding at hg
  split at hg
  next ho => exact X.callU (h := (S, g)) (av := [.int a0, .int a1]) (ci := 3) (x := yX3_holding) (owner := RX3) hd (c_X3_holding (l := l) (D := D) hg) (by rw [hM]; exact vw_holding_3) (by decide) (Or.inl (by decide +kernel)) mk_X3_holding ho (e_R_ok (by omega) (Nat.le_of_ble_eq_true rfl)) ⟨rfl, rfl⟩ hst K
  split at hg
  next ho => exact X.callU (h := (S, g)) (av := [.int a0, .int a1]) (ci := 2) (x := yX3_holding) (owner := RX3) hd (c_X3_holding (l := l) (D := D) hg) (by rw [hM]; exact vw_holding_2) (by decide) (Or.inl (by decide +kernel)) mk_X3_holding ho (e_R_ok (by omega) (Nat.le_of_ble_eq_true rfl)) ⟨rfl, rfl⟩ hst K
  split at hg
  next ho => exact X.callU (h := (S, g)) (av := [.int a0, .int a1]) (ci := 8) (x := yX3_holding) (owner := RX3) hd (c_X8_holding (l := l) (D := D) hg) (by rw [hM]; exact vw_holding_8) (by decide) (Or.inl (by decide +kernel)) mk_X3_holding ho (e_R_ok (by omega) (Nat.le_of_ble_eq_true rfl)) ⟨rfl, rfl⟩ hst K
  split at hg
  next ho => exact X.callU (h := (S, g)) (av := [.int a0, .int a1]) (ci := 0) (x := yX3_holding) (owner := RX3) hd (c_X0_holding (l := l) (D := D) hg) (by rw [hM]; exact vw_holding_0) (by decide) (Or.inl (by decide +kernel)) mk_X3_holding ho (e_R_ok (by omega) (Nat.le_of_ble_eq_true rfl)) ⟨rfl, rfl⟩ hst K
  split at hg
  next ho => exact X.callU (h := (S, g)) (av := [.int a0, .int a1]) (ci := 1) (x := yX3_holding) (owner := RX3) hd (c_X8_holding (l := l) (D := D) hg) (by rw [hM]; exact vw_holding_1) (by decide) (Or.inl (by decide +kernel)) mk_X3_holding ho (e_R_ok (by omega) (Nat.le_of_ble_eq_true rfl)) ⟨rfl, rfl⟩ hst K
  split at hg
  next ho => exact X.callU (h := (S, g)) (av := [.int a0, .int a1]) (ci := 4) (x := yX3_holding) (owner := RX3) hd (c_X4_holding (l := l) (D := D) hg) (by rw [hM]; exact vw_holding_4) (by decide) (Or.inl (by decide +kernel)) mk_X3_holding ho (e_R_ok (by omega) (Nat.le_of_ble_eq_true rfl)) ⟨rfl, rfl⟩ hst K
  cases hg
def dv_minding (S : e_S) (b : Nat) (a0 : Int32) (a1 : Int32) (g : e_G) : Option (Int32 × e_G) :=
  if e_ob S 3 b = true then f_X3_minding S b a0 a1 g else
  if e_ob S 2 b = true then f_X2_minding S b a0 a1 g else
  if e_ob S 8 b = true then f_X8_minding S b a0 a1 g else
  if e_ob S 0 b = true then f_X2_minding S b a0 a1 g else
  if e_ob S 1 b = true then f_X1_minding S b a0 a1 g else
  if e_ob S 4 b = true then f_X3_minding S b a0 a1 g else
  none
theorem Y.v_minding {l : Launch} {D : va_G} {n : Nat} {M : e_M} {bc bs pc : Nat} {lc : List (Nat × Value)} {st : List Value} {S : e_S} {g g1 : e_G} {r : Option Value} {h' : e_H} {b : Nat} {a0 : Int32} {a1 : Int32} {w : Int32} (hd : decode M.2.1 pc = .ok (.invokevirtual 126, 3)) (hM : M.1.cls = RX7) (hn : 4 ≤ n) (hst : (st.map fun v => v.category).sum ≤ 8) (hg : dv_minding S b a0 a1 g = some (w, g1)) (K : X l D (e_R n) M bc bs (pc + 3) lc (.int w :: st) (S, g1) r h') : X l D (e_R n) M bc bs pc lc (.int a1 :: .int a0 :: .ref b :: st) (S, g) r h' := by
  unfold dv_minding at hg
  split at hg
  next ho => exact X.callU (h := (S, g)) (av := [.int a0, .int a1]) (ci := 3) (x := yX3_minding) (owner := RX3) hd (c_X3_minding (l := l) (D := D) hg) (by rw [hM]; exact vw_minding_3) (by decide) (Or.inr (Or.inl rfl)) mk_X3_minding ho (e_R_ok (by omega) (Nat.le_of_ble_eq_true rfl)) ⟨rfl, rfl⟩ hst K
  split at hg
  next ho => exact X.callU (h := (S, g)) (av := [.int a0, .int a1]) (ci := 2) (x := yX3_minding) (owner := RX3) hd (c_X2_minding (l := l) (D := D) hg) (by rw [hM]; exact vw_minding_2) (by decide) (Or.inr (Or.inr ⟨ww_645, cX3_minding, 3, (some .int), ww_661⟩)) mk_X3_minding ho (e_R_ok (by omega) (Nat.le_of_ble_eq_true rfl)) ⟨rfl, rfl⟩ hst K
  split at hg
  next ho => exact X.callU (h := (S, g)) (av := [.int a0, .int a1]) (ci := 8) (x := yX3_minding) (owner := RX3) hd (c_X8_minding (l := l) (D := D) hg) (by rw [hM]; exact vw_minding_8) (by decide) (Or.inr (Or.inr ⟨ww_645, cX3_minding, 3, (some .int), ww_661⟩)) mk_X3_minding ho (e_R_ok (by omega) (Nat.le_of_ble_eq_true rfl)) ⟨rfl, rfl⟩ hst K
  split at hg
  next ho => exact X.callU (h := (S, g)) (av := [.int a0, .int a1]) (ci := 0) (x := yX3_minding) (owner := RX3) hd (c_X2_minding (l := l) (D := D) hg) (by rw [hM]; exact vw_minding_0) (by decide) (Or.inr (Or.inr ⟨ww_645, cX3_minding, 3, (some .int), ww_661⟩)) mk_X3_minding ho (e_R_ok (by omega) (Nat.le_of_ble_eq_true rfl)) ⟨rfl, rfl⟩ hst K
  split at hg
  next ho => exact X.callU (h := (S, g)) (av := [.int a0, .int a1]) (ci := 1) (x := yX3_minding) (owner := RX3) hd (c_X1_minding (l := l) (D := D) hg) (by rw [hM]; exact vw_minding_1) (by decide) (Or.inr (Or.inr ⟨ww_645, cX3_minding, 3, (some .int), ww_661⟩)) mk_X3_minding ho (e_R_ok (by omega) (Nat.le_of_ble_eq_true rfl)) ⟨rfl, rfl⟩ hst K
  split at hg
  next ho => exact X.callU (h := (S, g)) (av := [.int a0, .int a1]) (ci := 4) (x := yX3_minding) (owner := RX3) hd (c_X3_minding (l := l) (D := D) hg) (by rw [hM]; exact vw_minding_4) (by decide) (Or.inr (Or.inl rfl)) mk_X3_minding ho (e_R_ok (by omega) (Nat.le_of_ble_eq_true rfl)) ⟨rfl, rfl⟩ hst K
  cases hg
