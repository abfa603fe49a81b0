theorem kB_m11 : (Int8.ofInt (-11)).toInt32 = (-11 : Int32) := by decide +kernel
theorem kS_720 : (Int16.ofInt (720)).toInt32 = (720 : Int32) := by decide +kernel
theorem fl_X10_67 : e_FL RX10 67 10 3 := ⟨⟨by decide, by decide⟩, bw (i := 421) (by decide +kernel) rfl⟩
theorem ww_798 : Cond.methodLink RX10 236 yX10_isSheet ∈ e_big := bw (i := 798) (by decide +kernel) rfl
theorem ww_799 : Cond.static yX10_isSheet ∈ e_big := bw (i := 799) (by decide +kernel) rfl
theorem ww_800 : Cond.code yX10_isSheet cX10_isSheet 1 (some .boolean) ∈ e_big := bw (i := 800) (by decide +kernel) rfl
theorem cw_X10_236 : ∀ w ∈ va_wsS RX10 236 yX10_isSheet [Cond.code yX10_isSheet cX10_isSheet 1 (some .boolean)], w ∈ e_big := e_all4 ww_798 ww_799 ww_73 ww_800
theorem fl_X10_17 : e_FL RX10 17 10 1 := ⟨⟨by decide, by decide⟩, bw (i := 419) (by decide +kernel) rfl⟩
theorem ww_801 : Cond.methodLink RX10 253 yX6_isMissing ∈ e_big := bw (i := 801) (by decide +kernel) rfl
theorem ww_802 : Cond.instanceMethod yX6_isMissing ∈ e_big := bw (i := 802) (by decide +kernel) rfl
theorem ww_803 : Cond.selects RX6 yX6_isMissing yX6_isMissing ∈ e_big := bw (i := 803) (by decide +kernel) rfl
theorem ww_804 : Cond.code yX6_isMissing cX6_isMissing 1 (some .boolean) ∈ e_big := bw (i := 804) (by decide +kernel) rfl
theorem cw_X10_253 : ∀ w ∈ wsV RX10 253 RX6 yX6_isMissing [Cond.code yX6_isMissing cX6_isMissing 1 (some .boolean)], w ∈ e_big := e_all5 ww_801 ww_802 ww_803 ww_76 ww_804
theorem fl_X10_287 : e_FL RX10 287 6 2 := ⟨⟨by decide, by decide⟩, bw (i := 167) (by decide +kernel) rfl⟩
theorem ww_794 : Cond.methodLink RX10 233 yX10_refusalOfSheet ∈ e_big := bw (i := 794) (by decide +kernel) rfl
theorem ww_796 : Cond.instanceMethod yX10_refusalOfSheet ∈ e_big := bw (i := 796) (by decide +kernel) rfl
theorem ww_29 : Cond.selects RX10 yX10_refusalOfSheet yX10_refusalOfSheet ∈ e_big := bw (i := 29) (by decide +kernel) rfl
theorem ww_797 : Cond.code yX10_refusalOfSheet cX10_refusalOfSheet 2 (some .int) ∈ e_big := bw (i := 797) (by decide +kernel) rfl
theorem cw_X10_233 : ∀ w ∈ wsV RX10 233 RX10 yX10_refusalOfSheet [Cond.code yX10_refusalOfSheet cX10_refusalOfSheet 2 (some .int)], w ∈ e_big := e_all5 ww_794 ww_796 ww_29 ww_73 ww_797
theorem ww_809 : Cond.methodLink RX10 273 yX6_get ∈ e_big := bw (i := 809) (by decide +kernel) rfl
theorem ww_810 : Cond.instanceMethod yX6_get ∈ e_big := bw (i := 810) (by decide +kernel) rfl
theorem ww_811 : Cond.selects RX6 yX6_get yX6_get ∈ e_big := bw (i := 811) (by decide +kernel) rfl
theorem ww_812 : Cond.code yX6_get cX6_get 2 (some .int) ∈ e_big := bw (i := 812) (by decide +kernel) rfl
theorem cw_X10_273 : ∀ w ∈ wsV RX10 273 RX6 yX6_get [Cond.code yX6_get cX6_get 2 (some .int)], w ∈ e_big := e_all5 ww_809 ww_810 ww_811 ww_76 ww_812
theorem ww_860 : Cond.constantLong RX10 290 (48271) ∈ e_big := bw (i := 860) (by decide +kernel) rfl
theorem ww_861 : Cond.constantLong RX10 292 (2147483647) ∈ e_big := bw (i := 861) (by decide +kernel) rfl
theorem ww_862 : Cond.constantLong RX10 294 (6) ∈ e_big := bw (i := 862) (by decide +kernel) rfl
theorem ww_863 : Cond.constantLong RX10 296 (10) ∈ e_big := bw (i := 863) (by decide +kernel) rfl
theorem ww_717 : Cond.methodLink RX10 189 yX7_become ∈ e_big := bw (i := 717) (by decide +kernel) rfl
theorem ww_718 : Cond.instanceMethod yX7_become ∈ e_big := bw (i := 718) (by decide +kernel) rfl
theorem ww_719 : Cond.selects RX7 yX7_become yX7_become ∈ e_big := bw (i := 719) (by decide +kernel) rfl
theorem ww_720 : Cond.code yX7_become cX7_become 3 none ∈ e_big := bw (i := 720) (by decide +kernel) rfl
theorem cw_X10_189 : ∀ w ∈ wsV RX10 189 RX7 yX7_become [Cond.code yX7_become cX7_become 3 none], w ∈ e_big := e_all5 ww_717 ww_718 ww_719 ww_83 ww_720
theorem ww_782 : Cond.constantLong RX10 220 (-4611686018427387904) ∈ e_big := bw (i := 782) (by decide +kernel) rfl
theorem fl_X10_32 : e_FL RX10 32 10 7 := ⟨⟨by decide, by decide⟩, bw (i := 425) (by decide +kernel) rfl⟩
theorem fl_X10_35 : e_FL RX10 35 10 8 := ⟨⟨by decide, by decide⟩, bw (i := 426) (by decide +kernel) rfl⟩
theorem ww_770 : Cond.methodLink RX10 298 yX10_swapInOrder ∈ e_big := bw (i := 770) (by decide +kernel) rfl
theorem ww_772 : Cond.instanceMethod yX10_swapInOrder ∈ e_big := bw (i := 772) (by decide +kernel) rfl
theorem ww_26 : Cond.selects RX10 yX10_swapInOrder yX10_swapInOrder ∈ e_big := bw (i := 26) (by decide +kernel) rfl
theorem ww_773 : Cond.code yX10_swapInOrder cX10_swapInOrder 4 none ∈ e_big := bw (i := 773) (by decide +kernel) rfl
theorem cw_X10_298 : ∀ w ∈ wsV RX10 298 RX10 yX10_swapInOrder [Cond.code yX10_swapInOrder cX10_swapInOrder 4 none], w ∈ e_big := e_all5 ww_770 ww_772 ww_26 ww_73 ww_773
theorem ww_183 : Cond.classLink RX10 43 RX2 ∈ e_big := bw (i := 183) (by decide +kernel) rfl
theorem ww_190 : Cond.classLink RX10 46 RX8 ∈ e_big := bw (i := 190) (by decide +kernel) rfl
theorem ww_197 : Cond.classLink RX10 49 RX0 ∈ e_big := bw (i := 197) (by decide +kernel) rfl
theorem ww_204 : Cond.classLink RX10 52 RX1 ∈ e_big := bw (i := 204) (by decide +kernel) rfl
theorem ww_211 : Cond.classLink RX10 55 RX4 ∈ e_big := bw (i := 211) (by decide +kernel) rfl
theorem ww_721 : Cond.methodLink RX10 193 yX7_mindingOfTheRest ∈ e_big := bw (i := 721) (by decide +kernel) rfl
theorem ww_722 : Cond.instanceMethod yX7_mindingOfTheRest ∈ e_big := bw (i := 722) (by decide +kernel) rfl
theorem ww_723 : Cond.selects RX7 yX7_mindingOfTheRest yX7_mindingOfTheRest ∈ e_big := bw (i := 723) (by decide +kernel) rfl
theorem ww_724 : Cond.code yX7_mindingOfTheRest cX7_mindingOfTheRest 3 (some .int) ∈ e_big := bw (i := 724) (by decide +kernel) rfl
theorem cw_X10_193 : ∀ w ∈ wsV RX10 193 RX7 yX7_mindingOfTheRest [Cond.code yX7_mindingOfTheRest cX7_mindingOfTheRest 3 (some .int)], w ∈ e_big := e_all5 ww_721 ww_722 ww_723 ww_83 ww_724
theorem ww_726 : Cond.methodLink RX10 196 yX7_leanOfAll ∈ e_big := bw (i := 726) (by decide +kernel) rfl
theorem ww_727 : Cond.instanceMethod yX7_leanOfAll ∈ e_big := bw (i := 727) (by decide +kernel) rfl
theorem ww_728 : Cond.selects RX7 yX7_leanOfAll yX7_leanOfAll ∈ e_big := bw (i := 728) (by decide +kernel) rfl
theorem ww_729 : Cond.code yX7_leanOfAll cX7_leanOfAll 3 (some .int) ∈ e_big := bw (i := 729) (by decide +kernel) rfl
theorem cw_X10_196 : ∀ w ∈ wsV RX10 196 RX7 yX7_leanOfAll [Cond.code yX7_leanOfAll cX7_leanOfAll 3 (some .int)], w ∈ e_big := e_all5 ww_726 ww_727 ww_728 ww_83 ww_729
theorem ww_716 : Cond.constant RX10 188 (-100000) ∈ e_big := bw (i := 716) (by decide +kernel) rfl
theorem ww_734 : Cond.methodLink RX10 199 yX10_daysTillKept ∈ e_big := bw (i := 734) (by decide +kernel) rfl
theorem ww_736 : Cond.instanceMethod yX10_daysTillKept ∈ e_big := bw (i := 736) (by decide +kernel) rfl
theorem ww_21 : Cond.selects RX10 yX10_daysTillKept yX10_daysTillKept ∈ e_big := bw (i := 21) (by decide +kernel) rfl
theorem ww_737 : Cond.code yX10_daysTillKept cX10_daysTillKept 3 (some .int) ∈ e_big := bw (i := 737) (by decide +kernel) rfl
theorem cw_X10_199 : ∀ w ∈ wsV RX10 199 RX10 yX10_daysTillKept [Cond.code yX10_daysTillKept cX10_daysTillKept 3 (some .int)], w ∈ e_big := e_all5 ww_734 ww_736 ww_21 ww_73 ww_737
theorem ww_750 : Cond.methodLink RX10 205 yX10_keptBehind ∈ e_big := bw (i := 750) (by decide +kernel) rfl
theorem ww_752 : Cond.instanceMethod yX10_keptBehind ∈ e_big := bw (i := 752) (by decide +kernel) rfl
theorem ww_22 : Cond.selects RX10 yX10_keptBehind yX10_keptBehind ∈ e_big := bw (i := 22) (by decide +kernel) rfl
theorem ww_753 : Cond.code yX10_keptBehind cX10_keptBehind 3 (some .int) ∈ e_big := bw (i := 753) (by decide +kernel) rfl
theorem cw_X10_205 : ∀ w ∈ wsV RX10 205 RX10 yX10_keptBehind [Cond.code yX10_keptBehind cX10_keptBehind 3 (some .int)], w ∈ e_big := e_all5 ww_750 ww_752 ww_22 ww_73 ww_753
theorem ww_766 : Cond.methodLink RX10 214 yX10_nextOrder ∈ e_big := bw (i := 766) (by decide +kernel) rfl
theorem ww_768 : Cond.instanceMethod yX10_nextOrder ∈ e_big := bw (i := 768) (by decide +kernel) rfl
theorem ww_25 : Cond.selects RX10 yX10_nextOrder yX10_nextOrder ∈ e_big := bw (i := 25) (by decide +kernel) rfl
theorem ww_769 : Cond.code yX10_nextOrder cX10_nextOrder 6 (some .boolean) ∈ e_big := bw (i := 769) (by decide +kernel) rfl
theorem cw_X10_214 : ∀ w ∈ wsV RX10 214 RX10 yX10_nextOrder [Cond.code yX10_nextOrder cX10_nextOrder 6 (some .boolean)], w ∈ e_big := e_all5 ww_766 ww_768 ww_25 ww_73 ww_769
theorem ww_774 : Cond.methodLink RX10 217 yX10_giveLooks ∈ e_big := bw (i := 774) (by decide +kernel) rfl
theorem ww_776 : Cond.instanceMethod yX10_giveLooks ∈ e_big := bw (i := 776) (by decide +kernel) rfl
theorem ww_27 : Cond.selects RX10 yX10_giveLooks yX10_giveLooks ∈ e_big := bw (i := 27) (by decide +kernel) rfl
theorem ww_777 : Cond.code yX10_giveLooks cX10_giveLooks 3 none ∈ e_big := bw (i := 777) (by decide +kernel) rfl
theorem cw_X10_217 : ∀ w ∈ wsV RX10 217 RX10 yX10_giveLooks [Cond.code yX10_giveLooks cX10_giveLooks 3 none], w ∈ e_big := e_all5 ww_774 ww_776 ww_27 ww_73 ww_777
theorem ww_762 : Cond.methodLink RX10 211 yX10_orderDigits ∈ e_big := bw (i := 762) (by decide +kernel) rfl
theorem ww_764 : Cond.instanceMethod yX10_orderDigits ∈ e_big := bw (i := 764) (by decide +kernel) rfl
theorem ww_24 : Cond.selects RX10 yX10_orderDigits yX10_orderDigits ∈ e_big := bw (i := 24) (by decide +kernel) rfl
theorem ww_765 : Cond.code yX10_orderDigits cX10_orderDigits 4 (some .int) ∈ e_big := bw (i := 765) (by decide +kernel) rfl
theorem cw_X10_211 : ∀ w ∈ wsV RX10 211 RX10 yX10_orderDigits [Cond.code yX10_orderDigits cX10_orderDigits 4 (some .int)], w ∈ e_big := e_all5 ww_762 ww_764 ww_24 ww_73 ww_765
theorem ww_758 : Cond.methodLink RX10 208 yX10_gatherMembers ∈ e_big := bw (i := 758) (by decide +kernel) rfl
theorem ww_760 : Cond.instanceMethod yX10_gatherMembers ∈ e_big := bw (i := 760) (by decide +kernel) rfl
theorem ww_23 : Cond.selects RX10 yX10_gatherMembers yX10_gatherMembers ∈ e_big := bw (i := 23) (by decide +kernel) rfl
theorem ww_761 : Cond.code yX10_gatherMembers cX10_gatherMembers 4 (some .int) ∈ e_big := bw (i := 761) (by decide +kernel) rfl
theorem cw_X10_208 : ∀ w ∈ wsV RX10 208 RX10 yX10_gatherMembers [Cond.code yX10_gatherMembers cX10_gatherMembers 4 (some .int)], w ∈ e_big := e_all5 ww_758 ww_760 ww_23 ww_73 ww_761
theorem ww_783 : Cond.methodLink RX10 222 yX10_lowest ∈ e_big := bw (i := 783) (by decide +kernel) rfl
theorem ww_784 : Cond.static yX10_lowest ∈ e_big := bw (i := 784) (by decide +kernel) rfl
theorem ww_785 : Cond.code yX10_lowest cX10_lowest 7 (some .long) ∈ e_big := bw (i := 785) (by decide +kernel) rfl
theorem cw_X10_222 : ∀ w ∈ va_wsS RX10 222 yX10_lowest [Cond.code yX10_lowest cX10_lowest 7 (some .long)], w ∈ e_big := e_all4 ww_783 ww_784 ww_73 ww_785
/-! LeanedOut.daysTillKept(I)I -/
abbrev M_X10_daysTillKept : e_M := (yX10_daysTillKept, cX10_daysTillKept, 3, (some .int))
theorem mk_X10_daysTillKept : e_Mok M_X10_daysTillKept 1 := ⟨by decide +kernel, by decide +kernel, by decide +kernel⟩
theorem dX10_daysTillKept_0 : decode cX10_daysTillKept 0 = .ok (.iconst 0, 1) := by decide +kernel
theorem dX10_daysTillKept_1 : decode cX10_daysTillKept 1 = .ok (.istore_n 2, 1) := by decide +kernel
theorem dX10_daysTillKept_2 : decode cX10_daysTillKept 2 = .ok (.iload_n 2, 1) := by decide +kernel
theorem dX10_daysTillKept_3 : decode cX10_daysTillKept 3 = .ok (.bipush 60, 2) := by decide +kernel
theorem dX10_daysTillKept_5 : decode cX10_daysTillKept 5 = .ok (.if_icmp .gt 31, 3) := by decide +kernel
theorem dX10_daysTillKept_8 : decode cX10_daysTillKept 8 = .ok (.aload_n 0, 1) := by decide +kernel
theorem dX10_daysTillKept_9 : decode cX10_daysTillKept 9 = .ok (.getfield 67, 3) := by decide +kernel
theorem dX10_daysTillKept_12 : decode cX10_daysTillKept 12 = .ok (.getfield 154, 3) := by decide +kernel
theorem dX10_daysTillKept_15 : decode cX10_daysTillKept 15 = .ok (.iload_n 1, 1) := by decide +kernel
theorem dX10_daysTillKept_16 : decode cX10_daysTillKept 16 = .ok (.baload, 1) := by decide +kernel
theorem dX10_daysTillKept_17 : decode cX10_daysTillKept 17 = .ok (.ifCond .eq 5, 3) := by decide +kernel
theorem dX10_daysTillKept_20 : decode cX10_daysTillKept 20 = .ok (.iload_n 2, 1) := by decide +kernel
theorem dX10_daysTillKept_21 : decode cX10_daysTillKept 21 = .ok (.ireturn, 1) := by decide +kernel
theorem dX10_daysTillKept_22 : decode cX10_daysTillKept 22 = .ok (.aload_n 0, 1) := by decide +kernel
theorem dX10_daysTillKept_23 : decode cX10_daysTillKept 23 = .ok (.getfield 67, 3) := by decide +kernel
theorem dX10_daysTillKept_26 : decode cX10_daysTillKept 26 = .ok (.invokevirtual 185, 3) := by decide +kernel
theorem dX10_daysTillKept_29 : decode cX10_daysTillKept 29 = .ok (.pop, 1) := by decide +kernel
theorem dX10_daysTillKept_30 : decode cX10_daysTillKept 30 = .ok (.iinc 2 1, 3) := by decide +kernel
theorem dX10_daysTillKept_33 : decode cX10_daysTillKept 33 = .ok (.goto (-31), 3) := by decide +kernel
theorem dX10_daysTillKept_36 : decode cX10_daysTillKept 36 = .ok (.bipush 61, 2) := by decide +kernel
theorem dX10_daysTillKept_38 : decode cX10_daysTillKept 38 = .ok (.ireturn, 1) := by decide +kernel
def L_X10_daysTillKept_2 : Nat → e_S → Nat → Int32 → Int32 → e_G → Option (Int32 × e_G)
  | 0, _, _, _, _, _ => none
  | n + 1, S, l0, l1, l2, g =>
  if (60 : Int32) < l2 then
    some ((61 : Int32), g)
  else
    (e_gR S g 10 l0 3).bind fun v1 =>
    (e_gR S g 7 v1 5).bind fun v3 =>
    (e_aI S g 1 v3 l1).bind fun v5 =>
    if v5 = 0 then
      (e_gR S g 10 l0 3).bind fun v7 =>
      (f_X7_passDay S v7 g).bind fun q10 =>
      L_X10_daysTillKept_2 n S l0 l1 (l2 + (1 : Int32)) q10.2
    else
      some (l2, g)
def f_X10_daysTillKept (S : e_S) (l0 : Nat) (l1 : Int32) (g : e_G) : Option (Int32 × e_G) :=
  if e_ob S 10 l0 = true then
    L_X10_daysTillKept_2 50000 S l0 l1 (0 : Int32) g
  else none
theorem x_L_X10_daysTillKept_2 {l : Launch} {D : va_G} {S : e_S} {w : Int32} {k : e_G} : ∀ (n : Nat) (l0 : Nat) (l1 : Int32) (l2 : Int32) (g : e_G), L_X10_daysTillKept_2 n S l0 l1 l2 g = some (w, k) → X l D (e_R 6) M_X10_daysTillKept 0 0 2 [(0, .ref l0), (1, .int l1), (2, .int l2)] [] (S, g) (some (.int w)) (S, k) := by
  intro n
  induction n with
  | zero =>
    intro l0 l1 l2 g hf
    cases hf
  | succ n ih =>
    intro l0 l1 l2 g hf
    rw [L_X10_daysTillKept_2] at hf
    refine X.iload_n dX10_daysTillKept_2 rfl (j := 2) rfl ?_
    refine X.bipush dX10_daysTillKept_3 kB_60 ?_
    refine X.icmp_gt dX10_daysTillKept_5 (tgt := 36) rfl (fun hc => ?_) (fun hc => ?_)
    · rw [if_pos hc] at hf
      refine X.bipush dX10_daysTillKept_36 kB_61 ?_
      obtain ⟨e1, e2⟩ := e_ret hf
      subst e1
      subst e2
      exact X.iret dX10_daysTillKept_38 rfl rfl
    · rw [if_neg hc] at hf
      refine X.aload_n dX10_daysTillKept_8 rfl (j := 0) rfl ?_
      obtain ⟨v1, h2, hf⟩ := ob hf
      refine Y.getR dX10_daysTillKept_9 fl_X10_67 rfl h2 ?_
      obtain ⟨v3, h4, hf⟩ := ob hf
      refine Y.getR dX10_daysTillKept_12 fl_X10_154 rfl h4 ?_
      refine X.iload_n dX10_daysTillKept_15 rfl (j := 1) rfl ?_
      obtain ⟨v5, h6, hf⟩ := ob hf
      refine Y.zald dX10_daysTillKept_16 h6 ?_
      refine X.if_eq dX10_daysTillKept_17 (tgt := 22) rfl (fun hc => ?_) (fun hc => ?_)
      · rw [if_pos hc] at hf
        refine X.aload_n dX10_daysTillKept_22 rfl (j := 0) rfl ?_
        obtain ⟨v7, h8, hf⟩ := ob hf
        refine Y.getR dX10_daysTillKept_23 fl_X10_67 rfl h8 ?_
        obtain ⟨q10, h9, hf⟩ := ob hf
        refine Y.callV (av := []) (ci := 7) dX10_daysTillKept_26 (c_X7_passDay (l := l) (D := D) (w := q10.1) (k := q10.2) h9) cw_X10_185 (by decide) rfl mk_X7_passDay (o_X7_passDay (w := q10.1) (k := q10.2) h9) (e_R_ok (Nat.le_of_ble_eq_true rfl) (Nat.le_of_ble_eq_true rfl)) ⟨rfl, rfl⟩ (by simp [Value.category]) ?_
        refine X.pop dX10_daysTillKept_29 rfl ?_
        refine X.iinc (j := 2) dX10_daysTillKept_30 rfl (v := l2 + (1 : Int32)) (by rw [kI_1]) (Nat.le_of_ble_eq_true rfl) (lc' := [(2, .int (l2 + (1 : Int32))), (0, .ref l0), (1, .int l1)]) rfl ?_
        refine X.goto dX10_daysTillKept_33 (tgt := 2) rfl ?_
        refine X.sub [1, 2, 0] rfl ?_
        exact ih _ _ _ _ hf
      · rw [if_neg hc] at hf
        refine X.iload_n dX10_daysTillKept_20 rfl (j := 2) rfl ?_
        obtain ⟨e1, e2⟩ := e_ret hf
        subst e1
        subst e2
        exact X.iret dX10_daysTillKept_21 rfl rfl
theorem o_X10_daysTillKept  {S : e_S} {w : Int32} {k : e_G} {l0 : Nat} {l1 : Int32} {g : e_G} (hf : f_X10_daysTillKept S l0 l1 g = some (w, k)) : e_ob S 10 l0 = true := by
  unfold f_X10_daysTillKept at hf
  by_cases hc : e_ob S 10 l0 = true
  · exact hc
  · rw [if_neg hc] at hf
    cases hf
theorem c_X10_daysTillKept {l : Launch} {D : va_G}  {S : e_S} {w : Int32} {k : e_G} {l0 : Nat} {l1 : Int32} {g : e_G} (hf : f_X10_daysTillKept S l0 l1 g = some (w, k)) : CT l D (e_R 6) M_X10_daysTillKept [.ref l0, .int l1] (S, g) (some (.int w)) (S, k) := by
  refine CT.of (by decide +kernel) (Nat.le_of_ble_eq_true rfl) ?_
  have ho := o_X10_daysTillKept hf
  unfold f_X10_daysTillKept at hf
  rw [if_pos ho] at hf
  show X l D (e_R 6) M_X10_daysTillKept 0 0 0 [(0, .ref l0), (1, .int l1)] [] (S, g) (some (.int w)) (S, k)
  refine X.iconst dX10_daysTillKept_0 kI_0 ?_
  refine X.istore_n dX10_daysTillKept_1 rfl (Nat.le_of_ble_eq_true rfl) (lc' := [(2, .int (0 : Int32)), (0, .ref l0), (1, .int l1)]) rfl ?_
  refine X.sub [1, 2, 0] rfl ?_
  exact x_L_X10_daysTillKept_2 50000 _ _ _ _ hf
/-! LeanedOut.keptBehind(I)I -/
abbrev M_X10_keptBehind : e_M := (yX10_keptBehind, cX10_keptBehind, 3, (some .int))
theorem mk_X10_keptBehind : e_Mok M_X10_keptBehind 1 := ⟨by decide +kernel, by decide +kernel, by decide +kernel⟩
theorem dX10_keptBehind_0 : decode cX10_keptBehind 0 = .ok (.iconst 0, 1) := by decide +kernel
theorem dX10_keptBehind_1 : decode cX10_keptBehind 1 = .ok (.istore_n 2, 1) := by decide +kernel
theorem dX10_keptBehind_2 : decode cX10_keptBehind 2 = .ok (.iload_n 2, 1) := by decide +kernel
theorem dX10_keptBehind_3 : decode cX10_keptBehind 3 = .ok (.iload_n 1, 1) := by decide +kernel
theorem dX10_keptBehind_4 : decode cX10_keptBehind 4 = .ok (.if_icmp .ge 17, 3) := by decide +kernel
theorem dX10_keptBehind_7 : decode cX10_keptBehind 7 = .ok (.aload_n 0, 1) := by decide +kernel
theorem dX10_keptBehind_8 : decode cX10_keptBehind 8 = .ok (.getfield 67, 3) := by decide +kernel
theorem dX10_keptBehind_11 : decode cX10_keptBehind 11 = .ok (.invokevirtual 185, 3) := by decide +kernel
theorem dX10_keptBehind_14 : decode cX10_keptBehind 14 = .ok (.pop, 1) := by decide +kernel
theorem dX10_keptBehind_15 : decode cX10_keptBehind 15 = .ok (.iinc 2 1, 3) := by decide +kernel
theorem dX10_keptBehind_18 : decode cX10_keptBehind 18 = .ok (.goto (-16), 3) := by decide +kernel
theorem dX10_keptBehind_21 : decode cX10_keptBehind 21 = .ok (.aload_n 0, 1) := by decide +kernel
theorem dX10_keptBehind_22 : decode cX10_keptBehind 22 = .ok (.getfield 67, 3) := by decide +kernel
theorem dX10_keptBehind_25 : decode cX10_keptBehind 25 = .ok (.invokevirtual 96, 3) := by decide +kernel
theorem dX10_keptBehind_28 : decode cX10_keptBehind 28 = .ok (.invokestatic 99, 3) := by decide +kernel
theorem dX10_keptBehind_31 : decode cX10_keptBehind 31 = .ok (.ireturn, 1) := by decide +kernel
def L_X10_keptBehind_2 : Nat → e_S → Nat → Int32 → Int32 → e_G → Option (Int32 × e_G)
  | 0, _, _, _, _, _ => none
  | n + 1, S, l0, l1, l2, g =>
  if l1 ≤ l2 then
    (e_gR S g 10 l0 3).bind fun v1 =>
    (f_X7_keptBits S v1 g).bind fun q4 =>
    (f_J6_bitCount_0f7a4 S q4.1 q4.2).bind fun q6 =>
    some (q6.1, q6.2)
  else
    (e_gR S g 10 l0 3).bind fun v7 =>
    (f_X7_passDay S v7 g).bind fun q10 =>
    L_X10_keptBehind_2 n S l0 l1 (l2 + (1 : Int32)) q10.2
def f_X10_keptBehind (S : e_S) (l0 : Nat) (l1 : Int32) (g : e_G) : Option (Int32 × e_G) :=
  if e_ob S 10 l0 = true then
    L_X10_keptBehind_2 50000 S l0 l1 (0 : Int32) g
  else none
theorem x_L_X10_keptBehind_2 {l : Launch} {D : va_G} {S : e_S} {w : Int32} {k : e_G} : ∀ (n : Nat) (l0 : Nat) (l1 : Int32) (l2 : Int32) (g : e_G), L_X10_keptBehind_2 n S l0 l1 l2 g = some (w, k) → X l D (e_R 6) M_X10_keptBehind 0 0 2 [(0, .ref l0), (1, .int l1), (2, .int l2)] [] (S, g) (some (.int w)) (S, k) := by
  intro n
  induction n with
  | zero =>
    intro l0 l1 l2 g hf
    cases hf
  | succ n ih =>
    intro l0 l1 l2 g hf
    rw [L_X10_keptBehind_2] at hf
    refine X.iload_n dX10_keptBehind_2 rfl (j := 2) rfl ?_
    refine X.iload_n dX10_keptBehind_3 rfl (j := 1) rfl ?_
    refine X.icmp_ge dX10_keptBehind_4 (tgt := 21) rfl (fun hc => ?_) (fun hc => ?_)
    · rw [if_pos hc] at hf
      refine X.aload_n dX10_keptBehind_21 rfl (j := 0) rfl ?_
      obtain ⟨v1, h2, hf⟩ := ob hf
      refine Y.getR dX10_keptBehind_22 fl_X10_67 rfl h2 ?_
      obtain ⟨q4, h3, hf⟩ := ob hf
      refine Y.callV (av := []) (ci := 7) dX10_keptBehind_25 (c_X7_keptBits (l := l) (D := D) (w := q4.1) (k := q4.2) h3) cw_X10_96 (by decide) rfl mk_X7_keptBits (o_X7_keptBits (w := q4.1) (k := q4.2) h3) (e_R_ok (Nat.le_of_ble_eq_true rfl) (Nat.le_of_ble_eq_true rfl)) ⟨rfl, rfl⟩ (by simp [Value.category]) ?_
      obtain ⟨q6, h5, hf⟩ := ob hf
      refine Y.callS (av := [.int q4.1]) dX10_keptBehind_28 (c_J6_bitCount_0f7a4 (l := l) (D := D) (w := q6.1) (k := q6.2) h5) cw_X10_99 mk_J6_bitCount_0f7a4 (e_R_ok (Nat.le_of_ble_eq_true rfl) (Nat.le_of_ble_eq_true rfl)) ⟨rfl, rfl⟩ (by simp [Value.category]) ?_
      obtain ⟨e1, e2⟩ := e_ret hf
      subst e1
      subst e2
      exact X.iret dX10_keptBehind_31 rfl rfl
    · rw [if_neg hc] at hf
      refine X.aload_n dX10_keptBehind_7 rfl (j := 0) rfl ?_
      obtain ⟨v7, h8, hf⟩ := ob hf
      refine Y.getR dX10_keptBehind_8 fl_X10_67 rfl h8 ?_
      obtain ⟨q10, h9, hf⟩ := ob hf
      refine Y.callV (av := []) (ci := 7) dX10_keptBehind_11 (c_X7_passDay (l := l) (D := D) (w := q10.1) (k := q10.2) h9) cw_X10_185 (by decide) rfl mk_X7_passDay (o_X7_passDay (w := q10.1) (k := q10.2) h9) (e_R_ok (Nat.le_of_ble_eq_true rfl) (Nat.le_of_ble_eq_true rfl)) ⟨rfl, rfl⟩ (by simp [Value.category]) ?_
      refine X.pop dX10_keptBehind_14 rfl ?_
      refine X.iinc (j := 2) dX10_keptBehind_15 rfl (v := l2 + (1 : Int32)) (by rw [kI_1]) (Nat.le_of_ble_eq_true rfl) (lc' := [(2, .int (l2 + (1 : Int32))), (0, .ref l0), (1, .int l1)]) rfl ?_
      refine X.goto dX10_keptBehind_18 (tgt := 2) rfl ?_
      refine X.sub [1, 2, 0] rfl ?_
      exact ih _ _ _ _ hf
theorem o_X10_keptBehind  {S : e_S} {w : Int32} {k : e_G} {l0 : Nat} {l1 : Int32} {g : e_G} (hf : f_X10_keptBehind S l0 l1 g = some (w, k)) : e_ob S 10 l0 = true := by
  unfold f_X10_keptBehind at hf
  by_cases hc : e_ob S 10 l0 = true
  · exact hc
  · rw [if_neg hc] at hf
    cases hf
theorem c_X10_keptBehind {l : Launch} {D : va_G}  {S : e_S} {w : Int32} {k : e_G} {l0 : Nat} {l1 : Int32} {g : e_G} (hf : f_X10_keptBehind S l0 l1 g = some (w, k)) : CT l D (e_R 6) M_X10_keptBehind [.ref l0, .int l1] (S, g) (some (.int w)) (S, k) := by
  refine CT.of (by decide +kernel) (Nat.le_of_ble_eq_true rfl) ?_
  have ho := o_X10_keptBehind hf
  unfold f_X10_keptBehind at hf
  rw [if_pos ho] at hf
  show X l D (e_R 6) M_X10_keptBehind 0 0 0 [(0, .ref l0), (1, .int l1)] [] (S, g) (some (.int w)) (S, k)
  refine X.iconst dX10_keptBehind_0 kI_0 ?_
  refine X.istore_n dX10_keptBehind_1 rfl (Nat.le_of_ble_eq_true rfl) (lc' := [(2, .int (0 : Int32)), (0, .ref l0), (1, .int l1)]) rfl ?_
  refine X.sub [1, 2, 0] rfl ?_
  exact x_L_X10_keptBehind_2 50000 _ _ _ _ hf
/-! LeanedOut.refusalOfSheet(I)I -/
abbrev M_X10_refusalOfSheet : e_M := (yX10_refusalOfSheet, cX10_refusalOfSheet, 2, (some .int))
theorem mk_X10_refusalOfSheet : e_Mok M_X10_refusalOfSheet 1 := ⟨by decide +kernel, by decide +kernel, by decide +kernel⟩
theorem dX10_refusalOfSheet_0 : decode cX10_refusalOfSheet 0 = .ok (.iload_n 1, 1) := by decide +kernel
theorem dX10_refusalOfSheet_1 : decode cX10_refusalOfSheet 1 = .ok (.invokestatic 236, 3) := by decide +kernel
theorem dX10_refusalOfSheet_4 : decode cX10_refusalOfSheet 4 = .ok (.ifCond .ne 6, 3) := by decide +kernel
theorem dX10_refusalOfSheet_7 : decode cX10_refusalOfSheet 7 = .ok (.bipush (-2), 2) := by decide +kernel
theorem dX10_refusalOfSheet_9 : decode cX10_refusalOfSheet 9 = .ok (.ireturn, 1) := by decide +kernel
theorem dX10_refusalOfSheet_10 : decode cX10_refusalOfSheet 10 = .ok (.aload_n 0, 1) := by decide +kernel
theorem dX10_refusalOfSheet_11 : decode cX10_refusalOfSheet 11 = .ok (.getfield 17, 3) := by decide +kernel
theorem dX10_refusalOfSheet_14 : decode cX10_refusalOfSheet 14 = .ok (.iload_n 1, 1) := by decide +kernel
theorem dX10_refusalOfSheet_15 : decode cX10_refusalOfSheet 15 = .ok (.aaload, 1) := by decide +kernel
theorem dX10_refusalOfSheet_16 : decode cX10_refusalOfSheet 16 = .ok (.invokevirtual 253, 3) := by decide +kernel
theorem dX10_refusalOfSheet_19 : decode cX10_refusalOfSheet 19 = .ok (.ifCond .eq 6, 3) := by decide +kernel
theorem dX10_refusalOfSheet_22 : decode cX10_refusalOfSheet 22 = .ok (.bipush (-11), 2) := by decide +kernel
theorem dX10_refusalOfSheet_24 : decode cX10_refusalOfSheet 24 = .ok (.ireturn, 1) := by decide +kernel
theorem dX10_refusalOfSheet_25 : decode cX10_refusalOfSheet 25 = .ok (.aload_n 0, 1) := by decide +kernel
theorem dX10_refusalOfSheet_26 : decode cX10_refusalOfSheet 26 = .ok (.getfield 17, 3) := by decide +kernel
theorem dX10_refusalOfSheet_29 : decode cX10_refusalOfSheet 29 = .ok (.iload_n 1, 1) := by decide +kernel
theorem dX10_refusalOfSheet_30 : decode cX10_refusalOfSheet 30 = .ok (.aaload, 1) := by decide +kernel
theorem dX10_refusalOfSheet_31 : decode cX10_refusalOfSheet 31 = .ok (.getfield 287, 3) := by decide +kernel
theorem dX10_refusalOfSheet_34 : decode cX10_refusalOfSheet 34 = .ok (.bipush 20, 2) := by decide +kernel
theorem dX10_refusalOfSheet_36 : decode cX10_refusalOfSheet 36 = .ok (.if_icmp .le 8, 3) := by decide +kernel
theorem dX10_refusalOfSheet_39 : decode cX10_refusalOfSheet 39 = .ok (.bipush (-2), 2) := by decide +kernel
theorem dX10_refusalOfSheet_41 : decode cX10_refusalOfSheet 41 = .ok (.goto 4, 3) := by decide +kernel
theorem dX10_refusalOfSheet_44 : decode cX10_refusalOfSheet 44 = .ok (.iconst 0, 1) := by decide +kernel
theorem dX10_refusalOfSheet_45 : decode cX10_refusalOfSheet 45 = .ok (.ireturn, 1) := by decide +kernel
def f_X10_refusalOfSheet (S : e_S) (l0 : Nat) (l1 : Int32) (g : e_G) : Option (Int32 × e_G) :=
  if e_ob S 10 l0 = true then
    (f_X10_isSheet S l1 g).bind fun q2 =>
    if q2.1 = 0 then
      some ((-2 : Int32), q2.2)
    else
      (e_gR S q2.2 10 l0 1).bind fun v3 =>
      (e_aR S q2.2 4 v3 l1).bind fun v5 =>
      (f_X6_isMissing S v5 q2.2).bind fun q8 =>
      if q8.1 = 0 then
        (e_gR S q8.2 10 l0 1).bind fun v9 =>
        (e_aR S q8.2 4 v9 l1).bind fun v11 =>
        (e_gI S q8.2 6 v11 2).bind fun v13 =>
        if v13 ≤ (20 : Int32) then
          some ((0 : Int32), q8.2)
        else
          some ((-2 : Int32), q8.2)
      else
        some ((-11 : Int32), q8.2)
  else none
theorem o_X10_refusalOfSheet  {S : e_S} {w : Int32} {k : e_G} {l0 : Nat} {l1 : Int32} {g : e_G} (hf : f_X10_refusalOfSheet S l0 l1 g = some (w, k)) : e_ob S 10 l0 = true := by
  unfold f_X10_refusalOfSheet at hf
  by_cases hc : e_ob S 10 l0 = true
  · exact hc
  · rw [if_neg hc] at hf
    cases hf
theorem c_X10_refusalOfSheet {l : Launch} {D : va_G}  {S : e_S} {w : Int32} {k : e_G} {l0 : Nat} {l1 : Int32} {g : e_G} (hf : f_X10_refusalOfSheet S l0 l1 g = some (w, k)) : CT l D (e_R 2) M_X10_refusalOfSheet [.ref l0, .int l1] (S, g) (some (.int w)) (S, k) := by
  refine CT.of (by decide +kernel) (Nat.le_of_ble_eq_true rfl) ?_
  have ho := o_X10_refusalOfSheet hf
  unfold f_X10_refusalOfSheet at hf
  rw [if_pos ho] at hf
  show X l D (e_R 2) M_X10_refusalOfSheet 0 0 0 [(0, .ref l0), (1, .int l1)] [] (S, g) (some (.int w)) (S, k)
  refine X.iload_n dX10_refusalOfSheet_0 rfl (j := 1) rfl ?_
  obtain ⟨q2, h1, hf⟩ := ob hf
  refine Y.callS (av := [.int l1]) dX10_refusalOfSheet_1 (c_X10_isSheet (l := l) (D := D) (w := q2.1) (k := q2.2) h1) cw_X10_236 mk_X10_isSheet (e_R_ok (Nat.le_of_ble_eq_true rfl) (Nat.le_of_ble_eq_true rfl)) ⟨rfl, rfl⟩ (by simp [Value.category]) ?_
  refine X.if_ne dX10_refusalOfSheet_4 (tgt := 10) rfl (fun hc => ?_) (fun hc => ?_)
  · rw [if_neg hc] at hf
    refine X.aload_n dX10_refusalOfSheet_10 rfl (j := 0) rfl ?_
    obtain ⟨v3, h4, hf⟩ := ob hf
    refine Y.getR dX10_refusalOfSheet_11 fl_X10_17 rfl h4 ?_
    refine X.iload_n dX10_refusalOfSheet_14 rfl (j := 1) rfl ?_
    obtain ⟨v5, h6, hf⟩ := ob hf
    refine Y.aald dX10_refusalOfSheet_15 (kd := 4) (by decide) h6 ?_
    obtain ⟨q8, h7, hf⟩ := ob hf
    refine Y.callV (av := []) (ci := 6) dX10_refusalOfSheet_16 (c_X6_isMissing (l := l) (D := D) (w := q8.1) (k := q8.2) h7) cw_X10_253 (by decide) rfl mk_X6_isMissing (o_X6_isMissing (w := q8.1) (k := q8.2) h7) (e_R_ok (Nat.le_of_ble_eq_true rfl) (Nat.le_of_ble_eq_true rfl)) ⟨rfl, rfl⟩ (by simp [Value.category]) ?_
    refine X.if_eq dX10_refusalOfSheet_19 (tgt := 25) rfl (fun hc => ?_) (fun hc => ?_)
    · rw [if_pos hc] at hf
      refine X.aload_n dX10_refusalOfSheet_25 rfl (j := 0) rfl ?_
      obtain ⟨v9, h10, hf⟩ := ob hf
      refine Y.getR dX10_refusalOfSheet_26 fl_X10_17 rfl h10 ?_
      refine X.iload_n dX10_refusalOfSheet_29 rfl (j := 1) rfl ?_
      obtain ⟨v11, h12, hf⟩ := ob hf
      refine Y.aald dX10_refusalOfSheet_30 (kd := 4) (by decide) h12 ?_
      obtain ⟨v13, h14, hf⟩ := ob hf
      refine Y.getI dX10_refusalOfSheet_31 fl_X10_287 rfl h14 ?_
      refine X.bipush dX10_refusalOfSheet_34 kB_20 ?_
      refine X.icmp_le dX10_refusalOfSheet_36 (tgt := 44) rfl (fun hc => ?_) (fun hc => ?_)
      · rw [if_pos hc] at hf
        refine X.iconst dX10_refusalOfSheet_44 kI_0 ?_
        obtain ⟨e1, e2⟩ := e_ret hf
        subst e1
        subst e2
        exact X.iret dX10_refusalOfSheet_45 rfl rfl
      · rw [if_neg hc] at hf
        refine X.bipush dX10_refusalOfSheet_39 kB_m2 ?_
        refine X.goto dX10_refusalOfSheet_41 (tgt := 45) rfl ?_
        obtain ⟨e1, e2⟩ := e_ret hf
        subst e1
        subst e2
        exact X.iret dX10_refusalOfSheet_45 rfl rfl
    · rw [if_neg hc] at hf
      refine X.bipush dX10_refusalOfSheet_22 kB_m11 ?_
      obtain ⟨e1, e2⟩ := e_ret hf
      subst e1
      subst e2
      exact X.iret dX10_refusalOfSheet_24 rfl rfl
  · rw [if_pos hc] at hf
    refine X.bipush dX10_refusalOfSheet_7 kB_m2 ?_
    obtain ⟨e1, e2⟩ := e_ret hf
    subst e1
    subst e2
    exact X.iret dX10_refusalOfSheet_9 rfl rfl
/-! LeanedOut.refusalOf(II)I -/
abbrev M_X10_refusalOf : e_M := (yX10_refusalOf, cX10_refusalOf, 4, (some .int))
theorem mk_X10_refusalOf : e_Mok M_X10_refusalOf 2 := ⟨by decide +kernel, by decide +kernel, by decide +kernel⟩
theorem dX10_refusalOf_0 : decode cX10_refusalOf 0 = .ok (.aload_n 0, 1) := by decide +kernel
theorem dX10_refusalOf_1 : decode cX10_refusalOf 1 = .ok (.iload_n 1, 1) := by decide +kernel
theorem dX10_refusalOf_2 : decode cX10_refusalOf 2 = .ok (.invokevirtual 233, 3) := by decide +kernel
theorem dX10_refusalOf_5 : decode cX10_refusalOf 5 = .ok (.istore_n 3, 1) := by decide +kernel
theorem dX10_refusalOf_6 : decode cX10_refusalOf 6 = .ok (.iload_n 3, 1) := by decide +kernel
theorem dX10_refusalOf_7 : decode cX10_refusalOf 7 = .ok (.ifCond .eq 5, 3) := by decide +kernel
theorem dX10_refusalOf_10 : decode cX10_refusalOf 10 = .ok (.iload_n 3, 1) := by decide +kernel
theorem dX10_refusalOf_11 : decode cX10_refusalOf 11 = .ok (.ireturn, 1) := by decide +kernel
theorem dX10_refusalOf_12 : decode cX10_refusalOf 12 = .ok (.aload_n 0, 1) := by decide +kernel
theorem dX10_refusalOf_13 : decode cX10_refusalOf 13 = .ok (.getfield 63, 3) := by decide +kernel
theorem dX10_refusalOf_16 : decode cX10_refusalOf 16 = .ok (.iload_n 2, 1) := by decide +kernel
theorem dX10_refusalOf_17 : decode cX10_refusalOf 17 = .ok (.invokevirtual 122, 3) := by decide +kernel
theorem dX10_refusalOf_20 : decode cX10_refusalOf 20 = .ok (.ifCond .eq 7, 3) := by decide +kernel
theorem dX10_refusalOf_23 : decode cX10_refusalOf 23 = .ok (.iconst 0, 1) := by decide +kernel
theorem dX10_refusalOf_24 : decode cX10_refusalOf 24 = .ok (.goto 5, 3) := by decide +kernel
theorem dX10_refusalOf_27 : decode cX10_refusalOf 27 = .ok (.bipush (-5), 2) := by decide +kernel
theorem dX10_refusalOf_29 : decode cX10_refusalOf 29 = .ok (.ireturn, 1) := by decide +kernel
def f_X10_refusalOf (S : e_S) (l0 : Nat) (l1 : Int32) (l2 : Int32) (g : e_G) : Option (Int32 × e_G) :=
  if e_ob S 10 l0 = true then
    (f_X10_refusalOfSheet S l0 l1 g).bind fun q2 =>
    if q2.1 = 0 then
      (e_gR S q2.2 10 l0 2).bind fun v3 =>
      (f_X7_has S v3 l2 q2.2).bind fun q6 =>
      if q6.1 = 0 then
        some ((-5 : Int32), q6.2)
      else
        some ((0 : Int32), q6.2)
    else
      some (q2.1, q2.2)
  else none
theorem o_X10_refusalOf  {S : e_S} {w : Int32} {k : e_G} {l0 : Nat} {l1 : Int32} {l2 : Int32} {g : e_G} (hf : f_X10_refusalOf S l0 l1 l2 g = some (w, k)) : e_ob S 10 l0 = true := by
  unfold f_X10_refusalOf at hf
  by_cases hc : e_ob S 10 l0 = true
  · exact hc
  · rw [if_neg hc] at hf
    cases hf
theorem c_X10_refusalOf {l : Launch} {D : va_G}  {S : e_S} {w : Int32} {k : e_G} {l0 : Nat} {l1 : Int32} {l2 : Int32} {g : e_G} (hf : f_X10_refusalOf S l0 l1 l2 g = some (w, k)) : CT l D (e_R 3) M_X10_refusalOf [.ref l0, .int l1, .int l2] (S, g) (some (.int w)) (S, k) := by
  refine CT.of (by decide +kernel) (Nat.le_of_ble_eq_true rfl) ?_
  have ho := o_X10_refusalOf hf
  unfold f_X10_refusalOf at hf
  rw [if_pos ho] at hf
  show X l D (e_R 3) M_X10_refusalOf 0 0 0 [(0, .ref l0), (1, .int l1), (2, .int l2)] [] (S, g) (some (.int w)) (S, k)
  refine X.aload_n dX10_refusalOf_0 rfl (j := 0) rfl ?_
  refine X.iload_n dX10_refusalOf_1 rfl (j := 1) rfl ?_
  obtain ⟨q2, h1, hf⟩ := ob hf
  refine Y.callV (av := [.int l1]) (ci := 10) dX10_refusalOf_2 (c_X10_refusalOfSheet (l := l) (D := D) (w := q2.1) (k := q2.2) h1) cw_X10_233 (by decide) rfl mk_X10_refusalOfSheet (o_X10_refusalOfSheet (w := q2.1) (k := q2.2) h1) (e_R_ok (Nat.le_of_ble_eq_true rfl) (Nat.le_of_ble_eq_true rfl)) ⟨rfl, rfl⟩ (by simp [Value.category]) ?_
  refine X.istore_n dX10_refusalOf_5 rfl (Nat.le_of_ble_eq_true rfl) (lc' := [(3, .int q2.1), (0, .ref l0), (1, .int l1), (2, .int l2)]) rfl ?_
  refine X.iload_n dX10_refusalOf_6 rfl (j := 0) rfl ?_
  refine X.if_eq dX10_refusalOf_7 (tgt := 12) rfl (fun hc => ?_) (fun hc => ?_)
  · rw [if_pos hc] at hf
    refine X.aload_n dX10_refusalOf_12 rfl (j := 1) rfl ?_
    obtain ⟨v3, h4, hf⟩ := ob hf
    refine Y.getR dX10_refusalOf_13 fl_X10_63 rfl h4 ?_
    refine X.iload_n dX10_refusalOf_16 rfl (j := 3) rfl ?_
    obtain ⟨q6, h5, hf⟩ := ob hf
    refine Y.callV (av := [.int l2]) (ci := 7) dX10_refusalOf_17 (c_X7_has (l := l) (D := D) (w := q6.1) (k := q6.2) h5) cw_X10_122 (by decide) rfl mk_X7_has (o_X7_has (w := q6.1) (k := q6.2) h5) (e_R_ok (Nat.le_of_ble_eq_true rfl) (Nat.le_of_ble_eq_true rfl)) ⟨rfl, rfl⟩ (by simp [Value.category]) ?_
    refine X.if_eq dX10_refusalOf_20 (tgt := 27) rfl (fun hc => ?_) (fun hc => ?_)
    · rw [if_pos hc] at hf
      refine X.bipush dX10_refusalOf_27 kB_m5 ?_
      obtain ⟨e1, e2⟩ := e_ret hf
      subst e1
      subst e2
      exact X.iret dX10_refusalOf_29 rfl rfl
    · rw [if_neg hc] at hf
      refine X.iconst dX10_refusalOf_23 kI_0 ?_
      refine X.goto dX10_refusalOf_24 (tgt := 29) rfl ?_
      obtain ⟨e1, e2⟩ := e_ret hf
      subst e1
      subst e2
      exact X.iret dX10_refusalOf_29 rfl rfl
  · rw [if_neg hc] at hf
    refine X.iload_n dX10_refusalOf_10 rfl (j := 0) rfl ?_
    obtain ⟨e1, e2⟩ := e_ret hf
    subst e1
    subst e2
    exact X.iret dX10_refusalOf_11 rfl rfl
/-! LeanedOut.firstOtherwise(LLeanedOut$Sheet;I)I -/
abbrev M_X10_firstOtherwise : e_M := (yX10_firstOtherwise, cX10_firstOtherwise, 4, (some .int))
theorem mk_X10_firstOtherwise : e_Mok M_X10_firstOtherwise 2 := ⟨by decide +kernel, by decide +kernel, by decide +kernel⟩
theorem dX10_firstOtherwise_0 : decode cX10_firstOtherwise 0 = .ok (.iconst 0, 1) := by decide +kernel
theorem dX10_firstOtherwise_1 : decode cX10_firstOtherwise 1 = .ok (.istore_n 3, 1) := by decide +kernel
theorem dX10_firstOtherwise_2 : decode cX10_firstOtherwise 2 = .ok (.iload_n 3, 1) := by decide +kernel
theorem dX10_firstOtherwise_3 : decode cX10_firstOtherwise 3 = .ok (.aload_n 1, 1) := by decide +kernel
theorem dX10_firstOtherwise_4 : decode cX10_firstOtherwise 4 = .ok (.getfield 287, 3) := by decide +kernel
theorem dX10_firstOtherwise_7 : decode cX10_firstOtherwise 7 = .ok (.if_icmp .ge 36, 3) := by decide +kernel
theorem dX10_firstOtherwise_10 : decode cX10_firstOtherwise 10 = .ok (.aload_n 0, 1) := by decide +kernel
theorem dX10_firstOtherwise_11 : decode cX10_firstOtherwise 11 = .ok (.getfield 67, 3) := by decide +kernel
theorem dX10_firstOtherwise_14 : decode cX10_firstOtherwise 14 = .ok (.invokevirtual 185, 3) := by decide +kernel
theorem dX10_firstOtherwise_17 : decode cX10_firstOtherwise 17 = .ok (.pop, 1) := by decide +kernel
theorem dX10_firstOtherwise_18 : decode cX10_firstOtherwise 18 = .ok (.aload_n 0, 1) := by decide +kernel
theorem dX10_firstOtherwise_19 : decode cX10_firstOtherwise 19 = .ok (.getfield 67, 3) := by decide +kernel
theorem dX10_firstOtherwise_22 : decode cX10_firstOtherwise 22 = .ok (.getfield 142, 3) := by decide +kernel
theorem dX10_firstOtherwise_25 : decode cX10_firstOtherwise 25 = .ok (.iload_n 2, 1) := by decide +kernel
theorem dX10_firstOtherwise_26 : decode cX10_firstOtherwise 26 = .ok (.iaload, 1) := by decide +kernel
theorem dX10_firstOtherwise_27 : decode cX10_firstOtherwise 27 = .ok (.aload_n 1, 1) := by decide +kernel
theorem dX10_firstOtherwise_28 : decode cX10_firstOtherwise 28 = .ok (.iload_n 3, 1) := by decide +kernel
theorem dX10_firstOtherwise_29 : decode cX10_firstOtherwise 29 = .ok (.invokevirtual 273, 3) := by decide +kernel
theorem dX10_firstOtherwise_32 : decode cX10_firstOtherwise 32 = .ok (.if_icmp .eq 5, 3) := by decide +kernel
theorem dX10_firstOtherwise_35 : decode cX10_firstOtherwise 35 = .ok (.iload_n 3, 1) := by decide +kernel
theorem dX10_firstOtherwise_36 : decode cX10_firstOtherwise 36 = .ok (.ireturn, 1) := by decide +kernel
theorem dX10_firstOtherwise_37 : decode cX10_firstOtherwise 37 = .ok (.iinc 3 1, 3) := by decide +kernel
theorem dX10_firstOtherwise_40 : decode cX10_firstOtherwise 40 = .ok (.goto (-38), 3) := by decide +kernel
theorem dX10_firstOtherwise_43 : decode cX10_firstOtherwise 43 = .ok (.iconst (-1), 1) := by decide +kernel
theorem dX10_firstOtherwise_44 : decode cX10_firstOtherwise 44 = .ok (.ireturn, 1) := by decide +kernel
def L_X10_firstOtherwise_2 : Nat → e_S → Nat → Nat → Int32 → Int32 → e_G → Option (Int32 × e_G)
  | 0, _, _, _, _, _, _ => none
  | n + 1, S, l0, l1, l2, l3, g =>
  (e_gI S g 6 l1 2).bind fun v1 =>
  if v1 ≤ l3 then
    some ((-1 : Int32), g)
  else
    (e_gR S g 10 l0 3).bind fun v3 =>
    (f_X7_passDay S v3 g).bind fun q6 =>
    (e_gR S q6.2 10 l0 3).bind fun v7 =>
    (e_gR S q6.2 7 v7 2).bind fun v9 =>
    (e_aI S q6.2 0 v9 l2).bind fun v11 =>
    (f_X6_get S l1 l3 q6.2).bind fun q14 =>
    if v11 = q14.1 then
      L_X10_firstOtherwise_2 n S l0 l1 l2 (l3 + (1 : Int32)) q14.2
    else
      some (l3, q14.2)
def f_X10_firstOtherwise (S : e_S) (l0 : Nat) (l1 : Nat) (l2 : Int32) (g : e_G) : Option (Int32 × e_G) :=
  if e_ob S 10 l0 = true then
    L_X10_firstOtherwise_2 50000 S l0 l1 l2 (0 : Int32) g
  else none
theorem x_L_X10_firstOtherwise_2 {l : Launch} {D : va_G} {S : e_S} {w : Int32} {k : e_G} : ∀ (n : Nat) (l0 : Nat) (l1 : Nat) (l2 : Int32) (l3 : Int32) (g : e_G), L_X10_firstOtherwise_2 n S l0 l1 l2 l3 g = some (w, k) → X l D (e_R 6) M_X10_firstOtherwise 0 0 2 [(0, .ref l0), (1, .ref l1), (2, .int l2), (3, .int l3)] [] (S, g) (some (.int w)) (S, k) := by
  intro n
  induction n with
  | zero =>
    intro l0 l1 l2 l3 g hf
    cases hf
  | succ n ih =>
    intro l0 l1 l2 l3 g hf
    rw [L_X10_firstOtherwise_2] at hf
    refine X.iload_n dX10_firstOtherwise_2 rfl (j := 3) rfl ?_
    refine X.aload_n dX10_firstOtherwise_3 rfl (j := 1) rfl ?_
    obtain ⟨v1, h2, hf⟩ := ob hf
    refine Y.getI dX10_firstOtherwise_4 fl_X10_287 rfl h2 ?_
    refine X.icmp_ge dX10_firstOtherwise_7 (tgt := 43) rfl (fun hc => ?_) (fun hc => ?_)
    · rw [if_pos hc] at hf
      refine X.iconst dX10_firstOtherwise_43 kI_m1 ?_
      obtain ⟨e1, e2⟩ := e_ret hf
      subst e1
      subst e2
      exact X.iret dX10_firstOtherwise_44 rfl rfl
    · rw [if_neg hc] at hf
      refine X.aload_n dX10_firstOtherwise_10 rfl (j := 0) rfl ?_
      obtain ⟨v3, h4, hf⟩ := ob hf
      refine Y.getR dX10_firstOtherwise_11 fl_X10_67 rfl h4 ?_
      obtain ⟨q6, h5, hf⟩ := ob hf
      refine Y.callV (av := []) (ci := 7) dX10_firstOtherwise_14 (c_X7_passDay (l := l) (D := D) (w := q6.1) (k := q6.2) h5) cw_X10_185 (by decide) rfl mk_X7_passDay (o_X7_passDay (w := q6.1) (k := q6.2) h5) (e_R_ok (Nat.le_of_ble_eq_true rfl) (Nat.le_of_ble_eq_true rfl)) ⟨rfl, rfl⟩ (by simp [Value.category]) ?_
      refine X.pop dX10_firstOtherwise_17 rfl ?_
      refine X.aload_n dX10_firstOtherwise_18 rfl (j := 0) rfl ?_
      obtain ⟨v7, h8, hf⟩ := ob hf
      refine Y.getR dX10_firstOtherwise_19 fl_X10_67 rfl h8 ?_
      obtain ⟨v9, h10, hf⟩ := ob hf
      refine Y.getR dX10_firstOtherwise_22 fl_X10_142 rfl h10 ?_
      refine X.iload_n dX10_firstOtherwise_25 rfl (j := 2) rfl ?_
      obtain ⟨v11, h12, hf⟩ := ob hf
      refine Y.iald dX10_firstOtherwise_26 h12 ?_
      refine X.aload_n dX10_firstOtherwise_27 rfl (j := 1) rfl ?_
      refine X.iload_n dX10_firstOtherwise_28 rfl (j := 3) rfl ?_
      obtain ⟨q14, h13, hf⟩ := ob hf
      refine Y.callV (av := [.int l3]) (ci := 6) dX10_firstOtherwise_29 (c_X6_get (l := l) (D := D) (w := q14.1) (k := q14.2) h13) cw_X10_273 (by decide) rfl mk_X6_get (o_X6_get (w := q14.1) (k := q14.2) h13) (e_R_ok (Nat.le_of_ble_eq_true rfl) (Nat.le_of_ble_eq_true rfl)) ⟨rfl, rfl⟩ (by simp [Value.category]) ?_
      refine X.icmp_eq dX10_firstOtherwise_32 (tgt := 37) rfl (fun hc => ?_) (fun hc => ?_)
      · rw [if_pos hc] at hf
        refine X.iinc (j := 3) dX10_firstOtherwise_37 rfl (v := l3 + (1 : Int32)) (by rw [kI_1]) (Nat.le_of_ble_eq_true rfl) (lc' := [(3, .int (l3 + (1 : Int32))), (0, .ref l0), (1, .ref l1), (2, .int l2)]) rfl ?_
        refine X.goto dX10_firstOtherwise_40 (tgt := 2) rfl ?_
        refine X.sub [1, 2, 3, 0] rfl ?_
        exact ih _ _ _ _ _ hf
      · rw [if_neg hc] at hf
        refine X.iload_n dX10_firstOtherwise_35 rfl (j := 3) rfl ?_
        obtain ⟨e1, e2⟩ := e_ret hf
        subst e1
        subst e2
        exact X.iret dX10_firstOtherwise_36 rfl rfl
theorem o_X10_firstOtherwise  {S : e_S} {w : Int32} {k : e_G} {l0 : Nat} {l1 : Nat} {l2 : Int32} {g : e_G} (hf : f_X10_firstOtherwise S l0 l1 l2 g = some (w, k)) : e_ob S 10 l0 = true := by
  unfold f_X10_firstOtherwise at hf
  by_cases hc : e_ob S 10 l0 = true
  · exact hc
  · rw [if_neg hc] at hf
    cases hf
theorem c_X10_firstOtherwise {l : Launch} {D : va_G}  {S : e_S} {w : Int32} {k : e_G} {l0 : Nat} {l1 : Nat} {l2 : Int32} {g : e_G} (hf : f_X10_firstOtherwise S l0 l1 l2 g = some (w, k)) : CT l D (e_R 6) M_X10_firstOtherwise [.ref l0, .ref l1, .int l2] (S, g) (some (.int w)) (S, k) := by
  refine CT.of (by decide +kernel) (Nat.le_of_ble_eq_true rfl) ?_
  have ho := o_X10_firstOtherwise hf
  unfold f_X10_firstOtherwise at hf
  rw [if_pos ho] at hf
  show X l D (e_R 6) M_X10_firstOtherwise 0 0 0 [(0, .ref l0), (1, .ref l1), (2, .int l2)] [] (S, g) (some (.int w)) (S, k)
  refine X.iconst dX10_firstOtherwise_0 kI_0 ?_
  refine X.istore_n dX10_firstOtherwise_1 rfl (Nat.le_of_ble_eq_true rfl) (lc' := [(3, .int (0 : Int32)), (0, .ref l0), (1, .ref l1), (2, .int l2)]) rfl ?_
  refine X.sub [1, 2, 3, 0] rfl ?_
  exact x_L_X10_firstOtherwise_2 50000 _ _ _ _ _ hf
/-! LeanedOut.passCraneDays(I)V -/
abbrev M_X10_passCraneDays : e_M := (yX10_passCraneDays, cX10_passCraneDays, 7, none)
theorem mk_X10_passCraneDays : e_Mok M_X10_passCraneDays 1 := ⟨by decide +kernel, by decide +kernel, by decide +kernel⟩
theorem dX10_passCraneDays_0 : decode cX10_passCraneDays 0 = .ok (.aload_n 0, 1) := by decide +kernel
theorem dX10_passCraneDays_1 : decode cX10_passCraneDays 1 = .ok (.getfield 67, 3) := by decide +kernel
theorem dX10_passCraneDays_4 : decode cX10_passCraneDays 4 = .ok (.aload_n 0, 1) := by decide +kernel
theorem dX10_passCraneDays_5 : decode cX10_passCraneDays 5 = .ok (.getfield 63, 3) := by decide +kernel
theorem dX10_passCraneDays_8 : decode cX10_passCraneDays 8 = .ok (.invokevirtual 189, 3) := by decide +kernel
theorem dX10_passCraneDays_11 : decode cX10_passCraneDays 11 = .ok (.iload_n 1, 1) := by decide +kernel
theorem dX10_passCraneDays_12 : decode cX10_passCraneDays 12 = .ok (.i2l, 1) := by decide +kernel
theorem dX10_passCraneDays_13 : decode cX10_passCraneDays 13 = .ok (.lconst 1, 1) := by decide +kernel
theorem dX10_passCraneDays_14 : decode cX10_passCraneDays 14 = .ok (.ladd, 1) := by decide +kernel
theorem dX10_passCraneDays_15 : decode cX10_passCraneDays 15 = .ok (.lstore_n 2, 1) := by decide +kernel
theorem dX10_passCraneDays_16 : decode cX10_passCraneDays 16 = .ok (.iconst 0, 1) := by decide +kernel
theorem dX10_passCraneDays_17 : decode cX10_passCraneDays 17 = .ok (.istore 4, 2) := by decide +kernel
theorem dX10_passCraneDays_19 : decode cX10_passCraneDays 19 = .ok (.iload 4, 2) := by decide +kernel
theorem dX10_passCraneDays_21 : decode cX10_passCraneDays 21 = .ok (.bipush 8, 2) := by decide +kernel
theorem dX10_passCraneDays_23 : decode cX10_passCraneDays 23 = .ok (.if_icmp .ge 100, 3) := by decide +kernel
theorem dX10_passCraneDays_26 : decode cX10_passCraneDays 26 = .ok (.lload_n 2, 1) := by decide +kernel
theorem dX10_passCraneDays_27 : decode cX10_passCraneDays 27 = .ok (.ldc2_w 290, 3) := by decide +kernel
theorem dX10_passCraneDays_30 : decode cX10_passCraneDays 30 = .ok (.lmul, 1) := by decide +kernel
theorem dX10_passCraneDays_31 : decode cX10_passCraneDays 31 = .ok (.ldc2_w 292, 3) := by decide +kernel
theorem dX10_passCraneDays_34 : decode cX10_passCraneDays 34 = .ok (.lrem, 1) := by decide +kernel
theorem dX10_passCraneDays_35 : decode cX10_passCraneDays 35 = .ok (.lstore_n 2, 1) := by decide +kernel
theorem dX10_passCraneDays_36 : decode cX10_passCraneDays 36 = .ok (.lload_n 2, 1) := by decide +kernel
theorem dX10_passCraneDays_37 : decode cX10_passCraneDays 37 = .ok (.ldc2_w 294, 3) := by decide +kernel
theorem dX10_passCraneDays_40 : decode cX10_passCraneDays 40 = .ok (.lrem, 1) := by decide +kernel
theorem dX10_passCraneDays_41 : decode cX10_passCraneDays 41 = .ok (.l2i, 1) := by decide +kernel
theorem dX10_passCraneDays_42 : decode cX10_passCraneDays 42 = .ok (.istore 5, 2) := by decide +kernel
theorem dX10_passCraneDays_44 : decode cX10_passCraneDays 44 = .ok (.lload_n 2, 1) := by decide +kernel
theorem dX10_passCraneDays_45 : decode cX10_passCraneDays 45 = .ok (.ldc2_w 290, 3) := by decide +kernel
theorem dX10_passCraneDays_48 : decode cX10_passCraneDays 48 = .ok (.lmul, 1) := by decide +kernel
theorem dX10_passCraneDays_49 : decode cX10_passCraneDays 49 = .ok (.ldc2_w 292, 3) := by decide +kernel
theorem dX10_passCraneDays_52 : decode cX10_passCraneDays 52 = .ok (.lrem, 1) := by decide +kernel
theorem dX10_passCraneDays_53 : decode cX10_passCraneDays 53 = .ok (.lstore_n 2, 1) := by decide +kernel
theorem dX10_passCraneDays_54 : decode cX10_passCraneDays 54 = .ok (.lload_n 2, 1) := by decide +kernel
theorem dX10_passCraneDays_55 : decode cX10_passCraneDays 55 = .ok (.ldc2_w 296, 3) := by decide +kernel
theorem dX10_passCraneDays_58 : decode cX10_passCraneDays 58 = .ok (.lrem, 1) := by decide +kernel
theorem dX10_passCraneDays_59 : decode cX10_passCraneDays 59 = .ok (.l2i, 1) := by decide +kernel
theorem dX10_passCraneDays_60 : decode cX10_passCraneDays 60 = .ok (.istore 6, 2) := by decide +kernel
theorem dX10_passCraneDays_62 : decode cX10_passCraneDays 62 = .ok (.aload_n 0, 1) := by decide +kernel
theorem dX10_passCraneDays_63 : decode cX10_passCraneDays 63 = .ok (.getfield 67, 3) := by decide +kernel
theorem dX10_passCraneDays_66 : decode cX10_passCraneDays 66 = .ok (.iload 5, 2) := by decide +kernel
theorem dX10_passCraneDays_68 : decode cX10_passCraneDays 68 = .ok (.invokevirtual 122, 3) := by decide +kernel
theorem dX10_passCraneDays_71 : decode cX10_passCraneDays 71 = .ok (.ifCond .eq 38, 3) := by decide +kernel
theorem dX10_passCraneDays_74 : decode cX10_passCraneDays 74 = .ok (.aload_n 0, 1) := by decide +kernel
theorem dX10_passCraneDays_75 : decode cX10_passCraneDays 75 = .ok (.getfield 67, 3) := by decide +kernel
theorem dX10_passCraneDays_78 : decode cX10_passCraneDays 78 = .ok (.getfield 145, 3) := by decide +kernel
theorem dX10_passCraneDays_81 : decode cX10_passCraneDays 81 = .ok (.iload 5, 2) := by decide +kernel
theorem dX10_passCraneDays_83 : decode cX10_passCraneDays 83 = .ok (.aload_n 0, 1) := by decide +kernel
theorem dX10_passCraneDays_84 : decode cX10_passCraneDays 84 = .ok (.getfield 67, 3) := by decide +kernel
theorem dX10_passCraneDays_87 : decode cX10_passCraneDays 87 = .ok (.getfield 136, 3) := by decide +kernel
theorem dX10_passCraneDays_90 : decode cX10_passCraneDays 90 = .ok (.iload 5, 2) := by decide +kernel
theorem dX10_passCraneDays_92 : decode cX10_passCraneDays 92 = .ok (.iaload, 1) := by decide +kernel
theorem dX10_passCraneDays_93 : decode cX10_passCraneDays 93 = .ok (.bipush 10, 2) := by decide +kernel
theorem dX10_passCraneDays_95 : decode cX10_passCraneDays 95 = .ok (.if_icmp .ge 11, 3) := by decide +kernel
theorem dX10_passCraneDays_98 : decode cX10_passCraneDays 98 = .ok (.bipush 10, 2) := by decide +kernel
theorem dX10_passCraneDays_100 : decode cX10_passCraneDays 100 = .ok (.iload 6, 2) := by decide +kernel
theorem dX10_passCraneDays_102 : decode cX10_passCraneDays 102 = .ok (.iadd, 1) := by decide +kernel
theorem dX10_passCraneDays_103 : decode cX10_passCraneDays 103 = .ok (.goto 5, 3) := by decide +kernel
theorem dX10_passCraneDays_106 : decode cX10_passCraneDays 106 = .ok (.iload 6, 2) := by decide +kernel
theorem dX10_passCraneDays_108 : decode cX10_passCraneDays 108 = .ok (.iastore, 1) := by decide +kernel
theorem dX10_passCraneDays_109 : decode cX10_passCraneDays 109 = .ok (.aload_n 0, 1) := by decide +kernel
theorem dX10_passCraneDays_110 : decode cX10_passCraneDays 110 = .ok (.getfield 67, 3) := by decide +kernel
theorem dX10_passCraneDays_113 : decode cX10_passCraneDays 113 = .ok (.invokevirtual 185, 3) := by decide +kernel
theorem dX10_passCraneDays_116 : decode cX10_passCraneDays 116 = .ok (.pop, 1) := by decide +kernel
theorem dX10_passCraneDays_117 : decode cX10_passCraneDays 117 = .ok (.iinc 4 1, 3) := by decide +kernel
theorem dX10_passCraneDays_120 : decode cX10_passCraneDays 120 = .ok (.goto (-101), 3) := by decide +kernel
theorem dX10_passCraneDays_123 : decode cX10_passCraneDays 123 = .ok (.return_, 1) := by decide +kernel
def J_X10_passCraneDays_109 (c19 : Nat → Int64 → Int32 → e_G → Option (e_G)) (S : e_S) (l0 : Nat) (l2 : Int64) (l4 : Int32) (g : e_G) : Option (e_G) :=
  (e_gR S g 10 l0 3).bind fun v1 =>
  (f_X7_passDay S v1 g).bind fun q4 =>
  c19 l0 l2 (l4 + (1 : Int32)) q4.2
def J_X10_passCraneDays_108 (c19 : Nat → Int64 → Int32 → e_G → Option (e_G)) (S : e_S) (l0 : Nat) (l2 : Int64) (l4 : Int32) (t0 : Nat) (t1 : Int32) (t2 : Int32) (g : e_G) : Option (e_G) :=
  (e_aS S g 0 t0 t1 t2).bind fun g1 =>
  J_X10_passCraneDays_109 c19 S l0 l2 l4 g1
def L_X10_passCraneDays_19 : Nat → e_S → Nat → Int64 → Int32 → e_G → Option (e_G)
  | 0, _, _, _, _, _ => none
  | n + 1, S, l0, l2, l4, g =>
  if (8 : Int32) ≤ l4 then
    some g
  else
    (e_gR S g 10 l0 3).bind fun v1 =>
    (f_X7_has S v1 ((l_rem (l_rem (l2 * (48271 : Int64)) (2147483647 : Int64)) (6 : Int64)).toInt32) g).bind fun q4 =>
    if q4.1 = 0 then
      J_X10_passCraneDays_109 (L_X10_passCraneDays_19 n S) S l0 (l_rem ((l_rem (l2 * (48271 : Int64)) (2147483647 : Int64)) * (48271 : Int64)) (2147483647 : Int64)) l4 q4.2
    else
      (e_gR S q4.2 10 l0 3).bind fun v5 =>
      (e_gR S q4.2 7 v5 1).bind fun v7 =>
      (e_gR S q4.2 10 l0 3).bind fun v9 =>
      (e_gR S q4.2 7 v9 0).bind fun v11 =>
      (e_aI S q4.2 0 v11 ((l_rem (l_rem (l2 * (48271 : Int64)) (2147483647 : Int64)) (6 : Int64)).toInt32)).bind fun v13 =>
      if (10 : Int32) ≤ v13 then
        J_X10_passCraneDays_108 (L_X10_passCraneDays_19 n S) S l0 (l_rem ((l_rem (l2 * (48271 : Int64)) (2147483647 : Int64)) * (48271 : Int64)) (2147483647 : Int64)) l4 v7 ((l_rem (l_rem (l2 * (48271 : Int64)) (2147483647 : Int64)) (6 : Int64)).toInt32) ((l_rem (l_rem ((l_rem (l2 * (48271 : Int64)) (2147483647 : Int64)) * (48271 : Int64)) (2147483647 : Int64)) (10 : Int64)).toInt32) q4.2
      else
        J_X10_passCraneDays_108 (L_X10_passCraneDays_19 n S) S l0 (l_rem ((l_rem (l2 * (48271 : Int64)) (2147483647 : Int64)) * (48271 : Int64)) (2147483647 : Int64)) l4 v7 ((l_rem (l_rem (l2 * (48271 : Int64)) (2147483647 : Int64)) (6 : Int64)).toInt32) ((10 : Int32) + ((l_rem (l_rem ((l_rem (l2 * (48271 : Int64)) (2147483647 : Int64)) * (48271 : Int64)) (2147483647 : Int64)) (10 : Int64)).toInt32)) q4.2
def f_X10_passCraneDays (S : e_S) (l0 : Nat) (l1 : Int32) (g : e_G) : Option (e_G) :=
  if e_ob S 10 l0 = true then
    (e_gR S g 10 l0 3).bind fun v1 =>
    (e_gR S g 10 l0 2).bind fun v3 =>
    (f_X7_become S v1 v3 g).bind fun q6 =>
    L_X10_passCraneDays_19 50000 S l0 (l1.toInt64 + (1 : Int64)) (0 : Int32) q6
  else none
theorem x_J_X10_passCraneDays_109 {l : Launch} {D : va_G} {S : e_S} {k : e_G} (c19 : Nat → Int64 → Int32 → e_G → Option (e_G)) (hc19 : ∀ (l0 : Nat) (l2 : Int64) (l4 : Int32) (g : e_G), c19 l0 l2 l4 g = some k → X l D (e_R 6) M_X10_passCraneDays 0 0 19 [(0, .ref l0), (2, .long l2), (4, .int l4)] [] (S, g) none (S, k)) {l0 : Nat} {l2 : Int64} {l4 : Int32} {g : e_G} (hf : J_X10_passCraneDays_109 c19 S l0 l2 l4 g = some k) : X l D (e_R 6) M_X10_passCraneDays 0 0 109 [(0, .ref l0), (2, .long l2), (4, .int l4)] [] (S, g) none (S, k) := by
  unfold J_X10_passCraneDays_109 at hf
  refine X.aload_n dX10_passCraneDays_109 rfl (j := 0) rfl ?_
  obtain ⟨v1, h2, hf⟩ := ob hf
  refine Y.getR dX10_passCraneDays_110 fl_X10_67 rfl h2 ?_
  obtain ⟨q4, h3, hf⟩ := ob hf
  refine Y.callV (av := []) (ci := 7) dX10_passCraneDays_113 (c_X7_passDay (l := l) (D := D) (w := q4.1) (k := q4.2) h3) cw_X10_185 (by decide) rfl mk_X7_passDay (o_X7_passDay (w := q4.1) (k := q4.2) h3) (e_R_ok (Nat.le_of_ble_eq_true rfl) (Nat.le_of_ble_eq_true rfl)) ⟨rfl, rfl⟩ (by simp [Value.category]) ?_
  refine X.pop dX10_passCraneDays_116 rfl ?_
  refine X.iinc (j := 2) dX10_passCraneDays_117 rfl (v := l4 + (1 : Int32)) (by rw [kI_1]) (Nat.le_of_ble_eq_true rfl) (lc' := [(4, .int (l4 + (1 : Int32))), (0, .ref l0), (2, .long l2)]) rfl ?_
  refine X.goto dX10_passCraneDays_120 (tgt := 19) rfl ?_
  refine X.sub [1, 2, 0] rfl ?_
  exact hc19 _ _ _ _ hf
theorem x_J_X10_passCraneDays_108 {l : Launch} {D : va_G} {S : e_S} {k : e_G} (c19 : Nat → Int64 → Int32 → e_G → Option (e_G)) (hc19 : ∀ (l0 : Nat) (l2 : Int64) (l4 : Int32) (g : e_G), c19 l0 l2 l4 g = some k → X l D (e_R 6) M_X10_passCraneDays 0 0 19 [(0, .ref l0), (2, .long l2), (4, .int l4)] [] (S, g) none (S, k)) {l0 : Nat} {l2 : Int64} {l4 : Int32} {t0 : Nat} {t1 : Int32} {t2 : Int32} {g : e_G} (hf : J_X10_passCraneDays_108 c19 S l0 l2 l4 t0 t1 t2 g = some k) : X l D (e_R 6) M_X10_passCraneDays 0 0 108 [(0, .ref l0), (2, .long l2), (4, .int l4)] [.int t2, .int t1, .ref t0] (S, g) none (S, k) := by
  unfold J_X10_passCraneDays_108 at hf
  obtain ⟨g1, h2, hf⟩ := ob hf
  refine Y.iast dX10_passCraneDays_108 h2 ?_
  exact x_J_X10_passCraneDays_109 _ hc19 hf
theorem x_L_X10_passCraneDays_19 {l : Launch} {D : va_G} {S : e_S} {k : e_G} : ∀ (n : Nat) (l0 : Nat) (l2 : Int64) (l4 : Int32) (g : e_G), L_X10_passCraneDays_19 n S l0 l2 l4 g = some k → X l D (e_R 6) M_X10_passCraneDays 0 0 19 [(0, .ref l0), (2, .long l2), (4, .int l4)] [] (S, g) none (S, k) := by
  intro n
  induction n with
  | zero =>
    intro l0 l2 l4 g hf
    cases hf
  | succ n ih =>
    intro l0 l2 l4 g hf
    rw [L_X10_passCraneDays_19] at hf
    refine X.iload dX10_passCraneDays_19 (j := 2) rfl ?_
    refine X.bipush dX10_passCraneDays_21 kB_8 ?_
    refine X.icmp_ge dX10_passCraneDays_23 (tgt := 123) rfl (fun hc => ?_) (fun hc => ?_)
    · rw [if_pos hc] at hf
      have e1 := Option.some.inj hf
      subst e1
      exact X.vret dX10_passCraneDays_123 rfl
    · rw [if_neg hc] at hf
      refine X.lload_n dX10_passCraneDays_26 rfl (j := 1) rfl ?_
      refine X.ldc2 dX10_passCraneDays_27 ww_860 ?_
      refine X.lmul dX10_passCraneDays_30 ?_
      refine X.ldc2 dX10_passCraneDays_31 ww_861 ?_
      refine Y.lrem dX10_passCraneDays_34 (by decide) ?_
      refine X.lstore_n dX10_passCraneDays_35 rfl (Nat.le_of_ble_eq_true rfl) (lc' := [(2, .long (l_rem (l2 * (48271 : Int64)) (2147483647 : Int64))), (0, .ref l0), (4, .int l4)]) rfl ?_
      refine X.lload_n dX10_passCraneDays_36 rfl (j := 0) rfl ?_
      refine X.ldc2 dX10_passCraneDays_37 ww_862 ?_
      refine Y.lrem dX10_passCraneDays_40 (by decide) ?_
      refine X.l2i dX10_passCraneDays_41 ?_
      refine X.istore dX10_passCraneDays_42 (Nat.le_of_ble_eq_true rfl) (lc' := [(5, .int ((l_rem (l_rem (l2 * (48271 : Int64)) (2147483647 : Int64)) (6 : Int64)).toInt32)), (2, .long (l_rem (l2 * (48271 : Int64)) (2147483647 : Int64))), (0, .ref l0), (4, .int l4)]) rfl ?_
      refine X.lload_n dX10_passCraneDays_44 rfl (j := 1) rfl ?_
      refine X.ldc2 dX10_passCraneDays_45 ww_860 ?_
      refine X.lmul dX10_passCraneDays_48 ?_
      refine X.ldc2 dX10_passCraneDays_49 ww_861 ?_
      refine Y.lrem dX10_passCraneDays_52 (by decide) ?_
      refine X.lstore_n dX10_passCraneDays_53 rfl (Nat.le_of_ble_eq_true rfl) (lc' := [(2, .long (l_rem ((l_rem (l2 * (48271 : Int64)) (2147483647 : Int64)) * (48271 : Int64)) (2147483647 : Int64))), (5, .int ((l_rem (l_rem (l2 * (48271 : Int64)) (2147483647 : Int64)) (6 : Int64)).toInt32)), (0, .ref l0), (4, .int l4)]) rfl ?_
      refine X.lload_n dX10_passCraneDays_54 rfl (j := 0) rfl ?_
      refine X.ldc2 dX10_passCraneDays_55 ww_863 ?_
      refine Y.lrem dX10_passCraneDays_58 (by decide) ?_
      refine X.l2i dX10_passCraneDays_59 ?_
      refine X.istore dX10_passCraneDays_60 (Nat.le_of_ble_eq_true rfl) (lc' := [(6, .int ((l_rem (l_rem ((l_rem (l2 * (48271 : Int64)) (2147483647 : Int64)) * (48271 : Int64)) (2147483647 : Int64)) (10 : Int64)).toInt32)), (2, .long (l_rem ((l_rem (l2 * (48271 : Int64)) (2147483647 : Int64)) * (48271 : Int64)) (2147483647 : Int64))), (5, .int ((l_rem (l_rem (l2 * (48271 : Int64)) (2147483647 : Int64)) (6 : Int64)).toInt32)), (0, .ref l0), (4, .int l4)]) rfl ?_
      refine X.aload_n dX10_passCraneDays_62 rfl (j := 3) rfl ?_
      obtain ⟨v1, h2, hf⟩ := ob hf
      refine Y.getR dX10_passCraneDays_63 fl_X10_67 rfl h2 ?_
      refine X.iload dX10_passCraneDays_66 (j := 2) rfl ?_
      obtain ⟨q4, h3, hf⟩ := ob hf
      refine Y.callV (av := [.int ((l_rem (l_rem (l2 * (48271 : Int64)) (2147483647 : Int64)) (6 : Int64)).toInt32)]) (ci := 7) dX10_passCraneDays_68 (c_X7_has (l := l) (D := D) (w := q4.1) (k := q4.2) h3) cw_X10_122 (by decide) rfl mk_X7_has (o_X7_has (w := q4.1) (k := q4.2) h3) (e_R_ok (Nat.le_of_ble_eq_true rfl) (Nat.le_of_ble_eq_true rfl)) ⟨rfl, rfl⟩ (by simp [Value.category]) ?_
      refine X.if_eq dX10_passCraneDays_71 (tgt := 109) rfl (fun hc => ?_) (fun hc => ?_)
      · rw [if_pos hc] at hf
        refine X.sub [3, 1, 4] rfl ?_
        exact x_J_X10_passCraneDays_109 _ ih hf
      · rw [if_neg hc] at hf
        refine X.aload_n dX10_passCraneDays_74 rfl (j := 3) rfl ?_
        obtain ⟨v5, h6, hf⟩ := ob hf
        refine Y.getR dX10_passCraneDays_75 fl_X10_67 rfl h6 ?_
        obtain ⟨v7, h8, hf⟩ := ob hf
        refine Y.getR dX10_passCraneDays_78 fl_X10_145 rfl h8 ?_
        refine X.iload dX10_passCraneDays_81 (j := 2) rfl ?_
        refine X.aload_n dX10_passCraneDays_83 rfl (j := 3) rfl ?_
        obtain ⟨v9, h10, hf⟩ := ob hf
        refine Y.getR dX10_passCraneDays_84 fl_X10_67 rfl h10 ?_
        obtain ⟨v11, h12, hf⟩ := ob hf
        refine Y.getR dX10_passCraneDays_87 fl_X10_136 rfl h12 ?_
        refine X.iload dX10_passCraneDays_90 (j := 2) rfl ?_
        obtain ⟨v13, h14, hf⟩ := ob hf
        refine Y.iald dX10_passCraneDays_92 h14 ?_
        refine X.bipush dX10_passCraneDays_93 kB_10 ?_
        refine X.icmp_ge dX10_passCraneDays_95 (tgt := 106) rfl (fun hc => ?_) (fun hc => ?_)
        · rw [if_pos hc] at hf
          refine X.iload dX10_passCraneDays_106 (j := 0) rfl ?_
          refine X.sub [3, 1, 4] rfl ?_
          exact x_J_X10_passCraneDays_108 _ ih hf
        · rw [if_neg hc] at hf
          refine X.bipush dX10_passCraneDays_98 kB_10 ?_
          refine X.iload dX10_passCraneDays_100 (j := 0) rfl ?_
          refine X.iadd dX10_passCraneDays_102 ?_
          refine X.goto dX10_passCraneDays_103 (tgt := 108) rfl ?_
          refine X.sub [3, 1, 4] rfl ?_
          exact x_J_X10_passCraneDays_108 _ ih hf
theorem o_X10_passCraneDays  {S : e_S} {k : e_G} {l0 : Nat} {l1 : Int32} {g : e_G} (hf : f_X10_passCraneDays S l0 l1 g = some k) : e_ob S 10 l0 = true := by
  unfold f_X10_passCraneDays at hf
  by_cases hc : e_ob S 10 l0 = true
  · exact hc
  · rw [if_neg hc] at hf
    cases hf
theorem c_X10_passCraneDays {l : Launch} {D : va_G}  {S : e_S} {k : e_G} {l0 : Nat} {l1 : Int32} {g : e_G} (hf : f_X10_passCraneDays S l0 l1 g = some k) : CT l D (e_R 6) M_X10_passCraneDays [.ref l0, .int l1] (S, g) none (S, k) := by
  refine CT.of (by decide +kernel) (Nat.le_of_ble_eq_true rfl) ?_
  have ho := o_X10_passCraneDays hf
  unfold f_X10_passCraneDays at hf
  rw [if_pos ho] at hf
  show X l D (e_R 6) M_X10_passCraneDays 0 0 0 [(0, .ref l0), (1, .int l1)] [] (S, g) none (S, k)
  refine X.aload_n dX10_passCraneDays_0 rfl (j := 0) rfl ?_
  obtain ⟨v1, h2, hf⟩ := ob hf
  refine Y.getR dX10_passCraneDays_1 fl_X10_67 rfl h2 ?_
  refine X.aload_n dX10_passCraneDays_4 rfl (j := 0) rfl ?_
  obtain ⟨v3, h4, hf⟩ := ob hf
  refine Y.getR dX10_passCraneDays_5 fl_X10_63 rfl h4 ?_
  obtain ⟨q6, h5, hf⟩ := ob hf
  refine Y.callV (av := [.ref v3]) (ci := 7) dX10_passCraneDays_8 (c_X7_become (l := l) (D := D) h5) cw_X10_189 (by decide) rfl mk_X7_become (o_X7_become (k := q6) h5) (e_R_ok (Nat.le_of_ble_eq_true rfl) (Nat.le_of_ble_eq_true rfl)) ⟨rfl, rfl⟩ (by simp [Value.category]) ?_
  refine X.iload_n dX10_passCraneDays_11 rfl (j := 1) rfl ?_
  refine X.i2l dX10_passCraneDays_12 ?_
  refine X.lconst dX10_passCraneDays_13 (v := (1 : Int64)) rfl ?_
  refine X.ladd dX10_passCraneDays_14 ?_
  refine X.lstore_n dX10_passCraneDays_15 rfl (Nat.le_of_ble_eq_true rfl) (lc' := [(2, .long (l1.toInt64 + (1 : Int64))), (0, .ref l0), (1, .int l1)]) rfl ?_
  refine X.iconst dX10_passCraneDays_16 kI_0 ?_
  refine X.istore dX10_passCraneDays_17 (Nat.le_of_ble_eq_true rfl) (lc' := [(4, .int (0 : Int32)), (2, .long (l1.toInt64 + (1 : Int64))), (0, .ref l0), (1, .int l1)]) rfl ?_
  refine X.sub [2, 1, 0] rfl ?_
  exact x_L_X10_passCraneDays_19 50000 _ _ _ _ hf
/-! LeanedOut.lowest(III)J -/
abbrev M_X10_lowest : e_M := (yX10_lowest, cX10_lowest, 7, (some .long))
theorem mk_X10_lowest : e_Mok M_X10_lowest 3 := ⟨by decide +kernel, by decide +kernel, by decide +kernel⟩
theorem dX10_lowest_0 : decode cX10_lowest 0 = .ok (.iload_n 0, 1) := by decide +kernel
theorem dX10_lowest_1 : decode cX10_lowest 1 = .ok (.istore_n 3, 1) := by decide +kernel
theorem dX10_lowest_2 : decode cX10_lowest 2 = .ok (.iload_n 1, 1) := by decide +kernel
theorem dX10_lowest_3 : decode cX10_lowest 3 = .ok (.istore 4, 2) := by decide +kernel
theorem dX10_lowest_5 : decode cX10_lowest 5 = .ok (.iconst 0, 1) := by decide +kernel
theorem dX10_lowest_6 : decode cX10_lowest 6 = .ok (.istore 5, 2) := by decide +kernel
theorem dX10_lowest_8 : decode cX10_lowest 8 = .ok (.iload 5, 2) := by decide +kernel
theorem dX10_lowest_10 : decode cX10_lowest 10 = .ok (.bipush 100, 2) := by decide +kernel
theorem dX10_lowest_12 : decode cX10_lowest 12 = .ok (.if_icmp .ge 27, 3) := by decide +kernel
theorem dX10_lowest_15 : decode cX10_lowest 15 = .ok (.iload 4, 2) := by decide +kernel
theorem dX10_lowest_17 : decode cX10_lowest 17 = .ok (.ifCond .eq 22, 3) := by decide +kernel
theorem dX10_lowest_20 : decode cX10_lowest 20 = .ok (.iload_n 3, 1) := by decide +kernel
theorem dX10_lowest_21 : decode cX10_lowest 21 = .ok (.iload 4, 2) := by decide +kernel
theorem dX10_lowest_23 : decode cX10_lowest 23 = .ok (.irem, 1) := by decide +kernel
theorem dX10_lowest_24 : decode cX10_lowest 24 = .ok (.istore 6, 2) := by decide +kernel
theorem dX10_lowest_26 : decode cX10_lowest 26 = .ok (.iload 4, 2) := by decide +kernel
theorem dX10_lowest_28 : decode cX10_lowest 28 = .ok (.istore_n 3, 1) := by decide +kernel
theorem dX10_lowest_29 : decode cX10_lowest 29 = .ok (.iload 6, 2) := by decide +kernel
theorem dX10_lowest_31 : decode cX10_lowest 31 = .ok (.istore 4, 2) := by decide +kernel
theorem dX10_lowest_33 : decode cX10_lowest 33 = .ok (.iinc 5 1, 3) := by decide +kernel
theorem dX10_lowest_36 : decode cX10_lowest 36 = .ok (.goto (-28), 3) := by decide +kernel
theorem dX10_lowest_39 : decode cX10_lowest 39 = .ok (.iload_n 3, 1) := by decide +kernel
theorem dX10_lowest_40 : decode cX10_lowest 40 = .ok (.ifCond .ne 7, 3) := by decide +kernel
theorem dX10_lowest_43 : decode cX10_lowest 43 = .ok (.ldc2_w 220, 3) := by decide +kernel
theorem dX10_lowest_46 : decode cX10_lowest 46 = .ok (.lreturn, 1) := by decide +kernel
theorem dX10_lowest_47 : decode cX10_lowest 47 = .ok (.iload_n 2, 1) := by decide +kernel
theorem dX10_lowest_48 : decode cX10_lowest 48 = .ok (.ifCond .ne 10, 3) := by decide +kernel
theorem dX10_lowest_51 : decode cX10_lowest 51 = .ok (.iload_n 0, 1) := by decide +kernel
theorem dX10_lowest_52 : decode cX10_lowest 52 = .ok (.iload_n 3, 1) := by decide +kernel
theorem dX10_lowest_53 : decode cX10_lowest 53 = .ok (.idiv, 1) := by decide +kernel
theorem dX10_lowest_54 : decode cX10_lowest 54 = .ok (.i2l, 1) := by decide +kernel
theorem dX10_lowest_55 : decode cX10_lowest 55 = .ok (.goto 7, 3) := by decide +kernel
theorem dX10_lowest_58 : decode cX10_lowest 58 = .ok (.iload_n 1, 1) := by decide +kernel
theorem dX10_lowest_59 : decode cX10_lowest 59 = .ok (.iload_n 3, 1) := by decide +kernel
theorem dX10_lowest_60 : decode cX10_lowest 60 = .ok (.idiv, 1) := by decide +kernel
theorem dX10_lowest_61 : decode cX10_lowest 61 = .ok (.i2l, 1) := by decide +kernel
theorem dX10_lowest_62 : decode cX10_lowest 62 = .ok (.lreturn, 1) := by decide +kernel
def J_X10_lowest_39 (S : e_S) (l0 : Int32) (l1 : Int32) (l2 : Int32) (l3 : Int32) (g : e_G) : Option (Int64 × e_G) :=
  if l3 = 0 then
    some ((-4611686018427387904 : Int64), g)
  else
    if l2 = 0 then
      if l3 = 0 then none else
      some ((l0 / l3).toInt64, g)
    else
      if l3 = 0 then none else
      some ((l1 / l3).toInt64, g)
def L_X10_lowest_8 : Nat → e_S → Int32 → Int32 → Int32 → Int32 → Int32 → Int32 → e_G → Option (Int64 × e_G)
  | 0, _, _, _, _, _, _, _, _ => none
  | n + 1, S, l0, l1, l2, l3, l4, l5, g =>
  if (100 : Int32) ≤ l5 then
    J_X10_lowest_39 S l0 l1 l2 l3 g
  else
    if l4 = 0 then
      J_X10_lowest_39 S l0 l1 l2 l3 g
    else
      if l4 = 0 then none else
      L_X10_lowest_8 n S l0 l1 l2 l4 (i_rem l3 l4) (l5 + (1 : Int32)) g
def f_X10_lowest (S : e_S) (l0 : Int32) (l1 : Int32) (l2 : Int32) (g : e_G) : Option (Int64 × e_G) :=
  L_X10_lowest_8 50000 S l0 l1 l2 l0 l1 (0 : Int32) g
theorem x_J_X10_lowest_39 {l : Launch} {D : va_G} {S : e_S} {w : Int64} {k : e_G} {l0 : Int32} {l1 : Int32} {l2 : Int32} {l3 : Int32} {g : e_G} (hf : J_X10_lowest_39 S l0 l1 l2 l3 g = some (w, k)) : X l D (e_R 1) M_X10_lowest 0 0 39 [(0, .int l0), (1, .int l1), (2, .int l2), (3, .int l3)] [] (S, g) (some (.long w)) (S, k) := by
  unfold J_X10_lowest_39 at hf
  refine X.iload_n dX10_lowest_39 rfl (j := 3) rfl ?_
  refine X.if_ne dX10_lowest_40 (tgt := 47) rfl (fun hc => ?_) (fun hc => ?_)
  · rw [if_neg hc] at hf
    refine X.iload_n dX10_lowest_47 rfl (j := 2) rfl ?_
    refine X.if_ne dX10_lowest_48 (tgt := 58) rfl (fun hc => ?_) (fun hc => ?_)
    · rw [if_neg hc] at hf
      refine X.iload_n dX10_lowest_58 rfl (j := 1) rfl ?_
      refine X.iload_n dX10_lowest_59 rfl (j := 3) rfl ?_
      by_cases h1 : l3 = 0
      · rw [if_pos h1] at hf
        cases hf
      rw [if_neg h1] at hf
      refine X.idiv dX10_lowest_60 h1 ?_
      refine X.i2l dX10_lowest_61 ?_
      obtain ⟨e1, e2⟩ := e_ret hf
      subst e1
      subst e2
      exact X.lret dX10_lowest_62 rfl
    · rw [if_pos hc] at hf
      refine X.iload_n dX10_lowest_51 rfl (j := 0) rfl ?_
      refine X.iload_n dX10_lowest_52 rfl (j := 3) rfl ?_
      by_cases h2 : l3 = 0
      · rw [if_pos h2] at hf
        cases hf
      rw [if_neg h2] at hf
      refine X.idiv dX10_lowest_53 h2 ?_
      refine X.i2l dX10_lowest_54 ?_
      refine X.goto dX10_lowest_55 (tgt := 62) rfl ?_
      obtain ⟨e1, e2⟩ := e_ret hf
      subst e1
      subst e2
      exact X.lret dX10_lowest_62 rfl
  · rw [if_pos hc] at hf
    refine X.ldc2 dX10_lowest_43 ww_782 ?_
    obtain ⟨e1, e2⟩ := e_ret hf
    subst e1
    subst e2
    exact X.lret dX10_lowest_46 rfl
theorem x_L_X10_lowest_8 {l : Launch} {D : va_G} {S : e_S} {w : Int64} {k : e_G} : ∀ (n : Nat) (l0 : Int32) (l1 : Int32) (l2 : Int32) (l3 : Int32) (l4 : Int32) (l5 : Int32) (g : e_G), L_X10_lowest_8 n S l0 l1 l2 l3 l4 l5 g = some (w, k) → X l D (e_R 1) M_X10_lowest 0 0 8 [(0, .int l0), (1, .int l1), (2, .int l2), (3, .int l3), (4, .int l4), (5, .int l5)] [] (S, g) (some (.long w)) (S, k) := by
  intro n
  induction n with
  | zero =>
    intro l0 l1 l2 l3 l4 l5 g hf
    cases hf
  | succ n ih =>
    intro l0 l1 l2 l3 l4 l5 g hf
    rw [L_X10_lowest_8] at hf
    refine X.iload dX10_lowest_8 (j := 5) rfl ?_
    refine X.bipush dX10_lowest_10 kB_100 ?_
    refine X.icmp_ge dX10_lowest_12 (tgt := 39) rfl (fun hc => ?_) (fun hc => ?_)
    · rw [if_pos hc] at hf
      refine X.sub [0, 1, 2, 3] rfl ?_
      exact x_J_X10_lowest_39 hf
    · rw [if_neg hc] at hf
      refine X.iload dX10_lowest_15 (j := 4) rfl ?_
      refine X.if_eq dX10_lowest_17 (tgt := 39) rfl (fun hc => ?_) (fun hc => ?_)
      · rw [if_pos hc] at hf
        refine X.sub [0, 1, 2, 3] rfl ?_
        exact x_J_X10_lowest_39 hf
      · rw [if_neg hc] at hf
        refine X.iload_n dX10_lowest_20 rfl (j := 3) rfl ?_
        refine X.iload dX10_lowest_21 (j := 4) rfl ?_
        by_cases h1 : l4 = 0
        · rw [if_pos h1] at hf
          cases hf
        rw [if_neg h1] at hf
        refine Y.irem dX10_lowest_23 h1 ?_
        refine X.istore dX10_lowest_24 (Nat.le_of_ble_eq_true rfl) (lc' := [(6, .int (i_rem l3 l4)), (0, .int l0), (1, .int l1), (2, .int l2), (3, .int l3), (4, .int l4), (5, .int l5)]) rfl ?_
        refine X.iload dX10_lowest_26 (j := 5) rfl ?_
        refine X.istore_n dX10_lowest_28 rfl (Nat.le_of_ble_eq_true rfl) (lc' := [(3, .int l4), (6, .int (i_rem l3 l4)), (0, .int l0), (1, .int l1), (2, .int l2), (4, .int l4), (5, .int l5)]) rfl ?_
        refine X.iload dX10_lowest_29 (j := 1) rfl ?_
        refine X.istore dX10_lowest_31 (Nat.le_of_ble_eq_true rfl) (lc' := [(4, .int (i_rem l3 l4)), (3, .int l4), (6, .int (i_rem l3 l4)), (0, .int l0), (1, .int l1), (2, .int l2), (5, .int l5)]) rfl ?_
        refine X.iinc (j := 6) dX10_lowest_33 rfl (v := l5 + (1 : Int32)) (by rw [kI_1]) (Nat.le_of_ble_eq_true rfl) (lc' := [(5, .int (l5 + (1 : Int32))), (4, .int (i_rem l3 l4)), (3, .int l4), (6, .int (i_rem l3 l4)), (0, .int l0), (1, .int l1), (2, .int l2)]) rfl ?_
        refine X.goto dX10_lowest_36 (tgt := 8) rfl ?_
        refine X.sub [4, 5, 6, 2, 1, 0] rfl ?_
        exact ih _ _ _ _ _ _ _ hf
theorem c_X10_lowest {l : Launch} {D : va_G}  {S : e_S} {w : Int64} {k : e_G} {l0 : Int32} {l1 : Int32} {l2 : Int32} {g : e_G} (hf : f_X10_lowest S l0 l1 l2 g = some (w, k)) : CT l D (e_R 1) M_X10_lowest [.int l0, .int l1, .int l2] (S, g) (some (.long w)) (S, k) := by
  refine CT.of (by decide +kernel) (Nat.le_of_ble_eq_true rfl) ?_
  unfold f_X10_lowest at hf
  show X l D (e_R 1) M_X10_lowest 0 0 0 [(0, .int l0), (1, .int l1), (2, .int l2)] [] (S, g) (some (.long w)) (S, k)
  refine X.iload_n dX10_lowest_0 rfl (j := 0) rfl ?_
  refine X.istore_n dX10_lowest_1 rfl (Nat.le_of_ble_eq_true rfl) (lc' := [(3, .int l0), (0, .int l0), (1, .int l1), (2, .int l2)]) rfl ?_
  refine X.iload_n dX10_lowest_2 rfl (j := 2) rfl ?_
  refine X.istore dX10_lowest_3 (Nat.le_of_ble_eq_true rfl) (lc' := [(4, .int l1), (3, .int l0), (0, .int l0), (1, .int l1), (2, .int l2)]) rfl ?_
  refine X.iconst dX10_lowest_5 kI_0 ?_
  refine X.istore dX10_lowest_6 (Nat.le_of_ble_eq_true rfl) (lc' := [(5, .int (0 : Int32)), (4, .int l1), (3, .int l0), (0, .int l0), (1, .int l1), (2, .int l2)]) rfl ?_
  refine X.sub [3, 4, 5, 2, 1, 0] rfl ?_
  exact x_L_X10_lowest_8 50000 _ _ _ _ _ _ _ hf
/-! LeanedOut.gatherMembers(I)I -/
abbrev M_X10_gatherMembers : e_M := (yX10_gatherMembers, cX10_gatherMembers, 4, (some .int))
theorem mk_X10_gatherMembers : e_Mok M_X10_gatherMembers 1 := ⟨by decide +kernel, by decide +kernel, by decide +kernel⟩
theorem dX10_gatherMembers_0 : decode cX10_gatherMembers 0 = .ok (.iconst 0, 1) := by decide +kernel
theorem dX10_gatherMembers_1 : decode cX10_gatherMembers 1 = .ok (.istore_n 2, 1) := by decide +kernel
theorem dX10_gatherMembers_2 : decode cX10_gatherMembers 2 = .ok (.iconst 0, 1) := by decide +kernel
theorem dX10_gatherMembers_3 : decode cX10_gatherMembers 3 = .ok (.istore_n 3, 1) := by decide +kernel
theorem dX10_gatherMembers_4 : decode cX10_gatherMembers 4 = .ok (.iload_n 3, 1) := by decide +kernel
theorem dX10_gatherMembers_5 : decode cX10_gatherMembers 5 = .ok (.aload_n 0, 1) := by decide +kernel
theorem dX10_gatherMembers_6 : decode cX10_gatherMembers 6 = .ok (.getfield 63, 3) := by decide +kernel
theorem dX10_gatherMembers_9 : decode cX10_gatherMembers 9 = .ok (.getfield 93, 3) := by decide +kernel
theorem dX10_gatherMembers_12 : decode cX10_gatherMembers 12 = .ok (.if_icmp .ge 45, 3) := by decide +kernel
theorem dX10_gatherMembers_15 : decode cX10_gatherMembers 15 = .ok (.aload_n 0, 1) := by decide +kernel
theorem dX10_gatherMembers_16 : decode cX10_gatherMembers 16 = .ok (.getfield 63, 3) := by decide +kernel
theorem dX10_gatherMembers_19 : decode cX10_gatherMembers 19 = .ok (.getfield 136, 3) := by decide +kernel
theorem dX10_gatherMembers_22 : decode cX10_gatherMembers 22 = .ok (.iload_n 3, 1) := by decide +kernel
theorem dX10_gatherMembers_23 : decode cX10_gatherMembers 23 = .ok (.iaload, 1) := by decide +kernel
theorem dX10_gatherMembers_24 : decode cX10_gatherMembers 24 = .ok (.bipush 10, 2) := by decide +kernel
theorem dX10_gatherMembers_26 : decode cX10_gatherMembers 26 = .ok (.idiv, 1) := by decide +kernel
theorem dX10_gatherMembers_27 : decode cX10_gatherMembers 27 = .ok (.iload_n 1, 1) := by decide +kernel
theorem dX10_gatherMembers_28 : decode cX10_gatherMembers 28 = .ok (.if_icmp .eq 6, 3) := by decide +kernel
theorem dX10_gatherMembers_31 : decode cX10_gatherMembers 31 = .ok (.goto 20, 3) := by decide +kernel
theorem dX10_gatherMembers_34 : decode cX10_gatherMembers 34 = .ok (.aload_n 0, 1) := by decide +kernel
theorem dX10_gatherMembers_35 : decode cX10_gatherMembers 35 = .ok (.getfield 32, 3) := by decide +kernel
theorem dX10_gatherMembers_38 : decode cX10_gatherMembers 38 = .ok (.iload_n 2, 1) := by decide +kernel
theorem dX10_gatherMembers_39 : decode cX10_gatherMembers 39 = .ok (.iload_n 3, 1) := by decide +kernel
theorem dX10_gatherMembers_40 : decode cX10_gatherMembers 40 = .ok (.iastore, 1) := by decide +kernel
theorem dX10_gatherMembers_41 : decode cX10_gatherMembers 41 = .ok (.aload_n 0, 1) := by decide +kernel
theorem dX10_gatherMembers_42 : decode cX10_gatherMembers 42 = .ok (.getfield 35, 3) := by decide +kernel
theorem dX10_gatherMembers_45 : decode cX10_gatherMembers 45 = .ok (.iload_n 2, 1) := by decide +kernel
theorem dX10_gatherMembers_46 : decode cX10_gatherMembers 46 = .ok (.iload_n 2, 1) := by decide +kernel
theorem dX10_gatherMembers_47 : decode cX10_gatherMembers 47 = .ok (.iastore, 1) := by decide +kernel
theorem dX10_gatherMembers_48 : decode cX10_gatherMembers 48 = .ok (.iinc 2 1, 3) := by decide +kernel
theorem dX10_gatherMembers_51 : decode cX10_gatherMembers 51 = .ok (.iinc 3 1, 3) := by decide +kernel
theorem dX10_gatherMembers_54 : decode cX10_gatherMembers 54 = .ok (.goto (-50), 3) := by decide +kernel
theorem dX10_gatherMembers_57 : decode cX10_gatherMembers 57 = .ok (.iload_n 2, 1) := by decide +kernel
theorem dX10_gatherMembers_58 : decode cX10_gatherMembers 58 = .ok (.ireturn, 1) := by decide +kernel
def J_X10_gatherMembers_51 (c4 : Nat → Int32 → Int32 → Int32 → e_G → Option (Int32 × e_G)) (S : e_S) (l0 : Nat) (l1 : Int32) (l2 : Int32) (l3 : Int32) (g : e_G) : Option (Int32 × e_G) :=
  c4 l0 l1 l2 (l3 + (1 : Int32)) g
def L_X10_gatherMembers_4 : Nat → e_S → Nat → Int32 → Int32 → Int32 → e_G → Option (Int32 × e_G)
  | 0, _, _, _, _, _, _ => none
  | n + 1, S, l0, l1, l2, l3, g =>
  (e_gR S g 10 l0 2).bind fun v1 =>
  (e_gI S g 7 v1 6).bind fun v3 =>
  if v3 ≤ l3 then
    some (l2, g)
  else
    (e_gR S g 10 l0 2).bind fun v5 =>
    (e_gR S g 7 v5 0).bind fun v7 =>
    (e_aI S g 0 v7 l3).bind fun v9 =>
    if (v9 / (10 : Int32)) = l1 then
      (e_gR S g 10 l0 7).bind fun v11 =>
      (e_aS S g 0 v11 l2 l3).bind fun g13 =>
      (e_gR S g13 10 l0 8).bind fun v15 =>
      (e_aS S g13 0 v15 l2 l2).bind fun g17 =>
      J_X10_gatherMembers_51 (L_X10_gatherMembers_4 n S) S l0 l1 (l2 + (1 : Int32)) l3 g17
    else
      J_X10_gatherMembers_51 (L_X10_gatherMembers_4 n S) S l0 l1 l2 l3 g
def f_X10_gatherMembers (S : e_S) (l0 : Nat) (l1 : Int32) (g : e_G) : Option (Int32 × e_G) :=
  if e_ob S 10 l0 = true then
    L_X10_gatherMembers_4 50000 S l0 l1 (0 : Int32) (0 : Int32) g
  else none
theorem x_J_X10_gatherMembers_51 {l : Launch} {D : va_G} {S : e_S} {w : Int32} {k : e_G} (c4 : Nat → Int32 → Int32 → Int32 → e_G → Option (Int32 × e_G)) (hc4 : ∀ (l0 : Nat) (l1 : Int32) (l2 : Int32) (l3 : Int32) (g : e_G), c4 l0 l1 l2 l3 g = some (w, k) → X l D (e_R 1) M_X10_gatherMembers 0 0 4 [(0, .ref l0), (1, .int l1), (2, .int l2), (3, .int l3)] [] (S, g) (some (.int w)) (S, k)) {l0 : Nat} {l1 : Int32} {l2 : Int32} {l3 : Int32} {g : e_G} (hf : J_X10_gatherMembers_51 c4 S l0 l1 l2 l3 g = some (w, k)) : X l D (e_R 1) M_X10_gatherMembers 0 0 51 [(0, .ref l0), (1, .int l1), (2, .int l2), (3, .int l3)] [] (S, g) (some (.int w)) (S, k) := by
  unfold J_X10_gatherMembers_51 at hf
  refine X.iinc (j := 3) dX10_gatherMembers_51 rfl (v := l3 + (1 : Int32)) (by rw [kI_1]) (Nat.le_of_ble_eq_true rfl) (lc' := [(3, .int (l3 + (1 : Int32))), (0, .ref l0), (1, .int l1), (2, .int l2)]) rfl ?_
  refine X.goto dX10_gatherMembers_54 (tgt := 4) rfl ?_
  refine X.sub [1, 2, 3, 0] rfl ?_
  exact hc4 _ _ _ _ _ hf
theorem x_L_X10_gatherMembers_4 {l : Launch} {D : va_G} {S : e_S} {w : Int32} {k : e_G} : ∀ (n : Nat) (l0 : Nat) (l1 : Int32) (l2 : Int32) (l3 : Int32) (g : e_G), L_X10_gatherMembers_4 n S l0 l1 l2 l3 g = some (w, k) → X l D (e_R 1) M_X10_gatherMembers 0 0 4 [(0, .ref l0), (1, .int l1), (2, .int l2), (3, .int l3)] [] (S, g) (some (.int w)) (S, k) := by
  intro n
  induction n with
  | zero =>
    intro l0 l1 l2 l3 g hf
    cases hf
  | succ n ih =>
    intro l0 l1 l2 l3 g hf
    rw [L_X10_gatherMembers_4] at hf
    refine X.iload_n dX10_gatherMembers_4 rfl (j := 3) rfl ?_
    refine X.aload_n dX10_gatherMembers_5 rfl (j := 0) rfl ?_
    obtain ⟨v1, h2, hf⟩ := ob hf
    refine Y.getR dX10_gatherMembers_6 fl_X10_63 rfl h2 ?_
    obtain ⟨v3, h4, hf⟩ := ob hf
    refine Y.getI dX10_gatherMembers_9 fl_X10_93 rfl h4 ?_
    refine X.icmp_ge dX10_gatherMembers_12 (tgt := 57) rfl (fun hc => ?_) (fun hc => ?_)
    · rw [if_pos hc] at hf
      refine X.iload_n dX10_gatherMembers_57 rfl (j := 2) rfl ?_
      obtain ⟨e1, e2⟩ := e_ret hf
      subst e1
      subst e2
      exact X.iret dX10_gatherMembers_58 rfl rfl
    · rw [if_neg hc] at hf
      refine X.aload_n dX10_gatherMembers_15 rfl (j := 0) rfl ?_
      obtain ⟨v5, h6, hf⟩ := ob hf
      refine Y.getR dX10_gatherMembers_16 fl_X10_63 rfl h6 ?_
      obtain ⟨v7, h8, hf⟩ := ob hf
      refine Y.getR dX10_gatherMembers_19 fl_X10_136 rfl h8 ?_
      refine X.iload_n dX10_gatherMembers_22 rfl (j := 3) rfl ?_
      obtain ⟨v9, h10, hf⟩ := ob hf
      refine Y.iald dX10_gatherMembers_23 h10 ?_
      refine X.bipush dX10_gatherMembers_24 kB_10 ?_
      refine X.idiv dX10_gatherMembers_26 (by decide) ?_
      refine X.iload_n dX10_gatherMembers_27 rfl (j := 1) rfl ?_
      refine X.icmp_eq dX10_gatherMembers_28 (tgt := 34) rfl (fun hc => ?_) (fun hc => ?_)
      · rw [if_pos hc] at hf
        refine X.aload_n dX10_gatherMembers_34 rfl (j := 0) rfl ?_
        obtain ⟨v11, h12, hf⟩ := ob hf
        refine Y.getR dX10_gatherMembers_35 fl_X10_32 rfl h12 ?_
        refine X.iload_n dX10_gatherMembers_38 rfl (j := 2) rfl ?_
        refine X.iload_n dX10_gatherMembers_39 rfl (j := 3) rfl ?_
        obtain ⟨g13, h14, hf⟩ := ob hf
        refine Y.iast dX10_gatherMembers_40 h14 ?_
        refine X.aload_n dX10_gatherMembers_41 rfl (j := 0) rfl ?_
        obtain ⟨v15, h16, hf⟩ := ob hf
        refine Y.getR dX10_gatherMembers_42 fl_X10_35 rfl h16 ?_
        refine X.iload_n dX10_gatherMembers_45 rfl (j := 2) rfl ?_
        refine X.iload_n dX10_gatherMembers_46 rfl (j := 2) rfl ?_
        obtain ⟨g17, h18, hf⟩ := ob hf
        refine Y.iast dX10_gatherMembers_47 h18 ?_
        refine X.iinc (j := 2) dX10_gatherMembers_48 rfl (v := l2 + (1 : Int32)) (by rw [kI_1]) (Nat.le_of_ble_eq_true rfl) (lc' := [(2, .int (l2 + (1 : Int32))), (0, .ref l0), (1, .int l1), (3, .int l3)]) rfl ?_
        refine X.sub [1, 2, 0, 3] rfl ?_
        exact x_J_X10_gatherMembers_51 _ ih hf
      · rw [if_neg hc] at hf
        refine X.goto dX10_gatherMembers_31 (tgt := 51) rfl ?_
        exact x_J_X10_gatherMembers_51 _ ih hf
theorem o_X10_gatherMembers  {S : e_S} {w : Int32} {k : e_G} {l0 : Nat} {l1 : Int32} {g : e_G} (hf : f_X10_gatherMembers S l0 l1 g = some (w, k)) : e_ob S 10 l0 = true := by
  unfold f_X10_gatherMembers at hf
  by_cases hc : e_ob S 10 l0 = true
  · exact hc
  · rw [if_neg hc] at hf
    cases hf
theorem c_X10_gatherMembers {l : Launch} {D : va_G}  {S : e_S} {w : Int32} {k : e_G} {l0 : Nat} {l1 : Int32} {g : e_G} (hf : f_X10_gatherMembers S l0 l1 g = some (w, k)) : CT l D (e_R 1) M_X10_gatherMembers [.ref l0, .int l1] (S, g) (some (.int w)) (S, k) := by
  refine CT.of (by decide +kernel) (Nat.le_of_ble_eq_true rfl) ?_
  have ho := o_X10_gatherMembers hf
  unfold f_X10_gatherMembers at hf
  rw [if_pos ho] at hf
  show X l D (e_R 1) M_X10_gatherMembers 0 0 0 [(0, .ref l0), (1, .int l1)] [] (S, g) (some (.int w)) (S, k)
  refine X.iconst dX10_gatherMembers_0 kI_0 ?_
  refine X.istore_n dX10_gatherMembers_1 rfl (Nat.le_of_ble_eq_true rfl) (lc' := [(2, .int (0 : Int32)), (0, .ref l0), (1, .int l1)]) rfl ?_
  refine X.iconst dX10_gatherMembers_2 kI_0 ?_
  refine X.istore_n dX10_gatherMembers_3 rfl (Nat.le_of_ble_eq_true rfl) (lc' := [(3, .int (0 : Int32)), (2, .int (0 : Int32)), (0, .ref l0), (1, .int l1)]) rfl ?_
  refine X.sub [2, 3, 1, 0] rfl ?_
  exact x_L_X10_gatherMembers_4 50000 _ _ _ _ _ hf
/-! LeanedOut.orderDigits(I)I -/
abbrev M_X10_orderDigits : e_M := (yX10_orderDigits, cX10_orderDigits, 4, (some .int))
theorem mk_X10_orderDigits : e_Mok M_X10_orderDigits 1 := ⟨by decide +kernel, by decide +kernel, by decide +kernel⟩
theorem dX10_orderDigits_0 : decode cX10_orderDigits 0 = .ok (.iconst 0, 1) := by decide +kernel
theorem dX10_orderDigits_1 : decode cX10_orderDigits 1 = .ok (.istore_n 2, 1) := by decide +kernel
theorem dX10_orderDigits_2 : decode cX10_orderDigits 2 = .ok (.iconst 0, 1) := by decide +kernel
theorem dX10_orderDigits_3 : decode cX10_orderDigits 3 = .ok (.istore_n 3, 1) := by decide +kernel
theorem dX10_orderDigits_4 : decode cX10_orderDigits 4 = .ok (.iload_n 3, 1) := by decide +kernel
theorem dX10_orderDigits_5 : decode cX10_orderDigits 5 = .ok (.iload_n 1, 1) := by decide +kernel
theorem dX10_orderDigits_6 : decode cX10_orderDigits 6 = .ok (.if_icmp .ge 23, 3) := by decide +kernel
theorem dX10_orderDigits_9 : decode cX10_orderDigits 9 = .ok (.bipush 10, 2) := by decide +kernel
theorem dX10_orderDigits_11 : decode cX10_orderDigits 11 = .ok (.iload_n 2, 1) := by decide +kernel
theorem dX10_orderDigits_12 : decode cX10_orderDigits 12 = .ok (.imul, 1) := by decide +kernel
theorem dX10_orderDigits_13 : decode cX10_orderDigits 13 = .ok (.aload_n 0, 1) := by decide +kernel
theorem dX10_orderDigits_14 : decode cX10_orderDigits 14 = .ok (.getfield 35, 3) := by decide +kernel
theorem dX10_orderDigits_17 : decode cX10_orderDigits 17 = .ok (.iload_n 3, 1) := by decide +kernel
theorem dX10_orderDigits_18 : decode cX10_orderDigits 18 = .ok (.iaload, 1) := by decide +kernel
theorem dX10_orderDigits_19 : decode cX10_orderDigits 19 = .ok (.iadd, 1) := by decide +kernel
theorem dX10_orderDigits_20 : decode cX10_orderDigits 20 = .ok (.iconst 1, 1) := by decide +kernel
theorem dX10_orderDigits_21 : decode cX10_orderDigits 21 = .ok (.iadd, 1) := by decide +kernel
theorem dX10_orderDigits_22 : decode cX10_orderDigits 22 = .ok (.istore_n 2, 1) := by decide +kernel
theorem dX10_orderDigits_23 : decode cX10_orderDigits 23 = .ok (.iinc 3 1, 3) := by decide +kernel
theorem dX10_orderDigits_26 : decode cX10_orderDigits 26 = .ok (.goto (-22), 3) := by decide +kernel
theorem dX10_orderDigits_29 : decode cX10_orderDigits 29 = .ok (.iload_n 2, 1) := by decide +kernel
theorem dX10_orderDigits_30 : decode cX10_orderDigits 30 = .ok (.ireturn, 1) := by decide +kernel
def L_X10_orderDigits_4 : Nat → e_S → Nat → Int32 → Int32 → Int32 → e_G → Option (Int32 × e_G)
  | 0, _, _, _, _, _, _ => none
  | n + 1, S, l0, l1, l2, l3, g =>
  if l1 ≤ l3 then
    some (l2, g)
  else
    (e_gR S g 10 l0 8).bind fun v1 =>
    (e_aI S g 0 v1 l3).bind fun v3 =>
    L_X10_orderDigits_4 n S l0 l1 ((((10 : Int32) * l2) + v3) + (1 : Int32)) (l3 + (1 : Int32)) g
def f_X10_orderDigits (S : e_S) (l0 : Nat) (l1 : Int32) (g : e_G) : Option (Int32 × e_G) :=
  if e_ob S 10 l0 = true then
    L_X10_orderDigits_4 50000 S l0 l1 (0 : Int32) (0 : Int32) g
  else none
theorem x_L_X10_orderDigits_4 {l : Launch} {D : va_G} {S : e_S} {w : Int32} {k : e_G} : ∀ (n : Nat) (l0 : Nat) (l1 : Int32) (l2 : Int32) (l3 : Int32) (g : e_G), L_X10_orderDigits_4 n S l0 l1 l2 l3 g = some (w, k) → X l D (e_R 1) M_X10_orderDigits 0 0 4 [(0, .ref l0), (1, .int l1), (2, .int l2), (3, .int l3)] [] (S, g) (some (.int w)) (S, k) := by
  intro n
  induction n with
  | zero =>
    intro l0 l1 l2 l3 g hf
    cases hf
  | succ n ih =>
    intro l0 l1 l2 l3 g hf
    rw [L_X10_orderDigits_4] at hf
    refine X.iload_n dX10_orderDigits_4 rfl (j := 3) rfl ?_
    refine X.iload_n dX10_orderDigits_5 rfl (j := 1) rfl ?_
    refine X.icmp_ge dX10_orderDigits_6 (tgt := 29) rfl (fun hc => ?_) (fun hc => ?_)
    · rw [if_pos hc] at hf
      refine X.iload_n dX10_orderDigits_29 rfl (j := 2) rfl ?_
      obtain ⟨e1, e2⟩ := e_ret hf
      subst e1
      subst e2
      exact X.iret dX10_orderDigits_30 rfl rfl
    · rw [if_neg hc] at hf
      refine X.bipush dX10_orderDigits_9 kB_10 ?_
      refine X.iload_n dX10_orderDigits_11 rfl (j := 2) rfl ?_
      refine X.imul dX10_orderDigits_12 ?_
      refine X.aload_n dX10_orderDigits_13 rfl (j := 0) rfl ?_
      obtain ⟨v1, h2, hf⟩ := ob hf
      refine Y.getR dX10_orderDigits_14 fl_X10_35 rfl h2 ?_
      refine X.iload_n dX10_orderDigits_17 rfl (j := 3) rfl ?_
      obtain ⟨v3, h4, hf⟩ := ob hf
      refine Y.iald dX10_orderDigits_18 h4 ?_
      refine X.iadd dX10_orderDigits_19 ?_
      refine X.iconst dX10_orderDigits_20 kI_1 ?_
      refine X.iadd dX10_orderDigits_21 ?_
      refine X.istore_n dX10_orderDigits_22 rfl (Nat.le_of_ble_eq_true rfl) (lc' := [(2, .int ((((10 : Int32) * l2) + v3) + (1 : Int32))), (0, .ref l0), (1, .int l1), (3, .int l3)]) rfl ?_
      refine X.iinc (j := 3) dX10_orderDigits_23 rfl (v := l3 + (1 : Int32)) (by rw [kI_1]) (Nat.le_of_ble_eq_true rfl) (lc' := [(3, .int (l3 + (1 : Int32))), (2, .int ((((10 : Int32) * l2) + v3) + (1 : Int32))), (0, .ref l0), (1, .int l1)]) rfl ?_
      refine X.goto dX10_orderDigits_26 (tgt := 4) rfl ?_
      refine X.sub [2, 3, 1, 0] rfl ?_
      exact ih _ _ _ _ _ hf
theorem o_X10_orderDigits  {S : e_S} {w : Int32} {k : e_G} {l0 : Nat} {l1 : Int32} {g : e_G} (hf : f_X10_orderDigits S l0 l1 g = some (w, k)) : e_ob S 10 l0 = true := by
  unfold f_X10_orderDigits at hf
  by_cases hc : e_ob S 10 l0 = true
  · exact hc
  · rw [if_neg hc] at hf
    cases hf
theorem c_X10_orderDigits {l : Launch} {D : va_G}  {S : e_S} {w : Int32} {k : e_G} {l0 : Nat} {l1 : Int32} {g : e_G} (hf : f_X10_orderDigits S l0 l1 g = some (w, k)) : CT l D (e_R 1) M_X10_orderDigits [.ref l0, .int l1] (S, g) (some (.int w)) (S, k) := by
  refine CT.of (by decide +kernel) (Nat.le_of_ble_eq_true rfl) ?_
  have ho := o_X10_orderDigits hf
  unfold f_X10_orderDigits at hf
  rw [if_pos ho] at hf
  show X l D (e_R 1) M_X10_orderDigits 0 0 0 [(0, .ref l0), (1, .int l1)] [] (S, g) (some (.int w)) (S, k)
  refine X.iconst dX10_orderDigits_0 kI_0 ?_
  refine X.istore_n dX10_orderDigits_1 rfl (Nat.le_of_ble_eq_true rfl) (lc' := [(2, .int (0 : Int32)), (0, .ref l0), (1, .int l1)]) rfl ?_
  refine X.iconst dX10_orderDigits_2 kI_0 ?_
  refine X.istore_n dX10_orderDigits_3 rfl (Nat.le_of_ble_eq_true rfl) (lc' := [(3, .int (0 : Int32)), (2, .int (0 : Int32)), (0, .ref l0), (1, .int l1)]) rfl ?_
  refine X.sub [2, 3, 1, 0] rfl ?_
  exact x_L_X10_orderDigits_4 50000 _ _ _ _ _ hf
/-! LeanedOut.giveLooks(I)V -/
abbrev M_X10_giveLooks : e_M := (yX10_giveLooks, cX10_giveLooks, 3, none)
theorem mk_X10_giveLooks : e_Mok M_X10_giveLooks 1 := ⟨by decide +kernel, by decide +kernel, by decide +kernel⟩
theorem dX10_giveLooks_0 : decode cX10_giveLooks 0 = .ok (.iconst 0, 1) := by decide +kernel
theorem dX10_giveLooks_1 : decode cX10_giveLooks 1 = .ok (.istore_n 2, 1) := by decide +kernel
theorem dX10_giveLooks_2 : decode cX10_giveLooks 2 = .ok (.iload_n 2, 1) := by decide +kernel
theorem dX10_giveLooks_3 : decode cX10_giveLooks 3 = .ok (.iload_n 1, 1) := by decide +kernel
theorem dX10_giveLooks_4 : decode cX10_giveLooks 4 = .ok (.if_icmp .ge 42, 3) := by decide +kernel
theorem dX10_giveLooks_7 : decode cX10_giveLooks 7 = .ok (.aload_n 0, 1) := by decide +kernel
theorem dX10_giveLooks_8 : decode cX10_giveLooks 8 = .ok (.getfield 67, 3) := by decide +kernel
theorem dX10_giveLooks_11 : decode cX10_giveLooks 11 = .ok (.getfield 145, 3) := by decide +kernel
theorem dX10_giveLooks_14 : decode cX10_giveLooks 14 = .ok (.aload_n 0, 1) := by decide +kernel
theorem dX10_giveLooks_15 : decode cX10_giveLooks 15 = .ok (.getfield 32, 3) := by decide +kernel
theorem dX10_giveLooks_18 : decode cX10_giveLooks 18 = .ok (.iload_n 2, 1) := by decide +kernel
theorem dX10_giveLooks_19 : decode cX10_giveLooks 19 = .ok (.iaload, 1) := by decide +kernel
theorem dX10_giveLooks_20 : decode cX10_giveLooks 20 = .ok (.aload_n 0, 1) := by decide +kernel
theorem dX10_giveLooks_21 : decode cX10_giveLooks 21 = .ok (.getfield 63, 3) := by decide +kernel
theorem dX10_giveLooks_24 : decode cX10_giveLooks 24 = .ok (.getfield 145, 3) := by decide +kernel
theorem dX10_giveLooks_27 : decode cX10_giveLooks 27 = .ok (.aload_n 0, 1) := by decide +kernel
theorem dX10_giveLooks_28 : decode cX10_giveLooks 28 = .ok (.getfield 32, 3) := by decide +kernel
theorem dX10_giveLooks_31 : decode cX10_giveLooks 31 = .ok (.aload_n 0, 1) := by decide +kernel
theorem dX10_giveLooks_32 : decode cX10_giveLooks 32 = .ok (.getfield 35, 3) := by decide +kernel
theorem dX10_giveLooks_35 : decode cX10_giveLooks 35 = .ok (.iload_n 2, 1) := by decide +kernel
theorem dX10_giveLooks_36 : decode cX10_giveLooks 36 = .ok (.iaload, 1) := by decide +kernel
theorem dX10_giveLooks_37 : decode cX10_giveLooks 37 = .ok (.iaload, 1) := by decide +kernel
theorem dX10_giveLooks_38 : decode cX10_giveLooks 38 = .ok (.iaload, 1) := by decide +kernel
theorem dX10_giveLooks_39 : decode cX10_giveLooks 39 = .ok (.iastore, 1) := by decide +kernel
theorem dX10_giveLooks_40 : decode cX10_giveLooks 40 = .ok (.iinc 2 1, 3) := by decide +kernel
theorem dX10_giveLooks_43 : decode cX10_giveLooks 43 = .ok (.goto (-41), 3) := by decide +kernel
theorem dX10_giveLooks_46 : decode cX10_giveLooks 46 = .ok (.return_, 1) := by decide +kernel
def L_X10_giveLooks_2 : Nat → e_S → Nat → Int32 → Int32 → e_G → Option (e_G)
  | 0, _, _, _, _, _ => none
  | n + 1, S, l0, l1, l2, g =>
  if l1 ≤ l2 then
    some g
  else
    (e_gR S g 10 l0 3).bind fun v1 =>
    (e_gR S g 7 v1 1).bind fun v3 =>
    (e_gR S g 10 l0 7).bind fun v5 =>
    (e_aI S g 0 v5 l2).bind fun v7 =>
    (e_gR S g 10 l0 2).bind fun v9 =>
    (e_gR S g 7 v9 1).bind fun v11 =>
    (e_gR S g 10 l0 7).bind fun v13 =>
    (e_gR S g 10 l0 8).bind fun v15 =>
    (e_aI S g 0 v15 l2).bind fun v17 =>
    (e_aI S g 0 v13 v17).bind fun v19 =>
    (e_aI S g 0 v11 v19).bind fun v21 =>
    (e_aS S g 0 v3 v7 v21).bind fun g23 =>
    L_X10_giveLooks_2 n S l0 l1 (l2 + (1 : Int32)) g23
def f_X10_giveLooks (S : e_S) (l0 : Nat) (l1 : Int32) (g : e_G) : Option (e_G) :=
  if e_ob S 10 l0 = true then
    L_X10_giveLooks_2 50000 S l0 l1 (0 : Int32) g
  else none
theorem x_L_X10_giveLooks_2 {l : Launch} {D : va_G} {S : e_S} {k : e_G} : ∀ (n : Nat) (l0 : Nat) (l1 : Int32) (l2 : Int32) (g : e_G), L_X10_giveLooks_2 n S l0 l1 l2 g = some k → X l D (e_R 1) M_X10_giveLooks 0 0 2 [(0, .ref l0), (1, .int l1), (2, .int l2)] [] (S, g) none (S, k) := by
  intro n
  induction n with
  | zero =>
    intro l0 l1 l2 g hf
    cases hf
  | succ n ih =>
    intro l0 l1 l2 g hf
    rw [L_X10_giveLooks_2] at hf
    refine X.iload_n dX10_giveLooks_2 rfl (j := 2) rfl ?_
    refine X.iload_n dX10_giveLooks_3 rfl (j := 1) rfl ?_
    refine X.icmp_ge dX10_giveLooks_4 (tgt := 46) rfl (fun hc => ?_) (fun hc => ?_)
    · rw [if_pos hc] at hf
      have e1 := Option.some.inj hf
      subst e1
      exact X.vret dX10_giveLooks_46 rfl
    · rw [if_neg hc] at hf
      refine X.aload_n dX10_giveLooks_7 rfl (j := 0) rfl ?_
      obtain ⟨v1, h2, hf⟩ := ob hf
      refine Y.getR dX10_giveLooks_8 fl_X10_67 rfl h2 ?_
      obtain ⟨v3, h4, hf⟩ := ob hf
      refine Y.getR dX10_giveLooks_11 fl_X10_145 rfl h4 ?_
      refine X.aload_n dX10_giveLooks_14 rfl (j := 0) rfl ?_
      obtain ⟨v5, h6, hf⟩ := ob hf
      refine Y.getR dX10_giveLooks_15 fl_X10_32 rfl h6 ?_
      refine X.iload_n dX10_giveLooks_18 rfl (j := 2) rfl ?_
      obtain ⟨v7, h8, hf⟩ := ob hf
      refine Y.iald dX10_giveLooks_19 h8 ?_
      refine X.aload_n dX10_giveLooks_20 rfl (j := 0) rfl ?_
      obtain ⟨v9, h10, hf⟩ := ob hf
      refine Y.getR dX10_giveLooks_21 fl_X10_63 rfl h10 ?_
      obtain ⟨v11, h12, hf⟩ := ob hf
      refine Y.getR dX10_giveLooks_24 fl_X10_145 rfl h12 ?_
      refine X.aload_n dX10_giveLooks_27 rfl (j := 0) rfl ?_
      obtain ⟨v13, h14, hf⟩ := ob hf
      refine Y.getR dX10_giveLooks_28 fl_X10_32 rfl h14 ?_
      refine X.aload_n dX10_giveLooks_31 rfl (j := 0) rfl ?_
      obtain ⟨v15, h16, hf⟩ := ob hf
      refine Y.getR dX10_giveLooks_32 fl_X10_35 rfl h16 ?_
      refine X.iload_n dX10_giveLooks_35 rfl (j := 2) rfl ?_
      obtain ⟨v17, h18, hf⟩ := ob hf
      refine Y.iald dX10_giveLooks_36 h18 ?_
      obtain ⟨v19, h20, hf⟩ := ob hf
      refine Y.iald dX10_giveLooks_37 h20 ?_
      obtain ⟨v21, h22, hf⟩ := ob hf
      refine Y.iald dX10_giveLooks_38 h22 ?_
      obtain ⟨g23, h24, hf⟩ := ob hf
      refine Y.iast dX10_giveLooks_39 h24 ?_
      refine X.iinc (j := 2) dX10_giveLooks_40 rfl (v := l2 + (1 : Int32)) (by rw [kI_1]) (Nat.le_of_ble_eq_true rfl) (lc' := [(2, .int (l2 + (1 : Int32))), (0, .ref l0), (1, .int l1)]) rfl ?_
      refine X.goto dX10_giveLooks_43 (tgt := 2) rfl ?_
      refine X.sub [1, 2, 0] rfl ?_
      exact ih _ _ _ _ hf
theorem o_X10_giveLooks  {S : e_S} {k : e_G} {l0 : Nat} {l1 : Int32} {g : e_G} (hf : f_X10_giveLooks S l0 l1 g = some k) : e_ob S 10 l0 = true := by
  unfold f_X10_giveLooks at hf
  by_cases hc : e_ob S 10 l0 = true
  · exact hc
  · rw [if_neg hc] at hf
    cases hf
theorem c_X10_giveLooks {l : Launch} {D : va_G}  {S : e_S} {k : e_G} {l0 : Nat} {l1 : Int32} {g : e_G} (hf : f_X10_giveLooks S l0 l1 g = some k) : CT l D (e_R 1) M_X10_giveLooks [.ref l0, .int l1] (S, g) none (S, k) := by
  refine CT.of (by decide +kernel) (Nat.le_of_ble_eq_true rfl) ?_
  have ho := o_X10_giveLooks hf
  unfold f_X10_giveLooks at hf
  rw [if_pos ho] at hf
  show X l D (e_R 1) M_X10_giveLooks 0 0 0 [(0, .ref l0), (1, .int l1)] [] (S, g) none (S, k)
  refine X.iconst dX10_giveLooks_0 kI_0 ?_
  refine X.istore_n dX10_giveLooks_1 rfl (Nat.le_of_ble_eq_true rfl) (lc' := [(2, .int (0 : Int32)), (0, .ref l0), (1, .int l1)]) rfl ?_
  refine X.sub [1, 2, 0] rfl ?_
  exact x_L_X10_giveLooks_2 50000 _ _ _ _ hf
/-! LeanedOut.swapInOrder(II)V -/
abbrev M_X10_swapInOrder : e_M := (yX10_swapInOrder, cX10_swapInOrder, 4, none)
theorem mk_X10_swapInOrder : e_Mok M_X10_swapInOrder 2 := ⟨by decide +kernel, by decide +kernel, by decide +kernel⟩
theorem dX10_swapInOrder_0 : decode cX10_swapInOrder 0 = .ok (.aload_n 0, 1) := by decide +kernel
theorem dX10_swapInOrder_1 : decode cX10_swapInOrder 1 = .ok (.getfield 35, 3) := by decide +kernel
theorem dX10_swapInOrder_4 : decode cX10_swapInOrder 4 = .ok (.iload_n 1, 1) := by decide +kernel
theorem dX10_swapInOrder_5 : decode cX10_swapInOrder 5 = .ok (.iaload, 1) := by decide +kernel
theorem dX10_swapInOrder_6 : decode cX10_swapInOrder 6 = .ok (.istore_n 3, 1) := by decide +kernel
theorem dX10_swapInOrder_7 : decode cX10_swapInOrder 7 = .ok (.aload_n 0, 1) := by decide +kernel
theorem dX10_swapInOrder_8 : decode cX10_swapInOrder 8 = .ok (.getfield 35, 3) := by decide +kernel
theorem dX10_swapInOrder_11 : decode cX10_swapInOrder 11 = .ok (.iload_n 1, 1) := by decide +kernel
theorem dX10_swapInOrder_12 : decode cX10_swapInOrder 12 = .ok (.aload_n 0, 1) := by decide +kernel
theorem dX10_swapInOrder_13 : decode cX10_swapInOrder 13 = .ok (.getfield 35, 3) := by decide +kernel
theorem dX10_swapInOrder_16 : decode cX10_swapInOrder 16 = .ok (.iload_n 2, 1) := by decide +kernel
theorem dX10_swapInOrder_17 : decode cX10_swapInOrder 17 = .ok (.iaload, 1) := by decide +kernel
theorem dX10_swapInOrder_18 : decode cX10_swapInOrder 18 = .ok (.iastore, 1) := by decide +kernel
theorem dX10_swapInOrder_19 : decode cX10_swapInOrder 19 = .ok (.aload_n 0, 1) := by decide +kernel
theorem dX10_swapInOrder_20 : decode cX10_swapInOrder 20 = .ok (.getfield 35, 3) := by decide +kernel
theorem dX10_swapInOrder_23 : decode cX10_swapInOrder 23 = .ok (.iload_n 2, 1) := by decide +kernel
theorem dX10_swapInOrder_24 : decode cX10_swapInOrder 24 = .ok (.iload_n 3, 1) := by decide +kernel
theorem dX10_swapInOrder_25 : decode cX10_swapInOrder 25 = .ok (.iastore, 1) := by decide +kernel
theorem dX10_swapInOrder_26 : decode cX10_swapInOrder 26 = .ok (.return_, 1) := by decide +kernel
def f_X10_swapInOrder (S : e_S) (l0 : Nat) (l1 : Int32) (l2 : Int32) (g : e_G) : Option (e_G) :=
  if e_ob S 10 l0 = true then
    (e_gR S g 10 l0 8).bind fun v1 =>
    (e_aI S g 0 v1 l1).bind fun v3 =>
    (e_gR S g 10 l0 8).bind fun v5 =>
    (e_gR S g 10 l0 8).bind fun v7 =>
    (e_aI S g 0 v7 l2).bind fun v9 =>
    (e_aS S g 0 v5 l1 v9).bind fun g11 =>
    (e_gR S g11 10 l0 8).bind fun v13 =>
    (e_aS S g11 0 v13 l2 v3).bind fun g15 =>
    some g15
  else none
theorem o_X10_swapInOrder  {S : e_S} {k : e_G} {l0 : Nat} {l1 : Int32} {l2 : Int32} {g : e_G} (hf : f_X10_swapInOrder S l0 l1 l2 g = some k) : e_ob S 10 l0 = true := by
  unfold f_X10_swapInOrder at hf
  by_cases hc : e_ob S 10 l0 = true
  · exact hc
  · rw [if_neg hc] at hf
    cases hf
theorem c_X10_swapInOrder {l : Launch} {D : va_G}  {S : e_S} {k : e_G} {l0 : Nat} {l1 : Int32} {l2 : Int32} {g : e_G} (hf : f_X10_swapInOrder S l0 l1 l2 g = some k) : CT l D (e_R 1) M_X10_swapInOrder [.ref l0, .int l1, .int l2] (S, g) none (S, k) := by
  refine CT.of (by decide +kernel) (Nat.le_of_ble_eq_true rfl) ?_
  have ho := o_X10_swapInOrder hf
  unfold f_X10_swapInOrder at hf
  rw [if_pos ho] at hf
  show X l D (e_R 1) M_X10_swapInOrder 0 0 0 [(0, .ref l0), (1, .int l1), (2, .int l2)] [] (S, g) none (S, k)
  refine X.aload_n dX10_swapInOrder_0 rfl (j := 0) rfl ?_
  obtain ⟨v1, h2, hf⟩ := ob hf
  refine Y.getR dX10_swapInOrder_1 fl_X10_35 rfl h2 ?_
  refine X.iload_n dX10_swapInOrder_4 rfl (j := 1) rfl ?_
  obtain ⟨v3, h4, hf⟩ := ob hf
  refine Y.iald dX10_swapInOrder_5 h4 ?_
  refine X.istore_n dX10_swapInOrder_6 rfl (Nat.le_of_ble_eq_true rfl) (lc' := [(3, .int v3), (0, .ref l0), (1, .int l1), (2, .int l2)]) rfl ?_
  refine X.aload_n dX10_swapInOrder_7 rfl (j := 1) rfl ?_
  obtain ⟨v5, h6, hf⟩ := ob hf
  refine Y.getR dX10_swapInOrder_8 fl_X10_35 rfl h6 ?_
  refine X.iload_n dX10_swapInOrder_11 rfl (j := 2) rfl ?_
  refine X.aload_n dX10_swapInOrder_12 rfl (j := 1) rfl ?_
  obtain ⟨v7, h8, hf⟩ := ob hf
  refine Y.getR dX10_swapInOrder_13 fl_X10_35 rfl h8 ?_
  refine X.iload_n dX10_swapInOrder_16 rfl (j := 3) rfl ?_
  obtain ⟨v9, h10, hf⟩ := ob hf
  refine Y.iald dX10_swapInOrder_17 h10 ?_
  obtain ⟨g11, h12, hf⟩ := ob hf
  refine Y.iast dX10_swapInOrder_18 h12 ?_
  refine X.aload_n dX10_swapInOrder_19 rfl (j := 1) rfl ?_
  obtain ⟨v13, h14, hf⟩ := ob hf
  refine Y.getR dX10_swapInOrder_20 fl_X10_35 rfl h14 ?_
  refine X.iload_n dX10_swapInOrder_23 rfl (j := 3) rfl ?_
  refine X.iload_n dX10_swapInOrder_24 rfl (j := 0) rfl ?_
  obtain ⟨g15, h16, hf⟩ := ob hf
  refine Y.iast dX10_swapInOrder_25 h16 ?_
  have e1 := Option.some.inj hf
  subst e1
  exact X.vret dX10_swapInOrder_26 rfl
/-! LeanedOut.nextOrder(I)Z -/
abbrev M_X10_nextOrder : e_M := (yX10_nextOrder, cX10_nextOrder, 6, (some .boolean))
theorem mk_X10_nextOrder : e_Mok M_X10_nextOrder 1 := ⟨by decide +kernel, by decide +kernel, by decide +kernel⟩
theorem dX10_nextOrder_0 : decode cX10_nextOrder 0 = .ok (.iload_n 1, 1) := by decide +kernel
theorem dX10_nextOrder_1 : decode cX10_nextOrder 1 = .ok (.iconst 2, 1) := by decide +kernel
theorem dX10_nextOrder_2 : decode cX10_nextOrder 2 = .ok (.isub, 1) := by decide +kernel
theorem dX10_nextOrder_3 : decode cX10_nextOrder 3 = .ok (.istore_n 2, 1) := by decide +kernel
theorem dX10_nextOrder_4 : decode cX10_nextOrder 4 = .ok (.iload_n 2, 1) := by decide +kernel
theorem dX10_nextOrder_5 : decode cX10_nextOrder 5 = .ok (.ifCond .lt 26, 3) := by decide +kernel
theorem dX10_nextOrder_8 : decode cX10_nextOrder 8 = .ok (.aload_n 0, 1) := by decide +kernel
theorem dX10_nextOrder_9 : decode cX10_nextOrder 9 = .ok (.getfield 35, 3) := by decide +kernel
theorem dX10_nextOrder_12 : decode cX10_nextOrder 12 = .ok (.iload_n 2, 1) := by decide +kernel
theorem dX10_nextOrder_13 : decode cX10_nextOrder 13 = .ok (.iaload, 1) := by decide +kernel
theorem dX10_nextOrder_14 : decode cX10_nextOrder 14 = .ok (.aload_n 0, 1) := by decide +kernel
theorem dX10_nextOrder_15 : decode cX10_nextOrder 15 = .ok (.getfield 35, 3) := by decide +kernel
theorem dX10_nextOrder_18 : decode cX10_nextOrder 18 = .ok (.iload_n 2, 1) := by decide +kernel
theorem dX10_nextOrder_19 : decode cX10_nextOrder 19 = .ok (.iconst 1, 1) := by decide +kernel
theorem dX10_nextOrder_20 : decode cX10_nextOrder 20 = .ok (.iadd, 1) := by decide +kernel
theorem dX10_nextOrder_21 : decode cX10_nextOrder 21 = .ok (.iaload, 1) := by decide +kernel
theorem dX10_nextOrder_22 : decode cX10_nextOrder 22 = .ok (.if_icmp .le 9, 3) := by decide +kernel
theorem dX10_nextOrder_25 : decode cX10_nextOrder 25 = .ok (.iinc 2 (-1), 3) := by decide +kernel
theorem dX10_nextOrder_28 : decode cX10_nextOrder 28 = .ok (.goto (-24), 3) := by decide +kernel
theorem dX10_nextOrder_31 : decode cX10_nextOrder 31 = .ok (.iload_n 2, 1) := by decide +kernel
theorem dX10_nextOrder_32 : decode cX10_nextOrder 32 = .ok (.ifCond .ge 5, 3) := by decide +kernel
theorem dX10_nextOrder_35 : decode cX10_nextOrder 35 = .ok (.iconst 0, 1) := by decide +kernel
theorem dX10_nextOrder_36 : decode cX10_nextOrder 36 = .ok (.ireturn, 1) := by decide +kernel
theorem dX10_nextOrder_37 : decode cX10_nextOrder 37 = .ok (.iload_n 1, 1) := by decide +kernel
theorem dX10_nextOrder_38 : decode cX10_nextOrder 38 = .ok (.iconst 1, 1) := by decide +kernel
theorem dX10_nextOrder_39 : decode cX10_nextOrder 39 = .ok (.isub, 1) := by decide +kernel
theorem dX10_nextOrder_40 : decode cX10_nextOrder 40 = .ok (.istore_n 3, 1) := by decide +kernel
theorem dX10_nextOrder_41 : decode cX10_nextOrder 41 = .ok (.iload_n 3, 1) := by decide +kernel
theorem dX10_nextOrder_42 : decode cX10_nextOrder 42 = .ok (.iload_n 2, 1) := by decide +kernel
theorem dX10_nextOrder_43 : decode cX10_nextOrder 43 = .ok (.if_icmp .le 24, 3) := by decide +kernel
theorem dX10_nextOrder_46 : decode cX10_nextOrder 46 = .ok (.aload_n 0, 1) := by decide +kernel
theorem dX10_nextOrder_47 : decode cX10_nextOrder 47 = .ok (.getfield 35, 3) := by decide +kernel
theorem dX10_nextOrder_50 : decode cX10_nextOrder 50 = .ok (.iload_n 3, 1) := by decide +kernel
theorem dX10_nextOrder_51 : decode cX10_nextOrder 51 = .ok (.iaload, 1) := by decide +kernel
theorem dX10_nextOrder_52 : decode cX10_nextOrder 52 = .ok (.aload_n 0, 1) := by decide +kernel
theorem dX10_nextOrder_53 : decode cX10_nextOrder 53 = .ok (.getfield 35, 3) := by decide +kernel
theorem dX10_nextOrder_56 : decode cX10_nextOrder 56 = .ok (.iload_n 2, 1) := by decide +kernel
theorem dX10_nextOrder_57 : decode cX10_nextOrder 57 = .ok (.iaload, 1) := by decide +kernel
theorem dX10_nextOrder_58 : decode cX10_nextOrder 58 = .ok (.if_icmp .ge 9, 3) := by decide +kernel
theorem dX10_nextOrder_61 : decode cX10_nextOrder 61 = .ok (.iinc 3 (-1), 3) := by decide +kernel
theorem dX10_nextOrder_64 : decode cX10_nextOrder 64 = .ok (.goto (-23), 3) := by decide +kernel
theorem dX10_nextOrder_67 : decode cX10_nextOrder 67 = .ok (.aload_n 0, 1) := by decide +kernel
theorem dX10_nextOrder_68 : decode cX10_nextOrder 68 = .ok (.iload_n 2, 1) := by decide +kernel
theorem dX10_nextOrder_69 : decode cX10_nextOrder 69 = .ok (.iload_n 3, 1) := by decide +kernel
theorem dX10_nextOrder_70 : decode cX10_nextOrder 70 = .ok (.invokevirtual 298, 3) := by decide +kernel
theorem dX10_nextOrder_73 : decode cX10_nextOrder 73 = .ok (.iload_n 2, 1) := by decide +kernel
theorem dX10_nextOrder_74 : decode cX10_nextOrder 74 = .ok (.iconst 1, 1) := by decide +kernel
theorem dX10_nextOrder_75 : decode cX10_nextOrder 75 = .ok (.iadd, 1) := by decide +kernel
theorem dX10_nextOrder_76 : decode cX10_nextOrder 76 = .ok (.istore 4, 2) := by decide +kernel
theorem dX10_nextOrder_78 : decode cX10_nextOrder 78 = .ok (.iload_n 1, 1) := by decide +kernel
theorem dX10_nextOrder_79 : decode cX10_nextOrder 79 = .ok (.iconst 1, 1) := by decide +kernel
theorem dX10_nextOrder_80 : decode cX10_nextOrder 80 = .ok (.isub, 1) := by decide +kernel
theorem dX10_nextOrder_81 : decode cX10_nextOrder 81 = .ok (.istore 5, 2) := by decide +kernel
theorem dX10_nextOrder_83 : decode cX10_nextOrder 83 = .ok (.iload 4, 2) := by decide +kernel
theorem dX10_nextOrder_85 : decode cX10_nextOrder 85 = .ok (.iload 5, 2) := by decide +kernel
theorem dX10_nextOrder_87 : decode cX10_nextOrder 87 = .ok (.if_icmp .ge 20, 3) := by decide +kernel
theorem dX10_nextOrder_90 : decode cX10_nextOrder 90 = .ok (.aload_n 0, 1) := by decide +kernel
theorem dX10_nextOrder_91 : decode cX10_nextOrder 91 = .ok (.iload 4, 2) := by decide +kernel
theorem dX10_nextOrder_93 : decode cX10_nextOrder 93 = .ok (.iload 5, 2) := by decide +kernel
theorem dX10_nextOrder_95 : decode cX10_nextOrder 95 = .ok (.invokevirtual 298, 3) := by decide +kernel
theorem dX10_nextOrder_98 : decode cX10_nextOrder 98 = .ok (.iinc 4 1, 3) := by decide +kernel
theorem dX10_nextOrder_101 : decode cX10_nextOrder 101 = .ok (.iinc 5 (-1), 3) := by decide +kernel
theorem dX10_nextOrder_104 : decode cX10_nextOrder 104 = .ok (.goto (-21), 3) := by decide +kernel
theorem dX10_nextOrder_107 : decode cX10_nextOrder 107 = .ok (.iconst 1, 1) := by decide +kernel
theorem dX10_nextOrder_108 : decode cX10_nextOrder 108 = .ok (.ireturn, 1) := by decide +kernel
def L_X10_nextOrder_83 : Nat → e_S → Nat → Int32 → Int32 → e_G → Option (Int32 × e_G)
  | 0, _, _, _, _, _ => none
  | n + 1, S, l0, l4, l5, g =>
  if l5 ≤ l4 then
    some ((1 : Int32), g)
  else
    (f_X10_swapInOrder S l0 l4 l5 g).bind fun q2 =>
    L_X10_nextOrder_83 n S l0 (l4 + (1 : Int32)) (l5 + (-1 : Int32)) q2
def J_X10_nextOrder_67 (S : e_S) (l0 : Nat) (l1 : Int32) (l2 : Int32) (l3 : Int32) (g : e_G) : Option (Int32 × e_G) :=
  (f_X10_swapInOrder S l0 l2 l3 g).bind fun q2 =>
  L_X10_nextOrder_83 50000 S l0 (l2 + (1 : Int32)) (l1 - (1 : Int32)) q2
def L_X10_nextOrder_41 : Nat → e_S → Nat → Int32 → Int32 → Int32 → e_G → Option (Int32 × e_G)
  | 0, _, _, _, _, _, _ => none
  | n + 1, S, l0, l1, l2, l3, g =>
  if l3 ≤ l2 then
    J_X10_nextOrder_67 S l0 l1 l2 l3 g
  else
    (e_gR S g 10 l0 8).bind fun v1 =>
    (e_aI S g 0 v1 l3).bind fun v3 =>
    (e_gR S g 10 l0 8).bind fun v5 =>
    (e_aI S g 0 v5 l2).bind fun v7 =>
    if v7 ≤ v3 then
      J_X10_nextOrder_67 S l0 l1 l2 l3 g
    else
      L_X10_nextOrder_41 n S l0 l1 l2 (l3 + (-1 : Int32)) g
def J_X10_nextOrder_31 (S : e_S) (l0 : Nat) (l1 : Int32) (l2 : Int32) (g : e_G) : Option (Int32 × e_G) :=
  if 0 ≤ l2 then
    L_X10_nextOrder_41 50000 S l0 l1 l2 (l1 - (1 : Int32)) g
  else
    some ((0 : Int32), g)
def L_X10_nextOrder_4 : Nat → e_S → Nat → Int32 → Int32 → e_G → Option (Int32 × e_G)
  | 0, _, _, _, _, _ => none
  | n + 1, S, l0, l1, l2, g =>
  if l2 < 0 then
    J_X10_nextOrder_31 S l0 l1 l2 g
  else
    (e_gR S g 10 l0 8).bind fun v1 =>
    (e_aI S g 0 v1 l2).bind fun v3 =>
    (e_gR S g 10 l0 8).bind fun v5 =>
    (e_aI S g 0 v5 (l2 + (1 : Int32))).bind fun v7 =>
    if v3 ≤ v7 then
      J_X10_nextOrder_31 S l0 l1 l2 g
    else
      L_X10_nextOrder_4 n S l0 l1 (l2 + (-1 : Int32)) g
def f_X10_nextOrder (S : e_S) (l0 : Nat) (l1 : Int32) (g : e_G) : Option (Int32 × e_G) :=
  if e_ob S 10 l0 = true then
    L_X10_nextOrder_4 50000 S l0 l1 (l1 - (2 : Int32)) g
  else none
theorem x_L_X10_nextOrder_83 {l : Launch} {D : va_G} {S : e_S} {w : Int32} {k : e_G} : ∀ (n : Nat) (l0 : Nat) (l4 : Int32) (l5 : Int32) (g : e_G), L_X10_nextOrder_83 n S l0 l4 l5 g = some (w, k) → X l D (e_R 2) M_X10_nextOrder 0 0 83 [(0, .ref l0), (4, .int l4), (5, .int l5)] [] (S, g) (some (.int w)) (S, k) := by
  intro n
  induction n with
  | zero =>
    intro l0 l4 l5 g hf
    cases hf
  | succ n ih =>
    intro l0 l4 l5 g hf
    rw [L_X10_nextOrder_83] at hf
    refine X.iload dX10_nextOrder_83 (j := 1) rfl ?_
    refine X.iload dX10_nextOrder_85 (j := 2) rfl ?_
    refine X.icmp_ge dX10_nextOrder_87 (tgt := 107) rfl (fun hc => ?_) (fun hc => ?_)
    · rw [if_pos hc] at hf
      refine X.iconst dX10_nextOrder_107 kI_1 ?_
      obtain ⟨e1, e2⟩ := e_ret hf
      subst e1
      subst e2
      exact X.iret dX10_nextOrder_108 rfl rfl
    · rw [if_neg hc] at hf
      refine X.aload_n dX10_nextOrder_90 rfl (j := 0) rfl ?_
      refine X.iload dX10_nextOrder_91 (j := 1) rfl ?_
      refine X.iload dX10_nextOrder_93 (j := 2) rfl ?_
      obtain ⟨q2, h1, hf⟩ := ob hf
      refine Y.callV (av := [.int l4, .int l5]) (ci := 10) dX10_nextOrder_95 (c_X10_swapInOrder (l := l) (D := D) h1) cw_X10_298 (by decide) rfl mk_X10_swapInOrder (o_X10_swapInOrder (k := q2) h1) (e_R_ok (Nat.le_of_ble_eq_true rfl) (Nat.le_of_ble_eq_true rfl)) ⟨rfl, rfl⟩ (by simp [Value.category]) ?_
      refine X.iinc (j := 1) dX10_nextOrder_98 rfl (v := l4 + (1 : Int32)) (by rw [kI_1]) (Nat.le_of_ble_eq_true rfl) (lc' := [(4, .int (l4 + (1 : Int32))), (0, .ref l0), (5, .int l5)]) rfl ?_
      refine X.iinc (j := 2) dX10_nextOrder_101 rfl (v := l5 + (-1 : Int32)) (by rw [kI_m1]) (Nat.le_of_ble_eq_true rfl) (lc' := [(5, .int (l5 + (-1 : Int32))), (4, .int (l4 + (1 : Int32))), (0, .ref l0)]) rfl ?_
      refine X.goto dX10_nextOrder_104 (tgt := 83) rfl ?_
      refine X.sub [2, 1, 0] rfl ?_
      exact ih _ _ _ _ hf
theorem x_J_X10_nextOrder_67 {l : Launch} {D : va_G} {S : e_S} {w : Int32} {k : e_G} {l0 : Nat} {l1 : Int32} {l2 : Int32} {l3 : Int32} {g : e_G} (hf : J_X10_nextOrder_67 S l0 l1 l2 l3 g = some (w, k)) : X l D (e_R 2) M_X10_nextOrder 0 0 67 [(0, .ref l0), (1, .int l1), (2, .int l2), (3, .int l3)] [] (S, g) (some (.int w)) (S, k) := by
  unfold J_X10_nextOrder_67 at hf
  refine X.aload_n dX10_nextOrder_67 rfl (j := 0) rfl ?_
  refine X.iload_n dX10_nextOrder_68 rfl (j := 2) rfl ?_
  refine X.iload_n dX10_nextOrder_69 rfl (j := 3) rfl ?_
  obtain ⟨q2, h1, hf⟩ := ob hf
  refine Y.callV (av := [.int l2, .int l3]) (ci := 10) dX10_nextOrder_70 (c_X10_swapInOrder (l := l) (D := D) h1) cw_X10_298 (by decide) rfl mk_X10_swapInOrder (o_X10_swapInOrder (k := q2) h1) (e_R_ok (Nat.le_of_ble_eq_true rfl) (Nat.le_of_ble_eq_true rfl)) ⟨rfl, rfl⟩ (by simp [Value.category]) ?_
  refine X.iload_n dX10_nextOrder_73 rfl (j := 2) rfl ?_
  refine X.iconst dX10_nextOrder_74 kI_1 ?_
  refine X.iadd dX10_nextOrder_75 ?_
  refine X.istore dX10_nextOrder_76 (Nat.le_of_ble_eq_true rfl) (lc' := [(4, .int (l2 + (1 : Int32))), (0, .ref l0), (1, .int l1), (2, .int l2), (3, .int l3)]) rfl ?_
  refine X.iload_n dX10_nextOrder_78 rfl (j := 2) rfl ?_
  refine X.iconst dX10_nextOrder_79 kI_1 ?_
  refine X.isub dX10_nextOrder_80 ?_
  refine X.istore dX10_nextOrder_81 (Nat.le_of_ble_eq_true rfl) (lc' := [(5, .int (l1 - (1 : Int32))), (4, .int (l2 + (1 : Int32))), (0, .ref l0), (1, .int l1), (2, .int l2), (3, .int l3)]) rfl ?_
  refine X.sub [2, 1, 0] rfl ?_
  exact x_L_X10_nextOrder_83 50000 _ _ _ _ hf
theorem x_L_X10_nextOrder_41 {l : Launch} {D : va_G} {S : e_S} {w : Int32} {k : e_G} : ∀ (n : Nat) (l0 : Nat) (l1 : Int32) (l2 : Int32) (l3 : Int32) (g : e_G), L_X10_nextOrder_41 n S l0 l1 l2 l3 g = some (w, k) → X l D (e_R 2) M_X10_nextOrder 0 0 41 [(0, .ref l0), (1, .int l1), (2, .int l2), (3, .int l3)] [] (S, g) (some (.int w)) (S, k) := by
  intro n
  induction n with
  | zero =>
    intro l0 l1 l2 l3 g hf
    cases hf
  | succ n ih =>
    intro l0 l1 l2 l3 g hf
    rw [L_X10_nextOrder_41] at hf
    refine X.iload_n dX10_nextOrder_41 rfl (j := 3) rfl ?_
    refine X.iload_n dX10_nextOrder_42 rfl (j := 2) rfl ?_
    refine X.icmp_le dX10_nextOrder_43 (tgt := 67) rfl (fun hc => ?_) (fun hc => ?_)
    · rw [if_pos hc] at hf
      exact x_J_X10_nextOrder_67 hf
    · rw [if_neg hc] at hf
      refine X.aload_n dX10_nextOrder_46 rfl (j := 0) rfl ?_
      obtain ⟨v1, h2, hf⟩ := ob hf
      refine Y.getR dX10_nextOrder_47 fl_X10_35 rfl h2 ?_
      refine X.iload_n dX10_nextOrder_50 rfl (j := 3) rfl ?_
      obtain ⟨v3, h4, hf⟩ := ob hf
      refine Y.iald dX10_nextOrder_51 h4 ?_
      refine X.aload_n dX10_nextOrder_52 rfl (j := 0) rfl ?_
      obtain ⟨v5, h6, hf⟩ := ob hf
      refine Y.getR dX10_nextOrder_53 fl_X10_35 rfl h6 ?_
      refine X.iload_n dX10_nextOrder_56 rfl (j := 2) rfl ?_
      obtain ⟨v7, h8, hf⟩ := ob hf
      refine Y.iald dX10_nextOrder_57 h8 ?_
      refine X.icmp_ge dX10_nextOrder_58 (tgt := 67) rfl (fun hc => ?_) (fun hc => ?_)
      · rw [if_pos hc] at hf
        exact x_J_X10_nextOrder_67 hf
      · rw [if_neg hc] at hf
        refine X.iinc (j := 3) dX10_nextOrder_61 rfl (v := l3 + (-1 : Int32)) (by rw [kI_m1]) (Nat.le_of_ble_eq_true rfl) (lc' := [(3, .int (l3 + (-1 : Int32))), (0, .ref l0), (1, .int l1), (2, .int l2)]) rfl ?_
        refine X.goto dX10_nextOrder_64 (tgt := 41) rfl ?_
        refine X.sub [1, 2, 3, 0] rfl ?_
        exact ih _ _ _ _ _ hf
theorem x_J_X10_nextOrder_31 {l : Launch} {D : va_G} {S : e_S} {w : Int32} {k : e_G} {l0 : Nat} {l1 : Int32} {l2 : Int32} {g : e_G} (hf : J_X10_nextOrder_31 S l0 l1 l2 g = some (w, k)) : X l D (e_R 2) M_X10_nextOrder 0 0 31 [(0, .ref l0), (1, .int l1), (2, .int l2)] [] (S, g) (some (.int w)) (S, k) := by
  unfold J_X10_nextOrder_31 at hf
  refine X.iload_n dX10_nextOrder_31 rfl (j := 2) rfl ?_
  refine X.if_ge dX10_nextOrder_32 (tgt := 37) rfl (fun hc => ?_) (fun hc => ?_)
  · rw [if_pos hc] at hf
    refine X.iload_n dX10_nextOrder_37 rfl (j := 1) rfl ?_
    refine X.iconst dX10_nextOrder_38 kI_1 ?_
    refine X.isub dX10_nextOrder_39 ?_
    refine X.istore_n dX10_nextOrder_40 rfl (Nat.le_of_ble_eq_true rfl) (lc' := [(3, .int (l1 - (1 : Int32))), (0, .ref l0), (1, .int l1), (2, .int l2)]) rfl ?_
    refine X.sub [1, 2, 3, 0] rfl ?_
    exact x_L_X10_nextOrder_41 50000 _ _ _ _ _ hf
  · rw [if_neg hc] at hf
    refine X.iconst dX10_nextOrder_35 kI_0 ?_
    obtain ⟨e1, e2⟩ := e_ret hf
    subst e1
    subst e2
    exact X.iret dX10_nextOrder_36 rfl rfl
theorem x_L_X10_nextOrder_4 {l : Launch} {D : va_G} {S : e_S} {w : Int32} {k : e_G} : ∀ (n : Nat) (l0 : Nat) (l1 : Int32) (l2 : Int32) (g : e_G), L_X10_nextOrder_4 n S l0 l1 l2 g = some (w, k) → X l D (e_R 2) M_X10_nextOrder 0 0 4 [(0, .ref l0), (1, .int l1), (2, .int l2)] [] (S, g) (some (.int w)) (S, k) := by
  intro n
  induction n with
  | zero =>
    intro l0 l1 l2 g hf
    cases hf
  | succ n ih =>
    intro l0 l1 l2 g hf
    rw [L_X10_nextOrder_4] at hf
    refine X.iload_n dX10_nextOrder_4 rfl (j := 2) rfl ?_
    refine X.if_lt dX10_nextOrder_5 (tgt := 31) rfl (fun hc => ?_) (fun hc => ?_)
    · rw [if_pos hc] at hf
      exact x_J_X10_nextOrder_31 hf
    · rw [if_neg hc] at hf
      refine X.aload_n dX10_nextOrder_8 rfl (j := 0) rfl ?_
      obtain ⟨v1, h2, hf⟩ := ob hf
      refine Y.getR dX10_nextOrder_9 fl_X10_35 rfl h2 ?_
      refine X.iload_n dX10_nextOrder_12 rfl (j := 2) rfl ?_
      obtain ⟨v3, h4, hf⟩ := ob hf
      refine Y.iald dX10_nextOrder_13 h4 ?_
      refine X.aload_n dX10_nextOrder_14 rfl (j := 0) rfl ?_
      obtain ⟨v5, h6, hf⟩ := ob hf
      refine Y.getR dX10_nextOrder_15 fl_X10_35 rfl h6 ?_
      refine X.iload_n dX10_nextOrder_18 rfl (j := 2) rfl ?_
      refine X.iconst dX10_nextOrder_19 kI_1 ?_
      refine X.iadd dX10_nextOrder_20 ?_
      obtain ⟨v7, h8, hf⟩ := ob hf
      refine Y.iald dX10_nextOrder_21 h8 ?_
      refine X.icmp_le dX10_nextOrder_22 (tgt := 31) rfl (fun hc => ?_) (fun hc => ?_)
      · rw [if_pos hc] at hf
        exact x_J_X10_nextOrder_31 hf
      · rw [if_neg hc] at hf
        refine X.iinc (j := 2) dX10_nextOrder_25 rfl (v := l2 + (-1 : Int32)) (by rw [kI_m1]) (Nat.le_of_ble_eq_true rfl) (lc' := [(2, .int (l2 + (-1 : Int32))), (0, .ref l0), (1, .int l1)]) rfl ?_
        refine X.goto dX10_nextOrder_28 (tgt := 4) rfl ?_
        refine X.sub [1, 2, 0] rfl ?_
        exact ih _ _ _ _ hf
theorem o_X10_nextOrder  {S : e_S} {w : Int32} {k : e_G} {l0 : Nat} {l1 : Int32} {g : e_G} (hf : f_X10_nextOrder S l0 l1 g = some (w, k)) : e_ob S 10 l0 = true := by
  unfold f_X10_nextOrder at hf
  by_cases hc : e_ob S 10 l0 = true
  · exact hc
  · rw [if_neg hc] at hf
    cases hf
theorem c_X10_nextOrder {l : Launch} {D : va_G}  {S : e_S} {w : Int32} {k : e_G} {l0 : Nat} {l1 : Int32} {g : e_G} (hf : f_X10_nextOrder S l0 l1 g = some (w, k)) : CT l D (e_R 2) M_X10_nextOrder [.ref l0, .int l1] (S, g) (some (.int w)) (S, k) := by
  refine CT.of (by decide +kernel) (Nat.le_of_ble_eq_true rfl) ?_
  have ho := o_X10_nextOrder hf
  unfold f_X10_nextOrder at hf
  rw [if_pos ho] at hf
  show X l D (e_R 2) M_X10_nextOrder 0 0 0 [(0, .ref l0), (1, .int l1)] [] (S, g) (some (.int w)) (S, k)
  refine X.iload_n dX10_nextOrder_0 rfl (j := 1) rfl ?_
  refine X.iconst dX10_nextOrder_1 kI_2 ?_
  refine X.isub dX10_nextOrder_2 ?_
  refine X.istore_n dX10_nextOrder_3 rfl (Nat.le_of_ble_eq_true rfl) (lc' := [(2, .int (l1 - (2 : Int32))), (0, .ref l0), (1, .int l1)]) rfl ?_
  refine X.sub [1, 2, 0] rfl ?_
  exact x_L_X10_nextOrder_4 50000 _ _ _ _ hf
/-! LeanedOut.isOfKind(LLeanedOut$Person;I)Z -/
abbrev M_X10_isOfKind : e_M := (yX10_isOfKind, cX10_isOfKind, 2, (some .boolean))
theorem mk_X10_isOfKind : e_Mok M_X10_isOfKind 2 := ⟨by decide +kernel, by decide +kernel, by decide +kernel⟩
theorem dX10_isOfKind_0 : decode cX10_isOfKind 0 = .ok (.iload_n 1, 1) := by decide +kernel
theorem dX10_isOfKind_1 : decode cX10_isOfKind 1 = .ok (.tableswitch 74 0 5 #[39, 49, 54, 59, 64, 69], 39) := by decide +kernel
theorem dX10_isOfKind_40 : decode cX10_isOfKind 40 = .ok (.aload_n 0, 1) := by decide +kernel
theorem dX10_isOfKind_41 : decode cX10_isOfKind 41 = .ok (.ifnull 7, 3) := by decide +kernel
theorem dX10_isOfKind_44 : decode cX10_isOfKind 44 = .ok (.iconst 1, 1) := by decide +kernel
theorem dX10_isOfKind_45 : decode cX10_isOfKind 45 = .ok (.goto 4, 3) := by decide +kernel
theorem dX10_isOfKind_49 : decode cX10_isOfKind 49 = .ok (.ireturn, 1) := by decide +kernel
theorem dX10_isOfKind_50 : decode cX10_isOfKind 50 = .ok (.aload_n 0, 1) := by decide +kernel
theorem dX10_isOfKind_51 : decode cX10_isOfKind 51 = .ok (.instanceof 43, 3) := by decide +kernel
theorem dX10_isOfKind_54 : decode cX10_isOfKind 54 = .ok (.ireturn, 1) := by decide +kernel
theorem dX10_isOfKind_55 : decode cX10_isOfKind 55 = .ok (.aload_n 0, 1) := by decide +kernel
theorem dX10_isOfKind_56 : decode cX10_isOfKind 56 = .ok (.instanceof 46, 3) := by decide +kernel
theorem dX10_isOfKind_59 : decode cX10_isOfKind 59 = .ok (.ireturn, 1) := by decide +kernel
theorem dX10_isOfKind_60 : decode cX10_isOfKind 60 = .ok (.aload_n 0, 1) := by decide +kernel
theorem dX10_isOfKind_61 : decode cX10_isOfKind 61 = .ok (.instanceof 49, 3) := by decide +kernel
theorem dX10_isOfKind_64 : decode cX10_isOfKind 64 = .ok (.ireturn, 1) := by decide +kernel
theorem dX10_isOfKind_65 : decode cX10_isOfKind 65 = .ok (.aload_n 0, 1) := by decide +kernel
theorem dX10_isOfKind_66 : decode cX10_isOfKind 66 = .ok (.instanceof 52, 3) := by decide +kernel
theorem dX10_isOfKind_69 : decode cX10_isOfKind 69 = .ok (.ireturn, 1) := by decide +kernel
theorem dX10_isOfKind_70 : decode cX10_isOfKind 70 = .ok (.aload_n 0, 1) := by decide +kernel
theorem dX10_isOfKind_71 : decode cX10_isOfKind 71 = .ok (.instanceof 55, 3) := by decide +kernel
theorem dX10_isOfKind_74 : decode cX10_isOfKind 74 = .ok (.ireturn, 1) := by decide +kernel
theorem dX10_isOfKind_75 : decode cX10_isOfKind 75 = .ok (.iconst 0, 1) := by decide +kernel
theorem dX10_isOfKind_76 : decode cX10_isOfKind 76 = .ok (.ireturn, 1) := by decide +kernel
def f_X10_isOfKind (S : e_S) (l0 : Nat) (l1 : Int32) (g : e_G) : Option (Int32 × e_G) :=
  if l1 = 0 then
    some ((1 : Int32), g)
  else
  if l1 = 1 then
    (e_is S RX2 l0).bind fun v3 =>
    if v3 = 0 ∨ v3 = 1 then some (v3, g) else none
  else
  if l1 = 2 then
    (e_is S RX8 l0).bind fun v7 =>
    if v7 = 0 ∨ v7 = 1 then some (v7, g) else none
  else
  if l1 = 3 then
    (e_is S RX0 l0).bind fun v11 =>
    if v11 = 0 ∨ v11 = 1 then some (v11, g) else none
  else
  if l1 = 4 then
    (e_is S RX1 l0).bind fun v15 =>
    if v15 = 0 ∨ v15 = 1 then some (v15, g) else none
  else
  if l1 = 5 then
    (e_is S RX4 l0).bind fun v19 =>
    if v19 = 0 ∨ v19 = 1 then some (v19, g) else none
  else
  some ((0 : Int32), g)
theorem c_X10_isOfKind {l : Launch} {D : va_G}  {S : e_S} {w : Int32} {k : e_G} {l0 : Nat} {l1 : Int32} {g : e_G} (hf : f_X10_isOfKind S l0 l1 g = some (w, k)) : CT l D (e_R 1) M_X10_isOfKind [.ref l0, .int l1] (S, g) (some (.int w)) (S, k) := by
  refine CT.of (by decide +kernel) (Nat.le_of_ble_eq_true rfl) ?_
  unfold f_X10_isOfKind at hf
  show X l D (e_R 1) M_X10_isOfKind 0 0 0 [(0, .ref l0), (1, .int l1)] [] (S, g) (some (.int w)) (S, k)
  refine X.iload_n dX10_isOfKind_0 rfl (j := 1) rfl ?_
  by_cases h1 : l1 = (0 : Int32)
  · rw [if_pos h1] at hf
    refine X.tableIn dX10_isOfKind_1 (by rw [h1]; decide) (by rw [h1]; decide) (off := 39) (tgt := 40) (by rw [h1]; rfl) rfl ?_
    refine X.aload_n dX10_isOfKind_40 rfl (j := 0) rfl ?_
    refine X.ifnull dX10_isOfKind_41 ?_
    refine X.iconst dX10_isOfKind_44 kI_1 ?_
    refine X.goto dX10_isOfKind_45 (tgt := 49) rfl ?_
    obtain ⟨e1, e2⟩ := e_ret hf
    subst e1
    subst e2
    exact X.iret dX10_isOfKind_49 rfl rfl
  rw [if_neg h1] at hf
  by_cases h2 : l1 = (1 : Int32)
  · rw [if_pos h2] at hf
    refine X.tableIn dX10_isOfKind_1 (by rw [h2]; decide) (by rw [h2]; decide) (off := 49) (tgt := 50) (by rw [h2]; rfl) rfl ?_
    refine X.aload_n dX10_isOfKind_50 rfl (j := 0) rfl ?_
    obtain ⟨v3, h4, hf⟩ := ob hf
    refine Y.inst dX10_isOfKind_51 ww_183 (ci := 2) (by decide) rfl h4 ?_
    by_cases h5 : v3 = 0 ∨ v3 = 1
    · rw [if_pos h5] at hf
      obtain ⟨e1, e2⟩ := e_ret hf
      subst e1
      subst e2
      exact X.iret dX10_isOfKind_54 rfl (e_bool h5)
    · rw [if_neg h5] at hf
      cases hf
  rw [if_neg h2] at hf
  by_cases h6 : l1 = (2 : Int32)
  · rw [if_pos h6] at hf
    refine X.tableIn dX10_isOfKind_1 (by rw [h6]; decide) (by rw [h6]; decide) (off := 54) (tgt := 55) (by rw [h6]; rfl) rfl ?_
    refine X.aload_n dX10_isOfKind_55 rfl (j := 0) rfl ?_
    obtain ⟨v7, h8, hf⟩ := ob hf
    refine Y.inst dX10_isOfKind_56 ww_190 (ci := 8) (by decide) rfl h8 ?_
    by_cases h9 : v7 = 0 ∨ v7 = 1
    · rw [if_pos h9] at hf
      obtain ⟨e1, e2⟩ := e_ret hf
      subst e1
      subst e2
      exact X.iret dX10_isOfKind_59 rfl (e_bool h9)
    · rw [if_neg h9] at hf
      cases hf
  rw [if_neg h6] at hf
  by_cases h10 : l1 = (3 : Int32)
  · rw [if_pos h10] at hf
    refine X.tableIn dX10_isOfKind_1 (by rw [h10]; decide) (by rw [h10]; decide) (off := 59) (tgt := 60) (by rw [h10]; rfl) rfl ?_
    refine X.aload_n dX10_isOfKind_60 rfl (j := 0) rfl ?_
    obtain ⟨v11, h12, hf⟩ := ob hf
    refine Y.inst dX10_isOfKind_61 ww_197 (ci := 0) (by decide) rfl h12 ?_
    by_cases h13 : v11 = 0 ∨ v11 = 1
    · rw [if_pos h13] at hf
      obtain ⟨e1, e2⟩ := e_ret hf
      subst e1
      subst e2
      exact X.iret dX10_isOfKind_64 rfl (e_bool h13)
    · rw [if_neg h13] at hf
      cases hf
  rw [if_neg h10] at hf
  by_cases h14 : l1 = (4 : Int32)
  · rw [if_pos h14] at hf
    refine X.tableIn dX10_isOfKind_1 (by rw [h14]; decide) (by rw [h14]; decide) (off := 64) (tgt := 65) (by rw [h14]; rfl) rfl ?_
    refine X.aload_n dX10_isOfKind_65 rfl (j := 0) rfl ?_
    obtain ⟨v15, h16, hf⟩ := ob hf
    refine Y.inst dX10_isOfKind_66 ww_204 (ci := 1) (by decide) rfl h16 ?_
    by_cases h17 : v15 = 0 ∨ v15 = 1
    · rw [if_pos h17] at hf
      obtain ⟨e1, e2⟩ := e_ret hf
      subst e1
      subst e2
      exact X.iret dX10_isOfKind_69 rfl (e_bool h17)
    · rw [if_neg h17] at hf
      cases hf
  rw [if_neg h14] at hf
  by_cases h18 : l1 = (5 : Int32)
  · rw [if_pos h18] at hf
    refine X.tableIn dX10_isOfKind_1 (by rw [h18]; decide) (by rw [h18]; decide) (off := 69) (tgt := 70) (by rw [h18]; rfl) rfl ?_
    refine X.aload_n dX10_isOfKind_70 rfl (j := 0) rfl ?_
    obtain ⟨v19, h20, hf⟩ := ob hf
    refine Y.inst dX10_isOfKind_71 ww_211 (ci := 4) (by decide) rfl h20 ?_
    by_cases h21 : v19 = 0 ∨ v19 = 1
    · rw [if_pos h21] at hf
      obtain ⟨e1, e2⟩ := e_ret hf
      subst e1
      subst e2
      exact X.iret dX10_isOfKind_74 rfl (e_bool h21)
    · rw [if_neg h21] at hf
      cases hf
  rw [if_neg h18] at hf
  refine X.tableOut dX10_isOfKind_1 (tgt := 75) (by have qh1 := e_ne (z := 0) (by decide) h1; have qh2 := e_ne (z := 1) (by decide) h2; have qh6 := e_ne (z := 2) (by decide) h6; have qh10 := e_ne (z := 3) (by decide) h10; have qh14 := e_ne (z := 4) (by decide) h14; have qh18 := e_ne (z := 5) (by decide) h18; omega) rfl ?_
  refine X.iconst dX10_isOfKind_75 kI_0 ?_
  obtain ⟨e1, e2⟩ := e_ret hf
  subst e1
  subst e2
  exact X.iret dX10_isOfKind_76 rfl rfl
/-! LeanedOut.run(II)I -/
abbrev M_X10_run : e_M := (yX10_run, cX10_run, 6, (some .int))
theorem mk_X10_run : e_Mok M_X10_run 2 := ⟨by decide +kernel, by decide +kernel, by decide +kernel⟩
theorem dX10_run_0 : decode cX10_run 0 = .ok (.iload_n 2, 1) := by decide +kernel
theorem dX10_run_1 : decode cX10_run 1 = .ok (.ifCond .lt 12, 3) := by decide +kernel
theorem dX10_run_4 : decode cX10_run 4 = .ok (.iload_n 2, 1) := by decide +kernel
theorem dX10_run_5 : decode cX10_run 5 = .ok (.iconst 2, 1) := by decide +kernel
theorem dX10_run_6 : decode cX10_run 6 = .ok (.if_icmp .gt 7, 3) := by decide +kernel
theorem dX10_run_9 : decode cX10_run 9 = .ok (.iconst 1, 1) := by decide +kernel
theorem dX10_run_10 : decode cX10_run 10 = .ok (.goto 4, 3) := by decide +kernel
theorem dX10_run_13 : decode cX10_run 13 = .ok (.iconst 0, 1) := by decide +kernel
theorem dX10_run_14 : decode cX10_run 14 = .ok (.istore_n 3, 1) := by decide +kernel
theorem dX10_run_15 : decode cX10_run 15 = .ok (.iload_n 3, 1) := by decide +kernel
theorem dX10_run_16 : decode cX10_run 16 = .ok (.ifCond .eq 7, 3) := by decide +kernel
theorem dX10_run_19 : decode cX10_run 19 = .ok (.iconst 0, 1) := by decide +kernel
theorem dX10_run_20 : decode cX10_run 20 = .ok (.goto 7, 3) := by decide +kernel
theorem dX10_run_23 : decode cX10_run 23 = .ok (.iload_n 2, 1) := by decide +kernel
theorem dX10_run_24 : decode cX10_run 24 = .ok (.bipush 10, 2) := by decide +kernel
theorem dX10_run_26 : decode cX10_run 26 = .ok (.isub, 1) := by decide +kernel
theorem dX10_run_27 : decode cX10_run 27 = .ok (.istore 4, 2) := by decide +kernel
theorem dX10_run_29 : decode cX10_run 29 = .ok (.iload_n 1, 1) := by decide +kernel
theorem dX10_run_30 : decode cX10_run 30 = .ok (.ifCond .lt 31, 3) := by decide +kernel
theorem dX10_run_33 : decode cX10_run 33 = .ok (.iload_n 1, 1) := by decide +kernel
theorem dX10_run_34 : decode cX10_run 34 = .ok (.bipush 40, 2) := by decide +kernel
theorem dX10_run_36 : decode cX10_run 36 = .ok (.if_icmp .gt 25, 3) := by decide +kernel
theorem dX10_run_39 : decode cX10_run 39 = .ok (.iload_n 3, 1) := by decide +kernel
theorem dX10_run_40 : decode cX10_run 40 = .ok (.ifCond .ne 24, 3) := by decide +kernel
theorem dX10_run_43 : decode cX10_run 43 = .ok (.iload_n 2, 1) := by decide +kernel
theorem dX10_run_44 : decode cX10_run 44 = .ok (.bipush 10, 2) := by decide +kernel
theorem dX10_run_46 : decode cX10_run 46 = .ok (.if_icmp .lt 15, 3) := by decide +kernel
theorem dX10_run_49 : decode cX10_run 49 = .ok (.aload_n 0, 1) := by decide +kernel
theorem dX10_run_50 : decode cX10_run 50 = .ok (.getfield 63, 3) := by decide +kernel
theorem dX10_run_53 : decode cX10_run 53 = .ok (.iload 4, 2) := by decide +kernel
theorem dX10_run_55 : decode cX10_run 55 = .ok (.invokevirtual 122, 3) := by decide +kernel
theorem dX10_run_58 : decode cX10_run 58 = .ok (.ifCond .ne 6, 3) := by decide +kernel
theorem dX10_run_61 : decode cX10_run 61 = .ok (.ldc 188, 2) := by decide +kernel
theorem dX10_run_63 : decode cX10_run 63 = .ok (.ireturn, 1) := by decide +kernel
theorem dX10_run_64 : decode cX10_run 64 = .ok (.aload_n 0, 1) := by decide +kernel
theorem dX10_run_65 : decode cX10_run 65 = .ok (.getfield 67, 3) := by decide +kernel
theorem dX10_run_68 : decode cX10_run 68 = .ok (.aload_n 0, 1) := by decide +kernel
theorem dX10_run_69 : decode cX10_run 69 = .ok (.getfield 63, 3) := by decide +kernel
theorem dX10_run_72 : decode cX10_run 72 = .ok (.invokevirtual 189, 3) := by decide +kernel
theorem dX10_run_75 : decode cX10_run 75 = .ok (.iconst 0, 1) := by decide +kernel
theorem dX10_run_76 : decode cX10_run 76 = .ok (.istore 5, 2) := by decide +kernel
theorem dX10_run_78 : decode cX10_run 78 = .ok (.iload 5, 2) := by decide +kernel
theorem dX10_run_80 : decode cX10_run 80 = .ok (.iload_n 1, 1) := by decide +kernel
theorem dX10_run_81 : decode cX10_run 81 = .ok (.if_icmp .ge 17, 3) := by decide +kernel
theorem dX10_run_84 : decode cX10_run 84 = .ok (.aload_n 0, 1) := by decide +kernel
theorem dX10_run_85 : decode cX10_run 85 = .ok (.getfield 67, 3) := by decide +kernel
theorem dX10_run_88 : decode cX10_run 88 = .ok (.invokevirtual 185, 3) := by decide +kernel
theorem dX10_run_91 : decode cX10_run 91 = .ok (.pop, 1) := by decide +kernel
theorem dX10_run_92 : decode cX10_run 92 = .ok (.iinc 5 1, 3) := by decide +kernel
theorem dX10_run_95 : decode cX10_run 95 = .ok (.goto (-17), 3) := by decide +kernel
theorem dX10_run_98 : decode cX10_run 98 = .ok (.iload_n 2, 1) := by decide +kernel
theorem dX10_run_99 : decode cX10_run 99 = .ok (.tableswitch 49 0 2 #[25, 33, 41], 25) := by decide +kernel
theorem dX10_run_124 : decode cX10_run 124 = .ok (.aload_n 0, 1) := by decide +kernel
theorem dX10_run_125 : decode cX10_run 125 = .ok (.getfield 67, 3) := by decide +kernel
theorem dX10_run_128 : decode cX10_run 128 = .ok (.invokevirtual 96, 3) := by decide +kernel
theorem dX10_run_131 : decode cX10_run 131 = .ok (.ireturn, 1) := by decide +kernel
theorem dX10_run_132 : decode cX10_run 132 = .ok (.aload_n 0, 1) := by decide +kernel
theorem dX10_run_133 : decode cX10_run 133 = .ok (.getfield 67, 3) := by decide +kernel
theorem dX10_run_136 : decode cX10_run 136 = .ok (.invokevirtual 193, 3) := by decide +kernel
theorem dX10_run_139 : decode cX10_run 139 = .ok (.ireturn, 1) := by decide +kernel
theorem dX10_run_140 : decode cX10_run 140 = .ok (.aload_n 0, 1) := by decide +kernel
theorem dX10_run_141 : decode cX10_run 141 = .ok (.getfield 67, 3) := by decide +kernel
theorem dX10_run_144 : decode cX10_run 144 = .ok (.invokevirtual 196, 3) := by decide +kernel
theorem dX10_run_147 : decode cX10_run 147 = .ok (.ireturn, 1) := by decide +kernel
theorem dX10_run_148 : decode cX10_run 148 = .ok (.aload_n 0, 1) := by decide +kernel
theorem dX10_run_149 : decode cX10_run 149 = .ok (.getfield 67, 3) := by decide +kernel
theorem dX10_run_152 : decode cX10_run 152 = .ok (.getfield 142, 3) := by decide +kernel
theorem dX10_run_155 : decode cX10_run 155 = .ok (.iload 4, 2) := by decide +kernel
theorem dX10_run_157 : decode cX10_run 157 = .ok (.iaload, 1) := by decide +kernel
theorem dX10_run_158 : decode cX10_run 158 = .ok (.ireturn, 1) := by decide +kernel
def L_X10_run_78 : Nat → e_S → Nat → Int32 → Int32 → Int32 → Int32 → e_G → Option (Int32 × e_G)
  | 0, _, _, _, _, _, _, _ => none
  | n + 1, S, l0, l1, l2, l4, l5, g =>
  if l1 ≤ l5 then
    if l2 = 0 then
      (e_gR S g 10 l0 3).bind fun v2 =>
      (f_X7_keptBits S v2 g).bind fun q5 =>
      some (q5.1, q5.2)
    else
    if l2 = 1 then
      (e_gR S g 10 l0 3).bind fun v7 =>
      (f_X7_mindingOfTheRest S v7 g).bind fun q10 =>
      some (q10.1, q10.2)
    else
    if l2 = 2 then
      (e_gR S g 10 l0 3).bind fun v12 =>
      (f_X7_leanOfAll S v12 g).bind fun q15 =>
      some (q15.1, q15.2)
    else
    (e_gR S g 10 l0 3).bind fun v16 =>
    (e_gR S g 7 v16 2).bind fun v18 =>
    (e_aI S g 0 v18 l4).bind fun v20 =>
    some (v20, g)
  else
    (e_gR S g 10 l0 3).bind fun v22 =>
    (f_X7_passDay S v22 g).bind fun q25 =>
    L_X10_run_78 n S l0 l1 l2 l4 (l5 + (1 : Int32)) q25.2
def J_X10_run_64 (S : e_S) (l0 : Nat) (l1 : Int32) (l2 : Int32) (l4 : Int32) (g : e_G) : Option (Int32 × e_G) :=
  (e_gR S g 10 l0 3).bind fun v1 =>
  (e_gR S g 10 l0 2).bind fun v3 =>
  (f_X7_become S v1 v3 g).bind fun q6 =>
  L_X10_run_78 50000 S l0 l1 l2 l4 (0 : Int32) q6
def J_X10_run_27 (S : e_S) (l0 : Nat) (l1 : Int32) (l2 : Int32) (l3 : Int32) (t0 : Int32) (g : e_G) : Option (Int32 × e_G) :=
  if l1 < 0 then
    some ((-100000 : Int32), g)
  else
    if (40 : Int32) < l1 then
      some ((-100000 : Int32), g)
    else
      if l3 = 0 then
        if l2 < (10 : Int32) then
          some ((-100000 : Int32), g)
        else
          (e_gR S g 10 l0 2).bind fun v1 =>
          (f_X7_has S v1 t0 g).bind fun q4 =>
          if q4.1 = 0 then
            some ((-100000 : Int32), q4.2)
          else
            J_X10_run_64 S l0 l1 l2 t0 q4.2
      else
        J_X10_run_64 S l0 l1 l2 t0 g
def J_X10_run_14 (S : e_S) (l0 : Nat) (l1 : Int32) (l2 : Int32) (t0 : Int32) (g : e_G) : Option (Int32 × e_G) :=
  if t0 = 0 then
    J_X10_run_27 S l0 l1 l2 t0 (l2 - (10 : Int32)) g
  else
    J_X10_run_27 S l0 l1 l2 t0 (0 : Int32) g
def J_X10_run_13 (S : e_S) (l0 : Nat) (l1 : Int32) (l2 : Int32) (g : e_G) : Option (Int32 × e_G) :=
  J_X10_run_14 S l0 l1 l2 (0 : Int32) g
def f_X10_run (S : e_S) (l0 : Nat) (l1 : Int32) (l2 : Int32) (g : e_G) : Option (Int32 × e_G) :=
  if e_ob S 10 l0 = true then
    if l2 < 0 then
      J_X10_run_13 S l0 l1 l2 g
    else
      if (2 : Int32) < l2 then
        J_X10_run_13 S l0 l1 l2 g
      else
        J_X10_run_14 S l0 l1 l2 (1 : Int32) g
  else none
theorem x_L_X10_run_78 {l : Launch} {D : va_G} {S : e_S} {w : Int32} {k : e_G} : ∀ (n : Nat) (l0 : Nat) (l1 : Int32) (l2 : Int32) (l4 : Int32) (l5 : Int32) (g : e_G), L_X10_run_78 n S l0 l1 l2 l4 l5 g = some (w, k) → X l D (e_R 6) M_X10_run 0 0 78 [(0, .ref l0), (1, .int l1), (2, .int l2), (4, .int l4), (5, .int l5)] [] (S, g) (some (.int w)) (S, k) := by
  intro n
  induction n with
  | zero =>
    intro l0 l1 l2 l4 l5 g hf
    cases hf
  | succ n ih =>
    intro l0 l1 l2 l4 l5 g hf
    rw [L_X10_run_78] at hf
    refine X.iload dX10_run_78 (j := 4) rfl ?_
    refine X.iload_n dX10_run_80 rfl (j := 1) rfl ?_
    refine X.icmp_ge dX10_run_81 (tgt := 98) rfl (fun hc => ?_) (fun hc => ?_)
    · rw [if_pos hc] at hf
      refine X.iload_n dX10_run_98 rfl (j := 2) rfl ?_
      by_cases h1 : l2 = (0 : Int32)
      · rw [if_pos h1] at hf
        refine X.tableIn dX10_run_99 (by rw [h1]; decide) (by rw [h1]; decide) (off := 25) (tgt := 124) (by rw [h1]; rfl) rfl ?_
        refine X.aload_n dX10_run_124 rfl (j := 0) rfl ?_
        obtain ⟨v2, h3, hf⟩ := ob hf
        refine Y.getR dX10_run_125 fl_X10_67 rfl h3 ?_
        obtain ⟨q5, h4, hf⟩ := ob hf
        refine Y.callV (av := []) (ci := 7) dX10_run_128 (c_X7_keptBits (l := l) (D := D) (w := q5.1) (k := q5.2) h4) cw_X10_96 (by decide) rfl mk_X7_keptBits (o_X7_keptBits (w := q5.1) (k := q5.2) h4) (e_R_ok (Nat.le_of_ble_eq_true rfl) (Nat.le_of_ble_eq_true rfl)) ⟨rfl, rfl⟩ (by simp [Value.category]) ?_
        obtain ⟨e1, e2⟩ := e_ret hf
        subst e1
        subst e2
        exact X.iret dX10_run_131 rfl rfl
      rw [if_neg h1] at hf
      by_cases h6 : l2 = (1 : Int32)
      · rw [if_pos h6] at hf
        refine X.tableIn dX10_run_99 (by rw [h6]; decide) (by rw [h6]; decide) (off := 33) (tgt := 132) (by rw [h6]; rfl) rfl ?_
        refine X.aload_n dX10_run_132 rfl (j := 0) rfl ?_
        obtain ⟨v7, h8, hf⟩ := ob hf
        refine Y.getR dX10_run_133 fl_X10_67 rfl h8 ?_
        obtain ⟨q10, h9, hf⟩ := ob hf
        refine Y.callV (av := []) (ci := 7) dX10_run_136 (c_X7_mindingOfTheRest (l := l) (D := D) (w := q10.1) (k := q10.2) h9) cw_X10_193 (by decide) rfl mk_X7_mindingOfTheRest (o_X7_mindingOfTheRest (w := q10.1) (k := q10.2) h9) (e_R_ok (Nat.le_of_ble_eq_true rfl) (Nat.le_of_ble_eq_true rfl)) ⟨rfl, rfl⟩ (by simp [Value.category]) ?_
        obtain ⟨e1, e2⟩ := e_ret hf
        subst e1
        subst e2
        exact X.iret dX10_run_139 rfl rfl
      rw [if_neg h6] at hf
      by_cases h11 : l2 = (2 : Int32)
      · rw [if_pos h11] at hf
        refine X.tableIn dX10_run_99 (by rw [h11]; decide) (by rw [h11]; decide) (off := 41) (tgt := 140) (by rw [h11]; rfl) rfl ?_
        refine X.aload_n dX10_run_140 rfl (j := 0) rfl ?_
        obtain ⟨v12, h13, hf⟩ := ob hf
        refine Y.getR dX10_run_141 fl_X10_67 rfl h13 ?_
        obtain ⟨q15, h14, hf⟩ := ob hf
        refine Y.callV (av := []) (ci := 7) dX10_run_144 (c_X7_leanOfAll (l := l) (D := D) (w := q15.1) (k := q15.2) h14) cw_X10_196 (by decide) rfl mk_X7_leanOfAll (o_X7_leanOfAll (w := q15.1) (k := q15.2) h14) (e_R_ok (Nat.le_of_ble_eq_true rfl) (Nat.le_of_ble_eq_true rfl)) ⟨rfl, rfl⟩ (by simp [Value.category]) ?_
        obtain ⟨e1, e2⟩ := e_ret hf
        subst e1
        subst e2
        exact X.iret dX10_run_147 rfl rfl
      rw [if_neg h11] at hf
      refine X.tableOut dX10_run_99 (tgt := 148) (by have qh1 := e_ne (z := 0) (by decide) h1; have qh6 := e_ne (z := 1) (by decide) h6; have qh11 := e_ne (z := 2) (by decide) h11; omega) rfl ?_
      refine X.aload_n dX10_run_148 rfl (j := 0) rfl ?_
      obtain ⟨v16, h17, hf⟩ := ob hf
      refine Y.getR dX10_run_149 fl_X10_67 rfl h17 ?_
      obtain ⟨v18, h19, hf⟩ := ob hf
      refine Y.getR dX10_run_152 fl_X10_142 rfl h19 ?_
      refine X.iload dX10_run_155 (j := 3) rfl ?_
      obtain ⟨v20, h21, hf⟩ := ob hf
      refine Y.iald dX10_run_157 h21 ?_
      obtain ⟨e1, e2⟩ := e_ret hf
      subst e1
      subst e2
      exact X.iret dX10_run_158 rfl rfl
    · rw [if_neg hc] at hf
      refine X.aload_n dX10_run_84 rfl (j := 0) rfl ?_
      obtain ⟨v22, h23, hf⟩ := ob hf
      refine Y.getR dX10_run_85 fl_X10_67 rfl h23 ?_
      obtain ⟨q25, h24, hf⟩ := ob hf
      refine Y.callV (av := []) (ci := 7) dX10_run_88 (c_X7_passDay (l := l) (D := D) (w := q25.1) (k := q25.2) h24) cw_X10_185 (by decide) rfl mk_X7_passDay (o_X7_passDay (w := q25.1) (k := q25.2) h24) (e_R_ok (Nat.le_of_ble_eq_true rfl) (Nat.le_of_ble_eq_true rfl)) ⟨rfl, rfl⟩ (by simp [Value.category]) ?_
      refine X.pop dX10_run_91 rfl ?_
      refine X.iinc (j := 4) dX10_run_92 rfl (v := l5 + (1 : Int32)) (by rw [kI_1]) (Nat.le_of_ble_eq_true rfl) (lc' := [(5, .int (l5 + (1 : Int32))), (0, .ref l0), (1, .int l1), (2, .int l2), (4, .int l4)]) rfl ?_
      refine X.goto dX10_run_95 (tgt := 78) rfl ?_
      refine X.sub [1, 2, 3, 4, 0] rfl ?_
      exact ih _ _ _ _ _ _ hf
theorem x_J_X10_run_64 {l : Launch} {D : va_G} {S : e_S} {w : Int32} {k : e_G} {l0 : Nat} {l1 : Int32} {l2 : Int32} {l4 : Int32} {g : e_G} (hf : J_X10_run_64 S l0 l1 l2 l4 g = some (w, k)) : X l D (e_R 6) M_X10_run 0 0 64 [(0, .ref l0), (1, .int l1), (2, .int l2), (4, .int l4)] [] (S, g) (some (.int w)) (S, k) := by
  unfold J_X10_run_64 at hf
  refine X.aload_n dX10_run_64 rfl (j := 0) rfl ?_
  obtain ⟨v1, h2, hf⟩ := ob hf
  refine Y.getR dX10_run_65 fl_X10_67 rfl h2 ?_
  refine X.aload_n dX10_run_68 rfl (j := 0) rfl ?_
  obtain ⟨v3, h4, hf⟩ := ob hf
  refine Y.getR dX10_run_69 fl_X10_63 rfl h4 ?_
  obtain ⟨q6, h5, hf⟩ := ob hf
  refine Y.callV (av := [.ref v3]) (ci := 7) dX10_run_72 (c_X7_become (l := l) (D := D) h5) cw_X10_189 (by decide) rfl mk_X7_become (o_X7_become (k := q6) h5) (e_R_ok (Nat.le_of_ble_eq_true rfl) (Nat.le_of_ble_eq_true rfl)) ⟨rfl, rfl⟩ (by simp [Value.category]) ?_
  refine X.iconst dX10_run_75 kI_0 ?_
  refine X.istore dX10_run_76 (Nat.le_of_ble_eq_true rfl) (lc' := [(5, .int (0 : Int32)), (0, .ref l0), (1, .int l1), (2, .int l2), (4, .int l4)]) rfl ?_
  refine X.sub [1, 2, 3, 4, 0] rfl ?_
  exact x_L_X10_run_78 50000 _ _ _ _ _ _ hf
theorem x_J_X10_run_27 {l : Launch} {D : va_G} {S : e_S} {w : Int32} {k : e_G} {l0 : Nat} {l1 : Int32} {l2 : Int32} {l3 : Int32} {t0 : Int32} {g : e_G} (hf : J_X10_run_27 S l0 l1 l2 l3 t0 g = some (w, k)) : X l D (e_R 6) M_X10_run 0 0 27 [(0, .ref l0), (1, .int l1), (2, .int l2), (3, .int l3)] [.int t0] (S, g) (some (.int w)) (S, k) := by
  unfold J_X10_run_27 at hf
  refine X.istore dX10_run_27 (Nat.le_of_ble_eq_true rfl) (lc' := [(4, .int t0), (0, .ref l0), (1, .int l1), (2, .int l2), (3, .int l3)]) rfl ?_
  refine X.iload_n dX10_run_29 rfl (j := 2) rfl ?_
  refine X.if_lt dX10_run_30 (tgt := 61) rfl (fun hc => ?_) (fun hc => ?_)
  · rw [if_pos hc] at hf
    refine X.ldc dX10_run_61 ww_716 ?_
    obtain ⟨e1, e2⟩ := e_ret hf
    subst e1
    subst e2
    exact X.iret dX10_run_63 rfl rfl
  · rw [if_neg hc] at hf
    refine X.iload_n dX10_run_33 rfl (j := 2) rfl ?_
    refine X.bipush dX10_run_34 kB_40 ?_
    refine X.icmp_gt dX10_run_36 (tgt := 61) rfl (fun hc => ?_) (fun hc => ?_)
    · rw [if_pos hc] at hf
      refine X.ldc dX10_run_61 ww_716 ?_
      obtain ⟨e1, e2⟩ := e_ret hf
      subst e1
      subst e2
      exact X.iret dX10_run_63 rfl rfl
    · rw [if_neg hc] at hf
      refine X.iload_n dX10_run_39 rfl (j := 4) rfl ?_
      refine X.if_ne dX10_run_40 (tgt := 64) rfl (fun hc => ?_) (fun hc => ?_)
      · rw [if_neg hc] at hf
        refine X.sub [1, 2, 3, 0] rfl ?_
        exact x_J_X10_run_64 hf
      · rw [if_pos hc] at hf
        refine X.iload_n dX10_run_43 rfl (j := 3) rfl ?_
        refine X.bipush dX10_run_44 kB_10 ?_
        refine X.icmp_lt dX10_run_46 (tgt := 61) rfl (fun hc => ?_) (fun hc => ?_)
        · rw [if_pos hc] at hf
          refine X.ldc dX10_run_61 ww_716 ?_
          obtain ⟨e1, e2⟩ := e_ret hf
          subst e1
          subst e2
          exact X.iret dX10_run_63 rfl rfl
        · rw [if_neg hc] at hf
          refine X.aload_n dX10_run_49 rfl (j := 1) rfl ?_
          obtain ⟨v1, h2, hf⟩ := ob hf
          refine Y.getR dX10_run_50 fl_X10_63 rfl h2 ?_
          refine X.iload dX10_run_53 (j := 0) rfl ?_
          obtain ⟨q4, h3, hf⟩ := ob hf
          refine Y.callV (av := [.int t0]) (ci := 7) dX10_run_55 (c_X7_has (l := l) (D := D) (w := q4.1) (k := q4.2) h3) cw_X10_122 (by decide) rfl mk_X7_has (o_X7_has (w := q4.1) (k := q4.2) h3) (e_R_ok (Nat.le_of_ble_eq_true rfl) (Nat.le_of_ble_eq_true rfl)) ⟨rfl, rfl⟩ (by simp [Value.category]) ?_
          refine X.if_ne dX10_run_58 (tgt := 64) rfl (fun hc => ?_) (fun hc => ?_)
          · rw [if_neg hc] at hf
            refine X.sub [1, 2, 3, 0] rfl ?_
            exact x_J_X10_run_64 hf
          · rw [if_pos hc] at hf
            refine X.ldc dX10_run_61 ww_716 ?_
            obtain ⟨e1, e2⟩ := e_ret hf
            subst e1
            subst e2
            exact X.iret dX10_run_63 rfl rfl
theorem x_J_X10_run_14 {l : Launch} {D : va_G} {S : e_S} {w : Int32} {k : e_G} {l0 : Nat} {l1 : Int32} {l2 : Int32} {t0 : Int32} {g : e_G} (hf : J_X10_run_14 S l0 l1 l2 t0 g = some (w, k)) : X l D (e_R 6) M_X10_run 0 0 14 [(0, .ref l0), (1, .int l1), (2, .int l2)] [.int t0] (S, g) (some (.int w)) (S, k) := by
  unfold J_X10_run_14 at hf
  refine X.istore_n dX10_run_14 rfl (Nat.le_of_ble_eq_true rfl) (lc' := [(3, .int t0), (0, .ref l0), (1, .int l1), (2, .int l2)]) rfl ?_
  refine X.iload_n dX10_run_15 rfl (j := 0) rfl ?_
  refine X.if_eq dX10_run_16 (tgt := 23) rfl (fun hc => ?_) (fun hc => ?_)
  · rw [if_pos hc] at hf
    refine X.iload_n dX10_run_23 rfl (j := 3) rfl ?_
    refine X.bipush dX10_run_24 kB_10 ?_
    refine X.isub dX10_run_26 ?_
    refine X.sub [1, 2, 3, 0] rfl ?_
    exact x_J_X10_run_27 hf
  · rw [if_neg hc] at hf
    refine X.iconst dX10_run_19 kI_0 ?_
    refine X.goto dX10_run_20 (tgt := 27) rfl ?_
    refine X.sub [1, 2, 3, 0] rfl ?_
    exact x_J_X10_run_27 hf
theorem x_J_X10_run_13 {l : Launch} {D : va_G} {S : e_S} {w : Int32} {k : e_G} {l0 : Nat} {l1 : Int32} {l2 : Int32} {g : e_G} (hf : J_X10_run_13 S l0 l1 l2 g = some (w, k)) : X l D (e_R 6) M_X10_run 0 0 13 [(0, .ref l0), (1, .int l1), (2, .int l2)] [] (S, g) (some (.int w)) (S, k) := by
  unfold J_X10_run_13 at hf
  refine X.iconst dX10_run_13 kI_0 ?_
  exact x_J_X10_run_14 hf
theorem o_X10_run  {S : e_S} {w : Int32} {k : e_G} {l0 : Nat} {l1 : Int32} {l2 : Int32} {g : e_G} (hf : f_X10_run S l0 l1 l2 g = some (w, k)) : e_ob S 10 l0 = true := by
  unfold f_X10_run at hf
  by_cases hc : e_ob S 10 l0 = true
  · exact hc
  · rw [if_neg hc] at hf
    cases hf
theorem c_X10_run {l : Launch} {D : va_G}  {S : e_S} {w : Int32} {k : e_G} {l0 : Nat} {l1 : Int32} {l2 : Int32} {g : e_G} (hf : f_X10_run S l0 l1 l2 g = some (w, k)) : CT l D (e_R 6) M_X10_run [.ref l0, .int l1, .int l2] (S, g) (some (.int w)) (S, k) := by
  refine CT.of (by decide +kernel) (Nat.le_of_ble_eq_true rfl) ?_
  have ho := o_X10_run hf
  unfold f_X10_run at hf
  rw [if_pos ho] at hf
  show X l D (e_R 6) M_X10_run 0 0 0 [(0, .ref l0), (1, .int l1), (2, .int l2)] [] (S, g) (some (.int w)) (S, k)
  refine X.iload_n dX10_run_0 rfl (j := 2) rfl ?_
  refine X.if_lt dX10_run_1 (tgt := 13) rfl (fun hc => ?_) (fun hc => ?_)
  · rw [if_pos hc] at hf
    exact x_J_X10_run_13 hf
  · rw [if_neg hc] at hf
    refine X.iload_n dX10_run_4 rfl (j := 2) rfl ?_
    refine X.iconst dX10_run_5 kI_2 ?_
    refine X.icmp_gt dX10_run_6 (tgt := 13) rfl (fun hc => ?_) (fun hc => ?_)
    · rw [if_pos hc] at hf
      exact x_J_X10_run_13 hf
    · rw [if_neg hc] at hf
      refine X.iconst dX10_run_9 kI_1 ?_
      refine X.goto dX10_run_10 (tgt := 14) rfl ?_
      exact x_J_X10_run_14 hf
/-! LeanedOut.keeps(I)I -/
abbrev M_X10_keeps : e_M := (yX10_keeps, cX10_keeps, 3, (some .int))
theorem mk_X10_keeps : e_Mok M_X10_keeps 1 := ⟨by decide +kernel, by decide +kernel, by decide +kernel⟩
theorem dX10_keeps_0 : decode cX10_keeps 0 = .ok (.aload_n 0, 1) := by decide +kernel
theorem dX10_keeps_1 : decode cX10_keeps 1 = .ok (.getfield 63, 3) := by decide +kernel
theorem dX10_keeps_4 : decode cX10_keeps 4 = .ok (.iload_n 1, 1) := by decide +kernel
theorem dX10_keeps_5 : decode cX10_keeps 5 = .ok (.invokevirtual 122, 3) := by decide +kernel
theorem dX10_keeps_8 : decode cX10_keeps 8 = .ok (.ifCond .ne 6, 3) := by decide +kernel
theorem dX10_keeps_11 : decode cX10_keeps 11 = .ok (.bipush (-5), 2) := by decide +kernel
theorem dX10_keeps_13 : decode cX10_keeps 13 = .ok (.ireturn, 1) := by decide +kernel
theorem dX10_keeps_14 : decode cX10_keeps 14 = .ok (.aload_n 0, 1) := by decide +kernel
theorem dX10_keeps_15 : decode cX10_keeps 15 = .ok (.getfield 67, 3) := by decide +kernel
theorem dX10_keeps_18 : decode cX10_keeps 18 = .ok (.aload_n 0, 1) := by decide +kernel
theorem dX10_keeps_19 : decode cX10_keeps 19 = .ok (.getfield 63, 3) := by decide +kernel
theorem dX10_keeps_22 : decode cX10_keeps 22 = .ok (.invokevirtual 189, 3) := by decide +kernel
theorem dX10_keeps_25 : decode cX10_keeps 25 = .ok (.aload_n 0, 1) := by decide +kernel
theorem dX10_keeps_26 : decode cX10_keeps 26 = .ok (.iload_n 1, 1) := by decide +kernel
theorem dX10_keeps_27 : decode cX10_keeps 27 = .ok (.invokevirtual 199, 3) := by decide +kernel
theorem dX10_keeps_30 : decode cX10_keeps 30 = .ok (.istore_n 2, 1) := by decide +kernel
theorem dX10_keeps_31 : decode cX10_keeps 31 = .ok (.iload_n 2, 1) := by decide +kernel
theorem dX10_keeps_32 : decode cX10_keeps 32 = .ok (.bipush 60, 2) := by decide +kernel
theorem dX10_keeps_34 : decode cX10_keeps 34 = .ok (.if_icmp .le 7, 3) := by decide +kernel
theorem dX10_keeps_37 : decode cX10_keeps 37 = .ok (.iconst (-1), 1) := by decide +kernel
theorem dX10_keeps_38 : decode cX10_keeps 38 = .ok (.goto 4, 3) := by decide +kernel
theorem dX10_keeps_41 : decode cX10_keeps 41 = .ok (.iload_n 2, 1) := by decide +kernel
theorem dX10_keeps_42 : decode cX10_keeps 42 = .ok (.ireturn, 1) := by decide +kernel
def f_X10_keeps (S : e_S) (l0 : Nat) (l1 : Int32) (g : e_G) : Option (Int32 × e_G) :=
  if e_ob S 10 l0 = true then
    (e_gR S g 10 l0 2).bind fun v1 =>
    (f_X7_has S v1 l1 g).bind fun q4 =>
    if q4.1 = 0 then
      some ((-5 : Int32), q4.2)
    else
      (e_gR S q4.2 10 l0 3).bind fun v5 =>
      (e_gR S q4.2 10 l0 2).bind fun v7 =>
      (f_X7_become S v5 v7 q4.2).bind fun q10 =>
      (f_X10_daysTillKept S l0 l1 q10).bind fun q12 =>
      if q12.1 ≤ (60 : Int32) then
        some (q12.1, q12.2)
      else
        some ((-1 : Int32), q12.2)
  else none
theorem o_X10_keeps  {S : e_S} {w : Int32} {k : e_G} {l0 : Nat} {l1 : Int32} {g : e_G} (hf : f_X10_keeps S l0 l1 g = some (w, k)) : e_ob S 10 l0 = true := by
  unfold f_X10_keeps at hf
  by_cases hc : e_ob S 10 l0 = true
  · exact hc
  · rw [if_neg hc] at hf
    cases hf
theorem c_X10_keeps {l : Launch} {D : va_G}  {S : e_S} {w : Int32} {k : e_G} {l0 : Nat} {l1 : Int32} {g : e_G} (hf : f_X10_keeps S l0 l1 g = some (w, k)) : CT l D (e_R 7) M_X10_keeps [.ref l0, .int l1] (S, g) (some (.int w)) (S, k) := by
  refine CT.of (by decide +kernel) (Nat.le_of_ble_eq_true rfl) ?_
  have ho := o_X10_keeps hf
  unfold f_X10_keeps at hf
  rw [if_pos ho] at hf
  show X l D (e_R 7) M_X10_keeps 0 0 0 [(0, .ref l0), (1, .int l1)] [] (S, g) (some (.int w)) (S, k)
  refine X.aload_n dX10_keeps_0 rfl (j := 0) rfl ?_
  obtain ⟨v1, h2, hf⟩ := ob hf
  refine Y.getR dX10_keeps_1 fl_X10_63 rfl h2 ?_
  refine X.iload_n dX10_keeps_4 rfl (j := 1) rfl ?_
  obtain ⟨q4, h3, hf⟩ := ob hf
  refine Y.callV (av := [.int l1]) (ci := 7) dX10_keeps_5 (c_X7_has (l := l) (D := D) (w := q4.1) (k := q4.2) h3) cw_X10_122 (by decide) rfl mk_X7_has (o_X7_has (w := q4.1) (k := q4.2) h3) (e_R_ok (Nat.le_of_ble_eq_true rfl) (Nat.le_of_ble_eq_true rfl)) ⟨rfl, rfl⟩ (by simp [Value.category]) ?_
  refine X.if_ne dX10_keeps_8 (tgt := 14) rfl (fun hc => ?_) (fun hc => ?_)
  · rw [if_neg hc] at hf
    refine X.aload_n dX10_keeps_14 rfl (j := 0) rfl ?_
    obtain ⟨v5, h6, hf⟩ := ob hf
    refine Y.getR dX10_keeps_15 fl_X10_67 rfl h6 ?_
    refine X.aload_n dX10_keeps_18 rfl (j := 0) rfl ?_
    obtain ⟨v7, h8, hf⟩ := ob hf
    refine Y.getR dX10_keeps_19 fl_X10_63 rfl h8 ?_
    obtain ⟨q10, h9, hf⟩ := ob hf
    refine Y.callV (av := [.ref v7]) (ci := 7) dX10_keeps_22 (c_X7_become (l := l) (D := D) h9) cw_X10_189 (by decide) rfl mk_X7_become (o_X7_become (k := q10) h9) (e_R_ok (Nat.le_of_ble_eq_true rfl) (Nat.le_of_ble_eq_true rfl)) ⟨rfl, rfl⟩ (by simp [Value.category]) ?_
    refine X.aload_n dX10_keeps_25 rfl (j := 0) rfl ?_
    refine X.iload_n dX10_keeps_26 rfl (j := 1) rfl ?_
    obtain ⟨q12, h11, hf⟩ := ob hf
    refine Y.callV (av := [.int l1]) (ci := 10) dX10_keeps_27 (c_X10_daysTillKept (l := l) (D := D) (w := q12.1) (k := q12.2) h11) cw_X10_199 (by decide) rfl mk_X10_daysTillKept (o_X10_daysTillKept (w := q12.1) (k := q12.2) h11) (e_R_ok (Nat.le_of_ble_eq_true rfl) (Nat.le_of_ble_eq_true rfl)) ⟨rfl, rfl⟩ (by simp [Value.category]) ?_
    refine X.istore_n dX10_keeps_30 rfl (Nat.le_of_ble_eq_true rfl) (lc' := [(2, .int q12.1), (0, .ref l0), (1, .int l1)]) rfl ?_
    refine X.iload_n dX10_keeps_31 rfl (j := 0) rfl ?_
    refine X.bipush dX10_keeps_32 kB_60 ?_
    refine X.icmp_le dX10_keeps_34 (tgt := 41) rfl (fun hc => ?_) (fun hc => ?_)
    · rw [if_pos hc] at hf
      refine X.iload_n dX10_keeps_41 rfl (j := 0) rfl ?_
      obtain ⟨e1, e2⟩ := e_ret hf
      subst e1
      subst e2
      exact X.iret dX10_keeps_42 rfl rfl
    · rw [if_neg hc] at hf
      refine X.iconst dX10_keeps_37 kI_m1 ?_
      refine X.goto dX10_keeps_38 (tgt := 42) rfl ?_
      obtain ⟨e1, e2⟩ := e_ret hf
      subst e1
      subst e2
      exact X.iret dX10_keeps_42 rfl rfl
  · rw [if_pos hc] at hf
    refine X.bipush dX10_keeps_11 kB_m5 ?_
    obtain ⟨e1, e2⟩ := e_ret hf
    subst e1
    subst e2
    exact X.iret dX10_keeps_13 rfl rfl
/-! LeanedOut.turn(I)I -/
abbrev M_X10_turn : e_M := (yX10_turn, cX10_turn, 7, (some .int))
theorem mk_X10_turn : e_Mok M_X10_turn 1 := ⟨by decide +kernel, by decide +kernel, by decide +kernel⟩
theorem dX10_turn_0 : decode cX10_turn 0 = .ok (.iload_n 1, 1) := by decide +kernel
theorem dX10_turn_1 : decode cX10_turn 1 = .ok (.ifCond .lt 8, 3) := by decide +kernel
theorem dX10_turn_4 : decode cX10_turn 4 = .ok (.iload_n 1, 1) := by decide +kernel
theorem dX10_turn_5 : decode cX10_turn 5 = .ok (.iconst 1, 1) := by decide +kernel
theorem dX10_turn_6 : decode cX10_turn 6 = .ok (.if_icmp .le 6, 3) := by decide +kernel
theorem dX10_turn_9 : decode cX10_turn 9 = .ok (.bipush (-2), 2) := by decide +kernel
theorem dX10_turn_11 : decode cX10_turn 11 = .ok (.ireturn, 1) := by decide +kernel
theorem dX10_turn_12 : decode cX10_turn 12 = .ok (.aload_n 0, 1) := by decide +kernel
theorem dX10_turn_13 : decode cX10_turn 13 = .ok (.getfield 63, 3) := by decide +kernel
theorem dX10_turn_16 : decode cX10_turn 16 = .ok (.invokevirtual 170, 3) := by decide +kernel
theorem dX10_turn_19 : decode cX10_turn 19 = .ok (.istore_n 2, 1) := by decide +kernel
theorem dX10_turn_20 : decode cX10_turn 20 = .ok (.iconst (-1), 1) := by decide +kernel
theorem dX10_turn_21 : decode cX10_turn 21 = .ok (.istore_n 3, 1) := by decide +kernel
theorem dX10_turn_22 : decode cX10_turn 22 = .ok (.iconst 0, 1) := by decide +kernel
theorem dX10_turn_23 : decode cX10_turn 23 = .ok (.istore 4, 2) := by decide +kernel
theorem dX10_turn_25 : decode cX10_turn 25 = .ok (.iload 4, 2) := by decide +kernel
theorem dX10_turn_27 : decode cX10_turn 27 = .ok (.aload_n 0, 1) := by decide +kernel
theorem dX10_turn_28 : decode cX10_turn 28 = .ok (.getfield 63, 3) := by decide +kernel
theorem dX10_turn_31 : decode cX10_turn 31 = .ok (.getfield 93, 3) := by decide +kernel
theorem dX10_turn_34 : decode cX10_turn 34 = .ok (.if_icmp .ge 92, 3) := by decide +kernel
theorem dX10_turn_37 : decode cX10_turn 37 = .ok (.aload_n 0, 1) := by decide +kernel
theorem dX10_turn_38 : decode cX10_turn 38 = .ok (.getfield 67, 3) := by decide +kernel
theorem dX10_turn_41 : decode cX10_turn 41 = .ok (.aload_n 0, 1) := by decide +kernel
theorem dX10_turn_42 : decode cX10_turn 42 = .ok (.getfield 63, 3) := by decide +kernel
theorem dX10_turn_45 : decode cX10_turn 45 = .ok (.invokevirtual 189, 3) := by decide +kernel
theorem dX10_turn_48 : decode cX10_turn 48 = .ok (.iconst 0, 1) := by decide +kernel
theorem dX10_turn_49 : decode cX10_turn 49 = .ok (.istore 5, 2) := by decide +kernel
theorem dX10_turn_51 : decode cX10_turn 51 = .ok (.iload 5, 2) := by decide +kernel
theorem dX10_turn_53 : decode cX10_turn 53 = .ok (.bipush 20, 2) := by decide +kernel
theorem dX10_turn_55 : decode cX10_turn 55 = .ok (.if_icmp .ge 65, 3) := by decide +kernel
theorem dX10_turn_58 : decode cX10_turn 58 = .ok (.aload_n 0, 1) := by decide +kernel
theorem dX10_turn_59 : decode cX10_turn 59 = .ok (.getfield 63, 3) := by decide +kernel
theorem dX10_turn_62 : decode cX10_turn 62 = .ok (.iload 4, 2) := by decide +kernel
theorem dX10_turn_64 : decode cX10_turn 64 = .ok (.iload 5, 2) := by decide +kernel
theorem dX10_turn_66 : decode cX10_turn 66 = .ok (.invokevirtual 202, 3) := by decide +kernel
theorem dX10_turn_69 : decode cX10_turn 69 = .ok (.ifCond .ne 6, 3) := by decide +kernel
theorem dX10_turn_72 : decode cX10_turn 72 = .ok (.goto 42, 3) := by decide +kernel
theorem dX10_turn_75 : decode cX10_turn 75 = .ok (.aload_n 0, 1) := by decide +kernel
theorem dX10_turn_76 : decode cX10_turn 76 = .ok (.getfield 67, 3) := by decide +kernel
theorem dX10_turn_79 : decode cX10_turn 79 = .ok (.getfield 145, 3) := by decide +kernel
theorem dX10_turn_82 : decode cX10_turn 82 = .ok (.iload 4, 2) := by decide +kernel
theorem dX10_turn_84 : decode cX10_turn 84 = .ok (.iload 5, 2) := by decide +kernel
theorem dX10_turn_86 : decode cX10_turn 86 = .ok (.iastore, 1) := by decide +kernel
theorem dX10_turn_87 : decode cX10_turn 87 = .ok (.aload_n 0, 1) := by decide +kernel
theorem dX10_turn_88 : decode cX10_turn 88 = .ok (.getfield 67, 3) := by decide +kernel
theorem dX10_turn_91 : decode cX10_turn 91 = .ok (.invokevirtual 170, 3) := by decide +kernel
theorem dX10_turn_94 : decode cX10_turn 94 = .ok (.istore 6, 2) := by decide +kernel
theorem dX10_turn_96 : decode cX10_turn 96 = .ok (.iload 6, 2) := by decide +kernel
theorem dX10_turn_98 : decode cX10_turn 98 = .ok (.iload_n 2, 1) := by decide +kernel
theorem dX10_turn_99 : decode cX10_turn 99 = .ok (.if_icmp .le 15, 3) := by decide +kernel
theorem dX10_turn_102 : decode cX10_turn 102 = .ok (.iload 6, 2) := by decide +kernel
theorem dX10_turn_104 : decode cX10_turn 104 = .ok (.istore_n 2, 1) := by decide +kernel
theorem dX10_turn_105 : decode cX10_turn 105 = .ok (.bipush 100, 2) := by decide +kernel
theorem dX10_turn_107 : decode cX10_turn 107 = .ok (.iload 4, 2) := by decide +kernel
theorem dX10_turn_109 : decode cX10_turn 109 = .ok (.imul, 1) := by decide +kernel
theorem dX10_turn_110 : decode cX10_turn 110 = .ok (.iload 5, 2) := by decide +kernel
theorem dX10_turn_112 : decode cX10_turn 112 = .ok (.iadd, 1) := by decide +kernel
theorem dX10_turn_113 : decode cX10_turn 113 = .ok (.istore_n 3, 1) := by decide +kernel
theorem dX10_turn_114 : decode cX10_turn 114 = .ok (.iinc 5 1, 3) := by decide +kernel
theorem dX10_turn_117 : decode cX10_turn 117 = .ok (.goto (-66), 3) := by decide +kernel
theorem dX10_turn_120 : decode cX10_turn 120 = .ok (.iinc 4 1, 3) := by decide +kernel
theorem dX10_turn_123 : decode cX10_turn 123 = .ok (.goto (-98), 3) := by decide +kernel
theorem dX10_turn_126 : decode cX10_turn 126 = .ok (.iload_n 1, 1) := by decide +kernel
theorem dX10_turn_127 : decode cX10_turn 127 = .ok (.ifCond .ne 7, 3) := by decide +kernel
theorem dX10_turn_130 : decode cX10_turn 130 = .ok (.iload_n 3, 1) := by decide +kernel
theorem dX10_turn_131 : decode cX10_turn 131 = .ok (.goto 4, 3) := by decide +kernel
theorem dX10_turn_134 : decode cX10_turn 134 = .ok (.iload_n 2, 1) := by decide +kernel
theorem dX10_turn_135 : decode cX10_turn 135 = .ok (.ireturn, 1) := by decide +kernel
def J_X10_turn_114 (c51 : Nat → Int32 → Int32 → Int32 → Int32 → Int32 → e_G → Option (Int32 × e_G)) (S : e_S) (l0 : Nat) (l1 : Int32) (l2 : Int32) (l3 : Int32) (l4 : Int32) (l5 : Int32) (g : e_G) : Option (Int32 × e_G) :=
  c51 l0 l1 l2 l3 l4 (l5 + (1 : Int32)) g
def L_X10_turn_51 (c25 : Nat → Int32 → Int32 → Int32 → Int32 → e_G → Option (Int32 × e_G)) : Nat → e_S → Nat → Int32 → Int32 → Int32 → Int32 → Int32 → e_G → Option (Int32 × e_G)
  | 0, _, _, _, _, _, _, _, _ => none
  | n + 1, S, l0, l1, l2, l3, l4, l5, g =>
  if (20 : Int32) ≤ l5 then
    c25 l0 l1 l2 l3 (l4 + (1 : Int32)) g
  else
    (e_gR S g 10 l0 2).bind fun v1 =>
    (f_X7_mayLookAt S v1 l4 l5 g).bind fun q4 =>
    if q4.1 = 0 then
      J_X10_turn_114 (L_X10_turn_51 c25 n S) S l0 l1 l2 l3 l4 l5 q4.2
    else
      (e_gR S q4.2 10 l0 3).bind fun v5 =>
      (e_gR S q4.2 7 v5 1).bind fun v7 =>
      (e_aS S q4.2 0 v7 l4 l5).bind fun g9 =>
      (e_gR S g9 10 l0 3).bind fun v11 =>
      (f_X7_meetings S v11 g9).bind fun q14 =>
      if q14.1 ≤ l2 then
        J_X10_turn_114 (L_X10_turn_51 c25 n S) S l0 l1 l2 l3 l4 l5 q14.2
      else
        J_X10_turn_114 (L_X10_turn_51 c25 n S) S l0 l1 q14.1 (((100 : Int32) * l4) + l5) l4 l5 q14.2
def L_X10_turn_25 : Nat → e_S → Nat → Int32 → Int32 → Int32 → Int32 → e_G → Option (Int32 × e_G)
  | 0, _, _, _, _, _, _, _ => none
  | n + 1, S, l0, l1, l2, l3, l4, g =>
  (e_gR S g 10 l0 2).bind fun v1 =>
  (e_gI S g 7 v1 6).bind fun v3 =>
  if v3 ≤ l4 then
    if l1 = 0 then
      some (l3, g)
    else
      some (l2, g)
  else
    (e_gR S g 10 l0 3).bind fun v5 =>
    (e_gR S g 10 l0 2).bind fun v7 =>
    (f_X7_become S v5 v7 g).bind fun q10 =>
    L_X10_turn_51 (L_X10_turn_25 n S) 50000 S l0 l1 l2 l3 l4 (0 : Int32) q10
def f_X10_turn (S : e_S) (l0 : Nat) (l1 : Int32) (g : e_G) : Option (Int32 × e_G) :=
  if e_ob S 10 l0 = true then
    if l1 < 0 then
      some ((-2 : Int32), g)
    else
      if l1 ≤ (1 : Int32) then
        (e_gR S g 10 l0 2).bind fun v1 =>
        (f_X7_meetings S v1 g).bind fun q4 =>
        L_X10_turn_25 50000 S l0 l1 q4.1 (-1 : Int32) (0 : Int32) q4.2
      else
        some ((-2 : Int32), g)
  else none
theorem x_J_X10_turn_114 {l : Launch} {D : va_G} {S : e_S} {w : Int32} {k : e_G} (c51 : Nat → Int32 → Int32 → Int32 → Int32 → Int32 → e_G → Option (Int32 × e_G)) (hc51 : ∀ (l0 : Nat) (l1 : Int32) (l2 : Int32) (l3 : Int32) (l4 : Int32) (l5 : Int32) (g : e_G), c51 l0 l1 l2 l3 l4 l5 g = some (w, k) → X l D (e_R 4) M_X10_turn 0 0 51 [(0, .ref l0), (1, .int l1), (2, .int l2), (3, .int l3), (4, .int l4), (5, .int l5)] [] (S, g) (some (.int w)) (S, k)) {l0 : Nat} {l1 : Int32} {l2 : Int32} {l3 : Int32} {l4 : Int32} {l5 : Int32} {g : e_G} (hf : J_X10_turn_114 c51 S l0 l1 l2 l3 l4 l5 g = some (w, k)) : X l D (e_R 4) M_X10_turn 0 0 114 [(0, .ref l0), (1, .int l1), (2, .int l2), (3, .int l3), (4, .int l4), (5, .int l5)] [] (S, g) (some (.int w)) (S, k) := by
  unfold J_X10_turn_114 at hf
  refine X.iinc (j := 5) dX10_turn_114 rfl (v := l5 + (1 : Int32)) (by rw [kI_1]) (Nat.le_of_ble_eq_true rfl) (lc' := [(5, .int (l5 + (1 : Int32))), (0, .ref l0), (1, .int l1), (2, .int l2), (3, .int l3), (4, .int l4)]) rfl ?_
  refine X.goto dX10_turn_117 (tgt := 51) rfl ?_
  refine X.sub [1, 2, 3, 4, 5, 0] rfl ?_
  exact hc51 _ _ _ _ _ _ _ hf
theorem x_L_X10_turn_51 {l : Launch} {D : va_G} {S : e_S} {w : Int32} {k : e_G} (c25 : Nat → Int32 → Int32 → Int32 → Int32 → e_G → Option (Int32 × e_G)) (hc25 : ∀ (l0 : Nat) (l1 : Int32) (l2 : Int32) (l3 : Int32) (l4 : Int32) (g : e_G), c25 l0 l1 l2 l3 l4 g = some (w, k) → X l D (e_R 4) M_X10_turn 0 0 25 [(0, .ref l0), (1, .int l1), (2, .int l2), (3, .int l3), (4, .int l4)] [] (S, g) (some (.int w)) (S, k)) : ∀ (n : Nat) (l0 : Nat) (l1 : Int32) (l2 : Int32) (l3 : Int32) (l4 : Int32) (l5 : Int32) (g : e_G), L_X10_turn_51 c25 n S l0 l1 l2 l3 l4 l5 g = some (w, k) → X l D (e_R 4) M_X10_turn 0 0 51 [(0, .ref l0), (1, .int l1), (2, .int l2), (3, .int l3), (4, .int l4), (5, .int l5)] [] (S, g) (some (.int w)) (S, k) := by
  intro n
  induction n with
  | zero =>
    intro l0 l1 l2 l3 l4 l5 g hf
    cases hf
  | succ n ih =>
    intro l0 l1 l2 l3 l4 l5 g hf
    rw [L_X10_turn_51] at hf
    refine X.iload dX10_turn_51 (j := 5) rfl ?_
    refine X.bipush dX10_turn_53 kB_20 ?_
    refine X.icmp_ge dX10_turn_55 (tgt := 120) rfl (fun hc => ?_) (fun hc => ?_)
    · rw [if_pos hc] at hf
      refine X.iinc (j := 4) dX10_turn_120 rfl (v := l4 + (1 : Int32)) (by rw [kI_1]) (Nat.le_of_ble_eq_true rfl) (lc' := [(4, .int (l4 + (1 : Int32))), (0, .ref l0), (1, .int l1), (2, .int l2), (3, .int l3), (5, .int l5)]) rfl ?_
      refine X.goto dX10_turn_123 (tgt := 25) rfl ?_
      refine X.sub [1, 2, 3, 4, 0] rfl ?_
      exact hc25 _ _ _ _ _ _ hf
    · rw [if_neg hc] at hf
      refine X.aload_n dX10_turn_58 rfl (j := 0) rfl ?_
      obtain ⟨v1, h2, hf⟩ := ob hf
      refine Y.getR dX10_turn_59 fl_X10_63 rfl h2 ?_
      refine X.iload dX10_turn_62 (j := 4) rfl ?_
      refine X.iload dX10_turn_64 (j := 5) rfl ?_
      obtain ⟨q4, h3, hf⟩ := ob hf
      refine Y.callV (av := [.int l4, .int l5]) (ci := 7) dX10_turn_66 (c_X7_mayLookAt (l := l) (D := D) (w := q4.1) (k := q4.2) h3) cw_X10_202 (by decide) rfl mk_X7_mayLookAt (o_X7_mayLookAt (w := q4.1) (k := q4.2) h3) (e_R_ok (Nat.le_of_ble_eq_true rfl) (Nat.le_of_ble_eq_true rfl)) ⟨rfl, rfl⟩ (by simp [Value.category]) ?_
      refine X.if_ne dX10_turn_69 (tgt := 75) rfl (fun hc => ?_) (fun hc => ?_)
      · rw [if_neg hc] at hf
        refine X.aload_n dX10_turn_75 rfl (j := 0) rfl ?_
        obtain ⟨v5, h6, hf⟩ := ob hf
        refine Y.getR dX10_turn_76 fl_X10_67 rfl h6 ?_
        obtain ⟨v7, h8, hf⟩ := ob hf
        refine Y.getR dX10_turn_79 fl_X10_145 rfl h8 ?_
        refine X.iload dX10_turn_82 (j := 4) rfl ?_
        refine X.iload dX10_turn_84 (j := 5) rfl ?_
        obtain ⟨g9, h10, hf⟩ := ob hf
        refine Y.iast dX10_turn_86 h10 ?_
        refine X.aload_n dX10_turn_87 rfl (j := 0) rfl ?_
        obtain ⟨v11, h12, hf⟩ := ob hf
        refine Y.getR dX10_turn_88 fl_X10_67 rfl h12 ?_
        obtain ⟨q14, h13, hf⟩ := ob hf
        refine Y.callV (av := []) (ci := 7) dX10_turn_91 (c_X7_meetings (l := l) (D := D) (w := q14.1) (k := q14.2) h13) cw_X10_170 (by decide) rfl mk_X7_meetings (o_X7_meetings (w := q14.1) (k := q14.2) h13) (e_R_ok (Nat.le_of_ble_eq_true rfl) (Nat.le_of_ble_eq_true rfl)) ⟨rfl, rfl⟩ (by simp [Value.category]) ?_
        refine X.istore dX10_turn_94 (Nat.le_of_ble_eq_true rfl) (lc' := [(6, .int q14.1), (0, .ref l0), (1, .int l1), (2, .int l2), (3, .int l3), (4, .int l4), (5, .int l5)]) rfl ?_
        refine X.iload dX10_turn_96 (j := 0) rfl ?_
        refine X.iload_n dX10_turn_98 rfl (j := 3) rfl ?_
        refine X.icmp_le dX10_turn_99 (tgt := 114) rfl (fun hc => ?_) (fun hc => ?_)
        · rw [if_pos hc] at hf
          refine X.sub [1, 2, 3, 4, 5, 6] rfl ?_
          exact x_J_X10_turn_114 _ ih hf
        · rw [if_neg hc] at hf
          refine X.iload dX10_turn_102 (j := 0) rfl ?_
          refine X.istore_n dX10_turn_104 rfl (Nat.le_of_ble_eq_true rfl) (lc' := [(2, .int q14.1), (6, .int q14.1), (0, .ref l0), (1, .int l1), (3, .int l3), (4, .int l4), (5, .int l5)]) rfl ?_
          refine X.bipush dX10_turn_105 kB_100 ?_
          refine X.iload dX10_turn_107 (j := 5) rfl ?_
          refine X.imul dX10_turn_109 ?_
          refine X.iload dX10_turn_110 (j := 6) rfl ?_
          refine X.iadd dX10_turn_112 ?_
          refine X.istore_n dX10_turn_113 rfl (Nat.le_of_ble_eq_true rfl) (lc' := [(3, .int (((100 : Int32) * l4) + l5)), (2, .int q14.1), (6, .int q14.1), (0, .ref l0), (1, .int l1), (4, .int l4), (5, .int l5)]) rfl ?_
          refine X.sub [3, 4, 1, 0, 5, 6] rfl ?_
          exact x_J_X10_turn_114 _ ih hf
      · rw [if_pos hc] at hf
        refine X.goto dX10_turn_72 (tgt := 114) rfl ?_
        exact x_J_X10_turn_114 _ ih hf
theorem x_L_X10_turn_25 {l : Launch} {D : va_G} {S : e_S} {w : Int32} {k : e_G} : ∀ (n : Nat) (l0 : Nat) (l1 : Int32) (l2 : Int32) (l3 : Int32) (l4 : Int32) (g : e_G), L_X10_turn_25 n S l0 l1 l2 l3 l4 g = some (w, k) → X l D (e_R 4) M_X10_turn 0 0 25 [(0, .ref l0), (1, .int l1), (2, .int l2), (3, .int l3), (4, .int l4)] [] (S, g) (some (.int w)) (S, k) := by
  intro n
  induction n with
  | zero =>
    intro l0 l1 l2 l3 l4 g hf
    cases hf
  | succ n ih =>
    intro l0 l1 l2 l3 l4 g hf
    rw [L_X10_turn_25] at hf
    refine X.iload dX10_turn_25 (j := 4) rfl ?_
    refine X.aload_n dX10_turn_27 rfl (j := 0) rfl ?_
    obtain ⟨v1, h2, hf⟩ := ob hf
    refine Y.getR dX10_turn_28 fl_X10_63 rfl h2 ?_
    obtain ⟨v3, h4, hf⟩ := ob hf
    refine Y.getI dX10_turn_31 fl_X10_93 rfl h4 ?_
    refine X.icmp_ge dX10_turn_34 (tgt := 126) rfl (fun hc => ?_) (fun hc => ?_)
    · rw [if_pos hc] at hf
      refine X.iload_n dX10_turn_126 rfl (j := 1) rfl ?_
      refine X.if_ne dX10_turn_127 (tgt := 134) rfl (fun hc => ?_) (fun hc => ?_)
      · rw [if_neg hc] at hf
        refine X.iload_n dX10_turn_134 rfl (j := 2) rfl ?_
        obtain ⟨e1, e2⟩ := e_ret hf
        subst e1
        subst e2
        exact X.iret dX10_turn_135 rfl rfl
      · rw [if_pos hc] at hf
        refine X.iload_n dX10_turn_130 rfl (j := 3) rfl ?_
        refine X.goto dX10_turn_131 (tgt := 135) rfl ?_
        obtain ⟨e1, e2⟩ := e_ret hf
        subst e1
        subst e2
        exact X.iret dX10_turn_135 rfl rfl
    · rw [if_neg hc] at hf
      refine X.aload_n dX10_turn_37 rfl (j := 0) rfl ?_
      obtain ⟨v5, h6, hf⟩ := ob hf
      refine Y.getR dX10_turn_38 fl_X10_67 rfl h6 ?_
      refine X.aload_n dX10_turn_41 rfl (j := 0) rfl ?_
      obtain ⟨v7, h8, hf⟩ := ob hf
      refine Y.getR dX10_turn_42 fl_X10_63 rfl h8 ?_
      obtain ⟨q10, h9, hf⟩ := ob hf
      refine Y.callV (av := [.ref v7]) (ci := 7) dX10_turn_45 (c_X7_become (l := l) (D := D) h9) cw_X10_189 (by decide) rfl mk_X7_become (o_X7_become (k := q10) h9) (e_R_ok (Nat.le_of_ble_eq_true rfl) (Nat.le_of_ble_eq_true rfl)) ⟨rfl, rfl⟩ (by simp [Value.category]) ?_
      refine X.iconst dX10_turn_48 kI_0 ?_
      refine X.istore dX10_turn_49 (Nat.le_of_ble_eq_true rfl) (lc' := [(5, .int (0 : Int32)), (0, .ref l0), (1, .int l1), (2, .int l2), (3, .int l3), (4, .int l4)]) rfl ?_
      refine X.sub [1, 2, 3, 4, 5, 0] rfl ?_
      exact x_L_X10_turn_51 _ ih 50000 _ _ _ _ _ _ _ hf
theorem o_X10_turn  {S : e_S} {w : Int32} {k : e_G} {l0 : Nat} {l1 : Int32} {g : e_G} (hf : f_X10_turn S l0 l1 g = some (w, k)) : e_ob S 10 l0 = true := by
  unfold f_X10_turn at hf
  by_cases hc : e_ob S 10 l0 = true
  · exact hc
  · rw [if_neg hc] at hf
    cases hf
theorem c_X10_turn {l : Launch} {D : va_G}  {S : e_S} {w : Int32} {k : e_G} {l0 : Nat} {l1 : Int32} {g : e_G} (hf : f_X10_turn S l0 l1 g = some (w, k)) : CT l D (e_R 4) M_X10_turn [.ref l0, .int l1] (S, g) (some (.int w)) (S, k) := by
  refine CT.of (by decide +kernel) (Nat.le_of_ble_eq_true rfl) ?_
  have ho := o_X10_turn hf
  unfold f_X10_turn at hf
  rw [if_pos ho] at hf
  show X l D (e_R 4) M_X10_turn 0 0 0 [(0, .ref l0), (1, .int l1)] [] (S, g) (some (.int w)) (S, k)
  refine X.iload_n dX10_turn_0 rfl (j := 1) rfl ?_
  refine X.if_lt dX10_turn_1 (tgt := 9) rfl (fun hc => ?_) (fun hc => ?_)
  · rw [if_pos hc] at hf
    refine X.bipush dX10_turn_9 kB_m2 ?_
    obtain ⟨e1, e2⟩ := e_ret hf
    subst e1
    subst e2
    exact X.iret dX10_turn_11 rfl rfl
  · rw [if_neg hc] at hf
    refine X.iload_n dX10_turn_4 rfl (j := 1) rfl ?_
    refine X.iconst dX10_turn_5 kI_1 ?_
    refine X.icmp_le dX10_turn_6 (tgt := 12) rfl (fun hc => ?_) (fun hc => ?_)
    · rw [if_pos hc] at hf
      refine X.aload_n dX10_turn_12 rfl (j := 0) rfl ?_
      obtain ⟨v1, h2, hf⟩ := ob hf
      refine Y.getR dX10_turn_13 fl_X10_63 rfl h2 ?_
      obtain ⟨q4, h3, hf⟩ := ob hf
      refine Y.callV (av := []) (ci := 7) dX10_turn_16 (c_X7_meetings (l := l) (D := D) (w := q4.1) (k := q4.2) h3) cw_X10_170 (by decide) rfl mk_X7_meetings (o_X7_meetings (w := q4.1) (k := q4.2) h3) (e_R_ok (Nat.le_of_ble_eq_true rfl) (Nat.le_of_ble_eq_true rfl)) ⟨rfl, rfl⟩ (by simp [Value.category]) ?_
      refine X.istore_n dX10_turn_19 rfl (Nat.le_of_ble_eq_true rfl) (lc' := [(2, .int q4.1), (0, .ref l0), (1, .int l1)]) rfl ?_
      refine X.iconst dX10_turn_20 kI_m1 ?_
      refine X.istore_n dX10_turn_21 rfl (Nat.le_of_ble_eq_true rfl) (lc' := [(3, .int (-1 : Int32)), (2, .int q4.1), (0, .ref l0), (1, .int l1)]) rfl ?_
      refine X.iconst dX10_turn_22 kI_0 ?_
      refine X.istore dX10_turn_23 (Nat.le_of_ble_eq_true rfl) (lc' := [(4, .int (0 : Int32)), (3, .int (-1 : Int32)), (2, .int q4.1), (0, .ref l0), (1, .int l1)]) rfl ?_
      refine X.sub [3, 4, 2, 1, 0] rfl ?_
      exact x_L_X10_turn_25 50000 _ _ _ _ _ _ hf
    · rw [if_neg hc] at hf
      refine X.bipush dX10_turn_9 kB_m2 ?_
      obtain ⟨e1, e2⟩ := e_ret hf
      subst e1
      subst e2
      exact X.iret dX10_turn_11 rfl rfl
/-! LeanedOut.safe(II)I -/
abbrev M_X10_safe : e_M := (yX10_safe, cX10_safe, 7, (some .int))
theorem mk_X10_safe : e_Mok M_X10_safe 2 := ⟨by decide +kernel, by decide +kernel, by decide +kernel⟩
theorem dX10_safe_0 : decode cX10_safe 0 = .ok (.aload_n 0, 1) := by decide +kernel
theorem dX10_safe_1 : decode cX10_safe 1 = .ok (.getfield 63, 3) := by decide +kernel
theorem dX10_safe_4 : decode cX10_safe 4 = .ok (.iload_n 1, 1) := by decide +kernel
theorem dX10_safe_5 : decode cX10_safe 5 = .ok (.invokevirtual 122, 3) := by decide +kernel
theorem dX10_safe_8 : decode cX10_safe 8 = .ok (.ifCond .ne 6, 3) := by decide +kernel
theorem dX10_safe_11 : decode cX10_safe 11 = .ok (.bipush (-5), 2) := by decide +kernel
theorem dX10_safe_13 : decode cX10_safe 13 = .ok (.ireturn, 1) := by decide +kernel
theorem dX10_safe_14 : decode cX10_safe 14 = .ok (.iload_n 2, 1) := by decide +kernel
theorem dX10_safe_15 : decode cX10_safe 15 = .ok (.ifCond .lt 8, 3) := by decide +kernel
theorem dX10_safe_18 : decode cX10_safe 18 = .ok (.iload_n 2, 1) := by decide +kernel
theorem dX10_safe_19 : decode cX10_safe 19 = .ok (.iconst 1, 1) := by decide +kernel
theorem dX10_safe_20 : decode cX10_safe 20 = .ok (.if_icmp .le 6, 3) := by decide +kernel
theorem dX10_safe_23 : decode cX10_safe 23 = .ok (.bipush (-7), 2) := by decide +kernel
theorem dX10_safe_25 : decode cX10_safe 25 = .ok (.ireturn, 1) := by decide +kernel
theorem dX10_safe_26 : decode cX10_safe 26 = .ok (.iconst (-1), 1) := by decide +kernel
theorem dX10_safe_27 : decode cX10_safe 27 = .ok (.istore_n 3, 1) := by decide +kernel
theorem dX10_safe_28 : decode cX10_safe 28 = .ok (.iconst (-1), 1) := by decide +kernel
theorem dX10_safe_29 : decode cX10_safe 29 = .ok (.istore 4, 2) := by decide +kernel
theorem dX10_safe_31 : decode cX10_safe 31 = .ok (.iconst 0, 1) := by decide +kernel
theorem dX10_safe_32 : decode cX10_safe 32 = .ok (.istore 5, 2) := by decide +kernel
theorem dX10_safe_34 : decode cX10_safe 34 = .ok (.iload 5, 2) := by decide +kernel
theorem dX10_safe_36 : decode cX10_safe 36 = .ok (.bipush 20, 2) := by decide +kernel
theorem dX10_safe_38 : decode cX10_safe 38 = .ok (.if_icmp .ge 67, 3) := by decide +kernel
theorem dX10_safe_41 : decode cX10_safe 41 = .ok (.aload_n 0, 1) := by decide +kernel
theorem dX10_safe_42 : decode cX10_safe 42 = .ok (.getfield 63, 3) := by decide +kernel
theorem dX10_safe_45 : decode cX10_safe 45 = .ok (.iload_n 1, 1) := by decide +kernel
theorem dX10_safe_46 : decode cX10_safe 46 = .ok (.iload 5, 2) := by decide +kernel
theorem dX10_safe_48 : decode cX10_safe 48 = .ok (.invokevirtual 132, 3) := by decide +kernel
theorem dX10_safe_51 : decode cX10_safe 51 = .ok (.ifCond .ne 6, 3) := by decide +kernel
theorem dX10_safe_54 : decode cX10_safe 54 = .ok (.goto 45, 3) := by decide +kernel
theorem dX10_safe_57 : decode cX10_safe 57 = .ok (.aload_n 0, 1) := by decide +kernel
theorem dX10_safe_58 : decode cX10_safe 58 = .ok (.getfield 67, 3) := by decide +kernel
theorem dX10_safe_61 : decode cX10_safe 61 = .ok (.aload_n 0, 1) := by decide +kernel
theorem dX10_safe_62 : decode cX10_safe 62 = .ok (.getfield 63, 3) := by decide +kernel
theorem dX10_safe_65 : decode cX10_safe 65 = .ok (.invokevirtual 189, 3) := by decide +kernel
theorem dX10_safe_68 : decode cX10_safe 68 = .ok (.aload_n 0, 1) := by decide +kernel
theorem dX10_safe_69 : decode cX10_safe 69 = .ok (.getfield 67, 3) := by decide +kernel
theorem dX10_safe_72 : decode cX10_safe 72 = .ok (.getfield 136, 3) := by decide +kernel
theorem dX10_safe_75 : decode cX10_safe 75 = .ok (.iload_n 1, 1) := by decide +kernel
theorem dX10_safe_76 : decode cX10_safe 76 = .ok (.iload 5, 2) := by decide +kernel
theorem dX10_safe_78 : decode cX10_safe 78 = .ok (.iastore, 1) := by decide +kernel
theorem dX10_safe_79 : decode cX10_safe 79 = .ok (.aload_n 0, 1) := by decide +kernel
theorem dX10_safe_80 : decode cX10_safe 80 = .ok (.iload_n 1, 1) := by decide +kernel
theorem dX10_safe_81 : decode cX10_safe 81 = .ok (.invokevirtual 199, 3) := by decide +kernel
theorem dX10_safe_84 : decode cX10_safe 84 = .ok (.istore 6, 2) := by decide +kernel
theorem dX10_safe_86 : decode cX10_safe 86 = .ok (.iload 6, 2) := by decide +kernel
theorem dX10_safe_88 : decode cX10_safe 88 = .ok (.iload_n 3, 1) := by decide +kernel
theorem dX10_safe_89 : decode cX10_safe 89 = .ok (.if_icmp .le 10, 3) := by decide +kernel
theorem dX10_safe_92 : decode cX10_safe 92 = .ok (.iload 6, 2) := by decide +kernel
theorem dX10_safe_94 : decode cX10_safe 94 = .ok (.istore_n 3, 1) := by decide +kernel
theorem dX10_safe_95 : decode cX10_safe 95 = .ok (.iload 5, 2) := by decide +kernel
theorem dX10_safe_97 : decode cX10_safe 97 = .ok (.istore 4, 2) := by decide +kernel
theorem dX10_safe_99 : decode cX10_safe 99 = .ok (.iinc 5 1, 3) := by decide +kernel
theorem dX10_safe_102 : decode cX10_safe 102 = .ok (.goto (-68), 3) := by decide +kernel
theorem dX10_safe_105 : decode cX10_safe 105 = .ok (.iload_n 2, 1) := by decide +kernel
theorem dX10_safe_106 : decode cX10_safe 106 = .ok (.ifCond .ne 8, 3) := by decide +kernel
theorem dX10_safe_109 : decode cX10_safe 109 = .ok (.iload 4, 2) := by decide +kernel
theorem dX10_safe_111 : decode cX10_safe 111 = .ok (.goto 4, 3) := by decide +kernel
theorem dX10_safe_114 : decode cX10_safe 114 = .ok (.iload_n 3, 1) := by decide +kernel
theorem dX10_safe_115 : decode cX10_safe 115 = .ok (.ireturn, 1) := by decide +kernel
def J_X10_safe_99 (c34 : Nat → Int32 → Int32 → Int32 → Int32 → Int32 → e_G → Option (Int32 × e_G)) (S : e_S) (l0 : Nat) (l1 : Int32) (l2 : Int32) (l3 : Int32) (l4 : Int32) (l5 : Int32) (g : e_G) : Option (Int32 × e_G) :=
  c34 l0 l1 l2 l3 l4 (l5 + (1 : Int32)) g
def L_X10_safe_34 : Nat → e_S → Nat → Int32 → Int32 → Int32 → Int32 → Int32 → e_G → Option (Int32 × e_G)
  | 0, _, _, _, _, _, _, _, _ => none
  | n + 1, S, l0, l1, l2, l3, l4, l5, g =>
  if (20 : Int32) ≤ l5 then
    if l2 = 0 then
      some (l4, g)
    else
      some (l3, g)
  else
    (e_gR S g 10 l0 2).bind fun v1 =>
    (f_X7_mayBeAt S v1 l1 l5 g).bind fun q4 =>
    if q4.1 = 0 then
      J_X10_safe_99 (L_X10_safe_34 n S) S l0 l1 l2 l3 l4 l5 q4.2
    else
      (e_gR S q4.2 10 l0 3).bind fun v5 =>
      (e_gR S q4.2 10 l0 2).bind fun v7 =>
      (f_X7_become S v5 v7 q4.2).bind fun q10 =>
      (e_gR S q10 10 l0 3).bind fun v11 =>
      (e_gR S q10 7 v11 0).bind fun v13 =>
      (e_aS S q10 0 v13 l1 l5).bind fun g15 =>
      (f_X10_daysTillKept S l0 l1 g15).bind fun q18 =>
      if q18.1 ≤ l3 then
        J_X10_safe_99 (L_X10_safe_34 n S) S l0 l1 l2 l3 l4 l5 q18.2
      else
        J_X10_safe_99 (L_X10_safe_34 n S) S l0 l1 l2 q18.1 l5 l5 q18.2
def f_X10_safe (S : e_S) (l0 : Nat) (l1 : Int32) (l2 : Int32) (g : e_G) : Option (Int32 × e_G) :=
  if e_ob S 10 l0 = true then
    (e_gR S g 10 l0 2).bind fun v1 =>
    (f_X7_has S v1 l1 g).bind fun q4 =>
    if q4.1 = 0 then
      some ((-5 : Int32), q4.2)
    else
      if l2 < 0 then
        some ((-7 : Int32), q4.2)
      else
        if l2 ≤ (1 : Int32) then
          L_X10_safe_34 50000 S l0 l1 l2 (-1 : Int32) (-1 : Int32) (0 : Int32) q4.2
        else
          some ((-7 : Int32), q4.2)
  else none
theorem x_J_X10_safe_99 {l : Launch} {D : va_G} {S : e_S} {w : Int32} {k : e_G} (c34 : Nat → Int32 → Int32 → Int32 → Int32 → Int32 → e_G → Option (Int32 × e_G)) (hc34 : ∀ (l0 : Nat) (l1 : Int32) (l2 : Int32) (l3 : Int32) (l4 : Int32) (l5 : Int32) (g : e_G), c34 l0 l1 l2 l3 l4 l5 g = some (w, k) → X l D (e_R 7) M_X10_safe 0 0 34 [(0, .ref l0), (1, .int l1), (2, .int l2), (3, .int l3), (4, .int l4), (5, .int l5)] [] (S, g) (some (.int w)) (S, k)) {l0 : Nat} {l1 : Int32} {l2 : Int32} {l3 : Int32} {l4 : Int32} {l5 : Int32} {g : e_G} (hf : J_X10_safe_99 c34 S l0 l1 l2 l3 l4 l5 g = some (w, k)) : X l D (e_R 7) M_X10_safe 0 0 99 [(0, .ref l0), (1, .int l1), (2, .int l2), (3, .int l3), (4, .int l4), (5, .int l5)] [] (S, g) (some (.int w)) (S, k) := by
  unfold J_X10_safe_99 at hf
  refine X.iinc (j := 5) dX10_safe_99 rfl (v := l5 + (1 : Int32)) (by rw [kI_1]) (Nat.le_of_ble_eq_true rfl) (lc' := [(5, .int (l5 + (1 : Int32))), (0, .ref l0), (1, .int l1), (2, .int l2), (3, .int l3), (4, .int l4)]) rfl ?_
  refine X.goto dX10_safe_102 (tgt := 34) rfl ?_
  refine X.sub [1, 2, 3, 4, 5, 0] rfl ?_
  exact hc34 _ _ _ _ _ _ _ hf
theorem x_L_X10_safe_34 {l : Launch} {D : va_G} {S : e_S} {w : Int32} {k : e_G} : ∀ (n : Nat) (l0 : Nat) (l1 : Int32) (l2 : Int32) (l3 : Int32) (l4 : Int32) (l5 : Int32) (g : e_G), L_X10_safe_34 n S l0 l1 l2 l3 l4 l5 g = some (w, k) → X l D (e_R 7) M_X10_safe 0 0 34 [(0, .ref l0), (1, .int l1), (2, .int l2), (3, .int l3), (4, .int l4), (5, .int l5)] [] (S, g) (some (.int w)) (S, k) := by
  intro n
  induction n with
  | zero =>
    intro l0 l1 l2 l3 l4 l5 g hf
    cases hf
  | succ n ih =>
    intro l0 l1 l2 l3 l4 l5 g hf
    rw [L_X10_safe_34] at hf
    refine X.iload dX10_safe_34 (j := 5) rfl ?_
    refine X.bipush dX10_safe_36 kB_20 ?_
    refine X.icmp_ge dX10_safe_38 (tgt := 105) rfl (fun hc => ?_) (fun hc => ?_)
    · rw [if_pos hc] at hf
      refine X.iload_n dX10_safe_105 rfl (j := 2) rfl ?_
      refine X.if_ne dX10_safe_106 (tgt := 114) rfl (fun hc => ?_) (fun hc => ?_)
      · rw [if_neg hc] at hf
        refine X.iload_n dX10_safe_114 rfl (j := 3) rfl ?_
        obtain ⟨e1, e2⟩ := e_ret hf
        subst e1
        subst e2
        exact X.iret dX10_safe_115 rfl rfl
      · rw [if_pos hc] at hf
        refine X.iload dX10_safe_109 (j := 4) rfl ?_
        refine X.goto dX10_safe_111 (tgt := 115) rfl ?_
        obtain ⟨e1, e2⟩ := e_ret hf
        subst e1
        subst e2
        exact X.iret dX10_safe_115 rfl rfl
    · rw [if_neg hc] at hf
      refine X.aload_n dX10_safe_41 rfl (j := 0) rfl ?_
      obtain ⟨v1, h2, hf⟩ := ob hf
      refine Y.getR dX10_safe_42 fl_X10_63 rfl h2 ?_
      refine X.iload_n dX10_safe_45 rfl (j := 1) rfl ?_
      refine X.iload dX10_safe_46 (j := 5) rfl ?_
      obtain ⟨q4, h3, hf⟩ := ob hf
      refine Y.callV (av := [.int l1, .int l5]) (ci := 7) dX10_safe_48 (c_X7_mayBeAt (l := l) (D := D) (w := q4.1) (k := q4.2) h3) cw_X10_132 (by decide) rfl mk_X7_mayBeAt (o_X7_mayBeAt (w := q4.1) (k := q4.2) h3) (e_R_ok (Nat.le_of_ble_eq_true rfl) (Nat.le_of_ble_eq_true rfl)) ⟨rfl, rfl⟩ (by simp [Value.category]) ?_
      refine X.if_ne dX10_safe_51 (tgt := 57) rfl (fun hc => ?_) (fun hc => ?_)
      · rw [if_neg hc] at hf
        refine X.aload_n dX10_safe_57 rfl (j := 0) rfl ?_
        obtain ⟨v5, h6, hf⟩ := ob hf
        refine Y.getR dX10_safe_58 fl_X10_67 rfl h6 ?_
        refine X.aload_n dX10_safe_61 rfl (j := 0) rfl ?_
        obtain ⟨v7, h8, hf⟩ := ob hf
        refine Y.getR dX10_safe_62 fl_X10_63 rfl h8 ?_
        obtain ⟨q10, h9, hf⟩ := ob hf
        refine Y.callV (av := [.ref v7]) (ci := 7) dX10_safe_65 (c_X7_become (l := l) (D := D) h9) cw_X10_189 (by decide) rfl mk_X7_become (o_X7_become (k := q10) h9) (e_R_ok (Nat.le_of_ble_eq_true rfl) (Nat.le_of_ble_eq_true rfl)) ⟨rfl, rfl⟩ (by simp [Value.category]) ?_
        refine X.aload_n dX10_safe_68 rfl (j := 0) rfl ?_
        obtain ⟨v11, h12, hf⟩ := ob hf
        refine Y.getR dX10_safe_69 fl_X10_67 rfl h12 ?_
        obtain ⟨v13, h14, hf⟩ := ob hf
        refine Y.getR dX10_safe_72 fl_X10_136 rfl h14 ?_
        refine X.iload_n dX10_safe_75 rfl (j := 1) rfl ?_
        refine X.iload dX10_safe_76 (j := 5) rfl ?_
        obtain ⟨g15, h16, hf⟩ := ob hf
        refine Y.iast dX10_safe_78 h16 ?_
        refine X.aload_n dX10_safe_79 rfl (j := 0) rfl ?_
        refine X.iload_n dX10_safe_80 rfl (j := 1) rfl ?_
        obtain ⟨q18, h17, hf⟩ := ob hf
        refine Y.callV (av := [.int l1]) (ci := 10) dX10_safe_81 (c_X10_daysTillKept (l := l) (D := D) (w := q18.1) (k := q18.2) h17) cw_X10_199 (by decide) rfl mk_X10_daysTillKept (o_X10_daysTillKept (w := q18.1) (k := q18.2) h17) (e_R_ok (Nat.le_of_ble_eq_true rfl) (Nat.le_of_ble_eq_true rfl)) ⟨rfl, rfl⟩ (by simp [Value.category]) ?_
        refine X.istore dX10_safe_84 (Nat.le_of_ble_eq_true rfl) (lc' := [(6, .int q18.1), (0, .ref l0), (1, .int l1), (2, .int l2), (3, .int l3), (4, .int l4), (5, .int l5)]) rfl ?_
        refine X.iload dX10_safe_86 (j := 0) rfl ?_
        refine X.iload_n dX10_safe_88 rfl (j := 4) rfl ?_
        refine X.icmp_le dX10_safe_89 (tgt := 99) rfl (fun hc => ?_) (fun hc => ?_)
        · rw [if_pos hc] at hf
          refine X.sub [1, 2, 3, 4, 5, 6] rfl ?_
          exact x_J_X10_safe_99 _ ih hf
        · rw [if_neg hc] at hf
          refine X.iload dX10_safe_92 (j := 0) rfl ?_
          refine X.istore_n dX10_safe_94 rfl (Nat.le_of_ble_eq_true rfl) (lc' := [(3, .int q18.1), (6, .int q18.1), (0, .ref l0), (1, .int l1), (2, .int l2), (4, .int l4), (5, .int l5)]) rfl ?_
          refine X.iload dX10_safe_95 (j := 6) rfl ?_
          refine X.istore dX10_safe_97 (Nat.le_of_ble_eq_true rfl) (lc' := [(4, .int l5), (3, .int q18.1), (6, .int q18.1), (0, .ref l0), (1, .int l1), (2, .int l2), (5, .int l5)]) rfl ?_
          refine X.sub [3, 4, 5, 1, 0, 6] rfl ?_
          exact x_J_X10_safe_99 _ ih hf
      · rw [if_pos hc] at hf
        refine X.goto dX10_safe_54 (tgt := 99) rfl ?_
        exact x_J_X10_safe_99 _ ih hf
theorem o_X10_safe  {S : e_S} {w : Int32} {k : e_G} {l0 : Nat} {l1 : Int32} {l2 : Int32} {g : e_G} (hf : f_X10_safe S l0 l1 l2 g = some (w, k)) : e_ob S 10 l0 = true := by
  unfold f_X10_safe at hf
  by_cases hc : e_ob S 10 l0 = true
  · exact hc
  · rw [if_neg hc] at hf
    cases hf
theorem c_X10_safe {l : Launch} {D : va_G}  {S : e_S} {w : Int32} {k : e_G} {l0 : Nat} {l1 : Int32} {l2 : Int32} {g : e_G} (hf : f_X10_safe S l0 l1 l2 g = some (w, k)) : CT l D (e_R 7) M_X10_safe [.ref l0, .int l1, .int l2] (S, g) (some (.int w)) (S, k) := by
  refine CT.of (by decide +kernel) (Nat.le_of_ble_eq_true rfl) ?_
  have ho := o_X10_safe hf
  unfold f_X10_safe at hf
  rw [if_pos ho] at hf
  show X l D (e_R 7) M_X10_safe 0 0 0 [(0, .ref l0), (1, .int l1), (2, .int l2)] [] (S, g) (some (.int w)) (S, k)
  refine X.aload_n dX10_safe_0 rfl (j := 0) rfl ?_
  obtain ⟨v1, h2, hf⟩ := ob hf
  refine Y.getR dX10_safe_1 fl_X10_63 rfl h2 ?_
  refine X.iload_n dX10_safe_4 rfl (j := 1) rfl ?_
  obtain ⟨q4, h3, hf⟩ := ob hf
  refine Y.callV (av := [.int l1]) (ci := 7) dX10_safe_5 (c_X7_has (l := l) (D := D) (w := q4.1) (k := q4.2) h3) cw_X10_122 (by decide) rfl mk_X7_has (o_X7_has (w := q4.1) (k := q4.2) h3) (e_R_ok (Nat.le_of_ble_eq_true rfl) (Nat.le_of_ble_eq_true rfl)) ⟨rfl, rfl⟩ (by simp [Value.category]) ?_
  refine X.if_ne dX10_safe_8 (tgt := 14) rfl (fun hc => ?_) (fun hc => ?_)
  · rw [if_neg hc] at hf
    refine X.iload_n dX10_safe_14 rfl (j := 2) rfl ?_
    refine X.if_lt dX10_safe_15 (tgt := 23) rfl (fun hc => ?_) (fun hc => ?_)
    · rw [if_pos hc] at hf
      refine X.bipush dX10_safe_23 kB_m7 ?_
      obtain ⟨e1, e2⟩ := e_ret hf
      subst e1
      subst e2
      exact X.iret dX10_safe_25 rfl rfl
    · rw [if_neg hc] at hf
      refine X.iload_n dX10_safe_18 rfl (j := 2) rfl ?_
      refine X.iconst dX10_safe_19 kI_1 ?_
      refine X.icmp_le dX10_safe_20 (tgt := 26) rfl (fun hc => ?_) (fun hc => ?_)
      · rw [if_pos hc] at hf
        refine X.iconst dX10_safe_26 kI_m1 ?_
        refine X.istore_n dX10_safe_27 rfl (Nat.le_of_ble_eq_true rfl) (lc' := [(3, .int (-1 : Int32)), (0, .ref l0), (1, .int l1), (2, .int l2)]) rfl ?_
        refine X.iconst dX10_safe_28 kI_m1 ?_
        refine X.istore dX10_safe_29 (Nat.le_of_ble_eq_true rfl) (lc' := [(4, .int (-1 : Int32)), (3, .int (-1 : Int32)), (0, .ref l0), (1, .int l1), (2, .int l2)]) rfl ?_
        refine X.iconst dX10_safe_31 kI_0 ?_
        refine X.istore dX10_safe_32 (Nat.le_of_ble_eq_true rfl) (lc' := [(5, .int (0 : Int32)), (4, .int (-1 : Int32)), (3, .int (-1 : Int32)), (0, .ref l0), (1, .int l1), (2, .int l2)]) rfl ?_
        refine X.sub [3, 4, 5, 2, 1, 0] rfl ?_
        exact x_L_X10_safe_34 50000 _ _ _ _ _ _ _ hf
      · rw [if_neg hc] at hf
        refine X.bipush dX10_safe_23 kB_m7 ?_
        obtain ⟨e1, e2⟩ := e_ret hf
        subst e1
        subst e2
        exact X.iret dX10_safe_25 rfl rfl
  · rw [if_pos hc] at hf
    refine X.bipush dX10_safe_11 kB_m5 ?_
    obtain ⟨e1, e2⟩ := e_ret hf
    subst e1
    subst e2
    exact X.iret dX10_safe_13 rfl rfl
/-! LeanedOut.warn(II)I -/
abbrev M_X10_warn : e_M := (yX10_warn, cX10_warn, 7, (some .int))
theorem mk_X10_warn : e_Mok M_X10_warn 2 := ⟨by decide +kernel, by decide +kernel, by decide +kernel⟩
theorem dX10_warn_0 : decode cX10_warn 0 = .ok (.iload_n 1, 1) := by decide +kernel
theorem dX10_warn_1 : decode cX10_warn 1 = .ok (.ifCond .lt 18, 3) := by decide +kernel
theorem dX10_warn_4 : decode cX10_warn 4 = .ok (.iload_n 1, 1) := by decide +kernel
theorem dX10_warn_5 : decode cX10_warn 5 = .ok (.bipush 40, 2) := by decide +kernel
theorem dX10_warn_7 : decode cX10_warn 7 = .ok (.if_icmp .gt 12, 3) := by decide +kernel
theorem dX10_warn_10 : decode cX10_warn 10 = .ok (.iload_n 2, 1) := by decide +kernel
theorem dX10_warn_11 : decode cX10_warn 11 = .ok (.ifCond .lt 8, 3) := by decide +kernel
theorem dX10_warn_14 : decode cX10_warn 14 = .ok (.iload_n 2, 1) := by decide +kernel
theorem dX10_warn_15 : decode cX10_warn 15 = .ok (.iconst 1, 1) := by decide +kernel
theorem dX10_warn_16 : decode cX10_warn 16 = .ok (.if_icmp .le 6, 3) := by decide +kernel
theorem dX10_warn_19 : decode cX10_warn 19 = .ok (.bipush (-2), 2) := by decide +kernel
theorem dX10_warn_21 : decode cX10_warn 21 = .ok (.ireturn, 1) := by decide +kernel
theorem dX10_warn_22 : decode cX10_warn 22 = .ok (.aload_n 0, 1) := by decide +kernel
theorem dX10_warn_23 : decode cX10_warn 23 = .ok (.getfield 67, 3) := by decide +kernel
theorem dX10_warn_26 : decode cX10_warn 26 = .ok (.aload_n 0, 1) := by decide +kernel
theorem dX10_warn_27 : decode cX10_warn 27 = .ok (.getfield 63, 3) := by decide +kernel
theorem dX10_warn_30 : decode cX10_warn 30 = .ok (.invokevirtual 189, 3) := by decide +kernel
theorem dX10_warn_33 : decode cX10_warn 33 = .ok (.aload_n 0, 1) := by decide +kernel
theorem dX10_warn_34 : decode cX10_warn 34 = .ok (.iload_n 1, 1) := by decide +kernel
theorem dX10_warn_35 : decode cX10_warn 35 = .ok (.invokevirtual 205, 3) := by decide +kernel
theorem dX10_warn_38 : decode cX10_warn 38 = .ok (.istore_n 3, 1) := by decide +kernel
theorem dX10_warn_39 : decode cX10_warn 39 = .ok (.iconst (-1), 1) := by decide +kernel
theorem dX10_warn_40 : decode cX10_warn 40 = .ok (.istore 4, 2) := by decide +kernel
theorem dX10_warn_42 : decode cX10_warn 42 = .ok (.iconst 0, 1) := by decide +kernel
theorem dX10_warn_43 : decode cX10_warn 43 = .ok (.istore 5, 2) := by decide +kernel
theorem dX10_warn_45 : decode cX10_warn 45 = .ok (.iload 5, 2) := by decide +kernel
theorem dX10_warn_47 : decode cX10_warn 47 = .ok (.aload_n 0, 1) := by decide +kernel
theorem dX10_warn_48 : decode cX10_warn 48 = .ok (.getfield 63, 3) := by decide +kernel
theorem dX10_warn_51 : decode cX10_warn 51 = .ok (.getfield 93, 3) := by decide +kernel
theorem dX10_warn_54 : decode cX10_warn 54 = .ok (.if_icmp .ge 67, 3) := by decide +kernel
theorem dX10_warn_57 : decode cX10_warn 57 = .ok (.aload_n 0, 1) := by decide +kernel
theorem dX10_warn_58 : decode cX10_warn 58 = .ok (.getfield 63, 3) := by decide +kernel
theorem dX10_warn_61 : decode cX10_warn 61 = .ok (.getfield 154, 3) := by decide +kernel
theorem dX10_warn_64 : decode cX10_warn 64 = .ok (.iload 5, 2) := by decide +kernel
theorem dX10_warn_66 : decode cX10_warn 66 = .ok (.baload, 1) := by decide +kernel
theorem dX10_warn_67 : decode cX10_warn 67 = .ok (.ifCond .eq 6, 3) := by decide +kernel
theorem dX10_warn_70 : decode cX10_warn 70 = .ok (.goto 45, 3) := by decide +kernel
theorem dX10_warn_73 : decode cX10_warn 73 = .ok (.aload_n 0, 1) := by decide +kernel
theorem dX10_warn_74 : decode cX10_warn 74 = .ok (.getfield 67, 3) := by decide +kernel
theorem dX10_warn_77 : decode cX10_warn 77 = .ok (.aload_n 0, 1) := by decide +kernel
theorem dX10_warn_78 : decode cX10_warn 78 = .ok (.getfield 63, 3) := by decide +kernel
theorem dX10_warn_81 : decode cX10_warn 81 = .ok (.invokevirtual 189, 3) := by decide +kernel
theorem dX10_warn_84 : decode cX10_warn 84 = .ok (.aload_n 0, 1) := by decide +kernel
theorem dX10_warn_85 : decode cX10_warn 85 = .ok (.getfield 67, 3) := by decide +kernel
theorem dX10_warn_88 : decode cX10_warn 88 = .ok (.getfield 142, 3) := by decide +kernel
theorem dX10_warn_91 : decode cX10_warn 91 = .ok (.iload 5, 2) := by decide +kernel
theorem dX10_warn_93 : decode cX10_warn 93 = .ok (.iconst 0, 1) := by decide +kernel
theorem dX10_warn_94 : decode cX10_warn 94 = .ok (.iastore, 1) := by decide +kernel
theorem dX10_warn_95 : decode cX10_warn 95 = .ok (.aload_n 0, 1) := by decide +kernel
theorem dX10_warn_96 : decode cX10_warn 96 = .ok (.iload_n 1, 1) := by decide +kernel
theorem dX10_warn_97 : decode cX10_warn 97 = .ok (.invokevirtual 205, 3) := by decide +kernel
theorem dX10_warn_100 : decode cX10_warn 100 = .ok (.istore 6, 2) := by decide +kernel
theorem dX10_warn_102 : decode cX10_warn 102 = .ok (.iload 6, 2) := by decide +kernel
theorem dX10_warn_104 : decode cX10_warn 104 = .ok (.iload_n 3, 1) := by decide +kernel
theorem dX10_warn_105 : decode cX10_warn 105 = .ok (.if_icmp .ge 10, 3) := by decide +kernel
theorem dX10_warn_108 : decode cX10_warn 108 = .ok (.iload 6, 2) := by decide +kernel
theorem dX10_warn_110 : decode cX10_warn 110 = .ok (.istore_n 3, 1) := by decide +kernel
theorem dX10_warn_111 : decode cX10_warn 111 = .ok (.iload 5, 2) := by decide +kernel
theorem dX10_warn_113 : decode cX10_warn 113 = .ok (.istore 4, 2) := by decide +kernel
theorem dX10_warn_115 : decode cX10_warn 115 = .ok (.iinc 5 1, 3) := by decide +kernel
theorem dX10_warn_118 : decode cX10_warn 118 = .ok (.goto (-73), 3) := by decide +kernel
theorem dX10_warn_121 : decode cX10_warn 121 = .ok (.iload_n 2, 1) := by decide +kernel
theorem dX10_warn_122 : decode cX10_warn 122 = .ok (.ifCond .ne 8, 3) := by decide +kernel
theorem dX10_warn_125 : decode cX10_warn 125 = .ok (.iload 4, 2) := by decide +kernel
theorem dX10_warn_127 : decode cX10_warn 127 = .ok (.goto 4, 3) := by decide +kernel
theorem dX10_warn_130 : decode cX10_warn 130 = .ok (.iload_n 3, 1) := by decide +kernel
theorem dX10_warn_131 : decode cX10_warn 131 = .ok (.ireturn, 1) := by decide +kernel
def J_X10_warn_115 (c45 : Nat → Int32 → Int32 → Int32 → Int32 → Int32 → e_G → Option (Int32 × e_G)) (S : e_S) (l0 : Nat) (l1 : Int32) (l2 : Int32) (l3 : Int32) (l4 : Int32) (l5 : Int32) (g : e_G) : Option (Int32 × e_G) :=
  c45 l0 l1 l2 l3 l4 (l5 + (1 : Int32)) g
def L_X10_warn_45 : Nat → e_S → Nat → Int32 → Int32 → Int32 → Int32 → Int32 → e_G → Option (Int32 × e_G)
  | 0, _, _, _, _, _, _, _, _ => none
  | n + 1, S, l0, l1, l2, l3, l4, l5, g =>
  (e_gR S g 10 l0 2).bind fun v1 =>
  (e_gI S g 7 v1 6).bind fun v3 =>
  if v3 ≤ l5 then
    if l2 = 0 then
      some (l4, g)
    else
      some (l3, g)
  else
    (e_gR S g 10 l0 2).bind fun v5 =>
    (e_gR S g 7 v5 5).bind fun v7 =>
    (e_aI S g 1 v7 l5).bind fun v9 =>
    if v9 = 0 then
      (e_gR S g 10 l0 3).bind fun v11 =>
      (e_gR S g 10 l0 2).bind fun v13 =>
      (f_X7_become S v11 v13 g).bind fun q16 =>
      (e_gR S q16 10 l0 3).bind fun v17 =>
      (e_gR S q16 7 v17 2).bind fun v19 =>
      (e_aS S q16 0 v19 l5 (0 : Int32)).bind fun g21 =>
      (f_X10_keptBehind S l0 l1 g21).bind fun q24 =>
      if l3 ≤ q24.1 then
        J_X10_warn_115 (L_X10_warn_45 n S) S l0 l1 l2 l3 l4 l5 q24.2
      else
        J_X10_warn_115 (L_X10_warn_45 n S) S l0 l1 l2 q24.1 l5 l5 q24.2
    else
      J_X10_warn_115 (L_X10_warn_45 n S) S l0 l1 l2 l3 l4 l5 g
def f_X10_warn (S : e_S) (l0 : Nat) (l1 : Int32) (l2 : Int32) (g : e_G) : Option (Int32 × e_G) :=
  if e_ob S 10 l0 = true then
    if l1 < 0 then
      some ((-2 : Int32), g)
    else
      if (40 : Int32) < l1 then
        some ((-2 : Int32), g)
      else
        if l2 < 0 then
          some ((-2 : Int32), g)
        else
          if l2 ≤ (1 : Int32) then
            (e_gR S g 10 l0 3).bind fun v1 =>
            (e_gR S g 10 l0 2).bind fun v3 =>
            (f_X7_become S v1 v3 g).bind fun q6 =>
            (f_X10_keptBehind S l0 l1 q6).bind fun q8 =>
            L_X10_warn_45 50000 S l0 l1 l2 q8.1 (-1 : Int32) (0 : Int32) q8.2
          else
            some ((-2 : Int32), g)
  else none
theorem x_J_X10_warn_115 {l : Launch} {D : va_G} {S : e_S} {w : Int32} {k : e_G} (c45 : Nat → Int32 → Int32 → Int32 → Int32 → Int32 → e_G → Option (Int32 × e_G)) (hc45 : ∀ (l0 : Nat) (l1 : Int32) (l2 : Int32) (l3 : Int32) (l4 : Int32) (l5 : Int32) (g : e_G), c45 l0 l1 l2 l3 l4 l5 g = some (w, k) → X l D (e_R 7) M_X10_warn 0 0 45 [(0, .ref l0), (1, .int l1), (2, .int l2), (3, .int l3), (4, .int l4), (5, .int l5)] [] (S, g) (some (.int w)) (S, k)) {l0 : Nat} {l1 : Int32} {l2 : Int32} {l3 : Int32} {l4 : Int32} {l5 : Int32} {g : e_G} (hf : J_X10_warn_115 c45 S l0 l1 l2 l3 l4 l5 g = some (w, k)) : X l D (e_R 7) M_X10_warn 0 0 115 [(0, .ref l0), (1, .int l1), (2, .int l2), (3, .int l3), (4, .int l4), (5, .int l5)] [] (S, g) (some (.int w)) (S, k) := by
  unfold J_X10_warn_115 at hf
  refine X.iinc (j := 5) dX10_warn_115 rfl (v := l5 + (1 : Int32)) (by rw [kI_1]) (Nat.le_of_ble_eq_true rfl) (lc' := [(5, .int (l5 + (1 : Int32))), (0, .ref l0), (1, .int l1), (2, .int l2), (3, .int l3), (4, .int l4)]) rfl ?_
  refine X.goto dX10_warn_118 (tgt := 45) rfl ?_
  refine X.sub [1, 2, 3, 4, 5, 0] rfl ?_
  exact hc45 _ _ _ _ _ _ _ hf
theorem x_L_X10_warn_45 {l : Launch} {D : va_G} {S : e_S} {w : Int32} {k : e_G} : ∀ (n : Nat) (l0 : Nat) (l1 : Int32) (l2 : Int32) (l3 : Int32) (l4 : Int32) (l5 : Int32) (g : e_G), L_X10_warn_45 n S l0 l1 l2 l3 l4 l5 g = some (w, k) → X l D (e_R 7) M_X10_warn 0 0 45 [(0, .ref l0), (1, .int l1), (2, .int l2), (3, .int l3), (4, .int l4), (5, .int l5)] [] (S, g) (some (.int w)) (S, k) := by
  intro n
  induction n with
  | zero =>
    intro l0 l1 l2 l3 l4 l5 g hf
    cases hf
  | succ n ih =>
    intro l0 l1 l2 l3 l4 l5 g hf
    rw [L_X10_warn_45] at hf
    refine X.iload dX10_warn_45 (j := 5) rfl ?_
    refine X.aload_n dX10_warn_47 rfl (j := 0) rfl ?_
    obtain ⟨v1, h2, hf⟩ := ob hf
    refine Y.getR dX10_warn_48 fl_X10_63 rfl h2 ?_
    obtain ⟨v3, h4, hf⟩ := ob hf
    refine Y.getI dX10_warn_51 fl_X10_93 rfl h4 ?_
    refine X.icmp_ge dX10_warn_54 (tgt := 121) rfl (fun hc => ?_) (fun hc => ?_)
    · rw [if_pos hc] at hf
      refine X.iload_n dX10_warn_121 rfl (j := 2) rfl ?_
      refine X.if_ne dX10_warn_122 (tgt := 130) rfl (fun hc => ?_) (fun hc => ?_)
      · rw [if_neg hc] at hf
        refine X.iload_n dX10_warn_130 rfl (j := 3) rfl ?_
        obtain ⟨e1, e2⟩ := e_ret hf
        subst e1
        subst e2
        exact X.iret dX10_warn_131 rfl rfl
      · rw [if_pos hc] at hf
        refine X.iload dX10_warn_125 (j := 4) rfl ?_
        refine X.goto dX10_warn_127 (tgt := 131) rfl ?_
        obtain ⟨e1, e2⟩ := e_ret hf
        subst e1
        subst e2
        exact X.iret dX10_warn_131 rfl rfl
    · rw [if_neg hc] at hf
      refine X.aload_n dX10_warn_57 rfl (j := 0) rfl ?_
      obtain ⟨v5, h6, hf⟩ := ob hf
      refine Y.getR dX10_warn_58 fl_X10_63 rfl h6 ?_
      obtain ⟨v7, h8, hf⟩ := ob hf
      refine Y.getR dX10_warn_61 fl_X10_154 rfl h8 ?_
      refine X.iload dX10_warn_64 (j := 5) rfl ?_
      obtain ⟨v9, h10, hf⟩ := ob hf
      refine Y.zald dX10_warn_66 h10 ?_
      refine X.if_eq dX10_warn_67 (tgt := 73) rfl (fun hc => ?_) (fun hc => ?_)
      · rw [if_pos hc] at hf
        refine X.aload_n dX10_warn_73 rfl (j := 0) rfl ?_
        obtain ⟨v11, h12, hf⟩ := ob hf
        refine Y.getR dX10_warn_74 fl_X10_67 rfl h12 ?_
        refine X.aload_n dX10_warn_77 rfl (j := 0) rfl ?_
        obtain ⟨v13, h14, hf⟩ := ob hf
        refine Y.getR dX10_warn_78 fl_X10_63 rfl h14 ?_
        obtain ⟨q16, h15, hf⟩ := ob hf
        refine Y.callV (av := [.ref v13]) (ci := 7) dX10_warn_81 (c_X7_become (l := l) (D := D) h15) cw_X10_189 (by decide) rfl mk_X7_become (o_X7_become (k := q16) h15) (e_R_ok (Nat.le_of_ble_eq_true rfl) (Nat.le_of_ble_eq_true rfl)) ⟨rfl, rfl⟩ (by simp [Value.category]) ?_
        refine X.aload_n dX10_warn_84 rfl (j := 0) rfl ?_
        obtain ⟨v17, h18, hf⟩ := ob hf
        refine Y.getR dX10_warn_85 fl_X10_67 rfl h18 ?_
        obtain ⟨v19, h20, hf⟩ := ob hf
        refine Y.getR dX10_warn_88 fl_X10_142 rfl h20 ?_
        refine X.iload dX10_warn_91 (j := 5) rfl ?_
        refine X.iconst dX10_warn_93 kI_0 ?_
        obtain ⟨g21, h22, hf⟩ := ob hf
        refine Y.iast dX10_warn_94 h22 ?_
        refine X.aload_n dX10_warn_95 rfl (j := 0) rfl ?_
        refine X.iload_n dX10_warn_96 rfl (j := 1) rfl ?_
        obtain ⟨q24, h23, hf⟩ := ob hf
        refine Y.callV (av := [.int l1]) (ci := 10) dX10_warn_97 (c_X10_keptBehind (l := l) (D := D) (w := q24.1) (k := q24.2) h23) cw_X10_205 (by decide) rfl mk_X10_keptBehind (o_X10_keptBehind (w := q24.1) (k := q24.2) h23) (e_R_ok (Nat.le_of_ble_eq_true rfl) (Nat.le_of_ble_eq_true rfl)) ⟨rfl, rfl⟩ (by simp [Value.category]) ?_
        refine X.istore dX10_warn_100 (Nat.le_of_ble_eq_true rfl) (lc' := [(6, .int q24.1), (0, .ref l0), (1, .int l1), (2, .int l2), (3, .int l3), (4, .int l4), (5, .int l5)]) rfl ?_
        refine X.iload dX10_warn_102 (j := 0) rfl ?_
        refine X.iload_n dX10_warn_104 rfl (j := 4) rfl ?_
        refine X.icmp_ge dX10_warn_105 (tgt := 115) rfl (fun hc => ?_) (fun hc => ?_)
        · rw [if_pos hc] at hf
          refine X.sub [1, 2, 3, 4, 5, 6] rfl ?_
          exact x_J_X10_warn_115 _ ih hf
        · rw [if_neg hc] at hf
          refine X.iload dX10_warn_108 (j := 0) rfl ?_
          refine X.istore_n dX10_warn_110 rfl (Nat.le_of_ble_eq_true rfl) (lc' := [(3, .int q24.1), (6, .int q24.1), (0, .ref l0), (1, .int l1), (2, .int l2), (4, .int l4), (5, .int l5)]) rfl ?_
          refine X.iload dX10_warn_111 (j := 6) rfl ?_
          refine X.istore dX10_warn_113 (Nat.le_of_ble_eq_true rfl) (lc' := [(4, .int l5), (3, .int q24.1), (6, .int q24.1), (0, .ref l0), (1, .int l1), (2, .int l2), (5, .int l5)]) rfl ?_
          refine X.sub [3, 4, 5, 1, 0, 6] rfl ?_
          exact x_J_X10_warn_115 _ ih hf
      · rw [if_neg hc] at hf
        refine X.goto dX10_warn_70 (tgt := 115) rfl ?_
        exact x_J_X10_warn_115 _ ih hf
theorem o_X10_warn  {S : e_S} {w : Int32} {k : e_G} {l0 : Nat} {l1 : Int32} {l2 : Int32} {g : e_G} (hf : f_X10_warn S l0 l1 l2 g = some (w, k)) : e_ob S 10 l0 = true := by
  unfold f_X10_warn at hf
  by_cases hc : e_ob S 10 l0 = true
  · exact hc
  · rw [if_neg hc] at hf
    cases hf
theorem c_X10_warn {l : Launch} {D : va_G}  {S : e_S} {w : Int32} {k : e_G} {l0 : Nat} {l1 : Int32} {l2 : Int32} {g : e_G} (hf : f_X10_warn S l0 l1 l2 g = some (w, k)) : CT l D (e_R 7) M_X10_warn [.ref l0, .int l1, .int l2] (S, g) (some (.int w)) (S, k) := by
  refine CT.of (by decide +kernel) (Nat.le_of_ble_eq_true rfl) ?_
  have ho := o_X10_warn hf
  unfold f_X10_warn at hf
  rw [if_pos ho] at hf
  show X l D (e_R 7) M_X10_warn 0 0 0 [(0, .ref l0), (1, .int l1), (2, .int l2)] [] (S, g) (some (.int w)) (S, k)
  refine X.iload_n dX10_warn_0 rfl (j := 1) rfl ?_
  refine X.if_lt dX10_warn_1 (tgt := 19) rfl (fun hc => ?_) (fun hc => ?_)
  · rw [if_pos hc] at hf
    refine X.bipush dX10_warn_19 kB_m2 ?_
    obtain ⟨e1, e2⟩ := e_ret hf
    subst e1
    subst e2
    exact X.iret dX10_warn_21 rfl rfl
  · rw [if_neg hc] at hf
    refine X.iload_n dX10_warn_4 rfl (j := 1) rfl ?_
    refine X.bipush dX10_warn_5 kB_40 ?_
    refine X.icmp_gt dX10_warn_7 (tgt := 19) rfl (fun hc => ?_) (fun hc => ?_)
    · rw [if_pos hc] at hf
      refine X.bipush dX10_warn_19 kB_m2 ?_
      obtain ⟨e1, e2⟩ := e_ret hf
      subst e1
      subst e2
      exact X.iret dX10_warn_21 rfl rfl
    · rw [if_neg hc] at hf
      refine X.iload_n dX10_warn_10 rfl (j := 2) rfl ?_
      refine X.if_lt dX10_warn_11 (tgt := 19) rfl (fun hc => ?_) (fun hc => ?_)
      · rw [if_pos hc] at hf
        refine X.bipush dX10_warn_19 kB_m2 ?_
        obtain ⟨e1, e2⟩ := e_ret hf
        subst e1
        subst e2
        exact X.iret dX10_warn_21 rfl rfl
      · rw [if_neg hc] at hf
        refine X.iload_n dX10_warn_14 rfl (j := 2) rfl ?_
        refine X.iconst dX10_warn_15 kI_1 ?_
        refine X.icmp_le dX10_warn_16 (tgt := 22) rfl (fun hc => ?_) (fun hc => ?_)
        · rw [if_pos hc] at hf
          refine X.aload_n dX10_warn_22 rfl (j := 0) rfl ?_
          obtain ⟨v1, h2, hf⟩ := ob hf
          refine Y.getR dX10_warn_23 fl_X10_67 rfl h2 ?_
          refine X.aload_n dX10_warn_26 rfl (j := 0) rfl ?_
          obtain ⟨v3, h4, hf⟩ := ob hf
          refine Y.getR dX10_warn_27 fl_X10_63 rfl h4 ?_
          obtain ⟨q6, h5, hf⟩ := ob hf
          refine Y.callV (av := [.ref v3]) (ci := 7) dX10_warn_30 (c_X7_become (l := l) (D := D) h5) cw_X10_189 (by decide) rfl mk_X7_become (o_X7_become (k := q6) h5) (e_R_ok (Nat.le_of_ble_eq_true rfl) (Nat.le_of_ble_eq_true rfl)) ⟨rfl, rfl⟩ (by simp [Value.category]) ?_
          refine X.aload_n dX10_warn_33 rfl (j := 0) rfl ?_
          refine X.iload_n dX10_warn_34 rfl (j := 1) rfl ?_
          obtain ⟨q8, h7, hf⟩ := ob hf
          refine Y.callV (av := [.int l1]) (ci := 10) dX10_warn_35 (c_X10_keptBehind (l := l) (D := D) (w := q8.1) (k := q8.2) h7) cw_X10_205 (by decide) rfl mk_X10_keptBehind (o_X10_keptBehind (w := q8.1) (k := q8.2) h7) (e_R_ok (Nat.le_of_ble_eq_true rfl) (Nat.le_of_ble_eq_true rfl)) ⟨rfl, rfl⟩ (by simp [Value.category]) ?_
          refine X.istore_n dX10_warn_38 rfl (Nat.le_of_ble_eq_true rfl) (lc' := [(3, .int q8.1), (0, .ref l0), (1, .int l1), (2, .int l2)]) rfl ?_
          refine X.iconst dX10_warn_39 kI_m1 ?_
          refine X.istore dX10_warn_40 (Nat.le_of_ble_eq_true rfl) (lc' := [(4, .int (-1 : Int32)), (3, .int q8.1), (0, .ref l0), (1, .int l1), (2, .int l2)]) rfl ?_
          refine X.iconst dX10_warn_42 kI_0 ?_
          refine X.istore dX10_warn_43 (Nat.le_of_ble_eq_true rfl) (lc' := [(5, .int (0 : Int32)), (4, .int (-1 : Int32)), (3, .int q8.1), (0, .ref l0), (1, .int l1), (2, .int l2)]) rfl ?_
          refine X.sub [3, 4, 5, 2, 1, 0] rfl ?_
          exact x_L_X10_warn_45 50000 _ _ _ _ _ _ _ hf
        · rw [if_neg hc] at hf
          refine X.bipush dX10_warn_19 kB_m2 ?_
          obtain ⟨e1, e2⟩ := e_ret hf
          subst e1
          subst e2
          exact X.iret dX10_warn_21 rfl rfl
/-! LeanedOut.untangle(II)I -/
abbrev M_X10_untangle : e_M := (yX10_untangle, cX10_untangle, 8, (some .int))
theorem mk_X10_untangle : e_Mok M_X10_untangle 2 := ⟨by decide +kernel, by decide +kernel, by decide +kernel⟩
theorem dX10_untangle_0 : decode cX10_untangle 0 = .ok (.iload_n 1, 1) := by decide +kernel
theorem dX10_untangle_1 : decode cX10_untangle 1 = .ok (.ifCond .lt 17, 3) := by decide +kernel
theorem dX10_untangle_4 : decode cX10_untangle 4 = .ok (.iload_n 1, 1) := by decide +kernel
theorem dX10_untangle_5 : decode cX10_untangle 5 = .ok (.iconst 1, 1) := by decide +kernel
theorem dX10_untangle_6 : decode cX10_untangle 6 = .ok (.if_icmp .gt 12, 3) := by decide +kernel
theorem dX10_untangle_9 : decode cX10_untangle 9 = .ok (.iload_n 2, 1) := by decide +kernel
theorem dX10_untangle_10 : decode cX10_untangle 10 = .ok (.ifCond .lt 8, 3) := by decide +kernel
theorem dX10_untangle_13 : decode cX10_untangle 13 = .ok (.iload_n 2, 1) := by decide +kernel
theorem dX10_untangle_14 : decode cX10_untangle 14 = .ok (.iconst 1, 1) := by decide +kernel
theorem dX10_untangle_15 : decode cX10_untangle 15 = .ok (.if_icmp .le 6, 3) := by decide +kernel
theorem dX10_untangle_18 : decode cX10_untangle 18 = .ok (.bipush (-2), 2) := by decide +kernel
theorem dX10_untangle_20 : decode cX10_untangle 20 = .ok (.ireturn, 1) := by decide +kernel
theorem dX10_untangle_21 : decode cX10_untangle 21 = .ok (.aload_n 0, 1) := by decide +kernel
theorem dX10_untangle_22 : decode cX10_untangle 22 = .ok (.iload_n 1, 1) := by decide +kernel
theorem dX10_untangle_23 : decode cX10_untangle 23 = .ok (.invokevirtual 208, 3) := by decide +kernel
theorem dX10_untangle_26 : decode cX10_untangle 26 = .ok (.istore_n 3, 1) := by decide +kernel
theorem dX10_untangle_27 : decode cX10_untangle 27 = .ok (.aload_n 0, 1) := by decide +kernel
theorem dX10_untangle_28 : decode cX10_untangle 28 = .ok (.getfield 67, 3) := by decide +kernel
theorem dX10_untangle_31 : decode cX10_untangle 31 = .ok (.aload_n 0, 1) := by decide +kernel
theorem dX10_untangle_32 : decode cX10_untangle 32 = .ok (.getfield 63, 3) := by decide +kernel
theorem dX10_untangle_35 : decode cX10_untangle 35 = .ok (.invokevirtual 189, 3) := by decide +kernel
theorem dX10_untangle_38 : decode cX10_untangle 38 = .ok (.aload_n 0, 1) := by decide +kernel
theorem dX10_untangle_39 : decode cX10_untangle 39 = .ok (.getfield 63, 3) := by decide +kernel
theorem dX10_untangle_42 : decode cX10_untangle 42 = .ok (.invokevirtual 173, 3) := by decide +kernel
theorem dX10_untangle_45 : decode cX10_untangle 45 = .ok (.istore 4, 2) := by decide +kernel
theorem dX10_untangle_47 : decode cX10_untangle 47 = .ok (.aload_n 0, 1) := by decide +kernel
theorem dX10_untangle_48 : decode cX10_untangle 48 = .ok (.iload_n 3, 1) := by decide +kernel
theorem dX10_untangle_49 : decode cX10_untangle 49 = .ok (.invokevirtual 211, 3) := by decide +kernel
theorem dX10_untangle_52 : decode cX10_untangle 52 = .ok (.istore 5, 2) := by decide +kernel
theorem dX10_untangle_54 : decode cX10_untangle 54 = .ok (.iconst 1, 1) := by decide +kernel
theorem dX10_untangle_55 : decode cX10_untangle 55 = .ok (.istore 6, 2) := by decide +kernel
theorem dX10_untangle_57 : decode cX10_untangle 57 = .ok (.iload 6, 2) := by decide +kernel
theorem dX10_untangle_59 : decode cX10_untangle 59 = .ok (.sipush 720, 3) := by decide +kernel
theorem dX10_untangle_62 : decode cX10_untangle 62 = .ok (.if_icmp .ge 49, 3) := by decide +kernel
theorem dX10_untangle_65 : decode cX10_untangle 65 = .ok (.aload_n 0, 1) := by decide +kernel
theorem dX10_untangle_66 : decode cX10_untangle 66 = .ok (.iload_n 3, 1) := by decide +kernel
theorem dX10_untangle_67 : decode cX10_untangle 67 = .ok (.invokevirtual 214, 3) := by decide +kernel
theorem dX10_untangle_70 : decode cX10_untangle 70 = .ok (.ifCond .eq 41, 3) := by decide +kernel
theorem dX10_untangle_73 : decode cX10_untangle 73 = .ok (.aload_n 0, 1) := by decide +kernel
theorem dX10_untangle_74 : decode cX10_untangle 74 = .ok (.iload_n 3, 1) := by decide +kernel
theorem dX10_untangle_75 : decode cX10_untangle 75 = .ok (.invokevirtual 217, 3) := by decide +kernel
theorem dX10_untangle_78 : decode cX10_untangle 78 = .ok (.aload_n 0, 1) := by decide +kernel
theorem dX10_untangle_79 : decode cX10_untangle 79 = .ok (.getfield 67, 3) := by decide +kernel
theorem dX10_untangle_82 : decode cX10_untangle 82 = .ok (.invokevirtual 173, 3) := by decide +kernel
theorem dX10_untangle_85 : decode cX10_untangle 85 = .ok (.istore 7, 2) := by decide +kernel
theorem dX10_untangle_87 : decode cX10_untangle 87 = .ok (.iload 7, 2) := by decide +kernel
theorem dX10_untangle_89 : decode cX10_untangle 89 = .ok (.iload 4, 2) := by decide +kernel
theorem dX10_untangle_91 : decode cX10_untangle 91 = .ok (.if_icmp .ge 14, 3) := by decide +kernel
theorem dX10_untangle_94 : decode cX10_untangle 94 = .ok (.iload 7, 2) := by decide +kernel
theorem dX10_untangle_96 : decode cX10_untangle 96 = .ok (.istore 4, 2) := by decide +kernel
theorem dX10_untangle_98 : decode cX10_untangle 98 = .ok (.aload_n 0, 1) := by decide +kernel
theorem dX10_untangle_99 : decode cX10_untangle 99 = .ok (.iload_n 3, 1) := by decide +kernel
theorem dX10_untangle_100 : decode cX10_untangle 100 = .ok (.invokevirtual 211, 3) := by decide +kernel
theorem dX10_untangle_103 : decode cX10_untangle 103 = .ok (.istore 5, 2) := by decide +kernel
theorem dX10_untangle_105 : decode cX10_untangle 105 = .ok (.iinc 6 1, 3) := by decide +kernel
theorem dX10_untangle_108 : decode cX10_untangle 108 = .ok (.goto (-51), 3) := by decide +kernel
theorem dX10_untangle_111 : decode cX10_untangle 111 = .ok (.iload_n 2, 1) := by decide +kernel
theorem dX10_untangle_112 : decode cX10_untangle 112 = .ok (.ifCond .ne 8, 3) := by decide +kernel
theorem dX10_untangle_115 : decode cX10_untangle 115 = .ok (.iload 5, 2) := by decide +kernel
theorem dX10_untangle_117 : decode cX10_untangle 117 = .ok (.goto 5, 3) := by decide +kernel
theorem dX10_untangle_120 : decode cX10_untangle 120 = .ok (.iload 4, 2) := by decide +kernel
theorem dX10_untangle_122 : decode cX10_untangle 122 = .ok (.ireturn, 1) := by decide +kernel
def J_X10_untangle_105 (c57 : Nat → Int32 → Int32 → Int32 → Int32 → Int32 → e_G → Option (Int32 × e_G)) (S : e_S) (l0 : Nat) (l2 : Int32) (l3 : Int32) (l4 : Int32) (l5 : Int32) (l6 : Int32) (g : e_G) : Option (Int32 × e_G) :=
  c57 l0 l2 l3 l4 l5 (l6 + (1 : Int32)) g
def J_X10_untangle_111 (S : e_S) (l2 : Int32) (l4 : Int32) (l5 : Int32) (g : e_G) : Option (Int32 × e_G) :=
  if l2 = 0 then
    some (l5, g)
  else
    some (l4, g)
def L_X10_untangle_57 : Nat → e_S → Nat → Int32 → Int32 → Int32 → Int32 → Int32 → e_G → Option (Int32 × e_G)
  | 0, _, _, _, _, _, _, _, _ => none
  | n + 1, S, l0, l2, l3, l4, l5, l6, g =>
  if (720 : Int32) ≤ l6 then
    J_X10_untangle_111 S l2 l4 l5 g
  else
    (f_X10_nextOrder S l0 l3 g).bind fun q2 =>
    if q2.1 = 0 then
      J_X10_untangle_111 S l2 l4 l5 q2.2
    else
      (f_X10_giveLooks S l0 l3 q2.2).bind fun q4 =>
      (e_gR S q4 10 l0 3).bind fun v5 =>
      (f_X7_crossings S v5 q4).bind fun q8 =>
      if l4 ≤ q8.1 then
        J_X10_untangle_105 (L_X10_untangle_57 n S) S l0 l2 l3 l4 l5 l6 q8.2
      else
        (f_X10_orderDigits S l0 l3 q8.2).bind fun q10 =>
        J_X10_untangle_105 (L_X10_untangle_57 n S) S l0 l2 l3 q8.1 q10.1 l6 q10.2
def f_X10_untangle (S : e_S) (l0 : Nat) (l1 : Int32) (l2 : Int32) (g : e_G) : Option (Int32 × e_G) :=
  if e_ob S 10 l0 = true then
    if l1 < 0 then
      some ((-2 : Int32), g)
    else
      if (1 : Int32) < l1 then
        some ((-2 : Int32), g)
      else
        if l2 < 0 then
          some ((-2 : Int32), g)
        else
          if l2 ≤ (1 : Int32) then
            (f_X10_gatherMembers S l0 l1 g).bind fun q2 =>
            (e_gR S q2.2 10 l0 3).bind fun v3 =>
            (e_gR S q2.2 10 l0 2).bind fun v5 =>
            (f_X7_become S v3 v5 q2.2).bind fun q8 =>
            (e_gR S q8 10 l0 2).bind fun v9 =>
            (f_X7_crossings S v9 q8).bind fun q12 =>
            (f_X10_orderDigits S l0 q2.1 q12.2).bind fun q14 =>
            L_X10_untangle_57 50000 S l0 l2 q2.1 q12.1 q14.1 (1 : Int32) q14.2
          else
            some ((-2 : Int32), g)
  else none
theorem x_J_X10_untangle_105 {l : Launch} {D : va_G} {S : e_S} {w : Int32} {k : e_G} (c57 : Nat → Int32 → Int32 → Int32 → Int32 → Int32 → e_G → Option (Int32 × e_G)) (hc57 : ∀ (l0 : Nat) (l2 : Int32) (l3 : Int32) (l4 : Int32) (l5 : Int32) (l6 : Int32) (g : e_G), c57 l0 l2 l3 l4 l5 l6 g = some (w, k) → X l D (e_R 3) M_X10_untangle 0 0 57 [(0, .ref l0), (2, .int l2), (3, .int l3), (4, .int l4), (5, .int l5), (6, .int l6)] [] (S, g) (some (.int w)) (S, k)) {l0 : Nat} {l2 : Int32} {l3 : Int32} {l4 : Int32} {l5 : Int32} {l6 : Int32} {g : e_G} (hf : J_X10_untangle_105 c57 S l0 l2 l3 l4 l5 l6 g = some (w, k)) : X l D (e_R 3) M_X10_untangle 0 0 105 [(0, .ref l0), (2, .int l2), (3, .int l3), (4, .int l4), (5, .int l5), (6, .int l6)] [] (S, g) (some (.int w)) (S, k) := by
  unfold J_X10_untangle_105 at hf
  refine X.iinc (j := 5) dX10_untangle_105 rfl (v := l6 + (1 : Int32)) (by rw [kI_1]) (Nat.le_of_ble_eq_true rfl) (lc' := [(6, .int (l6 + (1 : Int32))), (0, .ref l0), (2, .int l2), (3, .int l3), (4, .int l4), (5, .int l5)]) rfl ?_
  refine X.goto dX10_untangle_108 (tgt := 57) rfl ?_
  refine X.sub [1, 2, 3, 4, 5, 0] rfl ?_
  exact hc57 _ _ _ _ _ _ _ hf
theorem x_J_X10_untangle_111 {l : Launch} {D : va_G} {S : e_S} {w : Int32} {k : e_G} {l2 : Int32} {l4 : Int32} {l5 : Int32} {g : e_G} (hf : J_X10_untangle_111 S l2 l4 l5 g = some (w, k)) : X l D (e_R 3) M_X10_untangle 0 0 111 [(2, .int l2), (4, .int l4), (5, .int l5)] [] (S, g) (some (.int w)) (S, k) := by
  unfold J_X10_untangle_111 at hf
  refine X.iload_n dX10_untangle_111 rfl (j := 0) rfl ?_
  refine X.if_ne dX10_untangle_112 (tgt := 120) rfl (fun hc => ?_) (fun hc => ?_)
  · rw [if_neg hc] at hf
    refine X.iload dX10_untangle_120 (j := 1) rfl ?_
    obtain ⟨e1, e2⟩ := e_ret hf
    subst e1
    subst e2
    exact X.iret dX10_untangle_122 rfl rfl
  · rw [if_pos hc] at hf
    refine X.iload dX10_untangle_115 (j := 2) rfl ?_
    refine X.goto dX10_untangle_117 (tgt := 122) rfl ?_
    obtain ⟨e1, e2⟩ := e_ret hf
    subst e1
    subst e2
    exact X.iret dX10_untangle_122 rfl rfl
theorem x_L_X10_untangle_57 {l : Launch} {D : va_G} {S : e_S} {w : Int32} {k : e_G} : ∀ (n : Nat) (l0 : Nat) (l2 : Int32) (l3 : Int32) (l4 : Int32) (l5 : Int32) (l6 : Int32) (g : e_G), L_X10_untangle_57 n S l0 l2 l3 l4 l5 l6 g = some (w, k) → X l D (e_R 3) M_X10_untangle 0 0 57 [(0, .ref l0), (2, .int l2), (3, .int l3), (4, .int l4), (5, .int l5), (6, .int l6)] [] (S, g) (some (.int w)) (S, k) := by
  intro n
  induction n with
  | zero =>
    intro l0 l2 l3 l4 l5 l6 g hf
    cases hf
  | succ n ih =>
    intro l0 l2 l3 l4 l5 l6 g hf
    rw [L_X10_untangle_57] at hf
    refine X.iload dX10_untangle_57 (j := 5) rfl ?_
    refine X.sipush dX10_untangle_59 kS_720 ?_
    refine X.icmp_ge dX10_untangle_62 (tgt := 111) rfl (fun hc => ?_) (fun hc => ?_)
    · rw [if_pos hc] at hf
      refine X.sub [1, 3, 4] rfl ?_
      exact x_J_X10_untangle_111 hf
    · rw [if_neg hc] at hf
      refine X.aload_n dX10_untangle_65 rfl (j := 0) rfl ?_
      refine X.iload_n dX10_untangle_66 rfl (j := 2) rfl ?_
      obtain ⟨q2, h1, hf⟩ := ob hf
      refine Y.callV (av := [.int l3]) (ci := 10) dX10_untangle_67 (c_X10_nextOrder (l := l) (D := D) (w := q2.1) (k := q2.2) h1) cw_X10_214 (by decide) rfl mk_X10_nextOrder (o_X10_nextOrder (w := q2.1) (k := q2.2) h1) (e_R_ok (Nat.le_of_ble_eq_true rfl) (Nat.le_of_ble_eq_true rfl)) ⟨rfl, rfl⟩ (by simp [Value.category]) ?_
      refine X.if_eq dX10_untangle_70 (tgt := 111) rfl (fun hc => ?_) (fun hc => ?_)
      · rw [if_pos hc] at hf
        refine X.sub [1, 3, 4] rfl ?_
        exact x_J_X10_untangle_111 hf
      · rw [if_neg hc] at hf
        refine X.aload_n dX10_untangle_73 rfl (j := 0) rfl ?_
        refine X.iload_n dX10_untangle_74 rfl (j := 2) rfl ?_
        obtain ⟨q4, h3, hf⟩ := ob hf
        refine Y.callV (av := [.int l3]) (ci := 10) dX10_untangle_75 (c_X10_giveLooks (l := l) (D := D) h3) cw_X10_217 (by decide) rfl mk_X10_giveLooks (o_X10_giveLooks (k := q4) h3) (e_R_ok (Nat.le_of_ble_eq_true rfl) (Nat.le_of_ble_eq_true rfl)) ⟨rfl, rfl⟩ (by simp [Value.category]) ?_
        refine X.aload_n dX10_untangle_78 rfl (j := 0) rfl ?_
        obtain ⟨v5, h6, hf⟩ := ob hf
        refine Y.getR dX10_untangle_79 fl_X10_67 rfl h6 ?_
        obtain ⟨q8, h7, hf⟩ := ob hf
        refine Y.callV (av := []) (ci := 7) dX10_untangle_82 (c_X7_crossings (l := l) (D := D) (w := q8.1) (k := q8.2) h7) cw_X10_173 (by decide) rfl mk_X7_crossings (o_X7_crossings (w := q8.1) (k := q8.2) h7) (e_R_ok (Nat.le_of_ble_eq_true rfl) (Nat.le_of_ble_eq_true rfl)) ⟨rfl, rfl⟩ (by simp [Value.category]) ?_
        refine X.istore dX10_untangle_85 (Nat.le_of_ble_eq_true rfl) (lc' := [(7, .int q8.1), (0, .ref l0), (2, .int l2), (3, .int l3), (4, .int l4), (5, .int l5), (6, .int l6)]) rfl ?_
        refine X.iload dX10_untangle_87 (j := 0) rfl ?_
        refine X.iload dX10_untangle_89 (j := 4) rfl ?_
        refine X.icmp_ge dX10_untangle_91 (tgt := 105) rfl (fun hc => ?_) (fun hc => ?_)
        · rw [if_pos hc] at hf
          refine X.sub [1, 2, 3, 4, 5, 6] rfl ?_
          exact x_J_X10_untangle_105 _ ih hf
        · rw [if_neg hc] at hf
          refine X.iload dX10_untangle_94 (j := 0) rfl ?_
          refine X.istore dX10_untangle_96 (Nat.le_of_ble_eq_true rfl) (lc' := [(4, .int q8.1), (7, .int q8.1), (0, .ref l0), (2, .int l2), (3, .int l3), (5, .int l5), (6, .int l6)]) rfl ?_
          refine X.aload_n dX10_untangle_98 rfl (j := 2) rfl ?_
          refine X.iload_n dX10_untangle_99 rfl (j := 4) rfl ?_
          obtain ⟨q10, h9, hf⟩ := ob hf
          refine Y.callV (av := [.int l3]) (ci := 10) dX10_untangle_100 (c_X10_orderDigits (l := l) (D := D) (w := q10.1) (k := q10.2) h9) cw_X10_211 (by decide) rfl mk_X10_orderDigits (o_X10_orderDigits (w := q10.1) (k := q10.2) h9) (e_R_ok (Nat.le_of_ble_eq_true rfl) (Nat.le_of_ble_eq_true rfl)) ⟨rfl, rfl⟩ (by simp [Value.category]) ?_
          refine X.istore dX10_untangle_103 (Nat.le_of_ble_eq_true rfl) (lc' := [(5, .int q10.1), (4, .int q8.1), (7, .int q8.1), (0, .ref l0), (2, .int l2), (3, .int l3), (6, .int l6)]) rfl ?_
          refine X.sub [3, 4, 5, 1, 0, 6] rfl ?_
          exact x_J_X10_untangle_105 _ ih hf
theorem o_X10_untangle  {S : e_S} {w : Int32} {k : e_G} {l0 : Nat} {l1 : Int32} {l2 : Int32} {g : e_G} (hf : f_X10_untangle S l0 l1 l2 g = some (w, k)) : e_ob S 10 l0 = true := by
  unfold f_X10_untangle at hf
  by_cases hc : e_ob S 10 l0 = true
  · exact hc
  · rw [if_neg hc] at hf
    cases hf
theorem c_X10_untangle {l : Launch} {D : va_G}  {S : e_S} {w : Int32} {k : e_G} {l0 : Nat} {l1 : Int32} {l2 : Int32} {g : e_G} (hf : f_X10_untangle S l0 l1 l2 g = some (w, k)) : CT l D (e_R 3) M_X10_untangle [.ref l0, .int l1, .int l2] (S, g) (some (.int w)) (S, k) := by
  refine CT.of (by decide +kernel) (Nat.le_of_ble_eq_true rfl) ?_
  have ho := o_X10_untangle hf
  unfold f_X10_untangle at hf
  rw [if_pos ho] at hf
  show X l D (e_R 3) M_X10_untangle 0 0 0 [(0, .ref l0), (1, .int l1), (2, .int l2)] [] (S, g) (some (.int w)) (S, k)
  refine X.iload_n dX10_untangle_0 rfl (j := 1) rfl ?_
  refine X.if_lt dX10_untangle_1 (tgt := 18) rfl (fun hc => ?_) (fun hc => ?_)
  · rw [if_pos hc] at hf
    refine X.bipush dX10_untangle_18 kB_m2 ?_
    obtain ⟨e1, e2⟩ := e_ret hf
    subst e1
    subst e2
    exact X.iret dX10_untangle_20 rfl rfl
  · rw [if_neg hc] at hf
    refine X.iload_n dX10_untangle_4 rfl (j := 1) rfl ?_
    refine X.iconst dX10_untangle_5 kI_1 ?_
    refine X.icmp_gt dX10_untangle_6 (tgt := 18) rfl (fun hc => ?_) (fun hc => ?_)
    · rw [if_pos hc] at hf
      refine X.bipush dX10_untangle_18 kB_m2 ?_
      obtain ⟨e1, e2⟩ := e_ret hf
      subst e1
      subst e2
      exact X.iret dX10_untangle_20 rfl rfl
    · rw [if_neg hc] at hf
      refine X.iload_n dX10_untangle_9 rfl (j := 2) rfl ?_
      refine X.if_lt dX10_untangle_10 (tgt := 18) rfl (fun hc => ?_) (fun hc => ?_)
      · rw [if_pos hc] at hf
        refine X.bipush dX10_untangle_18 kB_m2 ?_
        obtain ⟨e1, e2⟩ := e_ret hf
        subst e1
        subst e2
        exact X.iret dX10_untangle_20 rfl rfl
      · rw [if_neg hc] at hf
        refine X.iload_n dX10_untangle_13 rfl (j := 2) rfl ?_
        refine X.iconst dX10_untangle_14 kI_1 ?_
        refine X.icmp_le dX10_untangle_15 (tgt := 21) rfl (fun hc => ?_) (fun hc => ?_)
        · rw [if_pos hc] at hf
          refine X.aload_n dX10_untangle_21 rfl (j := 0) rfl ?_
          refine X.iload_n dX10_untangle_22 rfl (j := 1) rfl ?_
          obtain ⟨q2, h1, hf⟩ := ob hf
          refine Y.callV (av := [.int l1]) (ci := 10) dX10_untangle_23 (c_X10_gatherMembers (l := l) (D := D) (w := q2.1) (k := q2.2) h1) cw_X10_208 (by decide) rfl mk_X10_gatherMembers (o_X10_gatherMembers (w := q2.1) (k := q2.2) h1) (e_R_ok (Nat.le_of_ble_eq_true rfl) (Nat.le_of_ble_eq_true rfl)) ⟨rfl, rfl⟩ (by simp [Value.category]) ?_
          refine X.istore_n dX10_untangle_26 rfl (Nat.le_of_ble_eq_true rfl) (lc' := [(3, .int q2.1), (0, .ref l0), (1, .int l1), (2, .int l2)]) rfl ?_
          refine X.aload_n dX10_untangle_27 rfl (j := 1) rfl ?_
          obtain ⟨v3, h4, hf⟩ := ob hf
          refine Y.getR dX10_untangle_28 fl_X10_67 rfl h4 ?_
          refine X.aload_n dX10_untangle_31 rfl (j := 1) rfl ?_
          obtain ⟨v5, h6, hf⟩ := ob hf
          refine Y.getR dX10_untangle_32 fl_X10_63 rfl h6 ?_
          obtain ⟨q8, h7, hf⟩ := ob hf
          refine Y.callV (av := [.ref v5]) (ci := 7) dX10_untangle_35 (c_X7_become (l := l) (D := D) h7) cw_X10_189 (by decide) rfl mk_X7_become (o_X7_become (k := q8) h7) (e_R_ok (Nat.le_of_ble_eq_true rfl) (Nat.le_of_ble_eq_true rfl)) ⟨rfl, rfl⟩ (by simp [Value.category]) ?_
          refine X.aload_n dX10_untangle_38 rfl (j := 1) rfl ?_
          obtain ⟨v9, h10, hf⟩ := ob hf
          refine Y.getR dX10_untangle_39 fl_X10_63 rfl h10 ?_
          obtain ⟨q12, h11, hf⟩ := ob hf
          refine Y.callV (av := []) (ci := 7) dX10_untangle_42 (c_X7_crossings (l := l) (D := D) (w := q12.1) (k := q12.2) h11) cw_X10_173 (by decide) rfl mk_X7_crossings (o_X7_crossings (w := q12.1) (k := q12.2) h11) (e_R_ok (Nat.le_of_ble_eq_true rfl) (Nat.le_of_ble_eq_true rfl)) ⟨rfl, rfl⟩ (by simp [Value.category]) ?_
          refine X.istore dX10_untangle_45 (Nat.le_of_ble_eq_true rfl) (lc' := [(4, .int q12.1), (3, .int q2.1), (0, .ref l0), (1, .int l1), (2, .int l2)]) rfl ?_
          refine X.aload_n dX10_untangle_47 rfl (j := 2) rfl ?_
          refine X.iload_n dX10_untangle_48 rfl (j := 1) rfl ?_
          obtain ⟨q14, h13, hf⟩ := ob hf
          refine Y.callV (av := [.int q2.1]) (ci := 10) dX10_untangle_49 (c_X10_orderDigits (l := l) (D := D) (w := q14.1) (k := q14.2) h13) cw_X10_211 (by decide) rfl mk_X10_orderDigits (o_X10_orderDigits (w := q14.1) (k := q14.2) h13) (e_R_ok (Nat.le_of_ble_eq_true rfl) (Nat.le_of_ble_eq_true rfl)) ⟨rfl, rfl⟩ (by simp [Value.category]) ?_
          refine X.istore dX10_untangle_52 (Nat.le_of_ble_eq_true rfl) (lc' := [(5, .int q14.1), (4, .int q12.1), (3, .int q2.1), (0, .ref l0), (1, .int l1), (2, .int l2)]) rfl ?_
          refine X.iconst dX10_untangle_54 kI_1 ?_
          refine X.istore dX10_untangle_55 (Nat.le_of_ble_eq_true rfl) (lc' := [(6, .int (1 : Int32)), (5, .int q14.1), (4, .int q12.1), (3, .int q2.1), (0, .ref l0), (1, .int l1), (2, .int l2)]) rfl ?_
          refine X.sub [4, 6, 3, 2, 1, 0] rfl ?_
          exact x_L_X10_untangle_57 50000 _ _ _ _ _ _ _ hf
        · rw [if_neg hc] at hf
          refine X.bipush dX10_untangle_18 kB_m2 ?_
          obtain ⟨e1, e2⟩ := e_ret hf
          subst e1
          subst e2
          exact X.iret dX10_untangle_20 rfl rfl
/-! LeanedOut.strain(II)J -/
abbrev M_X10_strain : e_M := (yX10_strain, cX10_strain, 4, (some .long))
theorem mk_X10_strain : e_Mok M_X10_strain 2 := ⟨by decide +kernel, by decide +kernel, by decide +kernel⟩
theorem dX10_strain_0 : decode cX10_strain 0 = .ok (.aload_n 0, 1) := by decide +kernel
theorem dX10_strain_1 : decode cX10_strain 1 = .ok (.getfield 63, 3) := by decide +kernel
theorem dX10_strain_4 : decode cX10_strain 4 = .ok (.iload_n 1, 1) := by decide +kernel
theorem dX10_strain_5 : decode cX10_strain 5 = .ok (.invokevirtual 122, 3) := by decide +kernel
theorem dX10_strain_8 : decode cX10_strain 8 = .ok (.ifCond .eq 12, 3) := by decide +kernel
theorem dX10_strain_11 : decode cX10_strain 11 = .ok (.iload_n 2, 1) := by decide +kernel
theorem dX10_strain_12 : decode cX10_strain 12 = .ok (.ifCond .lt 8, 3) := by decide +kernel
theorem dX10_strain_15 : decode cX10_strain 15 = .ok (.iload_n 2, 1) := by decide +kernel
theorem dX10_strain_16 : decode cX10_strain 16 = .ok (.iconst 1, 1) := by decide +kernel
theorem dX10_strain_17 : decode cX10_strain 17 = .ok (.if_icmp .le 7, 3) := by decide +kernel
theorem dX10_strain_20 : decode cX10_strain 20 = .ok (.ldc2_w 220, 3) := by decide +kernel
theorem dX10_strain_23 : decode cX10_strain 23 = .ok (.lreturn, 1) := by decide +kernel
theorem dX10_strain_24 : decode cX10_strain 24 = .ok (.aload_n 0, 1) := by decide +kernel
theorem dX10_strain_25 : decode cX10_strain 25 = .ok (.getfield 63, 3) := by decide +kernel
theorem dX10_strain_28 : decode cX10_strain 28 = .ok (.iload_n 1, 1) := by decide +kernel
theorem dX10_strain_29 : decode cX10_strain 29 = .ok (.invokevirtual 164, 3) := by decide +kernel
theorem dX10_strain_32 : decode cX10_strain 32 = .ok (.istore_n 3, 1) := by decide +kernel
theorem dX10_strain_33 : decode cX10_strain 33 = .ok (.iload_n 3, 1) := by decide +kernel
theorem dX10_strain_34 : decode cX10_strain 34 = .ok (.ifCond .gt 7, 3) := by decide +kernel
theorem dX10_strain_37 : decode cX10_strain 37 = .ok (.ldc2_w 220, 3) := by decide +kernel
theorem dX10_strain_40 : decode cX10_strain 40 = .ok (.lreturn, 1) := by decide +kernel
theorem dX10_strain_41 : decode cX10_strain 41 = .ok (.aload_n 0, 1) := by decide +kernel
theorem dX10_strain_42 : decode cX10_strain 42 = .ok (.getfield 63, 3) := by decide +kernel
theorem dX10_strain_45 : decode cX10_strain 45 = .ok (.getfield 142, 3) := by decide +kernel
theorem dX10_strain_48 : decode cX10_strain 48 = .ok (.iload_n 1, 1) := by decide +kernel
theorem dX10_strain_49 : decode cX10_strain 49 = .ok (.iaload, 1) := by decide +kernel
theorem dX10_strain_50 : decode cX10_strain 50 = .ok (.iload_n 3, 1) := by decide +kernel
theorem dX10_strain_51 : decode cX10_strain 51 = .ok (.iload_n 2, 1) := by decide +kernel
theorem dX10_strain_52 : decode cX10_strain 52 = .ok (.invokestatic 222, 3) := by decide +kernel
theorem dX10_strain_55 : decode cX10_strain 55 = .ok (.lreturn, 1) := by decide +kernel
def f_X10_strain (S : e_S) (l0 : Nat) (l1 : Int32) (l2 : Int32) (g : e_G) : Option (Int64 × e_G) :=
  if e_ob S 10 l0 = true then
    (e_gR S g 10 l0 2).bind fun v1 =>
    (f_X7_has S v1 l1 g).bind fun q4 =>
    if q4.1 = 0 then
      some ((-4611686018427387904 : Int64), q4.2)
    else
      if l2 < 0 then
        some ((-4611686018427387904 : Int64), q4.2)
      else
        if l2 ≤ (1 : Int32) then
          (e_gR S q4.2 10 l0 2).bind fun v5 =>
          (f_X7_holding S v5 l1 q4.2).bind fun q8 =>
          if 0 < q8.1 then
            (e_gR S q8.2 10 l0 2).bind fun v9 =>
            (e_gR S q8.2 7 v9 2).bind fun v11 =>
            (e_aI S q8.2 0 v11 l1).bind fun v13 =>
            (f_X10_lowest S v13 q8.1 l2 q8.2).bind fun q16 =>
            some (q16.1, q16.2)
          else
            some ((-4611686018427387904 : Int64), q8.2)
        else
          some ((-4611686018427387904 : Int64), q4.2)
  else none
theorem o_X10_strain  {S : e_S} {w : Int64} {k : e_G} {l0 : Nat} {l1 : Int32} {l2 : Int32} {g : e_G} (hf : f_X10_strain S l0 l1 l2 g = some (w, k)) : e_ob S 10 l0 = true := by
  unfold f_X10_strain at hf
  by_cases hc : e_ob S 10 l0 = true
  · exact hc
  · rw [if_neg hc] at hf
    cases hf
theorem c_X10_strain {l : Launch} {D : va_G}  {S : e_S} {w : Int64} {k : e_G} {l0 : Nat} {l1 : Int32} {l2 : Int32} {g : e_G} (hf : f_X10_strain S l0 l1 l2 g = some (w, k)) : CT l D (e_R 5) M_X10_strain [.ref l0, .int l1, .int l2] (S, g) (some (.long w)) (S, k) := by
  refine CT.of (by decide +kernel) (Nat.le_of_ble_eq_true rfl) ?_
  have ho := o_X10_strain hf
  unfold f_X10_strain at hf
  rw [if_pos ho] at hf
  show X l D (e_R 5) M_X10_strain 0 0 0 [(0, .ref l0), (1, .int l1), (2, .int l2)] [] (S, g) (some (.long w)) (S, k)
  refine X.aload_n dX10_strain_0 rfl (j := 0) rfl ?_
  obtain ⟨v1, h2, hf⟩ := ob hf
  refine Y.getR dX10_strain_1 fl_X10_63 rfl h2 ?_
  refine X.iload_n dX10_strain_4 rfl (j := 1) rfl ?_
  obtain ⟨q4, h3, hf⟩ := ob hf
  refine Y.callV (av := [.int l1]) (ci := 7) dX10_strain_5 (c_X7_has (l := l) (D := D) (w := q4.1) (k := q4.2) h3) cw_X10_122 (by decide) rfl mk_X7_has (o_X7_has (w := q4.1) (k := q4.2) h3) (e_R_ok (Nat.le_of_ble_eq_true rfl) (Nat.le_of_ble_eq_true rfl)) ⟨rfl, rfl⟩ (by simp [Value.category]) ?_
  refine X.if_eq dX10_strain_8 (tgt := 20) rfl (fun hc => ?_) (fun hc => ?_)
  · rw [if_pos hc] at hf
    refine X.ldc2 dX10_strain_20 ww_782 ?_
    obtain ⟨e1, e2⟩ := e_ret hf
    subst e1
    subst e2
    exact X.lret dX10_strain_23 rfl
  · rw [if_neg hc] at hf
    refine X.iload_n dX10_strain_11 rfl (j := 2) rfl ?_
    refine X.if_lt dX10_strain_12 (tgt := 20) rfl (fun hc => ?_) (fun hc => ?_)
    · rw [if_pos hc] at hf
      refine X.ldc2 dX10_strain_20 ww_782 ?_
      obtain ⟨e1, e2⟩ := e_ret hf
      subst e1
      subst e2
      exact X.lret dX10_strain_23 rfl
    · rw [if_neg hc] at hf
      refine X.iload_n dX10_strain_15 rfl (j := 2) rfl ?_
      refine X.iconst dX10_strain_16 kI_1 ?_
      refine X.icmp_le dX10_strain_17 (tgt := 24) rfl (fun hc => ?_) (fun hc => ?_)
      · rw [if_pos hc] at hf
        refine X.aload_n dX10_strain_24 rfl (j := 0) rfl ?_
        obtain ⟨v5, h6, hf⟩ := ob hf
        refine Y.getR dX10_strain_25 fl_X10_63 rfl h6 ?_
        refine X.iload_n dX10_strain_28 rfl (j := 1) rfl ?_
        obtain ⟨q8, h7, hf⟩ := ob hf
        refine Y.callV (av := [.int l1]) (ci := 7) dX10_strain_29 (c_X7_holding (l := l) (D := D) (w := q8.1) (k := q8.2) h7) cw_X10_164 (by decide) rfl mk_X7_holding (o_X7_holding (w := q8.1) (k := q8.2) h7) (e_R_ok (Nat.le_of_ble_eq_true rfl) (Nat.le_of_ble_eq_true rfl)) ⟨rfl, rfl⟩ (by simp [Value.category]) ?_
        refine X.istore_n dX10_strain_32 rfl (Nat.le_of_ble_eq_true rfl) (lc' := [(3, .int q8.1), (0, .ref l0), (1, .int l1), (2, .int l2)]) rfl ?_
        refine X.iload_n dX10_strain_33 rfl (j := 0) rfl ?_
        refine X.if_gt dX10_strain_34 (tgt := 41) rfl (fun hc => ?_) (fun hc => ?_)
        · rw [if_pos hc] at hf
          refine X.aload_n dX10_strain_41 rfl (j := 1) rfl ?_
          obtain ⟨v9, h10, hf⟩ := ob hf
          refine Y.getR dX10_strain_42 fl_X10_63 rfl h10 ?_
          obtain ⟨v11, h12, hf⟩ := ob hf
          refine Y.getR dX10_strain_45 fl_X10_142 rfl h12 ?_
          refine X.iload_n dX10_strain_48 rfl (j := 2) rfl ?_
          obtain ⟨v13, h14, hf⟩ := ob hf
          refine Y.iald dX10_strain_49 h14 ?_
          refine X.iload_n dX10_strain_50 rfl (j := 0) rfl ?_
          refine X.iload_n dX10_strain_51 rfl (j := 3) rfl ?_
          obtain ⟨q16, h15, hf⟩ := ob hf
          refine Y.callS (av := [.int v13, .int q8.1, .int l2]) dX10_strain_52 (c_X10_lowest (l := l) (D := D) (w := q16.1) (k := q16.2) h15) cw_X10_222 mk_X10_lowest (e_R_ok (Nat.le_of_ble_eq_true rfl) (Nat.le_of_ble_eq_true rfl)) ⟨rfl, rfl⟩ (by simp [Value.category]) ?_
          obtain ⟨e1, e2⟩ := e_ret hf
          subst e1
          subst e2
          exact X.lret dX10_strain_55 rfl
        · rw [if_neg hc] at hf
          refine X.ldc2 dX10_strain_37 ww_782 ?_
          obtain ⟨e1, e2⟩ := e_ret hf
          subst e1
          subst e2
          exact X.lret dX10_strain_40 rfl
      · rw [if_neg hc] at hf
        refine X.ldc2 dX10_strain_20 ww_782 ?_
        obtain ⟨e1, e2⟩ := e_ret hf
        subst e1
        subst e2
        exact X.lret dX10_strain_23 rfl
