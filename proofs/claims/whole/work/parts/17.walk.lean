theorem kB_m14 : (Int8.ofInt (-14)).toInt32 = (-14 : Int32) := by decide +kernel
theorem kB_m12 : (Int8.ofInt (-12)).toInt32 = (-12 : Int32) := by decide +kernel
theorem kB_m13 : (Int8.ofInt (-13)).toInt32 = (-13 : Int32) := by decide +kernel
theorem kB_12 : (Int8.ofInt (12)).toInt32 = (12 : Int32) := by decide +kernel
theorem ww_790 : Cond.methodLink RX10 226 yX10_refusalOf ∈ e_big := bw (i := 790) (by decide +kernel) rfl
theorem ww_792 : Cond.instanceMethod yX10_refusalOf ∈ e_big := bw (i := 792) (by decide +kernel) rfl
theorem ww_28 : Cond.selects RX10 yX10_refusalOf yX10_refusalOf ∈ e_big := bw (i := 28) (by decide +kernel) rfl
theorem ww_793 : Cond.code yX10_refusalOf cX10_refusalOf 4 (some .int) ∈ e_big := bw (i := 793) (by decide +kernel) rfl
theorem cw_X10_226 : ∀ w ∈ wsV RX10 226 RX10 yX10_refusalOf [Cond.code yX10_refusalOf cX10_refusalOf 4 (some .int)], w ∈ e_big := e_all5 ww_790 ww_792 ww_28 ww_73 ww_793
theorem ww_805 : Cond.methodLink RX10 229 yX10_firstOtherwise ∈ e_big := bw (i := 805) (by decide +kernel) rfl
theorem ww_807 : Cond.instanceMethod yX10_firstOtherwise ∈ e_big := bw (i := 807) (by decide +kernel) rfl
theorem ww_30 : Cond.selects RX10 yX10_firstOtherwise yX10_firstOtherwise ∈ e_big := bw (i := 30) (by decide +kernel) rfl
theorem ww_808 : Cond.code yX10_firstOtherwise cX10_firstOtherwise 4 (some .int) ∈ e_big := bw (i := 808) (by decide +kernel) rfl
theorem cw_X10_229 : ∀ w ∈ wsV RX10 229 RX10 yX10_firstOtherwise [Cond.code yX10_firstOtherwise cX10_firstOtherwise 4 (some .int)], w ∈ e_big := e_all5 ww_805 ww_807 ww_30 ww_73 ww_808
theorem ww_847 : Cond.methodLink RX10 242 yX6_set ∈ e_big := bw (i := 847) (by decide +kernel) rfl
theorem ww_848 : Cond.instanceMethod yX6_set ∈ e_big := bw (i := 848) (by decide +kernel) rfl
theorem ww_849 : Cond.selects RX6 yX6_set yX6_set ∈ e_big := bw (i := 849) (by decide +kernel) rfl
theorem ww_850 : Cond.code yX6_set cX6_set 3 none ∈ e_big := bw (i := 850) (by decide +kernel) rfl
theorem cw_X10_242 : ∀ w ∈ wsV RX10 242 RX6 yX6_set [Cond.code yX6_set cX6_set 3 none], w ∈ e_big := e_all5 ww_847 ww_848 ww_849 ww_76 ww_850
theorem ww_841 : Cond.methodLink RX10 239 yX6_become ∈ e_big := bw (i := 841) (by decide +kernel) rfl
theorem ww_842 : Cond.instanceMethod yX6_become ∈ e_big := bw (i := 842) (by decide +kernel) rfl
theorem ww_843 : Cond.selects RX6 yX6_become yX6_become ∈ e_big := bw (i := 843) (by decide +kernel) rfl
theorem ww_844 : Cond.code yX6_become cX6_become 4 none ∈ e_big := bw (i := 844) (by decide +kernel) rfl
theorem cw_X10_239 : ∀ w ∈ wsV RX10 239 RX6 yX6_become [Cond.code yX6_become cX6_become 4 none], w ∈ e_big := e_all5 ww_841 ww_842 ww_843 ww_76 ww_844
theorem ww_855 : Cond.constant RX10 245 (99999) ∈ e_big := bw (i := 855) (by decide +kernel) rfl
theorem ww_856 : Cond.methodLink RX10 246 yX10_passCraneDays ∈ e_big := bw (i := 856) (by decide +kernel) rfl
theorem ww_858 : Cond.instanceMethod yX10_passCraneDays ∈ e_big := bw (i := 858) (by decide +kernel) rfl
theorem ww_31 : Cond.selects RX10 yX10_passCraneDays yX10_passCraneDays ∈ e_big := bw (i := 31) (by decide +kernel) rfl
theorem ww_859 : Cond.code yX10_passCraneDays cX10_passCraneDays 7 none ∈ e_big := bw (i := 859) (by decide +kernel) rfl
theorem cw_X10_246 : ∀ w ∈ wsV RX10 246 RX10 yX10_passCraneDays [Cond.code yX10_passCraneDays cX10_passCraneDays 7 none], w ∈ e_big := e_all5 ww_856 ww_858 ww_31 ww_73 ww_859
theorem fl_X10_70 : e_FL RX10 70 10 4 := ⟨⟨by decide, by decide⟩, bw (i := 422) (by decide +kernel) rfl⟩
theorem fl_X10_249 : e_FL RX10 249 10 11 := ⟨⟨by decide, by decide⟩, bw (i := 429) (by decide +kernel) rfl⟩
theorem ww_884 : Cond.methodLink RX10 257 yX6_has ∈ e_big := bw (i := 884) (by decide +kernel) rfl
theorem cw_X10_257 : ∀ w ∈ wsV RX10 257 RX6 yX6_has [Cond.code yX6_has cX6_has 2 (some .boolean)], w ∈ e_big := e_all5 ww_884 ww_814 ww_815 ww_76 ww_816
theorem fl_X10_258 : e_FL RX10 258 6 1 := ⟨⟨by decide, by decide⟩, bw (i := 165) (by decide +kernel) rfl⟩
theorem ww_889 : Cond.methodLink RX10 261 yX6_hasRow ∈ e_big := bw (i := 889) (by decide +kernel) rfl
theorem ww_890 : Cond.instanceMethod yX6_hasRow ∈ e_big := bw (i := 890) (by decide +kernel) rfl
theorem ww_891 : Cond.selects RX6 yX6_hasRow yX6_hasRow ∈ e_big := bw (i := 891) (by decide +kernel) rfl
theorem ww_892 : Cond.code yX6_hasRow cX6_hasRow 3 (some .boolean) ∈ e_big := bw (i := 892) (by decide +kernel) rfl
theorem cw_X10_261 : ∀ w ∈ wsV RX10 261 RX6 yX6_hasRow [Cond.code yX6_hasRow cX6_hasRow 3 (some .boolean)], w ∈ e_big := e_all5 ww_889 ww_890 ww_891 ww_76 ww_892
theorem fl_X10_264 : e_FL RX10 264 6 0 := ⟨⟨by decide, by decide⟩, bw (i := 163) (by decide +kernel) rfl⟩
theorem ww_893 : Cond.methodLink RX10 267 ⟨RJ10, "arraycopy", "(Ljava/lang/Object;ILjava/lang/Object;II)V"⟩ ∈ e_big := bw (i := 893) (by decide +kernel) rfl
theorem ww_895 : Cond.native ⟨RJ10, "arraycopy", "(Ljava/lang/Object;ILjava/lang/Object;II)V"⟩ ∈ e_big := bw (i := 895) (by decide +kernel) rfl
theorem ww_894 : Cond.static ⟨RJ10, "arraycopy", "(Ljava/lang/Object;ILjava/lang/Object;II)V"⟩ ∈ e_big := bw (i := 894) (by decide +kernel) rfl
theorem ww_91 : Cond.initialized RJ10 ∈ e_big := bw (i := 91) (by decide +kernel) rfl
theorem ww_904 : Cond.methodLink RX10 276 yX7_kindOf ∈ e_big := bw (i := 904) (by decide +kernel) rfl
theorem cw_X10_276 : ∀ w ∈ wsV RX10 276 RX7 yX7_kindOf [Cond.code yX7_kindOf cX7_kindOf 3 (some (.object "LeanedOut$Person"))], w ∈ e_big := e_all5 ww_904 ww_585 ww_586 ww_83 ww_587
theorem ww_905 : Cond.methodLink RX10 280 yX10_isOfKind ∈ e_big := bw (i := 905) (by decide +kernel) rfl
theorem ww_906 : Cond.static yX10_isOfKind ∈ e_big := bw (i := 906) (by decide +kernel) rfl
theorem ww_907 : Cond.code yX10_isOfKind cX10_isOfKind 2 (some .boolean) ∈ e_big := bw (i := 907) (by decide +kernel) rfl
theorem cw_X10_280 : ∀ w ∈ va_wsS RX10 280 yX10_isOfKind [Cond.code yX10_isOfKind cX10_isOfKind 2 (some .boolean)], w ∈ e_big := e_all4 ww_905 ww_906 ww_73 ww_907
/-! LeanedOut.judge(II)I -/
abbrev M_X10_judge : e_M := (yX10_judge, cX10_judge, 4, (some .int))
theorem mk_X10_judge : e_Mok M_X10_judge 2 := ⟨by decide +kernel, by decide +kernel, by decide +kernel⟩
theorem dX10_judge_0 : decode cX10_judge 0 = .ok (.aload_n 0, 1) := by decide +kernel
theorem dX10_judge_1 : decode cX10_judge 1 = .ok (.iload_n 1, 1) := by decide +kernel
theorem dX10_judge_2 : decode cX10_judge 2 = .ok (.iload_n 2, 1) := by decide +kernel
theorem dX10_judge_3 : decode cX10_judge 3 = .ok (.invokevirtual 226, 3) := by decide +kernel
theorem dX10_judge_6 : decode cX10_judge 6 = .ok (.istore_n 3, 1) := by decide +kernel
theorem dX10_judge_7 : decode cX10_judge 7 = .ok (.iload_n 3, 1) := by decide +kernel
theorem dX10_judge_8 : decode cX10_judge 8 = .ok (.ifCond .eq 5, 3) := by decide +kernel
theorem dX10_judge_11 : decode cX10_judge 11 = .ok (.iload_n 3, 1) := by decide +kernel
theorem dX10_judge_12 : decode cX10_judge 12 = .ok (.ireturn, 1) := by decide +kernel
theorem dX10_judge_13 : decode cX10_judge 13 = .ok (.aload_n 0, 1) := by decide +kernel
theorem dX10_judge_14 : decode cX10_judge 14 = .ok (.getfield 67, 3) := by decide +kernel
theorem dX10_judge_17 : decode cX10_judge 17 = .ok (.aload_n 0, 1) := by decide +kernel
theorem dX10_judge_18 : decode cX10_judge 18 = .ok (.getfield 63, 3) := by decide +kernel
theorem dX10_judge_21 : decode cX10_judge 21 = .ok (.invokevirtual 189, 3) := by decide +kernel
theorem dX10_judge_24 : decode cX10_judge 24 = .ok (.aload_n 0, 1) := by decide +kernel
theorem dX10_judge_25 : decode cX10_judge 25 = .ok (.aload_n 0, 1) := by decide +kernel
theorem dX10_judge_26 : decode cX10_judge 26 = .ok (.getfield 17, 3) := by decide +kernel
theorem dX10_judge_29 : decode cX10_judge 29 = .ok (.iload_n 1, 1) := by decide +kernel
theorem dX10_judge_30 : decode cX10_judge 30 = .ok (.aaload, 1) := by decide +kernel
theorem dX10_judge_31 : decode cX10_judge 31 = .ok (.iload_n 2, 1) := by decide +kernel
theorem dX10_judge_32 : decode cX10_judge 32 = .ok (.invokevirtual 229, 3) := by decide +kernel
theorem dX10_judge_35 : decode cX10_judge 35 = .ok (.ireturn, 1) := by decide +kernel
def f_X10_judge (S : e_S) (l0 : Nat) (l1 : Int32) (l2 : Int32) (g : e_G) : Option (Int32 × e_G) :=
  if e_ob S 10 l0 = true then
    (f_X10_refusalOf S l0 l1 l2 g).bind fun q2 =>
    if q2.1 = 0 then
      (e_gR S q2.2 10 l0 3).bind fun v3 =>
      (e_gR S q2.2 10 l0 2).bind fun v5 =>
      (f_X7_become S v3 v5 q2.2).bind fun q8 =>
      (e_gR S q8 10 l0 1).bind fun v9 =>
      (e_aR S q8 4 v9 l1).bind fun v11 =>
      (f_X10_firstOtherwise S l0 v11 l2 q8).bind fun q14 =>
      some (q14.1, q14.2)
    else
      some (q2.1, q2.2)
  else none
theorem o_X10_judge  {S : e_S} {w : Int32} {k : e_G} {l0 : Nat} {l1 : Int32} {l2 : Int32} {g : e_G} (hf : f_X10_judge S l0 l1 l2 g = some (w, k)) : e_ob S 10 l0 = true := by
  unfold f_X10_judge at hf
  by_cases hc : e_ob S 10 l0 = true
  · exact hc
  · rw [if_neg hc] at hf
    cases hf
theorem c_X10_judge {l : Launch} {D : va_G}  {S : e_S} {w : Int32} {k : e_G} {l0 : Nat} {l1 : Int32} {l2 : Int32} {g : e_G} (hf : f_X10_judge S l0 l1 l2 g = some (w, k)) : CT l D (e_R 7) M_X10_judge [.ref l0, .int l1, .int l2] (S, g) (some (.int w)) (S, k) := by
  refine CT.of (by decide +kernel) (Nat.le_of_ble_eq_true rfl) ?_
  have ho := o_X10_judge hf
  unfold f_X10_judge at hf
  rw [if_pos ho] at hf
  show X l D (e_R 7) M_X10_judge 0 0 0 [(0, .ref l0), (1, .int l1), (2, .int l2)] [] (S, g) (some (.int w)) (S, k)
  refine X.aload_n dX10_judge_0 rfl (j := 0) rfl ?_
  refine X.iload_n dX10_judge_1 rfl (j := 1) rfl ?_
  refine X.iload_n dX10_judge_2 rfl (j := 2) rfl ?_
  obtain ⟨q2, h1, hf⟩ := ob hf
  refine Y.callV (av := [.int l1, .int l2]) (ci := 10) dX10_judge_3 (c_X10_refusalOf (l := l) (D := D) (w := q2.1) (k := q2.2) h1) cw_X10_226 (by decide) rfl mk_X10_refusalOf (o_X10_refusalOf (w := q2.1) (k := q2.2) h1) (e_R_ok (Nat.le_of_ble_eq_true rfl) (Nat.le_of_ble_eq_true rfl)) ⟨rfl, rfl⟩ (by simp [Value.category]) ?_
  refine X.istore_n dX10_judge_6 rfl (Nat.le_of_ble_eq_true rfl) (lc' := [(3, .int q2.1), (0, .ref l0), (1, .int l1), (2, .int l2)]) rfl ?_
  refine X.iload_n dX10_judge_7 rfl (j := 0) rfl ?_
  refine X.if_eq dX10_judge_8 (tgt := 13) rfl (fun hc => ?_) (fun hc => ?_)
  · rw [if_pos hc] at hf
    refine X.aload_n dX10_judge_13 rfl (j := 1) rfl ?_
    obtain ⟨v3, h4, hf⟩ := ob hf
    refine Y.getR dX10_judge_14 fl_X10_67 rfl h4 ?_
    refine X.aload_n dX10_judge_17 rfl (j := 1) rfl ?_
    obtain ⟨v5, h6, hf⟩ := ob hf
    refine Y.getR dX10_judge_18 fl_X10_63 rfl h6 ?_
    obtain ⟨q8, h7, hf⟩ := ob hf
    refine Y.callV (av := [.ref v5]) (ci := 7) dX10_judge_21 (c_X7_become (l := l) (D := D) h7) cw_X10_189 (by decide) rfl mk_X7_become (o_X7_become (k := q8) h7) (e_R_ok (Nat.le_of_ble_eq_true rfl) (Nat.le_of_ble_eq_true rfl)) ⟨rfl, rfl⟩ (by simp [Value.category]) ?_
    refine X.aload_n dX10_judge_24 rfl (j := 1) rfl ?_
    refine X.aload_n dX10_judge_25 rfl (j := 1) rfl ?_
    obtain ⟨v9, h10, hf⟩ := ob hf
    refine Y.getR dX10_judge_26 fl_X10_17 rfl h10 ?_
    refine X.iload_n dX10_judge_29 rfl (j := 2) rfl ?_
    obtain ⟨v11, h12, hf⟩ := ob hf
    refine Y.aald dX10_judge_30 (kd := 4) (by decide) h12 ?_
    refine X.iload_n dX10_judge_31 rfl (j := 3) rfl ?_
    obtain ⟨q14, h13, hf⟩ := ob hf
    refine Y.callV (av := [.ref v11, .int l2]) (ci := 10) dX10_judge_32 (c_X10_firstOtherwise (l := l) (D := D) (w := q14.1) (k := q14.2) h13) cw_X10_229 (by decide) rfl mk_X10_firstOtherwise (o_X10_firstOtherwise (w := q14.1) (k := q14.2) h13) (e_R_ok (Nat.le_of_ble_eq_true rfl) (Nat.le_of_ble_eq_true rfl)) ⟨rfl, rfl⟩ (by simp [Value.category]) ?_
    obtain ⟨e1, e2⟩ := e_ret hf
    subst e1
    subst e2
    exact X.iret dX10_judge_35 rfl rfl
  · rw [if_neg hc] at hf
    refine X.iload_n dX10_judge_11 rfl (j := 0) rfl ?_
    obtain ⟨e1, e2⟩ := e_ret hf
    subst e1
    subst e2
    exact X.iret dX10_judge_12 rfl rfl
/-! LeanedOut.kinds(III)I -/
abbrev M_X10_kinds : e_M := (yX10_kinds, cX10_kinds, 7, (some .int))
theorem mk_X10_kinds : e_Mok M_X10_kinds 3 := ⟨by decide +kernel, by decide +kernel, by decide +kernel⟩
theorem dX10_kinds_0 : decode cX10_kinds 0 = .ok (.aload_n 0, 1) := by decide +kernel
theorem dX10_kinds_1 : decode cX10_kinds 1 = .ok (.iload_n 1, 1) := by decide +kernel
theorem dX10_kinds_2 : decode cX10_kinds 2 = .ok (.iload_n 2, 1) := by decide +kernel
theorem dX10_kinds_3 : decode cX10_kinds 3 = .ok (.invokevirtual 226, 3) := by decide +kernel
theorem dX10_kinds_6 : decode cX10_kinds 6 = .ok (.istore 4, 2) := by decide +kernel
theorem dX10_kinds_8 : decode cX10_kinds 8 = .ok (.iload 4, 2) := by decide +kernel
theorem dX10_kinds_10 : decode cX10_kinds 10 = .ok (.ifCond .eq 6, 3) := by decide +kernel
theorem dX10_kinds_13 : decode cX10_kinds 13 = .ok (.iload 4, 2) := by decide +kernel
theorem dX10_kinds_15 : decode cX10_kinds 15 = .ok (.ireturn, 1) := by decide +kernel
theorem dX10_kinds_16 : decode cX10_kinds 16 = .ok (.iload_n 3, 1) := by decide +kernel
theorem dX10_kinds_17 : decode cX10_kinds 17 = .ok (.ifCond .lt 8, 3) := by decide +kernel
theorem dX10_kinds_20 : decode cX10_kinds 20 = .ok (.iload_n 3, 1) := by decide +kernel
theorem dX10_kinds_21 : decode cX10_kinds 21 = .ok (.iconst 1, 1) := by decide +kernel
theorem dX10_kinds_22 : decode cX10_kinds 22 = .ok (.if_icmp .le 6, 3) := by decide +kernel
theorem dX10_kinds_25 : decode cX10_kinds 25 = .ok (.bipush (-7), 2) := by decide +kernel
theorem dX10_kinds_27 : decode cX10_kinds 27 = .ok (.ireturn, 1) := by decide +kernel
theorem dX10_kinds_28 : decode cX10_kinds 28 = .ok (.iconst 0, 1) := by decide +kernel
theorem dX10_kinds_29 : decode cX10_kinds 29 = .ok (.istore 5, 2) := by decide +kernel
theorem dX10_kinds_31 : decode cX10_kinds 31 = .ok (.iconst 0, 1) := by decide +kernel
theorem dX10_kinds_32 : decode cX10_kinds 32 = .ok (.istore 6, 2) := by decide +kernel
theorem dX10_kinds_34 : decode cX10_kinds 34 = .ok (.iload 6, 2) := by decide +kernel
theorem dX10_kinds_36 : decode cX10_kinds 36 = .ok (.iload_n 3, 1) := by decide +kernel
theorem dX10_kinds_37 : decode cX10_kinds 37 = .ok (.ifCond .ne 8, 3) := by decide +kernel
theorem dX10_kinds_40 : decode cX10_kinds 40 = .ok (.bipush 6, 2) := by decide +kernel
theorem dX10_kinds_42 : decode cX10_kinds 42 = .ok (.goto 5, 3) := by decide +kernel
theorem dX10_kinds_45 : decode cX10_kinds 45 = .ok (.bipush 10, 2) := by decide +kernel
theorem dX10_kinds_47 : decode cX10_kinds 47 = .ok (.if_icmp .ge 73, 3) := by decide +kernel
theorem dX10_kinds_50 : decode cX10_kinds 50 = .ok (.aload_n 0, 1) := by decide +kernel
theorem dX10_kinds_51 : decode cX10_kinds 51 = .ok (.getfield 67, 3) := by decide +kernel
theorem dX10_kinds_54 : decode cX10_kinds 54 = .ok (.aload_n 0, 1) := by decide +kernel
theorem dX10_kinds_55 : decode cX10_kinds 55 = .ok (.getfield 63, 3) := by decide +kernel
theorem dX10_kinds_58 : decode cX10_kinds 58 = .ok (.invokevirtual 189, 3) := by decide +kernel
theorem dX10_kinds_61 : decode cX10_kinds 61 = .ok (.iload_n 3, 1) := by decide +kernel
theorem dX10_kinds_62 : decode cX10_kinds 62 = .ok (.ifCond .ne 17, 3) := by decide +kernel
theorem dX10_kinds_65 : decode cX10_kinds 65 = .ok (.aload_n 0, 1) := by decide +kernel
theorem dX10_kinds_66 : decode cX10_kinds 66 = .ok (.getfield 67, 3) := by decide +kernel
theorem dX10_kinds_69 : decode cX10_kinds 69 = .ok (.getfield 148, 3) := by decide +kernel
theorem dX10_kinds_72 : decode cX10_kinds 72 = .ok (.iload_n 2, 1) := by decide +kernel
theorem dX10_kinds_73 : decode cX10_kinds 73 = .ok (.iload 6, 2) := by decide +kernel
theorem dX10_kinds_75 : decode cX10_kinds 75 = .ok (.iastore, 1) := by decide +kernel
theorem dX10_kinds_76 : decode cX10_kinds 76 = .ok (.goto 14, 3) := by decide +kernel
theorem dX10_kinds_79 : decode cX10_kinds 79 = .ok (.aload_n 0, 1) := by decide +kernel
theorem dX10_kinds_80 : decode cX10_kinds 80 = .ok (.getfield 67, 3) := by decide +kernel
theorem dX10_kinds_83 : decode cX10_kinds 83 = .ok (.getfield 151, 3) := by decide +kernel
theorem dX10_kinds_86 : decode cX10_kinds 86 = .ok (.iload_n 2, 1) := by decide +kernel
theorem dX10_kinds_87 : decode cX10_kinds 87 = .ok (.iload 6, 2) := by decide +kernel
theorem dX10_kinds_89 : decode cX10_kinds 89 = .ok (.iastore, 1) := by decide +kernel
theorem dX10_kinds_90 : decode cX10_kinds 90 = .ok (.aload_n 0, 1) := by decide +kernel
theorem dX10_kinds_91 : decode cX10_kinds 91 = .ok (.aload_n 0, 1) := by decide +kernel
theorem dX10_kinds_92 : decode cX10_kinds 92 = .ok (.getfield 17, 3) := by decide +kernel
theorem dX10_kinds_95 : decode cX10_kinds 95 = .ok (.iload_n 1, 1) := by decide +kernel
theorem dX10_kinds_96 : decode cX10_kinds 96 = .ok (.aaload, 1) := by decide +kernel
theorem dX10_kinds_97 : decode cX10_kinds 97 = .ok (.iload_n 2, 1) := by decide +kernel
theorem dX10_kinds_98 : decode cX10_kinds 98 = .ok (.invokevirtual 229, 3) := by decide +kernel
theorem dX10_kinds_101 : decode cX10_kinds 101 = .ok (.iconst (-1), 1) := by decide +kernel
theorem dX10_kinds_102 : decode cX10_kinds 102 = .ok (.if_icmp .ne 12, 3) := by decide +kernel
theorem dX10_kinds_105 : decode cX10_kinds 105 = .ok (.iload 5, 2) := by decide +kernel
theorem dX10_kinds_107 : decode cX10_kinds 107 = .ok (.iconst 1, 1) := by decide +kernel
theorem dX10_kinds_108 : decode cX10_kinds 108 = .ok (.iload 6, 2) := by decide +kernel
theorem dX10_kinds_110 : decode cX10_kinds 110 = .ok (.ishl, 1) := by decide +kernel
theorem dX10_kinds_111 : decode cX10_kinds 111 = .ok (.ior, 1) := by decide +kernel
theorem dX10_kinds_112 : decode cX10_kinds 112 = .ok (.istore 5, 2) := by decide +kernel
theorem dX10_kinds_114 : decode cX10_kinds 114 = .ok (.iinc 6 1, 3) := by decide +kernel
theorem dX10_kinds_117 : decode cX10_kinds 117 = .ok (.goto (-83), 3) := by decide +kernel
theorem dX10_kinds_120 : decode cX10_kinds 120 = .ok (.iload 5, 2) := by decide +kernel
theorem dX10_kinds_122 : decode cX10_kinds 122 = .ok (.ireturn, 1) := by decide +kernel
def J_X10_kinds_114 (c34 : Nat → Int32 → Int32 → Int32 → Int32 → Int32 → e_G → Option (Int32 × e_G)) (S : e_S) (l0 : Nat) (l1 : Int32) (l2 : Int32) (l3 : Int32) (l5 : Int32) (l6 : Int32) (g : e_G) : Option (Int32 × e_G) :=
  c34 l0 l1 l2 l3 l5 (l6 + (1 : Int32)) g
def J_X10_kinds_90 (c34 : Nat → Int32 → Int32 → Int32 → Int32 → Int32 → e_G → Option (Int32 × e_G)) (S : e_S) (l0 : Nat) (l1 : Int32) (l2 : Int32) (l3 : Int32) (l5 : Int32) (l6 : Int32) (g : e_G) : Option (Int32 × e_G) :=
  (e_gR S g 10 l0 1).bind fun v1 =>
  (e_aR S g 4 v1 l1).bind fun v3 =>
  (f_X10_firstOtherwise S l0 v3 l2 g).bind fun q6 =>
  if q6.1 = (-1 : Int32) then
    J_X10_kinds_114 c34 S l0 l1 l2 l3 (l5 ||| ((1 : Int32) <<< (l6 &&& 31))) l6 q6.2
  else
    J_X10_kinds_114 c34 S l0 l1 l2 l3 l5 l6 q6.2
def J_X10_kinds_47 (c34 : Nat → Int32 → Int32 → Int32 → Int32 → Int32 → e_G → Option (Int32 × e_G)) (S : e_S) (l0 : Nat) (l1 : Int32) (l2 : Int32) (l3 : Int32) (l5 : Int32) (l6 : Int32) (t0 : Int32) (t1 : Int32) (g : e_G) : Option (Int32 × e_G) :=
  if t1 ≤ t0 then
    some (l5, g)
  else
    (e_gR S g 10 l0 3).bind fun v1 =>
    (e_gR S g 10 l0 2).bind fun v3 =>
    (f_X7_become S v1 v3 g).bind fun q6 =>
    if l3 = 0 then
      (e_gR S q6 10 l0 3).bind fun v13 =>
      (e_gR S q6 7 v13 3).bind fun v15 =>
      (e_aS S q6 0 v15 l2 l6).bind fun g17 =>
      J_X10_kinds_90 c34 S l0 l1 l2 l3 l5 l6 g17
    else
      (e_gR S q6 10 l0 3).bind fun v7 =>
      (e_gR S q6 7 v7 4).bind fun v9 =>
      (e_aS S q6 0 v9 l2 l6).bind fun g11 =>
      J_X10_kinds_90 c34 S l0 l1 l2 l3 l5 l6 g11
def L_X10_kinds_34 : Nat → e_S → Nat → Int32 → Int32 → Int32 → Int32 → Int32 → e_G → Option (Int32 × e_G)
  | 0, _, _, _, _, _, _, _, _ => none
  | n + 1, S, l0, l1, l2, l3, l5, l6, g =>
  if l3 = 0 then
    J_X10_kinds_47 (L_X10_kinds_34 n S) S l0 l1 l2 l3 l5 l6 l6 (6 : Int32) g
  else
    J_X10_kinds_47 (L_X10_kinds_34 n S) S l0 l1 l2 l3 l5 l6 l6 (10 : Int32) g
def f_X10_kinds (S : e_S) (l0 : Nat) (l1 : Int32) (l2 : Int32) (l3 : Int32) (g : e_G) : Option (Int32 × e_G) :=
  if e_ob S 10 l0 = true then
    (f_X10_refusalOf S l0 l1 l2 g).bind fun q2 =>
    if q2.1 = 0 then
      if l3 < 0 then
        some ((-7 : Int32), q2.2)
      else
        if l3 ≤ (1 : Int32) then
          L_X10_kinds_34 50000 S l0 l1 l2 l3 (0 : Int32) (0 : Int32) q2.2
        else
          some ((-7 : Int32), q2.2)
    else
      some (q2.1, q2.2)
  else none
theorem x_J_X10_kinds_114 {l : Launch} {D : va_G} {S : e_S} {w : Int32} {k : e_G} (c34 : Nat → Int32 → Int32 → Int32 → Int32 → Int32 → e_G → Option (Int32 × e_G)) (hc34 : ∀ (l0 : Nat) (l1 : Int32) (l2 : Int32) (l3 : Int32) (l5 : Int32) (l6 : Int32) (g : e_G), c34 l0 l1 l2 l3 l5 l6 g = some (w, k) → X l D (e_R 7) M_X10_kinds 0 0 34 [(0, .ref l0), (1, .int l1), (2, .int l2), (3, .int l3), (5, .int l5), (6, .int l6)] [] (S, g) (some (.int w)) (S, k)) {l0 : Nat} {l1 : Int32} {l2 : Int32} {l3 : Int32} {l5 : Int32} {l6 : Int32} {g : e_G} (hf : J_X10_kinds_114 c34 S l0 l1 l2 l3 l5 l6 g = some (w, k)) : X l D (e_R 7) M_X10_kinds 0 0 114 [(0, .ref l0), (1, .int l1), (2, .int l2), (3, .int l3), (5, .int l5), (6, .int l6)] [] (S, g) (some (.int w)) (S, k) := by
  unfold J_X10_kinds_114 at hf
  refine X.iinc (j := 5) dX10_kinds_114 rfl (v := l6 + (1 : Int32)) (by rw [kI_1]) (Nat.le_of_ble_eq_true rfl) (lc' := [(6, .int (l6 + (1 : Int32))), (0, .ref l0), (1, .int l1), (2, .int l2), (3, .int l3), (5, .int l5)]) rfl ?_
  refine X.goto dX10_kinds_117 (tgt := 34) rfl ?_
  refine X.sub [1, 2, 3, 4, 5, 0] rfl ?_
  exact hc34 _ _ _ _ _ _ _ hf
theorem x_J_X10_kinds_90 {l : Launch} {D : va_G} {S : e_S} {w : Int32} {k : e_G} (c34 : Nat → Int32 → Int32 → Int32 → Int32 → Int32 → e_G → Option (Int32 × e_G)) (hc34 : ∀ (l0 : Nat) (l1 : Int32) (l2 : Int32) (l3 : Int32) (l5 : Int32) (l6 : Int32) (g : e_G), c34 l0 l1 l2 l3 l5 l6 g = some (w, k) → X l D (e_R 7) M_X10_kinds 0 0 34 [(0, .ref l0), (1, .int l1), (2, .int l2), (3, .int l3), (5, .int l5), (6, .int l6)] [] (S, g) (some (.int w)) (S, k)) {l0 : Nat} {l1 : Int32} {l2 : Int32} {l3 : Int32} {l5 : Int32} {l6 : Int32} {g : e_G} (hf : J_X10_kinds_90 c34 S l0 l1 l2 l3 l5 l6 g = some (w, k)) : X l D (e_R 7) M_X10_kinds 0 0 90 [(0, .ref l0), (1, .int l1), (2, .int l2), (3, .int l3), (5, .int l5), (6, .int l6)] [] (S, g) (some (.int w)) (S, k) := by
  unfold J_X10_kinds_90 at hf
  refine X.aload_n dX10_kinds_90 rfl (j := 0) rfl ?_
  refine X.aload_n dX10_kinds_91 rfl (j := 0) rfl ?_
  obtain ⟨v1, h2, hf⟩ := ob hf
  refine Y.getR dX10_kinds_92 fl_X10_17 rfl h2 ?_
  refine X.iload_n dX10_kinds_95 rfl (j := 1) rfl ?_
  obtain ⟨v3, h4, hf⟩ := ob hf
  refine Y.aald dX10_kinds_96 (kd := 4) (by decide) h4 ?_
  refine X.iload_n dX10_kinds_97 rfl (j := 2) rfl ?_
  obtain ⟨q6, h5, hf⟩ := ob hf
  refine Y.callV (av := [.ref v3, .int l2]) (ci := 10) dX10_kinds_98 (c_X10_firstOtherwise (l := l) (D := D) (w := q6.1) (k := q6.2) h5) cw_X10_229 (by decide) rfl mk_X10_firstOtherwise (o_X10_firstOtherwise (w := q6.1) (k := q6.2) h5) (e_R_ok (Nat.le_of_ble_eq_true rfl) (Nat.le_of_ble_eq_true rfl)) ⟨rfl, rfl⟩ (by simp [Value.category]) ?_
  refine X.iconst dX10_kinds_101 kI_m1 ?_
  refine X.icmp_ne dX10_kinds_102 (tgt := 114) rfl (fun hc => ?_) (fun hc => ?_)
  · rw [if_neg hc] at hf
    exact x_J_X10_kinds_114 _ hc34 hf
  · rw [if_pos hc] at hf
    refine X.iload dX10_kinds_105 (j := 4) rfl ?_
    refine X.iconst dX10_kinds_107 kI_1 ?_
    refine X.iload dX10_kinds_108 (j := 5) rfl ?_
    refine X.ishl dX10_kinds_110 ?_
    refine X.ior dX10_kinds_111 ?_
    refine X.istore dX10_kinds_112 (Nat.le_of_ble_eq_true rfl) (lc' := [(5, .int (l5 ||| ((1 : Int32) <<< (l6 &&& 31)))), (0, .ref l0), (1, .int l1), (2, .int l2), (3, .int l3), (6, .int l6)]) rfl ?_
    refine X.sub [1, 2, 3, 4, 0, 5] rfl ?_
    exact x_J_X10_kinds_114 _ hc34 hf
theorem x_J_X10_kinds_47 {l : Launch} {D : va_G} {S : e_S} {w : Int32} {k : e_G} (c34 : Nat → Int32 → Int32 → Int32 → Int32 → Int32 → e_G → Option (Int32 × e_G)) (hc34 : ∀ (l0 : Nat) (l1 : Int32) (l2 : Int32) (l3 : Int32) (l5 : Int32) (l6 : Int32) (g : e_G), c34 l0 l1 l2 l3 l5 l6 g = some (w, k) → X l D (e_R 7) M_X10_kinds 0 0 34 [(0, .ref l0), (1, .int l1), (2, .int l2), (3, .int l3), (5, .int l5), (6, .int l6)] [] (S, g) (some (.int w)) (S, k)) {l0 : Nat} {l1 : Int32} {l2 : Int32} {l3 : Int32} {l5 : Int32} {l6 : Int32} {t0 : Int32} {t1 : Int32} {g : e_G} (hf : J_X10_kinds_47 c34 S l0 l1 l2 l3 l5 l6 t0 t1 g = some (w, k)) : X l D (e_R 7) M_X10_kinds 0 0 47 [(0, .ref l0), (1, .int l1), (2, .int l2), (3, .int l3), (5, .int l5), (6, .int l6)] [.int t1, .int t0] (S, g) (some (.int w)) (S, k) := by
  unfold J_X10_kinds_47 at hf
  refine X.icmp_ge dX10_kinds_47 (tgt := 120) rfl (fun hc => ?_) (fun hc => ?_)
  · rw [if_pos hc] at hf
    refine X.iload dX10_kinds_120 (j := 4) rfl ?_
    obtain ⟨e1, e2⟩ := e_ret hf
    subst e1
    subst e2
    exact X.iret dX10_kinds_122 rfl rfl
  · rw [if_neg hc] at hf
    refine X.aload_n dX10_kinds_50 rfl (j := 0) rfl ?_
    obtain ⟨v1, h2, hf⟩ := ob hf
    refine Y.getR dX10_kinds_51 fl_X10_67 rfl h2 ?_
    refine X.aload_n dX10_kinds_54 rfl (j := 0) rfl ?_
    obtain ⟨v3, h4, hf⟩ := ob hf
    refine Y.getR dX10_kinds_55 fl_X10_63 rfl h4 ?_
    obtain ⟨q6, h5, hf⟩ := ob hf
    refine Y.callV (av := [.ref v3]) (ci := 7) dX10_kinds_58 (c_X7_become (l := l) (D := D) h5) cw_X10_189 (by decide) rfl mk_X7_become (o_X7_become (k := q6) h5) (e_R_ok (Nat.le_of_ble_eq_true rfl) (Nat.le_of_ble_eq_true rfl)) ⟨rfl, rfl⟩ (by simp [Value.category]) ?_
    refine X.iload_n dX10_kinds_61 rfl (j := 3) rfl ?_
    refine X.if_ne dX10_kinds_62 (tgt := 79) rfl (fun hc => ?_) (fun hc => ?_)
    · rw [if_neg hc] at hf
      refine X.aload_n dX10_kinds_79 rfl (j := 0) rfl ?_
      obtain ⟨v7, h8, hf⟩ := ob hf
      refine Y.getR dX10_kinds_80 fl_X10_67 rfl h8 ?_
      obtain ⟨v9, h10, hf⟩ := ob hf
      refine Y.getR dX10_kinds_83 fl_X10_151 rfl h10 ?_
      refine X.iload_n dX10_kinds_86 rfl (j := 2) rfl ?_
      refine X.iload dX10_kinds_87 (j := 5) rfl ?_
      obtain ⟨g11, h12, hf⟩ := ob hf
      refine Y.iast dX10_kinds_89 h12 ?_
      exact x_J_X10_kinds_90 _ hc34 hf
    · rw [if_pos hc] at hf
      refine X.aload_n dX10_kinds_65 rfl (j := 0) rfl ?_
      obtain ⟨v13, h14, hf⟩ := ob hf
      refine Y.getR dX10_kinds_66 fl_X10_67 rfl h14 ?_
      obtain ⟨v15, h16, hf⟩ := ob hf
      refine Y.getR dX10_kinds_69 fl_X10_148 rfl h16 ?_
      refine X.iload_n dX10_kinds_72 rfl (j := 2) rfl ?_
      refine X.iload dX10_kinds_73 (j := 5) rfl ?_
      obtain ⟨g17, h18, hf⟩ := ob hf
      refine Y.iast dX10_kinds_75 h18 ?_
      refine X.goto dX10_kinds_76 (tgt := 90) rfl ?_
      exact x_J_X10_kinds_90 _ hc34 hf
theorem x_L_X10_kinds_34 {l : Launch} {D : va_G} {S : e_S} {w : Int32} {k : e_G} : ∀ (n : Nat) (l0 : Nat) (l1 : Int32) (l2 : Int32) (l3 : Int32) (l5 : Int32) (l6 : Int32) (g : e_G), L_X10_kinds_34 n S l0 l1 l2 l3 l5 l6 g = some (w, k) → X l D (e_R 7) M_X10_kinds 0 0 34 [(0, .ref l0), (1, .int l1), (2, .int l2), (3, .int l3), (5, .int l5), (6, .int l6)] [] (S, g) (some (.int w)) (S, k) := by
  intro n
  induction n with
  | zero =>
    intro l0 l1 l2 l3 l5 l6 g hf
    cases hf
  | succ n ih =>
    intro l0 l1 l2 l3 l5 l6 g hf
    rw [L_X10_kinds_34] at hf
    refine X.iload dX10_kinds_34 (j := 5) rfl ?_
    refine X.iload_n dX10_kinds_36 rfl (j := 3) rfl ?_
    refine X.if_ne dX10_kinds_37 (tgt := 45) rfl (fun hc => ?_) (fun hc => ?_)
    · rw [if_neg hc] at hf
      refine X.bipush dX10_kinds_45 kB_10 ?_
      exact x_J_X10_kinds_47 _ ih hf
    · rw [if_pos hc] at hf
      refine X.bipush dX10_kinds_40 kB_6 ?_
      refine X.goto dX10_kinds_42 (tgt := 47) rfl ?_
      exact x_J_X10_kinds_47 _ ih hf
theorem o_X10_kinds  {S : e_S} {w : Int32} {k : e_G} {l0 : Nat} {l1 : Int32} {l2 : Int32} {l3 : Int32} {g : e_G} (hf : f_X10_kinds S l0 l1 l2 l3 g = some (w, k)) : e_ob S 10 l0 = true := by
  unfold f_X10_kinds at hf
  by_cases hc : e_ob S 10 l0 = true
  · exact hc
  · rw [if_neg hc] at hf
    cases hf
theorem c_X10_kinds {l : Launch} {D : va_G}  {S : e_S} {w : Int32} {k : e_G} {l0 : Nat} {l1 : Int32} {l2 : Int32} {l3 : Int32} {g : e_G} (hf : f_X10_kinds S l0 l1 l2 l3 g = some (w, k)) : CT l D (e_R 7) M_X10_kinds [.ref l0, .int l1, .int l2, .int l3] (S, g) (some (.int w)) (S, k) := by
  refine CT.of (by decide +kernel) (Nat.le_of_ble_eq_true rfl) ?_
  have ho := o_X10_kinds hf
  unfold f_X10_kinds at hf
  rw [if_pos ho] at hf
  show X l D (e_R 7) M_X10_kinds 0 0 0 [(0, .ref l0), (1, .int l1), (2, .int l2), (3, .int l3)] [] (S, g) (some (.int w)) (S, k)
  refine X.aload_n dX10_kinds_0 rfl (j := 0) rfl ?_
  refine X.iload_n dX10_kinds_1 rfl (j := 1) rfl ?_
  refine X.iload_n dX10_kinds_2 rfl (j := 2) rfl ?_
  obtain ⟨q2, h1, hf⟩ := ob hf
  refine Y.callV (av := [.int l1, .int l2]) (ci := 10) dX10_kinds_3 (c_X10_refusalOf (l := l) (D := D) (w := q2.1) (k := q2.2) h1) cw_X10_226 (by decide) rfl mk_X10_refusalOf (o_X10_refusalOf (w := q2.1) (k := q2.2) h1) (e_R_ok (Nat.le_of_ble_eq_true rfl) (Nat.le_of_ble_eq_true rfl)) ⟨rfl, rfl⟩ (by simp [Value.category]) ?_
  refine X.istore dX10_kinds_6 (Nat.le_of_ble_eq_true rfl) (lc' := [(4, .int q2.1), (0, .ref l0), (1, .int l1), (2, .int l2), (3, .int l3)]) rfl ?_
  refine X.iload dX10_kinds_8 (j := 0) rfl ?_
  refine X.if_eq dX10_kinds_10 (tgt := 16) rfl (fun hc => ?_) (fun hc => ?_)
  · rw [if_pos hc] at hf
    refine X.iload_n dX10_kinds_16 rfl (j := 4) rfl ?_
    refine X.if_lt dX10_kinds_17 (tgt := 25) rfl (fun hc => ?_) (fun hc => ?_)
    · rw [if_pos hc] at hf
      refine X.bipush dX10_kinds_25 kB_m7 ?_
      obtain ⟨e1, e2⟩ := e_ret hf
      subst e1
      subst e2
      exact X.iret dX10_kinds_27 rfl rfl
    · rw [if_neg hc] at hf
      refine X.iload_n dX10_kinds_20 rfl (j := 4) rfl ?_
      refine X.iconst dX10_kinds_21 kI_1 ?_
      refine X.icmp_le dX10_kinds_22 (tgt := 28) rfl (fun hc => ?_) (fun hc => ?_)
      · rw [if_pos hc] at hf
        refine X.iconst dX10_kinds_28 kI_0 ?_
        refine X.istore dX10_kinds_29 (Nat.le_of_ble_eq_true rfl) (lc' := [(5, .int (0 : Int32)), (4, .int q2.1), (0, .ref l0), (1, .int l1), (2, .int l2), (3, .int l3)]) rfl ?_
        refine X.iconst dX10_kinds_31 kI_0 ?_
        refine X.istore dX10_kinds_32 (Nat.le_of_ble_eq_true rfl) (lc' := [(6, .int (0 : Int32)), (5, .int (0 : Int32)), (4, .int q2.1), (0, .ref l0), (1, .int l1), (2, .int l2), (3, .int l3)]) rfl ?_
        refine X.sub [3, 4, 5, 6, 1, 0] rfl ?_
        exact x_L_X10_kinds_34 50000 _ _ _ _ _ _ _ hf
      · rw [if_neg hc] at hf
        refine X.bipush dX10_kinds_25 kB_m7 ?_
        obtain ⟨e1, e2⟩ := e_ret hf
        subst e1
        subst e2
        exact X.iret dX10_kinds_27 rfl rfl
  · rw [if_neg hc] at hf
    refine X.iload dX10_kinds_13 (j := 0) rfl ?_
    obtain ⟨e1, e2⟩ := e_ret hf
    subst e1
    subst e2
    exact X.iret dX10_kinds_15 rfl rfl
/-! LeanedOut.windows(III)I -/
abbrev M_X10_windows : e_M := (yX10_windows, cX10_windows, 7, (some .int))
theorem mk_X10_windows : e_Mok M_X10_windows 3 := ⟨by decide +kernel, by decide +kernel, by decide +kernel⟩
theorem dX10_windows_0 : decode cX10_windows 0 = .ok (.aload_n 0, 1) := by decide +kernel
theorem dX10_windows_1 : decode cX10_windows 1 = .ok (.iload_n 1, 1) := by decide +kernel
theorem dX10_windows_2 : decode cX10_windows 2 = .ok (.iload_n 2, 1) := by decide +kernel
theorem dX10_windows_3 : decode cX10_windows 3 = .ok (.invokevirtual 226, 3) := by decide +kernel
theorem dX10_windows_6 : decode cX10_windows 6 = .ok (.istore 4, 2) := by decide +kernel
theorem dX10_windows_8 : decode cX10_windows 8 = .ok (.iload 4, 2) := by decide +kernel
theorem dX10_windows_10 : decode cX10_windows 10 = .ok (.ifCond .eq 6, 3) := by decide +kernel
theorem dX10_windows_13 : decode cX10_windows 13 = .ok (.iload 4, 2) := by decide +kernel
theorem dX10_windows_15 : decode cX10_windows 15 = .ok (.ireturn, 1) := by decide +kernel
theorem dX10_windows_16 : decode cX10_windows 16 = .ok (.iload_n 3, 1) := by decide +kernel
theorem dX10_windows_17 : decode cX10_windows 17 = .ok (.ifCond .lt 8, 3) := by decide +kernel
theorem dX10_windows_20 : decode cX10_windows 20 = .ok (.iload_n 3, 1) := by decide +kernel
theorem dX10_windows_21 : decode cX10_windows 21 = .ok (.iconst 1, 1) := by decide +kernel
theorem dX10_windows_22 : decode cX10_windows 22 = .ok (.if_icmp .le 6, 3) := by decide +kernel
theorem dX10_windows_25 : decode cX10_windows 25 = .ok (.bipush (-7), 2) := by decide +kernel
theorem dX10_windows_27 : decode cX10_windows 27 = .ok (.ireturn, 1) := by decide +kernel
theorem dX10_windows_28 : decode cX10_windows 28 = .ok (.iconst 0, 1) := by decide +kernel
theorem dX10_windows_29 : decode cX10_windows 29 = .ok (.istore 5, 2) := by decide +kernel
theorem dX10_windows_31 : decode cX10_windows 31 = .ok (.iconst 0, 1) := by decide +kernel
theorem dX10_windows_32 : decode cX10_windows 32 = .ok (.istore 6, 2) := by decide +kernel
theorem dX10_windows_34 : decode cX10_windows 34 = .ok (.iload 6, 2) := by decide +kernel
theorem dX10_windows_36 : decode cX10_windows 36 = .ok (.bipush 20, 2) := by decide +kernel
theorem dX10_windows_38 : decode cX10_windows 38 = .ok (.if_icmp .ge 109, 3) := by decide +kernel
theorem dX10_windows_41 : decode cX10_windows 41 = .ok (.iload_n 3, 1) := by decide +kernel
theorem dX10_windows_42 : decode cX10_windows 42 = .ok (.ifCond .ne 19, 3) := by decide +kernel
theorem dX10_windows_45 : decode cX10_windows 45 = .ok (.aload_n 0, 1) := by decide +kernel
theorem dX10_windows_46 : decode cX10_windows 46 = .ok (.getfield 63, 3) := by decide +kernel
theorem dX10_windows_49 : decode cX10_windows 49 = .ok (.iload_n 2, 1) := by decide +kernel
theorem dX10_windows_50 : decode cX10_windows 50 = .ok (.iload 6, 2) := by decide +kernel
theorem dX10_windows_52 : decode cX10_windows 52 = .ok (.invokevirtual 132, 3) := by decide +kernel
theorem dX10_windows_55 : decode cX10_windows 55 = .ok (.ifCond .eq 86, 3) := by decide +kernel
theorem dX10_windows_58 : decode cX10_windows 58 = .ok (.goto 19, 3) := by decide +kernel
theorem dX10_windows_61 : decode cX10_windows 61 = .ok (.aload_n 0, 1) := by decide +kernel
theorem dX10_windows_62 : decode cX10_windows 62 = .ok (.getfield 63, 3) := by decide +kernel
theorem dX10_windows_65 : decode cX10_windows 65 = .ok (.iload_n 2, 1) := by decide +kernel
theorem dX10_windows_66 : decode cX10_windows 66 = .ok (.iload 6, 2) := by decide +kernel
theorem dX10_windows_68 : decode cX10_windows 68 = .ok (.invokevirtual 202, 3) := by decide +kernel
theorem dX10_windows_71 : decode cX10_windows 71 = .ok (.ifCond .ne 6, 3) := by decide +kernel
theorem dX10_windows_74 : decode cX10_windows 74 = .ok (.goto 67, 3) := by decide +kernel
theorem dX10_windows_77 : decode cX10_windows 77 = .ok (.aload_n 0, 1) := by decide +kernel
theorem dX10_windows_78 : decode cX10_windows 78 = .ok (.getfield 67, 3) := by decide +kernel
theorem dX10_windows_81 : decode cX10_windows 81 = .ok (.aload_n 0, 1) := by decide +kernel
theorem dX10_windows_82 : decode cX10_windows 82 = .ok (.getfield 63, 3) := by decide +kernel
theorem dX10_windows_85 : decode cX10_windows 85 = .ok (.invokevirtual 189, 3) := by decide +kernel
theorem dX10_windows_88 : decode cX10_windows 88 = .ok (.iload_n 3, 1) := by decide +kernel
theorem dX10_windows_89 : decode cX10_windows 89 = .ok (.ifCond .ne 17, 3) := by decide +kernel
theorem dX10_windows_92 : decode cX10_windows 92 = .ok (.aload_n 0, 1) := by decide +kernel
theorem dX10_windows_93 : decode cX10_windows 93 = .ok (.getfield 67, 3) := by decide +kernel
theorem dX10_windows_96 : decode cX10_windows 96 = .ok (.getfield 136, 3) := by decide +kernel
theorem dX10_windows_99 : decode cX10_windows 99 = .ok (.iload_n 2, 1) := by decide +kernel
theorem dX10_windows_100 : decode cX10_windows 100 = .ok (.iload 6, 2) := by decide +kernel
theorem dX10_windows_102 : decode cX10_windows 102 = .ok (.iastore, 1) := by decide +kernel
theorem dX10_windows_103 : decode cX10_windows 103 = .ok (.goto 14, 3) := by decide +kernel
theorem dX10_windows_106 : decode cX10_windows 106 = .ok (.aload_n 0, 1) := by decide +kernel
theorem dX10_windows_107 : decode cX10_windows 107 = .ok (.getfield 67, 3) := by decide +kernel
theorem dX10_windows_110 : decode cX10_windows 110 = .ok (.getfield 145, 3) := by decide +kernel
theorem dX10_windows_113 : decode cX10_windows 113 = .ok (.iload_n 2, 1) := by decide +kernel
theorem dX10_windows_114 : decode cX10_windows 114 = .ok (.iload 6, 2) := by decide +kernel
theorem dX10_windows_116 : decode cX10_windows 116 = .ok (.iastore, 1) := by decide +kernel
theorem dX10_windows_117 : decode cX10_windows 117 = .ok (.aload_n 0, 1) := by decide +kernel
theorem dX10_windows_118 : decode cX10_windows 118 = .ok (.aload_n 0, 1) := by decide +kernel
theorem dX10_windows_119 : decode cX10_windows 119 = .ok (.getfield 17, 3) := by decide +kernel
theorem dX10_windows_122 : decode cX10_windows 122 = .ok (.iload_n 1, 1) := by decide +kernel
theorem dX10_windows_123 : decode cX10_windows 123 = .ok (.aaload, 1) := by decide +kernel
theorem dX10_windows_124 : decode cX10_windows 124 = .ok (.iload_n 2, 1) := by decide +kernel
theorem dX10_windows_125 : decode cX10_windows 125 = .ok (.invokevirtual 229, 3) := by decide +kernel
theorem dX10_windows_128 : decode cX10_windows 128 = .ok (.iconst (-1), 1) := by decide +kernel
theorem dX10_windows_129 : decode cX10_windows 129 = .ok (.if_icmp .ne 12, 3) := by decide +kernel
theorem dX10_windows_132 : decode cX10_windows 132 = .ok (.iload 5, 2) := by decide +kernel
theorem dX10_windows_134 : decode cX10_windows 134 = .ok (.iconst 1, 1) := by decide +kernel
theorem dX10_windows_135 : decode cX10_windows 135 = .ok (.iload 6, 2) := by decide +kernel
theorem dX10_windows_137 : decode cX10_windows 137 = .ok (.ishl, 1) := by decide +kernel
theorem dX10_windows_138 : decode cX10_windows 138 = .ok (.ior, 1) := by decide +kernel
theorem dX10_windows_139 : decode cX10_windows 139 = .ok (.istore 5, 2) := by decide +kernel
theorem dX10_windows_141 : decode cX10_windows 141 = .ok (.iinc 6 1, 3) := by decide +kernel
theorem dX10_windows_144 : decode cX10_windows 144 = .ok (.goto (-110), 3) := by decide +kernel
theorem dX10_windows_147 : decode cX10_windows 147 = .ok (.iload 5, 2) := by decide +kernel
theorem dX10_windows_149 : decode cX10_windows 149 = .ok (.ireturn, 1) := by decide +kernel
def J_X10_windows_141 (c34 : Nat → Int32 → Int32 → Int32 → Int32 → Int32 → e_G → Option (Int32 × e_G)) (S : e_S) (l0 : Nat) (l1 : Int32) (l2 : Int32) (l3 : Int32) (l5 : Int32) (l6 : Int32) (g : e_G) : Option (Int32 × e_G) :=
  c34 l0 l1 l2 l3 l5 (l6 + (1 : Int32)) g
def J_X10_windows_117 (c34 : Nat → Int32 → Int32 → Int32 → Int32 → Int32 → e_G → Option (Int32 × e_G)) (S : e_S) (l0 : Nat) (l1 : Int32) (l2 : Int32) (l3 : Int32) (l5 : Int32) (l6 : Int32) (g : e_G) : Option (Int32 × e_G) :=
  (e_gR S g 10 l0 1).bind fun v1 =>
  (e_aR S g 4 v1 l1).bind fun v3 =>
  (f_X10_firstOtherwise S l0 v3 l2 g).bind fun q6 =>
  if q6.1 = (-1 : Int32) then
    J_X10_windows_141 c34 S l0 l1 l2 l3 (l5 ||| ((1 : Int32) <<< (l6 &&& 31))) l6 q6.2
  else
    J_X10_windows_141 c34 S l0 l1 l2 l3 l5 l6 q6.2
def J_X10_windows_77 (c34 : Nat → Int32 → Int32 → Int32 → Int32 → Int32 → e_G → Option (Int32 × e_G)) (S : e_S) (l0 : Nat) (l1 : Int32) (l2 : Int32) (l3 : Int32) (l5 : Int32) (l6 : Int32) (g : e_G) : Option (Int32 × e_G) :=
  (e_gR S g 10 l0 3).bind fun v1 =>
  (e_gR S g 10 l0 2).bind fun v3 =>
  (f_X7_become S v1 v3 g).bind fun q6 =>
  if l3 = 0 then
    (e_gR S q6 10 l0 3).bind fun v13 =>
    (e_gR S q6 7 v13 0).bind fun v15 =>
    (e_aS S q6 0 v15 l2 l6).bind fun g17 =>
    J_X10_windows_117 c34 S l0 l1 l2 l3 l5 l6 g17
  else
    (e_gR S q6 10 l0 3).bind fun v7 =>
    (e_gR S q6 7 v7 1).bind fun v9 =>
    (e_aS S q6 0 v9 l2 l6).bind fun g11 =>
    J_X10_windows_117 c34 S l0 l1 l2 l3 l5 l6 g11
def L_X10_windows_34 : Nat → e_S → Nat → Int32 → Int32 → Int32 → Int32 → Int32 → e_G → Option (Int32 × e_G)
  | 0, _, _, _, _, _, _, _, _ => none
  | n + 1, S, l0, l1, l2, l3, l5, l6, g =>
  if (20 : Int32) ≤ l6 then
    some (l5, g)
  else
    if l3 = 0 then
      (e_gR S g 10 l0 2).bind fun v5 =>
      (f_X7_mayBeAt S v5 l2 l6 g).bind fun q8 =>
      if q8.1 = 0 then
        J_X10_windows_141 (L_X10_windows_34 n S) S l0 l1 l2 l3 l5 l6 q8.2
      else
        J_X10_windows_77 (L_X10_windows_34 n S) S l0 l1 l2 l3 l5 l6 q8.2
    else
      (e_gR S g 10 l0 2).bind fun v1 =>
      (f_X7_mayLookAt S v1 l2 l6 g).bind fun q4 =>
      if q4.1 = 0 then
        J_X10_windows_141 (L_X10_windows_34 n S) S l0 l1 l2 l3 l5 l6 q4.2
      else
        J_X10_windows_77 (L_X10_windows_34 n S) S l0 l1 l2 l3 l5 l6 q4.2
def f_X10_windows (S : e_S) (l0 : Nat) (l1 : Int32) (l2 : Int32) (l3 : Int32) (g : e_G) : Option (Int32 × e_G) :=
  if e_ob S 10 l0 = true then
    (f_X10_refusalOf S l0 l1 l2 g).bind fun q2 =>
    if q2.1 = 0 then
      if l3 < 0 then
        some ((-7 : Int32), q2.2)
      else
        if l3 ≤ (1 : Int32) then
          L_X10_windows_34 50000 S l0 l1 l2 l3 (0 : Int32) (0 : Int32) q2.2
        else
          some ((-7 : Int32), q2.2)
    else
      some (q2.1, q2.2)
  else none
theorem x_J_X10_windows_141 {l : Launch} {D : va_G} {S : e_S} {w : Int32} {k : e_G} (c34 : Nat → Int32 → Int32 → Int32 → Int32 → Int32 → e_G → Option (Int32 × e_G)) (hc34 : ∀ (l0 : Nat) (l1 : Int32) (l2 : Int32) (l3 : Int32) (l5 : Int32) (l6 : Int32) (g : e_G), c34 l0 l1 l2 l3 l5 l6 g = some (w, k) → X l D (e_R 7) M_X10_windows 0 0 34 [(0, .ref l0), (1, .int l1), (2, .int l2), (3, .int l3), (5, .int l5), (6, .int l6)] [] (S, g) (some (.int w)) (S, k)) {l0 : Nat} {l1 : Int32} {l2 : Int32} {l3 : Int32} {l5 : Int32} {l6 : Int32} {g : e_G} (hf : J_X10_windows_141 c34 S l0 l1 l2 l3 l5 l6 g = some (w, k)) : X l D (e_R 7) M_X10_windows 0 0 141 [(0, .ref l0), (1, .int l1), (2, .int l2), (3, .int l3), (5, .int l5), (6, .int l6)] [] (S, g) (some (.int w)) (S, k) := by
  unfold J_X10_windows_141 at hf
  refine X.iinc (j := 5) dX10_windows_141 rfl (v := l6 + (1 : Int32)) (by rw [kI_1]) (Nat.le_of_ble_eq_true rfl) (lc' := [(6, .int (l6 + (1 : Int32))), (0, .ref l0), (1, .int l1), (2, .int l2), (3, .int l3), (5, .int l5)]) rfl ?_
  refine X.goto dX10_windows_144 (tgt := 34) rfl ?_
  refine X.sub [1, 2, 3, 4, 5, 0] rfl ?_
  exact hc34 _ _ _ _ _ _ _ hf
theorem x_J_X10_windows_117 {l : Launch} {D : va_G} {S : e_S} {w : Int32} {k : e_G} (c34 : Nat → Int32 → Int32 → Int32 → Int32 → Int32 → e_G → Option (Int32 × e_G)) (hc34 : ∀ (l0 : Nat) (l1 : Int32) (l2 : Int32) (l3 : Int32) (l5 : Int32) (l6 : Int32) (g : e_G), c34 l0 l1 l2 l3 l5 l6 g = some (w, k) → X l D (e_R 7) M_X10_windows 0 0 34 [(0, .ref l0), (1, .int l1), (2, .int l2), (3, .int l3), (5, .int l5), (6, .int l6)] [] (S, g) (some (.int w)) (S, k)) {l0 : Nat} {l1 : Int32} {l2 : Int32} {l3 : Int32} {l5 : Int32} {l6 : Int32} {g : e_G} (hf : J_X10_windows_117 c34 S l0 l1 l2 l3 l5 l6 g = some (w, k)) : X l D (e_R 7) M_X10_windows 0 0 117 [(0, .ref l0), (1, .int l1), (2, .int l2), (3, .int l3), (5, .int l5), (6, .int l6)] [] (S, g) (some (.int w)) (S, k) := by
  unfold J_X10_windows_117 at hf
  refine X.aload_n dX10_windows_117 rfl (j := 0) rfl ?_
  refine X.aload_n dX10_windows_118 rfl (j := 0) rfl ?_
  obtain ⟨v1, h2, hf⟩ := ob hf
  refine Y.getR dX10_windows_119 fl_X10_17 rfl h2 ?_
  refine X.iload_n dX10_windows_122 rfl (j := 1) rfl ?_
  obtain ⟨v3, h4, hf⟩ := ob hf
  refine Y.aald dX10_windows_123 (kd := 4) (by decide) h4 ?_
  refine X.iload_n dX10_windows_124 rfl (j := 2) rfl ?_
  obtain ⟨q6, h5, hf⟩ := ob hf
  refine Y.callV (av := [.ref v3, .int l2]) (ci := 10) dX10_windows_125 (c_X10_firstOtherwise (l := l) (D := D) (w := q6.1) (k := q6.2) h5) cw_X10_229 (by decide) rfl mk_X10_firstOtherwise (o_X10_firstOtherwise (w := q6.1) (k := q6.2) h5) (e_R_ok (Nat.le_of_ble_eq_true rfl) (Nat.le_of_ble_eq_true rfl)) ⟨rfl, rfl⟩ (by simp [Value.category]) ?_
  refine X.iconst dX10_windows_128 kI_m1 ?_
  refine X.icmp_ne dX10_windows_129 (tgt := 141) rfl (fun hc => ?_) (fun hc => ?_)
  · rw [if_neg hc] at hf
    exact x_J_X10_windows_141 _ hc34 hf
  · rw [if_pos hc] at hf
    refine X.iload dX10_windows_132 (j := 4) rfl ?_
    refine X.iconst dX10_windows_134 kI_1 ?_
    refine X.iload dX10_windows_135 (j := 5) rfl ?_
    refine X.ishl dX10_windows_137 ?_
    refine X.ior dX10_windows_138 ?_
    refine X.istore dX10_windows_139 (Nat.le_of_ble_eq_true rfl) (lc' := [(5, .int (l5 ||| ((1 : Int32) <<< (l6 &&& 31)))), (0, .ref l0), (1, .int l1), (2, .int l2), (3, .int l3), (6, .int l6)]) rfl ?_
    refine X.sub [1, 2, 3, 4, 0, 5] rfl ?_
    exact x_J_X10_windows_141 _ hc34 hf
theorem x_J_X10_windows_77 {l : Launch} {D : va_G} {S : e_S} {w : Int32} {k : e_G} (c34 : Nat → Int32 → Int32 → Int32 → Int32 → Int32 → e_G → Option (Int32 × e_G)) (hc34 : ∀ (l0 : Nat) (l1 : Int32) (l2 : Int32) (l3 : Int32) (l5 : Int32) (l6 : Int32) (g : e_G), c34 l0 l1 l2 l3 l5 l6 g = some (w, k) → X l D (e_R 7) M_X10_windows 0 0 34 [(0, .ref l0), (1, .int l1), (2, .int l2), (3, .int l3), (5, .int l5), (6, .int l6)] [] (S, g) (some (.int w)) (S, k)) {l0 : Nat} {l1 : Int32} {l2 : Int32} {l3 : Int32} {l5 : Int32} {l6 : Int32} {g : e_G} (hf : J_X10_windows_77 c34 S l0 l1 l2 l3 l5 l6 g = some (w, k)) : X l D (e_R 7) M_X10_windows 0 0 77 [(0, .ref l0), (1, .int l1), (2, .int l2), (3, .int l3), (5, .int l5), (6, .int l6)] [] (S, g) (some (.int w)) (S, k) := by
  unfold J_X10_windows_77 at hf
  refine X.aload_n dX10_windows_77 rfl (j := 0) rfl ?_
  obtain ⟨v1, h2, hf⟩ := ob hf
  refine Y.getR dX10_windows_78 fl_X10_67 rfl h2 ?_
  refine X.aload_n dX10_windows_81 rfl (j := 0) rfl ?_
  obtain ⟨v3, h4, hf⟩ := ob hf
  refine Y.getR dX10_windows_82 fl_X10_63 rfl h4 ?_
  obtain ⟨q6, h5, hf⟩ := ob hf
  refine Y.callV (av := [.ref v3]) (ci := 7) dX10_windows_85 (c_X7_become (l := l) (D := D) h5) cw_X10_189 (by decide) rfl mk_X7_become (o_X7_become (k := q6) h5) (e_R_ok (Nat.le_of_ble_eq_true rfl) (Nat.le_of_ble_eq_true rfl)) ⟨rfl, rfl⟩ (by simp [Value.category]) ?_
  refine X.iload_n dX10_windows_88 rfl (j := 3) rfl ?_
  refine X.if_ne dX10_windows_89 (tgt := 106) rfl (fun hc => ?_) (fun hc => ?_)
  · rw [if_neg hc] at hf
    refine X.aload_n dX10_windows_106 rfl (j := 0) rfl ?_
    obtain ⟨v7, h8, hf⟩ := ob hf
    refine Y.getR dX10_windows_107 fl_X10_67 rfl h8 ?_
    obtain ⟨v9, h10, hf⟩ := ob hf
    refine Y.getR dX10_windows_110 fl_X10_145 rfl h10 ?_
    refine X.iload_n dX10_windows_113 rfl (j := 2) rfl ?_
    refine X.iload dX10_windows_114 (j := 5) rfl ?_
    obtain ⟨g11, h12, hf⟩ := ob hf
    refine Y.iast dX10_windows_116 h12 ?_
    exact x_J_X10_windows_117 _ hc34 hf
  · rw [if_pos hc] at hf
    refine X.aload_n dX10_windows_92 rfl (j := 0) rfl ?_
    obtain ⟨v13, h14, hf⟩ := ob hf
    refine Y.getR dX10_windows_93 fl_X10_67 rfl h14 ?_
    obtain ⟨v15, h16, hf⟩ := ob hf
    refine Y.getR dX10_windows_96 fl_X10_136 rfl h16 ?_
    refine X.iload_n dX10_windows_99 rfl (j := 2) rfl ?_
    refine X.iload dX10_windows_100 (j := 5) rfl ?_
    obtain ⟨g17, h18, hf⟩ := ob hf
    refine Y.iast dX10_windows_102 h18 ?_
    refine X.goto dX10_windows_103 (tgt := 117) rfl ?_
    exact x_J_X10_windows_117 _ hc34 hf
theorem x_L_X10_windows_34 {l : Launch} {D : va_G} {S : e_S} {w : Int32} {k : e_G} : ∀ (n : Nat) (l0 : Nat) (l1 : Int32) (l2 : Int32) (l3 : Int32) (l5 : Int32) (l6 : Int32) (g : e_G), L_X10_windows_34 n S l0 l1 l2 l3 l5 l6 g = some (w, k) → X l D (e_R 7) M_X10_windows 0 0 34 [(0, .ref l0), (1, .int l1), (2, .int l2), (3, .int l3), (5, .int l5), (6, .int l6)] [] (S, g) (some (.int w)) (S, k) := by
  intro n
  induction n with
  | zero =>
    intro l0 l1 l2 l3 l5 l6 g hf
    cases hf
  | succ n ih =>
    intro l0 l1 l2 l3 l5 l6 g hf
    rw [L_X10_windows_34] at hf
    refine X.iload dX10_windows_34 (j := 5) rfl ?_
    refine X.bipush dX10_windows_36 kB_20 ?_
    refine X.icmp_ge dX10_windows_38 (tgt := 147) rfl (fun hc => ?_) (fun hc => ?_)
    · rw [if_pos hc] at hf
      refine X.iload dX10_windows_147 (j := 4) rfl ?_
      obtain ⟨e1, e2⟩ := e_ret hf
      subst e1
      subst e2
      exact X.iret dX10_windows_149 rfl rfl
    · rw [if_neg hc] at hf
      refine X.iload_n dX10_windows_41 rfl (j := 3) rfl ?_
      refine X.if_ne dX10_windows_42 (tgt := 61) rfl (fun hc => ?_) (fun hc => ?_)
      · rw [if_neg hc] at hf
        refine X.aload_n dX10_windows_61 rfl (j := 0) rfl ?_
        obtain ⟨v1, h2, hf⟩ := ob hf
        refine Y.getR dX10_windows_62 fl_X10_63 rfl h2 ?_
        refine X.iload_n dX10_windows_65 rfl (j := 2) rfl ?_
        refine X.iload dX10_windows_66 (j := 5) rfl ?_
        obtain ⟨q4, h3, hf⟩ := ob hf
        refine Y.callV (av := [.int l2, .int l6]) (ci := 7) dX10_windows_68 (c_X7_mayLookAt (l := l) (D := D) (w := q4.1) (k := q4.2) h3) cw_X10_202 (by decide) rfl mk_X7_mayLookAt (o_X7_mayLookAt (w := q4.1) (k := q4.2) h3) (e_R_ok (Nat.le_of_ble_eq_true rfl) (Nat.le_of_ble_eq_true rfl)) ⟨rfl, rfl⟩ (by simp [Value.category]) ?_
        refine X.if_ne dX10_windows_71 (tgt := 77) rfl (fun hc => ?_) (fun hc => ?_)
        · rw [if_neg hc] at hf
          exact x_J_X10_windows_77 _ ih hf
        · rw [if_pos hc] at hf
          refine X.goto dX10_windows_74 (tgt := 141) rfl ?_
          exact x_J_X10_windows_141 _ ih hf
      · rw [if_pos hc] at hf
        refine X.aload_n dX10_windows_45 rfl (j := 0) rfl ?_
        obtain ⟨v5, h6, hf⟩ := ob hf
        refine Y.getR dX10_windows_46 fl_X10_63 rfl h6 ?_
        refine X.iload_n dX10_windows_49 rfl (j := 2) rfl ?_
        refine X.iload dX10_windows_50 (j := 5) rfl ?_
        obtain ⟨q8, h7, hf⟩ := ob hf
        refine Y.callV (av := [.int l2, .int l6]) (ci := 7) dX10_windows_52 (c_X7_mayBeAt (l := l) (D := D) (w := q8.1) (k := q8.2) h7) cw_X10_132 (by decide) rfl mk_X7_mayBeAt (o_X7_mayBeAt (w := q8.1) (k := q8.2) h7) (e_R_ok (Nat.le_of_ble_eq_true rfl) (Nat.le_of_ble_eq_true rfl)) ⟨rfl, rfl⟩ (by simp [Value.category]) ?_
        refine X.if_eq dX10_windows_55 (tgt := 141) rfl (fun hc => ?_) (fun hc => ?_)
        · rw [if_pos hc] at hf
          exact x_J_X10_windows_141 _ ih hf
        · rw [if_neg hc] at hf
          refine X.goto dX10_windows_58 (tgt := 77) rfl ?_
          exact x_J_X10_windows_77 _ ih hf
theorem o_X10_windows  {S : e_S} {w : Int32} {k : e_G} {l0 : Nat} {l1 : Int32} {l2 : Int32} {l3 : Int32} {g : e_G} (hf : f_X10_windows S l0 l1 l2 l3 g = some (w, k)) : e_ob S 10 l0 = true := by
  unfold f_X10_windows at hf
  by_cases hc : e_ob S 10 l0 = true
  · exact hc
  · rw [if_neg hc] at hf
    cases hf
theorem c_X10_windows {l : Launch} {D : va_G}  {S : e_S} {w : Int32} {k : e_G} {l0 : Nat} {l1 : Int32} {l2 : Int32} {l3 : Int32} {g : e_G} (hf : f_X10_windows S l0 l1 l2 l3 g = some (w, k)) : CT l D (e_R 7) M_X10_windows [.ref l0, .int l1, .int l2, .int l3] (S, g) (some (.int w)) (S, k) := by
  refine CT.of (by decide +kernel) (Nat.le_of_ble_eq_true rfl) ?_
  have ho := o_X10_windows hf
  unfold f_X10_windows at hf
  rw [if_pos ho] at hf
  show X l D (e_R 7) M_X10_windows 0 0 0 [(0, .ref l0), (1, .int l1), (2, .int l2), (3, .int l3)] [] (S, g) (some (.int w)) (S, k)
  refine X.aload_n dX10_windows_0 rfl (j := 0) rfl ?_
  refine X.iload_n dX10_windows_1 rfl (j := 1) rfl ?_
  refine X.iload_n dX10_windows_2 rfl (j := 2) rfl ?_
  obtain ⟨q2, h1, hf⟩ := ob hf
  refine Y.callV (av := [.int l1, .int l2]) (ci := 10) dX10_windows_3 (c_X10_refusalOf (l := l) (D := D) (w := q2.1) (k := q2.2) h1) cw_X10_226 (by decide) rfl mk_X10_refusalOf (o_X10_refusalOf (w := q2.1) (k := q2.2) h1) (e_R_ok (Nat.le_of_ble_eq_true rfl) (Nat.le_of_ble_eq_true rfl)) ⟨rfl, rfl⟩ (by simp [Value.category]) ?_
  refine X.istore dX10_windows_6 (Nat.le_of_ble_eq_true rfl) (lc' := [(4, .int q2.1), (0, .ref l0), (1, .int l1), (2, .int l2), (3, .int l3)]) rfl ?_
  refine X.iload dX10_windows_8 (j := 0) rfl ?_
  refine X.if_eq dX10_windows_10 (tgt := 16) rfl (fun hc => ?_) (fun hc => ?_)
  · rw [if_pos hc] at hf
    refine X.iload_n dX10_windows_16 rfl (j := 4) rfl ?_
    refine X.if_lt dX10_windows_17 (tgt := 25) rfl (fun hc => ?_) (fun hc => ?_)
    · rw [if_pos hc] at hf
      refine X.bipush dX10_windows_25 kB_m7 ?_
      obtain ⟨e1, e2⟩ := e_ret hf
      subst e1
      subst e2
      exact X.iret dX10_windows_27 rfl rfl
    · rw [if_neg hc] at hf
      refine X.iload_n dX10_windows_20 rfl (j := 4) rfl ?_
      refine X.iconst dX10_windows_21 kI_1 ?_
      refine X.icmp_le dX10_windows_22 (tgt := 28) rfl (fun hc => ?_) (fun hc => ?_)
      · rw [if_pos hc] at hf
        refine X.iconst dX10_windows_28 kI_0 ?_
        refine X.istore dX10_windows_29 (Nat.le_of_ble_eq_true rfl) (lc' := [(5, .int (0 : Int32)), (4, .int q2.1), (0, .ref l0), (1, .int l1), (2, .int l2), (3, .int l3)]) rfl ?_
        refine X.iconst dX10_windows_31 kI_0 ?_
        refine X.istore dX10_windows_32 (Nat.le_of_ble_eq_true rfl) (lc' := [(6, .int (0 : Int32)), (5, .int (0 : Int32)), (4, .int q2.1), (0, .ref l0), (1, .int l1), (2, .int l2), (3, .int l3)]) rfl ?_
        refine X.sub [3, 4, 5, 6, 1, 0] rfl ?_
        exact x_L_X10_windows_34 50000 _ _ _ _ _ _ _ hf
      · rw [if_neg hc] at hf
        refine X.bipush dX10_windows_25 kB_m7 ?_
        obtain ⟨e1, e2⟩ := e_ret hf
        subst e1
        subst e2
        exact X.iret dX10_windows_27 rfl rfl
  · rw [if_neg hc] at hf
    refine X.iload dX10_windows_13 (j := 0) rfl ?_
    obtain ⟨e1, e2⟩ := e_ret hf
    subst e1
    subst e2
    exact X.iret dX10_windows_15 rfl rfl
/-! LeanedOut.leans(III)I -/
abbrev M_X10_leans : e_M := (yX10_leans, cX10_leans, 8, (some .int))
theorem mk_X10_leans : e_Mok M_X10_leans 3 := ⟨by decide +kernel, by decide +kernel, by decide +kernel⟩
theorem dX10_leans_0 : decode cX10_leans 0 = .ok (.aload_n 0, 1) := by decide +kernel
theorem dX10_leans_1 : decode cX10_leans 1 = .ok (.iload_n 1, 1) := by decide +kernel
theorem dX10_leans_2 : decode cX10_leans 2 = .ok (.iload_n 2, 1) := by decide +kernel
theorem dX10_leans_3 : decode cX10_leans 3 = .ok (.invokevirtual 226, 3) := by decide +kernel
theorem dX10_leans_6 : decode cX10_leans 6 = .ok (.istore 4, 2) := by decide +kernel
theorem dX10_leans_8 : decode cX10_leans 8 = .ok (.iload 4, 2) := by decide +kernel
theorem dX10_leans_10 : decode cX10_leans 10 = .ok (.ifCond .eq 6, 3) := by decide +kernel
theorem dX10_leans_13 : decode cX10_leans 13 = .ok (.iload 4, 2) := by decide +kernel
theorem dX10_leans_15 : decode cX10_leans 15 = .ok (.ireturn, 1) := by decide +kernel
theorem dX10_leans_16 : decode cX10_leans 16 = .ok (.iload_n 3, 1) := by decide +kernel
theorem dX10_leans_17 : decode cX10_leans 17 = .ok (.ifCond .lt 8, 3) := by decide +kernel
theorem dX10_leans_20 : decode cX10_leans 20 = .ok (.iload_n 3, 1) := by decide +kernel
theorem dX10_leans_21 : decode cX10_leans 21 = .ok (.iconst 1, 1) := by decide +kernel
theorem dX10_leans_22 : decode cX10_leans 22 = .ok (.if_icmp .le 6, 3) := by decide +kernel
theorem dX10_leans_25 : decode cX10_leans 25 = .ok (.bipush (-7), 2) := by decide +kernel
theorem dX10_leans_27 : decode cX10_leans 27 = .ok (.ireturn, 1) := by decide +kernel
theorem dX10_leans_28 : decode cX10_leans 28 = .ok (.iconst 0, 1) := by decide +kernel
theorem dX10_leans_29 : decode cX10_leans 29 = .ok (.istore 5, 2) := by decide +kernel
theorem dX10_leans_31 : decode cX10_leans 31 = .ok (.iconst (-1), 1) := by decide +kernel
theorem dX10_leans_32 : decode cX10_leans 32 = .ok (.istore 6, 2) := by decide +kernel
theorem dX10_leans_34 : decode cX10_leans 34 = .ok (.iconst 0, 1) := by decide +kernel
theorem dX10_leans_35 : decode cX10_leans 35 = .ok (.istore 7, 2) := by decide +kernel
theorem dX10_leans_37 : decode cX10_leans 37 = .ok (.iload 7, 2) := by decide +kernel
theorem dX10_leans_39 : decode cX10_leans 39 = .ok (.bipush 99, 2) := by decide +kernel
theorem dX10_leans_41 : decode cX10_leans 41 = .ok (.if_icmp .gt 62, 3) := by decide +kernel
theorem dX10_leans_44 : decode cX10_leans 44 = .ok (.aload_n 0, 1) := by decide +kernel
theorem dX10_leans_45 : decode cX10_leans 45 = .ok (.getfield 67, 3) := by decide +kernel
theorem dX10_leans_48 : decode cX10_leans 48 = .ok (.aload_n 0, 1) := by decide +kernel
theorem dX10_leans_49 : decode cX10_leans 49 = .ok (.getfield 63, 3) := by decide +kernel
theorem dX10_leans_52 : decode cX10_leans 52 = .ok (.invokevirtual 189, 3) := by decide +kernel
theorem dX10_leans_55 : decode cX10_leans 55 = .ok (.aload_n 0, 1) := by decide +kernel
theorem dX10_leans_56 : decode cX10_leans 56 = .ok (.getfield 67, 3) := by decide +kernel
theorem dX10_leans_59 : decode cX10_leans 59 = .ok (.getfield 142, 3) := by decide +kernel
theorem dX10_leans_62 : decode cX10_leans 62 = .ok (.iload_n 2, 1) := by decide +kernel
theorem dX10_leans_63 : decode cX10_leans 63 = .ok (.iload 7, 2) := by decide +kernel
theorem dX10_leans_65 : decode cX10_leans 65 = .ok (.iastore, 1) := by decide +kernel
theorem dX10_leans_66 : decode cX10_leans 66 = .ok (.aload_n 0, 1) := by decide +kernel
theorem dX10_leans_67 : decode cX10_leans 67 = .ok (.aload_n 0, 1) := by decide +kernel
theorem dX10_leans_68 : decode cX10_leans 68 = .ok (.getfield 17, 3) := by decide +kernel
theorem dX10_leans_71 : decode cX10_leans 71 = .ok (.iload_n 1, 1) := by decide +kernel
theorem dX10_leans_72 : decode cX10_leans 72 = .ok (.aaload, 1) := by decide +kernel
theorem dX10_leans_73 : decode cX10_leans 73 = .ok (.iload_n 2, 1) := by decide +kernel
theorem dX10_leans_74 : decode cX10_leans 74 = .ok (.invokevirtual 229, 3) := by decide +kernel
theorem dX10_leans_77 : decode cX10_leans 77 = .ok (.iconst (-1), 1) := by decide +kernel
theorem dX10_leans_78 : decode cX10_leans 78 = .ok (.if_icmp .eq 6, 3) := by decide +kernel
theorem dX10_leans_81 : decode cX10_leans 81 = .ok (.goto 16, 3) := by decide +kernel
theorem dX10_leans_84 : decode cX10_leans 84 = .ok (.iinc 5 1, 3) := by decide +kernel
theorem dX10_leans_87 : decode cX10_leans 87 = .ok (.iload 6, 2) := by decide +kernel
theorem dX10_leans_89 : decode cX10_leans 89 = .ok (.iconst (-1), 1) := by decide +kernel
theorem dX10_leans_90 : decode cX10_leans 90 = .ok (.if_icmp .ne 7, 3) := by decide +kernel
theorem dX10_leans_93 : decode cX10_leans 93 = .ok (.iload 7, 2) := by decide +kernel
theorem dX10_leans_95 : decode cX10_leans 95 = .ok (.istore 6, 2) := by decide +kernel
theorem dX10_leans_97 : decode cX10_leans 97 = .ok (.iinc 7 1, 3) := by decide +kernel
theorem dX10_leans_100 : decode cX10_leans 100 = .ok (.goto (-63), 3) := by decide +kernel
theorem dX10_leans_103 : decode cX10_leans 103 = .ok (.iload_n 3, 1) := by decide +kernel
theorem dX10_leans_104 : decode cX10_leans 104 = .ok (.ifCond .ne 8, 3) := by decide +kernel
theorem dX10_leans_107 : decode cX10_leans 107 = .ok (.iload 5, 2) := by decide +kernel
theorem dX10_leans_109 : decode cX10_leans 109 = .ok (.goto 5, 3) := by decide +kernel
theorem dX10_leans_112 : decode cX10_leans 112 = .ok (.iload 6, 2) := by decide +kernel
theorem dX10_leans_114 : decode cX10_leans 114 = .ok (.ireturn, 1) := by decide +kernel
def J_X10_leans_97 (c37 : Nat → Int32 → Int32 → Int32 → Int32 → Int32 → Int32 → e_G → Option (Int32 × e_G)) (S : e_S) (l0 : Nat) (l1 : Int32) (l2 : Int32) (l3 : Int32) (l5 : Int32) (l6 : Int32) (l7 : Int32) (g : e_G) : Option (Int32 × e_G) :=
  c37 l0 l1 l2 l3 l5 l6 (l7 + (1 : Int32)) g
def L_X10_leans_37 : Nat → e_S → Nat → Int32 → Int32 → Int32 → Int32 → Int32 → Int32 → e_G → Option (Int32 × e_G)
  | 0, _, _, _, _, _, _, _, _, _ => none
  | n + 1, S, l0, l1, l2, l3, l5, l6, l7, g =>
  if (99 : Int32) < l7 then
    if l3 = 0 then
      some (l5, g)
    else
      some (l6, g)
  else
    (e_gR S g 10 l0 3).bind fun v1 =>
    (e_gR S g 10 l0 2).bind fun v3 =>
    (f_X7_become S v1 v3 g).bind fun q6 =>
    (e_gR S q6 10 l0 3).bind fun v7 =>
    (e_gR S q6 7 v7 2).bind fun v9 =>
    (e_aS S q6 0 v9 l2 l7).bind fun g11 =>
    (e_gR S g11 10 l0 1).bind fun v13 =>
    (e_aR S g11 4 v13 l1).bind fun v15 =>
    (f_X10_firstOtherwise S l0 v15 l2 g11).bind fun q18 =>
    if q18.1 = (-1 : Int32) then
      if l6 = (-1 : Int32) then
        J_X10_leans_97 (L_X10_leans_37 n S) S l0 l1 l2 l3 (l5 + (1 : Int32)) l7 l7 q18.2
      else
        J_X10_leans_97 (L_X10_leans_37 n S) S l0 l1 l2 l3 (l5 + (1 : Int32)) l6 l7 q18.2
    else
      J_X10_leans_97 (L_X10_leans_37 n S) S l0 l1 l2 l3 l5 l6 l7 q18.2
def f_X10_leans (S : e_S) (l0 : Nat) (l1 : Int32) (l2 : Int32) (l3 : Int32) (g : e_G) : Option (Int32 × e_G) :=
  if e_ob S 10 l0 = true then
    (f_X10_refusalOf S l0 l1 l2 g).bind fun q2 =>
    if q2.1 = 0 then
      if l3 < 0 then
        some ((-7 : Int32), q2.2)
      else
        if l3 ≤ (1 : Int32) then
          L_X10_leans_37 50000 S l0 l1 l2 l3 (0 : Int32) (-1 : Int32) (0 : Int32) q2.2
        else
          some ((-7 : Int32), q2.2)
    else
      some (q2.1, q2.2)
  else none
theorem x_J_X10_leans_97 {l : Launch} {D : va_G} {S : e_S} {w : Int32} {k : e_G} (c37 : Nat → Int32 → Int32 → Int32 → Int32 → Int32 → Int32 → e_G → Option (Int32 × e_G)) (hc37 : ∀ (l0 : Nat) (l1 : Int32) (l2 : Int32) (l3 : Int32) (l5 : Int32) (l6 : Int32) (l7 : Int32) (g : e_G), c37 l0 l1 l2 l3 l5 l6 l7 g = some (w, k) → X l D (e_R 7) M_X10_leans 0 0 37 [(0, .ref l0), (1, .int l1), (2, .int l2), (3, .int l3), (5, .int l5), (6, .int l6), (7, .int l7)] [] (S, g) (some (.int w)) (S, k)) {l0 : Nat} {l1 : Int32} {l2 : Int32} {l3 : Int32} {l5 : Int32} {l6 : Int32} {l7 : Int32} {g : e_G} (hf : J_X10_leans_97 c37 S l0 l1 l2 l3 l5 l6 l7 g = some (w, k)) : X l D (e_R 7) M_X10_leans 0 0 97 [(0, .ref l0), (1, .int l1), (2, .int l2), (3, .int l3), (5, .int l5), (6, .int l6), (7, .int l7)] [] (S, g) (some (.int w)) (S, k) := by
  unfold J_X10_leans_97 at hf
  refine X.iinc (j := 6) dX10_leans_97 rfl (v := l7 + (1 : Int32)) (by rw [kI_1]) (Nat.le_of_ble_eq_true rfl) (lc' := [(7, .int (l7 + (1 : Int32))), (0, .ref l0), (1, .int l1), (2, .int l2), (3, .int l3), (5, .int l5), (6, .int l6)]) rfl ?_
  refine X.goto dX10_leans_100 (tgt := 37) rfl ?_
  refine X.sub [1, 2, 3, 4, 5, 6, 0] rfl ?_
  exact hc37 _ _ _ _ _ _ _ _ hf
theorem x_L_X10_leans_37 {l : Launch} {D : va_G} {S : e_S} {w : Int32} {k : e_G} : ∀ (n : Nat) (l0 : Nat) (l1 : Int32) (l2 : Int32) (l3 : Int32) (l5 : Int32) (l6 : Int32) (l7 : Int32) (g : e_G), L_X10_leans_37 n S l0 l1 l2 l3 l5 l6 l7 g = some (w, k) → X l D (e_R 7) M_X10_leans 0 0 37 [(0, .ref l0), (1, .int l1), (2, .int l2), (3, .int l3), (5, .int l5), (6, .int l6), (7, .int l7)] [] (S, g) (some (.int w)) (S, k) := by
  intro n
  induction n with
  | zero =>
    intro l0 l1 l2 l3 l5 l6 l7 g hf
    cases hf
  | succ n ih =>
    intro l0 l1 l2 l3 l5 l6 l7 g hf
    rw [L_X10_leans_37] at hf
    refine X.iload dX10_leans_37 (j := 6) rfl ?_
    refine X.bipush dX10_leans_39 kB_99 ?_
    refine X.icmp_gt dX10_leans_41 (tgt := 103) rfl (fun hc => ?_) (fun hc => ?_)
    · rw [if_pos hc] at hf
      refine X.iload_n dX10_leans_103 rfl (j := 3) rfl ?_
      refine X.if_ne dX10_leans_104 (tgt := 112) rfl (fun hc => ?_) (fun hc => ?_)
      · rw [if_neg hc] at hf
        refine X.iload dX10_leans_112 (j := 5) rfl ?_
        obtain ⟨e1, e2⟩ := e_ret hf
        subst e1
        subst e2
        exact X.iret dX10_leans_114 rfl rfl
      · rw [if_pos hc] at hf
        refine X.iload dX10_leans_107 (j := 4) rfl ?_
        refine X.goto dX10_leans_109 (tgt := 114) rfl ?_
        obtain ⟨e1, e2⟩ := e_ret hf
        subst e1
        subst e2
        exact X.iret dX10_leans_114 rfl rfl
    · rw [if_neg hc] at hf
      refine X.aload_n dX10_leans_44 rfl (j := 0) rfl ?_
      obtain ⟨v1, h2, hf⟩ := ob hf
      refine Y.getR dX10_leans_45 fl_X10_67 rfl h2 ?_
      refine X.aload_n dX10_leans_48 rfl (j := 0) rfl ?_
      obtain ⟨v3, h4, hf⟩ := ob hf
      refine Y.getR dX10_leans_49 fl_X10_63 rfl h4 ?_
      obtain ⟨q6, h5, hf⟩ := ob hf
      refine Y.callV (av := [.ref v3]) (ci := 7) dX10_leans_52 (c_X7_become (l := l) (D := D) h5) cw_X10_189 (by decide) rfl mk_X7_become (o_X7_become (k := q6) h5) (e_R_ok (Nat.le_of_ble_eq_true rfl) (Nat.le_of_ble_eq_true rfl)) ⟨rfl, rfl⟩ (by simp [Value.category]) ?_
      refine X.aload_n dX10_leans_55 rfl (j := 0) rfl ?_
      obtain ⟨v7, h8, hf⟩ := ob hf
      refine Y.getR dX10_leans_56 fl_X10_67 rfl h8 ?_
      obtain ⟨v9, h10, hf⟩ := ob hf
      refine Y.getR dX10_leans_59 fl_X10_142 rfl h10 ?_
      refine X.iload_n dX10_leans_62 rfl (j := 2) rfl ?_
      refine X.iload dX10_leans_63 (j := 6) rfl ?_
      obtain ⟨g11, h12, hf⟩ := ob hf
      refine Y.iast dX10_leans_65 h12 ?_
      refine X.aload_n dX10_leans_66 rfl (j := 0) rfl ?_
      refine X.aload_n dX10_leans_67 rfl (j := 0) rfl ?_
      obtain ⟨v13, h14, hf⟩ := ob hf
      refine Y.getR dX10_leans_68 fl_X10_17 rfl h14 ?_
      refine X.iload_n dX10_leans_71 rfl (j := 1) rfl ?_
      obtain ⟨v15, h16, hf⟩ := ob hf
      refine Y.aald dX10_leans_72 (kd := 4) (by decide) h16 ?_
      refine X.iload_n dX10_leans_73 rfl (j := 2) rfl ?_
      obtain ⟨q18, h17, hf⟩ := ob hf
      refine Y.callV (av := [.ref v15, .int l2]) (ci := 10) dX10_leans_74 (c_X10_firstOtherwise (l := l) (D := D) (w := q18.1) (k := q18.2) h17) cw_X10_229 (by decide) rfl mk_X10_firstOtherwise (o_X10_firstOtherwise (w := q18.1) (k := q18.2) h17) (e_R_ok (Nat.le_of_ble_eq_true rfl) (Nat.le_of_ble_eq_true rfl)) ⟨rfl, rfl⟩ (by simp [Value.category]) ?_
      refine X.iconst dX10_leans_77 kI_m1 ?_
      refine X.icmp_eq dX10_leans_78 (tgt := 84) rfl (fun hc => ?_) (fun hc => ?_)
      · rw [if_pos hc] at hf
        refine X.iinc (j := 4) dX10_leans_84 rfl (v := l5 + (1 : Int32)) (by rw [kI_1]) (Nat.le_of_ble_eq_true rfl) (lc' := [(5, .int (l5 + (1 : Int32))), (0, .ref l0), (1, .int l1), (2, .int l2), (3, .int l3), (6, .int l6), (7, .int l7)]) rfl ?_
        refine X.iload dX10_leans_87 (j := 5) rfl ?_
        refine X.iconst dX10_leans_89 kI_m1 ?_
        refine X.icmp_ne dX10_leans_90 (tgt := 97) rfl (fun hc => ?_) (fun hc => ?_)
        · rw [if_neg hc] at hf
          refine X.sub [1, 2, 3, 4, 0, 5, 6] rfl ?_
          exact x_J_X10_leans_97 _ ih hf
        · rw [if_pos hc] at hf
          refine X.iload dX10_leans_93 (j := 6) rfl ?_
          refine X.istore dX10_leans_95 (Nat.le_of_ble_eq_true rfl) (lc' := [(6, .int l7), (5, .int (l5 + (1 : Int32))), (0, .ref l0), (1, .int l1), (2, .int l2), (3, .int l3), (7, .int l7)]) rfl ?_
          refine X.sub [2, 3, 4, 5, 1, 0, 6] rfl ?_
          exact x_J_X10_leans_97 _ ih hf
      · rw [if_neg hc] at hf
        refine X.goto dX10_leans_81 (tgt := 97) rfl ?_
        exact x_J_X10_leans_97 _ ih hf
theorem o_X10_leans  {S : e_S} {w : Int32} {k : e_G} {l0 : Nat} {l1 : Int32} {l2 : Int32} {l3 : Int32} {g : e_G} (hf : f_X10_leans S l0 l1 l2 l3 g = some (w, k)) : e_ob S 10 l0 = true := by
  unfold f_X10_leans at hf
  by_cases hc : e_ob S 10 l0 = true
  · exact hc
  · rw [if_neg hc] at hf
    cases hf
theorem c_X10_leans {l : Launch} {D : va_G}  {S : e_S} {w : Int32} {k : e_G} {l0 : Nat} {l1 : Int32} {l2 : Int32} {l3 : Int32} {g : e_G} (hf : f_X10_leans S l0 l1 l2 l3 g = some (w, k)) : CT l D (e_R 7) M_X10_leans [.ref l0, .int l1, .int l2, .int l3] (S, g) (some (.int w)) (S, k) := by
  refine CT.of (by decide +kernel) (Nat.le_of_ble_eq_true rfl) ?_
  have ho := o_X10_leans hf
  unfold f_X10_leans at hf
  rw [if_pos ho] at hf
  show X l D (e_R 7) M_X10_leans 0 0 0 [(0, .ref l0), (1, .int l1), (2, .int l2), (3, .int l3)] [] (S, g) (some (.int w)) (S, k)
  refine X.aload_n dX10_leans_0 rfl (j := 0) rfl ?_
  refine X.iload_n dX10_leans_1 rfl (j := 1) rfl ?_
  refine X.iload_n dX10_leans_2 rfl (j := 2) rfl ?_
  obtain ⟨q2, h1, hf⟩ := ob hf
  refine Y.callV (av := [.int l1, .int l2]) (ci := 10) dX10_leans_3 (c_X10_refusalOf (l := l) (D := D) (w := q2.1) (k := q2.2) h1) cw_X10_226 (by decide) rfl mk_X10_refusalOf (o_X10_refusalOf (w := q2.1) (k := q2.2) h1) (e_R_ok (Nat.le_of_ble_eq_true rfl) (Nat.le_of_ble_eq_true rfl)) ⟨rfl, rfl⟩ (by simp [Value.category]) ?_
  refine X.istore dX10_leans_6 (Nat.le_of_ble_eq_true rfl) (lc' := [(4, .int q2.1), (0, .ref l0), (1, .int l1), (2, .int l2), (3, .int l3)]) rfl ?_
  refine X.iload dX10_leans_8 (j := 0) rfl ?_
  refine X.if_eq dX10_leans_10 (tgt := 16) rfl (fun hc => ?_) (fun hc => ?_)
  · rw [if_pos hc] at hf
    refine X.iload_n dX10_leans_16 rfl (j := 4) rfl ?_
    refine X.if_lt dX10_leans_17 (tgt := 25) rfl (fun hc => ?_) (fun hc => ?_)
    · rw [if_pos hc] at hf
      refine X.bipush dX10_leans_25 kB_m7 ?_
      obtain ⟨e1, e2⟩ := e_ret hf
      subst e1
      subst e2
      exact X.iret dX10_leans_27 rfl rfl
    · rw [if_neg hc] at hf
      refine X.iload_n dX10_leans_20 rfl (j := 4) rfl ?_
      refine X.iconst dX10_leans_21 kI_1 ?_
      refine X.icmp_le dX10_leans_22 (tgt := 28) rfl (fun hc => ?_) (fun hc => ?_)
      · rw [if_pos hc] at hf
        refine X.iconst dX10_leans_28 kI_0 ?_
        refine X.istore dX10_leans_29 (Nat.le_of_ble_eq_true rfl) (lc' := [(5, .int (0 : Int32)), (4, .int q2.1), (0, .ref l0), (1, .int l1), (2, .int l2), (3, .int l3)]) rfl ?_
        refine X.iconst dX10_leans_31 kI_m1 ?_
        refine X.istore dX10_leans_32 (Nat.le_of_ble_eq_true rfl) (lc' := [(6, .int (-1 : Int32)), (5, .int (0 : Int32)), (4, .int q2.1), (0, .ref l0), (1, .int l1), (2, .int l2), (3, .int l3)]) rfl ?_
        refine X.iconst dX10_leans_34 kI_0 ?_
        refine X.istore dX10_leans_35 (Nat.le_of_ble_eq_true rfl) (lc' := [(7, .int (0 : Int32)), (6, .int (-1 : Int32)), (5, .int (0 : Int32)), (4, .int q2.1), (0, .ref l0), (1, .int l1), (2, .int l2), (3, .int l3)]) rfl ?_
        refine X.sub [4, 5, 6, 7, 2, 1, 0] rfl ?_
        exact x_L_X10_leans_37 50000 _ _ _ _ _ _ _ _ hf
      · rw [if_neg hc] at hf
        refine X.bipush dX10_leans_25 kB_m7 ?_
        obtain ⟨e1, e2⟩ := e_ret hf
        subst e1
        subst e2
        exact X.iret dX10_leans_27 rfl rfl
  · rw [if_neg hc] at hf
    refine X.iload dX10_leans_13 (j := 0) rfl ?_
    obtain ⟨e1, e2⟩ := e_ret hf
    subst e1
    subst e2
    exact X.iret dX10_leans_15 rfl rfl
/-! LeanedOut.whose(I)I -/
abbrev M_X10_whose : e_M := (yX10_whose, cX10_whose, 5, (some .int))
theorem mk_X10_whose : e_Mok M_X10_whose 1 := ⟨by decide +kernel, by decide +kernel, by decide +kernel⟩
theorem dX10_whose_0 : decode cX10_whose 0 = .ok (.aload_n 0, 1) := by decide +kernel
theorem dX10_whose_1 : decode cX10_whose 1 = .ok (.iload_n 1, 1) := by decide +kernel
theorem dX10_whose_2 : decode cX10_whose 2 = .ok (.invokevirtual 233, 3) := by decide +kernel
theorem dX10_whose_5 : decode cX10_whose 5 = .ok (.istore_n 2, 1) := by decide +kernel
theorem dX10_whose_6 : decode cX10_whose 6 = .ok (.iload_n 2, 1) := by decide +kernel
theorem dX10_whose_7 : decode cX10_whose 7 = .ok (.ifCond .eq 5, 3) := by decide +kernel
theorem dX10_whose_10 : decode cX10_whose 10 = .ok (.iload_n 2, 1) := by decide +kernel
theorem dX10_whose_11 : decode cX10_whose 11 = .ok (.ireturn, 1) := by decide +kernel
theorem dX10_whose_12 : decode cX10_whose 12 = .ok (.iconst 0, 1) := by decide +kernel
theorem dX10_whose_13 : decode cX10_whose 13 = .ok (.istore_n 3, 1) := by decide +kernel
theorem dX10_whose_14 : decode cX10_whose 14 = .ok (.iconst 0, 1) := by decide +kernel
theorem dX10_whose_15 : decode cX10_whose 15 = .ok (.istore 4, 2) := by decide +kernel
theorem dX10_whose_17 : decode cX10_whose 17 = .ok (.iload 4, 2) := by decide +kernel
theorem dX10_whose_19 : decode cX10_whose 19 = .ok (.aload_n 0, 1) := by decide +kernel
theorem dX10_whose_20 : decode cX10_whose 20 = .ok (.getfield 63, 3) := by decide +kernel
theorem dX10_whose_23 : decode cX10_whose 23 = .ok (.getfield 93, 3) := by decide +kernel
theorem dX10_whose_26 : decode cX10_whose 26 = .ok (.if_icmp .ge 43, 3) := by decide +kernel
theorem dX10_whose_29 : decode cX10_whose 29 = .ok (.aload_n 0, 1) := by decide +kernel
theorem dX10_whose_30 : decode cX10_whose 30 = .ok (.getfield 67, 3) := by decide +kernel
theorem dX10_whose_33 : decode cX10_whose 33 = .ok (.aload_n 0, 1) := by decide +kernel
theorem dX10_whose_34 : decode cX10_whose 34 = .ok (.getfield 63, 3) := by decide +kernel
theorem dX10_whose_37 : decode cX10_whose 37 = .ok (.invokevirtual 189, 3) := by decide +kernel
theorem dX10_whose_40 : decode cX10_whose 40 = .ok (.aload_n 0, 1) := by decide +kernel
theorem dX10_whose_41 : decode cX10_whose 41 = .ok (.aload_n 0, 1) := by decide +kernel
theorem dX10_whose_42 : decode cX10_whose 42 = .ok (.getfield 17, 3) := by decide +kernel
theorem dX10_whose_45 : decode cX10_whose 45 = .ok (.iload_n 1, 1) := by decide +kernel
theorem dX10_whose_46 : decode cX10_whose 46 = .ok (.aaload, 1) := by decide +kernel
theorem dX10_whose_47 : decode cX10_whose 47 = .ok (.iload 4, 2) := by decide +kernel
theorem dX10_whose_49 : decode cX10_whose 49 = .ok (.invokevirtual 229, 3) := by decide +kernel
theorem dX10_whose_52 : decode cX10_whose 52 = .ok (.iconst (-1), 1) := by decide +kernel
theorem dX10_whose_53 : decode cX10_whose 53 = .ok (.if_icmp .ne 10, 3) := by decide +kernel
theorem dX10_whose_56 : decode cX10_whose 56 = .ok (.iload_n 3, 1) := by decide +kernel
theorem dX10_whose_57 : decode cX10_whose 57 = .ok (.iconst 1, 1) := by decide +kernel
theorem dX10_whose_58 : decode cX10_whose 58 = .ok (.iload 4, 2) := by decide +kernel
theorem dX10_whose_60 : decode cX10_whose 60 = .ok (.ishl, 1) := by decide +kernel
theorem dX10_whose_61 : decode cX10_whose 61 = .ok (.ior, 1) := by decide +kernel
theorem dX10_whose_62 : decode cX10_whose 62 = .ok (.istore_n 3, 1) := by decide +kernel
theorem dX10_whose_63 : decode cX10_whose 63 = .ok (.iinc 4 1, 3) := by decide +kernel
theorem dX10_whose_66 : decode cX10_whose 66 = .ok (.goto (-49), 3) := by decide +kernel
theorem dX10_whose_69 : decode cX10_whose 69 = .ok (.iload_n 3, 1) := by decide +kernel
theorem dX10_whose_70 : decode cX10_whose 70 = .ok (.ireturn, 1) := by decide +kernel
def J_X10_whose_63 (c17 : Nat → Int32 → Int32 → Int32 → e_G → Option (Int32 × e_G)) (S : e_S) (l0 : Nat) (l1 : Int32) (l3 : Int32) (l4 : Int32) (g : e_G) : Option (Int32 × e_G) :=
  c17 l0 l1 l3 (l4 + (1 : Int32)) g
def L_X10_whose_17 : Nat → e_S → Nat → Int32 → Int32 → Int32 → e_G → Option (Int32 × e_G)
  | 0, _, _, _, _, _, _ => none
  | n + 1, S, l0, l1, l3, l4, g =>
  (e_gR S g 10 l0 2).bind fun v1 =>
  (e_gI S g 7 v1 6).bind fun v3 =>
  if v3 ≤ l4 then
    some (l3, g)
  else
    (e_gR S g 10 l0 3).bind fun v5 =>
    (e_gR S g 10 l0 2).bind fun v7 =>
    (f_X7_become S v5 v7 g).bind fun q10 =>
    (e_gR S q10 10 l0 1).bind fun v11 =>
    (e_aR S q10 4 v11 l1).bind fun v13 =>
    (f_X10_firstOtherwise S l0 v13 l4 q10).bind fun q16 =>
    if q16.1 = (-1 : Int32) then
      J_X10_whose_63 (L_X10_whose_17 n S) S l0 l1 (l3 ||| ((1 : Int32) <<< (l4 &&& 31))) l4 q16.2
    else
      J_X10_whose_63 (L_X10_whose_17 n S) S l0 l1 l3 l4 q16.2
def f_X10_whose (S : e_S) (l0 : Nat) (l1 : Int32) (g : e_G) : Option (Int32 × e_G) :=
  if e_ob S 10 l0 = true then
    (f_X10_refusalOfSheet S l0 l1 g).bind fun q2 =>
    if q2.1 = 0 then
      L_X10_whose_17 50000 S l0 l1 (0 : Int32) (0 : Int32) q2.2
    else
      some (q2.1, q2.2)
  else none
theorem x_J_X10_whose_63 {l : Launch} {D : va_G} {S : e_S} {w : Int32} {k : e_G} (c17 : Nat → Int32 → Int32 → Int32 → e_G → Option (Int32 × e_G)) (hc17 : ∀ (l0 : Nat) (l1 : Int32) (l3 : Int32) (l4 : Int32) (g : e_G), c17 l0 l1 l3 l4 g = some (w, k) → X l D (e_R 7) M_X10_whose 0 0 17 [(0, .ref l0), (1, .int l1), (3, .int l3), (4, .int l4)] [] (S, g) (some (.int w)) (S, k)) {l0 : Nat} {l1 : Int32} {l3 : Int32} {l4 : Int32} {g : e_G} (hf : J_X10_whose_63 c17 S l0 l1 l3 l4 g = some (w, k)) : X l D (e_R 7) M_X10_whose 0 0 63 [(0, .ref l0), (1, .int l1), (3, .int l3), (4, .int l4)] [] (S, g) (some (.int w)) (S, k) := by
  unfold J_X10_whose_63 at hf
  refine X.iinc (j := 3) dX10_whose_63 rfl (v := l4 + (1 : Int32)) (by rw [kI_1]) (Nat.le_of_ble_eq_true rfl) (lc' := [(4, .int (l4 + (1 : Int32))), (0, .ref l0), (1, .int l1), (3, .int l3)]) rfl ?_
  refine X.goto dX10_whose_66 (tgt := 17) rfl ?_
  refine X.sub [1, 2, 3, 0] rfl ?_
  exact hc17 _ _ _ _ _ hf
theorem x_L_X10_whose_17 {l : Launch} {D : va_G} {S : e_S} {w : Int32} {k : e_G} : ∀ (n : Nat) (l0 : Nat) (l1 : Int32) (l3 : Int32) (l4 : Int32) (g : e_G), L_X10_whose_17 n S l0 l1 l3 l4 g = some (w, k) → X l D (e_R 7) M_X10_whose 0 0 17 [(0, .ref l0), (1, .int l1), (3, .int l3), (4, .int l4)] [] (S, g) (some (.int w)) (S, k) := by
  intro n
  induction n with
  | zero =>
    intro l0 l1 l3 l4 g hf
    cases hf
  | succ n ih =>
    intro l0 l1 l3 l4 g hf
    rw [L_X10_whose_17] at hf
    refine X.iload dX10_whose_17 (j := 3) rfl ?_
    refine X.aload_n dX10_whose_19 rfl (j := 0) rfl ?_
    obtain ⟨v1, h2, hf⟩ := ob hf
    refine Y.getR dX10_whose_20 fl_X10_63 rfl h2 ?_
    obtain ⟨v3, h4, hf⟩ := ob hf
    refine Y.getI dX10_whose_23 fl_X10_93 rfl h4 ?_
    refine X.icmp_ge dX10_whose_26 (tgt := 69) rfl (fun hc => ?_) (fun hc => ?_)
    · rw [if_pos hc] at hf
      refine X.iload_n dX10_whose_69 rfl (j := 2) rfl ?_
      obtain ⟨e1, e2⟩ := e_ret hf
      subst e1
      subst e2
      exact X.iret dX10_whose_70 rfl rfl
    · rw [if_neg hc] at hf
      refine X.aload_n dX10_whose_29 rfl (j := 0) rfl ?_
      obtain ⟨v5, h6, hf⟩ := ob hf
      refine Y.getR dX10_whose_30 fl_X10_67 rfl h6 ?_
      refine X.aload_n dX10_whose_33 rfl (j := 0) rfl ?_
      obtain ⟨v7, h8, hf⟩ := ob hf
      refine Y.getR dX10_whose_34 fl_X10_63 rfl h8 ?_
      obtain ⟨q10, h9, hf⟩ := ob hf
      refine Y.callV (av := [.ref v7]) (ci := 7) dX10_whose_37 (c_X7_become (l := l) (D := D) h9) cw_X10_189 (by decide) rfl mk_X7_become (o_X7_become (k := q10) h9) (e_R_ok (Nat.le_of_ble_eq_true rfl) (Nat.le_of_ble_eq_true rfl)) ⟨rfl, rfl⟩ (by simp [Value.category]) ?_
      refine X.aload_n dX10_whose_40 rfl (j := 0) rfl ?_
      refine X.aload_n dX10_whose_41 rfl (j := 0) rfl ?_
      obtain ⟨v11, h12, hf⟩ := ob hf
      refine Y.getR dX10_whose_42 fl_X10_17 rfl h12 ?_
      refine X.iload_n dX10_whose_45 rfl (j := 1) rfl ?_
      obtain ⟨v13, h14, hf⟩ := ob hf
      refine Y.aald dX10_whose_46 (kd := 4) (by decide) h14 ?_
      refine X.iload dX10_whose_47 (j := 3) rfl ?_
      obtain ⟨q16, h15, hf⟩ := ob hf
      refine Y.callV (av := [.ref v13, .int l4]) (ci := 10) dX10_whose_49 (c_X10_firstOtherwise (l := l) (D := D) (w := q16.1) (k := q16.2) h15) cw_X10_229 (by decide) rfl mk_X10_firstOtherwise (o_X10_firstOtherwise (w := q16.1) (k := q16.2) h15) (e_R_ok (Nat.le_of_ble_eq_true rfl) (Nat.le_of_ble_eq_true rfl)) ⟨rfl, rfl⟩ (by simp [Value.category]) ?_
      refine X.iconst dX10_whose_52 kI_m1 ?_
      refine X.icmp_ne dX10_whose_53 (tgt := 63) rfl (fun hc => ?_) (fun hc => ?_)
      · rw [if_neg hc] at hf
        exact x_J_X10_whose_63 _ ih hf
      · rw [if_pos hc] at hf
        refine X.iload_n dX10_whose_56 rfl (j := 2) rfl ?_
        refine X.iconst dX10_whose_57 kI_1 ?_
        refine X.iload dX10_whose_58 (j := 3) rfl ?_
        refine X.ishl dX10_whose_60 ?_
        refine X.ior dX10_whose_61 ?_
        refine X.istore_n dX10_whose_62 rfl (Nat.le_of_ble_eq_true rfl) (lc' := [(3, .int (l3 ||| ((1 : Int32) <<< (l4 &&& 31)))), (0, .ref l0), (1, .int l1), (4, .int l4)]) rfl ?_
        refine X.sub [1, 2, 0, 3] rfl ?_
        exact x_J_X10_whose_63 _ ih hf
theorem o_X10_whose  {S : e_S} {w : Int32} {k : e_G} {l0 : Nat} {l1 : Int32} {g : e_G} (hf : f_X10_whose S l0 l1 g = some (w, k)) : e_ob S 10 l0 = true := by
  unfold f_X10_whose at hf
  by_cases hc : e_ob S 10 l0 = true
  · exact hc
  · rw [if_neg hc] at hf
    cases hf
theorem c_X10_whose {l : Launch} {D : va_G}  {S : e_S} {w : Int32} {k : e_G} {l0 : Nat} {l1 : Int32} {g : e_G} (hf : f_X10_whose S l0 l1 g = some (w, k)) : CT l D (e_R 7) M_X10_whose [.ref l0, .int l1] (S, g) (some (.int w)) (S, k) := by
  refine CT.of (by decide +kernel) (Nat.le_of_ble_eq_true rfl) ?_
  have ho := o_X10_whose hf
  unfold f_X10_whose at hf
  rw [if_pos ho] at hf
  show X l D (e_R 7) M_X10_whose 0 0 0 [(0, .ref l0), (1, .int l1)] [] (S, g) (some (.int w)) (S, k)
  refine X.aload_n dX10_whose_0 rfl (j := 0) rfl ?_
  refine X.iload_n dX10_whose_1 rfl (j := 1) rfl ?_
  obtain ⟨q2, h1, hf⟩ := ob hf
  refine Y.callV (av := [.int l1]) (ci := 10) dX10_whose_2 (c_X10_refusalOfSheet (l := l) (D := D) (w := q2.1) (k := q2.2) h1) cw_X10_233 (by decide) rfl mk_X10_refusalOfSheet (o_X10_refusalOfSheet (w := q2.1) (k := q2.2) h1) (e_R_ok (Nat.le_of_ble_eq_true rfl) (Nat.le_of_ble_eq_true rfl)) ⟨rfl, rfl⟩ (by simp [Value.category]) ?_
  refine X.istore_n dX10_whose_5 rfl (Nat.le_of_ble_eq_true rfl) (lc' := [(2, .int q2.1), (0, .ref l0), (1, .int l1)]) rfl ?_
  refine X.iload_n dX10_whose_6 rfl (j := 0) rfl ?_
  refine X.if_eq dX10_whose_7 (tgt := 12) rfl (fun hc => ?_) (fun hc => ?_)
  · rw [if_pos hc] at hf
    refine X.iconst dX10_whose_12 kI_0 ?_
    refine X.istore_n dX10_whose_13 rfl (Nat.le_of_ble_eq_true rfl) (lc' := [(3, .int (0 : Int32)), (2, .int q2.1), (0, .ref l0), (1, .int l1)]) rfl ?_
    refine X.iconst dX10_whose_14 kI_0 ?_
    refine X.istore dX10_whose_15 (Nat.le_of_ble_eq_true rfl) (lc' := [(4, .int (0 : Int32)), (3, .int (0 : Int32)), (2, .int q2.1), (0, .ref l0), (1, .int l1)]) rfl ?_
    refine X.sub [3, 4, 1, 0] rfl ?_
    exact x_L_X10_whose_17 50000 _ _ _ _ _ hf
  · rw [if_neg hc] at hf
    refine X.iload_n dX10_whose_10 rfl (j := 0) rfl ?_
    obtain ⟨e1, e2⟩ := e_ret hf
    subst e1
    subst e2
    exact X.iret dX10_whose_11 rfl rfl
/-! LeanedOut.laws(II)I -/
abbrev M_X10_laws : e_M := (yX10_laws, cX10_laws, 6, (some .int))
theorem mk_X10_laws : e_Mok M_X10_laws 2 := ⟨by decide +kernel, by decide +kernel, by decide +kernel⟩
theorem dX10_laws_0 : decode cX10_laws 0 = .ok (.aload_n 0, 1) := by decide +kernel
theorem dX10_laws_1 : decode cX10_laws 1 = .ok (.iload_n 1, 1) := by decide +kernel
theorem dX10_laws_2 : decode cX10_laws 2 = .ok (.iload_n 2, 1) := by decide +kernel
theorem dX10_laws_3 : decode cX10_laws 3 = .ok (.invokevirtual 226, 3) := by decide +kernel
theorem dX10_laws_6 : decode cX10_laws 6 = .ok (.istore_n 3, 1) := by decide +kernel
theorem dX10_laws_7 : decode cX10_laws 7 = .ok (.iload_n 3, 1) := by decide +kernel
theorem dX10_laws_8 : decode cX10_laws 8 = .ok (.ifCond .eq 5, 3) := by decide +kernel
theorem dX10_laws_11 : decode cX10_laws 11 = .ok (.iload_n 3, 1) := by decide +kernel
theorem dX10_laws_12 : decode cX10_laws 12 = .ok (.ireturn, 1) := by decide +kernel
theorem dX10_laws_13 : decode cX10_laws 13 = .ok (.iconst 0, 1) := by decide +kernel
theorem dX10_laws_14 : decode cX10_laws 14 = .ok (.istore 4, 2) := by decide +kernel
theorem dX10_laws_16 : decode cX10_laws 16 = .ok (.iconst 0, 1) := by decide +kernel
theorem dX10_laws_17 : decode cX10_laws 17 = .ok (.istore 5, 2) := by decide +kernel
theorem dX10_laws_19 : decode cX10_laws 19 = .ok (.iload 5, 2) := by decide +kernel
theorem dX10_laws_21 : decode cX10_laws 21 = .ok (.aload_n 0, 1) := by decide +kernel
theorem dX10_laws_22 : decode cX10_laws 22 = .ok (.getfield 89, 3) := by decide +kernel
theorem dX10_laws_25 : decode cX10_laws 25 = .ok (.if_icmp .ge 53, 3) := by decide +kernel
theorem dX10_laws_28 : decode cX10_laws 28 = .ok (.aload_n 0, 1) := by decide +kernel
theorem dX10_laws_29 : decode cX10_laws 29 = .ok (.getfield 67, 3) := by decide +kernel
theorem dX10_laws_32 : decode cX10_laws 32 = .ok (.aload_n 0, 1) := by decide +kernel
theorem dX10_laws_33 : decode cX10_laws 33 = .ok (.getfield 63, 3) := by decide +kernel
theorem dX10_laws_36 : decode cX10_laws 36 = .ok (.invokevirtual 189, 3) := by decide +kernel
theorem dX10_laws_39 : decode cX10_laws 39 = .ok (.aload_n 0, 1) := by decide +kernel
theorem dX10_laws_40 : decode cX10_laws 40 = .ok (.getfield 67, 3) := by decide +kernel
theorem dX10_laws_43 : decode cX10_laws 43 = .ok (.iload 5, 2) := by decide +kernel
theorem dX10_laws_45 : decode cX10_laws 45 = .ok (.putfield 108, 3) := by decide +kernel
theorem dX10_laws_48 : decode cX10_laws 48 = .ok (.aload_n 0, 1) := by decide +kernel
theorem dX10_laws_49 : decode cX10_laws 49 = .ok (.aload_n 0, 1) := by decide +kernel
theorem dX10_laws_50 : decode cX10_laws 50 = .ok (.getfield 17, 3) := by decide +kernel
theorem dX10_laws_53 : decode cX10_laws 53 = .ok (.iload_n 1, 1) := by decide +kernel
theorem dX10_laws_54 : decode cX10_laws 54 = .ok (.aaload, 1) := by decide +kernel
theorem dX10_laws_55 : decode cX10_laws 55 = .ok (.iload_n 2, 1) := by decide +kernel
theorem dX10_laws_56 : decode cX10_laws 56 = .ok (.invokevirtual 229, 3) := by decide +kernel
theorem dX10_laws_59 : decode cX10_laws 59 = .ok (.iconst (-1), 1) := by decide +kernel
theorem dX10_laws_60 : decode cX10_laws 60 = .ok (.if_icmp .ne 12, 3) := by decide +kernel
theorem dX10_laws_63 : decode cX10_laws 63 = .ok (.iload 4, 2) := by decide +kernel
theorem dX10_laws_65 : decode cX10_laws 65 = .ok (.iconst 1, 1) := by decide +kernel
theorem dX10_laws_66 : decode cX10_laws 66 = .ok (.iload 5, 2) := by decide +kernel
theorem dX10_laws_68 : decode cX10_laws 68 = .ok (.ishl, 1) := by decide +kernel
theorem dX10_laws_69 : decode cX10_laws 69 = .ok (.ior, 1) := by decide +kernel
theorem dX10_laws_70 : decode cX10_laws 70 = .ok (.istore 4, 2) := by decide +kernel
theorem dX10_laws_72 : decode cX10_laws 72 = .ok (.iinc 5 1, 3) := by decide +kernel
theorem dX10_laws_75 : decode cX10_laws 75 = .ok (.goto (-56), 3) := by decide +kernel
theorem dX10_laws_78 : decode cX10_laws 78 = .ok (.iload 4, 2) := by decide +kernel
theorem dX10_laws_80 : decode cX10_laws 80 = .ok (.ireturn, 1) := by decide +kernel
def J_X10_laws_72 (c19 : Nat → Int32 → Int32 → Int32 → Int32 → e_G → Option (Int32 × e_G)) (S : e_S) (l0 : Nat) (l1 : Int32) (l2 : Int32) (l4 : Int32) (l5 : Int32) (g : e_G) : Option (Int32 × e_G) :=
  c19 l0 l1 l2 l4 (l5 + (1 : Int32)) g
def L_X10_laws_19 : Nat → e_S → Nat → Int32 → Int32 → Int32 → Int32 → e_G → Option (Int32 × e_G)
  | 0, _, _, _, _, _, _, _ => none
  | n + 1, S, l0, l1, l2, l4, l5, g =>
  (e_gI S g 10 l0 9).bind fun v1 =>
  if v1 ≤ l5 then
    some (l4, g)
  else
    (e_gR S g 10 l0 3).bind fun v3 =>
    (e_gR S g 10 l0 2).bind fun v5 =>
    (f_X7_become S v3 v5 g).bind fun q8 =>
    (e_gR S q8 10 l0 3).bind fun v9 =>
    (e_sI S q8 7 v9 8 l5).bind fun g11 =>
    (e_gR S g11 10 l0 1).bind fun v13 =>
    (e_aR S g11 4 v13 l1).bind fun v15 =>
    (f_X10_firstOtherwise S l0 v15 l2 g11).bind fun q18 =>
    if q18.1 = (-1 : Int32) then
      J_X10_laws_72 (L_X10_laws_19 n S) S l0 l1 l2 (l4 ||| ((1 : Int32) <<< (l5 &&& 31))) l5 q18.2
    else
      J_X10_laws_72 (L_X10_laws_19 n S) S l0 l1 l2 l4 l5 q18.2
def f_X10_laws (S : e_S) (l0 : Nat) (l1 : Int32) (l2 : Int32) (g : e_G) : Option (Int32 × e_G) :=
  if e_ob S 10 l0 = true then
    (f_X10_refusalOf S l0 l1 l2 g).bind fun q2 =>
    if q2.1 = 0 then
      L_X10_laws_19 50000 S l0 l1 l2 (0 : Int32) (0 : Int32) q2.2
    else
      some (q2.1, q2.2)
  else none
theorem x_J_X10_laws_72 {l : Launch} {D : va_G} {S : e_S} {w : Int32} {k : e_G} (c19 : Nat → Int32 → Int32 → Int32 → Int32 → e_G → Option (Int32 × e_G)) (hc19 : ∀ (l0 : Nat) (l1 : Int32) (l2 : Int32) (l4 : Int32) (l5 : Int32) (g : e_G), c19 l0 l1 l2 l4 l5 g = some (w, k) → X l D (e_R 7) M_X10_laws 0 0 19 [(0, .ref l0), (1, .int l1), (2, .int l2), (4, .int l4), (5, .int l5)] [] (S, g) (some (.int w)) (S, k)) {l0 : Nat} {l1 : Int32} {l2 : Int32} {l4 : Int32} {l5 : Int32} {g : e_G} (hf : J_X10_laws_72 c19 S l0 l1 l2 l4 l5 g = some (w, k)) : X l D (e_R 7) M_X10_laws 0 0 72 [(0, .ref l0), (1, .int l1), (2, .int l2), (4, .int l4), (5, .int l5)] [] (S, g) (some (.int w)) (S, k) := by
  unfold J_X10_laws_72 at hf
  refine X.iinc (j := 4) dX10_laws_72 rfl (v := l5 + (1 : Int32)) (by rw [kI_1]) (Nat.le_of_ble_eq_true rfl) (lc' := [(5, .int (l5 + (1 : Int32))), (0, .ref l0), (1, .int l1), (2, .int l2), (4, .int l4)]) rfl ?_
  refine X.goto dX10_laws_75 (tgt := 19) rfl ?_
  refine X.sub [1, 2, 3, 4, 0] rfl ?_
  exact hc19 _ _ _ _ _ _ hf
theorem x_L_X10_laws_19 {l : Launch} {D : va_G} {S : e_S} {w : Int32} {k : e_G} : ∀ (n : Nat) (l0 : Nat) (l1 : Int32) (l2 : Int32) (l4 : Int32) (l5 : Int32) (g : e_G), L_X10_laws_19 n S l0 l1 l2 l4 l5 g = some (w, k) → X l D (e_R 7) M_X10_laws 0 0 19 [(0, .ref l0), (1, .int l1), (2, .int l2), (4, .int l4), (5, .int l5)] [] (S, g) (some (.int w)) (S, k) := by
  intro n
  induction n with
  | zero =>
    intro l0 l1 l2 l4 l5 g hf
    cases hf
  | succ n ih =>
    intro l0 l1 l2 l4 l5 g hf
    rw [L_X10_laws_19] at hf
    refine X.iload dX10_laws_19 (j := 4) rfl ?_
    refine X.aload_n dX10_laws_21 rfl (j := 0) rfl ?_
    obtain ⟨v1, h2, hf⟩ := ob hf
    refine Y.getI dX10_laws_22 fl_X10_89 rfl h2 ?_
    refine X.icmp_ge dX10_laws_25 (tgt := 78) rfl (fun hc => ?_) (fun hc => ?_)
    · rw [if_pos hc] at hf
      refine X.iload dX10_laws_78 (j := 3) rfl ?_
      obtain ⟨e1, e2⟩ := e_ret hf
      subst e1
      subst e2
      exact X.iret dX10_laws_80 rfl rfl
    · rw [if_neg hc] at hf
      refine X.aload_n dX10_laws_28 rfl (j := 0) rfl ?_
      obtain ⟨v3, h4, hf⟩ := ob hf
      refine Y.getR dX10_laws_29 fl_X10_67 rfl h4 ?_
      refine X.aload_n dX10_laws_32 rfl (j := 0) rfl ?_
      obtain ⟨v5, h6, hf⟩ := ob hf
      refine Y.getR dX10_laws_33 fl_X10_63 rfl h6 ?_
      obtain ⟨q8, h7, hf⟩ := ob hf
      refine Y.callV (av := [.ref v5]) (ci := 7) dX10_laws_36 (c_X7_become (l := l) (D := D) h7) cw_X10_189 (by decide) rfl mk_X7_become (o_X7_become (k := q8) h7) (e_R_ok (Nat.le_of_ble_eq_true rfl) (Nat.le_of_ble_eq_true rfl)) ⟨rfl, rfl⟩ (by simp [Value.category]) ?_
      refine X.aload_n dX10_laws_39 rfl (j := 0) rfl ?_
      obtain ⟨v9, h10, hf⟩ := ob hf
      refine Y.getR dX10_laws_40 fl_X10_67 rfl h10 ?_
      refine X.iload dX10_laws_43 (j := 4) rfl ?_
      obtain ⟨g11, h12, hf⟩ := ob hf
      refine Y.putI dX10_laws_45 fl_X10_108 rfl rfl rfl rfl h12 ?_
      refine X.aload_n dX10_laws_48 rfl (j := 0) rfl ?_
      refine X.aload_n dX10_laws_49 rfl (j := 0) rfl ?_
      obtain ⟨v13, h14, hf⟩ := ob hf
      refine Y.getR dX10_laws_50 fl_X10_17 rfl h14 ?_
      refine X.iload_n dX10_laws_53 rfl (j := 1) rfl ?_
      obtain ⟨v15, h16, hf⟩ := ob hf
      refine Y.aald dX10_laws_54 (kd := 4) (by decide) h16 ?_
      refine X.iload_n dX10_laws_55 rfl (j := 2) rfl ?_
      obtain ⟨q18, h17, hf⟩ := ob hf
      refine Y.callV (av := [.ref v15, .int l2]) (ci := 10) dX10_laws_56 (c_X10_firstOtherwise (l := l) (D := D) (w := q18.1) (k := q18.2) h17) cw_X10_229 (by decide) rfl mk_X10_firstOtherwise (o_X10_firstOtherwise (w := q18.1) (k := q18.2) h17) (e_R_ok (Nat.le_of_ble_eq_true rfl) (Nat.le_of_ble_eq_true rfl)) ⟨rfl, rfl⟩ (by simp [Value.category]) ?_
      refine X.iconst dX10_laws_59 kI_m1 ?_
      refine X.icmp_ne dX10_laws_60 (tgt := 72) rfl (fun hc => ?_) (fun hc => ?_)
      · rw [if_neg hc] at hf
        exact x_J_X10_laws_72 _ ih hf
      · rw [if_pos hc] at hf
        refine X.iload dX10_laws_63 (j := 3) rfl ?_
        refine X.iconst dX10_laws_65 kI_1 ?_
        refine X.iload dX10_laws_66 (j := 4) rfl ?_
        refine X.ishl dX10_laws_68 ?_
        refine X.ior dX10_laws_69 ?_
        refine X.istore dX10_laws_70 (Nat.le_of_ble_eq_true rfl) (lc' := [(4, .int (l4 ||| ((1 : Int32) <<< (l5 &&& 31)))), (0, .ref l0), (1, .int l1), (2, .int l2), (5, .int l5)]) rfl ?_
        refine X.sub [1, 2, 3, 0, 4] rfl ?_
        exact x_J_X10_laws_72 _ ih hf
theorem o_X10_laws  {S : e_S} {w : Int32} {k : e_G} {l0 : Nat} {l1 : Int32} {l2 : Int32} {g : e_G} (hf : f_X10_laws S l0 l1 l2 g = some (w, k)) : e_ob S 10 l0 = true := by
  unfold f_X10_laws at hf
  by_cases hc : e_ob S 10 l0 = true
  · exact hc
  · rw [if_neg hc] at hf
    cases hf
theorem c_X10_laws {l : Launch} {D : va_G}  {S : e_S} {w : Int32} {k : e_G} {l0 : Nat} {l1 : Int32} {l2 : Int32} {g : e_G} (hf : f_X10_laws S l0 l1 l2 g = some (w, k)) : CT l D (e_R 7) M_X10_laws [.ref l0, .int l1, .int l2] (S, g) (some (.int w)) (S, k) := by
  refine CT.of (by decide +kernel) (Nat.le_of_ble_eq_true rfl) ?_
  have ho := o_X10_laws hf
  unfold f_X10_laws at hf
  rw [if_pos ho] at hf
  show X l D (e_R 7) M_X10_laws 0 0 0 [(0, .ref l0), (1, .int l1), (2, .int l2)] [] (S, g) (some (.int w)) (S, k)
  refine X.aload_n dX10_laws_0 rfl (j := 0) rfl ?_
  refine X.iload_n dX10_laws_1 rfl (j := 1) rfl ?_
  refine X.iload_n dX10_laws_2 rfl (j := 2) rfl ?_
  obtain ⟨q2, h1, hf⟩ := ob hf
  refine Y.callV (av := [.int l1, .int l2]) (ci := 10) dX10_laws_3 (c_X10_refusalOf (l := l) (D := D) (w := q2.1) (k := q2.2) h1) cw_X10_226 (by decide) rfl mk_X10_refusalOf (o_X10_refusalOf (w := q2.1) (k := q2.2) h1) (e_R_ok (Nat.le_of_ble_eq_true rfl) (Nat.le_of_ble_eq_true rfl)) ⟨rfl, rfl⟩ (by simp [Value.category]) ?_
  refine X.istore_n dX10_laws_6 rfl (Nat.le_of_ble_eq_true rfl) (lc' := [(3, .int q2.1), (0, .ref l0), (1, .int l1), (2, .int l2)]) rfl ?_
  refine X.iload_n dX10_laws_7 rfl (j := 0) rfl ?_
  refine X.if_eq dX10_laws_8 (tgt := 13) rfl (fun hc => ?_) (fun hc => ?_)
  · rw [if_pos hc] at hf
    refine X.iconst dX10_laws_13 kI_0 ?_
    refine X.istore dX10_laws_14 (Nat.le_of_ble_eq_true rfl) (lc' := [(4, .int (0 : Int32)), (3, .int q2.1), (0, .ref l0), (1, .int l1), (2, .int l2)]) rfl ?_
    refine X.iconst dX10_laws_16 kI_0 ?_
    refine X.istore dX10_laws_17 (Nat.le_of_ble_eq_true rfl) (lc' := [(5, .int (0 : Int32)), (4, .int (0 : Int32)), (3, .int q2.1), (0, .ref l0), (1, .int l1), (2, .int l2)]) rfl ?_
    refine X.sub [3, 4, 5, 1, 0] rfl ?_
    exact x_L_X10_laws_19 50000 _ _ _ _ _ _ hf
  · rw [if_neg hc] at hf
    refine X.iload_n dX10_laws_11 rfl (j := 0) rfl ?_
    obtain ⟨e1, e2⟩ := e_ret hf
    subst e1
    subst e2
    exact X.iret dX10_laws_12 rfl rfl
/-! LeanedOut.film(III)I -/
abbrev M_X10_film : e_M := (yX10_film, cX10_film, 5, (some .int))
theorem mk_X10_film : e_Mok M_X10_film 3 := ⟨by decide +kernel, by decide +kernel, by decide +kernel⟩
theorem dX10_film_0 : decode cX10_film 0 = .ok (.iload_n 1, 1) := by decide +kernel
theorem dX10_film_1 : decode cX10_film 1 = .ok (.invokestatic 236, 3) := by decide +kernel
theorem dX10_film_4 : decode cX10_film 4 = .ok (.ifCond .ne 6, 3) := by decide +kernel
theorem dX10_film_7 : decode cX10_film 7 = .ok (.bipush (-2), 2) := by decide +kernel
theorem dX10_film_9 : decode cX10_film 9 = .ok (.ireturn, 1) := by decide +kernel
theorem dX10_film_10 : decode cX10_film 10 = .ok (.aload_n 0, 1) := by decide +kernel
theorem dX10_film_11 : decode cX10_film 11 = .ok (.getfield 63, 3) := by decide +kernel
theorem dX10_film_14 : decode cX10_film 14 = .ok (.iload_n 2, 1) := by decide +kernel
theorem dX10_film_15 : decode cX10_film 15 = .ok (.invokevirtual 122, 3) := by decide +kernel
theorem dX10_film_18 : decode cX10_film 18 = .ok (.ifCond .ne 6, 3) := by decide +kernel
theorem dX10_film_21 : decode cX10_film 21 = .ok (.bipush (-5), 2) := by decide +kernel
theorem dX10_film_23 : decode cX10_film 23 = .ok (.ireturn, 1) := by decide +kernel
theorem dX10_film_24 : decode cX10_film 24 = .ok (.iload_n 3, 1) := by decide +kernel
theorem dX10_film_25 : decode cX10_film 25 = .ok (.ifCond .lt 9, 3) := by decide +kernel
theorem dX10_film_28 : decode cX10_film 28 = .ok (.iload_n 3, 1) := by decide +kernel
theorem dX10_film_29 : decode cX10_film 29 = .ok (.bipush 20, 2) := by decide +kernel
theorem dX10_film_31 : decode cX10_film 31 = .ok (.if_icmp .le 6, 3) := by decide +kernel
theorem dX10_film_34 : decode cX10_film 34 = .ok (.bipush (-7), 2) := by decide +kernel
theorem dX10_film_36 : decode cX10_film 36 = .ok (.ireturn, 1) := by decide +kernel
theorem dX10_film_37 : decode cX10_film 37 = .ok (.aload_n 0, 1) := by decide +kernel
theorem dX10_film_38 : decode cX10_film 38 = .ok (.getfield 17, 3) := by decide +kernel
theorem dX10_film_41 : decode cX10_film 41 = .ok (.iload_n 1, 1) := by decide +kernel
theorem dX10_film_42 : decode cX10_film 42 = .ok (.aaload, 1) := by decide +kernel
theorem dX10_film_43 : decode cX10_film 43 = .ok (.iconst 0, 1) := by decide +kernel
theorem dX10_film_44 : decode cX10_film 44 = .ok (.iload_n 3, 1) := by decide +kernel
theorem dX10_film_45 : decode cX10_film 45 = .ok (.invokevirtual 239, 3) := by decide +kernel
theorem dX10_film_48 : decode cX10_film 48 = .ok (.aload_n 0, 1) := by decide +kernel
theorem dX10_film_49 : decode cX10_film 49 = .ok (.getfield 67, 3) := by decide +kernel
theorem dX10_film_52 : decode cX10_film 52 = .ok (.aload_n 0, 1) := by decide +kernel
theorem dX10_film_53 : decode cX10_film 53 = .ok (.getfield 63, 3) := by decide +kernel
theorem dX10_film_56 : decode cX10_film 56 = .ok (.invokevirtual 189, 3) := by decide +kernel
theorem dX10_film_59 : decode cX10_film 59 = .ok (.iconst 0, 1) := by decide +kernel
theorem dX10_film_60 : decode cX10_film 60 = .ok (.istore 4, 2) := by decide +kernel
theorem dX10_film_62 : decode cX10_film 62 = .ok (.iload 4, 2) := by decide +kernel
theorem dX10_film_64 : decode cX10_film 64 = .ok (.iload_n 3, 1) := by decide +kernel
theorem dX10_film_65 : decode cX10_film 65 = .ok (.if_icmp .ge 37, 3) := by decide +kernel
theorem dX10_film_68 : decode cX10_film 68 = .ok (.aload_n 0, 1) := by decide +kernel
theorem dX10_film_69 : decode cX10_film 69 = .ok (.getfield 67, 3) := by decide +kernel
theorem dX10_film_72 : decode cX10_film 72 = .ok (.invokevirtual 185, 3) := by decide +kernel
theorem dX10_film_75 : decode cX10_film 75 = .ok (.pop, 1) := by decide +kernel
theorem dX10_film_76 : decode cX10_film 76 = .ok (.aload_n 0, 1) := by decide +kernel
theorem dX10_film_77 : decode cX10_film 77 = .ok (.getfield 17, 3) := by decide +kernel
theorem dX10_film_80 : decode cX10_film 80 = .ok (.iload_n 1, 1) := by decide +kernel
theorem dX10_film_81 : decode cX10_film 81 = .ok (.aaload, 1) := by decide +kernel
theorem dX10_film_82 : decode cX10_film 82 = .ok (.iload 4, 2) := by decide +kernel
theorem dX10_film_84 : decode cX10_film 84 = .ok (.aload_n 0, 1) := by decide +kernel
theorem dX10_film_85 : decode cX10_film 85 = .ok (.getfield 67, 3) := by decide +kernel
theorem dX10_film_88 : decode cX10_film 88 = .ok (.getfield 142, 3) := by decide +kernel
theorem dX10_film_91 : decode cX10_film 91 = .ok (.iload_n 2, 1) := by decide +kernel
theorem dX10_film_92 : decode cX10_film 92 = .ok (.iaload, 1) := by decide +kernel
theorem dX10_film_93 : decode cX10_film 93 = .ok (.invokevirtual 242, 3) := by decide +kernel
theorem dX10_film_96 : decode cX10_film 96 = .ok (.iinc 4 1, 3) := by decide +kernel
theorem dX10_film_99 : decode cX10_film 99 = .ok (.goto (-37), 3) := by decide +kernel
theorem dX10_film_102 : decode cX10_film 102 = .ok (.iload_n 3, 1) := by decide +kernel
theorem dX10_film_103 : decode cX10_film 103 = .ok (.ireturn, 1) := by decide +kernel
def L_X10_film_62 : Nat → e_S → Nat → Int32 → Int32 → Int32 → Int32 → e_G → Option (Int32 × e_G)
  | 0, _, _, _, _, _, _, _ => none
  | n + 1, S, l0, l1, l2, l3, l4, g =>
  if l3 ≤ l4 then
    some (l3, g)
  else
    (e_gR S g 10 l0 3).bind fun v1 =>
    (f_X7_passDay S v1 g).bind fun q4 =>
    (e_gR S q4.2 10 l0 1).bind fun v5 =>
    (e_aR S q4.2 4 v5 l1).bind fun v7 =>
    (e_gR S q4.2 10 l0 3).bind fun v9 =>
    (e_gR S q4.2 7 v9 2).bind fun v11 =>
    (e_aI S q4.2 0 v11 l2).bind fun v13 =>
    (f_X6_set S v7 l4 v13 q4.2).bind fun q16 =>
    L_X10_film_62 n S l0 l1 l2 l3 (l4 + (1 : Int32)) q16
def f_X10_film (S : e_S) (l0 : Nat) (l1 : Int32) (l2 : Int32) (l3 : Int32) (g : e_G) : Option (Int32 × e_G) :=
  if e_ob S 10 l0 = true then
    (f_X10_isSheet S l1 g).bind fun q2 =>
    if q2.1 = 0 then
      some ((-2 : Int32), q2.2)
    else
      (e_gR S q2.2 10 l0 2).bind fun v3 =>
      (f_X7_has S v3 l2 q2.2).bind fun q6 =>
      if q6.1 = 0 then
        some ((-5 : Int32), q6.2)
      else
        if l3 < 0 then
          some ((-7 : Int32), q6.2)
        else
          if l3 ≤ (20 : Int32) then
            (e_gR S q6.2 10 l0 1).bind fun v7 =>
            (e_aR S q6.2 4 v7 l1).bind fun v9 =>
            (f_X6_become S v9 (0 : Int32) l3 q6.2).bind fun q12 =>
            (e_gR S q12 10 l0 3).bind fun v13 =>
            (e_gR S q12 10 l0 2).bind fun v15 =>
            (f_X7_become S v13 v15 q12).bind fun q18 =>
            L_X10_film_62 50000 S l0 l1 l2 l3 (0 : Int32) q18
          else
            some ((-7 : Int32), q6.2)
  else none
theorem x_L_X10_film_62 {l : Launch} {D : va_G} {S : e_S} {w : Int32} {k : e_G} : ∀ (n : Nat) (l0 : Nat) (l1 : Int32) (l2 : Int32) (l3 : Int32) (l4 : Int32) (g : e_G), L_X10_film_62 n S l0 l1 l2 l3 l4 g = some (w, k) → X l D (e_R 6) M_X10_film 0 0 62 [(0, .ref l0), (1, .int l1), (2, .int l2), (3, .int l3), (4, .int l4)] [] (S, g) (some (.int w)) (S, k) := by
  intro n
  induction n with
  | zero =>
    intro l0 l1 l2 l3 l4 g hf
    cases hf
  | succ n ih =>
    intro l0 l1 l2 l3 l4 g hf
    rw [L_X10_film_62] at hf
    refine X.iload dX10_film_62 (j := 4) rfl ?_
    refine X.iload_n dX10_film_64 rfl (j := 3) rfl ?_
    refine X.icmp_ge dX10_film_65 (tgt := 102) rfl (fun hc => ?_) (fun hc => ?_)
    · rw [if_pos hc] at hf
      refine X.iload_n dX10_film_102 rfl (j := 3) rfl ?_
      obtain ⟨e1, e2⟩ := e_ret hf
      subst e1
      subst e2
      exact X.iret dX10_film_103 rfl rfl
    · rw [if_neg hc] at hf
      refine X.aload_n dX10_film_68 rfl (j := 0) rfl ?_
      obtain ⟨v1, h2, hf⟩ := ob hf
      refine Y.getR dX10_film_69 fl_X10_67 rfl h2 ?_
      obtain ⟨q4, h3, hf⟩ := ob hf
      refine Y.callV (av := []) (ci := 7) dX10_film_72 (c_X7_passDay (l := l) (D := D) (w := q4.1) (k := q4.2) h3) cw_X10_185 (by decide) rfl mk_X7_passDay (o_X7_passDay (w := q4.1) (k := q4.2) h3) (e_R_ok (Nat.le_of_ble_eq_true rfl) (Nat.le_of_ble_eq_true rfl)) ⟨rfl, rfl⟩ (by simp [Value.category]) ?_
      refine X.pop dX10_film_75 rfl ?_
      refine X.aload_n dX10_film_76 rfl (j := 0) rfl ?_
      obtain ⟨v5, h6, hf⟩ := ob hf
      refine Y.getR dX10_film_77 fl_X10_17 rfl h6 ?_
      refine X.iload_n dX10_film_80 rfl (j := 1) rfl ?_
      obtain ⟨v7, h8, hf⟩ := ob hf
      refine Y.aald dX10_film_81 (kd := 4) (by decide) h8 ?_
      refine X.iload dX10_film_82 (j := 4) rfl ?_
      refine X.aload_n dX10_film_84 rfl (j := 0) rfl ?_
      obtain ⟨v9, h10, hf⟩ := ob hf
      refine Y.getR dX10_film_85 fl_X10_67 rfl h10 ?_
      obtain ⟨v11, h12, hf⟩ := ob hf
      refine Y.getR dX10_film_88 fl_X10_142 rfl h12 ?_
      refine X.iload_n dX10_film_91 rfl (j := 2) rfl ?_
      obtain ⟨v13, h14, hf⟩ := ob hf
      refine Y.iald dX10_film_92 h14 ?_
      obtain ⟨q16, h15, hf⟩ := ob hf
      refine Y.callV (av := [.int l4, .int v13]) (ci := 6) dX10_film_93 (c_X6_set (l := l) (D := D) h15) cw_X10_242 (by decide) rfl mk_X6_set (o_X6_set (k := q16) h15) (e_R_ok (Nat.le_of_ble_eq_true rfl) (Nat.le_of_ble_eq_true rfl)) ⟨rfl, rfl⟩ (by simp [Value.category]) ?_
      refine X.iinc (j := 4) dX10_film_96 rfl (v := l4 + (1 : Int32)) (by rw [kI_1]) (Nat.le_of_ble_eq_true rfl) (lc' := [(4, .int (l4 + (1 : Int32))), (0, .ref l0), (1, .int l1), (2, .int l2), (3, .int l3)]) rfl ?_
      refine X.goto dX10_film_99 (tgt := 62) rfl ?_
      refine X.sub [1, 2, 3, 4, 0] rfl ?_
      exact ih _ _ _ _ _ _ hf
theorem o_X10_film  {S : e_S} {w : Int32} {k : e_G} {l0 : Nat} {l1 : Int32} {l2 : Int32} {l3 : Int32} {g : e_G} (hf : f_X10_film S l0 l1 l2 l3 g = some (w, k)) : e_ob S 10 l0 = true := by
  unfold f_X10_film at hf
  by_cases hc : e_ob S 10 l0 = true
  · exact hc
  · rw [if_neg hc] at hf
    cases hf
theorem c_X10_film {l : Launch} {D : va_G}  {S : e_S} {w : Int32} {k : e_G} {l0 : Nat} {l1 : Int32} {l2 : Int32} {l3 : Int32} {g : e_G} (hf : f_X10_film S l0 l1 l2 l3 g = some (w, k)) : CT l D (e_R 6) M_X10_film [.ref l0, .int l1, .int l2, .int l3] (S, g) (some (.int w)) (S, k) := by
  refine CT.of (by decide +kernel) (Nat.le_of_ble_eq_true rfl) ?_
  have ho := o_X10_film hf
  unfold f_X10_film at hf
  rw [if_pos ho] at hf
  show X l D (e_R 6) M_X10_film 0 0 0 [(0, .ref l0), (1, .int l1), (2, .int l2), (3, .int l3)] [] (S, g) (some (.int w)) (S, k)
  refine X.iload_n dX10_film_0 rfl (j := 1) rfl ?_
  obtain ⟨q2, h1, hf⟩ := ob hf
  refine Y.callS (av := [.int l1]) dX10_film_1 (c_X10_isSheet (l := l) (D := D) (w := q2.1) (k := q2.2) h1) cw_X10_236 mk_X10_isSheet (e_R_ok (Nat.le_of_ble_eq_true rfl) (Nat.le_of_ble_eq_true rfl)) ⟨rfl, rfl⟩ (by simp [Value.category]) ?_
  refine X.if_ne dX10_film_4 (tgt := 10) rfl (fun hc => ?_) (fun hc => ?_)
  · rw [if_neg hc] at hf
    refine X.aload_n dX10_film_10 rfl (j := 0) rfl ?_
    obtain ⟨v3, h4, hf⟩ := ob hf
    refine Y.getR dX10_film_11 fl_X10_63 rfl h4 ?_
    refine X.iload_n dX10_film_14 rfl (j := 2) rfl ?_
    obtain ⟨q6, h5, hf⟩ := ob hf
    refine Y.callV (av := [.int l2]) (ci := 7) dX10_film_15 (c_X7_has (l := l) (D := D) (w := q6.1) (k := q6.2) h5) cw_X10_122 (by decide) rfl mk_X7_has (o_X7_has (w := q6.1) (k := q6.2) h5) (e_R_ok (Nat.le_of_ble_eq_true rfl) (Nat.le_of_ble_eq_true rfl)) ⟨rfl, rfl⟩ (by simp [Value.category]) ?_
    refine X.if_ne dX10_film_18 (tgt := 24) rfl (fun hc => ?_) (fun hc => ?_)
    · rw [if_neg hc] at hf
      refine X.iload_n dX10_film_24 rfl (j := 3) rfl ?_
      refine X.if_lt dX10_film_25 (tgt := 34) rfl (fun hc => ?_) (fun hc => ?_)
      · rw [if_pos hc] at hf
        refine X.bipush dX10_film_34 kB_m7 ?_
        obtain ⟨e1, e2⟩ := e_ret hf
        subst e1
        subst e2
        exact X.iret dX10_film_36 rfl rfl
      · rw [if_neg hc] at hf
        refine X.iload_n dX10_film_28 rfl (j := 3) rfl ?_
        refine X.bipush dX10_film_29 kB_20 ?_
        refine X.icmp_le dX10_film_31 (tgt := 37) rfl (fun hc => ?_) (fun hc => ?_)
        · rw [if_pos hc] at hf
          refine X.aload_n dX10_film_37 rfl (j := 0) rfl ?_
          obtain ⟨v7, h8, hf⟩ := ob hf
          refine Y.getR dX10_film_38 fl_X10_17 rfl h8 ?_
          refine X.iload_n dX10_film_41 rfl (j := 1) rfl ?_
          obtain ⟨v9, h10, hf⟩ := ob hf
          refine Y.aald dX10_film_42 (kd := 4) (by decide) h10 ?_
          refine X.iconst dX10_film_43 kI_0 ?_
          refine X.iload_n dX10_film_44 rfl (j := 3) rfl ?_
          obtain ⟨q12, h11, hf⟩ := ob hf
          refine Y.callV (av := [.int (0 : Int32), .int l3]) (ci := 6) dX10_film_45 (c_X6_become (l := l) (D := D) h11) cw_X10_239 (by decide) rfl mk_X6_become (o_X6_become (k := q12) h11) (e_R_ok (Nat.le_of_ble_eq_true rfl) (Nat.le_of_ble_eq_true rfl)) ⟨rfl, rfl⟩ (by simp [Value.category]) ?_
          refine X.aload_n dX10_film_48 rfl (j := 0) rfl ?_
          obtain ⟨v13, h14, hf⟩ := ob hf
          refine Y.getR dX10_film_49 fl_X10_67 rfl h14 ?_
          refine X.aload_n dX10_film_52 rfl (j := 0) rfl ?_
          obtain ⟨v15, h16, hf⟩ := ob hf
          refine Y.getR dX10_film_53 fl_X10_63 rfl h16 ?_
          obtain ⟨q18, h17, hf⟩ := ob hf
          refine Y.callV (av := [.ref v15]) (ci := 7) dX10_film_56 (c_X7_become (l := l) (D := D) h17) cw_X10_189 (by decide) rfl mk_X7_become (o_X7_become (k := q18) h17) (e_R_ok (Nat.le_of_ble_eq_true rfl) (Nat.le_of_ble_eq_true rfl)) ⟨rfl, rfl⟩ (by simp [Value.category]) ?_
          refine X.iconst dX10_film_59 kI_0 ?_
          refine X.istore dX10_film_60 (Nat.le_of_ble_eq_true rfl) (lc' := [(4, .int (0 : Int32)), (0, .ref l0), (1, .int l1), (2, .int l2), (3, .int l3)]) rfl ?_
          refine X.sub [1, 2, 3, 4, 0] rfl ?_
          exact x_L_X10_film_62 50000 _ _ _ _ _ _ hf
        · rw [if_neg hc] at hf
          refine X.bipush dX10_film_34 kB_m7 ?_
          obtain ⟨e1, e2⟩ := e_ret hf
          subst e1
          subst e2
          exact X.iret dX10_film_36 rfl rfl
    · rw [if_pos hc] at hf
      refine X.bipush dX10_film_21 kB_m5 ?_
      obtain ⟨e1, e2⟩ := e_ret hf
      subst e1
      subst e2
      exact X.iret dX10_film_23 rfl rfl
  · rw [if_pos hc] at hf
    refine X.bipush dX10_film_7 kB_m2 ?_
    obtain ⟨e1, e2⟩ := e_ret hf
    subst e1
    subst e2
    exact X.iret dX10_film_9 rfl rfl
/-! LeanedOut.drawn(II)I -/
abbrev M_X10_drawn : e_M := (yX10_drawn, cX10_drawn, 3, (some .int))
theorem mk_X10_drawn : e_Mok M_X10_drawn 2 := ⟨by decide +kernel, by decide +kernel, by decide +kernel⟩
theorem dX10_drawn_0 : decode cX10_drawn 0 = .ok (.iload_n 1, 1) := by decide +kernel
theorem dX10_drawn_1 : decode cX10_drawn 1 = .ok (.ifCond .lt 18, 3) := by decide +kernel
theorem dX10_drawn_4 : decode cX10_drawn 4 = .ok (.iload_n 1, 1) := by decide +kernel
theorem dX10_drawn_5 : decode cX10_drawn 5 = .ok (.ldc 245, 2) := by decide +kernel
theorem dX10_drawn_7 : decode cX10_drawn 7 = .ok (.if_icmp .gt 12, 3) := by decide +kernel
theorem dX10_drawn_10 : decode cX10_drawn 10 = .ok (.iload_n 2, 1) := by decide +kernel
theorem dX10_drawn_11 : decode cX10_drawn 11 = .ok (.ifCond .lt 8, 3) := by decide +kernel
theorem dX10_drawn_14 : decode cX10_drawn 14 = .ok (.iload_n 2, 1) := by decide +kernel
theorem dX10_drawn_15 : decode cX10_drawn 15 = .ok (.iconst 1, 1) := by decide +kernel
theorem dX10_drawn_16 : decode cX10_drawn 16 = .ok (.if_icmp .le 6, 3) := by decide +kernel
theorem dX10_drawn_19 : decode cX10_drawn 19 = .ok (.bipush (-2), 2) := by decide +kernel
theorem dX10_drawn_21 : decode cX10_drawn 21 = .ok (.ireturn, 1) := by decide +kernel
theorem dX10_drawn_22 : decode cX10_drawn 22 = .ok (.aload_n 0, 1) := by decide +kernel
theorem dX10_drawn_23 : decode cX10_drawn 23 = .ok (.iload_n 1, 1) := by decide +kernel
theorem dX10_drawn_24 : decode cX10_drawn 24 = .ok (.invokevirtual 246, 3) := by decide +kernel
theorem dX10_drawn_27 : decode cX10_drawn 27 = .ok (.iload_n 2, 1) := by decide +kernel
theorem dX10_drawn_28 : decode cX10_drawn 28 = .ok (.ifCond .ne 13, 3) := by decide +kernel
theorem dX10_drawn_31 : decode cX10_drawn 31 = .ok (.aload_n 0, 1) := by decide +kernel
theorem dX10_drawn_32 : decode cX10_drawn 32 = .ok (.getfield 67, 3) := by decide +kernel
theorem dX10_drawn_35 : decode cX10_drawn 35 = .ok (.invokevirtual 96, 3) := by decide +kernel
theorem dX10_drawn_38 : decode cX10_drawn 38 = .ok (.goto 10, 3) := by decide +kernel
theorem dX10_drawn_41 : decode cX10_drawn 41 = .ok (.aload_n 0, 1) := by decide +kernel
theorem dX10_drawn_42 : decode cX10_drawn 42 = .ok (.getfield 67, 3) := by decide +kernel
theorem dX10_drawn_45 : decode cX10_drawn 45 = .ok (.invokevirtual 170, 3) := by decide +kernel
theorem dX10_drawn_48 : decode cX10_drawn 48 = .ok (.ireturn, 1) := by decide +kernel
def f_X10_drawn (S : e_S) (l0 : Nat) (l1 : Int32) (l2 : Int32) (g : e_G) : Option (Int32 × e_G) :=
  if e_ob S 10 l0 = true then
    if l1 < 0 then
      some ((-2 : Int32), g)
    else
      if (99999 : Int32) < l1 then
        some ((-2 : Int32), g)
      else
        if l2 < 0 then
          some ((-2 : Int32), g)
        else
          if l2 ≤ (1 : Int32) then
            (f_X10_passCraneDays S l0 l1 g).bind fun q2 =>
            if l2 = 0 then
              (e_gR S q2 10 l0 3).bind fun v7 =>
              (f_X7_keptBits S v7 q2).bind fun q10 =>
              some (q10.1, q10.2)
            else
              (e_gR S q2 10 l0 3).bind fun v3 =>
              (f_X7_meetings S v3 q2).bind fun q6 =>
              some (q6.1, q6.2)
          else
            some ((-2 : Int32), g)
  else none
theorem o_X10_drawn  {S : e_S} {w : Int32} {k : e_G} {l0 : Nat} {l1 : Int32} {l2 : Int32} {g : e_G} (hf : f_X10_drawn S l0 l1 l2 g = some (w, k)) : e_ob S 10 l0 = true := by
  unfold f_X10_drawn at hf
  by_cases hc : e_ob S 10 l0 = true
  · exact hc
  · rw [if_neg hc] at hf
    cases hf
theorem c_X10_drawn {l : Launch} {D : va_G}  {S : e_S} {w : Int32} {k : e_G} {l0 : Nat} {l1 : Int32} {l2 : Int32} {g : e_G} (hf : f_X10_drawn S l0 l1 l2 g = some (w, k)) : CT l D (e_R 7) M_X10_drawn [.ref l0, .int l1, .int l2] (S, g) (some (.int w)) (S, k) := by
  refine CT.of (by decide +kernel) (Nat.le_of_ble_eq_true rfl) ?_
  have ho := o_X10_drawn hf
  unfold f_X10_drawn at hf
  rw [if_pos ho] at hf
  show X l D (e_R 7) M_X10_drawn 0 0 0 [(0, .ref l0), (1, .int l1), (2, .int l2)] [] (S, g) (some (.int w)) (S, k)
  refine X.iload_n dX10_drawn_0 rfl (j := 1) rfl ?_
  refine X.if_lt dX10_drawn_1 (tgt := 19) rfl (fun hc => ?_) (fun hc => ?_)
  · rw [if_pos hc] at hf
    refine X.bipush dX10_drawn_19 kB_m2 ?_
    obtain ⟨e1, e2⟩ := e_ret hf
    subst e1
    subst e2
    exact X.iret dX10_drawn_21 rfl rfl
  · rw [if_neg hc] at hf
    refine X.iload_n dX10_drawn_4 rfl (j := 1) rfl ?_
    refine X.ldc dX10_drawn_5 ww_855 ?_
    refine X.icmp_gt dX10_drawn_7 (tgt := 19) rfl (fun hc => ?_) (fun hc => ?_)
    · rw [if_pos hc] at hf
      refine X.bipush dX10_drawn_19 kB_m2 ?_
      obtain ⟨e1, e2⟩ := e_ret hf
      subst e1
      subst e2
      exact X.iret dX10_drawn_21 rfl rfl
    · rw [if_neg hc] at hf
      refine X.iload_n dX10_drawn_10 rfl (j := 2) rfl ?_
      refine X.if_lt dX10_drawn_11 (tgt := 19) rfl (fun hc => ?_) (fun hc => ?_)
      · rw [if_pos hc] at hf
        refine X.bipush dX10_drawn_19 kB_m2 ?_
        obtain ⟨e1, e2⟩ := e_ret hf
        subst e1
        subst e2
        exact X.iret dX10_drawn_21 rfl rfl
      · rw [if_neg hc] at hf
        refine X.iload_n dX10_drawn_14 rfl (j := 2) rfl ?_
        refine X.iconst dX10_drawn_15 kI_1 ?_
        refine X.icmp_le dX10_drawn_16 (tgt := 22) rfl (fun hc => ?_) (fun hc => ?_)
        · rw [if_pos hc] at hf
          refine X.aload_n dX10_drawn_22 rfl (j := 0) rfl ?_
          refine X.iload_n dX10_drawn_23 rfl (j := 1) rfl ?_
          obtain ⟨q2, h1, hf⟩ := ob hf
          refine Y.callV (av := [.int l1]) (ci := 10) dX10_drawn_24 (c_X10_passCraneDays (l := l) (D := D) h1) cw_X10_246 (by decide) rfl mk_X10_passCraneDays (o_X10_passCraneDays (k := q2) h1) (e_R_ok (Nat.le_of_ble_eq_true rfl) (Nat.le_of_ble_eq_true rfl)) ⟨rfl, rfl⟩ (by simp [Value.category]) ?_
          refine X.iload_n dX10_drawn_27 rfl (j := 2) rfl ?_
          refine X.if_ne dX10_drawn_28 (tgt := 41) rfl (fun hc => ?_) (fun hc => ?_)
          · rw [if_neg hc] at hf
            refine X.aload_n dX10_drawn_41 rfl (j := 0) rfl ?_
            obtain ⟨v3, h4, hf⟩ := ob hf
            refine Y.getR dX10_drawn_42 fl_X10_67 rfl h4 ?_
            obtain ⟨q6, h5, hf⟩ := ob hf
            refine Y.callV (av := []) (ci := 7) dX10_drawn_45 (c_X7_meetings (l := l) (D := D) (w := q6.1) (k := q6.2) h5) cw_X10_170 (by decide) rfl mk_X7_meetings (o_X7_meetings (w := q6.1) (k := q6.2) h5) (e_R_ok (Nat.le_of_ble_eq_true rfl) (Nat.le_of_ble_eq_true rfl)) ⟨rfl, rfl⟩ (by simp [Value.category]) ?_
            obtain ⟨e1, e2⟩ := e_ret hf
            subst e1
            subst e2
            exact X.iret dX10_drawn_48 rfl rfl
          · rw [if_pos hc] at hf
            refine X.aload_n dX10_drawn_31 rfl (j := 0) rfl ?_
            obtain ⟨v7, h8, hf⟩ := ob hf
            refine Y.getR dX10_drawn_32 fl_X10_67 rfl h8 ?_
            obtain ⟨q10, h9, hf⟩ := ob hf
            refine Y.callV (av := []) (ci := 7) dX10_drawn_35 (c_X7_keptBits (l := l) (D := D) (w := q10.1) (k := q10.2) h9) cw_X10_96 (by decide) rfl mk_X7_keptBits (o_X7_keptBits (w := q10.1) (k := q10.2) h9) (e_R_ok (Nat.le_of_ble_eq_true rfl) (Nat.le_of_ble_eq_true rfl)) ⟨rfl, rfl⟩ (by simp [Value.category]) ?_
            refine X.goto dX10_drawn_38 (tgt := 48) rfl ?_
            obtain ⟨e1, e2⟩ := e_ret hf
            subst e1
            subst e2
            exact X.iret dX10_drawn_48 rfl rfl
        · rw [if_neg hc] at hf
          refine X.bipush dX10_drawn_19 kB_m2 ?_
          obtain ⟨e1, e2⟩ := e_ret hf
          subst e1
          subst e2
          exact X.iret dX10_drawn_21 rfl rfl
/-! LeanedOut.odds(IIII)J -/
abbrev M_X10_odds : e_M := (yX10_odds, cX10_odds, 7, (some .long))
theorem mk_X10_odds : e_Mok M_X10_odds 4 := ⟨by decide +kernel, by decide +kernel, by decide +kernel⟩
theorem dX10_odds_0 : decode cX10_odds 0 = .ok (.iload_n 1, 1) := by decide +kernel
theorem dX10_odds_1 : decode cX10_odds 1 = .ok (.ifCond .lt 20, 3) := by decide +kernel
theorem dX10_odds_4 : decode cX10_odds 4 = .ok (.iload_n 1, 1) := by decide +kernel
theorem dX10_odds_5 : decode cX10_odds 5 = .ok (.ldc 245, 2) := by decide +kernel
theorem dX10_odds_7 : decode cX10_odds 7 = .ok (.if_icmp .gt 14, 3) := by decide +kernel
theorem dX10_odds_10 : decode cX10_odds 10 = .ok (.iload_n 2, 1) := by decide +kernel
theorem dX10_odds_11 : decode cX10_odds 11 = .ok (.iconst 1, 1) := by decide +kernel
theorem dX10_odds_12 : decode cX10_odds 12 = .ok (.if_icmp .lt 9, 3) := by decide +kernel
theorem dX10_odds_15 : decode cX10_odds 15 = .ok (.iload_n 2, 1) := by decide +kernel
theorem dX10_odds_16 : decode cX10_odds 16 = .ok (.bipush 40, 2) := by decide +kernel
theorem dX10_odds_18 : decode cX10_odds 18 = .ok (.if_icmp .le 7, 3) := by decide +kernel
theorem dX10_odds_21 : decode cX10_odds 21 = .ok (.ldc2_w 220, 3) := by decide +kernel
theorem dX10_odds_24 : decode cX10_odds 24 = .ok (.lreturn, 1) := by decide +kernel
theorem dX10_odds_25 : decode cX10_odds 25 = .ok (.aload_n 0, 1) := by decide +kernel
theorem dX10_odds_26 : decode cX10_odds 26 = .ok (.getfield 63, 3) := by decide +kernel
theorem dX10_odds_29 : decode cX10_odds 29 = .ok (.iload_n 3, 1) := by decide +kernel
theorem dX10_odds_30 : decode cX10_odds 30 = .ok (.invokevirtual 122, 3) := by decide +kernel
theorem dX10_odds_33 : decode cX10_odds 33 = .ok (.ifCond .eq 14, 3) := by decide +kernel
theorem dX10_odds_36 : decode cX10_odds 36 = .ok (.iload 4, 2) := by decide +kernel
theorem dX10_odds_38 : decode cX10_odds 38 = .ok (.ifCond .lt 9, 3) := by decide +kernel
theorem dX10_odds_41 : decode cX10_odds 41 = .ok (.iload 4, 2) := by decide +kernel
theorem dX10_odds_43 : decode cX10_odds 43 = .ok (.iconst 1, 1) := by decide +kernel
theorem dX10_odds_44 : decode cX10_odds 44 = .ok (.if_icmp .le 7, 3) := by decide +kernel
theorem dX10_odds_47 : decode cX10_odds 47 = .ok (.ldc2_w 220, 3) := by decide +kernel
theorem dX10_odds_50 : decode cX10_odds 50 = .ok (.lreturn, 1) := by decide +kernel
theorem dX10_odds_51 : decode cX10_odds 51 = .ok (.iconst 0, 1) := by decide +kernel
theorem dX10_odds_52 : decode cX10_odds 52 = .ok (.istore 5, 2) := by decide +kernel
theorem dX10_odds_54 : decode cX10_odds 54 = .ok (.iconst 0, 1) := by decide +kernel
theorem dX10_odds_55 : decode cX10_odds 55 = .ok (.istore 6, 2) := by decide +kernel
theorem dX10_odds_57 : decode cX10_odds 57 = .ok (.iload 6, 2) := by decide +kernel
theorem dX10_odds_59 : decode cX10_odds 59 = .ok (.iload_n 2, 1) := by decide +kernel
theorem dX10_odds_60 : decode cX10_odds 60 = .ok (.if_icmp .ge 32, 3) := by decide +kernel
theorem dX10_odds_63 : decode cX10_odds 63 = .ok (.aload_n 0, 1) := by decide +kernel
theorem dX10_odds_64 : decode cX10_odds 64 = .ok (.iload_n 1, 1) := by decide +kernel
theorem dX10_odds_65 : decode cX10_odds 65 = .ok (.iload 6, 2) := by decide +kernel
theorem dX10_odds_67 : decode cX10_odds 67 = .ok (.iadd, 1) := by decide +kernel
theorem dX10_odds_68 : decode cX10_odds 68 = .ok (.invokevirtual 246, 3) := by decide +kernel
theorem dX10_odds_71 : decode cX10_odds 71 = .ok (.aload_n 0, 1) := by decide +kernel
theorem dX10_odds_72 : decode cX10_odds 72 = .ok (.getfield 67, 3) := by decide +kernel
theorem dX10_odds_75 : decode cX10_odds 75 = .ok (.getfield 154, 3) := by decide +kernel
theorem dX10_odds_78 : decode cX10_odds 78 = .ok (.iload_n 3, 1) := by decide +kernel
theorem dX10_odds_79 : decode cX10_odds 79 = .ok (.baload, 1) := by decide +kernel
theorem dX10_odds_80 : decode cX10_odds 80 = .ok (.ifCond .eq 6, 3) := by decide +kernel
theorem dX10_odds_83 : decode cX10_odds 83 = .ok (.iinc 5 1, 3) := by decide +kernel
theorem dX10_odds_86 : decode cX10_odds 86 = .ok (.iinc 6 1, 3) := by decide +kernel
theorem dX10_odds_89 : decode cX10_odds 89 = .ok (.goto (-32), 3) := by decide +kernel
theorem dX10_odds_92 : decode cX10_odds 92 = .ok (.iload 5, 2) := by decide +kernel
theorem dX10_odds_94 : decode cX10_odds 94 = .ok (.iload_n 2, 1) := by decide +kernel
theorem dX10_odds_95 : decode cX10_odds 95 = .ok (.iload 4, 2) := by decide +kernel
theorem dX10_odds_97 : decode cX10_odds 97 = .ok (.invokestatic 222, 3) := by decide +kernel
theorem dX10_odds_100 : decode cX10_odds 100 = .ok (.lreturn, 1) := by decide +kernel
def J_X10_odds_86 (c57 : Nat → Int32 → Int32 → Int32 → Int32 → Int32 → Int32 → e_G → Option (Int64 × e_G)) (S : e_S) (l0 : Nat) (l1 : Int32) (l2 : Int32) (l3 : Int32) (l4 : Int32) (l5 : Int32) (l6 : Int32) (g : e_G) : Option (Int64 × e_G) :=
  c57 l0 l1 l2 l3 l4 l5 (l6 + (1 : Int32)) g
def L_X10_odds_57 : Nat → e_S → Nat → Int32 → Int32 → Int32 → Int32 → Int32 → Int32 → e_G → Option (Int64 × e_G)
  | 0, _, _, _, _, _, _, _, _, _ => none
  | n + 1, S, l0, l1, l2, l3, l4, l5, l6, g =>
  if l2 ≤ l6 then
    (f_X10_lowest S l5 l2 l4 g).bind fun q2 =>
    some (q2.1, q2.2)
  else
    (f_X10_passCraneDays S l0 (l1 + l6) g).bind fun q4 =>
    (e_gR S q4 10 l0 3).bind fun v5 =>
    (e_gR S q4 7 v5 5).bind fun v7 =>
    (e_aI S q4 1 v7 l3).bind fun v9 =>
    if v9 = 0 then
      J_X10_odds_86 (L_X10_odds_57 n S) S l0 l1 l2 l3 l4 l5 l6 q4
    else
      J_X10_odds_86 (L_X10_odds_57 n S) S l0 l1 l2 l3 l4 (l5 + (1 : Int32)) l6 q4
def f_X10_odds (S : e_S) (l0 : Nat) (l1 : Int32) (l2 : Int32) (l3 : Int32) (l4 : Int32) (g : e_G) : Option (Int64 × e_G) :=
  if e_ob S 10 l0 = true then
    if l1 < 0 then
      some ((-4611686018427387904 : Int64), g)
    else
      if (99999 : Int32) < l1 then
        some ((-4611686018427387904 : Int64), g)
      else
        if l2 < (1 : Int32) then
          some ((-4611686018427387904 : Int64), g)
        else
          if l2 ≤ (40 : Int32) then
            (e_gR S g 10 l0 2).bind fun v1 =>
            (f_X7_has S v1 l3 g).bind fun q4 =>
            if q4.1 = 0 then
              some ((-4611686018427387904 : Int64), q4.2)
            else
              if l4 < 0 then
                some ((-4611686018427387904 : Int64), q4.2)
              else
                if l4 ≤ (1 : Int32) then
                  L_X10_odds_57 50000 S l0 l1 l2 l3 l4 (0 : Int32) (0 : Int32) q4.2
                else
                  some ((-4611686018427387904 : Int64), q4.2)
          else
            some ((-4611686018427387904 : Int64), g)
  else none
theorem x_J_X10_odds_86 {l : Launch} {D : va_G} {S : e_S} {w : Int64} {k : e_G} (c57 : Nat → Int32 → Int32 → Int32 → Int32 → Int32 → Int32 → e_G → Option (Int64 × e_G)) (hc57 : ∀ (l0 : Nat) (l1 : Int32) (l2 : Int32) (l3 : Int32) (l4 : Int32) (l5 : Int32) (l6 : Int32) (g : e_G), c57 l0 l1 l2 l3 l4 l5 l6 g = some (w, k) → X l D (e_R 7) M_X10_odds 0 0 57 [(0, .ref l0), (1, .int l1), (2, .int l2), (3, .int l3), (4, .int l4), (5, .int l5), (6, .int l6)] [] (S, g) (some (.long w)) (S, k)) {l0 : Nat} {l1 : Int32} {l2 : Int32} {l3 : Int32} {l4 : Int32} {l5 : Int32} {l6 : Int32} {g : e_G} (hf : J_X10_odds_86 c57 S l0 l1 l2 l3 l4 l5 l6 g = some (w, k)) : X l D (e_R 7) M_X10_odds 0 0 86 [(0, .ref l0), (1, .int l1), (2, .int l2), (3, .int l3), (4, .int l4), (5, .int l5), (6, .int l6)] [] (S, g) (some (.long w)) (S, k) := by
  unfold J_X10_odds_86 at hf
  refine X.iinc (j := 6) dX10_odds_86 rfl (v := l6 + (1 : Int32)) (by rw [kI_1]) (Nat.le_of_ble_eq_true rfl) (lc' := [(6, .int (l6 + (1 : Int32))), (0, .ref l0), (1, .int l1), (2, .int l2), (3, .int l3), (4, .int l4), (5, .int l5)]) rfl ?_
  refine X.goto dX10_odds_89 (tgt := 57) rfl ?_
  refine X.sub [1, 2, 3, 4, 5, 6, 0] rfl ?_
  exact hc57 _ _ _ _ _ _ _ _ hf
theorem x_L_X10_odds_57 {l : Launch} {D : va_G} {S : e_S} {w : Int64} {k : e_G} : ∀ (n : Nat) (l0 : Nat) (l1 : Int32) (l2 : Int32) (l3 : Int32) (l4 : Int32) (l5 : Int32) (l6 : Int32) (g : e_G), L_X10_odds_57 n S l0 l1 l2 l3 l4 l5 l6 g = some (w, k) → X l D (e_R 7) M_X10_odds 0 0 57 [(0, .ref l0), (1, .int l1), (2, .int l2), (3, .int l3), (4, .int l4), (5, .int l5), (6, .int l6)] [] (S, g) (some (.long w)) (S, k) := by
  intro n
  induction n with
  | zero =>
    intro l0 l1 l2 l3 l4 l5 l6 g hf
    cases hf
  | succ n ih =>
    intro l0 l1 l2 l3 l4 l5 l6 g hf
    rw [L_X10_odds_57] at hf
    refine X.iload dX10_odds_57 (j := 6) rfl ?_
    refine X.iload_n dX10_odds_59 rfl (j := 2) rfl ?_
    refine X.icmp_ge dX10_odds_60 (tgt := 92) rfl (fun hc => ?_) (fun hc => ?_)
    · rw [if_pos hc] at hf
      refine X.iload dX10_odds_92 (j := 5) rfl ?_
      refine X.iload_n dX10_odds_94 rfl (j := 2) rfl ?_
      refine X.iload dX10_odds_95 (j := 4) rfl ?_
      obtain ⟨q2, h1, hf⟩ := ob hf
      refine Y.callS (av := [.int l5, .int l2, .int l4]) dX10_odds_97 (c_X10_lowest (l := l) (D := D) (w := q2.1) (k := q2.2) h1) cw_X10_222 mk_X10_lowest (e_R_ok (Nat.le_of_ble_eq_true rfl) (Nat.le_of_ble_eq_true rfl)) ⟨rfl, rfl⟩ (by simp [Value.category]) ?_
      obtain ⟨e1, e2⟩ := e_ret hf
      subst e1
      subst e2
      exact X.lret dX10_odds_100 rfl
    · rw [if_neg hc] at hf
      refine X.aload_n dX10_odds_63 rfl (j := 0) rfl ?_
      refine X.iload_n dX10_odds_64 rfl (j := 1) rfl ?_
      refine X.iload dX10_odds_65 (j := 6) rfl ?_
      refine X.iadd dX10_odds_67 ?_
      obtain ⟨q4, h3, hf⟩ := ob hf
      refine Y.callV (av := [.int (l1 + l6)]) (ci := 10) dX10_odds_68 (c_X10_passCraneDays (l := l) (D := D) h3) cw_X10_246 (by decide) rfl mk_X10_passCraneDays (o_X10_passCraneDays (k := q4) h3) (e_R_ok (Nat.le_of_ble_eq_true rfl) (Nat.le_of_ble_eq_true rfl)) ⟨rfl, rfl⟩ (by simp [Value.category]) ?_
      refine X.aload_n dX10_odds_71 rfl (j := 0) rfl ?_
      obtain ⟨v5, h6, hf⟩ := ob hf
      refine Y.getR dX10_odds_72 fl_X10_67 rfl h6 ?_
      obtain ⟨v7, h8, hf⟩ := ob hf
      refine Y.getR dX10_odds_75 fl_X10_154 rfl h8 ?_
      refine X.iload_n dX10_odds_78 rfl (j := 3) rfl ?_
      obtain ⟨v9, h10, hf⟩ := ob hf
      refine Y.zald dX10_odds_79 h10 ?_
      refine X.if_eq dX10_odds_80 (tgt := 86) rfl (fun hc => ?_) (fun hc => ?_)
      · rw [if_pos hc] at hf
        exact x_J_X10_odds_86 _ ih hf
      · rw [if_neg hc] at hf
        refine X.iinc (j := 5) dX10_odds_83 rfl (v := l5 + (1 : Int32)) (by rw [kI_1]) (Nat.le_of_ble_eq_true rfl) (lc' := [(5, .int (l5 + (1 : Int32))), (0, .ref l0), (1, .int l1), (2, .int l2), (3, .int l3), (4, .int l4), (6, .int l6)]) rfl ?_
        refine X.sub [1, 2, 3, 4, 5, 0, 6] rfl ?_
        exact x_J_X10_odds_86 _ ih hf
theorem o_X10_odds  {S : e_S} {w : Int64} {k : e_G} {l0 : Nat} {l1 : Int32} {l2 : Int32} {l3 : Int32} {l4 : Int32} {g : e_G} (hf : f_X10_odds S l0 l1 l2 l3 l4 g = some (w, k)) : e_ob S 10 l0 = true := by
  unfold f_X10_odds at hf
  by_cases hc : e_ob S 10 l0 = true
  · exact hc
  · rw [if_neg hc] at hf
    cases hf
theorem c_X10_odds {l : Launch} {D : va_G}  {S : e_S} {w : Int64} {k : e_G} {l0 : Nat} {l1 : Int32} {l2 : Int32} {l3 : Int32} {l4 : Int32} {g : e_G} (hf : f_X10_odds S l0 l1 l2 l3 l4 g = some (w, k)) : CT l D (e_R 7) M_X10_odds [.ref l0, .int l1, .int l2, .int l3, .int l4] (S, g) (some (.long w)) (S, k) := by
  refine CT.of (by decide +kernel) (Nat.le_of_ble_eq_true rfl) ?_
  have ho := o_X10_odds hf
  unfold f_X10_odds at hf
  rw [if_pos ho] at hf
  show X l D (e_R 7) M_X10_odds 0 0 0 [(0, .ref l0), (1, .int l1), (2, .int l2), (3, .int l3), (4, .int l4)] [] (S, g) (some (.long w)) (S, k)
  refine X.iload_n dX10_odds_0 rfl (j := 1) rfl ?_
  refine X.if_lt dX10_odds_1 (tgt := 21) rfl (fun hc => ?_) (fun hc => ?_)
  · rw [if_pos hc] at hf
    refine X.ldc2 dX10_odds_21 ww_782 ?_
    obtain ⟨e1, e2⟩ := e_ret hf
    subst e1
    subst e2
    exact X.lret dX10_odds_24 rfl
  · rw [if_neg hc] at hf
    refine X.iload_n dX10_odds_4 rfl (j := 1) rfl ?_
    refine X.ldc dX10_odds_5 ww_855 ?_
    refine X.icmp_gt dX10_odds_7 (tgt := 21) rfl (fun hc => ?_) (fun hc => ?_)
    · rw [if_pos hc] at hf
      refine X.ldc2 dX10_odds_21 ww_782 ?_
      obtain ⟨e1, e2⟩ := e_ret hf
      subst e1
      subst e2
      exact X.lret dX10_odds_24 rfl
    · rw [if_neg hc] at hf
      refine X.iload_n dX10_odds_10 rfl (j := 2) rfl ?_
      refine X.iconst dX10_odds_11 kI_1 ?_
      refine X.icmp_lt dX10_odds_12 (tgt := 21) rfl (fun hc => ?_) (fun hc => ?_)
      · rw [if_pos hc] at hf
        refine X.ldc2 dX10_odds_21 ww_782 ?_
        obtain ⟨e1, e2⟩ := e_ret hf
        subst e1
        subst e2
        exact X.lret dX10_odds_24 rfl
      · rw [if_neg hc] at hf
        refine X.iload_n dX10_odds_15 rfl (j := 2) rfl ?_
        refine X.bipush dX10_odds_16 kB_40 ?_
        refine X.icmp_le dX10_odds_18 (tgt := 25) rfl (fun hc => ?_) (fun hc => ?_)
        · rw [if_pos hc] at hf
          refine X.aload_n dX10_odds_25 rfl (j := 0) rfl ?_
          obtain ⟨v1, h2, hf⟩ := ob hf
          refine Y.getR dX10_odds_26 fl_X10_63 rfl h2 ?_
          refine X.iload_n dX10_odds_29 rfl (j := 3) rfl ?_
          obtain ⟨q4, h3, hf⟩ := ob hf
          refine Y.callV (av := [.int l3]) (ci := 7) dX10_odds_30 (c_X7_has (l := l) (D := D) (w := q4.1) (k := q4.2) h3) cw_X10_122 (by decide) rfl mk_X7_has (o_X7_has (w := q4.1) (k := q4.2) h3) (e_R_ok (Nat.le_of_ble_eq_true rfl) (Nat.le_of_ble_eq_true rfl)) ⟨rfl, rfl⟩ (by simp [Value.category]) ?_
          refine X.if_eq dX10_odds_33 (tgt := 47) rfl (fun hc => ?_) (fun hc => ?_)
          · rw [if_pos hc] at hf
            refine X.ldc2 dX10_odds_47 ww_782 ?_
            obtain ⟨e1, e2⟩ := e_ret hf
            subst e1
            subst e2
            exact X.lret dX10_odds_50 rfl
          · rw [if_neg hc] at hf
            refine X.iload dX10_odds_36 (j := 4) rfl ?_
            refine X.if_lt dX10_odds_38 (tgt := 47) rfl (fun hc => ?_) (fun hc => ?_)
            · rw [if_pos hc] at hf
              refine X.ldc2 dX10_odds_47 ww_782 ?_
              obtain ⟨e1, e2⟩ := e_ret hf
              subst e1
              subst e2
              exact X.lret dX10_odds_50 rfl
            · rw [if_neg hc] at hf
              refine X.iload dX10_odds_41 (j := 4) rfl ?_
              refine X.iconst dX10_odds_43 kI_1 ?_
              refine X.icmp_le dX10_odds_44 (tgt := 51) rfl (fun hc => ?_) (fun hc => ?_)
              · rw [if_pos hc] at hf
                refine X.iconst dX10_odds_51 kI_0 ?_
                refine X.istore dX10_odds_52 (Nat.le_of_ble_eq_true rfl) (lc' := [(5, .int (0 : Int32)), (0, .ref l0), (1, .int l1), (2, .int l2), (3, .int l3), (4, .int l4)]) rfl ?_
                refine X.iconst dX10_odds_54 kI_0 ?_
                refine X.istore dX10_odds_55 (Nat.le_of_ble_eq_true rfl) (lc' := [(6, .int (0 : Int32)), (5, .int (0 : Int32)), (0, .ref l0), (1, .int l1), (2, .int l2), (3, .int l3), (4, .int l4)]) rfl ?_
                refine X.sub [2, 3, 4, 5, 6, 1, 0] rfl ?_
                exact x_L_X10_odds_57 50000 _ _ _ _ _ _ _ _ hf
              · rw [if_neg hc] at hf
                refine X.ldc2 dX10_odds_47 ww_782 ?_
                obtain ⟨e1, e2⟩ := e_ret hf
                subst e1
                subst e2
                exact X.lret dX10_odds_50 rfl
        · rw [if_neg hc] at hf
          refine X.ldc2 dX10_odds_21 ww_782 ?_
          obtain ⟨e1, e2⟩ := e_ret hf
          subst e1
          subst e2
          exact X.lret dX10_odds_24 rfl
/-! LeanedOut.image()I -/
abbrev M_X10_image : e_M := (yX10_image, cX10_image, 1, (some .int))
theorem mk_X10_image : e_Mok M_X10_image 0 := ⟨by decide +kernel, by decide +kernel, by decide +kernel⟩
theorem dX10_image_0 : decode cX10_image 0 = .ok (.aload_n 0, 1) := by decide +kernel
theorem dX10_image_1 : decode cX10_image 1 = .ok (.getfield 70, 3) := by decide +kernel
theorem dX10_image_4 : decode cX10_image 4 = .ok (.aload_n 0, 1) := by decide +kernel
theorem dX10_image_5 : decode cX10_image 5 = .ok (.getfield 63, 3) := by decide +kernel
theorem dX10_image_8 : decode cX10_image 8 = .ok (.invokevirtual 189, 3) := by decide +kernel
theorem dX10_image_11 : decode cX10_image 11 = .ok (.aload_n 0, 1) := by decide +kernel
theorem dX10_image_12 : decode cX10_image 12 = .ok (.iconst 1, 1) := by decide +kernel
theorem dX10_image_13 : decode cX10_image 13 = .ok (.putfield 249, 3) := by decide +kernel
theorem dX10_image_16 : decode cX10_image 16 = .ok (.aload_n 0, 1) := by decide +kernel
theorem dX10_image_17 : decode cX10_image 17 = .ok (.getfield 63, 3) := by decide +kernel
theorem dX10_image_20 : decode cX10_image 20 = .ok (.getfield 93, 3) := by decide +kernel
theorem dX10_image_23 : decode cX10_image 23 = .ok (.ireturn, 1) := by decide +kernel
def f_X10_image (S : e_S) (l0 : Nat) (g : e_G) : Option (Int32 × e_G) :=
  if e_ob S 10 l0 = true then
    (e_gR S g 10 l0 4).bind fun v1 =>
    (e_gR S g 10 l0 2).bind fun v3 =>
    (f_X7_become S v1 v3 g).bind fun q6 =>
    (e_sI S q6 10 l0 11 (1 : Int32)).bind fun g7 =>
    (e_gR S g7 10 l0 2).bind fun v9 =>
    (e_gI S g7 7 v9 6).bind fun v11 =>
    some (v11, g7)
  else none
theorem o_X10_image  {S : e_S} {w : Int32} {k : e_G} {l0 : Nat} {g : e_G} (hf : f_X10_image S l0 g = some (w, k)) : e_ob S 10 l0 = true := by
  unfold f_X10_image at hf
  by_cases hc : e_ob S 10 l0 = true
  · exact hc
  · rw [if_neg hc] at hf
    cases hf
theorem c_X10_image {l : Launch} {D : va_G}  {S : e_S} {w : Int32} {k : e_G} {l0 : Nat} {g : e_G} (hf : f_X10_image S l0 g = some (w, k)) : CT l D (e_R 2) M_X10_image [.ref l0] (S, g) (some (.int w)) (S, k) := by
  refine CT.of (by decide +kernel) (Nat.le_of_ble_eq_true rfl) ?_
  have ho := o_X10_image hf
  unfold f_X10_image at hf
  rw [if_pos ho] at hf
  show X l D (e_R 2) M_X10_image 0 0 0 [(0, .ref l0)] [] (S, g) (some (.int w)) (S, k)
  refine X.aload_n dX10_image_0 rfl (j := 0) rfl ?_
  obtain ⟨v1, h2, hf⟩ := ob hf
  refine Y.getR dX10_image_1 fl_X10_70 rfl h2 ?_
  refine X.aload_n dX10_image_4 rfl (j := 0) rfl ?_
  obtain ⟨v3, h4, hf⟩ := ob hf
  refine Y.getR dX10_image_5 fl_X10_63 rfl h4 ?_
  obtain ⟨q6, h5, hf⟩ := ob hf
  refine Y.callV (av := [.ref v3]) (ci := 7) dX10_image_8 (c_X7_become (l := l) (D := D) h5) cw_X10_189 (by decide) rfl mk_X7_become (o_X7_become (k := q6) h5) (e_R_ok (Nat.le_of_ble_eq_true rfl) (Nat.le_of_ble_eq_true rfl)) ⟨rfl, rfl⟩ (by simp [Value.category]) ?_
  refine X.aload_n dX10_image_11 rfl (j := 0) rfl ?_
  refine X.iconst dX10_image_12 kI_1 ?_
  obtain ⟨g7, h8, hf⟩ := ob hf
  refine Y.putI dX10_image_13 fl_X10_249 rfl rfl rfl rfl h8 ?_
  refine X.aload_n dX10_image_16 rfl (j := 0) rfl ?_
  obtain ⟨v9, h10, hf⟩ := ob hf
  refine Y.getR dX10_image_17 fl_X10_63 rfl h10 ?_
  obtain ⟨v11, h12, hf⟩ := ob hf
  refine Y.getI dX10_image_20 fl_X10_93 rfl h12 ?_
  obtain ⟨e1, e2⟩ := e_ret hf
  subst e1
  subst e2
  exact X.iret dX10_image_23 rfl rfl
/-! LeanedOut.back()I -/
abbrev M_X10_back : e_M := (yX10_back, cX10_back, 1, (some .int))
theorem mk_X10_back : e_Mok M_X10_back 0 := ⟨by decide +kernel, by decide +kernel, by decide +kernel⟩
theorem dX10_back_0 : decode cX10_back 0 = .ok (.aload_n 0, 1) := by decide +kernel
theorem dX10_back_1 : decode cX10_back 1 = .ok (.getfield 249, 3) := by decide +kernel
theorem dX10_back_4 : decode cX10_back 4 = .ok (.ifCond .ne 6, 3) := by decide +kernel
theorem dX10_back_7 : decode cX10_back 7 = .ok (.bipush (-3), 2) := by decide +kernel
theorem dX10_back_9 : decode cX10_back 9 = .ok (.ireturn, 1) := by decide +kernel
theorem dX10_back_10 : decode cX10_back 10 = .ok (.aload_n 0, 1) := by decide +kernel
theorem dX10_back_11 : decode cX10_back 11 = .ok (.getfield 63, 3) := by decide +kernel
theorem dX10_back_14 : decode cX10_back 14 = .ok (.aload_n 0, 1) := by decide +kernel
theorem dX10_back_15 : decode cX10_back 15 = .ok (.getfield 70, 3) := by decide +kernel
theorem dX10_back_18 : decode cX10_back 18 = .ok (.invokevirtual 189, 3) := by decide +kernel
theorem dX10_back_21 : decode cX10_back 21 = .ok (.aload_n 0, 1) := by decide +kernel
theorem dX10_back_22 : decode cX10_back 22 = .ok (.getfield 63, 3) := by decide +kernel
theorem dX10_back_25 : decode cX10_back 25 = .ok (.getfield 93, 3) := by decide +kernel
theorem dX10_back_28 : decode cX10_back 28 = .ok (.ireturn, 1) := by decide +kernel
def f_X10_back (S : e_S) (l0 : Nat) (g : e_G) : Option (Int32 × e_G) :=
  if e_ob S 10 l0 = true then
    (e_gI S g 10 l0 11).bind fun v1 =>
    if v1 = 0 then
      some ((-3 : Int32), g)
    else
      (e_gR S g 10 l0 2).bind fun v3 =>
      (e_gR S g 10 l0 4).bind fun v5 =>
      (f_X7_become S v3 v5 g).bind fun q8 =>
      (e_gR S q8 10 l0 2).bind fun v9 =>
      (e_gI S q8 7 v9 6).bind fun v11 =>
      some (v11, q8)
  else none
theorem o_X10_back  {S : e_S} {w : Int32} {k : e_G} {l0 : Nat} {g : e_G} (hf : f_X10_back S l0 g = some (w, k)) : e_ob S 10 l0 = true := by
  unfold f_X10_back at hf
  by_cases hc : e_ob S 10 l0 = true
  · exact hc
  · rw [if_neg hc] at hf
    cases hf
theorem c_X10_back {l : Launch} {D : va_G}  {S : e_S} {w : Int32} {k : e_G} {l0 : Nat} {g : e_G} (hf : f_X10_back S l0 g = some (w, k)) : CT l D (e_R 2) M_X10_back [.ref l0] (S, g) (some (.int w)) (S, k) := by
  refine CT.of (by decide +kernel) (Nat.le_of_ble_eq_true rfl) ?_
  have ho := o_X10_back hf
  unfold f_X10_back at hf
  rw [if_pos ho] at hf
  show X l D (e_R 2) M_X10_back 0 0 0 [(0, .ref l0)] [] (S, g) (some (.int w)) (S, k)
  refine X.aload_n dX10_back_0 rfl (j := 0) rfl ?_
  obtain ⟨v1, h2, hf⟩ := ob hf
  refine Y.getI dX10_back_1 fl_X10_249 rfl h2 ?_
  refine X.if_ne dX10_back_4 (tgt := 10) rfl (fun hc => ?_) (fun hc => ?_)
  · rw [if_neg hc] at hf
    refine X.aload_n dX10_back_10 rfl (j := 0) rfl ?_
    obtain ⟨v3, h4, hf⟩ := ob hf
    refine Y.getR dX10_back_11 fl_X10_63 rfl h4 ?_
    refine X.aload_n dX10_back_14 rfl (j := 0) rfl ?_
    obtain ⟨v5, h6, hf⟩ := ob hf
    refine Y.getR dX10_back_15 fl_X10_70 rfl h6 ?_
    obtain ⟨q8, h7, hf⟩ := ob hf
    refine Y.callV (av := [.ref v5]) (ci := 7) dX10_back_18 (c_X7_become (l := l) (D := D) h7) cw_X10_189 (by decide) rfl mk_X7_become (o_X7_become (k := q8) h7) (e_R_ok (Nat.le_of_ble_eq_true rfl) (Nat.le_of_ble_eq_true rfl)) ⟨rfl, rfl⟩ (by simp [Value.category]) ?_
    refine X.aload_n dX10_back_21 rfl (j := 0) rfl ?_
    obtain ⟨v9, h10, hf⟩ := ob hf
    refine Y.getR dX10_back_22 fl_X10_63 rfl h10 ?_
    obtain ⟨v11, h12, hf⟩ := ob hf
    refine Y.getI dX10_back_25 fl_X10_93 rfl h12 ?_
    obtain ⟨e1, e2⟩ := e_ret hf
    subst e1
    subst e2
    exact X.iret dX10_back_28 rfl rfl
  · rw [if_pos hc] at hf
    refine X.bipush dX10_back_7 kB_m3 ?_
    obtain ⟨e1, e2⟩ := e_ret hf
    subst e1
    subst e2
    exact X.iret dX10_back_9 rfl rfl
/-! LeanedOut.sheet(III)I -/
abbrev M_X10_sheet : e_M := (yX10_sheet, cX10_sheet, 4, (some .int))
theorem mk_X10_sheet : e_Mok M_X10_sheet 3 := ⟨by decide +kernel, by decide +kernel, by decide +kernel⟩
theorem dX10_sheet_0 : decode cX10_sheet 0 = .ok (.iload_n 1, 1) := by decide +kernel
theorem dX10_sheet_1 : decode cX10_sheet 1 = .ok (.invokestatic 236, 3) := by decide +kernel
theorem dX10_sheet_4 : decode cX10_sheet 4 = .ok (.ifCond .eq 13, 3) := by decide +kernel
theorem dX10_sheet_7 : decode cX10_sheet 7 = .ok (.iload_n 2, 1) := by decide +kernel
theorem dX10_sheet_8 : decode cX10_sheet 8 = .ok (.iconst (-1), 1) := by decide +kernel
theorem dX10_sheet_9 : decode cX10_sheet 9 = .ok (.if_icmp .lt 8, 3) := by decide +kernel
theorem dX10_sheet_12 : decode cX10_sheet 12 = .ok (.iload_n 2, 1) := by decide +kernel
theorem dX10_sheet_13 : decode cX10_sheet 13 = .ok (.iconst 2, 1) := by decide +kernel
theorem dX10_sheet_14 : decode cX10_sheet 14 = .ok (.if_icmp .le 6, 3) := by decide +kernel
theorem dX10_sheet_17 : decode cX10_sheet 17 = .ok (.bipush (-2), 2) := by decide +kernel
theorem dX10_sheet_19 : decode cX10_sheet 19 = .ok (.ireturn, 1) := by decide +kernel
theorem dX10_sheet_20 : decode cX10_sheet 20 = .ok (.iload_n 2, 1) := by decide +kernel
theorem dX10_sheet_21 : decode cX10_sheet 21 = .ok (.iconst (-1), 1) := by decide +kernel
theorem dX10_sheet_22 : decode cX10_sheet 22 = .ok (.if_icmp .ne 16, 3) := by decide +kernel
theorem dX10_sheet_25 : decode cX10_sheet 25 = .ok (.aload_n 0, 1) := by decide +kernel
theorem dX10_sheet_26 : decode cX10_sheet 26 = .ok (.getfield 17, 3) := by decide +kernel
theorem dX10_sheet_29 : decode cX10_sheet 29 = .ok (.iload_n 1, 1) := by decide +kernel
theorem dX10_sheet_30 : decode cX10_sheet 30 = .ok (.aaload, 1) := by decide +kernel
theorem dX10_sheet_31 : decode cX10_sheet 31 = .ok (.iconst (-1), 1) := by decide +kernel
theorem dX10_sheet_32 : decode cX10_sheet 32 = .ok (.iconst 0, 1) := by decide +kernel
theorem dX10_sheet_33 : decode cX10_sheet 33 = .ok (.invokevirtual 239, 3) := by decide +kernel
theorem dX10_sheet_36 : decode cX10_sheet 36 = .ok (.iconst 1, 1) := by decide +kernel
theorem dX10_sheet_37 : decode cX10_sheet 37 = .ok (.ireturn, 1) := by decide +kernel
theorem dX10_sheet_38 : decode cX10_sheet 38 = .ok (.iload_n 3, 1) := by decide +kernel
theorem dX10_sheet_39 : decode cX10_sheet 39 = .ok (.bipush 40, 2) := by decide +kernel
theorem dX10_sheet_41 : decode cX10_sheet 41 = .ok (.if_icmp .le 6, 3) := by decide +kernel
theorem dX10_sheet_44 : decode cX10_sheet 44 = .ok (.bipush (-2), 2) := by decide +kernel
theorem dX10_sheet_46 : decode cX10_sheet 46 = .ok (.ireturn, 1) := by decide +kernel
theorem dX10_sheet_47 : decode cX10_sheet 47 = .ok (.iload_n 3, 1) := by decide +kernel
theorem dX10_sheet_48 : decode cX10_sheet 48 = .ok (.ifCond .ge 6, 3) := by decide +kernel
theorem dX10_sheet_51 : decode cX10_sheet 51 = .ok (.bipush (-14), 2) := by decide +kernel
theorem dX10_sheet_53 : decode cX10_sheet 53 = .ok (.ireturn, 1) := by decide +kernel
theorem dX10_sheet_54 : decode cX10_sheet 54 = .ok (.aload_n 0, 1) := by decide +kernel
theorem dX10_sheet_55 : decode cX10_sheet 55 = .ok (.getfield 17, 3) := by decide +kernel
theorem dX10_sheet_58 : decode cX10_sheet 58 = .ok (.iload_n 1, 1) := by decide +kernel
theorem dX10_sheet_59 : decode cX10_sheet 59 = .ok (.aaload, 1) := by decide +kernel
theorem dX10_sheet_60 : decode cX10_sheet 60 = .ok (.iload_n 2, 1) := by decide +kernel
theorem dX10_sheet_61 : decode cX10_sheet 61 = .ok (.iload_n 3, 1) := by decide +kernel
theorem dX10_sheet_62 : decode cX10_sheet 62 = .ok (.invokevirtual 239, 3) := by decide +kernel
theorem dX10_sheet_65 : decode cX10_sheet 65 = .ok (.iconst 1, 1) := by decide +kernel
theorem dX10_sheet_66 : decode cX10_sheet 66 = .ok (.ireturn, 1) := by decide +kernel
def f_X10_sheet (S : e_S) (l0 : Nat) (l1 : Int32) (l2 : Int32) (l3 : Int32) (g : e_G) : Option (Int32 × e_G) :=
  if e_ob S 10 l0 = true then
    (f_X10_isSheet S l1 g).bind fun q2 =>
    if q2.1 = 0 then
      some ((-2 : Int32), q2.2)
    else
      if l2 < (-1 : Int32) then
        some ((-2 : Int32), q2.2)
      else
        if l2 ≤ (2 : Int32) then
          if l2 = (-1 : Int32) then
            (e_gR S q2.2 10 l0 1).bind fun v9 =>
            (e_aR S q2.2 4 v9 l1).bind fun v11 =>
            (f_X6_become S v11 (-1 : Int32) (0 : Int32) q2.2).bind fun q14 =>
            some ((1 : Int32), q14)
          else
            if l3 ≤ (40 : Int32) then
              if 0 ≤ l3 then
                (e_gR S q2.2 10 l0 1).bind fun v3 =>
                (e_aR S q2.2 4 v3 l1).bind fun v5 =>
                (f_X6_become S v5 l2 l3 q2.2).bind fun q8 =>
                some ((1 : Int32), q8)
              else
                some ((-14 : Int32), q2.2)
            else
              some ((-2 : Int32), q2.2)
        else
          some ((-2 : Int32), q2.2)
  else none
theorem o_X10_sheet  {S : e_S} {w : Int32} {k : e_G} {l0 : Nat} {l1 : Int32} {l2 : Int32} {l3 : Int32} {g : e_G} (hf : f_X10_sheet S l0 l1 l2 l3 g = some (w, k)) : e_ob S 10 l0 = true := by
  unfold f_X10_sheet at hf
  by_cases hc : e_ob S 10 l0 = true
  · exact hc
  · rw [if_neg hc] at hf
    cases hf
theorem c_X10_sheet {l : Launch} {D : va_G}  {S : e_S} {w : Int32} {k : e_G} {l0 : Nat} {l1 : Int32} {l2 : Int32} {l3 : Int32} {g : e_G} (hf : f_X10_sheet S l0 l1 l2 l3 g = some (w, k)) : CT l D (e_R 2) M_X10_sheet [.ref l0, .int l1, .int l2, .int l3] (S, g) (some (.int w)) (S, k) := by
  refine CT.of (by decide +kernel) (Nat.le_of_ble_eq_true rfl) ?_
  have ho := o_X10_sheet hf
  unfold f_X10_sheet at hf
  rw [if_pos ho] at hf
  show X l D (e_R 2) M_X10_sheet 0 0 0 [(0, .ref l0), (1, .int l1), (2, .int l2), (3, .int l3)] [] (S, g) (some (.int w)) (S, k)
  refine X.iload_n dX10_sheet_0 rfl (j := 1) rfl ?_
  obtain ⟨q2, h1, hf⟩ := ob hf
  refine Y.callS (av := [.int l1]) dX10_sheet_1 (c_X10_isSheet (l := l) (D := D) (w := q2.1) (k := q2.2) h1) cw_X10_236 mk_X10_isSheet (e_R_ok (Nat.le_of_ble_eq_true rfl) (Nat.le_of_ble_eq_true rfl)) ⟨rfl, rfl⟩ (by simp [Value.category]) ?_
  refine X.if_eq dX10_sheet_4 (tgt := 17) rfl (fun hc => ?_) (fun hc => ?_)
  · rw [if_pos hc] at hf
    refine X.bipush dX10_sheet_17 kB_m2 ?_
    obtain ⟨e1, e2⟩ := e_ret hf
    subst e1
    subst e2
    exact X.iret dX10_sheet_19 rfl rfl
  · rw [if_neg hc] at hf
    refine X.iload_n dX10_sheet_7 rfl (j := 2) rfl ?_
    refine X.iconst dX10_sheet_8 kI_m1 ?_
    refine X.icmp_lt dX10_sheet_9 (tgt := 17) rfl (fun hc => ?_) (fun hc => ?_)
    · rw [if_pos hc] at hf
      refine X.bipush dX10_sheet_17 kB_m2 ?_
      obtain ⟨e1, e2⟩ := e_ret hf
      subst e1
      subst e2
      exact X.iret dX10_sheet_19 rfl rfl
    · rw [if_neg hc] at hf
      refine X.iload_n dX10_sheet_12 rfl (j := 2) rfl ?_
      refine X.iconst dX10_sheet_13 kI_2 ?_
      refine X.icmp_le dX10_sheet_14 (tgt := 20) rfl (fun hc => ?_) (fun hc => ?_)
      · rw [if_pos hc] at hf
        refine X.iload_n dX10_sheet_20 rfl (j := 2) rfl ?_
        refine X.iconst dX10_sheet_21 kI_m1 ?_
        refine X.icmp_ne dX10_sheet_22 (tgt := 38) rfl (fun hc => ?_) (fun hc => ?_)
        · rw [if_neg hc] at hf
          refine X.iload_n dX10_sheet_38 rfl (j := 3) rfl ?_
          refine X.bipush dX10_sheet_39 kB_40 ?_
          refine X.icmp_le dX10_sheet_41 (tgt := 47) rfl (fun hc => ?_) (fun hc => ?_)
          · rw [if_pos hc] at hf
            refine X.iload_n dX10_sheet_47 rfl (j := 3) rfl ?_
            refine X.if_ge dX10_sheet_48 (tgt := 54) rfl (fun hc => ?_) (fun hc => ?_)
            · rw [if_pos hc] at hf
              refine X.aload_n dX10_sheet_54 rfl (j := 0) rfl ?_
              obtain ⟨v3, h4, hf⟩ := ob hf
              refine Y.getR dX10_sheet_55 fl_X10_17 rfl h4 ?_
              refine X.iload_n dX10_sheet_58 rfl (j := 1) rfl ?_
              obtain ⟨v5, h6, hf⟩ := ob hf
              refine Y.aald dX10_sheet_59 (kd := 4) (by decide) h6 ?_
              refine X.iload_n dX10_sheet_60 rfl (j := 2) rfl ?_
              refine X.iload_n dX10_sheet_61 rfl (j := 3) rfl ?_
              obtain ⟨q8, h7, hf⟩ := ob hf
              refine Y.callV (av := [.int l2, .int l3]) (ci := 6) dX10_sheet_62 (c_X6_become (l := l) (D := D) h7) cw_X10_239 (by decide) rfl mk_X6_become (o_X6_become (k := q8) h7) (e_R_ok (Nat.le_of_ble_eq_true rfl) (Nat.le_of_ble_eq_true rfl)) ⟨rfl, rfl⟩ (by simp [Value.category]) ?_
              refine X.iconst dX10_sheet_65 kI_1 ?_
              obtain ⟨e1, e2⟩ := e_ret hf
              subst e1
              subst e2
              exact X.iret dX10_sheet_66 rfl rfl
            · rw [if_neg hc] at hf
              refine X.bipush dX10_sheet_51 kB_m14 ?_
              obtain ⟨e1, e2⟩ := e_ret hf
              subst e1
              subst e2
              exact X.iret dX10_sheet_53 rfl rfl
          · rw [if_neg hc] at hf
            refine X.bipush dX10_sheet_44 kB_m2 ?_
            obtain ⟨e1, e2⟩ := e_ret hf
            subst e1
            subst e2
            exact X.iret dX10_sheet_46 rfl rfl
        · rw [if_pos hc] at hf
          refine X.aload_n dX10_sheet_25 rfl (j := 0) rfl ?_
          obtain ⟨v9, h10, hf⟩ := ob hf
          refine Y.getR dX10_sheet_26 fl_X10_17 rfl h10 ?_
          refine X.iload_n dX10_sheet_29 rfl (j := 1) rfl ?_
          obtain ⟨v11, h12, hf⟩ := ob hf
          refine Y.aald dX10_sheet_30 (kd := 4) (by decide) h12 ?_
          refine X.iconst dX10_sheet_31 kI_m1 ?_
          refine X.iconst dX10_sheet_32 kI_0 ?_
          obtain ⟨q14, h13, hf⟩ := ob hf
          refine Y.callV (av := [.int (-1 : Int32), .int (0 : Int32)]) (ci := 6) dX10_sheet_33 (c_X6_become (l := l) (D := D) h13) cw_X10_239 (by decide) rfl mk_X6_become (o_X6_become (k := q14) h13) (e_R_ok (Nat.le_of_ble_eq_true rfl) (Nat.le_of_ble_eq_true rfl)) ⟨rfl, rfl⟩ (by simp [Value.category]) ?_
          refine X.iconst dX10_sheet_36 kI_1 ?_
          obtain ⟨e1, e2⟩ := e_ret hf
          subst e1
          subst e2
          exact X.iret dX10_sheet_37 rfl rfl
      · rw [if_neg hc] at hf
        refine X.bipush dX10_sheet_17 kB_m2 ?_
        obtain ⟨e1, e2⟩ := e_ret hf
        subst e1
        subst e2
        exact X.iret dX10_sheet_19 rfl rfl
/-! LeanedOut.cell(III)I -/
abbrev M_X10_cell : e_M := (yX10_cell, cX10_cell, 4, (some .int))
theorem mk_X10_cell : e_Mok M_X10_cell 3 := ⟨by decide +kernel, by decide +kernel, by decide +kernel⟩
theorem dX10_cell_0 : decode cX10_cell 0 = .ok (.iload_n 1, 1) := by decide +kernel
theorem dX10_cell_1 : decode cX10_cell 1 = .ok (.invokestatic 236, 3) := by decide +kernel
theorem dX10_cell_4 : decode cX10_cell 4 = .ok (.ifCond .ne 6, 3) := by decide +kernel
theorem dX10_cell_7 : decode cX10_cell 7 = .ok (.bipush (-2), 2) := by decide +kernel
theorem dX10_cell_9 : decode cX10_cell 9 = .ok (.ireturn, 1) := by decide +kernel
theorem dX10_cell_10 : decode cX10_cell 10 = .ok (.aload_n 0, 1) := by decide +kernel
theorem dX10_cell_11 : decode cX10_cell 11 = .ok (.getfield 17, 3) := by decide +kernel
theorem dX10_cell_14 : decode cX10_cell 14 = .ok (.iload_n 1, 1) := by decide +kernel
theorem dX10_cell_15 : decode cX10_cell 15 = .ok (.aaload, 1) := by decide +kernel
theorem dX10_cell_16 : decode cX10_cell 16 = .ok (.invokevirtual 253, 3) := by decide +kernel
theorem dX10_cell_19 : decode cX10_cell 19 = .ok (.ifCond .eq 6, 3) := by decide +kernel
theorem dX10_cell_22 : decode cX10_cell 22 = .ok (.bipush (-11), 2) := by decide +kernel
theorem dX10_cell_24 : decode cX10_cell 24 = .ok (.ireturn, 1) := by decide +kernel
theorem dX10_cell_25 : decode cX10_cell 25 = .ok (.aload_n 0, 1) := by decide +kernel
theorem dX10_cell_26 : decode cX10_cell 26 = .ok (.getfield 17, 3) := by decide +kernel
theorem dX10_cell_29 : decode cX10_cell 29 = .ok (.iload_n 1, 1) := by decide +kernel
theorem dX10_cell_30 : decode cX10_cell 30 = .ok (.aaload, 1) := by decide +kernel
theorem dX10_cell_31 : decode cX10_cell 31 = .ok (.iload_n 2, 1) := by decide +kernel
theorem dX10_cell_32 : decode cX10_cell 32 = .ok (.invokevirtual 257, 3) := by decide +kernel
theorem dX10_cell_35 : decode cX10_cell 35 = .ok (.ifCond .ne 6, 3) := by decide +kernel
theorem dX10_cell_38 : decode cX10_cell 38 = .ok (.bipush (-12), 2) := by decide +kernel
theorem dX10_cell_40 : decode cX10_cell 40 = .ok (.ireturn, 1) := by decide +kernel
theorem dX10_cell_41 : decode cX10_cell 41 = .ok (.aload_n 0, 1) := by decide +kernel
theorem dX10_cell_42 : decode cX10_cell 42 = .ok (.getfield 17, 3) := by decide +kernel
theorem dX10_cell_45 : decode cX10_cell 45 = .ok (.iload_n 1, 1) := by decide +kernel
theorem dX10_cell_46 : decode cX10_cell 46 = .ok (.aaload, 1) := by decide +kernel
theorem dX10_cell_47 : decode cX10_cell 47 = .ok (.iload_n 2, 1) := by decide +kernel
theorem dX10_cell_48 : decode cX10_cell 48 = .ok (.iload_n 3, 1) := by decide +kernel
theorem dX10_cell_49 : decode cX10_cell 49 = .ok (.invokevirtual 242, 3) := by decide +kernel
theorem dX10_cell_52 : decode cX10_cell 52 = .ok (.iconst 1, 1) := by decide +kernel
theorem dX10_cell_53 : decode cX10_cell 53 = .ok (.ireturn, 1) := by decide +kernel
def f_X10_cell (S : e_S) (l0 : Nat) (l1 : Int32) (l2 : Int32) (l3 : Int32) (g : e_G) : Option (Int32 × e_G) :=
  if e_ob S 10 l0 = true then
    (f_X10_isSheet S l1 g).bind fun q2 =>
    if q2.1 = 0 then
      some ((-2 : Int32), q2.2)
    else
      (e_gR S q2.2 10 l0 1).bind fun v3 =>
      (e_aR S q2.2 4 v3 l1).bind fun v5 =>
      (f_X6_isMissing S v5 q2.2).bind fun q8 =>
      if q8.1 = 0 then
        (e_gR S q8.2 10 l0 1).bind fun v9 =>
        (e_aR S q8.2 4 v9 l1).bind fun v11 =>
        (f_X6_has S v11 l2 q8.2).bind fun q14 =>
        if q14.1 = 0 then
          some ((-12 : Int32), q14.2)
        else
          (e_gR S q14.2 10 l0 1).bind fun v15 =>
          (e_aR S q14.2 4 v15 l1).bind fun v17 =>
          (f_X6_set S v17 l2 l3 q14.2).bind fun q20 =>
          some ((1 : Int32), q20)
      else
        some ((-11 : Int32), q8.2)
  else none
theorem o_X10_cell  {S : e_S} {w : Int32} {k : e_G} {l0 : Nat} {l1 : Int32} {l2 : Int32} {l3 : Int32} {g : e_G} (hf : f_X10_cell S l0 l1 l2 l3 g = some (w, k)) : e_ob S 10 l0 = true := by
  unfold f_X10_cell at hf
  by_cases hc : e_ob S 10 l0 = true
  · exact hc
  · rw [if_neg hc] at hf
    cases hf
theorem c_X10_cell {l : Launch} {D : va_G}  {S : e_S} {w : Int32} {k : e_G} {l0 : Nat} {l1 : Int32} {l2 : Int32} {l3 : Int32} {g : e_G} (hf : f_X10_cell S l0 l1 l2 l3 g = some (w, k)) : CT l D (e_R 3) M_X10_cell [.ref l0, .int l1, .int l2, .int l3] (S, g) (some (.int w)) (S, k) := by
  refine CT.of (by decide +kernel) (Nat.le_of_ble_eq_true rfl) ?_
  have ho := o_X10_cell hf
  unfold f_X10_cell at hf
  rw [if_pos ho] at hf
  show X l D (e_R 3) M_X10_cell 0 0 0 [(0, .ref l0), (1, .int l1), (2, .int l2), (3, .int l3)] [] (S, g) (some (.int w)) (S, k)
  refine X.iload_n dX10_cell_0 rfl (j := 1) rfl ?_
  obtain ⟨q2, h1, hf⟩ := ob hf
  refine Y.callS (av := [.int l1]) dX10_cell_1 (c_X10_isSheet (l := l) (D := D) (w := q2.1) (k := q2.2) h1) cw_X10_236 mk_X10_isSheet (e_R_ok (Nat.le_of_ble_eq_true rfl) (Nat.le_of_ble_eq_true rfl)) ⟨rfl, rfl⟩ (by simp [Value.category]) ?_
  refine X.if_ne dX10_cell_4 (tgt := 10) rfl (fun hc => ?_) (fun hc => ?_)
  · rw [if_neg hc] at hf
    refine X.aload_n dX10_cell_10 rfl (j := 0) rfl ?_
    obtain ⟨v3, h4, hf⟩ := ob hf
    refine Y.getR dX10_cell_11 fl_X10_17 rfl h4 ?_
    refine X.iload_n dX10_cell_14 rfl (j := 1) rfl ?_
    obtain ⟨v5, h6, hf⟩ := ob hf
    refine Y.aald dX10_cell_15 (kd := 4) (by decide) h6 ?_
    obtain ⟨q8, h7, hf⟩ := ob hf
    refine Y.callV (av := []) (ci := 6) dX10_cell_16 (c_X6_isMissing (l := l) (D := D) (w := q8.1) (k := q8.2) h7) cw_X10_253 (by decide) rfl mk_X6_isMissing (o_X6_isMissing (w := q8.1) (k := q8.2) h7) (e_R_ok (Nat.le_of_ble_eq_true rfl) (Nat.le_of_ble_eq_true rfl)) ⟨rfl, rfl⟩ (by simp [Value.category]) ?_
    refine X.if_eq dX10_cell_19 (tgt := 25) rfl (fun hc => ?_) (fun hc => ?_)
    · rw [if_pos hc] at hf
      refine X.aload_n dX10_cell_25 rfl (j := 0) rfl ?_
      obtain ⟨v9, h10, hf⟩ := ob hf
      refine Y.getR dX10_cell_26 fl_X10_17 rfl h10 ?_
      refine X.iload_n dX10_cell_29 rfl (j := 1) rfl ?_
      obtain ⟨v11, h12, hf⟩ := ob hf
      refine Y.aald dX10_cell_30 (kd := 4) (by decide) h12 ?_
      refine X.iload_n dX10_cell_31 rfl (j := 2) rfl ?_
      obtain ⟨q14, h13, hf⟩ := ob hf
      refine Y.callV (av := [.int l2]) (ci := 6) dX10_cell_32 (c_X6_has (l := l) (D := D) (w := q14.1) (k := q14.2) h13) cw_X10_257 (by decide) rfl mk_X6_has (o_X6_has (w := q14.1) (k := q14.2) h13) (e_R_ok (Nat.le_of_ble_eq_true rfl) (Nat.le_of_ble_eq_true rfl)) ⟨rfl, rfl⟩ (by simp [Value.category]) ?_
      refine X.if_ne dX10_cell_35 (tgt := 41) rfl (fun hc => ?_) (fun hc => ?_)
      · rw [if_neg hc] at hf
        refine X.aload_n dX10_cell_41 rfl (j := 0) rfl ?_
        obtain ⟨v15, h16, hf⟩ := ob hf
        refine Y.getR dX10_cell_42 fl_X10_17 rfl h16 ?_
        refine X.iload_n dX10_cell_45 rfl (j := 1) rfl ?_
        obtain ⟨v17, h18, hf⟩ := ob hf
        refine Y.aald dX10_cell_46 (kd := 4) (by decide) h18 ?_
        refine X.iload_n dX10_cell_47 rfl (j := 2) rfl ?_
        refine X.iload_n dX10_cell_48 rfl (j := 3) rfl ?_
        obtain ⟨q20, h19, hf⟩ := ob hf
        refine Y.callV (av := [.int l2, .int l3]) (ci := 6) dX10_cell_49 (c_X6_set (l := l) (D := D) h19) cw_X10_242 (by decide) rfl mk_X6_set (o_X6_set (k := q20) h19) (e_R_ok (Nat.le_of_ble_eq_true rfl) (Nat.le_of_ble_eq_true rfl)) ⟨rfl, rfl⟩ (by simp [Value.category]) ?_
        refine X.iconst dX10_cell_52 kI_1 ?_
        obtain ⟨e1, e2⟩ := e_ret hf
        subst e1
        subst e2
        exact X.iret dX10_cell_53 rfl rfl
      · rw [if_pos hc] at hf
        refine X.bipush dX10_cell_38 kB_m12 ?_
        obtain ⟨e1, e2⟩ := e_ret hf
        subst e1
        subst e2
        exact X.iret dX10_cell_40 rfl rfl
    · rw [if_neg hc] at hf
      refine X.bipush dX10_cell_22 kB_m11 ?_
      obtain ⟨e1, e2⟩ := e_ret hf
      subst e1
      subst e2
      exact X.iret dX10_cell_24 rfl rfl
  · rw [if_pos hc] at hf
    refine X.bipush dX10_cell_7 kB_m2 ?_
    obtain ⟨e1, e2⟩ := e_ret hf
    subst e1
    subst e2
    exact X.iret dX10_cell_9 rfl rfl
/-! LeanedOut.copy(IIIII)I -/
abbrev M_X10_copy : e_M := (yX10_copy, cX10_copy, 8, (some .int))
theorem mk_X10_copy : e_Mok M_X10_copy 5 := ⟨by decide +kernel, by decide +kernel, by decide +kernel⟩
theorem dX10_copy_0 : decode cX10_copy 0 = .ok (.iload_n 1, 1) := by decide +kernel
theorem dX10_copy_1 : decode cX10_copy 1 = .ok (.invokestatic 236, 3) := by decide +kernel
theorem dX10_copy_4 : decode cX10_copy 4 = .ok (.ifCond .eq 10, 3) := by decide +kernel
theorem dX10_copy_7 : decode cX10_copy 7 = .ok (.iload_n 3, 1) := by decide +kernel
theorem dX10_copy_8 : decode cX10_copy 8 = .ok (.invokestatic 236, 3) := by decide +kernel
theorem dX10_copy_11 : decode cX10_copy 11 = .ok (.ifCond .ne 6, 3) := by decide +kernel
theorem dX10_copy_14 : decode cX10_copy 14 = .ok (.bipush (-2), 2) := by decide +kernel
theorem dX10_copy_16 : decode cX10_copy 16 = .ok (.ireturn, 1) := by decide +kernel
theorem dX10_copy_17 : decode cX10_copy 17 = .ok (.aload_n 0, 1) := by decide +kernel
theorem dX10_copy_18 : decode cX10_copy 18 = .ok (.getfield 17, 3) := by decide +kernel
theorem dX10_copy_21 : decode cX10_copy 21 = .ok (.iload_n 1, 1) := by decide +kernel
theorem dX10_copy_22 : decode cX10_copy 22 = .ok (.aaload, 1) := by decide +kernel
theorem dX10_copy_23 : decode cX10_copy 23 = .ok (.astore 6, 2) := by decide +kernel
theorem dX10_copy_25 : decode cX10_copy 25 = .ok (.aload_n 0, 1) := by decide +kernel
theorem dX10_copy_26 : decode cX10_copy 26 = .ok (.getfield 17, 3) := by decide +kernel
theorem dX10_copy_29 : decode cX10_copy 29 = .ok (.iload_n 3, 1) := by decide +kernel
theorem dX10_copy_30 : decode cX10_copy 30 = .ok (.aaload, 1) := by decide +kernel
theorem dX10_copy_31 : decode cX10_copy 31 = .ok (.astore 7, 2) := by decide +kernel
theorem dX10_copy_33 : decode cX10_copy 33 = .ok (.aload 6, 2) := by decide +kernel
theorem dX10_copy_35 : decode cX10_copy 35 = .ok (.invokevirtual 253, 3) := by decide +kernel
theorem dX10_copy_38 : decode cX10_copy 38 = .ok (.ifCond .ne 11, 3) := by decide +kernel
theorem dX10_copy_41 : decode cX10_copy 41 = .ok (.aload 7, 2) := by decide +kernel
theorem dX10_copy_43 : decode cX10_copy 43 = .ok (.invokevirtual 253, 3) := by decide +kernel
theorem dX10_copy_46 : decode cX10_copy 46 = .ok (.ifCond .eq 6, 3) := by decide +kernel
theorem dX10_copy_49 : decode cX10_copy 49 = .ok (.bipush (-11), 2) := by decide +kernel
theorem dX10_copy_51 : decode cX10_copy 51 = .ok (.ireturn, 1) := by decide +kernel
theorem dX10_copy_52 : decode cX10_copy 52 = .ok (.aload 6, 2) := by decide +kernel
theorem dX10_copy_54 : decode cX10_copy 54 = .ok (.getfield 258, 3) := by decide +kernel
theorem dX10_copy_57 : decode cX10_copy 57 = .ok (.aload 7, 2) := by decide +kernel
theorem dX10_copy_59 : decode cX10_copy 59 = .ok (.getfield 258, 3) := by decide +kernel
theorem dX10_copy_62 : decode cX10_copy 62 = .ok (.if_icmp .eq 6, 3) := by decide +kernel
theorem dX10_copy_65 : decode cX10_copy 65 = .ok (.bipush (-13), 2) := by decide +kernel
theorem dX10_copy_67 : decode cX10_copy 67 = .ok (.ireturn, 1) := by decide +kernel
theorem dX10_copy_68 : decode cX10_copy 68 = .ok (.aload 6, 2) := by decide +kernel
theorem dX10_copy_70 : decode cX10_copy 70 = .ok (.iload_n 2, 1) := by decide +kernel
theorem dX10_copy_71 : decode cX10_copy 71 = .ok (.iload 5, 2) := by decide +kernel
theorem dX10_copy_73 : decode cX10_copy 73 = .ok (.invokevirtual 261, 3) := by decide +kernel
theorem dX10_copy_76 : decode cX10_copy 76 = .ok (.ifCond .eq 15, 3) := by decide +kernel
theorem dX10_copy_79 : decode cX10_copy 79 = .ok (.aload 7, 2) := by decide +kernel
theorem dX10_copy_81 : decode cX10_copy 81 = .ok (.iload 4, 2) := by decide +kernel
theorem dX10_copy_83 : decode cX10_copy 83 = .ok (.iload 5, 2) := by decide +kernel
theorem dX10_copy_85 : decode cX10_copy 85 = .ok (.invokevirtual 261, 3) := by decide +kernel
theorem dX10_copy_88 : decode cX10_copy 88 = .ok (.ifCond .ne 6, 3) := by decide +kernel
theorem dX10_copy_91 : decode cX10_copy 91 = .ok (.bipush (-12), 2) := by decide +kernel
theorem dX10_copy_93 : decode cX10_copy 93 = .ok (.ireturn, 1) := by decide +kernel
theorem dX10_copy_94 : decode cX10_copy 94 = .ok (.aload 6, 2) := by decide +kernel
theorem dX10_copy_96 : decode cX10_copy 96 = .ok (.getfield 264, 3) := by decide +kernel
theorem dX10_copy_99 : decode cX10_copy 99 = .ok (.iload_n 2, 1) := by decide +kernel
theorem dX10_copy_100 : decode cX10_copy 100 = .ok (.aload 7, 2) := by decide +kernel
theorem dX10_copy_102 : decode cX10_copy 102 = .ok (.getfield 264, 3) := by decide +kernel
theorem dX10_copy_105 : decode cX10_copy 105 = .ok (.iload 4, 2) := by decide +kernel
theorem dX10_copy_107 : decode cX10_copy 107 = .ok (.iload 5, 2) := by decide +kernel
theorem dX10_copy_109 : decode cX10_copy 109 = .ok (.invokestatic 267, 3) := by decide +kernel
theorem dX10_copy_112 : decode cX10_copy 112 = .ok (.iload 5, 2) := by decide +kernel
theorem dX10_copy_114 : decode cX10_copy 114 = .ok (.ireturn, 1) := by decide +kernel
def f_X10_copy (S : e_S) (l0 : Nat) (l1 : Int32) (l2 : Int32) (l3 : Int32) (l4 : Int32) (l5 : Int32) (g : e_G) : Option (Int32 × e_G) :=
  if e_ob S 10 l0 = true then
    (f_X10_isSheet S l1 g).bind fun q2 =>
    if q2.1 = 0 then
      some ((-2 : Int32), q2.2)
    else
      (f_X10_isSheet S l3 q2.2).bind fun q4 =>
      if q4.1 = 0 then
        some ((-2 : Int32), q4.2)
      else
        (e_gR S q4.2 10 l0 1).bind fun v5 =>
        (e_aR S q4.2 4 v5 l1).bind fun v7 =>
        (e_gR S q4.2 10 l0 1).bind fun v9 =>
        (e_aR S q4.2 4 v9 l3).bind fun v11 =>
        (f_X6_isMissing S v7 q4.2).bind fun q14 =>
        if q14.1 = 0 then
          (f_X6_isMissing S v11 q14.2).bind fun q16 =>
          if q16.1 = 0 then
            (e_gI S q16.2 6 v7 1).bind fun v17 =>
            (e_gI S q16.2 6 v11 1).bind fun v19 =>
            if v17 = v19 then
              (f_X6_hasRow S v7 l2 l5 q16.2).bind fun q22 =>
              if q22.1 = 0 then
                some ((-12 : Int32), q22.2)
              else
                (f_X6_hasRow S v11 l4 l5 q22.2).bind fun q24 =>
                if q24.1 = 0 then
                  some ((-12 : Int32), q24.2)
                else
                  (e_gR S q24.2 6 v7 0).bind fun v25 =>
                  (e_gR S q24.2 6 v11 0).bind fun v27 =>
                  (e_cpy S q24.2 v25 l2 v27 l4 l5).bind fun g30 =>
                  some (l5, g30)
            else
              some ((-13 : Int32), q16.2)
          else
            some ((-11 : Int32), q16.2)
        else
          some ((-11 : Int32), q14.2)
  else none
theorem o_X10_copy  {S : e_S} {w : Int32} {k : e_G} {l0 : Nat} {l1 : Int32} {l2 : Int32} {l3 : Int32} {l4 : Int32} {l5 : Int32} {g : e_G} (hf : f_X10_copy S l0 l1 l2 l3 l4 l5 g = some (w, k)) : e_ob S 10 l0 = true := by
  unfold f_X10_copy at hf
  by_cases hc : e_ob S 10 l0 = true
  · exact hc
  · rw [if_neg hc] at hf
    cases hf
theorem c_X10_copy {l : Launch} {D : va_G}  {S : e_S} {w : Int32} {k : e_G} {l0 : Nat} {l1 : Int32} {l2 : Int32} {l3 : Int32} {l4 : Int32} {l5 : Int32} {g : e_G} (hf : f_X10_copy S l0 l1 l2 l3 l4 l5 g = some (w, k)) : CT l D (e_R 2) M_X10_copy [.ref l0, .int l1, .int l2, .int l3, .int l4, .int l5] (S, g) (some (.int w)) (S, k) := by
  refine CT.of (by decide +kernel) (Nat.le_of_ble_eq_true rfl) ?_
  have ho := o_X10_copy hf
  unfold f_X10_copy at hf
  rw [if_pos ho] at hf
  show X l D (e_R 2) M_X10_copy 0 0 0 [(0, .ref l0), (1, .int l1), (2, .int l2), (3, .int l3), (4, .int l4), (5, .int l5)] [] (S, g) (some (.int w)) (S, k)
  refine X.iload_n dX10_copy_0 rfl (j := 1) rfl ?_
  obtain ⟨q2, h1, hf⟩ := ob hf
  refine Y.callS (av := [.int l1]) dX10_copy_1 (c_X10_isSheet (l := l) (D := D) (w := q2.1) (k := q2.2) h1) cw_X10_236 mk_X10_isSheet (e_R_ok (Nat.le_of_ble_eq_true rfl) (Nat.le_of_ble_eq_true rfl)) ⟨rfl, rfl⟩ (by simp [Value.category]) ?_
  refine X.if_eq dX10_copy_4 (tgt := 14) rfl (fun hc => ?_) (fun hc => ?_)
  · rw [if_pos hc] at hf
    refine X.bipush dX10_copy_14 kB_m2 ?_
    obtain ⟨e1, e2⟩ := e_ret hf
    subst e1
    subst e2
    exact X.iret dX10_copy_16 rfl rfl
  · rw [if_neg hc] at hf
    refine X.iload_n dX10_copy_7 rfl (j := 3) rfl ?_
    obtain ⟨q4, h3, hf⟩ := ob hf
    refine Y.callS (av := [.int l3]) dX10_copy_8 (c_X10_isSheet (l := l) (D := D) (w := q4.1) (k := q4.2) h3) cw_X10_236 mk_X10_isSheet (e_R_ok (Nat.le_of_ble_eq_true rfl) (Nat.le_of_ble_eq_true rfl)) ⟨rfl, rfl⟩ (by simp [Value.category]) ?_
    refine X.if_ne dX10_copy_11 (tgt := 17) rfl (fun hc => ?_) (fun hc => ?_)
    · rw [if_neg hc] at hf
      refine X.aload_n dX10_copy_17 rfl (j := 0) rfl ?_
      obtain ⟨v5, h6, hf⟩ := ob hf
      refine Y.getR dX10_copy_18 fl_X10_17 rfl h6 ?_
      refine X.iload_n dX10_copy_21 rfl (j := 1) rfl ?_
      obtain ⟨v7, h8, hf⟩ := ob hf
      refine Y.aald dX10_copy_22 (kd := 4) (by decide) h8 ?_
      refine X.astore dX10_copy_23 (Nat.le_of_ble_eq_true rfl) (lc' := [(6, .ref v7), (0, .ref l0), (1, .int l1), (2, .int l2), (3, .int l3), (4, .int l4), (5, .int l5)]) rfl ?_
      refine X.aload_n dX10_copy_25 rfl (j := 1) rfl ?_
      obtain ⟨v9, h10, hf⟩ := ob hf
      refine Y.getR dX10_copy_26 fl_X10_17 rfl h10 ?_
      refine X.iload_n dX10_copy_29 rfl (j := 4) rfl ?_
      obtain ⟨v11, h12, hf⟩ := ob hf
      refine Y.aald dX10_copy_30 (kd := 4) (by decide) h12 ?_
      refine X.astore dX10_copy_31 (Nat.le_of_ble_eq_true rfl) (lc' := [(7, .ref v11), (6, .ref v7), (0, .ref l0), (1, .int l1), (2, .int l2), (3, .int l3), (4, .int l4), (5, .int l5)]) rfl ?_
      refine X.aload dX10_copy_33 (j := 1) rfl ?_
      obtain ⟨q14, h13, hf⟩ := ob hf
      refine Y.callV (av := []) (ci := 6) dX10_copy_35 (c_X6_isMissing (l := l) (D := D) (w := q14.1) (k := q14.2) h13) cw_X10_253 (by decide) rfl mk_X6_isMissing (o_X6_isMissing (w := q14.1) (k := q14.2) h13) (e_R_ok (Nat.le_of_ble_eq_true rfl) (Nat.le_of_ble_eq_true rfl)) ⟨rfl, rfl⟩ (by simp [Value.category]) ?_
      refine X.if_ne dX10_copy_38 (tgt := 49) rfl (fun hc => ?_) (fun hc => ?_)
      · rw [if_neg hc] at hf
        refine X.bipush dX10_copy_49 kB_m11 ?_
        obtain ⟨e1, e2⟩ := e_ret hf
        subst e1
        subst e2
        exact X.iret dX10_copy_51 rfl rfl
      · rw [if_pos hc] at hf
        refine X.aload dX10_copy_41 (j := 0) rfl ?_
        obtain ⟨q16, h15, hf⟩ := ob hf
        refine Y.callV (av := []) (ci := 6) dX10_copy_43 (c_X6_isMissing (l := l) (D := D) (w := q16.1) (k := q16.2) h15) cw_X10_253 (by decide) rfl mk_X6_isMissing (o_X6_isMissing (w := q16.1) (k := q16.2) h15) (e_R_ok (Nat.le_of_ble_eq_true rfl) (Nat.le_of_ble_eq_true rfl)) ⟨rfl, rfl⟩ (by simp [Value.category]) ?_
        refine X.if_eq dX10_copy_46 (tgt := 52) rfl (fun hc => ?_) (fun hc => ?_)
        · rw [if_pos hc] at hf
          refine X.aload dX10_copy_52 (j := 1) rfl ?_
          obtain ⟨v17, h18, hf⟩ := ob hf
          refine Y.getI dX10_copy_54 fl_X10_258 rfl h18 ?_
          refine X.aload dX10_copy_57 (j := 0) rfl ?_
          obtain ⟨v19, h20, hf⟩ := ob hf
          refine Y.getI dX10_copy_59 fl_X10_258 rfl h20 ?_
          refine X.icmp_eq dX10_copy_62 (tgt := 68) rfl (fun hc => ?_) (fun hc => ?_)
          · rw [if_pos hc] at hf
            refine X.aload dX10_copy_68 (j := 1) rfl ?_
            refine X.iload_n dX10_copy_70 rfl (j := 4) rfl ?_
            refine X.iload dX10_copy_71 (j := 7) rfl ?_
            obtain ⟨q22, h21, hf⟩ := ob hf
            refine Y.callV (av := [.int l2, .int l5]) (ci := 6) dX10_copy_73 (c_X6_hasRow (l := l) (D := D) (w := q22.1) (k := q22.2) h21) cw_X10_261 (by decide) rfl mk_X6_hasRow (o_X6_hasRow (w := q22.1) (k := q22.2) h21) (e_R_ok (Nat.le_of_ble_eq_true rfl) (Nat.le_of_ble_eq_true rfl)) ⟨rfl, rfl⟩ (by simp [Value.category]) ?_
            refine X.if_eq dX10_copy_76 (tgt := 91) rfl (fun hc => ?_) (fun hc => ?_)
            · rw [if_pos hc] at hf
              refine X.bipush dX10_copy_91 kB_m12 ?_
              obtain ⟨e1, e2⟩ := e_ret hf
              subst e1
              subst e2
              exact X.iret dX10_copy_93 rfl rfl
            · rw [if_neg hc] at hf
              refine X.aload dX10_copy_79 (j := 0) rfl ?_
              refine X.iload dX10_copy_81 (j := 6) rfl ?_
              refine X.iload dX10_copy_83 (j := 7) rfl ?_
              obtain ⟨q24, h23, hf⟩ := ob hf
              refine Y.callV (av := [.int l4, .int l5]) (ci := 6) dX10_copy_85 (c_X6_hasRow (l := l) (D := D) (w := q24.1) (k := q24.2) h23) cw_X10_261 (by decide) rfl mk_X6_hasRow (o_X6_hasRow (w := q24.1) (k := q24.2) h23) (e_R_ok (Nat.le_of_ble_eq_true rfl) (Nat.le_of_ble_eq_true rfl)) ⟨rfl, rfl⟩ (by simp [Value.category]) ?_
              refine X.if_ne dX10_copy_88 (tgt := 94) rfl (fun hc => ?_) (fun hc => ?_)
              · rw [if_neg hc] at hf
                refine X.aload dX10_copy_94 (j := 1) rfl ?_
                obtain ⟨v25, h26, hf⟩ := ob hf
                refine Y.getR dX10_copy_96 fl_X10_264 rfl h26 ?_
                refine X.iload_n dX10_copy_99 rfl (j := 4) rfl ?_
                refine X.aload dX10_copy_100 (j := 0) rfl ?_
                obtain ⟨v27, h28, hf⟩ := ob hf
                refine Y.getR dX10_copy_102 fl_X10_264 rfl h28 ?_
                refine X.iload dX10_copy_105 (j := 6) rfl ?_
                refine X.iload dX10_copy_107 (j := 7) rfl ?_
                obtain ⟨g30, h29, hf⟩ := ob hf
                refine Y.acopy dX10_copy_109 ww_893 ww_895 ww_894 ww_91 ⟨Nat.le_of_ble_eq_true rfl, Nat.le_of_ble_eq_true rfl⟩ (by simp [Value.category]) h29 ?_
                refine X.iload dX10_copy_112 (j := 7) rfl ?_
                obtain ⟨e1, e2⟩ := e_ret hf
                subst e1
                subst e2
                exact X.iret dX10_copy_114 rfl rfl
              · rw [if_pos hc] at hf
                refine X.bipush dX10_copy_91 kB_m12 ?_
                obtain ⟨e1, e2⟩ := e_ret hf
                subst e1
                subst e2
                exact X.iret dX10_copy_93 rfl rfl
          · rw [if_neg hc] at hf
            refine X.bipush dX10_copy_65 kB_m13 ?_
            obtain ⟨e1, e2⟩ := e_ret hf
            subst e1
            subst e2
            exact X.iret dX10_copy_67 rfl rfl
        · rw [if_neg hc] at hf
          refine X.bipush dX10_copy_49 kB_m11 ?_
          obtain ⟨e1, e2⟩ := e_ret hf
          subst e1
          subst e2
          exact X.iret dX10_copy_51 rfl rfl
    · rw [if_pos hc] at hf
      refine X.bipush dX10_copy_14 kB_m2 ?_
      obtain ⟨e1, e2⟩ := e_ret hf
      subst e1
      subst e2
      exact X.iret dX10_copy_16 rfl rfl
/-! LeanedOut.peopleBy(IIII)I -/
abbrev M_X10_peopleBy : e_M := (yX10_peopleBy, cX10_peopleBy, 9, (some .int))
theorem mk_X10_peopleBy : e_Mok M_X10_peopleBy 4 := ⟨by decide +kernel, by decide +kernel, by decide +kernel⟩
theorem dX10_peopleBy_0 : decode cX10_peopleBy 0 = .ok (.iload_n 1, 1) := by decide +kernel
theorem dX10_peopleBy_1 : decode cX10_peopleBy 1 = .ok (.invokestatic 236, 3) := by decide +kernel
theorem dX10_peopleBy_4 : decode cX10_peopleBy 4 = .ok (.ifCond .eq 24, 3) := by decide +kernel
theorem dX10_peopleBy_7 : decode cX10_peopleBy 7 = .ok (.iload_n 2, 1) := by decide +kernel
theorem dX10_peopleBy_8 : decode cX10_peopleBy 8 = .ok (.ifCond .lt 20, 3) := by decide +kernel
theorem dX10_peopleBy_11 : decode cX10_peopleBy 11 = .ok (.iload_n 2, 1) := by decide +kernel
theorem dX10_peopleBy_12 : decode cX10_peopleBy 12 = .ok (.iconst 2, 1) := by decide +kernel
theorem dX10_peopleBy_13 : decode cX10_peopleBy 13 = .ok (.if_icmp .gt 15, 3) := by decide +kernel
theorem dX10_peopleBy_16 : decode cX10_peopleBy 16 = .ok (.iload 4, 2) := by decide +kernel
theorem dX10_peopleBy_18 : decode cX10_peopleBy 18 = .ok (.ifCond .lt 10, 3) := by decide +kernel
theorem dX10_peopleBy_21 : decode cX10_peopleBy 21 = .ok (.iload 4, 2) := by decide +kernel
theorem dX10_peopleBy_23 : decode cX10_peopleBy 23 = .ok (.bipush 6, 2) := by decide +kernel
theorem dX10_peopleBy_25 : decode cX10_peopleBy 25 = .ok (.if_icmp .le 6, 3) := by decide +kernel
theorem dX10_peopleBy_28 : decode cX10_peopleBy 28 = .ok (.bipush (-2), 2) := by decide +kernel
theorem dX10_peopleBy_30 : decode cX10_peopleBy 30 = .ok (.ireturn, 1) := by decide +kernel
theorem dX10_peopleBy_31 : decode cX10_peopleBy 31 = .ok (.aload_n 0, 1) := by decide +kernel
theorem dX10_peopleBy_32 : decode cX10_peopleBy 32 = .ok (.getfield 17, 3) := by decide +kernel
theorem dX10_peopleBy_35 : decode cX10_peopleBy 35 = .ok (.iload_n 1, 1) := by decide +kernel
theorem dX10_peopleBy_36 : decode cX10_peopleBy 36 = .ok (.aaload, 1) := by decide +kernel
theorem dX10_peopleBy_37 : decode cX10_peopleBy 37 = .ok (.astore 5, 2) := by decide +kernel
theorem dX10_peopleBy_39 : decode cX10_peopleBy 39 = .ok (.aload 5, 2) := by decide +kernel
theorem dX10_peopleBy_41 : decode cX10_peopleBy 41 = .ok (.invokevirtual 253, 3) := by decide +kernel
theorem dX10_peopleBy_44 : decode cX10_peopleBy 44 = .ok (.ifCond .eq 6, 3) := by decide +kernel
theorem dX10_peopleBy_47 : decode cX10_peopleBy 47 = .ok (.bipush (-11), 2) := by decide +kernel
theorem dX10_peopleBy_49 : decode cX10_peopleBy 49 = .ok (.ireturn, 1) := by decide +kernel
theorem dX10_peopleBy_50 : decode cX10_peopleBy 50 = .ok (.aload 5, 2) := by decide +kernel
theorem dX10_peopleBy_52 : decode cX10_peopleBy 52 = .ok (.getfield 258, 3) := by decide +kernel
theorem dX10_peopleBy_55 : decode cX10_peopleBy 55 = .ok (.iload_n 2, 1) := by decide +kernel
theorem dX10_peopleBy_56 : decode cX10_peopleBy 56 = .ok (.if_icmp .eq 6, 3) := by decide +kernel
theorem dX10_peopleBy_59 : decode cX10_peopleBy 59 = .ok (.bipush (-13), 2) := by decide +kernel
theorem dX10_peopleBy_61 : decode cX10_peopleBy 61 = .ok (.ireturn, 1) := by decide +kernel
theorem dX10_peopleBy_62 : decode cX10_peopleBy 62 = .ok (.iconst 0, 1) := by decide +kernel
theorem dX10_peopleBy_63 : decode cX10_peopleBy 63 = .ok (.istore 6, 2) := by decide +kernel
theorem dX10_peopleBy_65 : decode cX10_peopleBy 65 = .ok (.iload_n 3, 1) := by decide +kernel
theorem dX10_peopleBy_66 : decode cX10_peopleBy 66 = .ok (.istore 7, 2) := by decide +kernel
theorem dX10_peopleBy_68 : decode cX10_peopleBy 68 = .ok (.iconst 0, 1) := by decide +kernel
theorem dX10_peopleBy_69 : decode cX10_peopleBy 69 = .ok (.istore 8, 2) := by decide +kernel
theorem dX10_peopleBy_71 : decode cX10_peopleBy 71 = .ok (.iload 8, 2) := by decide +kernel
theorem dX10_peopleBy_73 : decode cX10_peopleBy 73 = .ok (.iload 4, 2) := by decide +kernel
theorem dX10_peopleBy_75 : decode cX10_peopleBy 75 = .ok (.if_icmp .ge 52, 3) := by decide +kernel
theorem dX10_peopleBy_78 : decode cX10_peopleBy 78 = .ok (.aload 5, 2) := by decide +kernel
theorem dX10_peopleBy_80 : decode cX10_peopleBy 80 = .ok (.iload 7, 2) := by decide +kernel
theorem dX10_peopleBy_82 : decode cX10_peopleBy 82 = .ok (.iconst 2, 1) := by decide +kernel
theorem dX10_peopleBy_83 : decode cX10_peopleBy 83 = .ok (.invokevirtual 261, 3) := by decide +kernel
theorem dX10_peopleBy_86 : decode cX10_peopleBy 86 = .ok (.ifCond .ne 6, 3) := by decide +kernel
theorem dX10_peopleBy_89 : decode cX10_peopleBy 89 = .ok (.bipush (-12), 2) := by decide +kernel
theorem dX10_peopleBy_91 : decode cX10_peopleBy 91 = .ok (.ireturn, 1) := by decide +kernel
theorem dX10_peopleBy_92 : decode cX10_peopleBy 92 = .ok (.aload_n 0, 1) := by decide +kernel
theorem dX10_peopleBy_93 : decode cX10_peopleBy 93 = .ok (.aload 5, 2) := by decide +kernel
theorem dX10_peopleBy_95 : decode cX10_peopleBy 95 = .ok (.iload 7, 2) := by decide +kernel
theorem dX10_peopleBy_97 : decode cX10_peopleBy 97 = .ok (.invokevirtual 273, 3) := by decide +kernel
theorem dX10_peopleBy_100 : decode cX10_peopleBy 100 = .ok (.aload 5, 2) := by decide +kernel
theorem dX10_peopleBy_102 : decode cX10_peopleBy 102 = .ok (.iload 7, 2) := by decide +kernel
theorem dX10_peopleBy_104 : decode cX10_peopleBy 104 = .ok (.iconst 1, 1) := by decide +kernel
theorem dX10_peopleBy_105 : decode cX10_peopleBy 105 = .ok (.iadd, 1) := by decide +kernel
theorem dX10_peopleBy_106 : decode cX10_peopleBy 106 = .ok (.invokevirtual 273, 3) := by decide +kernel
theorem dX10_peopleBy_109 : decode cX10_peopleBy 109 = .ok (.invokevirtual 129, 3) := by decide +kernel
theorem dX10_peopleBy_112 : decode cX10_peopleBy 112 = .ok (.ifCond .lt 6, 3) := by decide +kernel
theorem dX10_peopleBy_115 : decode cX10_peopleBy 115 = .ok (.iinc 6 1, 3) := by decide +kernel
theorem dX10_peopleBy_118 : decode cX10_peopleBy 118 = .ok (.iinc 7 2, 3) := by decide +kernel
theorem dX10_peopleBy_121 : decode cX10_peopleBy 121 = .ok (.iinc 8 1, 3) := by decide +kernel
theorem dX10_peopleBy_124 : decode cX10_peopleBy 124 = .ok (.goto (-53), 3) := by decide +kernel
theorem dX10_peopleBy_127 : decode cX10_peopleBy 127 = .ok (.iload 6, 2) := by decide +kernel
theorem dX10_peopleBy_129 : decode cX10_peopleBy 129 = .ok (.ireturn, 1) := by decide +kernel
def J_X10_peopleBy_118 (c71 : Nat → Int32 → Nat → Int32 → Int32 → Int32 → e_G → Option (Int32 × e_G)) (S : e_S) (l0 : Nat) (l4 : Int32) (l5 : Nat) (l6 : Int32) (l7 : Int32) (l8 : Int32) (g : e_G) : Option (Int32 × e_G) :=
  c71 l0 l4 l5 l6 (l7 + (2 : Int32)) (l8 + (1 : Int32)) g
def L_X10_peopleBy_71 : Nat → e_S → Nat → Int32 → Nat → Int32 → Int32 → Int32 → e_G → Option (Int32 × e_G)
  | 0, _, _, _, _, _, _, _, _ => none
  | n + 1, S, l0, l4, l5, l6, l7, l8, g =>
  if l4 ≤ l8 then
    some (l6, g)
  else
    (f_X6_hasRow S l5 l7 (2 : Int32) g).bind fun q2 =>
    if q2.1 = 0 then
      some ((-12 : Int32), q2.2)
    else
      (f_X6_get S l5 l7 q2.2).bind fun q4 =>
      (f_X6_get S l5 (l7 + (1 : Int32)) q4.2).bind fun q6 =>
      (f_X10_comes S l0 q4.1 q6.1 q6.2).bind fun q8 =>
      if q8.1 < 0 then
        J_X10_peopleBy_118 (L_X10_peopleBy_71 n S) S l0 l4 l5 l6 l7 l8 q8.2
      else
        J_X10_peopleBy_118 (L_X10_peopleBy_71 n S) S l0 l4 l5 (l6 + (1 : Int32)) l7 l8 q8.2
def f_X10_peopleBy (S : e_S) (l0 : Nat) (l1 : Int32) (l2 : Int32) (l3 : Int32) (l4 : Int32) (g : e_G) : Option (Int32 × e_G) :=
  if e_ob S 10 l0 = true then
    (f_X10_isSheet S l1 g).bind fun q2 =>
    if q2.1 = 0 then
      some ((-2 : Int32), q2.2)
    else
      if l2 < 0 then
        some ((-2 : Int32), q2.2)
      else
        if (2 : Int32) < l2 then
          some ((-2 : Int32), q2.2)
        else
          if l4 < 0 then
            some ((-2 : Int32), q2.2)
          else
            if l4 ≤ (6 : Int32) then
              (e_gR S q2.2 10 l0 1).bind fun v3 =>
              (e_aR S q2.2 4 v3 l1).bind fun v5 =>
              (f_X6_isMissing S v5 q2.2).bind fun q8 =>
              if q8.1 = 0 then
                (e_gI S q8.2 6 v5 1).bind fun v9 =>
                if v9 = l2 then
                  L_X10_peopleBy_71 50000 S l0 l4 v5 (0 : Int32) l3 (0 : Int32) q8.2
                else
                  some ((-13 : Int32), q8.2)
              else
                some ((-11 : Int32), q8.2)
            else
              some ((-2 : Int32), q2.2)
  else none
theorem x_J_X10_peopleBy_118 {l : Launch} {D : va_G} {S : e_S} {w : Int32} {k : e_G} (c71 : Nat → Int32 → Nat → Int32 → Int32 → Int32 → e_G → Option (Int32 × e_G)) (hc71 : ∀ (l0 : Nat) (l4 : Int32) (l5 : Nat) (l6 : Int32) (l7 : Int32) (l8 : Int32) (g : e_G), c71 l0 l4 l5 l6 l7 l8 g = some (w, k) → X l D (e_R 4) M_X10_peopleBy 0 0 71 [(0, .ref l0), (4, .int l4), (5, .ref l5), (6, .int l6), (7, .int l7), (8, .int l8)] [] (S, g) (some (.int w)) (S, k)) {l0 : Nat} {l4 : Int32} {l5 : Nat} {l6 : Int32} {l7 : Int32} {l8 : Int32} {g : e_G} (hf : J_X10_peopleBy_118 c71 S l0 l4 l5 l6 l7 l8 g = some (w, k)) : X l D (e_R 4) M_X10_peopleBy 0 0 118 [(0, .ref l0), (4, .int l4), (5, .ref l5), (6, .int l6), (7, .int l7), (8, .int l8)] [] (S, g) (some (.int w)) (S, k) := by
  unfold J_X10_peopleBy_118 at hf
  refine X.iinc (j := 4) dX10_peopleBy_118 rfl (v := l7 + (2 : Int32)) (by rw [kI_2]) (Nat.le_of_ble_eq_true rfl) (lc' := [(7, .int (l7 + (2 : Int32))), (0, .ref l0), (4, .int l4), (5, .ref l5), (6, .int l6), (8, .int l8)]) rfl ?_
  refine X.iinc (j := 5) dX10_peopleBy_121 rfl (v := l8 + (1 : Int32)) (by rw [kI_1]) (Nat.le_of_ble_eq_true rfl) (lc' := [(8, .int (l8 + (1 : Int32))), (7, .int (l7 + (2 : Int32))), (0, .ref l0), (4, .int l4), (5, .ref l5), (6, .int l6)]) rfl ?_
  refine X.goto dX10_peopleBy_124 (tgt := 71) rfl ?_
  refine X.sub [2, 3, 4, 5, 1, 0] rfl ?_
  exact hc71 _ _ _ _ _ _ _ hf
theorem x_L_X10_peopleBy_71 {l : Launch} {D : va_G} {S : e_S} {w : Int32} {k : e_G} : ∀ (n : Nat) (l0 : Nat) (l4 : Int32) (l5 : Nat) (l6 : Int32) (l7 : Int32) (l8 : Int32) (g : e_G), L_X10_peopleBy_71 n S l0 l4 l5 l6 l7 l8 g = some (w, k) → X l D (e_R 4) M_X10_peopleBy 0 0 71 [(0, .ref l0), (4, .int l4), (5, .ref l5), (6, .int l6), (7, .int l7), (8, .int l8)] [] (S, g) (some (.int w)) (S, k) := by
  intro n
  induction n with
  | zero =>
    intro l0 l4 l5 l6 l7 l8 g hf
    cases hf
  | succ n ih =>
    intro l0 l4 l5 l6 l7 l8 g hf
    rw [L_X10_peopleBy_71] at hf
    refine X.iload dX10_peopleBy_71 (j := 5) rfl ?_
    refine X.iload dX10_peopleBy_73 (j := 1) rfl ?_
    refine X.icmp_ge dX10_peopleBy_75 (tgt := 127) rfl (fun hc => ?_) (fun hc => ?_)
    · rw [if_pos hc] at hf
      refine X.iload dX10_peopleBy_127 (j := 3) rfl ?_
      obtain ⟨e1, e2⟩ := e_ret hf
      subst e1
      subst e2
      exact X.iret dX10_peopleBy_129 rfl rfl
    · rw [if_neg hc] at hf
      refine X.aload dX10_peopleBy_78 (j := 2) rfl ?_
      refine X.iload dX10_peopleBy_80 (j := 4) rfl ?_
      refine X.iconst dX10_peopleBy_82 kI_2 ?_
      obtain ⟨q2, h1, hf⟩ := ob hf
      refine Y.callV (av := [.int l7, .int (2 : Int32)]) (ci := 6) dX10_peopleBy_83 (c_X6_hasRow (l := l) (D := D) (w := q2.1) (k := q2.2) h1) cw_X10_261 (by decide) rfl mk_X6_hasRow (o_X6_hasRow (w := q2.1) (k := q2.2) h1) (e_R_ok (Nat.le_of_ble_eq_true rfl) (Nat.le_of_ble_eq_true rfl)) ⟨rfl, rfl⟩ (by simp [Value.category]) ?_
      refine X.if_ne dX10_peopleBy_86 (tgt := 92) rfl (fun hc => ?_) (fun hc => ?_)
      · rw [if_neg hc] at hf
        refine X.aload_n dX10_peopleBy_92 rfl (j := 0) rfl ?_
        refine X.aload dX10_peopleBy_93 (j := 2) rfl ?_
        refine X.iload dX10_peopleBy_95 (j := 4) rfl ?_
        obtain ⟨q4, h3, hf⟩ := ob hf
        refine Y.callV (av := [.int l7]) (ci := 6) dX10_peopleBy_97 (c_X6_get (l := l) (D := D) (w := q4.1) (k := q4.2) h3) cw_X10_273 (by decide) rfl mk_X6_get (o_X6_get (w := q4.1) (k := q4.2) h3) (e_R_ok (Nat.le_of_ble_eq_true rfl) (Nat.le_of_ble_eq_true rfl)) ⟨rfl, rfl⟩ (by simp [Value.category]) ?_
        refine X.aload dX10_peopleBy_100 (j := 2) rfl ?_
        refine X.iload dX10_peopleBy_102 (j := 4) rfl ?_
        refine X.iconst dX10_peopleBy_104 kI_1 ?_
        refine X.iadd dX10_peopleBy_105 ?_
        obtain ⟨q6, h5, hf⟩ := ob hf
        refine Y.callV (av := [.int (l7 + (1 : Int32))]) (ci := 6) dX10_peopleBy_106 (c_X6_get (l := l) (D := D) (w := q6.1) (k := q6.2) h5) cw_X10_273 (by decide) rfl mk_X6_get (o_X6_get (w := q6.1) (k := q6.2) h5) (e_R_ok (Nat.le_of_ble_eq_true rfl) (Nat.le_of_ble_eq_true rfl)) ⟨rfl, rfl⟩ (by simp [Value.category]) ?_
        obtain ⟨q8, h7, hf⟩ := ob hf
        refine Y.callV (av := [.int q4.1, .int q6.1]) (ci := 10) dX10_peopleBy_109 (c_X10_comes (l := l) (D := D) (w := q8.1) (k := q8.2) h7) cw_X10_129 (by decide) rfl mk_X10_comes (o_X10_comes (w := q8.1) (k := q8.2) h7) (e_R_ok (Nat.le_of_ble_eq_true rfl) (Nat.le_of_ble_eq_true rfl)) ⟨rfl, rfl⟩ (by simp [Value.category]) ?_
        refine X.if_lt dX10_peopleBy_112 (tgt := 118) rfl (fun hc => ?_) (fun hc => ?_)
        · rw [if_pos hc] at hf
          exact x_J_X10_peopleBy_118 _ ih hf
        · rw [if_neg hc] at hf
          refine X.iinc (j := 3) dX10_peopleBy_115 rfl (v := l6 + (1 : Int32)) (by rw [kI_1]) (Nat.le_of_ble_eq_true rfl) (lc' := [(6, .int (l6 + (1 : Int32))), (0, .ref l0), (4, .int l4), (5, .ref l5), (7, .int l7), (8, .int l8)]) rfl ?_
          refine X.sub [1, 2, 3, 0, 4, 5] rfl ?_
          exact x_J_X10_peopleBy_118 _ ih hf
      · rw [if_pos hc] at hf
        refine X.bipush dX10_peopleBy_89 kB_m12 ?_
        obtain ⟨e1, e2⟩ := e_ret hf
        subst e1
        subst e2
        exact X.iret dX10_peopleBy_91 rfl rfl
theorem o_X10_peopleBy  {S : e_S} {w : Int32} {k : e_G} {l0 : Nat} {l1 : Int32} {l2 : Int32} {l3 : Int32} {l4 : Int32} {g : e_G} (hf : f_X10_peopleBy S l0 l1 l2 l3 l4 g = some (w, k)) : e_ob S 10 l0 = true := by
  unfold f_X10_peopleBy at hf
  by_cases hc : e_ob S 10 l0 = true
  · exact hc
  · rw [if_neg hc] at hf
    cases hf
theorem c_X10_peopleBy {l : Launch} {D : va_G}  {S : e_S} {w : Int32} {k : e_G} {l0 : Nat} {l1 : Int32} {l2 : Int32} {l3 : Int32} {l4 : Int32} {g : e_G} (hf : f_X10_peopleBy S l0 l1 l2 l3 l4 g = some (w, k)) : CT l D (e_R 4) M_X10_peopleBy [.ref l0, .int l1, .int l2, .int l3, .int l4] (S, g) (some (.int w)) (S, k) := by
  refine CT.of (by decide +kernel) (Nat.le_of_ble_eq_true rfl) ?_
  have ho := o_X10_peopleBy hf
  unfold f_X10_peopleBy at hf
  rw [if_pos ho] at hf
  show X l D (e_R 4) M_X10_peopleBy 0 0 0 [(0, .ref l0), (1, .int l1), (2, .int l2), (3, .int l3), (4, .int l4)] [] (S, g) (some (.int w)) (S, k)
  refine X.iload_n dX10_peopleBy_0 rfl (j := 1) rfl ?_
  obtain ⟨q2, h1, hf⟩ := ob hf
  refine Y.callS (av := [.int l1]) dX10_peopleBy_1 (c_X10_isSheet (l := l) (D := D) (w := q2.1) (k := q2.2) h1) cw_X10_236 mk_X10_isSheet (e_R_ok (Nat.le_of_ble_eq_true rfl) (Nat.le_of_ble_eq_true rfl)) ⟨rfl, rfl⟩ (by simp [Value.category]) ?_
  refine X.if_eq dX10_peopleBy_4 (tgt := 28) rfl (fun hc => ?_) (fun hc => ?_)
  · rw [if_pos hc] at hf
    refine X.bipush dX10_peopleBy_28 kB_m2 ?_
    obtain ⟨e1, e2⟩ := e_ret hf
    subst e1
    subst e2
    exact X.iret dX10_peopleBy_30 rfl rfl
  · rw [if_neg hc] at hf
    refine X.iload_n dX10_peopleBy_7 rfl (j := 2) rfl ?_
    refine X.if_lt dX10_peopleBy_8 (tgt := 28) rfl (fun hc => ?_) (fun hc => ?_)
    · rw [if_pos hc] at hf
      refine X.bipush dX10_peopleBy_28 kB_m2 ?_
      obtain ⟨e1, e2⟩ := e_ret hf
      subst e1
      subst e2
      exact X.iret dX10_peopleBy_30 rfl rfl
    · rw [if_neg hc] at hf
      refine X.iload_n dX10_peopleBy_11 rfl (j := 2) rfl ?_
      refine X.iconst dX10_peopleBy_12 kI_2 ?_
      refine X.icmp_gt dX10_peopleBy_13 (tgt := 28) rfl (fun hc => ?_) (fun hc => ?_)
      · rw [if_pos hc] at hf
        refine X.bipush dX10_peopleBy_28 kB_m2 ?_
        obtain ⟨e1, e2⟩ := e_ret hf
        subst e1
        subst e2
        exact X.iret dX10_peopleBy_30 rfl rfl
      · rw [if_neg hc] at hf
        refine X.iload dX10_peopleBy_16 (j := 4) rfl ?_
        refine X.if_lt dX10_peopleBy_18 (tgt := 28) rfl (fun hc => ?_) (fun hc => ?_)
        · rw [if_pos hc] at hf
          refine X.bipush dX10_peopleBy_28 kB_m2 ?_
          obtain ⟨e1, e2⟩ := e_ret hf
          subst e1
          subst e2
          exact X.iret dX10_peopleBy_30 rfl rfl
        · rw [if_neg hc] at hf
          refine X.iload dX10_peopleBy_21 (j := 4) rfl ?_
          refine X.bipush dX10_peopleBy_23 kB_6 ?_
          refine X.icmp_le dX10_peopleBy_25 (tgt := 31) rfl (fun hc => ?_) (fun hc => ?_)
          · rw [if_pos hc] at hf
            refine X.aload_n dX10_peopleBy_31 rfl (j := 0) rfl ?_
            obtain ⟨v3, h4, hf⟩ := ob hf
            refine Y.getR dX10_peopleBy_32 fl_X10_17 rfl h4 ?_
            refine X.iload_n dX10_peopleBy_35 rfl (j := 1) rfl ?_
            obtain ⟨v5, h6, hf⟩ := ob hf
            refine Y.aald dX10_peopleBy_36 (kd := 4) (by decide) h6 ?_
            refine X.astore dX10_peopleBy_37 (Nat.le_of_ble_eq_true rfl) (lc' := [(5, .ref v5), (0, .ref l0), (1, .int l1), (2, .int l2), (3, .int l3), (4, .int l4)]) rfl ?_
            refine X.aload dX10_peopleBy_39 (j := 0) rfl ?_
            obtain ⟨q8, h7, hf⟩ := ob hf
            refine Y.callV (av := []) (ci := 6) dX10_peopleBy_41 (c_X6_isMissing (l := l) (D := D) (w := q8.1) (k := q8.2) h7) cw_X10_253 (by decide) rfl mk_X6_isMissing (o_X6_isMissing (w := q8.1) (k := q8.2) h7) (e_R_ok (Nat.le_of_ble_eq_true rfl) (Nat.le_of_ble_eq_true rfl)) ⟨rfl, rfl⟩ (by simp [Value.category]) ?_
            refine X.if_eq dX10_peopleBy_44 (tgt := 50) rfl (fun hc => ?_) (fun hc => ?_)
            · rw [if_pos hc] at hf
              refine X.aload dX10_peopleBy_50 (j := 0) rfl ?_
              obtain ⟨v9, h10, hf⟩ := ob hf
              refine Y.getI dX10_peopleBy_52 fl_X10_258 rfl h10 ?_
              refine X.iload_n dX10_peopleBy_55 rfl (j := 3) rfl ?_
              refine X.icmp_eq dX10_peopleBy_56 (tgt := 62) rfl (fun hc => ?_) (fun hc => ?_)
              · rw [if_pos hc] at hf
                refine X.iconst dX10_peopleBy_62 kI_0 ?_
                refine X.istore dX10_peopleBy_63 (Nat.le_of_ble_eq_true rfl) (lc' := [(6, .int (0 : Int32)), (5, .ref v5), (0, .ref l0), (1, .int l1), (2, .int l2), (3, .int l3), (4, .int l4)]) rfl ?_
                refine X.iload_n dX10_peopleBy_65 rfl (j := 5) rfl ?_
                refine X.istore dX10_peopleBy_66 (Nat.le_of_ble_eq_true rfl) (lc' := [(7, .int l3), (6, .int (0 : Int32)), (5, .ref v5), (0, .ref l0), (1, .int l1), (2, .int l2), (3, .int l3), (4, .int l4)]) rfl ?_
                refine X.iconst dX10_peopleBy_68 kI_0 ?_
                refine X.istore dX10_peopleBy_69 (Nat.le_of_ble_eq_true rfl) (lc' := [(8, .int (0 : Int32)), (7, .int l3), (6, .int (0 : Int32)), (5, .ref v5), (0, .ref l0), (1, .int l1), (2, .int l2), (3, .int l3), (4, .int l4)]) rfl ?_
                refine X.sub [4, 8, 3, 2, 1, 0] rfl ?_
                exact x_L_X10_peopleBy_71 50000 _ _ _ _ _ _ _ hf
              · rw [if_neg hc] at hf
                refine X.bipush dX10_peopleBy_59 kB_m13 ?_
                obtain ⟨e1, e2⟩ := e_ret hf
                subst e1
                subst e2
                exact X.iret dX10_peopleBy_61 rfl rfl
            · rw [if_neg hc] at hf
              refine X.bipush dX10_peopleBy_47 kB_m11 ?_
              obtain ⟨e1, e2⟩ := e_ret hf
              subst e1
              subst e2
              exact X.iret dX10_peopleBy_49 rfl rfl
          · rw [if_neg hc] at hf
            refine X.bipush dX10_peopleBy_28 kB_m2 ?_
            obtain ⟨e1, e2⟩ := e_ret hf
            subst e1
            subst e2
            exact X.iret dX10_peopleBy_30 rfl rfl
/-! LeanedOut.taken(II)I -/
abbrev M_X10_taken : e_M := (yX10_taken, cX10_taken, 5, (some .int))
theorem mk_X10_taken : e_Mok M_X10_taken 2 := ⟨by decide +kernel, by decide +kernel, by decide +kernel⟩
theorem dX10_taken_0 : decode cX10_taken 0 = .ok (.iload_n 2, 1) := by decide +kernel
theorem dX10_taken_1 : decode cX10_taken 1 = .ok (.ifCond .lt 9, 3) := by decide +kernel
theorem dX10_taken_4 : decode cX10_taken 4 = .ok (.iload_n 2, 1) := by decide +kernel
theorem dX10_taken_5 : decode cX10_taken 5 = .ok (.bipush 6, 2) := by decide +kernel
theorem dX10_taken_7 : decode cX10_taken 7 = .ok (.if_icmp .le 6, 3) := by decide +kernel
theorem dX10_taken_10 : decode cX10_taken 10 = .ok (.bipush (-2), 2) := by decide +kernel
theorem dX10_taken_12 : decode cX10_taken 12 = .ok (.ireturn, 1) := by decide +kernel
theorem dX10_taken_13 : decode cX10_taken 13 = .ok (.iload_n 1, 1) := by decide +kernel
theorem dX10_taken_14 : decode cX10_taken 14 = .ok (.ifCond .lt 9, 3) := by decide +kernel
theorem dX10_taken_17 : decode cX10_taken 17 = .ok (.iload_n 1, 1) := by decide +kernel
theorem dX10_taken_18 : decode cX10_taken 18 = .ok (.bipush 12, 2) := by decide +kernel
theorem dX10_taken_20 : decode cX10_taken 20 = .ok (.if_icmp .lt 6, 3) := by decide +kernel
theorem dX10_taken_23 : decode cX10_taken 23 = .ok (.bipush (-12), 2) := by decide +kernel
theorem dX10_taken_25 : decode cX10_taken 25 = .ok (.ireturn, 1) := by decide +kernel
theorem dX10_taken_26 : decode cX10_taken 26 = .ok (.iload_n 1, 1) := by decide +kernel
theorem dX10_taken_27 : decode cX10_taken 27 = .ok (.bipush 6, 2) := by decide +kernel
theorem dX10_taken_29 : decode cX10_taken 29 = .ok (.irem, 1) := by decide +kernel
theorem dX10_taken_30 : decode cX10_taken 30 = .ok (.istore_n 3, 1) := by decide +kernel
theorem dX10_taken_31 : decode cX10_taken 31 = .ok (.aload_n 0, 1) := by decide +kernel
theorem dX10_taken_32 : decode cX10_taken 32 = .ok (.getfield 63, 3) := by decide +kernel
theorem dX10_taken_35 : decode cX10_taken 35 = .ok (.iload_n 3, 1) := by decide +kernel
theorem dX10_taken_36 : decode cX10_taken 36 = .ok (.invokevirtual 122, 3) := by decide +kernel
theorem dX10_taken_39 : decode cX10_taken 39 = .ok (.ifCond .ne 6, 3) := by decide +kernel
theorem dX10_taken_42 : decode cX10_taken 42 = .ok (.bipush (-11), 2) := by decide +kernel
theorem dX10_taken_44 : decode cX10_taken 44 = .ok (.ireturn, 1) := by decide +kernel
theorem dX10_taken_45 : decode cX10_taken 45 = .ok (.iload_n 1, 1) := by decide +kernel
theorem dX10_taken_46 : decode cX10_taken 46 = .ok (.bipush 6, 2) := by decide +kernel
theorem dX10_taken_48 : decode cX10_taken 48 = .ok (.if_icmp .ge 7, 3) := by decide +kernel
theorem dX10_taken_51 : decode cX10_taken 51 = .ok (.iconst 1, 1) := by decide +kernel
theorem dX10_taken_52 : decode cX10_taken 52 = .ok (.goto 4, 3) := by decide +kernel
theorem dX10_taken_55 : decode cX10_taken 55 = .ok (.iconst 0, 1) := by decide +kernel
theorem dX10_taken_56 : decode cX10_taken 56 = .ok (.istore 4, 2) := by decide +kernel
theorem dX10_taken_58 : decode cX10_taken 58 = .ok (.iload_n 2, 1) := by decide +kernel
theorem dX10_taken_59 : decode cX10_taken 59 = .ok (.bipush 6, 2) := by decide +kernel
theorem dX10_taken_61 : decode cX10_taken 61 = .ok (.if_icmp .ne 29, 3) := by decide +kernel
theorem dX10_taken_64 : decode cX10_taken 64 = .ok (.iload 4, 2) := by decide +kernel
theorem dX10_taken_66 : decode cX10_taken 66 = .ok (.ifCond .eq 6, 3) := by decide +kernel
theorem dX10_taken_69 : decode cX10_taken 69 = .ok (.bipush (-13), 2) := by decide +kernel
theorem dX10_taken_71 : decode cX10_taken 71 = .ok (.ireturn, 1) := by decide +kernel
theorem dX10_taken_72 : decode cX10_taken 72 = .ok (.aload_n 0, 1) := by decide +kernel
theorem dX10_taken_73 : decode cX10_taken 73 = .ok (.getfield 63, 3) := by decide +kernel
theorem dX10_taken_76 : decode cX10_taken 76 = .ok (.getfield 154, 3) := by decide +kernel
theorem dX10_taken_79 : decode cX10_taken 79 = .ok (.iload_n 3, 1) := by decide +kernel
theorem dX10_taken_80 : decode cX10_taken 80 = .ok (.baload, 1) := by decide +kernel
theorem dX10_taken_81 : decode cX10_taken 81 = .ok (.ifCond .eq 7, 3) := by decide +kernel
theorem dX10_taken_84 : decode cX10_taken 84 = .ok (.iconst 1, 1) := by decide +kernel
theorem dX10_taken_85 : decode cX10_taken 85 = .ok (.goto 4, 3) := by decide +kernel
theorem dX10_taken_88 : decode cX10_taken 88 = .ok (.iconst 0, 1) := by decide +kernel
theorem dX10_taken_89 : decode cX10_taken 89 = .ok (.ireturn, 1) := by decide +kernel
theorem dX10_taken_90 : decode cX10_taken 90 = .ok (.iload 4, 2) := by decide +kernel
theorem dX10_taken_92 : decode cX10_taken 92 = .ok (.ifCond .eq 22, 3) := by decide +kernel
theorem dX10_taken_95 : decode cX10_taken 95 = .ok (.aload_n 0, 1) := by decide +kernel
theorem dX10_taken_96 : decode cX10_taken 96 = .ok (.getfield 63, 3) := by decide +kernel
theorem dX10_taken_99 : decode cX10_taken 99 = .ok (.iload_n 3, 1) := by decide +kernel
theorem dX10_taken_100 : decode cX10_taken 100 = .ok (.invokevirtual 276, 3) := by decide +kernel
theorem dX10_taken_103 : decode cX10_taken 103 = .ok (.iload_n 2, 1) := by decide +kernel
theorem dX10_taken_104 : decode cX10_taken 104 = .ok (.invokestatic 280, 3) := by decide +kernel
theorem dX10_taken_107 : decode cX10_taken 107 = .ok (.ifCond .eq 7, 3) := by decide +kernel
theorem dX10_taken_110 : decode cX10_taken 110 = .ok (.iload_n 3, 1) := by decide +kernel
theorem dX10_taken_111 : decode cX10_taken 111 = .ok (.goto 5, 3) := by decide +kernel
theorem dX10_taken_114 : decode cX10_taken 114 = .ok (.bipush (-13), 2) := by decide +kernel
theorem dX10_taken_116 : decode cX10_taken 116 = .ok (.ireturn, 1) := by decide +kernel
def J_X10_taken_56 (S : e_S) (l0 : Nat) (l2 : Int32) (l3 : Int32) (t0 : Int32) (g : e_G) : Option (Int32 × e_G) :=
  if l2 = (6 : Int32) then
    if t0 = 0 then
      (e_gR S g 10 l0 2).bind fun v7 =>
      (e_gR S g 7 v7 5).bind fun v9 =>
      (e_aI S g 1 v9 l3).bind fun v11 =>
      if v11 = 0 then
        some ((0 : Int32), g)
      else
        some ((1 : Int32), g)
    else
      some ((-13 : Int32), g)
  else
    if t0 = 0 then
      some ((-13 : Int32), g)
    else
      (e_gR S g 10 l0 2).bind fun v1 =>
      (f_X7_kindOf S v1 l3 g).bind fun q4 =>
      (f_X10_isOfKind S q4.1 l2 q4.2).bind fun q6 =>
      if q6.1 = 0 then
        some ((-13 : Int32), q6.2)
      else
        some (l3, q6.2)
def f_X10_taken (S : e_S) (l0 : Nat) (l1 : Int32) (l2 : Int32) (g : e_G) : Option (Int32 × e_G) :=
  if e_ob S 10 l0 = true then
    if l2 < 0 then
      some ((-2 : Int32), g)
    else
      if l2 ≤ (6 : Int32) then
        if l1 < 0 then
          some ((-12 : Int32), g)
        else
          if l1 < (12 : Int32) then
            (e_gR S g 10 l0 2).bind fun v1 =>
            (f_X7_has S v1 (i_rem l1 (6 : Int32)) g).bind fun q4 =>
            if q4.1 = 0 then
              some ((-11 : Int32), q4.2)
            else
              if (6 : Int32) ≤ l1 then
                J_X10_taken_56 S l0 l2 (i_rem l1 (6 : Int32)) (0 : Int32) q4.2
              else
                J_X10_taken_56 S l0 l2 (i_rem l1 (6 : Int32)) (1 : Int32) q4.2
          else
            some ((-12 : Int32), g)
      else
        some ((-2 : Int32), g)
  else none
theorem x_J_X10_taken_56 {l : Launch} {D : va_G} {S : e_S} {w : Int32} {k : e_G} {l0 : Nat} {l2 : Int32} {l3 : Int32} {t0 : Int32} {g : e_G} (hf : J_X10_taken_56 S l0 l2 l3 t0 g = some (w, k)) : X l D (e_R 2) M_X10_taken 0 0 56 [(0, .ref l0), (2, .int l2), (3, .int l3)] [.int t0] (S, g) (some (.int w)) (S, k) := by
  unfold J_X10_taken_56 at hf
  refine X.istore dX10_taken_56 (Nat.le_of_ble_eq_true rfl) (lc' := [(4, .int t0), (0, .ref l0), (2, .int l2), (3, .int l3)]) rfl ?_
  refine X.iload_n dX10_taken_58 rfl (j := 2) rfl ?_
  refine X.bipush dX10_taken_59 kB_6 ?_
  refine X.icmp_ne dX10_taken_61 (tgt := 90) rfl (fun hc => ?_) (fun hc => ?_)
  · rw [if_neg hc] at hf
    refine X.iload dX10_taken_90 (j := 0) rfl ?_
    refine X.if_eq dX10_taken_92 (tgt := 114) rfl (fun hc => ?_) (fun hc => ?_)
    · rw [if_pos hc] at hf
      refine X.bipush dX10_taken_114 kB_m13 ?_
      obtain ⟨e1, e2⟩ := e_ret hf
      subst e1
      subst e2
      exact X.iret dX10_taken_116 rfl rfl
    · rw [if_neg hc] at hf
      refine X.aload_n dX10_taken_95 rfl (j := 1) rfl ?_
      obtain ⟨v1, h2, hf⟩ := ob hf
      refine Y.getR dX10_taken_96 fl_X10_63 rfl h2 ?_
      refine X.iload_n dX10_taken_99 rfl (j := 3) rfl ?_
      obtain ⟨q4, h3, hf⟩ := ob hf
      refine Y.callV (av := [.int l3]) (ci := 7) dX10_taken_100 (c_X7_kindOf (l := l) (D := D) (w := q4.1) (k := q4.2) h3) cw_X10_276 (by decide) rfl mk_X7_kindOf (o_X7_kindOf (w := q4.1) (k := q4.2) h3) (e_R_ok (Nat.le_of_ble_eq_true rfl) (Nat.le_of_ble_eq_true rfl)) ⟨rfl, rfl⟩ (by simp [Value.category]) ?_
      refine X.iload_n dX10_taken_103 rfl (j := 2) rfl ?_
      obtain ⟨q6, h5, hf⟩ := ob hf
      refine Y.callS (av := [.ref q4.1, .int l2]) dX10_taken_104 (c_X10_isOfKind (l := l) (D := D) (w := q6.1) (k := q6.2) h5) cw_X10_280 mk_X10_isOfKind (e_R_ok (Nat.le_of_ble_eq_true rfl) (Nat.le_of_ble_eq_true rfl)) ⟨rfl, rfl⟩ (by simp [Value.category]) ?_
      refine X.if_eq dX10_taken_107 (tgt := 114) rfl (fun hc => ?_) (fun hc => ?_)
      · rw [if_pos hc] at hf
        refine X.bipush dX10_taken_114 kB_m13 ?_
        obtain ⟨e1, e2⟩ := e_ret hf
        subst e1
        subst e2
        exact X.iret dX10_taken_116 rfl rfl
      · rw [if_neg hc] at hf
        refine X.iload_n dX10_taken_110 rfl (j := 3) rfl ?_
        refine X.goto dX10_taken_111 (tgt := 116) rfl ?_
        obtain ⟨e1, e2⟩ := e_ret hf
        subst e1
        subst e2
        exact X.iret dX10_taken_116 rfl rfl
  · rw [if_pos hc] at hf
    refine X.iload dX10_taken_64 (j := 0) rfl ?_
    refine X.if_eq dX10_taken_66 (tgt := 72) rfl (fun hc => ?_) (fun hc => ?_)
    · rw [if_pos hc] at hf
      refine X.aload_n dX10_taken_72 rfl (j := 1) rfl ?_
      obtain ⟨v7, h8, hf⟩ := ob hf
      refine Y.getR dX10_taken_73 fl_X10_63 rfl h8 ?_
      obtain ⟨v9, h10, hf⟩ := ob hf
      refine Y.getR dX10_taken_76 fl_X10_154 rfl h10 ?_
      refine X.iload_n dX10_taken_79 rfl (j := 3) rfl ?_
      obtain ⟨v11, h12, hf⟩ := ob hf
      refine Y.zald dX10_taken_80 h12 ?_
      refine X.if_eq dX10_taken_81 (tgt := 88) rfl (fun hc => ?_) (fun hc => ?_)
      · rw [if_pos hc] at hf
        refine X.iconst dX10_taken_88 kI_0 ?_
        obtain ⟨e1, e2⟩ := e_ret hf
        subst e1
        subst e2
        exact X.iret dX10_taken_89 rfl rfl
      · rw [if_neg hc] at hf
        refine X.iconst dX10_taken_84 kI_1 ?_
        refine X.goto dX10_taken_85 (tgt := 89) rfl ?_
        obtain ⟨e1, e2⟩ := e_ret hf
        subst e1
        subst e2
        exact X.iret dX10_taken_89 rfl rfl
    · rw [if_neg hc] at hf
      refine X.bipush dX10_taken_69 kB_m13 ?_
      obtain ⟨e1, e2⟩ := e_ret hf
      subst e1
      subst e2
      exact X.iret dX10_taken_71 rfl rfl
theorem o_X10_taken  {S : e_S} {w : Int32} {k : e_G} {l0 : Nat} {l1 : Int32} {l2 : Int32} {g : e_G} (hf : f_X10_taken S l0 l1 l2 g = some (w, k)) : e_ob S 10 l0 = true := by
  unfold f_X10_taken at hf
  by_cases hc : e_ob S 10 l0 = true
  · exact hc
  · rw [if_neg hc] at hf
    cases hf
theorem c_X10_taken {l : Launch} {D : va_G}  {S : e_S} {w : Int32} {k : e_G} {l0 : Nat} {l1 : Int32} {l2 : Int32} {g : e_G} (hf : f_X10_taken S l0 l1 l2 g = some (w, k)) : CT l D (e_R 2) M_X10_taken [.ref l0, .int l1, .int l2] (S, g) (some (.int w)) (S, k) := by
  refine CT.of (by decide +kernel) (Nat.le_of_ble_eq_true rfl) ?_
  have ho := o_X10_taken hf
  unfold f_X10_taken at hf
  rw [if_pos ho] at hf
  show X l D (e_R 2) M_X10_taken 0 0 0 [(0, .ref l0), (1, .int l1), (2, .int l2)] [] (S, g) (some (.int w)) (S, k)
  refine X.iload_n dX10_taken_0 rfl (j := 2) rfl ?_
  refine X.if_lt dX10_taken_1 (tgt := 10) rfl (fun hc => ?_) (fun hc => ?_)
  · rw [if_pos hc] at hf
    refine X.bipush dX10_taken_10 kB_m2 ?_
    obtain ⟨e1, e2⟩ := e_ret hf
    subst e1
    subst e2
    exact X.iret dX10_taken_12 rfl rfl
  · rw [if_neg hc] at hf
    refine X.iload_n dX10_taken_4 rfl (j := 2) rfl ?_
    refine X.bipush dX10_taken_5 kB_6 ?_
    refine X.icmp_le dX10_taken_7 (tgt := 13) rfl (fun hc => ?_) (fun hc => ?_)
    · rw [if_pos hc] at hf
      refine X.iload_n dX10_taken_13 rfl (j := 1) rfl ?_
      refine X.if_lt dX10_taken_14 (tgt := 23) rfl (fun hc => ?_) (fun hc => ?_)
      · rw [if_pos hc] at hf
        refine X.bipush dX10_taken_23 kB_m12 ?_
        obtain ⟨e1, e2⟩ := e_ret hf
        subst e1
        subst e2
        exact X.iret dX10_taken_25 rfl rfl
      · rw [if_neg hc] at hf
        refine X.iload_n dX10_taken_17 rfl (j := 1) rfl ?_
        refine X.bipush dX10_taken_18 kB_12 ?_
        refine X.icmp_lt dX10_taken_20 (tgt := 26) rfl (fun hc => ?_) (fun hc => ?_)
        · rw [if_pos hc] at hf
          refine X.iload_n dX10_taken_26 rfl (j := 1) rfl ?_
          refine X.bipush dX10_taken_27 kB_6 ?_
          refine Y.irem dX10_taken_29 (by decide) ?_
          refine X.istore_n dX10_taken_30 rfl (Nat.le_of_ble_eq_true rfl) (lc' := [(3, .int (i_rem l1 (6 : Int32))), (0, .ref l0), (1, .int l1), (2, .int l2)]) rfl ?_
          refine X.aload_n dX10_taken_31 rfl (j := 1) rfl ?_
          obtain ⟨v1, h2, hf⟩ := ob hf
          refine Y.getR dX10_taken_32 fl_X10_63 rfl h2 ?_
          refine X.iload_n dX10_taken_35 rfl (j := 0) rfl ?_
          obtain ⟨q4, h3, hf⟩ := ob hf
          refine Y.callV (av := [.int (i_rem l1 (6 : Int32))]) (ci := 7) dX10_taken_36 (c_X7_has (l := l) (D := D) (w := q4.1) (k := q4.2) h3) cw_X10_122 (by decide) rfl mk_X7_has (o_X7_has (w := q4.1) (k := q4.2) h3) (e_R_ok (Nat.le_of_ble_eq_true rfl) (Nat.le_of_ble_eq_true rfl)) ⟨rfl, rfl⟩ (by simp [Value.category]) ?_
          refine X.if_ne dX10_taken_39 (tgt := 45) rfl (fun hc => ?_) (fun hc => ?_)
          · rw [if_neg hc] at hf
            refine X.iload_n dX10_taken_45 rfl (j := 2) rfl ?_
            refine X.bipush dX10_taken_46 kB_6 ?_
            refine X.icmp_ge dX10_taken_48 (tgt := 55) rfl (fun hc => ?_) (fun hc => ?_)
            · rw [if_pos hc] at hf
              refine X.iconst dX10_taken_55 kI_0 ?_
              refine X.sub [1, 3, 0] rfl ?_
              exact x_J_X10_taken_56 hf
            · rw [if_neg hc] at hf
              refine X.iconst dX10_taken_51 kI_1 ?_
              refine X.goto dX10_taken_52 (tgt := 56) rfl ?_
              refine X.sub [1, 3, 0] rfl ?_
              exact x_J_X10_taken_56 hf
          · rw [if_pos hc] at hf
            refine X.bipush dX10_taken_42 kB_m11 ?_
            obtain ⟨e1, e2⟩ := e_ret hf
            subst e1
            subst e2
            exact X.iret dX10_taken_44 rfl rfl
        · rw [if_neg hc] at hf
          refine X.bipush dX10_taken_23 kB_m12 ?_
          obtain ⟨e1, e2⟩ := e_ret hf
          subst e1
          subst e2
          exact X.iret dX10_taken_25 rfl rfl
    · rw [if_neg hc] at hf
      refine X.bipush dX10_taken_10 kB_m2 ?_
      obtain ⟨e1, e2⟩ := e_ret hf
      subst e1
      subst e2
      exact X.iret dX10_taken_12 rfl rfl
