theorem kB_19 : (Int8.ofInt (19)).toInt32 = (19 : Int32) := by decide +kernel
theorem kB_11 : (Int8.ofInt (11)).toInt32 = (11 : Int32) := by decide +kernel
theorem kB_13 : (Int8.ofInt (13)).toInt32 = (13 : Int32) := by decide +kernel
theorem kB_15 : (Int8.ofInt (15)).toInt32 = (15 : Int32) := by decide +kernel
theorem kB_17 : (Int8.ofInt (17)).toInt32 = (17 : Int32) := by decide +kernel
theorem kB_18 : (Int8.ofInt (18)).toInt32 = (18 : Int32) := by decide +kernel
theorem kS_200 : (Int16.ofInt (200)).toInt32 = (200 : Int32) := by decide +kernel
theorem kB_14 : (Int8.ofInt (14)).toInt32 = (14 : Int32) := by decide +kernel
theorem fl_X11_75 : e_FL RX11 75 11 0 := ⟨⟨by decide, by decide⟩, bw (i := 961) (by decide +kernel) rfl⟩
theorem ww_922 : Cond.methodLink RX11 78 yX11_in ∈ e_big := bw (i := 922) (by decide +kernel) rfl
theorem ww_923 : Cond.static yX11_in ∈ e_big := bw (i := 923) (by decide +kernel) rfl
theorem ww_89 : Cond.initialized RX11 ∈ e_big := bw (i := 89) (by decide +kernel) rfl
theorem ww_924 : Cond.code yX11_in cX11_in 3 (some .boolean) ∈ e_big := bw (i := 924) (by decide +kernel) rfl
theorem cw_X11_78 : ∀ w ∈ va_wsS RX11 78 yX11_in [Cond.code yX11_in cX11_in 3 (some .boolean)], w ∈ e_big := e_all4 ww_922 ww_923 ww_89 ww_924
theorem fl_X11_16 : e_FL RX11 16 11 3 := ⟨⟨by decide, by decide⟩, bw (i := 964) (by decide +kernel) rfl⟩
theorem ww_1071 : Cond.methodLink RX11 82 yX11_keptSet ∈ e_big := bw (i := 1071) (by decide +kernel) rfl
theorem ww_1073 : Cond.instanceMethod yX11_keptSet ∈ e_big := bw (i := 1073) (by decide +kernel) rfl
theorem ww_41 : Cond.selects RX11 yX11_keptSet yX11_keptSet ∈ e_big := bw (i := 41) (by decide +kernel) rfl
theorem ww_1074 : Cond.code yX11_keptSet cX11_keptSet 3 (some .int) ∈ e_big := bw (i := 1074) (by decide +kernel) rfl
theorem cw_X11_82 : ∀ w ∈ wsV RX11 82 RX11 yX11_keptSet [Cond.code yX11_keptSet cX11_keptSet 3 (some .int)], w ∈ e_big := e_all5 ww_1071 ww_1073 ww_41 ww_89 ww_1074
theorem ww_1075 : Cond.methodLink RX11 85 yX11_ones ∈ e_big := bw (i := 1075) (by decide +kernel) rfl
theorem ww_1076 : Cond.static yX11_ones ∈ e_big := bw (i := 1076) (by decide +kernel) rfl
theorem ww_1077 : Cond.code yX11_ones cX11_ones 3 (some .int) ∈ e_big := bw (i := 1077) (by decide +kernel) rfl
theorem cw_X11_85 : ∀ w ∈ va_wsS RX11 85 yX11_ones [Cond.code yX11_ones cX11_ones 3 (some .int)], w ∈ e_big := e_all4 ww_1075 ww_1076 ww_89 ww_1077
theorem fl_X11_89 : e_FL RX11 89 11 4 := ⟨⟨by decide, by decide⟩, bw (i := 965) (by decide +kernel) rfl⟩
theorem fl_X11_92 : e_FL RX11 92 11 9 := ⟨⟨by decide, by decide⟩, bw (i := 970) (by decide +kernel) rfl⟩
theorem fl_X11_95 : e_FL RX11 95 11 10 := ⟨⟨by decide, by decide⟩, bw (i := 971) (by decide +kernel) rfl⟩
theorem fl_X11_67 : e_FL RX11 67 11 6 := ⟨⟨by decide, by decide⟩, bw (i := 967) (by decide +kernel) rfl⟩
theorem fl_X11_19 : e_FL RX11 19 11 5 := ⟨⟨by decide, by decide⟩, bw (i := 966) (by decide +kernel) rfl⟩
theorem ww_1086 : Cond.methodLink RX11 98 yX11_isByte ∈ e_big := bw (i := 1086) (by decide +kernel) rfl
theorem ww_1087 : Cond.static yX11_isByte ∈ e_big := bw (i := 1087) (by decide +kernel) rfl
theorem ww_1088 : Cond.code yX11_isByte cX11_isByte 1 (some .boolean) ∈ e_big := bw (i := 1088) (by decide +kernel) rfl
theorem cw_X11_98 : ∀ w ∈ va_wsS RX11 98 yX11_isByte [Cond.code yX11_isByte cX11_isByte 1 (some .boolean)], w ∈ e_big := e_all4 ww_1086 ww_1087 ww_89 ww_1088
theorem fl_X11_46 : e_FL RX11 46 11 22 := ⟨⟨by decide, by decide⟩, bw (i := 983) (by decide +kernel) rfl⟩
theorem fl_X11_108 : e_FL RX11 108 11 20 := ⟨⟨by decide, by decide⟩, bw (i := 981) (by decide +kernel) rfl⟩
theorem fl_X11_102 : e_FL RX11 102 11 18 := ⟨⟨by decide, by decide⟩, bw (i := 979) (by decide +kernel) rfl⟩
theorem fl_X11_111 : e_FL RX11 111 11 21 := ⟨⟨by decide, by decide⟩, bw (i := 982) (by decide +kernel) rfl⟩
theorem fl_X11_105 : e_FL RX11 105 11 19 := ⟨⟨by decide, by decide⟩, bw (i := 980) (by decide +kernel) rfl⟩
theorem ww_925 : Cond.methodLink RX11 114 yX11_wordFrom ∈ e_big := bw (i := 925) (by decide +kernel) rfl
theorem ww_927 : Cond.instanceMethod yX11_wordFrom ∈ e_big := bw (i := 927) (by decide +kernel) rfl
theorem ww_33 : Cond.selects RX11 yX11_wordFrom yX11_wordFrom ∈ e_big := bw (i := 33) (by decide +kernel) rfl
theorem ww_928 : Cond.code yX11_wordFrom cX11_wordFrom 6 (some .int) ∈ e_big := bw (i := 928) (by decide +kernel) rfl
theorem cw_X11_114 : ∀ w ∈ wsV RX11 114 RX11 yX11_wordFrom [Cond.code yX11_wordFrom cX11_wordFrom 6 (some .int)], w ∈ e_big := e_all5 ww_925 ww_927 ww_33 ww_89 ww_928
theorem fl_X11_22 : e_FL RX11 22 11 7 := ⟨⟨by decide, by decide⟩, bw (i := 968) (by decide +kernel) rfl⟩
theorem fl_X11_118 : e_FL RX11 118 11 26 := ⟨⟨by decide, by decide⟩, bw (i := 987) (by decide +kernel) rfl⟩
theorem fl_X11_127 : e_FL RX11 127 11 25 := ⟨⟨by decide, by decide⟩, bw (i := 986) (by decide +kernel) rfl⟩
theorem ww_934 : Cond.methodLink RX11 130 yX11_puts ∈ e_big := bw (i := 934) (by decide +kernel) rfl
theorem ww_936 : Cond.instanceMethod yX11_puts ∈ e_big := bw (i := 936) (by decide +kernel) rfl
theorem ww_35 : Cond.selects RX11 yX11_puts yX11_puts ∈ e_big := bw (i := 35) (by decide +kernel) rfl
theorem ww_937 : Cond.code yX11_puts cX11_puts 2 none ∈ e_big := bw (i := 937) (by decide +kernel) rfl
theorem cw_X11_130 : ∀ w ∈ wsV RX11 130 RX11 yX11_puts [Cond.code yX11_puts cX11_puts 2 none], w ∈ e_big := e_all5 ww_934 ww_936 ww_35 ww_89 ww_937
theorem fl_X11_121 : e_FL RX11 121 11 24 := ⟨⟨by decide, by decide⟩, bw (i := 985) (by decide +kernel) rfl⟩
theorem fl_X11_49 : e_FL RX11 49 11 23 := ⟨⟨by decide, by decide⟩, bw (i := 984) (by decide +kernel) rfl⟩
theorem ww_942 : Cond.methodLink RX11 124 yX11_rank ∈ e_big := bw (i := 942) (by decide +kernel) rfl
theorem ww_943 : Cond.static yX11_rank ∈ e_big := bw (i := 943) (by decide +kernel) rfl
theorem ww_944 : Cond.code yX11_rank cX11_rank 1 (some .int) ∈ e_big := bw (i := 944) (by decide +kernel) rfl
theorem cw_X11_124 : ∀ w ∈ va_wsS RX11 124 yX11_rank [Cond.code yX11_rank cX11_rank 1 (some .int)], w ∈ e_big := e_all4 ww_942 ww_943 ww_89 ww_944
theorem ww_949 : Cond.methodLink RX11 134 yX11_holds ∈ e_big := bw (i := 949) (by decide +kernel) rfl
theorem ww_951 : Cond.instanceMethod yX11_holds ∈ e_big := bw (i := 951) (by decide +kernel) rfl
theorem ww_38 : Cond.selects RX11 yX11_holds yX11_holds ∈ e_big := bw (i := 38) (by decide +kernel) rfl
theorem ww_952 : Cond.code yX11_holds cX11_holds 2 none ∈ e_big := bw (i := 952) (by decide +kernel) rfl
theorem cw_X11_134 : ∀ w ∈ wsV RX11 134 RX11 yX11_holds [Cond.code yX11_holds cX11_holds 2 none], w ∈ e_big := e_all5 ww_949 ww_951 ww_38 ww_89 ww_952
theorem ww_938 : Cond.methodLink RX11 137 yX11_unwinds ∈ e_big := bw (i := 938) (by decide +kernel) rfl
theorem ww_940 : Cond.instanceMethod yX11_unwinds ∈ e_big := bw (i := 940) (by decide +kernel) rfl
theorem ww_36 : Cond.selects RX11 yX11_unwinds yX11_unwinds ∈ e_big := bw (i := 36) (by decide +kernel) rfl
theorem ww_941 : Cond.code yX11_unwinds cX11_unwinds 3 none ∈ e_big := bw (i := 941) (by decide +kernel) rfl
theorem cw_X11_137 : ∀ w ∈ wsV RX11 137 RX11 yX11_unwinds [Cond.code yX11_unwinds cX11_unwinds 3 none], w ∈ e_big := e_all5 ww_938 ww_940 ww_36 ww_89 ww_941
theorem ww_933 : Cond.constant RX11 143 (100000) ∈ e_big := bw (i := 933) (by decide +kernel) rfl
theorem ww_945 : Cond.methodLink RX11 144 yX11_opensOne ∈ e_big := bw (i := 945) (by decide +kernel) rfl
theorem ww_947 : Cond.instanceMethod yX11_opensOne ∈ e_big := bw (i := 947) (by decide +kernel) rfl
theorem ww_37 : Cond.selects RX11 yX11_opensOne yX11_opensOne ∈ e_big := bw (i := 37) (by decide +kernel) rfl
theorem ww_948 : Cond.code yX11_opensOne cX11_opensOne 2 (some .boolean) ∈ e_big := bw (i := 948) (by decide +kernel) rfl
theorem cw_X11_144 : ∀ w ∈ wsV RX11 144 RX11 yX11_opensOne [Cond.code yX11_opensOne cX11_opensOne 2 (some .boolean)], w ∈ e_big := e_all5 ww_945 ww_947 ww_37 ww_89 ww_948
theorem ww_918 : Cond.methodLink RX11 140 yX11_next ∈ e_big := bw (i := 918) (by decide +kernel) rfl
theorem ww_920 : Cond.instanceMethod yX11_next ∈ e_big := bw (i := 920) (by decide +kernel) rfl
theorem ww_32 : Cond.selects RX11 yX11_next yX11_next ∈ e_big := bw (i := 32) (by decide +kernel) rfl
theorem ww_921 : Cond.code yX11_next cX11_next 3 none ∈ e_big := bw (i := 921) (by decide +kernel) rfl
theorem cw_X11_140 : ∀ w ∈ wsV RX11 140 RX11 yX11_next [Cond.code yX11_next cX11_next 3 none], w ∈ e_big := e_all5 ww_918 ww_920 ww_32 ww_89 ww_921
theorem ww_953 : Cond.methodLink RX11 147 yX11_signOf ∈ e_big := bw (i := 953) (by decide +kernel) rfl
theorem ww_955 : Cond.instanceMethod yX11_signOf ∈ e_big := bw (i := 955) (by decide +kernel) rfl
theorem ww_39 : Cond.selects RX11 yX11_signOf yX11_signOf ∈ e_big := bw (i := 39) (by decide +kernel) rfl
theorem ww_956 : Cond.code yX11_signOf cX11_signOf 1 (some .int) ∈ e_big := bw (i := 956) (by decide +kernel) rfl
theorem cw_X11_147 : ∀ w ∈ wsV RX11 147 RX11 yX11_signOf [Cond.code yX11_signOf cX11_signOf 1 (some .int)], w ∈ e_big := e_all5 ww_953 ww_955 ww_39 ww_89 ww_956
theorem ww_957 : Cond.methodLink RX11 150 yX11_between ∈ e_big := bw (i := 957) (by decide +kernel) rfl
theorem ww_959 : Cond.instanceMethod yX11_between ∈ e_big := bw (i := 959) (by decide +kernel) rfl
theorem ww_40 : Cond.selects RX11 yX11_between yX11_between ∈ e_big := bw (i := 40) (by decide +kernel) rfl
theorem ww_960 : Cond.code yX11_between cX11_between 2 (some .boolean) ∈ e_big := bw (i := 960) (by decide +kernel) rfl
theorem cw_X11_150 : ∀ w ∈ wsV RX11 150 RX11 yX11_between [Cond.code yX11_between cX11_between 2 (some .boolean)], w ∈ e_big := e_all5 ww_957 ww_959 ww_40 ww_89 ww_960
theorem fl_X11_25 : e_FL RX11 25 11 8 := ⟨⟨by decide, by decide⟩, bw (i := 969) (by decide +kernel) rfl⟩
theorem ww_929 : Cond.methodLink RX11 153 yX11_eRead ∈ e_big := bw (i := 929) (by decide +kernel) rfl
theorem ww_931 : Cond.instanceMethod yX11_eRead ∈ e_big := bw (i := 931) (by decide +kernel) rfl
theorem ww_34 : Cond.selects RX11 yX11_eRead yX11_eRead ∈ e_big := bw (i := 34) (by decide +kernel) rfl
theorem ww_932 : Cond.code yX11_eRead cX11_eRead 4 (some .boolean) ∈ e_big := bw (i := 932) (by decide +kernel) rfl
theorem cw_X11_153 : ∀ w ∈ wsV RX11 153 RX11 yX11_eRead [Cond.code yX11_eRead cX11_eRead 4 (some .boolean)], w ∈ e_big := e_all5 ww_929 ww_931 ww_34 ww_89 ww_932
/-! LeanedOutModel.in(III)Z -/
abbrev M_X11_in : e_M := (yX11_in, cX11_in, 3, (some .boolean))
theorem mk_X11_in : e_Mok M_X11_in 3 := ⟨by decide +kernel, by decide +kernel, by decide +kernel⟩
theorem dX11_in_0 : decode cX11_in 0 = .ok (.iload_n 0, 1) := by decide +kernel
theorem dX11_in_1 : decode cX11_in 1 = .ok (.iload_n 1, 1) := by decide +kernel
theorem dX11_in_2 : decode cX11_in 2 = .ok (.if_icmp .lt 12, 3) := by decide +kernel
theorem dX11_in_5 : decode cX11_in 5 = .ok (.iload_n 0, 1) := by decide +kernel
theorem dX11_in_6 : decode cX11_in 6 = .ok (.iload_n 2, 1) := by decide +kernel
theorem dX11_in_7 : decode cX11_in 7 = .ok (.if_icmp .gt 7, 3) := by decide +kernel
theorem dX11_in_10 : decode cX11_in 10 = .ok (.iconst 1, 1) := by decide +kernel
theorem dX11_in_11 : decode cX11_in 11 = .ok (.goto 4, 3) := by decide +kernel
theorem dX11_in_14 : decode cX11_in 14 = .ok (.iconst 0, 1) := by decide +kernel
theorem dX11_in_15 : decode cX11_in 15 = .ok (.ireturn, 1) := by decide +kernel
def f_X11_in (S : e_S) (l0 : Int32) (l1 : Int32) (l2 : Int32) (g : e_G) : Option (Int32 × e_G) :=
  if l0 < l1 then
    some ((0 : Int32), g)
  else
    if l2 < l0 then
      some ((0 : Int32), g)
    else
      some ((1 : Int32), g)
theorem c_X11_in {l : Launch} {D : va_G}  {S : e_S} {w : Int32} {k : e_G} {l0 : Int32} {l1 : Int32} {l2 : Int32} {g : e_G} (hf : f_X11_in S l0 l1 l2 g = some (w, k)) : CT l D (e_R 1) M_X11_in [.int l0, .int l1, .int l2] (S, g) (some (.int w)) (S, k) := by
  refine CT.of (by decide +kernel) (Nat.le_of_ble_eq_true rfl) ?_
  unfold f_X11_in at hf
  show X l D (e_R 1) M_X11_in 0 0 0 [(0, .int l0), (1, .int l1), (2, .int l2)] [] (S, g) (some (.int w)) (S, k)
  refine X.iload_n dX11_in_0 rfl (j := 0) rfl ?_
  refine X.iload_n dX11_in_1 rfl (j := 1) rfl ?_
  refine X.icmp_lt dX11_in_2 (tgt := 14) rfl (fun hc => ?_) (fun hc => ?_)
  · rw [if_pos hc] at hf
    refine X.iconst dX11_in_14 kI_0 ?_
    obtain ⟨e1, e2⟩ := e_ret hf
    subst e1
    subst e2
    exact X.iret dX11_in_15 rfl rfl
  · rw [if_neg hc] at hf
    refine X.iload_n dX11_in_5 rfl (j := 0) rfl ?_
    refine X.iload_n dX11_in_6 rfl (j := 2) rfl ?_
    refine X.icmp_gt dX11_in_7 (tgt := 14) rfl (fun hc => ?_) (fun hc => ?_)
    · rw [if_pos hc] at hf
      refine X.iconst dX11_in_14 kI_0 ?_
      obtain ⟨e1, e2⟩ := e_ret hf
      subst e1
      subst e2
      exact X.iret dX11_in_15 rfl rfl
    · rw [if_neg hc] at hf
      refine X.iconst dX11_in_10 kI_1 ?_
      refine X.goto dX11_in_11 (tgt := 15) rfl ?_
      obtain ⟨e1, e2⟩ := e_ret hf
      subst e1
      subst e2
      exact X.iret dX11_in_15 rfl rfl
/-! LeanedOutModel.within(III)I -/
abbrev M_X11_within : e_M := (yX11_within, cX11_within, 3, (some .int))
theorem mk_X11_within : e_Mok M_X11_within 3 := ⟨by decide +kernel, by decide +kernel, by decide +kernel⟩
theorem dX11_within_0 : decode cX11_within 0 = .ok (.iload_n 0, 1) := by decide +kernel
theorem dX11_within_1 : decode cX11_within 1 = .ok (.iload_n 1, 1) := by decide +kernel
theorem dX11_within_2 : decode cX11_within 2 = .ok (.if_icmp .ge 7, 3) := by decide +kernel
theorem dX11_within_5 : decode cX11_within 5 = .ok (.iload_n 1, 1) := by decide +kernel
theorem dX11_within_6 : decode cX11_within 6 = .ok (.goto 13, 3) := by decide +kernel
theorem dX11_within_9 : decode cX11_within 9 = .ok (.iload_n 0, 1) := by decide +kernel
theorem dX11_within_10 : decode cX11_within 10 = .ok (.iload_n 2, 1) := by decide +kernel
theorem dX11_within_11 : decode cX11_within 11 = .ok (.if_icmp .le 7, 3) := by decide +kernel
theorem dX11_within_14 : decode cX11_within 14 = .ok (.iload_n 2, 1) := by decide +kernel
theorem dX11_within_15 : decode cX11_within 15 = .ok (.goto 4, 3) := by decide +kernel
theorem dX11_within_18 : decode cX11_within 18 = .ok (.iload_n 0, 1) := by decide +kernel
theorem dX11_within_19 : decode cX11_within 19 = .ok (.ireturn, 1) := by decide +kernel
def f_X11_within (S : e_S) (l0 : Int32) (l1 : Int32) (l2 : Int32) (g : e_G) : Option (Int32 × e_G) :=
  if l1 ≤ l0 then
    if l0 ≤ l2 then
      some (l0, g)
    else
      some (l2, g)
  else
    some (l1, g)
theorem c_X11_within {l : Launch} {D : va_G}  {S : e_S} {w : Int32} {k : e_G} {l0 : Int32} {l1 : Int32} {l2 : Int32} {g : e_G} (hf : f_X11_within S l0 l1 l2 g = some (w, k)) : CT l D (e_R 1) M_X11_within [.int l0, .int l1, .int l2] (S, g) (some (.int w)) (S, k) := by
  refine CT.of (by decide +kernel) (Nat.le_of_ble_eq_true rfl) ?_
  unfold f_X11_within at hf
  show X l D (e_R 1) M_X11_within 0 0 0 [(0, .int l0), (1, .int l1), (2, .int l2)] [] (S, g) (some (.int w)) (S, k)
  refine X.iload_n dX11_within_0 rfl (j := 0) rfl ?_
  refine X.iload_n dX11_within_1 rfl (j := 1) rfl ?_
  refine X.icmp_ge dX11_within_2 (tgt := 9) rfl (fun hc => ?_) (fun hc => ?_)
  · rw [if_pos hc] at hf
    refine X.iload_n dX11_within_9 rfl (j := 0) rfl ?_
    refine X.iload_n dX11_within_10 rfl (j := 2) rfl ?_
    refine X.icmp_le dX11_within_11 (tgt := 18) rfl (fun hc => ?_) (fun hc => ?_)
    · rw [if_pos hc] at hf
      refine X.iload_n dX11_within_18 rfl (j := 0) rfl ?_
      obtain ⟨e1, e2⟩ := e_ret hf
      subst e1
      subst e2
      exact X.iret dX11_within_19 rfl rfl
    · rw [if_neg hc] at hf
      refine X.iload_n dX11_within_14 rfl (j := 2) rfl ?_
      refine X.goto dX11_within_15 (tgt := 19) rfl ?_
      obtain ⟨e1, e2⟩ := e_ret hf
      subst e1
      subst e2
      exact X.iret dX11_within_19 rfl rfl
  · rw [if_neg hc] at hf
    refine X.iload_n dX11_within_5 rfl (j := 1) rfl ?_
    refine X.goto dX11_within_6 (tgt := 19) rfl ?_
    obtain ⟨e1, e2⟩ := e_ret hf
    subst e1
    subst e2
    exact X.iret dX11_within_19 rfl rfl
/-! LeanedOutModel.isOne(I)Z -/
abbrev M_X11_isOne : e_M := (yX11_isOne, cX11_isOne, 2, (some .boolean))
theorem mk_X11_isOne : e_Mok M_X11_isOne 1 := ⟨by decide +kernel, by decide +kernel, by decide +kernel⟩
theorem dX11_isOne_0 : decode cX11_isOne 0 = .ok (.iload_n 1, 1) := by decide +kernel
theorem dX11_isOne_1 : decode cX11_isOne 1 = .ok (.iconst 0, 1) := by decide +kernel
theorem dX11_isOne_2 : decode cX11_isOne 2 = .ok (.aload_n 0, 1) := by decide +kernel
theorem dX11_isOne_3 : decode cX11_isOne 3 = .ok (.getfield 75, 3) := by decide +kernel
theorem dX11_isOne_6 : decode cX11_isOne 6 = .ok (.iconst 1, 1) := by decide +kernel
theorem dX11_isOne_7 : decode cX11_isOne 7 = .ok (.isub, 1) := by decide +kernel
theorem dX11_isOne_8 : decode cX11_isOne 8 = .ok (.invokestatic 78, 3) := by decide +kernel
theorem dX11_isOne_11 : decode cX11_isOne 11 = .ok (.ireturn, 1) := by decide +kernel
def f_X11_isOne (S : e_S) (l0 : Nat) (l1 : Int32) (g : e_G) : Option (Int32 × e_G) :=
  if e_ob S 11 l0 = true then
    (e_gI S g 11 l0 0).bind fun v1 =>
    (f_X11_in S l1 (0 : Int32) (v1 - (1 : Int32)) g).bind fun q4 =>
    if q4.1 = 0 ∨ q4.1 = 1 then some (q4.1, q4.2) else none
  else none
theorem o_X11_isOne  {S : e_S} {w : Int32} {k : e_G} {l0 : Nat} {l1 : Int32} {g : e_G} (hf : f_X11_isOne S l0 l1 g = some (w, k)) : e_ob S 11 l0 = true := by
  unfold f_X11_isOne at hf
  by_cases hc : e_ob S 11 l0 = true
  · exact hc
  · rw [if_neg hc] at hf
    cases hf
theorem c_X11_isOne {l : Launch} {D : va_G}  {S : e_S} {w : Int32} {k : e_G} {l0 : Nat} {l1 : Int32} {g : e_G} (hf : f_X11_isOne S l0 l1 g = some (w, k)) : CT l D (e_R 2) M_X11_isOne [.ref l0, .int l1] (S, g) (some (.int w)) (S, k) := by
  refine CT.of (by decide +kernel) (Nat.le_of_ble_eq_true rfl) ?_
  have ho := o_X11_isOne hf
  unfold f_X11_isOne at hf
  rw [if_pos ho] at hf
  show X l D (e_R 2) M_X11_isOne 0 0 0 [(0, .ref l0), (1, .int l1)] [] (S, g) (some (.int w)) (S, k)
  refine X.iload_n dX11_isOne_0 rfl (j := 1) rfl ?_
  refine X.iconst dX11_isOne_1 kI_0 ?_
  refine X.aload_n dX11_isOne_2 rfl (j := 0) rfl ?_
  obtain ⟨v1, h2, hf⟩ := ob hf
  refine Y.getI dX11_isOne_3 fl_X11_75 rfl h2 ?_
  refine X.iconst dX11_isOne_6 kI_1 ?_
  refine X.isub dX11_isOne_7 ?_
  obtain ⟨q4, h3, hf⟩ := ob hf
  refine Y.callS (av := [.int l1, .int (0 : Int32), .int (v1 - (1 : Int32))]) dX11_isOne_8 (c_X11_in (l := l) (D := D) (w := q4.1) (k := q4.2) h3) cw_X11_78 mk_X11_in (e_R_ok (Nat.le_of_ble_eq_true rfl) (Nat.le_of_ble_eq_true rfl)) ⟨rfl, rfl⟩ (by simp [Value.category]) ?_
  by_cases h5 : q4.1 = 0 ∨ q4.1 = 1
  · rw [if_pos h5] at hf
    obtain ⟨e1, e2⟩ := e_ret hf
    subst e1
    subst e2
    exact X.iret dX11_isOne_11 rfl (e_bool h5)
  · rw [if_neg h5] at hf
    cases hf
/-! LeanedOutModel.areAcross(II)Z -/
abbrev M_X11_areAcross : e_M := (yX11_areAcross, cX11_areAcross, 2, (some .boolean))
theorem mk_X11_areAcross : e_Mok M_X11_areAcross 2 := ⟨by decide +kernel, by decide +kernel, by decide +kernel⟩
theorem dX11_areAcross_0 : decode cX11_areAcross 0 = .ok (.iload_n 0, 1) := by decide +kernel
theorem dX11_areAcross_1 : decode cX11_areAcross 1 = .ok (.iconst 0, 1) := by decide +kernel
theorem dX11_areAcross_2 : decode cX11_areAcross 2 = .ok (.bipush 19, 2) := by decide +kernel
theorem dX11_areAcross_4 : decode cX11_areAcross 4 = .ok (.invokestatic 78, 3) := by decide +kernel
theorem dX11_areAcross_7 : decode cX11_areAcross 7 = .ok (.ifCond .eq 28, 3) := by decide +kernel
theorem dX11_areAcross_10 : decode cX11_areAcross 10 = .ok (.iload_n 1, 1) := by decide +kernel
theorem dX11_areAcross_11 : decode cX11_areAcross 11 = .ok (.iconst 0, 1) := by decide +kernel
theorem dX11_areAcross_12 : decode cX11_areAcross 12 = .ok (.bipush 19, 2) := by decide +kernel
theorem dX11_areAcross_14 : decode cX11_areAcross 14 = .ok (.invokestatic 78, 3) := by decide +kernel
theorem dX11_areAcross_17 : decode cX11_areAcross 17 = .ok (.ifCond .eq 18, 3) := by decide +kernel
theorem dX11_areAcross_20 : decode cX11_areAcross 20 = .ok (.iload_n 0, 1) := by decide +kernel
theorem dX11_areAcross_21 : decode cX11_areAcross 21 = .ok (.bipush 10, 2) := by decide +kernel
theorem dX11_areAcross_23 : decode cX11_areAcross 23 = .ok (.idiv, 1) := by decide +kernel
theorem dX11_areAcross_24 : decode cX11_areAcross 24 = .ok (.iload_n 1, 1) := by decide +kernel
theorem dX11_areAcross_25 : decode cX11_areAcross 25 = .ok (.bipush 10, 2) := by decide +kernel
theorem dX11_areAcross_27 : decode cX11_areAcross 27 = .ok (.idiv, 1) := by decide +kernel
theorem dX11_areAcross_28 : decode cX11_areAcross 28 = .ok (.if_icmp .eq 7, 3) := by decide +kernel
theorem dX11_areAcross_31 : decode cX11_areAcross 31 = .ok (.iconst 1, 1) := by decide +kernel
theorem dX11_areAcross_32 : decode cX11_areAcross 32 = .ok (.goto 4, 3) := by decide +kernel
theorem dX11_areAcross_35 : decode cX11_areAcross 35 = .ok (.iconst 0, 1) := by decide +kernel
theorem dX11_areAcross_36 : decode cX11_areAcross 36 = .ok (.ireturn, 1) := by decide +kernel
def f_X11_areAcross (S : e_S) (l0 : Int32) (l1 : Int32) (g : e_G) : Option (Int32 × e_G) :=
  (f_X11_in S l0 (0 : Int32) (19 : Int32) g).bind fun q2 =>
  if q2.1 = 0 then
    some ((0 : Int32), q2.2)
  else
    (f_X11_in S l1 (0 : Int32) (19 : Int32) q2.2).bind fun q4 =>
    if q4.1 = 0 then
      some ((0 : Int32), q4.2)
    else
      if (l0 / (10 : Int32)) = (l1 / (10 : Int32)) then
        some ((0 : Int32), q4.2)
      else
        some ((1 : Int32), q4.2)
theorem c_X11_areAcross {l : Launch} {D : va_G}  {S : e_S} {w : Int32} {k : e_G} {l0 : Int32} {l1 : Int32} {g : e_G} (hf : f_X11_areAcross S l0 l1 g = some (w, k)) : CT l D (e_R 2) M_X11_areAcross [.int l0, .int l1] (S, g) (some (.int w)) (S, k) := by
  refine CT.of (by decide +kernel) (Nat.le_of_ble_eq_true rfl) ?_
  unfold f_X11_areAcross at hf
  show X l D (e_R 2) M_X11_areAcross 0 0 0 [(0, .int l0), (1, .int l1)] [] (S, g) (some (.int w)) (S, k)
  refine X.iload_n dX11_areAcross_0 rfl (j := 0) rfl ?_
  refine X.iconst dX11_areAcross_1 kI_0 ?_
  refine X.bipush dX11_areAcross_2 kB_19 ?_
  obtain ⟨q2, h1, hf⟩ := ob hf
  refine Y.callS (av := [.int l0, .int (0 : Int32), .int (19 : Int32)]) dX11_areAcross_4 (c_X11_in (l := l) (D := D) (w := q2.1) (k := q2.2) h1) cw_X11_78 mk_X11_in (e_R_ok (Nat.le_of_ble_eq_true rfl) (Nat.le_of_ble_eq_true rfl)) ⟨rfl, rfl⟩ (by simp [Value.category]) ?_
  refine X.if_eq dX11_areAcross_7 (tgt := 35) rfl (fun hc => ?_) (fun hc => ?_)
  · rw [if_pos hc] at hf
    refine X.iconst dX11_areAcross_35 kI_0 ?_
    obtain ⟨e1, e2⟩ := e_ret hf
    subst e1
    subst e2
    exact X.iret dX11_areAcross_36 rfl rfl
  · rw [if_neg hc] at hf
    refine X.iload_n dX11_areAcross_10 rfl (j := 1) rfl ?_
    refine X.iconst dX11_areAcross_11 kI_0 ?_
    refine X.bipush dX11_areAcross_12 kB_19 ?_
    obtain ⟨q4, h3, hf⟩ := ob hf
    refine Y.callS (av := [.int l1, .int (0 : Int32), .int (19 : Int32)]) dX11_areAcross_14 (c_X11_in (l := l) (D := D) (w := q4.1) (k := q4.2) h3) cw_X11_78 mk_X11_in (e_R_ok (Nat.le_of_ble_eq_true rfl) (Nat.le_of_ble_eq_true rfl)) ⟨rfl, rfl⟩ (by simp [Value.category]) ?_
    refine X.if_eq dX11_areAcross_17 (tgt := 35) rfl (fun hc => ?_) (fun hc => ?_)
    · rw [if_pos hc] at hf
      refine X.iconst dX11_areAcross_35 kI_0 ?_
      obtain ⟨e1, e2⟩ := e_ret hf
      subst e1
      subst e2
      exact X.iret dX11_areAcross_36 rfl rfl
    · rw [if_neg hc] at hf
      refine X.iload_n dX11_areAcross_20 rfl (j := 0) rfl ?_
      refine X.bipush dX11_areAcross_21 kB_10 ?_
      refine X.idiv dX11_areAcross_23 (by decide) ?_
      refine X.iload_n dX11_areAcross_24 rfl (j := 1) rfl ?_
      refine X.bipush dX11_areAcross_25 kB_10 ?_
      refine X.idiv dX11_areAcross_27 (by decide) ?_
      refine X.icmp_eq dX11_areAcross_28 (tgt := 35) rfl (fun hc => ?_) (fun hc => ?_)
      · rw [if_pos hc] at hf
        refine X.iconst dX11_areAcross_35 kI_0 ?_
        obtain ⟨e1, e2⟩ := e_ret hf
        subst e1
        subst e2
        exact X.iret dX11_areAcross_36 rfl rfl
      · rw [if_neg hc] at hf
        refine X.iconst dX11_areAcross_31 kI_1 ?_
        refine X.goto dX11_areAcross_32 (tgt := 36) rfl ?_
        obtain ⟨e1, e2⟩ := e_ret hf
        subst e1
        subst e2
        exact X.iret dX11_areAcross_36 rfl rfl
/-! LeanedOutModel.whoAt(I)I -/
abbrev M_X11_whoAt : e_M := (yX11_whoAt, cX11_whoAt, 3, (some .int))
theorem mk_X11_whoAt : e_Mok M_X11_whoAt 1 := ⟨by decide +kernel, by decide +kernel, by decide +kernel⟩
theorem dX11_whoAt_0 : decode cX11_whoAt 0 = .ok (.iconst 0, 1) := by decide +kernel
theorem dX11_whoAt_1 : decode cX11_whoAt 1 = .ok (.istore_n 2, 1) := by decide +kernel
theorem dX11_whoAt_2 : decode cX11_whoAt 2 = .ok (.iload_n 2, 1) := by decide +kernel
theorem dX11_whoAt_3 : decode cX11_whoAt 3 = .ok (.aload_n 0, 1) := by decide +kernel
theorem dX11_whoAt_4 : decode cX11_whoAt 4 = .ok (.getfield 75, 3) := by decide +kernel
theorem dX11_whoAt_7 : decode cX11_whoAt 7 = .ok (.if_icmp .ge 23, 3) := by decide +kernel
theorem dX11_whoAt_10 : decode cX11_whoAt 10 = .ok (.aload_n 0, 1) := by decide +kernel
theorem dX11_whoAt_11 : decode cX11_whoAt 11 = .ok (.getfield 16, 3) := by decide +kernel
theorem dX11_whoAt_14 : decode cX11_whoAt 14 = .ok (.iconst 4, 1) := by decide +kernel
theorem dX11_whoAt_15 : decode cX11_whoAt 15 = .ok (.iload_n 2, 1) := by decide +kernel
theorem dX11_whoAt_16 : decode cX11_whoAt 16 = .ok (.imul, 1) := by decide +kernel
theorem dX11_whoAt_17 : decode cX11_whoAt 17 = .ok (.iaload, 1) := by decide +kernel
theorem dX11_whoAt_18 : decode cX11_whoAt 18 = .ok (.iload_n 1, 1) := by decide +kernel
theorem dX11_whoAt_19 : decode cX11_whoAt 19 = .ok (.if_icmp .ne 5, 3) := by decide +kernel
theorem dX11_whoAt_22 : decode cX11_whoAt 22 = .ok (.iload_n 2, 1) := by decide +kernel
theorem dX11_whoAt_23 : decode cX11_whoAt 23 = .ok (.ireturn, 1) := by decide +kernel
theorem dX11_whoAt_24 : decode cX11_whoAt 24 = .ok (.iinc 2 1, 3) := by decide +kernel
theorem dX11_whoAt_27 : decode cX11_whoAt 27 = .ok (.goto (-25), 3) := by decide +kernel
theorem dX11_whoAt_30 : decode cX11_whoAt 30 = .ok (.iconst (-1), 1) := by decide +kernel
theorem dX11_whoAt_31 : decode cX11_whoAt 31 = .ok (.ireturn, 1) := by decide +kernel
def L_X11_whoAt_2 : Nat → e_S → Nat → Int32 → Int32 → e_G → Option (Int32 × e_G)
  | 0, _, _, _, _, _ => none
  | n + 1, S, l0, l1, l2, g =>
  (e_gI S g 11 l0 0).bind fun v1 =>
  if v1 ≤ l2 then
    some ((-1 : Int32), g)
  else
    (e_gR S g 11 l0 3).bind fun v3 =>
    (e_aI S g 0 v3 ((4 : Int32) * l2)).bind fun v5 =>
    if v5 = l1 then
      some (l2, g)
    else
      L_X11_whoAt_2 n S l0 l1 (l2 + (1 : Int32)) g
def f_X11_whoAt (S : e_S) (l0 : Nat) (l1 : Int32) (g : e_G) : Option (Int32 × e_G) :=
  if e_ob S 11 l0 = true then
    L_X11_whoAt_2 50000 S l0 l1 (0 : Int32) g
  else none
theorem x_L_X11_whoAt_2 {l : Launch} {D : va_G} {S : e_S} {w : Int32} {k : e_G} : ∀ (n : Nat) (l0 : Nat) (l1 : Int32) (l2 : Int32) (g : e_G), L_X11_whoAt_2 n S l0 l1 l2 g = some (w, k) → X l D (e_R 1) M_X11_whoAt 0 0 2 [(0, .ref l0), (1, .int l1), (2, .int l2)] [] (S, g) (some (.int w)) (S, k) := by
  intro n
  induction n with
  | zero =>
    intro l0 l1 l2 g hf
    cases hf
  | succ n ih =>
    intro l0 l1 l2 g hf
    rw [L_X11_whoAt_2] at hf
    refine X.iload_n dX11_whoAt_2 rfl (j := 2) rfl ?_
    refine X.aload_n dX11_whoAt_3 rfl (j := 0) rfl ?_
    obtain ⟨v1, h2, hf⟩ := ob hf
    refine Y.getI dX11_whoAt_4 fl_X11_75 rfl h2 ?_
    refine X.icmp_ge dX11_whoAt_7 (tgt := 30) rfl (fun hc => ?_) (fun hc => ?_)
    · rw [if_pos hc] at hf
      refine X.iconst dX11_whoAt_30 kI_m1 ?_
      obtain ⟨e1, e2⟩ := e_ret hf
      subst e1
      subst e2
      exact X.iret dX11_whoAt_31 rfl rfl
    · rw [if_neg hc] at hf
      refine X.aload_n dX11_whoAt_10 rfl (j := 0) rfl ?_
      obtain ⟨v3, h4, hf⟩ := ob hf
      refine Y.getR dX11_whoAt_11 fl_X11_16 rfl h4 ?_
      refine X.iconst dX11_whoAt_14 kI_4 ?_
      refine X.iload_n dX11_whoAt_15 rfl (j := 2) rfl ?_
      refine X.imul dX11_whoAt_16 ?_
      obtain ⟨v5, h6, hf⟩ := ob hf
      refine Y.iald dX11_whoAt_17 h6 ?_
      refine X.iload_n dX11_whoAt_18 rfl (j := 1) rfl ?_
      refine X.icmp_ne dX11_whoAt_19 (tgt := 24) rfl (fun hc => ?_) (fun hc => ?_)
      · rw [if_neg hc] at hf
        refine X.iinc (j := 2) dX11_whoAt_24 rfl (v := l2 + (1 : Int32)) (by rw [kI_1]) (Nat.le_of_ble_eq_true rfl) (lc' := [(2, .int (l2 + (1 : Int32))), (0, .ref l0), (1, .int l1)]) rfl ?_
        refine X.goto dX11_whoAt_27 (tgt := 2) rfl ?_
        refine X.sub [1, 2, 0] rfl ?_
        exact ih _ _ _ _ hf
      · rw [if_pos hc] at hf
        refine X.iload_n dX11_whoAt_22 rfl (j := 2) rfl ?_
        obtain ⟨e1, e2⟩ := e_ret hf
        subst e1
        subst e2
        exact X.iret dX11_whoAt_23 rfl rfl
theorem o_X11_whoAt  {S : e_S} {w : Int32} {k : e_G} {l0 : Nat} {l1 : Int32} {g : e_G} (hf : f_X11_whoAt S l0 l1 g = some (w, k)) : e_ob S 11 l0 = true := by
  unfold f_X11_whoAt at hf
  by_cases hc : e_ob S 11 l0 = true
  · exact hc
  · rw [if_neg hc] at hf
    cases hf
theorem c_X11_whoAt {l : Launch} {D : va_G}  {S : e_S} {w : Int32} {k : e_G} {l0 : Nat} {l1 : Int32} {g : e_G} (hf : f_X11_whoAt S l0 l1 g = some (w, k)) : CT l D (e_R 1) M_X11_whoAt [.ref l0, .int l1] (S, g) (some (.int w)) (S, k) := by
  refine CT.of (by decide +kernel) (Nat.le_of_ble_eq_true rfl) ?_
  have ho := o_X11_whoAt hf
  unfold f_X11_whoAt at hf
  rw [if_pos ho] at hf
  show X l D (e_R 1) M_X11_whoAt 0 0 0 [(0, .ref l0), (1, .int l1)] [] (S, g) (some (.int w)) (S, k)
  refine X.iconst dX11_whoAt_0 kI_0 ?_
  refine X.istore_n dX11_whoAt_1 rfl (Nat.le_of_ble_eq_true rfl) (lc' := [(2, .int (0 : Int32)), (0, .ref l0), (1, .int l1)]) rfl ?_
  refine X.sub [1, 2, 0] rfl ?_
  exact x_L_X11_whoAt_2 50000 _ _ _ _ hf
/-! LeanedOutModel.keptSet()I -/
abbrev M_X11_keptSet : e_M := (yX11_keptSet, cX11_keptSet, 3, (some .int))
theorem mk_X11_keptSet : e_Mok M_X11_keptSet 0 := ⟨by decide +kernel, by decide +kernel, by decide +kernel⟩
theorem dX11_keptSet_0 : decode cX11_keptSet 0 = .ok (.iconst 0, 1) := by decide +kernel
theorem dX11_keptSet_1 : decode cX11_keptSet 1 = .ok (.istore_n 1, 1) := by decide +kernel
theorem dX11_keptSet_2 : decode cX11_keptSet 2 = .ok (.iconst 0, 1) := by decide +kernel
theorem dX11_keptSet_3 : decode cX11_keptSet 3 = .ok (.istore_n 2, 1) := by decide +kernel
theorem dX11_keptSet_4 : decode cX11_keptSet 4 = .ok (.iload_n 2, 1) := by decide +kernel
theorem dX11_keptSet_5 : decode cX11_keptSet 5 = .ok (.aload_n 0, 1) := by decide +kernel
theorem dX11_keptSet_6 : decode cX11_keptSet 6 = .ok (.getfield 75, 3) := by decide +kernel
theorem dX11_keptSet_9 : decode cX11_keptSet 9 = .ok (.if_icmp .ge 24, 3) := by decide +kernel
theorem dX11_keptSet_12 : decode cX11_keptSet 12 = .ok (.iload_n 1, 1) := by decide +kernel
theorem dX11_keptSet_13 : decode cX11_keptSet 13 = .ok (.aload_n 0, 1) := by decide +kernel
theorem dX11_keptSet_14 : decode cX11_keptSet 14 = .ok (.getfield 16, 3) := by decide +kernel
theorem dX11_keptSet_17 : decode cX11_keptSet 17 = .ok (.iconst 4, 1) := by decide +kernel
theorem dX11_keptSet_18 : decode cX11_keptSet 18 = .ok (.iload_n 2, 1) := by decide +kernel
theorem dX11_keptSet_19 : decode cX11_keptSet 19 = .ok (.imul, 1) := by decide +kernel
theorem dX11_keptSet_20 : decode cX11_keptSet 20 = .ok (.iconst 3, 1) := by decide +kernel
theorem dX11_keptSet_21 : decode cX11_keptSet 21 = .ok (.iadd, 1) := by decide +kernel
theorem dX11_keptSet_22 : decode cX11_keptSet 22 = .ok (.iaload, 1) := by decide +kernel
theorem dX11_keptSet_23 : decode cX11_keptSet 23 = .ok (.iload_n 2, 1) := by decide +kernel
theorem dX11_keptSet_24 : decode cX11_keptSet 24 = .ok (.ishl, 1) := by decide +kernel
theorem dX11_keptSet_25 : decode cX11_keptSet 25 = .ok (.ior, 1) := by decide +kernel
theorem dX11_keptSet_26 : decode cX11_keptSet 26 = .ok (.istore_n 1, 1) := by decide +kernel
theorem dX11_keptSet_27 : decode cX11_keptSet 27 = .ok (.iinc 2 1, 3) := by decide +kernel
theorem dX11_keptSet_30 : decode cX11_keptSet 30 = .ok (.goto (-26), 3) := by decide +kernel
theorem dX11_keptSet_33 : decode cX11_keptSet 33 = .ok (.iload_n 1, 1) := by decide +kernel
theorem dX11_keptSet_34 : decode cX11_keptSet 34 = .ok (.ireturn, 1) := by decide +kernel
def L_X11_keptSet_4 : Nat → e_S → Nat → Int32 → Int32 → e_G → Option (Int32 × e_G)
  | 0, _, _, _, _, _ => none
  | n + 1, S, l0, l1, l2, g =>
  (e_gI S g 11 l0 0).bind fun v1 =>
  if v1 ≤ l2 then
    some (l1, g)
  else
    (e_gR S g 11 l0 3).bind fun v3 =>
    (e_aI S g 0 v3 (((4 : Int32) * l2) + (3 : Int32))).bind fun v5 =>
    L_X11_keptSet_4 n S l0 (l1 ||| (v5 <<< (l2 &&& 31))) (l2 + (1 : Int32)) g
def f_X11_keptSet (S : e_S) (l0 : Nat) (g : e_G) : Option (Int32 × e_G) :=
  if e_ob S 11 l0 = true then
    L_X11_keptSet_4 50000 S l0 (0 : Int32) (0 : Int32) g
  else none
theorem x_L_X11_keptSet_4 {l : Launch} {D : va_G} {S : e_S} {w : Int32} {k : e_G} : ∀ (n : Nat) (l0 : Nat) (l1 : Int32) (l2 : Int32) (g : e_G), L_X11_keptSet_4 n S l0 l1 l2 g = some (w, k) → X l D (e_R 1) M_X11_keptSet 0 0 4 [(0, .ref l0), (1, .int l1), (2, .int l2)] [] (S, g) (some (.int w)) (S, k) := by
  intro n
  induction n with
  | zero =>
    intro l0 l1 l2 g hf
    cases hf
  | succ n ih =>
    intro l0 l1 l2 g hf
    rw [L_X11_keptSet_4] at hf
    refine X.iload_n dX11_keptSet_4 rfl (j := 2) rfl ?_
    refine X.aload_n dX11_keptSet_5 rfl (j := 0) rfl ?_
    obtain ⟨v1, h2, hf⟩ := ob hf
    refine Y.getI dX11_keptSet_6 fl_X11_75 rfl h2 ?_
    refine X.icmp_ge dX11_keptSet_9 (tgt := 33) rfl (fun hc => ?_) (fun hc => ?_)
    · rw [if_pos hc] at hf
      refine X.iload_n dX11_keptSet_33 rfl (j := 1) rfl ?_
      obtain ⟨e1, e2⟩ := e_ret hf
      subst e1
      subst e2
      exact X.iret dX11_keptSet_34 rfl rfl
    · rw [if_neg hc] at hf
      refine X.iload_n dX11_keptSet_12 rfl (j := 1) rfl ?_
      refine X.aload_n dX11_keptSet_13 rfl (j := 0) rfl ?_
      obtain ⟨v3, h4, hf⟩ := ob hf
      refine Y.getR dX11_keptSet_14 fl_X11_16 rfl h4 ?_
      refine X.iconst dX11_keptSet_17 kI_4 ?_
      refine X.iload_n dX11_keptSet_18 rfl (j := 2) rfl ?_
      refine X.imul dX11_keptSet_19 ?_
      refine X.iconst dX11_keptSet_20 kI_3 ?_
      refine X.iadd dX11_keptSet_21 ?_
      obtain ⟨v5, h6, hf⟩ := ob hf
      refine Y.iald dX11_keptSet_22 h6 ?_
      refine X.iload_n dX11_keptSet_23 rfl (j := 2) rfl ?_
      refine X.ishl dX11_keptSet_24 ?_
      refine X.ior dX11_keptSet_25 ?_
      refine X.istore_n dX11_keptSet_26 rfl (Nat.le_of_ble_eq_true rfl) (lc' := [(1, .int (l1 ||| (v5 <<< (l2 &&& 31)))), (0, .ref l0), (2, .int l2)]) rfl ?_
      refine X.iinc (j := 2) dX11_keptSet_27 rfl (v := l2 + (1 : Int32)) (by rw [kI_1]) (Nat.le_of_ble_eq_true rfl) (lc' := [(2, .int (l2 + (1 : Int32))), (1, .int (l1 ||| (v5 <<< (l2 &&& 31)))), (0, .ref l0)]) rfl ?_
      refine X.goto dX11_keptSet_30 (tgt := 4) rfl ?_
      refine X.sub [2, 1, 0] rfl ?_
      exact ih _ _ _ _ hf
theorem o_X11_keptSet  {S : e_S} {w : Int32} {k : e_G} {l0 : Nat} {g : e_G} (hf : f_X11_keptSet S l0 g = some (w, k)) : e_ob S 11 l0 = true := by
  unfold f_X11_keptSet at hf
  by_cases hc : e_ob S 11 l0 = true
  · exact hc
  · rw [if_neg hc] at hf
    cases hf
theorem c_X11_keptSet {l : Launch} {D : va_G}  {S : e_S} {w : Int32} {k : e_G} {l0 : Nat} {g : e_G} (hf : f_X11_keptSet S l0 g = some (w, k)) : CT l D (e_R 1) M_X11_keptSet [.ref l0] (S, g) (some (.int w)) (S, k) := by
  refine CT.of (by decide +kernel) (Nat.le_of_ble_eq_true rfl) ?_
  have ho := o_X11_keptSet hf
  unfold f_X11_keptSet at hf
  rw [if_pos ho] at hf
  show X l D (e_R 1) M_X11_keptSet 0 0 0 [(0, .ref l0)] [] (S, g) (some (.int w)) (S, k)
  refine X.iconst dX11_keptSet_0 kI_0 ?_
  refine X.istore_n dX11_keptSet_1 rfl (Nat.le_of_ble_eq_true rfl) (lc' := [(1, .int (0 : Int32)), (0, .ref l0)]) rfl ?_
  refine X.iconst dX11_keptSet_2 kI_0 ?_
  refine X.istore_n dX11_keptSet_3 rfl (Nat.le_of_ble_eq_true rfl) (lc' := [(2, .int (0 : Int32)), (1, .int (0 : Int32)), (0, .ref l0)]) rfl ?_
  refine X.sub [2, 1, 0] rfl ?_
  exact x_L_X11_keptSet_4 50000 _ _ _ _ hf
/-! LeanedOutModel.ones(I)I -/
abbrev M_X11_ones : e_M := (yX11_ones, cX11_ones, 3, (some .int))
theorem mk_X11_ones : e_Mok M_X11_ones 1 := ⟨by decide +kernel, by decide +kernel, by decide +kernel⟩
theorem dX11_ones_0 : decode cX11_ones 0 = .ok (.iconst 0, 1) := by decide +kernel
theorem dX11_ones_1 : decode cX11_ones 1 = .ok (.istore_n 1, 1) := by decide +kernel
theorem dX11_ones_2 : decode cX11_ones 2 = .ok (.iconst 0, 1) := by decide +kernel
theorem dX11_ones_3 : decode cX11_ones 3 = .ok (.istore_n 2, 1) := by decide +kernel
theorem dX11_ones_4 : decode cX11_ones 4 = .ok (.iload_n 2, 1) := by decide +kernel
theorem dX11_ones_5 : decode cX11_ones 5 = .ok (.bipush 6, 2) := by decide +kernel
theorem dX11_ones_7 : decode cX11_ones 7 = .ok (.if_icmp .ge 17, 3) := by decide +kernel
theorem dX11_ones_10 : decode cX11_ones 10 = .ok (.iload_n 1, 1) := by decide +kernel
theorem dX11_ones_11 : decode cX11_ones 11 = .ok (.iload_n 0, 1) := by decide +kernel
theorem dX11_ones_12 : decode cX11_ones 12 = .ok (.iload_n 2, 1) := by decide +kernel
theorem dX11_ones_13 : decode cX11_ones 13 = .ok (.ishr, 1) := by decide +kernel
theorem dX11_ones_14 : decode cX11_ones 14 = .ok (.iconst 1, 1) := by decide +kernel
theorem dX11_ones_15 : decode cX11_ones 15 = .ok (.iand, 1) := by decide +kernel
theorem dX11_ones_16 : decode cX11_ones 16 = .ok (.iadd, 1) := by decide +kernel
theorem dX11_ones_17 : decode cX11_ones 17 = .ok (.istore_n 1, 1) := by decide +kernel
theorem dX11_ones_18 : decode cX11_ones 18 = .ok (.iinc 2 1, 3) := by decide +kernel
theorem dX11_ones_21 : decode cX11_ones 21 = .ok (.goto (-17), 3) := by decide +kernel
theorem dX11_ones_24 : decode cX11_ones 24 = .ok (.iload_n 1, 1) := by decide +kernel
theorem dX11_ones_25 : decode cX11_ones 25 = .ok (.ireturn, 1) := by decide +kernel
def L_X11_ones_4 : Nat → e_S → Int32 → Int32 → Int32 → e_G → Option (Int32 × e_G)
  | 0, _, _, _, _, _ => none
  | n + 1, S, l0, l1, l2, g =>
  if (6 : Int32) ≤ l2 then
    some (l1, g)
  else
    L_X11_ones_4 n S l0 (l1 + ((l0 >>> (l2 &&& 31)) &&& (1 : Int32))) (l2 + (1 : Int32)) g
def f_X11_ones (S : e_S) (l0 : Int32) (g : e_G) : Option (Int32 × e_G) :=
  L_X11_ones_4 50000 S l0 (0 : Int32) (0 : Int32) g
theorem x_L_X11_ones_4 {l : Launch} {D : va_G} {S : e_S} {w : Int32} {k : e_G} : ∀ (n : Nat) (l0 : Int32) (l1 : Int32) (l2 : Int32) (g : e_G), L_X11_ones_4 n S l0 l1 l2 g = some (w, k) → X l D (e_R 1) M_X11_ones 0 0 4 [(0, .int l0), (1, .int l1), (2, .int l2)] [] (S, g) (some (.int w)) (S, k) := by
  intro n
  induction n with
  | zero =>
    intro l0 l1 l2 g hf
    cases hf
  | succ n ih =>
    intro l0 l1 l2 g hf
    rw [L_X11_ones_4] at hf
    refine X.iload_n dX11_ones_4 rfl (j := 2) rfl ?_
    refine X.bipush dX11_ones_5 kB_6 ?_
    refine X.icmp_ge dX11_ones_7 (tgt := 24) rfl (fun hc => ?_) (fun hc => ?_)
    · rw [if_pos hc] at hf
      refine X.iload_n dX11_ones_24 rfl (j := 1) rfl ?_
      obtain ⟨e1, e2⟩ := e_ret hf
      subst e1
      subst e2
      exact X.iret dX11_ones_25 rfl rfl
    · rw [if_neg hc] at hf
      refine X.iload_n dX11_ones_10 rfl (j := 1) rfl ?_
      refine X.iload_n dX11_ones_11 rfl (j := 0) rfl ?_
      refine X.iload_n dX11_ones_12 rfl (j := 2) rfl ?_
      refine X.ishr dX11_ones_13 ?_
      refine X.iconst dX11_ones_14 kI_1 ?_
      refine X.iand dX11_ones_15 ?_
      refine X.iadd dX11_ones_16 ?_
      refine X.istore_n dX11_ones_17 rfl (Nat.le_of_ble_eq_true rfl) (lc' := [(1, .int (l1 + ((l0 >>> (l2 &&& 31)) &&& (1 : Int32)))), (0, .int l0), (2, .int l2)]) rfl ?_
      refine X.iinc (j := 2) dX11_ones_18 rfl (v := l2 + (1 : Int32)) (by rw [kI_1]) (Nat.le_of_ble_eq_true rfl) (lc' := [(2, .int (l2 + (1 : Int32))), (1, .int (l1 + ((l0 >>> (l2 &&& 31)) &&& (1 : Int32)))), (0, .int l0)]) rfl ?_
      refine X.goto dX11_ones_21 (tgt := 4) rfl ?_
      refine X.sub [2, 1, 0] rfl ?_
      exact ih _ _ _ _ hf
theorem c_X11_ones {l : Launch} {D : va_G}  {S : e_S} {w : Int32} {k : e_G} {l0 : Int32} {g : e_G} (hf : f_X11_ones S l0 g = some (w, k)) : CT l D (e_R 1) M_X11_ones [.int l0] (S, g) (some (.int w)) (S, k) := by
  refine CT.of (by decide +kernel) (Nat.le_of_ble_eq_true rfl) ?_
  unfold f_X11_ones at hf
  show X l D (e_R 1) M_X11_ones 0 0 0 [(0, .int l0)] [] (S, g) (some (.int w)) (S, k)
  refine X.iconst dX11_ones_0 kI_0 ?_
  refine X.istore_n dX11_ones_1 rfl (Nat.le_of_ble_eq_true rfl) (lc' := [(1, .int (0 : Int32)), (0, .int l0)]) rfl ?_
  refine X.iconst dX11_ones_2 kI_0 ?_
  refine X.istore_n dX11_ones_3 rfl (Nat.le_of_ble_eq_true rfl) (lc' := [(2, .int (0 : Int32)), (1, .int (0 : Int32)), (0, .int l0)]) rfl ?_
  refine X.sub [2, 1, 0] rfl ?_
  exact x_L_X11_ones_4 50000 _ _ _ _ hf
/-! LeanedOutModel.count(I)I -/
abbrev M_X11_count : e_M := (yX11_count, cX11_count, 2, (some .int))
theorem mk_X11_count : e_Mok M_X11_count 1 := ⟨by decide +kernel, by decide +kernel, by decide +kernel⟩
theorem dX11_count_0 : decode cX11_count 0 = .ok (.iload_n 1, 1) := by decide +kernel
theorem dX11_count_1 : decode cX11_count 1 = .ok (.tableswitch 72 0 5 #[39, 44, 52, 57, 62, 67], 39) := by decide +kernel
theorem dX11_count_40 : decode cX11_count 40 = .ok (.aload_n 0, 1) := by decide +kernel
theorem dX11_count_41 : decode cX11_count 41 = .ok (.getfield 75, 3) := by decide +kernel
theorem dX11_count_44 : decode cX11_count 44 = .ok (.ireturn, 1) := by decide +kernel
theorem dX11_count_45 : decode cX11_count 45 = .ok (.aload_n 0, 1) := by decide +kernel
theorem dX11_count_46 : decode cX11_count 46 = .ok (.invokevirtual 82, 3) := by decide +kernel
theorem dX11_count_49 : decode cX11_count 49 = .ok (.invokestatic 85, 3) := by decide +kernel
theorem dX11_count_52 : decode cX11_count 52 = .ok (.ireturn, 1) := by decide +kernel
theorem dX11_count_53 : decode cX11_count 53 = .ok (.aload_n 0, 1) := by decide +kernel
theorem dX11_count_54 : decode cX11_count 54 = .ok (.getfield 89, 3) := by decide +kernel
theorem dX11_count_57 : decode cX11_count 57 = .ok (.ireturn, 1) := by decide +kernel
theorem dX11_count_58 : decode cX11_count 58 = .ok (.aload_n 0, 1) := by decide +kernel
theorem dX11_count_59 : decode cX11_count 59 = .ok (.getfield 92, 3) := by decide +kernel
theorem dX11_count_62 : decode cX11_count 62 = .ok (.ireturn, 1) := by decide +kernel
theorem dX11_count_63 : decode cX11_count 63 = .ok (.aload_n 0, 1) := by decide +kernel
theorem dX11_count_64 : decode cX11_count 64 = .ok (.getfield 95, 3) := by decide +kernel
theorem dX11_count_67 : decode cX11_count 67 = .ok (.ireturn, 1) := by decide +kernel
theorem dX11_count_68 : decode cX11_count 68 = .ok (.aload_n 0, 1) := by decide +kernel
theorem dX11_count_69 : decode cX11_count 69 = .ok (.getfield 67, 3) := by decide +kernel
theorem dX11_count_72 : decode cX11_count 72 = .ok (.ireturn, 1) := by decide +kernel
theorem dX11_count_73 : decode cX11_count 73 = .ok (.bipush (-2), 2) := by decide +kernel
theorem dX11_count_75 : decode cX11_count 75 = .ok (.ireturn, 1) := by decide +kernel
def f_X11_count (S : e_S) (l0 : Nat) (l1 : Int32) (g : e_G) : Option (Int32 × e_G) :=
  if e_ob S 11 l0 = true then
    if l1 = 0 then
      (e_gI S g 11 l0 0).bind fun v2 =>
      some (v2, g)
    else
    if l1 = 1 then
      (f_X11_keptSet S l0 g).bind fun q6 =>
      (f_X11_ones S q6.1 q6.2).bind fun q8 =>
      some (q8.1, q8.2)
    else
    if l1 = 2 then
      (e_gI S g 11 l0 4).bind fun v10 =>
      some (v10, g)
    else
    if l1 = 3 then
      (e_gI S g 11 l0 9).bind fun v13 =>
      some (v13, g)
    else
    if l1 = 4 then
      (e_gI S g 11 l0 10).bind fun v16 =>
      some (v16, g)
    else
    if l1 = 5 then
      (e_gI S g 11 l0 6).bind fun v19 =>
      some (v19, g)
    else
    some ((-2 : Int32), g)
  else none
theorem o_X11_count  {S : e_S} {w : Int32} {k : e_G} {l0 : Nat} {l1 : Int32} {g : e_G} (hf : f_X11_count S l0 l1 g = some (w, k)) : e_ob S 11 l0 = true := by
  unfold f_X11_count at hf
  by_cases hc : e_ob S 11 l0 = true
  · exact hc
  · rw [if_neg hc] at hf
    cases hf
theorem c_X11_count {l : Launch} {D : va_G}  {S : e_S} {w : Int32} {k : e_G} {l0 : Nat} {l1 : Int32} {g : e_G} (hf : f_X11_count S l0 l1 g = some (w, k)) : CT l D (e_R 2) M_X11_count [.ref l0, .int l1] (S, g) (some (.int w)) (S, k) := by
  refine CT.of (by decide +kernel) (Nat.le_of_ble_eq_true rfl) ?_
  have ho := o_X11_count hf
  unfold f_X11_count at hf
  rw [if_pos ho] at hf
  show X l D (e_R 2) M_X11_count 0 0 0 [(0, .ref l0), (1, .int l1)] [] (S, g) (some (.int w)) (S, k)
  refine X.iload_n dX11_count_0 rfl (j := 1) rfl ?_
  by_cases h1 : l1 = (0 : Int32)
  · rw [if_pos h1] at hf
    refine X.tableIn dX11_count_1 (by rw [h1]; decide) (by rw [h1]; decide) (off := 39) (tgt := 40) (by rw [h1]; rfl) rfl ?_
    refine X.aload_n dX11_count_40 rfl (j := 0) rfl ?_
    obtain ⟨v2, h3, hf⟩ := ob hf
    refine Y.getI dX11_count_41 fl_X11_75 rfl h3 ?_
    obtain ⟨e1, e2⟩ := e_ret hf
    subst e1
    subst e2
    exact X.iret dX11_count_44 rfl rfl
  rw [if_neg h1] at hf
  by_cases h4 : l1 = (1 : Int32)
  · rw [if_pos h4] at hf
    refine X.tableIn dX11_count_1 (by rw [h4]; decide) (by rw [h4]; decide) (off := 44) (tgt := 45) (by rw [h4]; rfl) rfl ?_
    refine X.aload_n dX11_count_45 rfl (j := 0) rfl ?_
    obtain ⟨q6, h5, hf⟩ := ob hf
    refine Y.callV (av := []) (ci := 11) dX11_count_46 (c_X11_keptSet (l := l) (D := D) (w := q6.1) (k := q6.2) h5) cw_X11_82 (by decide) rfl mk_X11_keptSet (o_X11_keptSet (w := q6.1) (k := q6.2) h5) (e_R_ok (Nat.le_of_ble_eq_true rfl) (Nat.le_of_ble_eq_true rfl)) ⟨rfl, rfl⟩ (by simp [Value.category]) ?_
    obtain ⟨q8, h7, hf⟩ := ob hf
    refine Y.callS (av := [.int q6.1]) dX11_count_49 (c_X11_ones (l := l) (D := D) (w := q8.1) (k := q8.2) h7) cw_X11_85 mk_X11_ones (e_R_ok (Nat.le_of_ble_eq_true rfl) (Nat.le_of_ble_eq_true rfl)) ⟨rfl, rfl⟩ (by simp [Value.category]) ?_
    obtain ⟨e1, e2⟩ := e_ret hf
    subst e1
    subst e2
    exact X.iret dX11_count_52 rfl rfl
  rw [if_neg h4] at hf
  by_cases h9 : l1 = (2 : Int32)
  · rw [if_pos h9] at hf
    refine X.tableIn dX11_count_1 (by rw [h9]; decide) (by rw [h9]; decide) (off := 52) (tgt := 53) (by rw [h9]; rfl) rfl ?_
    refine X.aload_n dX11_count_53 rfl (j := 0) rfl ?_
    obtain ⟨v10, h11, hf⟩ := ob hf
    refine Y.getI dX11_count_54 fl_X11_89 rfl h11 ?_
    obtain ⟨e1, e2⟩ := e_ret hf
    subst e1
    subst e2
    exact X.iret dX11_count_57 rfl rfl
  rw [if_neg h9] at hf
  by_cases h12 : l1 = (3 : Int32)
  · rw [if_pos h12] at hf
    refine X.tableIn dX11_count_1 (by rw [h12]; decide) (by rw [h12]; decide) (off := 57) (tgt := 58) (by rw [h12]; rfl) rfl ?_
    refine X.aload_n dX11_count_58 rfl (j := 0) rfl ?_
    obtain ⟨v13, h14, hf⟩ := ob hf
    refine Y.getI dX11_count_59 fl_X11_92 rfl h14 ?_
    obtain ⟨e1, e2⟩ := e_ret hf
    subst e1
    subst e2
    exact X.iret dX11_count_62 rfl rfl
  rw [if_neg h12] at hf
  by_cases h15 : l1 = (4 : Int32)
  · rw [if_pos h15] at hf
    refine X.tableIn dX11_count_1 (by rw [h15]; decide) (by rw [h15]; decide) (off := 62) (tgt := 63) (by rw [h15]; rfl) rfl ?_
    refine X.aload_n dX11_count_63 rfl (j := 0) rfl ?_
    obtain ⟨v16, h17, hf⟩ := ob hf
    refine Y.getI dX11_count_64 fl_X11_95 rfl h17 ?_
    obtain ⟨e1, e2⟩ := e_ret hf
    subst e1
    subst e2
    exact X.iret dX11_count_67 rfl rfl
  rw [if_neg h15] at hf
  by_cases h18 : l1 = (5 : Int32)
  · rw [if_pos h18] at hf
    refine X.tableIn dX11_count_1 (by rw [h18]; decide) (by rw [h18]; decide) (off := 67) (tgt := 68) (by rw [h18]; rfl) rfl ?_
    refine X.aload_n dX11_count_68 rfl (j := 0) rfl ?_
    obtain ⟨v19, h20, hf⟩ := ob hf
    refine Y.getI dX11_count_69 fl_X11_67 rfl h20 ?_
    obtain ⟨e1, e2⟩ := e_ret hf
    subst e1
    subst e2
    exact X.iret dX11_count_72 rfl rfl
  rw [if_neg h18] at hf
  refine X.tableOut dX11_count_1 (tgt := 73) (by have qh1 := e_ne (z := 0) (by decide) h1; have qh4 := e_ne (z := 1) (by decide) h4; have qh9 := e_ne (z := 2) (by decide) h9; have qh12 := e_ne (z := 3) (by decide) h12; have qh15 := e_ne (z := 4) (by decide) h15; have qh18 := e_ne (z := 5) (by decide) h18; omega) rfl ?_
  refine X.bipush dX11_count_73 kB_m2 ?_
  obtain ⟨e1, e2⟩ := e_ret hf
  subst e1
  subst e2
  exact X.iret dX11_count_75 rfl rfl
/-! LeanedOutModel.dawn(I)I -/
abbrev M_X11_dawn : e_M := (yX11_dawn, cX11_dawn, 3, (some .int))
theorem mk_X11_dawn : e_Mok M_X11_dawn 1 := ⟨by decide +kernel, by decide +kernel, by decide +kernel⟩
theorem dX11_dawn_0 : decode cX11_dawn 0 = .ok (.iload_n 1, 1) := by decide +kernel
theorem dX11_dawn_1 : decode cX11_dawn 1 = .ok (.iconst 0, 1) := by decide +kernel
theorem dX11_dawn_2 : decode cX11_dawn 2 = .ok (.sipush 999, 3) := by decide +kernel
theorem dX11_dawn_5 : decode cX11_dawn 5 = .ok (.invokestatic 78, 3) := by decide +kernel
theorem dX11_dawn_8 : decode cX11_dawn 8 = .ok (.ifCond .ne 6, 3) := by decide +kernel
theorem dX11_dawn_11 : decode cX11_dawn 11 = .ok (.bipush (-2), 2) := by decide +kernel
theorem dX11_dawn_13 : decode cX11_dawn 13 = .ok (.ireturn, 1) := by decide +kernel
theorem dX11_dawn_14 : decode cX11_dawn 14 = .ok (.aload_n 0, 1) := by decide +kernel
theorem dX11_dawn_15 : decode cX11_dawn 15 = .ok (.getfield 89, 3) := by decide +kernel
theorem dX11_dawn_18 : decode cX11_dawn 18 = .ok (.istore_n 2, 1) := by decide +kernel
theorem dX11_dawn_19 : decode cX11_dawn 19 = .ok (.aload_n 0, 1) := by decide +kernel
theorem dX11_dawn_20 : decode cX11_dawn 20 = .ok (.iload_n 1, 1) := by decide +kernel
theorem dX11_dawn_21 : decode cX11_dawn 21 = .ok (.putfield 89, 3) := by decide +kernel
theorem dX11_dawn_24 : decode cX11_dawn 24 = .ok (.iload_n 2, 1) := by decide +kernel
theorem dX11_dawn_25 : decode cX11_dawn 25 = .ok (.ireturn, 1) := by decide +kernel
def f_X11_dawn (S : e_S) (l0 : Nat) (l1 : Int32) (g : e_G) : Option (Int32 × e_G) :=
  if e_ob S 11 l0 = true then
    (f_X11_in S l1 (0 : Int32) (999 : Int32) g).bind fun q2 =>
    if q2.1 = 0 then
      some ((-2 : Int32), q2.2)
    else
      (e_gI S q2.2 11 l0 4).bind fun v3 =>
      (e_sI S q2.2 11 l0 4 l1).bind fun g5 =>
      some (v3, g5)
  else none
theorem o_X11_dawn  {S : e_S} {w : Int32} {k : e_G} {l0 : Nat} {l1 : Int32} {g : e_G} (hf : f_X11_dawn S l0 l1 g = some (w, k)) : e_ob S 11 l0 = true := by
  unfold f_X11_dawn at hf
  by_cases hc : e_ob S 11 l0 = true
  · exact hc
  · rw [if_neg hc] at hf
    cases hf
theorem c_X11_dawn {l : Launch} {D : va_G}  {S : e_S} {w : Int32} {k : e_G} {l0 : Nat} {l1 : Int32} {g : e_G} (hf : f_X11_dawn S l0 l1 g = some (w, k)) : CT l D (e_R 2) M_X11_dawn [.ref l0, .int l1] (S, g) (some (.int w)) (S, k) := by
  refine CT.of (by decide +kernel) (Nat.le_of_ble_eq_true rfl) ?_
  have ho := o_X11_dawn hf
  unfold f_X11_dawn at hf
  rw [if_pos ho] at hf
  show X l D (e_R 2) M_X11_dawn 0 0 0 [(0, .ref l0), (1, .int l1)] [] (S, g) (some (.int w)) (S, k)
  refine X.iload_n dX11_dawn_0 rfl (j := 1) rfl ?_
  refine X.iconst dX11_dawn_1 kI_0 ?_
  refine X.sipush dX11_dawn_2 kS_999 ?_
  obtain ⟨q2, h1, hf⟩ := ob hf
  refine Y.callS (av := [.int l1, .int (0 : Int32), .int (999 : Int32)]) dX11_dawn_5 (c_X11_in (l := l) (D := D) (w := q2.1) (k := q2.2) h1) cw_X11_78 mk_X11_in (e_R_ok (Nat.le_of_ble_eq_true rfl) (Nat.le_of_ble_eq_true rfl)) ⟨rfl, rfl⟩ (by simp [Value.category]) ?_
  refine X.if_ne dX11_dawn_8 (tgt := 14) rfl (fun hc => ?_) (fun hc => ?_)
  · rw [if_neg hc] at hf
    refine X.aload_n dX11_dawn_14 rfl (j := 0) rfl ?_
    obtain ⟨v3, h4, hf⟩ := ob hf
    refine Y.getI dX11_dawn_15 fl_X11_89 rfl h4 ?_
    refine X.istore_n dX11_dawn_18 rfl (Nat.le_of_ble_eq_true rfl) (lc' := [(2, .int v3), (0, .ref l0), (1, .int l1)]) rfl ?_
    refine X.aload_n dX11_dawn_19 rfl (j := 1) rfl ?_
    refine X.iload_n dX11_dawn_20 rfl (j := 2) rfl ?_
    obtain ⟨g5, h6, hf⟩ := ob hf
    refine Y.putI dX11_dawn_21 fl_X11_89 rfl rfl rfl rfl h6 ?_
    refine X.iload_n dX11_dawn_24 rfl (j := 0) rfl ?_
    obtain ⟨e1, e2⟩ := e_ret hf
    subst e1
    subst e2
    exact X.iret dX11_dawn_25 rfl rfl
  · rw [if_pos hc] at hf
    refine X.bipush dX11_dawn_11 kB_m2 ?_
    obtain ⟨e1, e2⟩ := e_ret hf
    subst e1
    subst e2
    exact X.iret dX11_dawn_13 rfl rfl
/-! LeanedOutModel.isByte(I)Z -/
abbrev M_X11_isByte : e_M := (yX11_isByte, cX11_isByte, 1, (some .boolean))
theorem mk_X11_isByte : e_Mok M_X11_isByte 1 := ⟨by decide +kernel, by decide +kernel, by decide +kernel⟩
theorem dX11_isByte_0 : decode cX11_isByte 0 = .ok (.iload_n 0, 1) := by decide +kernel
theorem dX11_isByte_1 : decode cX11_isByte 1 = .ok (.iconst 0, 1) := by decide +kernel
theorem dX11_isByte_2 : decode cX11_isByte 2 = .ok (.sipush 255, 3) := by decide +kernel
theorem dX11_isByte_5 : decode cX11_isByte 5 = .ok (.invokestatic 78, 3) := by decide +kernel
theorem dX11_isByte_8 : decode cX11_isByte 8 = .ok (.ireturn, 1) := by decide +kernel
def f_X11_isByte (S : e_S) (l0 : Int32) (g : e_G) : Option (Int32 × e_G) :=
  (f_X11_in S l0 (0 : Int32) (255 : Int32) g).bind fun q2 =>
  if q2.1 = 0 ∨ q2.1 = 1 then some (q2.1, q2.2) else none
theorem c_X11_isByte {l : Launch} {D : va_G}  {S : e_S} {w : Int32} {k : e_G} {l0 : Int32} {g : e_G} (hf : f_X11_isByte S l0 g = some (w, k)) : CT l D (e_R 2) M_X11_isByte [.int l0] (S, g) (some (.int w)) (S, k) := by
  refine CT.of (by decide +kernel) (Nat.le_of_ble_eq_true rfl) ?_
  unfold f_X11_isByte at hf
  show X l D (e_R 2) M_X11_isByte 0 0 0 [(0, .int l0)] [] (S, g) (some (.int w)) (S, k)
  refine X.iload_n dX11_isByte_0 rfl (j := 0) rfl ?_
  refine X.iconst dX11_isByte_1 kI_0 ?_
  refine X.sipush dX11_isByte_2 kS_255 ?_
  obtain ⟨q2, h1, hf⟩ := ob hf
  refine Y.callS (av := [.int l0, .int (0 : Int32), .int (255 : Int32)]) dX11_isByte_5 (c_X11_in (l := l) (D := D) (w := q2.1) (k := q2.2) h1) cw_X11_78 mk_X11_in (e_R_ok (Nat.le_of_ble_eq_true rfl) (Nat.le_of_ble_eq_true rfl)) ⟨rfl, rfl⟩ (by simp [Value.category]) ?_
  by_cases h3 : q2.1 = 0 ∨ q2.1 = 1
  · rw [if_pos h3] at hf
    obtain ⟨e1, e2⟩ := e_ret hf
    subst e1
    subst e2
    exact X.iret dX11_isByte_8 rfl (e_bool h3)
  · rw [if_neg h3] at hf
    cases hf
/-! LeanedOutModel.feed(IIIIII)I -/
abbrev M_X11_feed : e_M := (yX11_feed, cX11_feed, 8, (some .int))
theorem mk_X11_feed : e_Mok M_X11_feed 6 := ⟨by decide +kernel, by decide +kernel, by decide +kernel⟩
theorem dX11_feed_0 : decode cX11_feed 0 = .ok (.iload_n 1, 1) := by decide +kernel
theorem dX11_feed_1 : decode cX11_feed 1 = .ok (.iconst 1, 1) := by decide +kernel
theorem dX11_feed_2 : decode cX11_feed 2 = .ok (.iconst 5, 1) := by decide +kernel
theorem dX11_feed_3 : decode cX11_feed 3 = .ok (.invokestatic 78, 3) := by decide +kernel
theorem dX11_feed_6 : decode cX11_feed 6 = .ok (.ifCond .eq 41, 3) := by decide +kernel
theorem dX11_feed_9 : decode cX11_feed 9 = .ok (.iload_n 2, 1) := by decide +kernel
theorem dX11_feed_10 : decode cX11_feed 10 = .ok (.invokestatic 98, 3) := by decide +kernel
theorem dX11_feed_13 : decode cX11_feed 13 = .ok (.ifCond .eq 34, 3) := by decide +kernel
theorem dX11_feed_16 : decode cX11_feed 16 = .ok (.iload_n 3, 1) := by decide +kernel
theorem dX11_feed_17 : decode cX11_feed 17 = .ok (.invokestatic 98, 3) := by decide +kernel
theorem dX11_feed_20 : decode cX11_feed 20 = .ok (.ifCond .eq 27, 3) := by decide +kernel
theorem dX11_feed_23 : decode cX11_feed 23 = .ok (.iload 4, 2) := by decide +kernel
theorem dX11_feed_25 : decode cX11_feed 25 = .ok (.invokestatic 98, 3) := by decide +kernel
theorem dX11_feed_28 : decode cX11_feed 28 = .ok (.ifCond .eq 19, 3) := by decide +kernel
theorem dX11_feed_31 : decode cX11_feed 31 = .ok (.iload 5, 2) := by decide +kernel
theorem dX11_feed_33 : decode cX11_feed 33 = .ok (.invokestatic 98, 3) := by decide +kernel
theorem dX11_feed_36 : decode cX11_feed 36 = .ok (.ifCond .eq 11, 3) := by decide +kernel
theorem dX11_feed_39 : decode cX11_feed 39 = .ok (.iload 6, 2) := by decide +kernel
theorem dX11_feed_41 : decode cX11_feed 41 = .ok (.invokestatic 98, 3) := by decide +kernel
theorem dX11_feed_44 : decode cX11_feed 44 = .ok (.ifCond .ne 6, 3) := by decide +kernel
theorem dX11_feed_47 : decode cX11_feed 47 = .ok (.bipush (-2), 2) := by decide +kernel
theorem dX11_feed_49 : decode cX11_feed 49 = .ok (.ireturn, 1) := by decide +kernel
theorem dX11_feed_50 : decode cX11_feed 50 = .ok (.aload_n 0, 1) := by decide +kernel
theorem dX11_feed_51 : decode cX11_feed 51 = .ok (.getfield 67, 3) := by decide +kernel
theorem dX11_feed_54 : decode cX11_feed 54 = .ok (.iload_n 1, 1) := by decide +kernel
theorem dX11_feed_55 : decode cX11_feed 55 = .ok (.iadd, 1) := by decide +kernel
theorem dX11_feed_56 : decode cX11_feed 56 = .ok (.sipush 160, 3) := by decide +kernel
theorem dX11_feed_59 : decode cX11_feed 59 = .ok (.if_icmp .le 6, 3) := by decide +kernel
theorem dX11_feed_62 : decode cX11_feed 62 = .ok (.bipush (-4), 2) := by decide +kernel
theorem dX11_feed_64 : decode cX11_feed 64 = .ok (.ireturn, 1) := by decide +kernel
theorem dX11_feed_65 : decode cX11_feed 65 = .ok (.iconst 0, 1) := by decide +kernel
theorem dX11_feed_66 : decode cX11_feed 66 = .ok (.istore 7, 2) := by decide +kernel
theorem dX11_feed_68 : decode cX11_feed 68 = .ok (.iload 7, 2) := by decide +kernel
theorem dX11_feed_70 : decode cX11_feed 70 = .ok (.iload_n 1, 1) := by decide +kernel
theorem dX11_feed_71 : decode cX11_feed 71 = .ok (.if_icmp .ge 71, 3) := by decide +kernel
theorem dX11_feed_74 : decode cX11_feed 74 = .ok (.aload_n 0, 1) := by decide +kernel
theorem dX11_feed_75 : decode cX11_feed 75 = .ok (.getfield 19, 3) := by decide +kernel
theorem dX11_feed_78 : decode cX11_feed 78 = .ok (.aload_n 0, 1) := by decide +kernel
theorem dX11_feed_79 : decode cX11_feed 79 = .ok (.getfield 67, 3) := by decide +kernel
theorem dX11_feed_82 : decode cX11_feed 82 = .ok (.iload 7, 2) := by decide +kernel
theorem dX11_feed_84 : decode cX11_feed 84 = .ok (.ifCond .ne 7, 3) := by decide +kernel
theorem dX11_feed_87 : decode cX11_feed 87 = .ok (.iload_n 2, 1) := by decide +kernel
theorem dX11_feed_88 : decode cX11_feed 88 = .ok (.goto 37, 3) := by decide +kernel
theorem dX11_feed_91 : decode cX11_feed 91 = .ok (.iload 7, 2) := by decide +kernel
theorem dX11_feed_93 : decode cX11_feed 93 = .ok (.iconst 1, 1) := by decide +kernel
theorem dX11_feed_94 : decode cX11_feed 94 = .ok (.if_icmp .ne 7, 3) := by decide +kernel
theorem dX11_feed_97 : decode cX11_feed 97 = .ok (.iload_n 3, 1) := by decide +kernel
theorem dX11_feed_98 : decode cX11_feed 98 = .ok (.goto 27, 3) := by decide +kernel
theorem dX11_feed_101 : decode cX11_feed 101 = .ok (.iload 7, 2) := by decide +kernel
theorem dX11_feed_103 : decode cX11_feed 103 = .ok (.iconst 2, 1) := by decide +kernel
theorem dX11_feed_104 : decode cX11_feed 104 = .ok (.if_icmp .ne 8, 3) := by decide +kernel
theorem dX11_feed_107 : decode cX11_feed 107 = .ok (.iload 4, 2) := by decide +kernel
theorem dX11_feed_109 : decode cX11_feed 109 = .ok (.goto 16, 3) := by decide +kernel
theorem dX11_feed_112 : decode cX11_feed 112 = .ok (.iload 7, 2) := by decide +kernel
theorem dX11_feed_114 : decode cX11_feed 114 = .ok (.iconst 3, 1) := by decide +kernel
theorem dX11_feed_115 : decode cX11_feed 115 = .ok (.if_icmp .ne 8, 3) := by decide +kernel
theorem dX11_feed_118 : decode cX11_feed 118 = .ok (.iload 5, 2) := by decide +kernel
theorem dX11_feed_120 : decode cX11_feed 120 = .ok (.goto 5, 3) := by decide +kernel
theorem dX11_feed_123 : decode cX11_feed 123 = .ok (.iload 6, 2) := by decide +kernel
theorem dX11_feed_125 : decode cX11_feed 125 = .ok (.iastore, 1) := by decide +kernel
theorem dX11_feed_126 : decode cX11_feed 126 = .ok (.aload_n 0, 1) := by decide +kernel
theorem dX11_feed_127 : decode cX11_feed 127 = .ok (.dup, 1) := by decide +kernel
theorem dX11_feed_128 : decode cX11_feed 128 = .ok (.getfield 67, 3) := by decide +kernel
theorem dX11_feed_131 : decode cX11_feed 131 = .ok (.iconst 1, 1) := by decide +kernel
theorem dX11_feed_132 : decode cX11_feed 132 = .ok (.iadd, 1) := by decide +kernel
theorem dX11_feed_133 : decode cX11_feed 133 = .ok (.putfield 67, 3) := by decide +kernel
theorem dX11_feed_136 : decode cX11_feed 136 = .ok (.iinc 7 1, 3) := by decide +kernel
theorem dX11_feed_139 : decode cX11_feed 139 = .ok (.goto (-71), 3) := by decide +kernel
theorem dX11_feed_142 : decode cX11_feed 142 = .ok (.aload_n 0, 1) := by decide +kernel
theorem dX11_feed_143 : decode cX11_feed 143 = .ok (.getfield 67, 3) := by decide +kernel
theorem dX11_feed_146 : decode cX11_feed 146 = .ok (.ireturn, 1) := by decide +kernel
def J_X11_feed_125 (c68 : Nat → Int32 → Int32 → Int32 → Int32 → Int32 → Int32 → Int32 → e_G → Option (Int32 × e_G)) (S : e_S) (l0 : Nat) (l1 : Int32) (l2 : Int32) (l3 : Int32) (l4 : Int32) (l5 : Int32) (l6 : Int32) (l7 : Int32) (t0 : Nat) (t1 : Int32) (t2 : Int32) (g : e_G) : Option (Int32 × e_G) :=
  (e_aS S g 0 t0 t1 t2).bind fun g1 =>
  (e_gI S g1 11 l0 6).bind fun v3 =>
  (e_sI S g1 11 l0 6 (v3 + (1 : Int32))).bind fun g5 =>
  c68 l0 l1 l2 l3 l4 l5 l6 (l7 + (1 : Int32)) g5
def L_X11_feed_68 : Nat → e_S → Nat → Int32 → Int32 → Int32 → Int32 → Int32 → Int32 → Int32 → e_G → Option (Int32 × e_G)
  | 0, _, _, _, _, _, _, _, _, _, _ => none
  | n + 1, S, l0, l1, l2, l3, l4, l5, l6, l7, g =>
  if l1 ≤ l7 then
    (e_gI S g 11 l0 6).bind fun v1 =>
    some (v1, g)
  else
    (e_gR S g 11 l0 5).bind fun v3 =>
    (e_gI S g 11 l0 6).bind fun v5 =>
    if l7 = 0 then
      J_X11_feed_125 (L_X11_feed_68 n S) S l0 l1 l2 l3 l4 l5 l6 l7 v3 v5 l2 g
    else
      if l7 = (1 : Int32) then
        J_X11_feed_125 (L_X11_feed_68 n S) S l0 l1 l2 l3 l4 l5 l6 l7 v3 v5 l3 g
      else
        if l7 = (2 : Int32) then
          J_X11_feed_125 (L_X11_feed_68 n S) S l0 l1 l2 l3 l4 l5 l6 l7 v3 v5 l4 g
        else
          if l7 = (3 : Int32) then
            J_X11_feed_125 (L_X11_feed_68 n S) S l0 l1 l2 l3 l4 l5 l6 l7 v3 v5 l5 g
          else
            J_X11_feed_125 (L_X11_feed_68 n S) S l0 l1 l2 l3 l4 l5 l6 l7 v3 v5 l6 g
def f_X11_feed (S : e_S) (l0 : Nat) (l1 : Int32) (l2 : Int32) (l3 : Int32) (l4 : Int32) (l5 : Int32) (l6 : Int32) (g : e_G) : Option (Int32 × e_G) :=
  if e_ob S 11 l0 = true then
    (f_X11_in S l1 (1 : Int32) (5 : Int32) g).bind fun q2 =>
    if q2.1 = 0 then
      some ((-2 : Int32), q2.2)
    else
      (f_X11_isByte S l2 q2.2).bind fun q4 =>
      if q4.1 = 0 then
        some ((-2 : Int32), q4.2)
      else
        (f_X11_isByte S l3 q4.2).bind fun q6 =>
        if q6.1 = 0 then
          some ((-2 : Int32), q6.2)
        else
          (f_X11_isByte S l4 q6.2).bind fun q8 =>
          if q8.1 = 0 then
            some ((-2 : Int32), q8.2)
          else
            (f_X11_isByte S l5 q8.2).bind fun q10 =>
            if q10.1 = 0 then
              some ((-2 : Int32), q10.2)
            else
              (f_X11_isByte S l6 q10.2).bind fun q12 =>
              if q12.1 = 0 then
                some ((-2 : Int32), q12.2)
              else
                (e_gI S q12.2 11 l0 6).bind fun v13 =>
                if (v13 + l1) ≤ (160 : Int32) then
                  L_X11_feed_68 50000 S l0 l1 l2 l3 l4 l5 l6 (0 : Int32) q12.2
                else
                  some ((-4 : Int32), q12.2)
  else none
theorem x_J_X11_feed_125 {l : Launch} {D : va_G} {S : e_S} {w : Int32} {k : e_G} (c68 : Nat → Int32 → Int32 → Int32 → Int32 → Int32 → Int32 → Int32 → e_G → Option (Int32 × e_G)) (hc68 : ∀ (l0 : Nat) (l1 : Int32) (l2 : Int32) (l3 : Int32) (l4 : Int32) (l5 : Int32) (l6 : Int32) (l7 : Int32) (g : e_G), c68 l0 l1 l2 l3 l4 l5 l6 l7 g = some (w, k) → X l D (e_R 3) M_X11_feed 0 0 68 [(0, .ref l0), (1, .int l1), (2, .int l2), (3, .int l3), (4, .int l4), (5, .int l5), (6, .int l6), (7, .int l7)] [] (S, g) (some (.int w)) (S, k)) {l0 : Nat} {l1 : Int32} {l2 : Int32} {l3 : Int32} {l4 : Int32} {l5 : Int32} {l6 : Int32} {l7 : Int32} {t0 : Nat} {t1 : Int32} {t2 : Int32} {g : e_G} (hf : J_X11_feed_125 c68 S l0 l1 l2 l3 l4 l5 l6 l7 t0 t1 t2 g = some (w, k)) : X l D (e_R 3) M_X11_feed 0 0 125 [(0, .ref l0), (1, .int l1), (2, .int l2), (3, .int l3), (4, .int l4), (5, .int l5), (6, .int l6), (7, .int l7)] [.int t2, .int t1, .ref t0] (S, g) (some (.int w)) (S, k) := by
  unfold J_X11_feed_125 at hf
  obtain ⟨g1, h2, hf⟩ := ob hf
  refine Y.iast dX11_feed_125 h2 ?_
  refine X.aload_n dX11_feed_126 rfl (j := 0) rfl ?_
  refine X.dup dX11_feed_127 rfl ?_
  obtain ⟨v3, h4, hf⟩ := ob hf
  refine Y.getI dX11_feed_128 fl_X11_67 rfl h4 ?_
  refine X.iconst dX11_feed_131 kI_1 ?_
  refine X.iadd dX11_feed_132 ?_
  obtain ⟨g5, h6, hf⟩ := ob hf
  refine Y.putI dX11_feed_133 fl_X11_67 rfl rfl rfl rfl h6 ?_
  refine X.iinc (j := 7) dX11_feed_136 rfl (v := l7 + (1 : Int32)) (by rw [kI_1]) (Nat.le_of_ble_eq_true rfl) (lc' := [(7, .int (l7 + (1 : Int32))), (0, .ref l0), (1, .int l1), (2, .int l2), (3, .int l3), (4, .int l4), (5, .int l5), (6, .int l6)]) rfl ?_
  refine X.goto dX11_feed_139 (tgt := 68) rfl ?_
  refine X.sub [1, 2, 3, 4, 5, 6, 7, 0] rfl ?_
  exact hc68 _ _ _ _ _ _ _ _ _ hf
theorem x_L_X11_feed_68 {l : Launch} {D : va_G} {S : e_S} {w : Int32} {k : e_G} : ∀ (n : Nat) (l0 : Nat) (l1 : Int32) (l2 : Int32) (l3 : Int32) (l4 : Int32) (l5 : Int32) (l6 : Int32) (l7 : Int32) (g : e_G), L_X11_feed_68 n S l0 l1 l2 l3 l4 l5 l6 l7 g = some (w, k) → X l D (e_R 3) M_X11_feed 0 0 68 [(0, .ref l0), (1, .int l1), (2, .int l2), (3, .int l3), (4, .int l4), (5, .int l5), (6, .int l6), (7, .int l7)] [] (S, g) (some (.int w)) (S, k) := by
  intro n
  induction n with
  | zero =>
    intro l0 l1 l2 l3 l4 l5 l6 l7 g hf
    cases hf
  | succ n ih =>
    intro l0 l1 l2 l3 l4 l5 l6 l7 g hf
    rw [L_X11_feed_68] at hf
    refine X.iload dX11_feed_68 (j := 7) rfl ?_
    refine X.iload_n dX11_feed_70 rfl (j := 1) rfl ?_
    refine X.icmp_ge dX11_feed_71 (tgt := 142) rfl (fun hc => ?_) (fun hc => ?_)
    · rw [if_pos hc] at hf
      refine X.aload_n dX11_feed_142 rfl (j := 0) rfl ?_
      obtain ⟨v1, h2, hf⟩ := ob hf
      refine Y.getI dX11_feed_143 fl_X11_67 rfl h2 ?_
      obtain ⟨e1, e2⟩ := e_ret hf
      subst e1
      subst e2
      exact X.iret dX11_feed_146 rfl rfl
    · rw [if_neg hc] at hf
      refine X.aload_n dX11_feed_74 rfl (j := 0) rfl ?_
      obtain ⟨v3, h4, hf⟩ := ob hf
      refine Y.getR dX11_feed_75 fl_X11_19 rfl h4 ?_
      refine X.aload_n dX11_feed_78 rfl (j := 0) rfl ?_
      obtain ⟨v5, h6, hf⟩ := ob hf
      refine Y.getI dX11_feed_79 fl_X11_67 rfl h6 ?_
      refine X.iload dX11_feed_82 (j := 7) rfl ?_
      refine X.if_ne dX11_feed_84 (tgt := 91) rfl (fun hc => ?_) (fun hc => ?_)
      · rw [if_neg hc] at hf
        refine X.iload dX11_feed_91 (j := 7) rfl ?_
        refine X.iconst dX11_feed_93 kI_1 ?_
        refine X.icmp_ne dX11_feed_94 (tgt := 101) rfl (fun hc => ?_) (fun hc => ?_)
        · rw [if_neg hc] at hf
          refine X.iload dX11_feed_101 (j := 7) rfl ?_
          refine X.iconst dX11_feed_103 kI_2 ?_
          refine X.icmp_ne dX11_feed_104 (tgt := 112) rfl (fun hc => ?_) (fun hc => ?_)
          · rw [if_neg hc] at hf
            refine X.iload dX11_feed_112 (j := 7) rfl ?_
            refine X.iconst dX11_feed_114 kI_3 ?_
            refine X.icmp_ne dX11_feed_115 (tgt := 123) rfl (fun hc => ?_) (fun hc => ?_)
            · rw [if_neg hc] at hf
              refine X.iload dX11_feed_123 (j := 6) rfl ?_
              exact x_J_X11_feed_125 _ ih hf
            · rw [if_pos hc] at hf
              refine X.iload dX11_feed_118 (j := 5) rfl ?_
              refine X.goto dX11_feed_120 (tgt := 125) rfl ?_
              exact x_J_X11_feed_125 _ ih hf
          · rw [if_pos hc] at hf
            refine X.iload dX11_feed_107 (j := 4) rfl ?_
            refine X.goto dX11_feed_109 (tgt := 125) rfl ?_
            exact x_J_X11_feed_125 _ ih hf
        · rw [if_pos hc] at hf
          refine X.iload_n dX11_feed_97 rfl (j := 3) rfl ?_
          refine X.goto dX11_feed_98 (tgt := 125) rfl ?_
          exact x_J_X11_feed_125 _ ih hf
      · rw [if_pos hc] at hf
        refine X.iload_n dX11_feed_87 rfl (j := 2) rfl ?_
        refine X.goto dX11_feed_88 (tgt := 125) rfl ?_
        exact x_J_X11_feed_125 _ ih hf
theorem o_X11_feed  {S : e_S} {w : Int32} {k : e_G} {l0 : Nat} {l1 : Int32} {l2 : Int32} {l3 : Int32} {l4 : Int32} {l5 : Int32} {l6 : Int32} {g : e_G} (hf : f_X11_feed S l0 l1 l2 l3 l4 l5 l6 g = some (w, k)) : e_ob S 11 l0 = true := by
  unfold f_X11_feed at hf
  by_cases hc : e_ob S 11 l0 = true
  · exact hc
  · rw [if_neg hc] at hf
    cases hf
theorem c_X11_feed {l : Launch} {D : va_G}  {S : e_S} {w : Int32} {k : e_G} {l0 : Nat} {l1 : Int32} {l2 : Int32} {l3 : Int32} {l4 : Int32} {l5 : Int32} {l6 : Int32} {g : e_G} (hf : f_X11_feed S l0 l1 l2 l3 l4 l5 l6 g = some (w, k)) : CT l D (e_R 3) M_X11_feed [.ref l0, .int l1, .int l2, .int l3, .int l4, .int l5, .int l6] (S, g) (some (.int w)) (S, k) := by
  refine CT.of (by decide +kernel) (Nat.le_of_ble_eq_true rfl) ?_
  have ho := o_X11_feed hf
  unfold f_X11_feed at hf
  rw [if_pos ho] at hf
  show X l D (e_R 3) M_X11_feed 0 0 0 [(0, .ref l0), (1, .int l1), (2, .int l2), (3, .int l3), (4, .int l4), (5, .int l5), (6, .int l6)] [] (S, g) (some (.int w)) (S, k)
  refine X.iload_n dX11_feed_0 rfl (j := 1) rfl ?_
  refine X.iconst dX11_feed_1 kI_1 ?_
  refine X.iconst dX11_feed_2 kI_5 ?_
  obtain ⟨q2, h1, hf⟩ := ob hf
  refine Y.callS (av := [.int l1, .int (1 : Int32), .int (5 : Int32)]) dX11_feed_3 (c_X11_in (l := l) (D := D) (w := q2.1) (k := q2.2) h1) cw_X11_78 mk_X11_in (e_R_ok (Nat.le_of_ble_eq_true rfl) (Nat.le_of_ble_eq_true rfl)) ⟨rfl, rfl⟩ (by simp [Value.category]) ?_
  refine X.if_eq dX11_feed_6 (tgt := 47) rfl (fun hc => ?_) (fun hc => ?_)
  · rw [if_pos hc] at hf
    refine X.bipush dX11_feed_47 kB_m2 ?_
    obtain ⟨e1, e2⟩ := e_ret hf
    subst e1
    subst e2
    exact X.iret dX11_feed_49 rfl rfl
  · rw [if_neg hc] at hf
    refine X.iload_n dX11_feed_9 rfl (j := 2) rfl ?_
    obtain ⟨q4, h3, hf⟩ := ob hf
    refine Y.callS (av := [.int l2]) dX11_feed_10 (c_X11_isByte (l := l) (D := D) (w := q4.1) (k := q4.2) h3) cw_X11_98 mk_X11_isByte (e_R_ok (Nat.le_of_ble_eq_true rfl) (Nat.le_of_ble_eq_true rfl)) ⟨rfl, rfl⟩ (by simp [Value.category]) ?_
    refine X.if_eq dX11_feed_13 (tgt := 47) rfl (fun hc => ?_) (fun hc => ?_)
    · rw [if_pos hc] at hf
      refine X.bipush dX11_feed_47 kB_m2 ?_
      obtain ⟨e1, e2⟩ := e_ret hf
      subst e1
      subst e2
      exact X.iret dX11_feed_49 rfl rfl
    · rw [if_neg hc] at hf
      refine X.iload_n dX11_feed_16 rfl (j := 3) rfl ?_
      obtain ⟨q6, h5, hf⟩ := ob hf
      refine Y.callS (av := [.int l3]) dX11_feed_17 (c_X11_isByte (l := l) (D := D) (w := q6.1) (k := q6.2) h5) cw_X11_98 mk_X11_isByte (e_R_ok (Nat.le_of_ble_eq_true rfl) (Nat.le_of_ble_eq_true rfl)) ⟨rfl, rfl⟩ (by simp [Value.category]) ?_
      refine X.if_eq dX11_feed_20 (tgt := 47) rfl (fun hc => ?_) (fun hc => ?_)
      · rw [if_pos hc] at hf
        refine X.bipush dX11_feed_47 kB_m2 ?_
        obtain ⟨e1, e2⟩ := e_ret hf
        subst e1
        subst e2
        exact X.iret dX11_feed_49 rfl rfl
      · rw [if_neg hc] at hf
        refine X.iload dX11_feed_23 (j := 4) rfl ?_
        obtain ⟨q8, h7, hf⟩ := ob hf
        refine Y.callS (av := [.int l4]) dX11_feed_25 (c_X11_isByte (l := l) (D := D) (w := q8.1) (k := q8.2) h7) cw_X11_98 mk_X11_isByte (e_R_ok (Nat.le_of_ble_eq_true rfl) (Nat.le_of_ble_eq_true rfl)) ⟨rfl, rfl⟩ (by simp [Value.category]) ?_
        refine X.if_eq dX11_feed_28 (tgt := 47) rfl (fun hc => ?_) (fun hc => ?_)
        · rw [if_pos hc] at hf
          refine X.bipush dX11_feed_47 kB_m2 ?_
          obtain ⟨e1, e2⟩ := e_ret hf
          subst e1
          subst e2
          exact X.iret dX11_feed_49 rfl rfl
        · rw [if_neg hc] at hf
          refine X.iload dX11_feed_31 (j := 5) rfl ?_
          obtain ⟨q10, h9, hf⟩ := ob hf
          refine Y.callS (av := [.int l5]) dX11_feed_33 (c_X11_isByte (l := l) (D := D) (w := q10.1) (k := q10.2) h9) cw_X11_98 mk_X11_isByte (e_R_ok (Nat.le_of_ble_eq_true rfl) (Nat.le_of_ble_eq_true rfl)) ⟨rfl, rfl⟩ (by simp [Value.category]) ?_
          refine X.if_eq dX11_feed_36 (tgt := 47) rfl (fun hc => ?_) (fun hc => ?_)
          · rw [if_pos hc] at hf
            refine X.bipush dX11_feed_47 kB_m2 ?_
            obtain ⟨e1, e2⟩ := e_ret hf
            subst e1
            subst e2
            exact X.iret dX11_feed_49 rfl rfl
          · rw [if_neg hc] at hf
            refine X.iload dX11_feed_39 (j := 6) rfl ?_
            obtain ⟨q12, h11, hf⟩ := ob hf
            refine Y.callS (av := [.int l6]) dX11_feed_41 (c_X11_isByte (l := l) (D := D) (w := q12.1) (k := q12.2) h11) cw_X11_98 mk_X11_isByte (e_R_ok (Nat.le_of_ble_eq_true rfl) (Nat.le_of_ble_eq_true rfl)) ⟨rfl, rfl⟩ (by simp [Value.category]) ?_
            refine X.if_ne dX11_feed_44 (tgt := 50) rfl (fun hc => ?_) (fun hc => ?_)
            · rw [if_neg hc] at hf
              refine X.aload_n dX11_feed_50 rfl (j := 0) rfl ?_
              obtain ⟨v13, h14, hf⟩ := ob hf
              refine Y.getI dX11_feed_51 fl_X11_67 rfl h14 ?_
              refine X.iload_n dX11_feed_54 rfl (j := 1) rfl ?_
              refine X.iadd dX11_feed_55 ?_
              refine X.sipush dX11_feed_56 kS_160 ?_
              refine X.icmp_le dX11_feed_59 (tgt := 65) rfl (fun hc => ?_) (fun hc => ?_)
              · rw [if_pos hc] at hf
                refine X.iconst dX11_feed_65 kI_0 ?_
                refine X.istore dX11_feed_66 (Nat.le_of_ble_eq_true rfl) (lc' := [(7, .int (0 : Int32)), (0, .ref l0), (1, .int l1), (2, .int l2), (3, .int l3), (4, .int l4), (5, .int l5), (6, .int l6)]) rfl ?_
                refine X.sub [1, 2, 3, 4, 5, 6, 7, 0] rfl ?_
                exact x_L_X11_feed_68 50000 _ _ _ _ _ _ _ _ _ hf
              · rw [if_neg hc] at hf
                refine X.bipush dX11_feed_62 kB_m4 ?_
                obtain ⟨e1, e2⟩ := e_ret hf
                subst e1
                subst e2
                exact X.iret dX11_feed_64 rfl rfl
            · rw [if_pos hc] at hf
              refine X.bipush dX11_feed_47 kB_m2 ?_
              obtain ⟨e1, e2⟩ := e_ret hf
              subst e1
              subst e2
              exact X.iret dX11_feed_49 rfl rfl
/-! LeanedOutModel.wordFrom(II)I -/
abbrev M_X11_wordFrom : e_M := (yX11_wordFrom, cX11_wordFrom, 6, (some .int))
theorem mk_X11_wordFrom : e_Mok M_X11_wordFrom 2 := ⟨by decide +kernel, by decide +kernel, by decide +kernel⟩
theorem dX11_wordFrom_0 : decode cX11_wordFrom 0 = .ok (.iconst 0, 1) := by decide +kernel
theorem dX11_wordFrom_1 : decode cX11_wordFrom 1 = .ok (.istore_n 3, 1) := by decide +kernel
theorem dX11_wordFrom_2 : decode cX11_wordFrom 2 = .ok (.iload_n 3, 1) := by decide +kernel
theorem dX11_wordFrom_3 : decode cX11_wordFrom 3 = .ok (.bipush 12, 2) := by decide +kernel
theorem dX11_wordFrom_5 : decode cX11_wordFrom 5 = .ok (.if_icmp .ge 96, 3) := by decide +kernel
theorem dX11_wordFrom_8 : decode cX11_wordFrom 8 = .ok (.iload_n 2, 1) := by decide +kernel
theorem dX11_wordFrom_9 : decode cX11_wordFrom 9 = .ok (.iload_n 1, 1) := by decide +kernel
theorem dX11_wordFrom_10 : decode cX11_wordFrom 10 = .ok (.isub, 1) := by decide +kernel
theorem dX11_wordFrom_11 : decode cX11_wordFrom 11 = .ok (.bipush 8, 2) := by decide +kernel
theorem dX11_wordFrom_13 : decode cX11_wordFrom 13 = .ok (.if_icmp .gt 7, 3) := by decide +kernel
theorem dX11_wordFrom_16 : decode cX11_wordFrom 16 = .ok (.iconst 1, 1) := by decide +kernel
theorem dX11_wordFrom_17 : decode cX11_wordFrom 17 = .ok (.goto 4, 3) := by decide +kernel
theorem dX11_wordFrom_20 : decode cX11_wordFrom 20 = .ok (.iconst 0, 1) := by decide +kernel
theorem dX11_wordFrom_21 : decode cX11_wordFrom 21 = .ok (.istore 4, 2) := by decide +kernel
theorem dX11_wordFrom_23 : decode cX11_wordFrom 23 = .ok (.iconst 0, 1) := by decide +kernel
theorem dX11_wordFrom_24 : decode cX11_wordFrom 24 = .ok (.istore 5, 2) := by decide +kernel
theorem dX11_wordFrom_26 : decode cX11_wordFrom 26 = .ok (.iload 5, 2) := by decide +kernel
theorem dX11_wordFrom_28 : decode cX11_wordFrom 28 = .ok (.bipush 8, 2) := by decide +kernel
theorem dX11_wordFrom_30 : decode cX11_wordFrom 30 = .ok (.if_icmp .ge 58, 3) := by decide +kernel
theorem dX11_wordFrom_33 : decode cX11_wordFrom 33 = .ok (.iload 4, 2) := by decide +kernel
theorem dX11_wordFrom_35 : decode cX11_wordFrom 35 = .ok (.ifCond .eq 53, 3) := by decide +kernel
theorem dX11_wordFrom_38 : decode cX11_wordFrom 38 = .ok (.aload_n 0, 1) := by decide +kernel
theorem dX11_wordFrom_39 : decode cX11_wordFrom 39 = .ok (.getfield 46, 3) := by decide +kernel
theorem dX11_wordFrom_42 : decode cX11_wordFrom 42 = .ok (.bipush 8, 2) := by decide +kernel
theorem dX11_wordFrom_44 : decode cX11_wordFrom 44 = .ok (.iload_n 3, 1) := by decide +kernel
theorem dX11_wordFrom_45 : decode cX11_wordFrom 45 = .ok (.imul, 1) := by decide +kernel
theorem dX11_wordFrom_46 : decode cX11_wordFrom 46 = .ok (.iload 5, 2) := by decide +kernel
theorem dX11_wordFrom_48 : decode cX11_wordFrom 48 = .ok (.iadd, 1) := by decide +kernel
theorem dX11_wordFrom_49 : decode cX11_wordFrom 49 = .ok (.iaload, 1) := by decide +kernel
theorem dX11_wordFrom_50 : decode cX11_wordFrom 50 = .ok (.iload_n 1, 1) := by decide +kernel
theorem dX11_wordFrom_51 : decode cX11_wordFrom 51 = .ok (.iload 5, 2) := by decide +kernel
theorem dX11_wordFrom_53 : decode cX11_wordFrom 53 = .ok (.iadd, 1) := by decide +kernel
theorem dX11_wordFrom_54 : decode cX11_wordFrom 54 = .ok (.iload_n 2, 1) := by decide +kernel
theorem dX11_wordFrom_55 : decode cX11_wordFrom 55 = .ok (.if_icmp .ge 15, 3) := by decide +kernel
theorem dX11_wordFrom_58 : decode cX11_wordFrom 58 = .ok (.aload_n 0, 1) := by decide +kernel
theorem dX11_wordFrom_59 : decode cX11_wordFrom 59 = .ok (.getfield 19, 3) := by decide +kernel
theorem dX11_wordFrom_62 : decode cX11_wordFrom 62 = .ok (.iload_n 1, 1) := by decide +kernel
theorem dX11_wordFrom_63 : decode cX11_wordFrom 63 = .ok (.iload 5, 2) := by decide +kernel
theorem dX11_wordFrom_65 : decode cX11_wordFrom 65 = .ok (.iadd, 1) := by decide +kernel
theorem dX11_wordFrom_66 : decode cX11_wordFrom 66 = .ok (.iaload, 1) := by decide +kernel
theorem dX11_wordFrom_67 : decode cX11_wordFrom 67 = .ok (.goto 5, 3) := by decide +kernel
theorem dX11_wordFrom_70 : decode cX11_wordFrom 70 = .ok (.bipush 32, 2) := by decide +kernel
theorem dX11_wordFrom_72 : decode cX11_wordFrom 72 = .ok (.if_icmp .ne 7, 3) := by decide +kernel
theorem dX11_wordFrom_75 : decode cX11_wordFrom 75 = .ok (.iconst 1, 1) := by decide +kernel
theorem dX11_wordFrom_76 : decode cX11_wordFrom 76 = .ok (.goto 4, 3) := by decide +kernel
theorem dX11_wordFrom_79 : decode cX11_wordFrom 79 = .ok (.iconst 0, 1) := by decide +kernel
theorem dX11_wordFrom_80 : decode cX11_wordFrom 80 = .ok (.istore 4, 2) := by decide +kernel
theorem dX11_wordFrom_82 : decode cX11_wordFrom 82 = .ok (.iinc 5 1, 3) := by decide +kernel
theorem dX11_wordFrom_85 : decode cX11_wordFrom 85 = .ok (.goto (-59), 3) := by decide +kernel
theorem dX11_wordFrom_88 : decode cX11_wordFrom 88 = .ok (.iload 4, 2) := by decide +kernel
theorem dX11_wordFrom_90 : decode cX11_wordFrom 90 = .ok (.ifCond .eq 5, 3) := by decide +kernel
theorem dX11_wordFrom_93 : decode cX11_wordFrom 93 = .ok (.iload_n 3, 1) := by decide +kernel
theorem dX11_wordFrom_94 : decode cX11_wordFrom 94 = .ok (.ireturn, 1) := by decide +kernel
theorem dX11_wordFrom_95 : decode cX11_wordFrom 95 = .ok (.iinc 3 1, 3) := by decide +kernel
theorem dX11_wordFrom_98 : decode cX11_wordFrom 98 = .ok (.goto (-96), 3) := by decide +kernel
theorem dX11_wordFrom_101 : decode cX11_wordFrom 101 = .ok (.bipush 12, 2) := by decide +kernel
theorem dX11_wordFrom_103 : decode cX11_wordFrom 103 = .ok (.ireturn, 1) := by decide +kernel
def J_X11_wordFrom_88 (c2 : Nat → Int32 → Int32 → Int32 → e_G → Option (Int32 × e_G)) (S : e_S) (l0 : Nat) (l1 : Int32) (l2 : Int32) (l3 : Int32) (l4 : Int32) (g : e_G) : Option (Int32 × e_G) :=
  if l4 = 0 then
    c2 l0 l1 l2 (l3 + (1 : Int32)) g
  else
    some (l3, g)
def J_X11_wordFrom_80 (c26 : Nat → Int32 → Int32 → Int32 → Int32 → Int32 → e_G → Option (Int32 × e_G)) (S : e_S) (l0 : Nat) (l1 : Int32) (l2 : Int32) (l3 : Int32) (l5 : Int32) (t0 : Int32) (g : e_G) : Option (Int32 × e_G) :=
  c26 l0 l1 l2 l3 t0 (l5 + (1 : Int32)) g
def J_X11_wordFrom_72 (c26 : Nat → Int32 → Int32 → Int32 → Int32 → Int32 → e_G → Option (Int32 × e_G)) (S : e_S) (l0 : Nat) (l1 : Int32) (l2 : Int32) (l3 : Int32) (l5 : Int32) (t0 : Int32) (t1 : Int32) (g : e_G) : Option (Int32 × e_G) :=
  if t0 = t1 then
    J_X11_wordFrom_80 c26 S l0 l1 l2 l3 l5 (1 : Int32) g
  else
    J_X11_wordFrom_80 c26 S l0 l1 l2 l3 l5 (0 : Int32) g
def L_X11_wordFrom_26 (c2 : Nat → Int32 → Int32 → Int32 → e_G → Option (Int32 × e_G)) : Nat → e_S → Nat → Int32 → Int32 → Int32 → Int32 → Int32 → e_G → Option (Int32 × e_G)
  | 0, _, _, _, _, _, _, _, _ => none
  | n + 1, S, l0, l1, l2, l3, l4, l5, g =>
  if (8 : Int32) ≤ l5 then
    J_X11_wordFrom_88 c2 S l0 l1 l2 l3 l4 g
  else
    if l4 = 0 then
      J_X11_wordFrom_88 c2 S l0 l1 l2 l3 l4 g
    else
      (e_gR S g 11 l0 22).bind fun v1 =>
      (e_aI S g 0 v1 (((8 : Int32) * l3) + l5)).bind fun v3 =>
      if l2 ≤ (l1 + l5) then
        J_X11_wordFrom_72 (L_X11_wordFrom_26 c2 n S) S l0 l1 l2 l3 l5 v3 (32 : Int32) g
      else
        (e_gR S g 11 l0 5).bind fun v5 =>
        (e_aI S g 0 v5 (l1 + l5)).bind fun v7 =>
        J_X11_wordFrom_72 (L_X11_wordFrom_26 c2 n S) S l0 l1 l2 l3 l5 v3 v7 g
def J_X11_wordFrom_21 (c2 : Nat → Int32 → Int32 → Int32 → e_G → Option (Int32 × e_G)) (S : e_S) (l0 : Nat) (l1 : Int32) (l2 : Int32) (l3 : Int32) (t0 : Int32) (g : e_G) : Option (Int32 × e_G) :=
  L_X11_wordFrom_26 c2 50000 S l0 l1 l2 l3 t0 (0 : Int32) g
def L_X11_wordFrom_2 : Nat → e_S → Nat → Int32 → Int32 → Int32 → e_G → Option (Int32 × e_G)
  | 0, _, _, _, _, _, _ => none
  | n + 1, S, l0, l1, l2, l3, g =>
  if (12 : Int32) ≤ l3 then
    some ((12 : Int32), g)
  else
    if (8 : Int32) < (l2 - l1) then
      J_X11_wordFrom_21 (L_X11_wordFrom_2 n S) S l0 l1 l2 l3 (0 : Int32) g
    else
      J_X11_wordFrom_21 (L_X11_wordFrom_2 n S) S l0 l1 l2 l3 (1 : Int32) g
def f_X11_wordFrom (S : e_S) (l0 : Nat) (l1 : Int32) (l2 : Int32) (g : e_G) : Option (Int32 × e_G) :=
  if e_ob S 11 l0 = true then
    L_X11_wordFrom_2 50000 S l0 l1 l2 (0 : Int32) g
  else none
theorem x_J_X11_wordFrom_88 {l : Launch} {D : va_G} {S : e_S} {w : Int32} {k : e_G} (c2 : Nat → Int32 → Int32 → Int32 → e_G → Option (Int32 × e_G)) (hc2 : ∀ (l0 : Nat) (l1 : Int32) (l2 : Int32) (l3 : Int32) (g : e_G), c2 l0 l1 l2 l3 g = some (w, k) → X l D (e_R 1) M_X11_wordFrom 0 0 2 [(0, .ref l0), (1, .int l1), (2, .int l2), (3, .int l3)] [] (S, g) (some (.int w)) (S, k)) {l0 : Nat} {l1 : Int32} {l2 : Int32} {l3 : Int32} {l4 : Int32} {g : e_G} (hf : J_X11_wordFrom_88 c2 S l0 l1 l2 l3 l4 g = some (w, k)) : X l D (e_R 1) M_X11_wordFrom 0 0 88 [(0, .ref l0), (1, .int l1), (2, .int l2), (3, .int l3), (4, .int l4)] [] (S, g) (some (.int w)) (S, k) := by
  unfold J_X11_wordFrom_88 at hf
  refine X.iload dX11_wordFrom_88 (j := 4) rfl ?_
  refine X.if_eq dX11_wordFrom_90 (tgt := 95) rfl (fun hc => ?_) (fun hc => ?_)
  · rw [if_pos hc] at hf
    refine X.iinc (j := 3) dX11_wordFrom_95 rfl (v := l3 + (1 : Int32)) (by rw [kI_1]) (Nat.le_of_ble_eq_true rfl) (lc' := [(3, .int (l3 + (1 : Int32))), (0, .ref l0), (1, .int l1), (2, .int l2), (4, .int l4)]) rfl ?_
    refine X.goto dX11_wordFrom_98 (tgt := 2) rfl ?_
    refine X.sub [1, 2, 3, 0] rfl ?_
    exact hc2 _ _ _ _ _ hf
  · rw [if_neg hc] at hf
    refine X.iload_n dX11_wordFrom_93 rfl (j := 3) rfl ?_
    obtain ⟨e1, e2⟩ := e_ret hf
    subst e1
    subst e2
    exact X.iret dX11_wordFrom_94 rfl rfl
theorem x_J_X11_wordFrom_80 {l : Launch} {D : va_G} {S : e_S} {w : Int32} {k : e_G} (c26 : Nat → Int32 → Int32 → Int32 → Int32 → Int32 → e_G → Option (Int32 × e_G)) (hc26 : ∀ (l0 : Nat) (l1 : Int32) (l2 : Int32) (l3 : Int32) (l4 : Int32) (l5 : Int32) (g : e_G), c26 l0 l1 l2 l3 l4 l5 g = some (w, k) → X l D (e_R 1) M_X11_wordFrom 0 0 26 [(0, .ref l0), (1, .int l1), (2, .int l2), (3, .int l3), (4, .int l4), (5, .int l5)] [] (S, g) (some (.int w)) (S, k)) {l0 : Nat} {l1 : Int32} {l2 : Int32} {l3 : Int32} {l5 : Int32} {t0 : Int32} {g : e_G} (hf : J_X11_wordFrom_80 c26 S l0 l1 l2 l3 l5 t0 g = some (w, k)) : X l D (e_R 1) M_X11_wordFrom 0 0 80 [(0, .ref l0), (1, .int l1), (2, .int l2), (3, .int l3), (5, .int l5)] [.int t0] (S, g) (some (.int w)) (S, k) := by
  unfold J_X11_wordFrom_80 at hf
  refine X.istore dX11_wordFrom_80 (Nat.le_of_ble_eq_true rfl) (lc' := [(4, .int t0), (0, .ref l0), (1, .int l1), (2, .int l2), (3, .int l3), (5, .int l5)]) rfl ?_
  refine X.iinc (j := 5) dX11_wordFrom_82 rfl (v := l5 + (1 : Int32)) (by rw [kI_1]) (Nat.le_of_ble_eq_true rfl) (lc' := [(5, .int (l5 + (1 : Int32))), (4, .int t0), (0, .ref l0), (1, .int l1), (2, .int l2), (3, .int l3)]) rfl ?_
  refine X.goto dX11_wordFrom_85 (tgt := 26) rfl ?_
  refine X.sub [2, 3, 4, 5, 1, 0] rfl ?_
  exact hc26 _ _ _ _ _ _ _ hf
theorem x_J_X11_wordFrom_72 {l : Launch} {D : va_G} {S : e_S} {w : Int32} {k : e_G} (c26 : Nat → Int32 → Int32 → Int32 → Int32 → Int32 → e_G → Option (Int32 × e_G)) (hc26 : ∀ (l0 : Nat) (l1 : Int32) (l2 : Int32) (l3 : Int32) (l4 : Int32) (l5 : Int32) (g : e_G), c26 l0 l1 l2 l3 l4 l5 g = some (w, k) → X l D (e_R 1) M_X11_wordFrom 0 0 26 [(0, .ref l0), (1, .int l1), (2, .int l2), (3, .int l3), (4, .int l4), (5, .int l5)] [] (S, g) (some (.int w)) (S, k)) {l0 : Nat} {l1 : Int32} {l2 : Int32} {l3 : Int32} {l5 : Int32} {t0 : Int32} {t1 : Int32} {g : e_G} (hf : J_X11_wordFrom_72 c26 S l0 l1 l2 l3 l5 t0 t1 g = some (w, k)) : X l D (e_R 1) M_X11_wordFrom 0 0 72 [(0, .ref l0), (1, .int l1), (2, .int l2), (3, .int l3), (5, .int l5)] [.int t1, .int t0] (S, g) (some (.int w)) (S, k) := by
  unfold J_X11_wordFrom_72 at hf
  refine X.icmp_ne dX11_wordFrom_72 (tgt := 79) rfl (fun hc => ?_) (fun hc => ?_)
  · rw [if_neg hc] at hf
    refine X.iconst dX11_wordFrom_79 kI_0 ?_
    exact x_J_X11_wordFrom_80 _ hc26 hf
  · rw [if_pos hc] at hf
    refine X.iconst dX11_wordFrom_75 kI_1 ?_
    refine X.goto dX11_wordFrom_76 (tgt := 80) rfl ?_
    exact x_J_X11_wordFrom_80 _ hc26 hf
theorem x_L_X11_wordFrom_26 {l : Launch} {D : va_G} {S : e_S} {w : Int32} {k : e_G} (c2 : Nat → Int32 → Int32 → Int32 → e_G → Option (Int32 × e_G)) (hc2 : ∀ (l0 : Nat) (l1 : Int32) (l2 : Int32) (l3 : Int32) (g : e_G), c2 l0 l1 l2 l3 g = some (w, k) → X l D (e_R 1) M_X11_wordFrom 0 0 2 [(0, .ref l0), (1, .int l1), (2, .int l2), (3, .int l3)] [] (S, g) (some (.int w)) (S, k)) : ∀ (n : Nat) (l0 : Nat) (l1 : Int32) (l2 : Int32) (l3 : Int32) (l4 : Int32) (l5 : Int32) (g : e_G), L_X11_wordFrom_26 c2 n S l0 l1 l2 l3 l4 l5 g = some (w, k) → X l D (e_R 1) M_X11_wordFrom 0 0 26 [(0, .ref l0), (1, .int l1), (2, .int l2), (3, .int l3), (4, .int l4), (5, .int l5)] [] (S, g) (some (.int w)) (S, k) := by
  intro n
  induction n with
  | zero =>
    intro l0 l1 l2 l3 l4 l5 g hf
    cases hf
  | succ n ih =>
    intro l0 l1 l2 l3 l4 l5 g hf
    rw [L_X11_wordFrom_26] at hf
    refine X.iload dX11_wordFrom_26 (j := 5) rfl ?_
    refine X.bipush dX11_wordFrom_28 kB_8 ?_
    refine X.icmp_ge dX11_wordFrom_30 (tgt := 88) rfl (fun hc => ?_) (fun hc => ?_)
    · rw [if_pos hc] at hf
      refine X.sub [0, 1, 2, 3, 4] rfl ?_
      exact x_J_X11_wordFrom_88 _ hc2 hf
    · rw [if_neg hc] at hf
      refine X.iload dX11_wordFrom_33 (j := 4) rfl ?_
      refine X.if_eq dX11_wordFrom_35 (tgt := 88) rfl (fun hc => ?_) (fun hc => ?_)
      · rw [if_pos hc] at hf
        refine X.sub [0, 1, 2, 3, 4] rfl ?_
        exact x_J_X11_wordFrom_88 _ hc2 hf
      · rw [if_neg hc] at hf
        refine X.aload_n dX11_wordFrom_38 rfl (j := 0) rfl ?_
        obtain ⟨v1, h2, hf⟩ := ob hf
        refine Y.getR dX11_wordFrom_39 fl_X11_46 rfl h2 ?_
        refine X.bipush dX11_wordFrom_42 kB_8 ?_
        refine X.iload_n dX11_wordFrom_44 rfl (j := 3) rfl ?_
        refine X.imul dX11_wordFrom_45 ?_
        refine X.iload dX11_wordFrom_46 (j := 5) rfl ?_
        refine X.iadd dX11_wordFrom_48 ?_
        obtain ⟨v3, h4, hf⟩ := ob hf
        refine Y.iald dX11_wordFrom_49 h4 ?_
        refine X.iload_n dX11_wordFrom_50 rfl (j := 1) rfl ?_
        refine X.iload dX11_wordFrom_51 (j := 5) rfl ?_
        refine X.iadd dX11_wordFrom_53 ?_
        refine X.iload_n dX11_wordFrom_54 rfl (j := 2) rfl ?_
        refine X.icmp_ge dX11_wordFrom_55 (tgt := 70) rfl (fun hc => ?_) (fun hc => ?_)
        · rw [if_pos hc] at hf
          refine X.bipush dX11_wordFrom_70 kB_32 ?_
          refine X.sub [0, 1, 2, 3, 5] rfl ?_
          exact x_J_X11_wordFrom_72 _ ih hf
        · rw [if_neg hc] at hf
          refine X.aload_n dX11_wordFrom_58 rfl (j := 0) rfl ?_
          obtain ⟨v5, h6, hf⟩ := ob hf
          refine Y.getR dX11_wordFrom_59 fl_X11_19 rfl h6 ?_
          refine X.iload_n dX11_wordFrom_62 rfl (j := 1) rfl ?_
          refine X.iload dX11_wordFrom_63 (j := 5) rfl ?_
          refine X.iadd dX11_wordFrom_65 ?_
          obtain ⟨v7, h8, hf⟩ := ob hf
          refine Y.iald dX11_wordFrom_66 h8 ?_
          refine X.goto dX11_wordFrom_67 (tgt := 72) rfl ?_
          refine X.sub [0, 1, 2, 3, 5] rfl ?_
          exact x_J_X11_wordFrom_72 _ ih hf
theorem x_J_X11_wordFrom_21 {l : Launch} {D : va_G} {S : e_S} {w : Int32} {k : e_G} (c2 : Nat → Int32 → Int32 → Int32 → e_G → Option (Int32 × e_G)) (hc2 : ∀ (l0 : Nat) (l1 : Int32) (l2 : Int32) (l3 : Int32) (g : e_G), c2 l0 l1 l2 l3 g = some (w, k) → X l D (e_R 1) M_X11_wordFrom 0 0 2 [(0, .ref l0), (1, .int l1), (2, .int l2), (3, .int l3)] [] (S, g) (some (.int w)) (S, k)) {l0 : Nat} {l1 : Int32} {l2 : Int32} {l3 : Int32} {t0 : Int32} {g : e_G} (hf : J_X11_wordFrom_21 c2 S l0 l1 l2 l3 t0 g = some (w, k)) : X l D (e_R 1) M_X11_wordFrom 0 0 21 [(0, .ref l0), (1, .int l1), (2, .int l2), (3, .int l3)] [.int t0] (S, g) (some (.int w)) (S, k) := by
  unfold J_X11_wordFrom_21 at hf
  refine X.istore dX11_wordFrom_21 (Nat.le_of_ble_eq_true rfl) (lc' := [(4, .int t0), (0, .ref l0), (1, .int l1), (2, .int l2), (3, .int l3)]) rfl ?_
  refine X.iconst dX11_wordFrom_23 kI_0 ?_
  refine X.istore dX11_wordFrom_24 (Nat.le_of_ble_eq_true rfl) (lc' := [(5, .int (0 : Int32)), (4, .int t0), (0, .ref l0), (1, .int l1), (2, .int l2), (3, .int l3)]) rfl ?_
  refine X.sub [2, 3, 4, 5, 1, 0] rfl ?_
  exact x_L_X11_wordFrom_26 _ hc2 50000 _ _ _ _ _ _ _ hf
theorem x_L_X11_wordFrom_2 {l : Launch} {D : va_G} {S : e_S} {w : Int32} {k : e_G} : ∀ (n : Nat) (l0 : Nat) (l1 : Int32) (l2 : Int32) (l3 : Int32) (g : e_G), L_X11_wordFrom_2 n S l0 l1 l2 l3 g = some (w, k) → X l D (e_R 1) M_X11_wordFrom 0 0 2 [(0, .ref l0), (1, .int l1), (2, .int l2), (3, .int l3)] [] (S, g) (some (.int w)) (S, k) := by
  intro n
  induction n with
  | zero =>
    intro l0 l1 l2 l3 g hf
    cases hf
  | succ n ih =>
    intro l0 l1 l2 l3 g hf
    rw [L_X11_wordFrom_2] at hf
    refine X.iload_n dX11_wordFrom_2 rfl (j := 3) rfl ?_
    refine X.bipush dX11_wordFrom_3 kB_12 ?_
    refine X.icmp_ge dX11_wordFrom_5 (tgt := 101) rfl (fun hc => ?_) (fun hc => ?_)
    · rw [if_pos hc] at hf
      refine X.bipush dX11_wordFrom_101 kB_12 ?_
      obtain ⟨e1, e2⟩ := e_ret hf
      subst e1
      subst e2
      exact X.iret dX11_wordFrom_103 rfl rfl
    · rw [if_neg hc] at hf
      refine X.iload_n dX11_wordFrom_8 rfl (j := 2) rfl ?_
      refine X.iload_n dX11_wordFrom_9 rfl (j := 1) rfl ?_
      refine X.isub dX11_wordFrom_10 ?_
      refine X.bipush dX11_wordFrom_11 kB_8 ?_
      refine X.icmp_gt dX11_wordFrom_13 (tgt := 20) rfl (fun hc => ?_) (fun hc => ?_)
      · rw [if_pos hc] at hf
        refine X.iconst dX11_wordFrom_20 kI_0 ?_
        exact x_J_X11_wordFrom_21 _ ih hf
      · rw [if_neg hc] at hf
        refine X.iconst dX11_wordFrom_16 kI_1 ?_
        refine X.goto dX11_wordFrom_17 (tgt := 21) rfl ?_
        exact x_J_X11_wordFrom_21 _ ih hf
theorem o_X11_wordFrom  {S : e_S} {w : Int32} {k : e_G} {l0 : Nat} {l1 : Int32} {l2 : Int32} {g : e_G} (hf : f_X11_wordFrom S l0 l1 l2 g = some (w, k)) : e_ob S 11 l0 = true := by
  unfold f_X11_wordFrom at hf
  by_cases hc : e_ob S 11 l0 = true
  · exact hc
  · rw [if_neg hc] at hf
    cases hf
theorem c_X11_wordFrom {l : Launch} {D : va_G}  {S : e_S} {w : Int32} {k : e_G} {l0 : Nat} {l1 : Int32} {l2 : Int32} {g : e_G} (hf : f_X11_wordFrom S l0 l1 l2 g = some (w, k)) : CT l D (e_R 1) M_X11_wordFrom [.ref l0, .int l1, .int l2] (S, g) (some (.int w)) (S, k) := by
  refine CT.of (by decide +kernel) (Nat.le_of_ble_eq_true rfl) ?_
  have ho := o_X11_wordFrom hf
  unfold f_X11_wordFrom at hf
  rw [if_pos ho] at hf
  show X l D (e_R 1) M_X11_wordFrom 0 0 0 [(0, .ref l0), (1, .int l1), (2, .int l2)] [] (S, g) (some (.int w)) (S, k)
  refine X.iconst dX11_wordFrom_0 kI_0 ?_
  refine X.istore_n dX11_wordFrom_1 rfl (Nat.le_of_ble_eq_true rfl) (lc' := [(3, .int (0 : Int32)), (0, .ref l0), (1, .int l1), (2, .int l2)]) rfl ?_
  refine X.sub [1, 2, 3, 0] rfl ?_
  exact x_L_X11_wordFrom_2 50000 _ _ _ _ _ hf
/-! LeanedOutModel.next()V -/
abbrev M_X11_next : e_M := (yX11_next, cX11_next, 3, none)
theorem mk_X11_next : e_Mok M_X11_next 0 := ⟨by decide +kernel, by decide +kernel, by decide +kernel⟩
theorem dX11_next_0 : decode cX11_next 0 = .ok (.aload_n 0, 1) := by decide +kernel
theorem dX11_next_1 : decode cX11_next 1 = .ok (.getfield 102, 3) := by decide +kernel
theorem dX11_next_4 : decode cX11_next 4 = .ok (.aload_n 0, 1) := by decide +kernel
theorem dX11_next_5 : decode cX11_next 5 = .ok (.getfield 67, 3) := by decide +kernel
theorem dX11_next_8 : decode cX11_next 8 = .ok (.if_icmp .ge 44, 3) := by decide +kernel
theorem dX11_next_11 : decode cX11_next 11 = .ok (.aload_n 0, 1) := by decide +kernel
theorem dX11_next_12 : decode cX11_next 12 = .ok (.getfield 19, 3) := by decide +kernel
theorem dX11_next_15 : decode cX11_next 15 = .ok (.aload_n 0, 1) := by decide +kernel
theorem dX11_next_16 : decode cX11_next 16 = .ok (.getfield 102, 3) := by decide +kernel
theorem dX11_next_19 : decode cX11_next 19 = .ok (.iaload, 1) := by decide +kernel
theorem dX11_next_20 : decode cX11_next 20 = .ok (.bipush 32, 2) := by decide +kernel
theorem dX11_next_22 : decode cX11_next 22 = .ok (.if_icmp .eq 17, 3) := by decide +kernel
theorem dX11_next_25 : decode cX11_next 25 = .ok (.aload_n 0, 1) := by decide +kernel
theorem dX11_next_26 : decode cX11_next 26 = .ok (.getfield 19, 3) := by decide +kernel
theorem dX11_next_29 : decode cX11_next 29 = .ok (.aload_n 0, 1) := by decide +kernel
theorem dX11_next_30 : decode cX11_next 30 = .ok (.getfield 102, 3) := by decide +kernel
theorem dX11_next_33 : decode cX11_next 33 = .ok (.iaload, 1) := by decide +kernel
theorem dX11_next_34 : decode cX11_next 34 = .ok (.bipush 10, 2) := by decide +kernel
theorem dX11_next_36 : decode cX11_next 36 = .ok (.if_icmp .ne 16, 3) := by decide +kernel
theorem dX11_next_39 : decode cX11_next 39 = .ok (.aload_n 0, 1) := by decide +kernel
theorem dX11_next_40 : decode cX11_next 40 = .ok (.dup, 1) := by decide +kernel
theorem dX11_next_41 : decode cX11_next 41 = .ok (.getfield 102, 3) := by decide +kernel
theorem dX11_next_44 : decode cX11_next 44 = .ok (.iconst 1, 1) := by decide +kernel
theorem dX11_next_45 : decode cX11_next 45 = .ok (.iadd, 1) := by decide +kernel
theorem dX11_next_46 : decode cX11_next 46 = .ok (.putfield 102, 3) := by decide +kernel
theorem dX11_next_49 : decode cX11_next 49 = .ok (.goto (-49), 3) := by decide +kernel
theorem dX11_next_52 : decode cX11_next 52 = .ok (.aload_n 0, 1) := by decide +kernel
theorem dX11_next_53 : decode cX11_next 53 = .ok (.aload_n 0, 1) := by decide +kernel
theorem dX11_next_54 : decode cX11_next 54 = .ok (.getfield 102, 3) := by decide +kernel
theorem dX11_next_57 : decode cX11_next 57 = .ok (.putfield 105, 3) := by decide +kernel
theorem dX11_next_60 : decode cX11_next 60 = .ok (.aload_n 0, 1) := by decide +kernel
theorem dX11_next_61 : decode cX11_next 61 = .ok (.iconst 0, 1) := by decide +kernel
theorem dX11_next_62 : decode cX11_next 62 = .ok (.putfield 108, 3) := by decide +kernel
theorem dX11_next_65 : decode cX11_next 65 = .ok (.aload_n 0, 1) := by decide +kernel
theorem dX11_next_66 : decode cX11_next 66 = .ok (.iconst 0, 1) := by decide +kernel
theorem dX11_next_67 : decode cX11_next 67 = .ok (.putfield 111, 3) := by decide +kernel
theorem dX11_next_70 : decode cX11_next 70 = .ok (.aload_n 0, 1) := by decide +kernel
theorem dX11_next_71 : decode cX11_next 71 = .ok (.getfield 102, 3) := by decide +kernel
theorem dX11_next_74 : decode cX11_next 74 = .ok (.aload_n 0, 1) := by decide +kernel
theorem dX11_next_75 : decode cX11_next 75 = .ok (.getfield 67, 3) := by decide +kernel
theorem dX11_next_78 : decode cX11_next 78 = .ok (.if_icmp .ne 4, 3) := by decide +kernel
theorem dX11_next_81 : decode cX11_next 81 = .ok (.return_, 1) := by decide +kernel
theorem dX11_next_82 : decode cX11_next 82 = .ok (.aload_n 0, 1) := by decide +kernel
theorem dX11_next_83 : decode cX11_next 83 = .ok (.getfield 19, 3) := by decide +kernel
theorem dX11_next_86 : decode cX11_next 86 = .ok (.aload_n 0, 1) := by decide +kernel
theorem dX11_next_87 : decode cX11_next 87 = .ok (.getfield 102, 3) := by decide +kernel
theorem dX11_next_90 : decode cX11_next 90 = .ok (.iaload, 1) := by decide +kernel
theorem dX11_next_91 : decode cX11_next 91 = .ok (.istore_n 1, 1) := by decide +kernel
theorem dX11_next_92 : decode cX11_next 92 = .ok (.iload_n 1, 1) := by decide +kernel
theorem dX11_next_93 : decode cX11_next 93 = .ok (.bipush 97, 2) := by decide +kernel
theorem dX11_next_95 : decode cX11_next 95 = .ok (.bipush 122, 2) := by decide +kernel
theorem dX11_next_97 : decode cX11_next 97 = .ok (.invokestatic 78, 3) := by decide +kernel
theorem dX11_next_100 : decode cX11_next 100 = .ok (.ifCond .eq 117, 3) := by decide +kernel
theorem dX11_next_103 : decode cX11_next 103 = .ok (.aload_n 0, 1) := by decide +kernel
theorem dX11_next_104 : decode cX11_next 104 = .ok (.getfield 102, 3) := by decide +kernel
theorem dX11_next_107 : decode cX11_next 107 = .ok (.aload_n 0, 1) := by decide +kernel
theorem dX11_next_108 : decode cX11_next 108 = .ok (.getfield 67, 3) := by decide +kernel
theorem dX11_next_111 : decode cX11_next 111 = .ok (.if_icmp .ge 35, 3) := by decide +kernel
theorem dX11_next_114 : decode cX11_next 114 = .ok (.aload_n 0, 1) := by decide +kernel
theorem dX11_next_115 : decode cX11_next 115 = .ok (.getfield 19, 3) := by decide +kernel
theorem dX11_next_118 : decode cX11_next 118 = .ok (.aload_n 0, 1) := by decide +kernel
theorem dX11_next_119 : decode cX11_next 119 = .ok (.getfield 102, 3) := by decide +kernel
theorem dX11_next_122 : decode cX11_next 122 = .ok (.iaload, 1) := by decide +kernel
theorem dX11_next_123 : decode cX11_next 123 = .ok (.bipush 97, 2) := by decide +kernel
theorem dX11_next_125 : decode cX11_next 125 = .ok (.bipush 122, 2) := by decide +kernel
theorem dX11_next_127 : decode cX11_next 127 = .ok (.invokestatic 78, 3) := by decide +kernel
theorem dX11_next_130 : decode cX11_next 130 = .ok (.ifCond .eq 16, 3) := by decide +kernel
theorem dX11_next_133 : decode cX11_next 133 = .ok (.aload_n 0, 1) := by decide +kernel
theorem dX11_next_134 : decode cX11_next 134 = .ok (.dup, 1) := by decide +kernel
theorem dX11_next_135 : decode cX11_next 135 = .ok (.getfield 102, 3) := by decide +kernel
theorem dX11_next_138 : decode cX11_next 138 = .ok (.iconst 1, 1) := by decide +kernel
theorem dX11_next_139 : decode cX11_next 139 = .ok (.iadd, 1) := by decide +kernel
theorem dX11_next_140 : decode cX11_next 140 = .ok (.putfield 102, 3) := by decide +kernel
theorem dX11_next_143 : decode cX11_next 143 = .ok (.goto (-40), 3) := by decide +kernel
theorem dX11_next_146 : decode cX11_next 146 = .ok (.aload_n 0, 1) := by decide +kernel
theorem dX11_next_147 : decode cX11_next 147 = .ok (.aload_n 0, 1) := by decide +kernel
theorem dX11_next_148 : decode cX11_next 148 = .ok (.getfield 105, 3) := by decide +kernel
theorem dX11_next_151 : decode cX11_next 151 = .ok (.aload_n 0, 1) := by decide +kernel
theorem dX11_next_152 : decode cX11_next 152 = .ok (.getfield 102, 3) := by decide +kernel
theorem dX11_next_155 : decode cX11_next 155 = .ok (.invokevirtual 114, 3) := by decide +kernel
theorem dX11_next_158 : decode cX11_next 158 = .ok (.istore_n 2, 1) := by decide +kernel
theorem dX11_next_159 : decode cX11_next 159 = .ok (.aload_n 0, 1) := by decide +kernel
theorem dX11_next_160 : decode cX11_next 160 = .ok (.iload_n 2, 1) := by decide +kernel
theorem dX11_next_161 : decode cX11_next 161 = .ok (.iconst 3, 1) := by decide +kernel
theorem dX11_next_162 : decode cX11_next 162 = .ok (.if_icmp .ge 7, 3) := by decide +kernel
theorem dX11_next_165 : decode cX11_next 165 = .ok (.iconst 3, 1) := by decide +kernel
theorem dX11_next_166 : decode cX11_next 166 = .ok (.goto 29, 3) := by decide +kernel
theorem dX11_next_169 : decode cX11_next 169 = .ok (.iload_n 2, 1) := by decide +kernel
theorem dX11_next_170 : decode cX11_next 170 = .ok (.bipush 9, 2) := by decide +kernel
theorem dX11_next_172 : decode cX11_next 172 = .ok (.if_icmp .ge 7, 3) := by decide +kernel
theorem dX11_next_175 : decode cX11_next 175 = .ok (.iconst 2, 1) := by decide +kernel
theorem dX11_next_176 : decode cX11_next 176 = .ok (.goto 19, 3) := by decide +kernel
theorem dX11_next_179 : decode cX11_next 179 = .ok (.iload_n 2, 1) := by decide +kernel
theorem dX11_next_180 : decode cX11_next 180 = .ok (.bipush 12, 2) := by decide +kernel
theorem dX11_next_182 : decode cX11_next 182 = .ok (.if_icmp .ne 7, 3) := by decide +kernel
theorem dX11_next_185 : decode cX11_next 185 = .ok (.iconst (-1), 1) := by decide +kernel
theorem dX11_next_186 : decode cX11_next 186 = .ok (.goto 9, 3) := by decide +kernel
theorem dX11_next_189 : decode cX11_next 189 = .ok (.iconst 4, 1) := by decide +kernel
theorem dX11_next_190 : decode cX11_next 190 = .ok (.iload_n 2, 1) := by decide +kernel
theorem dX11_next_191 : decode cX11_next 191 = .ok (.iadd, 1) := by decide +kernel
theorem dX11_next_192 : decode cX11_next 192 = .ok (.bipush 9, 2) := by decide +kernel
theorem dX11_next_194 : decode cX11_next 194 = .ok (.isub, 1) := by decide +kernel
theorem dX11_next_195 : decode cX11_next 195 = .ok (.putfield 108, 3) := by decide +kernel
theorem dX11_next_198 : decode cX11_next 198 = .ok (.aload_n 0, 1) := by decide +kernel
theorem dX11_next_199 : decode cX11_next 199 = .ok (.iload_n 2, 1) := by decide +kernel
theorem dX11_next_200 : decode cX11_next 200 = .ok (.iconst 3, 1) := by decide +kernel
theorem dX11_next_201 : decode cX11_next 201 = .ok (.if_icmp .ge 7, 3) := by decide +kernel
theorem dX11_next_204 : decode cX11_next 204 = .ok (.iload_n 2, 1) := by decide +kernel
theorem dX11_next_205 : decode cX11_next 205 = .ok (.goto 6, 3) := by decide +kernel
theorem dX11_next_208 : decode cX11_next 208 = .ok (.iload_n 2, 1) := by decide +kernel
theorem dX11_next_209 : decode cX11_next 209 = .ok (.iconst 3, 1) := by decide +kernel
theorem dX11_next_210 : decode cX11_next 210 = .ok (.isub, 1) := by decide +kernel
theorem dX11_next_211 : decode cX11_next 211 = .ok (.putfield 111, 3) := by decide +kernel
theorem dX11_next_214 : decode cX11_next 214 = .ok (.goto 189, 3) := by decide +kernel
theorem dX11_next_217 : decode cX11_next 217 = .ok (.iload_n 1, 1) := by decide +kernel
theorem dX11_next_218 : decode cX11_next 218 = .ok (.bipush 48, 2) := by decide +kernel
theorem dX11_next_220 : decode cX11_next 220 = .ok (.bipush 57, 2) := by decide +kernel
theorem dX11_next_222 : decode cX11_next 222 = .ok (.invokestatic 78, 3) := by decide +kernel
theorem dX11_next_225 : decode cX11_next 225 = .ok (.ifCond .eq 101, 3) := by decide +kernel
theorem dX11_next_228 : decode cX11_next 228 = .ok (.iconst 0, 1) := by decide +kernel
theorem dX11_next_229 : decode cX11_next 229 = .ok (.istore_n 2, 1) := by decide +kernel
theorem dX11_next_230 : decode cX11_next 230 = .ok (.aload_n 0, 1) := by decide +kernel
theorem dX11_next_231 : decode cX11_next 231 = .ok (.getfield 102, 3) := by decide +kernel
theorem dX11_next_234 : decode cX11_next 234 = .ok (.aload_n 0, 1) := by decide +kernel
theorem dX11_next_235 : decode cX11_next 235 = .ok (.getfield 67, 3) := by decide +kernel
theorem dX11_next_238 : decode cX11_next 238 = .ok (.if_icmp .ge 71, 3) := by decide +kernel
theorem dX11_next_241 : decode cX11_next 241 = .ok (.aload_n 0, 1) := by decide +kernel
theorem dX11_next_242 : decode cX11_next 242 = .ok (.getfield 19, 3) := by decide +kernel
theorem dX11_next_245 : decode cX11_next 245 = .ok (.aload_n 0, 1) := by decide +kernel
theorem dX11_next_246 : decode cX11_next 246 = .ok (.getfield 102, 3) := by decide +kernel
theorem dX11_next_249 : decode cX11_next 249 = .ok (.iaload, 1) := by decide +kernel
theorem dX11_next_250 : decode cX11_next 250 = .ok (.bipush 48, 2) := by decide +kernel
theorem dX11_next_252 : decode cX11_next 252 = .ok (.bipush 57, 2) := by decide +kernel
theorem dX11_next_254 : decode cX11_next 254 = .ok (.invokestatic 78, 3) := by decide +kernel
theorem dX11_next_257 : decode cX11_next 257 = .ok (.ifCond .eq 52, 3) := by decide +kernel
theorem dX11_next_260 : decode cX11_next 260 = .ok (.aload_n 0, 1) := by decide +kernel
theorem dX11_next_261 : decode cX11_next 261 = .ok (.iload_n 2, 1) := by decide +kernel
theorem dX11_next_262 : decode cX11_next 262 = .ok (.iconst 4, 1) := by decide +kernel
theorem dX11_next_263 : decode cX11_next 263 = .ok (.if_icmp .ge 26, 3) := by decide +kernel
theorem dX11_next_266 : decode cX11_next 266 = .ok (.bipush 10, 2) := by decide +kernel
theorem dX11_next_268 : decode cX11_next 268 = .ok (.aload_n 0, 1) := by decide +kernel
theorem dX11_next_269 : decode cX11_next 269 = .ok (.getfield 111, 3) := by decide +kernel
theorem dX11_next_272 : decode cX11_next 272 = .ok (.imul, 1) := by decide +kernel
theorem dX11_next_273 : decode cX11_next 273 = .ok (.aload_n 0, 1) := by decide +kernel
theorem dX11_next_274 : decode cX11_next 274 = .ok (.getfield 19, 3) := by decide +kernel
theorem dX11_next_277 : decode cX11_next 277 = .ok (.aload_n 0, 1) := by decide +kernel
theorem dX11_next_278 : decode cX11_next 278 = .ok (.getfield 102, 3) := by decide +kernel
theorem dX11_next_281 : decode cX11_next 281 = .ok (.iaload, 1) := by decide +kernel
theorem dX11_next_282 : decode cX11_next 282 = .ok (.iadd, 1) := by decide +kernel
theorem dX11_next_283 : decode cX11_next 283 = .ok (.bipush 48, 2) := by decide +kernel
theorem dX11_next_285 : decode cX11_next 285 = .ok (.isub, 1) := by decide +kernel
theorem dX11_next_286 : decode cX11_next 286 = .ok (.goto 4, 3) := by decide +kernel
theorem dX11_next_289 : decode cX11_next 289 = .ok (.iconst 0, 1) := by decide +kernel
theorem dX11_next_290 : decode cX11_next 290 = .ok (.putfield 111, 3) := by decide +kernel
theorem dX11_next_293 : decode cX11_next 293 = .ok (.iinc 2 1, 3) := by decide +kernel
theorem dX11_next_296 : decode cX11_next 296 = .ok (.aload_n 0, 1) := by decide +kernel
theorem dX11_next_297 : decode cX11_next 297 = .ok (.dup, 1) := by decide +kernel
theorem dX11_next_298 : decode cX11_next 298 = .ok (.getfield 102, 3) := by decide +kernel
theorem dX11_next_301 : decode cX11_next 301 = .ok (.iconst 1, 1) := by decide +kernel
theorem dX11_next_302 : decode cX11_next 302 = .ok (.iadd, 1) := by decide +kernel
theorem dX11_next_303 : decode cX11_next 303 = .ok (.putfield 102, 3) := by decide +kernel
theorem dX11_next_306 : decode cX11_next 306 = .ok (.goto (-76), 3) := by decide +kernel
theorem dX11_next_309 : decode cX11_next 309 = .ok (.aload_n 0, 1) := by decide +kernel
theorem dX11_next_310 : decode cX11_next 310 = .ok (.iload_n 2, 1) := by decide +kernel
theorem dX11_next_311 : decode cX11_next 311 = .ok (.iconst 4, 1) := by decide +kernel
theorem dX11_next_312 : decode cX11_next 312 = .ok (.if_icmp .le 7, 3) := by decide +kernel
theorem dX11_next_315 : decode cX11_next 315 = .ok (.iconst (-1), 1) := by decide +kernel
theorem dX11_next_316 : decode cX11_next 316 = .ok (.goto 4, 3) := by decide +kernel
theorem dX11_next_319 : decode cX11_next 319 = .ok (.iconst 1, 1) := by decide +kernel
theorem dX11_next_320 : decode cX11_next 320 = .ok (.putfield 108, 3) := by decide +kernel
theorem dX11_next_323 : decode cX11_next 323 = .ok (.goto 80, 3) := by decide +kernel
theorem dX11_next_326 : decode cX11_next 326 = .ok (.iload_n 1, 1) := by decide +kernel
theorem dX11_next_327 : decode cX11_next 327 = .ok (.bipush 40, 2) := by decide +kernel
theorem dX11_next_329 : decode cX11_next 329 = .ok (.if_icmp .eq 45, 3) := by decide +kernel
theorem dX11_next_332 : decode cX11_next 332 = .ok (.iload_n 1, 1) := by decide +kernel
theorem dX11_next_333 : decode cX11_next 333 = .ok (.bipush 41, 2) := by decide +kernel
theorem dX11_next_335 : decode cX11_next 335 = .ok (.if_icmp .eq 39, 3) := by decide +kernel
theorem dX11_next_338 : decode cX11_next 338 = .ok (.iload_n 1, 1) := by decide +kernel
theorem dX11_next_339 : decode cX11_next 339 = .ok (.bipush 59, 2) := by decide +kernel
theorem dX11_next_341 : decode cX11_next 341 = .ok (.if_icmp .eq 33, 3) := by decide +kernel
theorem dX11_next_344 : decode cX11_next 344 = .ok (.iload_n 1, 1) := by decide +kernel
theorem dX11_next_345 : decode cX11_next 345 = .ok (.bipush 43, 2) := by decide +kernel
theorem dX11_next_347 : decode cX11_next 347 = .ok (.if_icmp .eq 27, 3) := by decide +kernel
theorem dX11_next_350 : decode cX11_next 350 = .ok (.iload_n 1, 1) := by decide +kernel
theorem dX11_next_351 : decode cX11_next 351 = .ok (.bipush 45, 2) := by decide +kernel
theorem dX11_next_353 : decode cX11_next 353 = .ok (.if_icmp .eq 21, 3) := by decide +kernel
theorem dX11_next_356 : decode cX11_next 356 = .ok (.iload_n 1, 1) := by decide +kernel
theorem dX11_next_357 : decode cX11_next 357 = .ok (.bipush 42, 2) := by decide +kernel
theorem dX11_next_359 : decode cX11_next 359 = .ok (.if_icmp .eq 15, 3) := by decide +kernel
theorem dX11_next_362 : decode cX11_next 362 = .ok (.iload_n 1, 1) := by decide +kernel
theorem dX11_next_363 : decode cX11_next 363 = .ok (.bipush 60, 2) := by decide +kernel
theorem dX11_next_365 : decode cX11_next 365 = .ok (.if_icmp .eq 9, 3) := by decide +kernel
theorem dX11_next_368 : decode cX11_next 368 = .ok (.iload_n 1, 1) := by decide +kernel
theorem dX11_next_369 : decode cX11_next 369 = .ok (.bipush 61, 2) := by decide +kernel
theorem dX11_next_371 : decode cX11_next 371 = .ok (.if_icmp .ne 7, 3) := by decide +kernel
theorem dX11_next_374 : decode cX11_next 374 = .ok (.iconst 1, 1) := by decide +kernel
theorem dX11_next_375 : decode cX11_next 375 = .ok (.goto 4, 3) := by decide +kernel
theorem dX11_next_378 : decode cX11_next 378 = .ok (.iconst 0, 1) := by decide +kernel
theorem dX11_next_379 : decode cX11_next 379 = .ok (.istore_n 2, 1) := by decide +kernel
theorem dX11_next_380 : decode cX11_next 380 = .ok (.aload_n 0, 1) := by decide +kernel
theorem dX11_next_381 : decode cX11_next 381 = .ok (.iload_n 2, 1) := by decide +kernel
theorem dX11_next_382 : decode cX11_next 382 = .ok (.ifCond .eq 7, 3) := by decide +kernel
theorem dX11_next_385 : decode cX11_next 385 = .ok (.iload_n 1, 1) := by decide +kernel
theorem dX11_next_386 : decode cX11_next 386 = .ok (.goto 4, 3) := by decide +kernel
theorem dX11_next_389 : decode cX11_next 389 = .ok (.iconst (-1), 1) := by decide +kernel
theorem dX11_next_390 : decode cX11_next 390 = .ok (.putfield 108, 3) := by decide +kernel
theorem dX11_next_393 : decode cX11_next 393 = .ok (.aload_n 0, 1) := by decide +kernel
theorem dX11_next_394 : decode cX11_next 394 = .ok (.dup, 1) := by decide +kernel
theorem dX11_next_395 : decode cX11_next 395 = .ok (.getfield 102, 3) := by decide +kernel
theorem dX11_next_398 : decode cX11_next 398 = .ok (.iconst 1, 1) := by decide +kernel
theorem dX11_next_399 : decode cX11_next 399 = .ok (.iadd, 1) := by decide +kernel
theorem dX11_next_400 : decode cX11_next 400 = .ok (.putfield 102, 3) := by decide +kernel
theorem dX11_next_403 : decode cX11_next 403 = .ok (.return_, 1) := by decide +kernel
def J_X11_next_390 (S : e_S) (l0 : Nat) (t0 : Nat) (t1 : Int32) (g : e_G) : Option (e_G) :=
  (e_sI S g 11 t0 20 t1).bind fun g1 =>
  (e_gI S g1 11 l0 18).bind fun v3 =>
  (e_sI S g1 11 l0 18 (v3 + (1 : Int32))).bind fun g5 =>
  some g5
def J_X11_next_379 (S : e_S) (l0 : Nat) (l1 : Int32) (t0 : Int32) (g : e_G) : Option (e_G) :=
  if t0 = 0 then
    J_X11_next_390 S l0 l0 (-1 : Int32) g
  else
    J_X11_next_390 S l0 l0 l1 g
def J_X11_next_211 (S : e_S) (t0 : Nat) (t1 : Int32) (g : e_G) : Option (e_G) :=
  (e_sI S g 11 t0 21 t1).bind fun g1 =>
  some g1
def J_X11_next_195 (S : e_S) (l0 : Nat) (l2 : Int32) (t0 : Nat) (t1 : Int32) (g : e_G) : Option (e_G) :=
  (e_sI S g 11 t0 20 t1).bind fun g1 =>
  if (3 : Int32) ≤ l2 then
    J_X11_next_211 S l0 (l2 - (3 : Int32)) g1
  else
    J_X11_next_211 S l0 l2 g1
def J_X11_next_146 (S : e_S) (l0 : Nat) (g : e_G) : Option (e_G) :=
  (e_gI S g 11 l0 19).bind fun v1 =>
  (e_gI S g 11 l0 18).bind fun v3 =>
  (f_X11_wordFrom S l0 v1 v3 g).bind fun q6 =>
  if (3 : Int32) ≤ q6.1 then
    if (9 : Int32) ≤ q6.1 then
      if q6.1 = (12 : Int32) then
        J_X11_next_195 S l0 q6.1 l0 (-1 : Int32) q6.2
      else
        J_X11_next_195 S l0 q6.1 l0 (((4 : Int32) + q6.1) - (9 : Int32)) q6.2
    else
      J_X11_next_195 S l0 q6.1 l0 (2 : Int32) q6.2
  else
    J_X11_next_195 S l0 q6.1 l0 (3 : Int32) q6.2
def L_X11_next_103 : Nat → e_S → Nat → e_G → Option (e_G)
  | 0, _, _, _ => none
  | n + 1, S, l0, g =>
  (e_gI S g 11 l0 18).bind fun v1 =>
  (e_gI S g 11 l0 6).bind fun v3 =>
  if v3 ≤ v1 then
    J_X11_next_146 S l0 g
  else
    (e_gR S g 11 l0 5).bind fun v5 =>
    (e_gI S g 11 l0 18).bind fun v7 =>
    (e_aI S g 0 v5 v7).bind fun v9 =>
    (f_X11_in S v9 (97 : Int32) (122 : Int32) g).bind fun q12 =>
    if q12.1 = 0 then
      J_X11_next_146 S l0 q12.2
    else
      (e_gI S q12.2 11 l0 18).bind fun v13 =>
      (e_sI S q12.2 11 l0 18 (v13 + (1 : Int32))).bind fun g15 =>
      L_X11_next_103 n S l0 g15
def J_X11_next_374 (S : e_S) (l0 : Nat) (l1 : Int32) (g : e_G) : Option (e_G) :=
  J_X11_next_379 S l0 l1 (1 : Int32) g
def J_X11_next_290 (c230 : Nat → Int32 → e_G → Option (e_G)) (S : e_S) (l0 : Nat) (l2 : Int32) (t0 : Nat) (t1 : Int32) (g : e_G) : Option (e_G) :=
  (e_sI S g 11 t0 21 t1).bind fun g1 =>
  (e_gI S g1 11 l0 18).bind fun v3 =>
  (e_sI S g1 11 l0 18 (v3 + (1 : Int32))).bind fun g5 =>
  c230 l0 (l2 + (1 : Int32)) g5
def J_X11_next_320 (S : e_S) (t0 : Nat) (t1 : Int32) (g : e_G) : Option (e_G) :=
  (e_sI S g 11 t0 20 t1).bind fun g1 =>
  some g1
def J_X11_next_309 (S : e_S) (l0 : Nat) (l2 : Int32) (g : e_G) : Option (e_G) :=
  if l2 ≤ (4 : Int32) then
    J_X11_next_320 S l0 (1 : Int32) g
  else
    J_X11_next_320 S l0 (-1 : Int32) g
def L_X11_next_230 : Nat → e_S → Nat → Int32 → e_G → Option (e_G)
  | 0, _, _, _, _ => none
  | n + 1, S, l0, l2, g =>
  (e_gI S g 11 l0 18).bind fun v1 =>
  (e_gI S g 11 l0 6).bind fun v3 =>
  if v3 ≤ v1 then
    J_X11_next_309 S l0 l2 g
  else
    (e_gR S g 11 l0 5).bind fun v5 =>
    (e_gI S g 11 l0 18).bind fun v7 =>
    (e_aI S g 0 v5 v7).bind fun v9 =>
    (f_X11_in S v9 (48 : Int32) (57 : Int32) g).bind fun q12 =>
    if q12.1 = 0 then
      J_X11_next_309 S l0 l2 q12.2
    else
      if (4 : Int32) ≤ l2 then
        J_X11_next_290 (L_X11_next_230 n S) S l0 l2 l0 (0 : Int32) q12.2
      else
        (e_gI S q12.2 11 l0 21).bind fun v13 =>
        (e_gR S q12.2 11 l0 5).bind fun v15 =>
        (e_gI S q12.2 11 l0 18).bind fun v17 =>
        (e_aI S q12.2 0 v15 v17).bind fun v19 =>
        J_X11_next_290 (L_X11_next_230 n S) S l0 l2 l0 ((((10 : Int32) * v13) + v19) - (48 : Int32)) q12.2
def J_X11_next_52 (S : e_S) (l0 : Nat) (g : e_G) : Option (e_G) :=
  (e_gI S g 11 l0 18).bind fun v1 =>
  (e_sI S g 11 l0 19 v1).bind fun g3 =>
  (e_sI S g3 11 l0 20 (0 : Int32)).bind fun g5 =>
  (e_sI S g5 11 l0 21 (0 : Int32)).bind fun g7 =>
  (e_gI S g7 11 l0 18).bind fun v9 =>
  (e_gI S g7 11 l0 6).bind fun v11 =>
  if v9 = v11 then
    some g7
  else
    (e_gR S g7 11 l0 5).bind fun v13 =>
    (e_gI S g7 11 l0 18).bind fun v15 =>
    (e_aI S g7 0 v13 v15).bind fun v17 =>
    (f_X11_in S v17 (97 : Int32) (122 : Int32) g7).bind fun q20 =>
    if q20.1 = 0 then
      (f_X11_in S v17 (48 : Int32) (57 : Int32) q20.2).bind fun q22 =>
      if q22.1 = 0 then
        if v17 = (40 : Int32) then
          J_X11_next_374 S l0 v17 q22.2
        else
          if v17 = (41 : Int32) then
            J_X11_next_374 S l0 v17 q22.2
          else
            if v17 = (59 : Int32) then
              J_X11_next_374 S l0 v17 q22.2
            else
              if v17 = (43 : Int32) then
                J_X11_next_374 S l0 v17 q22.2
              else
                if v17 = (45 : Int32) then
                  J_X11_next_374 S l0 v17 q22.2
                else
                  if v17 = (42 : Int32) then
                    J_X11_next_374 S l0 v17 q22.2
                  else
                    if v17 = (60 : Int32) then
                      J_X11_next_374 S l0 v17 q22.2
                    else
                      if v17 = (61 : Int32) then
                        J_X11_next_374 S l0 v17 q22.2
                      else
                        J_X11_next_379 S l0 v17 (0 : Int32) q22.2
      else
        L_X11_next_230 50000 S l0 (0 : Int32) q22.2
    else
      L_X11_next_103 50000 S l0 q20.2
def J_X11_next_39 (c0 : Nat → e_G → Option (e_G)) (S : e_S) (l0 : Nat) (g : e_G) : Option (e_G) :=
  (e_gI S g 11 l0 18).bind fun v1 =>
  (e_sI S g 11 l0 18 (v1 + (1 : Int32))).bind fun g3 =>
  c0 l0 g3
def L_X11_next_0 : Nat → e_S → Nat → e_G → Option (e_G)
  | 0, _, _, _ => none
  | n + 1, S, l0, g =>
  (e_gI S g 11 l0 18).bind fun v1 =>
  (e_gI S g 11 l0 6).bind fun v3 =>
  if v3 ≤ v1 then
    J_X11_next_52 S l0 g
  else
    (e_gR S g 11 l0 5).bind fun v5 =>
    (e_gI S g 11 l0 18).bind fun v7 =>
    (e_aI S g 0 v5 v7).bind fun v9 =>
    if v9 = (32 : Int32) then
      J_X11_next_39 (L_X11_next_0 n S) S l0 g
    else
      (e_gR S g 11 l0 5).bind fun v11 =>
      (e_gI S g 11 l0 18).bind fun v13 =>
      (e_aI S g 0 v11 v13).bind fun v15 =>
      if v15 = (10 : Int32) then
        J_X11_next_39 (L_X11_next_0 n S) S l0 g
      else
        J_X11_next_52 S l0 g
def f_X11_next (S : e_S) (l0 : Nat) (g : e_G) : Option (e_G) :=
  if e_ob S 11 l0 = true then
    L_X11_next_0 50000 S l0 g
  else none
theorem x_J_X11_next_390 {l : Launch} {D : va_G} {S : e_S} {k : e_G} {l0 : Nat} {t0 : Nat} {t1 : Int32} {g : e_G} (hf : J_X11_next_390 S l0 t0 t1 g = some k) : X l D (e_R 2) M_X11_next 0 0 390 [(0, .ref l0)] [.int t1, .ref t0] (S, g) none (S, k) := by
  unfold J_X11_next_390 at hf
  obtain ⟨g1, h2, hf⟩ := ob hf
  refine Y.putI dX11_next_390 fl_X11_108 rfl rfl rfl rfl h2 ?_
  refine X.aload_n dX11_next_393 rfl (j := 0) rfl ?_
  refine X.dup dX11_next_394 rfl ?_
  obtain ⟨v3, h4, hf⟩ := ob hf
  refine Y.getI dX11_next_395 fl_X11_102 rfl h4 ?_
  refine X.iconst dX11_next_398 kI_1 ?_
  refine X.iadd dX11_next_399 ?_
  obtain ⟨g5, h6, hf⟩ := ob hf
  refine Y.putI dX11_next_400 fl_X11_102 rfl rfl rfl rfl h6 ?_
  have e1 := Option.some.inj hf
  subst e1
  exact X.vret dX11_next_403 rfl
theorem x_J_X11_next_379 {l : Launch} {D : va_G} {S : e_S} {k : e_G} {l0 : Nat} {l1 : Int32} {t0 : Int32} {g : e_G} (hf : J_X11_next_379 S l0 l1 t0 g = some k) : X l D (e_R 2) M_X11_next 0 0 379 [(0, .ref l0), (1, .int l1)] [.int t0] (S, g) none (S, k) := by
  unfold J_X11_next_379 at hf
  refine X.istore_n dX11_next_379 rfl (Nat.le_of_ble_eq_true rfl) (lc' := [(2, .int t0), (0, .ref l0), (1, .int l1)]) rfl ?_
  refine X.aload_n dX11_next_380 rfl (j := 1) rfl ?_
  refine X.iload_n dX11_next_381 rfl (j := 0) rfl ?_
  refine X.if_eq dX11_next_382 (tgt := 389) rfl (fun hc => ?_) (fun hc => ?_)
  · rw [if_pos hc] at hf
    refine X.iconst dX11_next_389 kI_m1 ?_
    refine X.sub [1] rfl ?_
    exact x_J_X11_next_390 hf
  · rw [if_neg hc] at hf
    refine X.iload_n dX11_next_385 rfl (j := 2) rfl ?_
    refine X.goto dX11_next_386 (tgt := 390) rfl ?_
    refine X.sub [1] rfl ?_
    exact x_J_X11_next_390 hf
theorem x_J_X11_next_211 {l : Launch} {D : va_G} {S : e_S} {k : e_G} {t0 : Nat} {t1 : Int32} {g : e_G} (hf : J_X11_next_211 S t0 t1 g = some k) : X l D (e_R 2) M_X11_next 0 0 211 [] [.int t1, .ref t0] (S, g) none (S, k) := by
  unfold J_X11_next_211 at hf
  obtain ⟨g1, h2, hf⟩ := ob hf
  refine Y.putI dX11_next_211 fl_X11_111 rfl rfl rfl rfl h2 ?_
  refine X.goto dX11_next_214 (tgt := 403) rfl ?_
  have e1 := Option.some.inj hf
  subst e1
  exact X.vret dX11_next_403 rfl
theorem x_J_X11_next_195 {l : Launch} {D : va_G} {S : e_S} {k : e_G} {l0 : Nat} {l2 : Int32} {t0 : Nat} {t1 : Int32} {g : e_G} (hf : J_X11_next_195 S l0 l2 t0 t1 g = some k) : X l D (e_R 2) M_X11_next 0 0 195 [(0, .ref l0), (2, .int l2)] [.int t1, .ref t0] (S, g) none (S, k) := by
  unfold J_X11_next_195 at hf
  obtain ⟨g1, h2, hf⟩ := ob hf
  refine Y.putI dX11_next_195 fl_X11_108 rfl rfl rfl rfl h2 ?_
  refine X.aload_n dX11_next_198 rfl (j := 0) rfl ?_
  refine X.iload_n dX11_next_199 rfl (j := 1) rfl ?_
  refine X.iconst dX11_next_200 kI_3 ?_
  refine X.icmp_ge dX11_next_201 (tgt := 208) rfl (fun hc => ?_) (fun hc => ?_)
  · rw [if_pos hc] at hf
    refine X.iload_n dX11_next_208 rfl (j := 1) rfl ?_
    refine X.iconst dX11_next_209 kI_3 ?_
    refine X.isub dX11_next_210 ?_
    refine X.sub [] rfl ?_
    exact x_J_X11_next_211 hf
  · rw [if_neg hc] at hf
    refine X.iload_n dX11_next_204 rfl (j := 1) rfl ?_
    refine X.goto dX11_next_205 (tgt := 211) rfl ?_
    refine X.sub [] rfl ?_
    exact x_J_X11_next_211 hf
theorem x_J_X11_next_146 {l : Launch} {D : va_G} {S : e_S} {k : e_G} {l0 : Nat} {g : e_G} (hf : J_X11_next_146 S l0 g = some k) : X l D (e_R 2) M_X11_next 0 0 146 [(0, .ref l0)] [] (S, g) none (S, k) := by
  unfold J_X11_next_146 at hf
  refine X.aload_n dX11_next_146 rfl (j := 0) rfl ?_
  refine X.aload_n dX11_next_147 rfl (j := 0) rfl ?_
  obtain ⟨v1, h2, hf⟩ := ob hf
  refine Y.getI dX11_next_148 fl_X11_105 rfl h2 ?_
  refine X.aload_n dX11_next_151 rfl (j := 0) rfl ?_
  obtain ⟨v3, h4, hf⟩ := ob hf
  refine Y.getI dX11_next_152 fl_X11_102 rfl h4 ?_
  obtain ⟨q6, h5, hf⟩ := ob hf
  refine Y.callV (av := [.int v1, .int v3]) (ci := 11) dX11_next_155 (c_X11_wordFrom (l := l) (D := D) (w := q6.1) (k := q6.2) h5) cw_X11_114 (by decide) rfl mk_X11_wordFrom (o_X11_wordFrom (w := q6.1) (k := q6.2) h5) (e_R_ok (Nat.le_of_ble_eq_true rfl) (Nat.le_of_ble_eq_true rfl)) ⟨rfl, rfl⟩ (by simp [Value.category]) ?_
  refine X.istore_n dX11_next_158 rfl (Nat.le_of_ble_eq_true rfl) (lc' := [(2, .int q6.1), (0, .ref l0)]) rfl ?_
  refine X.aload_n dX11_next_159 rfl (j := 1) rfl ?_
  refine X.iload_n dX11_next_160 rfl (j := 0) rfl ?_
  refine X.iconst dX11_next_161 kI_3 ?_
  refine X.icmp_ge dX11_next_162 (tgt := 169) rfl (fun hc => ?_) (fun hc => ?_)
  · rw [if_pos hc] at hf
    refine X.iload_n dX11_next_169 rfl (j := 0) rfl ?_
    refine X.bipush dX11_next_170 kB_9 ?_
    refine X.icmp_ge dX11_next_172 (tgt := 179) rfl (fun hc => ?_) (fun hc => ?_)
    · rw [if_pos hc] at hf
      refine X.iload_n dX11_next_179 rfl (j := 0) rfl ?_
      refine X.bipush dX11_next_180 kB_12 ?_
      refine X.icmp_ne dX11_next_182 (tgt := 189) rfl (fun hc => ?_) (fun hc => ?_)
      · rw [if_neg hc] at hf
        refine X.iconst dX11_next_189 kI_4 ?_
        refine X.iload_n dX11_next_190 rfl (j := 0) rfl ?_
        refine X.iadd dX11_next_191 ?_
        refine X.bipush dX11_next_192 kB_9 ?_
        refine X.isub dX11_next_194 ?_
        refine X.sub [1, 0] rfl ?_
        exact x_J_X11_next_195 hf
      · rw [if_pos hc] at hf
        refine X.iconst dX11_next_185 kI_m1 ?_
        refine X.goto dX11_next_186 (tgt := 195) rfl ?_
        refine X.sub [1, 0] rfl ?_
        exact x_J_X11_next_195 hf
    · rw [if_neg hc] at hf
      refine X.iconst dX11_next_175 kI_2 ?_
      refine X.goto dX11_next_176 (tgt := 195) rfl ?_
      refine X.sub [1, 0] rfl ?_
      exact x_J_X11_next_195 hf
  · rw [if_neg hc] at hf
    refine X.iconst dX11_next_165 kI_3 ?_
    refine X.goto dX11_next_166 (tgt := 195) rfl ?_
    refine X.sub [1, 0] rfl ?_
    exact x_J_X11_next_195 hf
theorem x_L_X11_next_103 {l : Launch} {D : va_G} {S : e_S} {k : e_G} : ∀ (n : Nat) (l0 : Nat) (g : e_G), L_X11_next_103 n S l0 g = some k → X l D (e_R 2) M_X11_next 0 0 103 [(0, .ref l0)] [] (S, g) none (S, k) := by
  intro n
  induction n with
  | zero =>
    intro l0 g hf
    cases hf
  | succ n ih =>
    intro l0 g hf
    rw [L_X11_next_103] at hf
    refine X.aload_n dX11_next_103 rfl (j := 0) rfl ?_
    obtain ⟨v1, h2, hf⟩ := ob hf
    refine Y.getI dX11_next_104 fl_X11_102 rfl h2 ?_
    refine X.aload_n dX11_next_107 rfl (j := 0) rfl ?_
    obtain ⟨v3, h4, hf⟩ := ob hf
    refine Y.getI dX11_next_108 fl_X11_67 rfl h4 ?_
    refine X.icmp_ge dX11_next_111 (tgt := 146) rfl (fun hc => ?_) (fun hc => ?_)
    · rw [if_pos hc] at hf
      exact x_J_X11_next_146 hf
    · rw [if_neg hc] at hf
      refine X.aload_n dX11_next_114 rfl (j := 0) rfl ?_
      obtain ⟨v5, h6, hf⟩ := ob hf
      refine Y.getR dX11_next_115 fl_X11_19 rfl h6 ?_
      refine X.aload_n dX11_next_118 rfl (j := 0) rfl ?_
      obtain ⟨v7, h8, hf⟩ := ob hf
      refine Y.getI dX11_next_119 fl_X11_102 rfl h8 ?_
      obtain ⟨v9, h10, hf⟩ := ob hf
      refine Y.iald dX11_next_122 h10 ?_
      refine X.bipush dX11_next_123 kB_97 ?_
      refine X.bipush dX11_next_125 kB_122 ?_
      obtain ⟨q12, h11, hf⟩ := ob hf
      refine Y.callS (av := [.int v9, .int (97 : Int32), .int (122 : Int32)]) dX11_next_127 (c_X11_in (l := l) (D := D) (w := q12.1) (k := q12.2) h11) cw_X11_78 mk_X11_in (e_R_ok (Nat.le_of_ble_eq_true rfl) (Nat.le_of_ble_eq_true rfl)) ⟨rfl, rfl⟩ (by simp [Value.category]) ?_
      refine X.if_eq dX11_next_130 (tgt := 146) rfl (fun hc => ?_) (fun hc => ?_)
      · rw [if_pos hc] at hf
        exact x_J_X11_next_146 hf
      · rw [if_neg hc] at hf
        refine X.aload_n dX11_next_133 rfl (j := 0) rfl ?_
        refine X.dup dX11_next_134 rfl ?_
        obtain ⟨v13, h14, hf⟩ := ob hf
        refine Y.getI dX11_next_135 fl_X11_102 rfl h14 ?_
        refine X.iconst dX11_next_138 kI_1 ?_
        refine X.iadd dX11_next_139 ?_
        obtain ⟨g15, h16, hf⟩ := ob hf
        refine Y.putI dX11_next_140 fl_X11_102 rfl rfl rfl rfl h16 ?_
        refine X.goto dX11_next_143 (tgt := 103) rfl ?_
        exact ih _ _ hf
theorem x_J_X11_next_374 {l : Launch} {D : va_G} {S : e_S} {k : e_G} {l0 : Nat} {l1 : Int32} {g : e_G} (hf : J_X11_next_374 S l0 l1 g = some k) : X l D (e_R 2) M_X11_next 0 0 374 [(0, .ref l0), (1, .int l1)] [] (S, g) none (S, k) := by
  unfold J_X11_next_374 at hf
  refine X.iconst dX11_next_374 kI_1 ?_
  refine X.goto dX11_next_375 (tgt := 379) rfl ?_
  exact x_J_X11_next_379 hf
theorem x_J_X11_next_290 {l : Launch} {D : va_G} {S : e_S} {k : e_G} (c230 : Nat → Int32 → e_G → Option (e_G)) (hc230 : ∀ (l0 : Nat) (l2 : Int32) (g : e_G), c230 l0 l2 g = some k → X l D (e_R 2) M_X11_next 0 0 230 [(0, .ref l0), (2, .int l2)] [] (S, g) none (S, k)) {l0 : Nat} {l2 : Int32} {t0 : Nat} {t1 : Int32} {g : e_G} (hf : J_X11_next_290 c230 S l0 l2 t0 t1 g = some k) : X l D (e_R 2) M_X11_next 0 0 290 [(0, .ref l0), (2, .int l2)] [.int t1, .ref t0] (S, g) none (S, k) := by
  unfold J_X11_next_290 at hf
  obtain ⟨g1, h2, hf⟩ := ob hf
  refine Y.putI dX11_next_290 fl_X11_111 rfl rfl rfl rfl h2 ?_
  refine X.iinc (j := 1) dX11_next_293 rfl (v := l2 + (1 : Int32)) (by rw [kI_1]) (Nat.le_of_ble_eq_true rfl) (lc' := [(2, .int (l2 + (1 : Int32))), (0, .ref l0)]) rfl ?_
  refine X.aload_n dX11_next_296 rfl (j := 1) rfl ?_
  refine X.dup dX11_next_297 rfl ?_
  obtain ⟨v3, h4, hf⟩ := ob hf
  refine Y.getI dX11_next_298 fl_X11_102 rfl h4 ?_
  refine X.iconst dX11_next_301 kI_1 ?_
  refine X.iadd dX11_next_302 ?_
  obtain ⟨g5, h6, hf⟩ := ob hf
  refine Y.putI dX11_next_303 fl_X11_102 rfl rfl rfl rfl h6 ?_
  refine X.goto dX11_next_306 (tgt := 230) rfl ?_
  refine X.sub [1, 0] rfl ?_
  exact hc230 _ _ _ hf
theorem x_J_X11_next_320 {l : Launch} {D : va_G} {S : e_S} {k : e_G} {t0 : Nat} {t1 : Int32} {g : e_G} (hf : J_X11_next_320 S t0 t1 g = some k) : X l D (e_R 2) M_X11_next 0 0 320 [] [.int t1, .ref t0] (S, g) none (S, k) := by
  unfold J_X11_next_320 at hf
  obtain ⟨g1, h2, hf⟩ := ob hf
  refine Y.putI dX11_next_320 fl_X11_108 rfl rfl rfl rfl h2 ?_
  refine X.goto dX11_next_323 (tgt := 403) rfl ?_
  have e1 := Option.some.inj hf
  subst e1
  exact X.vret dX11_next_403 rfl
theorem x_J_X11_next_309 {l : Launch} {D : va_G} {S : e_S} {k : e_G} {l0 : Nat} {l2 : Int32} {g : e_G} (hf : J_X11_next_309 S l0 l2 g = some k) : X l D (e_R 2) M_X11_next 0 0 309 [(0, .ref l0), (2, .int l2)] [] (S, g) none (S, k) := by
  unfold J_X11_next_309 at hf
  refine X.aload_n dX11_next_309 rfl (j := 0) rfl ?_
  refine X.iload_n dX11_next_310 rfl (j := 1) rfl ?_
  refine X.iconst dX11_next_311 kI_4 ?_
  refine X.icmp_le dX11_next_312 (tgt := 319) rfl (fun hc => ?_) (fun hc => ?_)
  · rw [if_pos hc] at hf
    refine X.iconst dX11_next_319 kI_1 ?_
    refine X.sub [] rfl ?_
    exact x_J_X11_next_320 hf
  · rw [if_neg hc] at hf
    refine X.iconst dX11_next_315 kI_m1 ?_
    refine X.goto dX11_next_316 (tgt := 320) rfl ?_
    refine X.sub [] rfl ?_
    exact x_J_X11_next_320 hf
theorem x_L_X11_next_230 {l : Launch} {D : va_G} {S : e_S} {k : e_G} : ∀ (n : Nat) (l0 : Nat) (l2 : Int32) (g : e_G), L_X11_next_230 n S l0 l2 g = some k → X l D (e_R 2) M_X11_next 0 0 230 [(0, .ref l0), (2, .int l2)] [] (S, g) none (S, k) := by
  intro n
  induction n with
  | zero =>
    intro l0 l2 g hf
    cases hf
  | succ n ih =>
    intro l0 l2 g hf
    rw [L_X11_next_230] at hf
    refine X.aload_n dX11_next_230 rfl (j := 0) rfl ?_
    obtain ⟨v1, h2, hf⟩ := ob hf
    refine Y.getI dX11_next_231 fl_X11_102 rfl h2 ?_
    refine X.aload_n dX11_next_234 rfl (j := 0) rfl ?_
    obtain ⟨v3, h4, hf⟩ := ob hf
    refine Y.getI dX11_next_235 fl_X11_67 rfl h4 ?_
    refine X.icmp_ge dX11_next_238 (tgt := 309) rfl (fun hc => ?_) (fun hc => ?_)
    · rw [if_pos hc] at hf
      exact x_J_X11_next_309 hf
    · rw [if_neg hc] at hf
      refine X.aload_n dX11_next_241 rfl (j := 0) rfl ?_
      obtain ⟨v5, h6, hf⟩ := ob hf
      refine Y.getR dX11_next_242 fl_X11_19 rfl h6 ?_
      refine X.aload_n dX11_next_245 rfl (j := 0) rfl ?_
      obtain ⟨v7, h8, hf⟩ := ob hf
      refine Y.getI dX11_next_246 fl_X11_102 rfl h8 ?_
      obtain ⟨v9, h10, hf⟩ := ob hf
      refine Y.iald dX11_next_249 h10 ?_
      refine X.bipush dX11_next_250 kB_48 ?_
      refine X.bipush dX11_next_252 kB_57 ?_
      obtain ⟨q12, h11, hf⟩ := ob hf
      refine Y.callS (av := [.int v9, .int (48 : Int32), .int (57 : Int32)]) dX11_next_254 (c_X11_in (l := l) (D := D) (w := q12.1) (k := q12.2) h11) cw_X11_78 mk_X11_in (e_R_ok (Nat.le_of_ble_eq_true rfl) (Nat.le_of_ble_eq_true rfl)) ⟨rfl, rfl⟩ (by simp [Value.category]) ?_
      refine X.if_eq dX11_next_257 (tgt := 309) rfl (fun hc => ?_) (fun hc => ?_)
      · rw [if_pos hc] at hf
        exact x_J_X11_next_309 hf
      · rw [if_neg hc] at hf
        refine X.aload_n dX11_next_260 rfl (j := 0) rfl ?_
        refine X.iload_n dX11_next_261 rfl (j := 1) rfl ?_
        refine X.iconst dX11_next_262 kI_4 ?_
        refine X.icmp_ge dX11_next_263 (tgt := 289) rfl (fun hc => ?_) (fun hc => ?_)
        · rw [if_pos hc] at hf
          refine X.iconst dX11_next_289 kI_0 ?_
          exact x_J_X11_next_290 _ ih hf
        · rw [if_neg hc] at hf
          refine X.bipush dX11_next_266 kB_10 ?_
          refine X.aload_n dX11_next_268 rfl (j := 0) rfl ?_
          obtain ⟨v13, h14, hf⟩ := ob hf
          refine Y.getI dX11_next_269 fl_X11_111 rfl h14 ?_
          refine X.imul dX11_next_272 ?_
          refine X.aload_n dX11_next_273 rfl (j := 0) rfl ?_
          obtain ⟨v15, h16, hf⟩ := ob hf
          refine Y.getR dX11_next_274 fl_X11_19 rfl h16 ?_
          refine X.aload_n dX11_next_277 rfl (j := 0) rfl ?_
          obtain ⟨v17, h18, hf⟩ := ob hf
          refine Y.getI dX11_next_278 fl_X11_102 rfl h18 ?_
          obtain ⟨v19, h20, hf⟩ := ob hf
          refine Y.iald dX11_next_281 h20 ?_
          refine X.iadd dX11_next_282 ?_
          refine X.bipush dX11_next_283 kB_48 ?_
          refine X.isub dX11_next_285 ?_
          refine X.goto dX11_next_286 (tgt := 290) rfl ?_
          exact x_J_X11_next_290 _ ih hf
theorem x_J_X11_next_52 {l : Launch} {D : va_G} {S : e_S} {k : e_G} {l0 : Nat} {g : e_G} (hf : J_X11_next_52 S l0 g = some k) : X l D (e_R 2) M_X11_next 0 0 52 [(0, .ref l0)] [] (S, g) none (S, k) := by
  unfold J_X11_next_52 at hf
  refine X.aload_n dX11_next_52 rfl (j := 0) rfl ?_
  refine X.aload_n dX11_next_53 rfl (j := 0) rfl ?_
  obtain ⟨v1, h2, hf⟩ := ob hf
  refine Y.getI dX11_next_54 fl_X11_102 rfl h2 ?_
  obtain ⟨g3, h4, hf⟩ := ob hf
  refine Y.putI dX11_next_57 fl_X11_105 rfl rfl rfl rfl h4 ?_
  refine X.aload_n dX11_next_60 rfl (j := 0) rfl ?_
  refine X.iconst dX11_next_61 kI_0 ?_
  obtain ⟨g5, h6, hf⟩ := ob hf
  refine Y.putI dX11_next_62 fl_X11_108 rfl rfl rfl rfl h6 ?_
  refine X.aload_n dX11_next_65 rfl (j := 0) rfl ?_
  refine X.iconst dX11_next_66 kI_0 ?_
  obtain ⟨g7, h8, hf⟩ := ob hf
  refine Y.putI dX11_next_67 fl_X11_111 rfl rfl rfl rfl h8 ?_
  refine X.aload_n dX11_next_70 rfl (j := 0) rfl ?_
  obtain ⟨v9, h10, hf⟩ := ob hf
  refine Y.getI dX11_next_71 fl_X11_102 rfl h10 ?_
  refine X.aload_n dX11_next_74 rfl (j := 0) rfl ?_
  obtain ⟨v11, h12, hf⟩ := ob hf
  refine Y.getI dX11_next_75 fl_X11_67 rfl h12 ?_
  refine X.icmp_ne dX11_next_78 (tgt := 82) rfl (fun hc => ?_) (fun hc => ?_)
  · rw [if_neg hc] at hf
    refine X.aload_n dX11_next_82 rfl (j := 0) rfl ?_
    obtain ⟨v13, h14, hf⟩ := ob hf
    refine Y.getR dX11_next_83 fl_X11_19 rfl h14 ?_
    refine X.aload_n dX11_next_86 rfl (j := 0) rfl ?_
    obtain ⟨v15, h16, hf⟩ := ob hf
    refine Y.getI dX11_next_87 fl_X11_102 rfl h16 ?_
    obtain ⟨v17, h18, hf⟩ := ob hf
    refine Y.iald dX11_next_90 h18 ?_
    refine X.istore_n dX11_next_91 rfl (Nat.le_of_ble_eq_true rfl) (lc' := [(1, .int v17), (0, .ref l0)]) rfl ?_
    refine X.iload_n dX11_next_92 rfl (j := 0) rfl ?_
    refine X.bipush dX11_next_93 kB_97 ?_
    refine X.bipush dX11_next_95 kB_122 ?_
    obtain ⟨q20, h19, hf⟩ := ob hf
    refine Y.callS (av := [.int v17, .int (97 : Int32), .int (122 : Int32)]) dX11_next_97 (c_X11_in (l := l) (D := D) (w := q20.1) (k := q20.2) h19) cw_X11_78 mk_X11_in (e_R_ok (Nat.le_of_ble_eq_true rfl) (Nat.le_of_ble_eq_true rfl)) ⟨rfl, rfl⟩ (by simp [Value.category]) ?_
    refine X.if_eq dX11_next_100 (tgt := 217) rfl (fun hc => ?_) (fun hc => ?_)
    · rw [if_pos hc] at hf
      refine X.iload_n dX11_next_217 rfl (j := 0) rfl ?_
      refine X.bipush dX11_next_218 kB_48 ?_
      refine X.bipush dX11_next_220 kB_57 ?_
      obtain ⟨q22, h21, hf⟩ := ob hf
      refine Y.callS (av := [.int v17, .int (48 : Int32), .int (57 : Int32)]) dX11_next_222 (c_X11_in (l := l) (D := D) (w := q22.1) (k := q22.2) h21) cw_X11_78 mk_X11_in (e_R_ok (Nat.le_of_ble_eq_true rfl) (Nat.le_of_ble_eq_true rfl)) ⟨rfl, rfl⟩ (by simp [Value.category]) ?_
      refine X.if_eq dX11_next_225 (tgt := 326) rfl (fun hc => ?_) (fun hc => ?_)
      · rw [if_pos hc] at hf
        refine X.iload_n dX11_next_326 rfl (j := 0) rfl ?_
        refine X.bipush dX11_next_327 kB_40 ?_
        refine X.icmp_eq dX11_next_329 (tgt := 374) rfl (fun hc => ?_) (fun hc => ?_)
        · rw [if_pos hc] at hf
          refine X.sub [1, 0] rfl ?_
          exact x_J_X11_next_374 hf
        · rw [if_neg hc] at hf
          refine X.iload_n dX11_next_332 rfl (j := 0) rfl ?_
          refine X.bipush dX11_next_333 kB_41 ?_
          refine X.icmp_eq dX11_next_335 (tgt := 374) rfl (fun hc => ?_) (fun hc => ?_)
          · rw [if_pos hc] at hf
            refine X.sub [1, 0] rfl ?_
            exact x_J_X11_next_374 hf
          · rw [if_neg hc] at hf
            refine X.iload_n dX11_next_338 rfl (j := 0) rfl ?_
            refine X.bipush dX11_next_339 kB_59 ?_
            refine X.icmp_eq dX11_next_341 (tgt := 374) rfl (fun hc => ?_) (fun hc => ?_)
            · rw [if_pos hc] at hf
              refine X.sub [1, 0] rfl ?_
              exact x_J_X11_next_374 hf
            · rw [if_neg hc] at hf
              refine X.iload_n dX11_next_344 rfl (j := 0) rfl ?_
              refine X.bipush dX11_next_345 kB_43 ?_
              refine X.icmp_eq dX11_next_347 (tgt := 374) rfl (fun hc => ?_) (fun hc => ?_)
              · rw [if_pos hc] at hf
                refine X.sub [1, 0] rfl ?_
                exact x_J_X11_next_374 hf
              · rw [if_neg hc] at hf
                refine X.iload_n dX11_next_350 rfl (j := 0) rfl ?_
                refine X.bipush dX11_next_351 kB_45 ?_
                refine X.icmp_eq dX11_next_353 (tgt := 374) rfl (fun hc => ?_) (fun hc => ?_)
                · rw [if_pos hc] at hf
                  refine X.sub [1, 0] rfl ?_
                  exact x_J_X11_next_374 hf
                · rw [if_neg hc] at hf
                  refine X.iload_n dX11_next_356 rfl (j := 0) rfl ?_
                  refine X.bipush dX11_next_357 kB_42 ?_
                  refine X.icmp_eq dX11_next_359 (tgt := 374) rfl (fun hc => ?_) (fun hc => ?_)
                  · rw [if_pos hc] at hf
                    refine X.sub [1, 0] rfl ?_
                    exact x_J_X11_next_374 hf
                  · rw [if_neg hc] at hf
                    refine X.iload_n dX11_next_362 rfl (j := 0) rfl ?_
                    refine X.bipush dX11_next_363 kB_60 ?_
                    refine X.icmp_eq dX11_next_365 (tgt := 374) rfl (fun hc => ?_) (fun hc => ?_)
                    · rw [if_pos hc] at hf
                      refine X.sub [1, 0] rfl ?_
                      exact x_J_X11_next_374 hf
                    · rw [if_neg hc] at hf
                      refine X.iload_n dX11_next_368 rfl (j := 0) rfl ?_
                      refine X.bipush dX11_next_369 kB_61 ?_
                      refine X.icmp_ne dX11_next_371 (tgt := 378) rfl (fun hc => ?_) (fun hc => ?_)
                      · rw [if_neg hc] at hf
                        refine X.iconst dX11_next_378 kI_0 ?_
                        refine X.sub [1, 0] rfl ?_
                        exact x_J_X11_next_379 hf
                      · rw [if_pos hc] at hf
                        refine X.sub [1, 0] rfl ?_
                        exact x_J_X11_next_374 hf
      · rw [if_neg hc] at hf
        refine X.iconst dX11_next_228 kI_0 ?_
        refine X.istore_n dX11_next_229 rfl (Nat.le_of_ble_eq_true rfl) (lc' := [(2, .int (0 : Int32)), (1, .int v17), (0, .ref l0)]) rfl ?_
        refine X.sub [2, 0] rfl ?_
        exact x_L_X11_next_230 50000 _ _ _ hf
    · rw [if_neg hc] at hf
      refine X.sub [1] rfl ?_
      exact x_L_X11_next_103 50000 _ _ hf
  · rw [if_pos hc] at hf
    have e1 := Option.some.inj hf
    subst e1
    exact X.vret dX11_next_81 rfl
theorem x_J_X11_next_39 {l : Launch} {D : va_G} {S : e_S} {k : e_G} (c0 : Nat → e_G → Option (e_G)) (hc0 : ∀ (l0 : Nat) (g : e_G), c0 l0 g = some k → X l D (e_R 2) M_X11_next 0 0 0 [(0, .ref l0)] [] (S, g) none (S, k)) {l0 : Nat} {g : e_G} (hf : J_X11_next_39 c0 S l0 g = some k) : X l D (e_R 2) M_X11_next 0 0 39 [(0, .ref l0)] [] (S, g) none (S, k) := by
  unfold J_X11_next_39 at hf
  refine X.aload_n dX11_next_39 rfl (j := 0) rfl ?_
  refine X.dup dX11_next_40 rfl ?_
  obtain ⟨v1, h2, hf⟩ := ob hf
  refine Y.getI dX11_next_41 fl_X11_102 rfl h2 ?_
  refine X.iconst dX11_next_44 kI_1 ?_
  refine X.iadd dX11_next_45 ?_
  obtain ⟨g3, h4, hf⟩ := ob hf
  refine Y.putI dX11_next_46 fl_X11_102 rfl rfl rfl rfl h4 ?_
  refine X.goto dX11_next_49 (tgt := 0) rfl ?_
  exact hc0 _ _ hf
theorem x_L_X11_next_0 {l : Launch} {D : va_G} {S : e_S} {k : e_G} : ∀ (n : Nat) (l0 : Nat) (g : e_G), L_X11_next_0 n S l0 g = some k → X l D (e_R 2) M_X11_next 0 0 0 [(0, .ref l0)] [] (S, g) none (S, k) := by
  intro n
  induction n with
  | zero =>
    intro l0 g hf
    cases hf
  | succ n ih =>
    intro l0 g hf
    rw [L_X11_next_0] at hf
    refine X.aload_n dX11_next_0 rfl (j := 0) rfl ?_
    obtain ⟨v1, h2, hf⟩ := ob hf
    refine Y.getI dX11_next_1 fl_X11_102 rfl h2 ?_
    refine X.aload_n dX11_next_4 rfl (j := 0) rfl ?_
    obtain ⟨v3, h4, hf⟩ := ob hf
    refine Y.getI dX11_next_5 fl_X11_67 rfl h4 ?_
    refine X.icmp_ge dX11_next_8 (tgt := 52) rfl (fun hc => ?_) (fun hc => ?_)
    · rw [if_pos hc] at hf
      exact x_J_X11_next_52 hf
    · rw [if_neg hc] at hf
      refine X.aload_n dX11_next_11 rfl (j := 0) rfl ?_
      obtain ⟨v5, h6, hf⟩ := ob hf
      refine Y.getR dX11_next_12 fl_X11_19 rfl h6 ?_
      refine X.aload_n dX11_next_15 rfl (j := 0) rfl ?_
      obtain ⟨v7, h8, hf⟩ := ob hf
      refine Y.getI dX11_next_16 fl_X11_102 rfl h8 ?_
      obtain ⟨v9, h10, hf⟩ := ob hf
      refine Y.iald dX11_next_19 h10 ?_
      refine X.bipush dX11_next_20 kB_32 ?_
      refine X.icmp_eq dX11_next_22 (tgt := 39) rfl (fun hc => ?_) (fun hc => ?_)
      · rw [if_pos hc] at hf
        exact x_J_X11_next_39 _ ih hf
      · rw [if_neg hc] at hf
        refine X.aload_n dX11_next_25 rfl (j := 0) rfl ?_
        obtain ⟨v11, h12, hf⟩ := ob hf
        refine Y.getR dX11_next_26 fl_X11_19 rfl h12 ?_
        refine X.aload_n dX11_next_29 rfl (j := 0) rfl ?_
        obtain ⟨v13, h14, hf⟩ := ob hf
        refine Y.getI dX11_next_30 fl_X11_102 rfl h14 ?_
        obtain ⟨v15, h16, hf⟩ := ob hf
        refine Y.iald dX11_next_33 h16 ?_
        refine X.bipush dX11_next_34 kB_10 ?_
        refine X.icmp_ne dX11_next_36 (tgt := 52) rfl (fun hc => ?_) (fun hc => ?_)
        · rw [if_neg hc] at hf
          exact x_J_X11_next_52 hf
        · rw [if_pos hc] at hf
          exact x_J_X11_next_39 _ ih hf
theorem o_X11_next  {S : e_S} {k : e_G} {l0 : Nat} {g : e_G} (hf : f_X11_next S l0 g = some k) : e_ob S 11 l0 = true := by
  unfold f_X11_next at hf
  by_cases hc : e_ob S 11 l0 = true
  · exact hc
  · rw [if_neg hc] at hf
    cases hf
theorem c_X11_next {l : Launch} {D : va_G}  {S : e_S} {k : e_G} {l0 : Nat} {g : e_G} (hf : f_X11_next S l0 g = some k) : CT l D (e_R 2) M_X11_next [.ref l0] (S, g) none (S, k) := by
  refine CT.of (by decide +kernel) (Nat.le_of_ble_eq_true rfl) ?_
  have ho := o_X11_next hf
  unfold f_X11_next at hf
  rw [if_pos ho] at hf
  show X l D (e_R 2) M_X11_next 0 0 0 [(0, .ref l0)] [] (S, g) none (S, k)
  exact x_L_X11_next_0 50000 _ _ hf
/-! LeanedOutModel.rank(I)I -/
abbrev M_X11_rank : e_M := (yX11_rank, cX11_rank, 1, (some .int))
theorem mk_X11_rank : e_Mok M_X11_rank 1 := ⟨by decide +kernel, by decide +kernel, by decide +kernel⟩
theorem dX11_rank_0 : decode cX11_rank 0 = .ok (.iload_n 0, 1) := by decide +kernel
theorem dX11_rank_1 : decode cX11_rank 1 = .ok (.ifCond .ne 7, 3) := by decide +kernel
theorem dX11_rank_4 : decode cX11_rank 4 = .ok (.iconst 0, 1) := by decide +kernel
theorem dX11_rank_5 : decode cX11_rank 5 = .ok (.goto 66, 3) := by decide +kernel
theorem dX11_rank_8 : decode cX11_rank 8 = .ok (.iload_n 0, 1) := by decide +kernel
theorem dX11_rank_9 : decode cX11_rank 9 = .ok (.bipush 11, 2) := by decide +kernel
theorem dX11_rank_11 : decode cX11_rank 11 = .ok (.if_icmp .ne 7, 3) := by decide +kernel
theorem dX11_rank_14 : decode cX11_rank 14 = .ok (.iconst 1, 1) := by decide +kernel
theorem dX11_rank_15 : decode cX11_rank 15 = .ok (.goto 56, 3) := by decide +kernel
theorem dX11_rank_18 : decode cX11_rank 18 = .ok (.iload_n 0, 1) := by decide +kernel
theorem dX11_rank_19 : decode cX11_rank 19 = .ok (.bipush 12, 2) := by decide +kernel
theorem dX11_rank_21 : decode cX11_rank 21 = .ok (.if_icmp .ne 7, 3) := by decide +kernel
theorem dX11_rank_24 : decode cX11_rank 24 = .ok (.iconst 2, 1) := by decide +kernel
theorem dX11_rank_25 : decode cX11_rank 25 = .ok (.goto 46, 3) := by decide +kernel
theorem dX11_rank_28 : decode cX11_rank 28 = .ok (.iload_n 0, 1) := by decide +kernel
theorem dX11_rank_29 : decode cX11_rank 29 = .ok (.bipush 13, 2) := by decide +kernel
theorem dX11_rank_31 : decode cX11_rank 31 = .ok (.if_icmp .ne 7, 3) := by decide +kernel
theorem dX11_rank_34 : decode cX11_rank 34 = .ok (.iconst 3, 1) := by decide +kernel
theorem dX11_rank_35 : decode cX11_rank 35 = .ok (.goto 36, 3) := by decide +kernel
theorem dX11_rank_38 : decode cX11_rank 38 = .ok (.iload_n 0, 1) := by decide +kernel
theorem dX11_rank_39 : decode cX11_rank 39 = .ok (.bipush 15, 2) := by decide +kernel
theorem dX11_rank_41 : decode cX11_rank 41 = .ok (.if_icmp .gt 7, 3) := by decide +kernel
theorem dX11_rank_44 : decode cX11_rank 44 = .ok (.iconst 4, 1) := by decide +kernel
theorem dX11_rank_45 : decode cX11_rank 45 = .ok (.goto 26, 3) := by decide +kernel
theorem dX11_rank_48 : decode cX11_rank 48 = .ok (.iload_n 0, 1) := by decide +kernel
theorem dX11_rank_49 : decode cX11_rank 49 = .ok (.bipush 17, 2) := by decide +kernel
theorem dX11_rank_51 : decode cX11_rank 51 = .ok (.if_icmp .gt 7, 3) := by decide +kernel
theorem dX11_rank_54 : decode cX11_rank 54 = .ok (.iconst 5, 1) := by decide +kernel
theorem dX11_rank_55 : decode cX11_rank 55 = .ok (.goto 16, 3) := by decide +kernel
theorem dX11_rank_58 : decode cX11_rank 58 = .ok (.iload_n 0, 1) := by decide +kernel
theorem dX11_rank_59 : decode cX11_rank 59 = .ok (.bipush 18, 2) := by decide +kernel
theorem dX11_rank_61 : decode cX11_rank 61 = .ok (.if_icmp .ne 8, 3) := by decide +kernel
theorem dX11_rank_64 : decode cX11_rank 64 = .ok (.bipush 6, 2) := by decide +kernel
theorem dX11_rank_66 : decode cX11_rank 66 = .ok (.goto 5, 3) := by decide +kernel
theorem dX11_rank_69 : decode cX11_rank 69 = .ok (.bipush 7, 2) := by decide +kernel
theorem dX11_rank_71 : decode cX11_rank 71 = .ok (.ireturn, 1) := by decide +kernel
def f_X11_rank (S : e_S) (l0 : Int32) (g : e_G) : Option (Int32 × e_G) :=
  if l0 = 0 then
    some ((0 : Int32), g)
  else
    if l0 = (11 : Int32) then
      some ((1 : Int32), g)
    else
      if l0 = (12 : Int32) then
        some ((2 : Int32), g)
      else
        if l0 = (13 : Int32) then
          some ((3 : Int32), g)
        else
          if (15 : Int32) < l0 then
            if (17 : Int32) < l0 then
              if l0 = (18 : Int32) then
                some ((6 : Int32), g)
              else
                some ((7 : Int32), g)
            else
              some ((5 : Int32), g)
          else
            some ((4 : Int32), g)
theorem c_X11_rank {l : Launch} {D : va_G}  {S : e_S} {w : Int32} {k : e_G} {l0 : Int32} {g : e_G} (hf : f_X11_rank S l0 g = some (w, k)) : CT l D (e_R 1) M_X11_rank [.int l0] (S, g) (some (.int w)) (S, k) := by
  refine CT.of (by decide +kernel) (Nat.le_of_ble_eq_true rfl) ?_
  unfold f_X11_rank at hf
  show X l D (e_R 1) M_X11_rank 0 0 0 [(0, .int l0)] [] (S, g) (some (.int w)) (S, k)
  refine X.iload_n dX11_rank_0 rfl (j := 0) rfl ?_
  refine X.if_ne dX11_rank_1 (tgt := 8) rfl (fun hc => ?_) (fun hc => ?_)
  · rw [if_neg hc] at hf
    refine X.iload_n dX11_rank_8 rfl (j := 0) rfl ?_
    refine X.bipush dX11_rank_9 kB_11 ?_
    refine X.icmp_ne dX11_rank_11 (tgt := 18) rfl (fun hc => ?_) (fun hc => ?_)
    · rw [if_neg hc] at hf
      refine X.iload_n dX11_rank_18 rfl (j := 0) rfl ?_
      refine X.bipush dX11_rank_19 kB_12 ?_
      refine X.icmp_ne dX11_rank_21 (tgt := 28) rfl (fun hc => ?_) (fun hc => ?_)
      · rw [if_neg hc] at hf
        refine X.iload_n dX11_rank_28 rfl (j := 0) rfl ?_
        refine X.bipush dX11_rank_29 kB_13 ?_
        refine X.icmp_ne dX11_rank_31 (tgt := 38) rfl (fun hc => ?_) (fun hc => ?_)
        · rw [if_neg hc] at hf
          refine X.iload_n dX11_rank_38 rfl (j := 0) rfl ?_
          refine X.bipush dX11_rank_39 kB_15 ?_
          refine X.icmp_gt dX11_rank_41 (tgt := 48) rfl (fun hc => ?_) (fun hc => ?_)
          · rw [if_pos hc] at hf
            refine X.iload_n dX11_rank_48 rfl (j := 0) rfl ?_
            refine X.bipush dX11_rank_49 kB_17 ?_
            refine X.icmp_gt dX11_rank_51 (tgt := 58) rfl (fun hc => ?_) (fun hc => ?_)
            · rw [if_pos hc] at hf
              refine X.iload_n dX11_rank_58 rfl (j := 0) rfl ?_
              refine X.bipush dX11_rank_59 kB_18 ?_
              refine X.icmp_ne dX11_rank_61 (tgt := 69) rfl (fun hc => ?_) (fun hc => ?_)
              · rw [if_neg hc] at hf
                refine X.bipush dX11_rank_69 kB_7 ?_
                obtain ⟨e1, e2⟩ := e_ret hf
                subst e1
                subst e2
                exact X.iret dX11_rank_71 rfl rfl
              · rw [if_pos hc] at hf
                refine X.bipush dX11_rank_64 kB_6 ?_
                refine X.goto dX11_rank_66 (tgt := 71) rfl ?_
                obtain ⟨e1, e2⟩ := e_ret hf
                subst e1
                subst e2
                exact X.iret dX11_rank_71 rfl rfl
            · rw [if_neg hc] at hf
              refine X.iconst dX11_rank_54 kI_5 ?_
              refine X.goto dX11_rank_55 (tgt := 71) rfl ?_
              obtain ⟨e1, e2⟩ := e_ret hf
              subst e1
              subst e2
              exact X.iret dX11_rank_71 rfl rfl
          · rw [if_neg hc] at hf
            refine X.iconst dX11_rank_44 kI_4 ?_
            refine X.goto dX11_rank_45 (tgt := 71) rfl ?_
            obtain ⟨e1, e2⟩ := e_ret hf
            subst e1
            subst e2
            exact X.iret dX11_rank_71 rfl rfl
        · rw [if_pos hc] at hf
          refine X.iconst dX11_rank_34 kI_3 ?_
          refine X.goto dX11_rank_35 (tgt := 71) rfl ?_
          obtain ⟨e1, e2⟩ := e_ret hf
          subst e1
          subst e2
          exact X.iret dX11_rank_71 rfl rfl
      · rw [if_pos hc] at hf
        refine X.iconst dX11_rank_24 kI_2 ?_
        refine X.goto dX11_rank_25 (tgt := 71) rfl ?_
        obtain ⟨e1, e2⟩ := e_ret hf
        subst e1
        subst e2
        exact X.iret dX11_rank_71 rfl rfl
    · rw [if_pos hc] at hf
      refine X.iconst dX11_rank_14 kI_1 ?_
      refine X.goto dX11_rank_15 (tgt := 71) rfl ?_
      obtain ⟨e1, e2⟩ := e_ret hf
      subst e1
      subst e2
      exact X.iret dX11_rank_71 rfl rfl
  · rw [if_pos hc] at hf
    refine X.iconst dX11_rank_4 kI_0 ?_
    refine X.goto dX11_rank_5 (tgt := 71) rfl ?_
    obtain ⟨e1, e2⟩ := e_ret hf
    subst e1
    subst e2
    exact X.iret dX11_rank_71 rfl rfl
/-! LeanedOutModel.puts(I)V -/
abbrev M_X11_puts : e_M := (yX11_puts, cX11_puts, 2, none)
theorem mk_X11_puts : e_Mok M_X11_puts 1 := ⟨by decide +kernel, by decide +kernel, by decide +kernel⟩
theorem dX11_puts_0 : decode cX11_puts 0 = .ok (.aload_n 0, 1) := by decide +kernel
theorem dX11_puts_1 : decode cX11_puts 1 = .ok (.getfield 22, 3) := by decide +kernel
theorem dX11_puts_4 : decode cX11_puts 4 = .ok (.sipush 200, 3) := by decide +kernel
theorem dX11_puts_7 : decode cX11_puts 7 = .ok (.aload_n 0, 1) := by decide +kernel
theorem dX11_puts_8 : decode cX11_puts 8 = .ok (.getfield 92, 3) := by decide +kernel
theorem dX11_puts_11 : decode cX11_puts 11 = .ok (.imul, 1) := by decide +kernel
theorem dX11_puts_12 : decode cX11_puts 12 = .ok (.aload_n 0, 1) := by decide +kernel
theorem dX11_puts_13 : decode cX11_puts 13 = .ok (.getfield 118, 3) := by decide +kernel
theorem dX11_puts_16 : decode cX11_puts 16 = .ok (.iadd, 1) := by decide +kernel
theorem dX11_puts_17 : decode cX11_puts 17 = .ok (.iload_n 1, 1) := by decide +kernel
theorem dX11_puts_18 : decode cX11_puts 18 = .ok (.iastore, 1) := by decide +kernel
theorem dX11_puts_19 : decode cX11_puts 19 = .ok (.aload_n 0, 1) := by decide +kernel
theorem dX11_puts_20 : decode cX11_puts 20 = .ok (.dup, 1) := by decide +kernel
theorem dX11_puts_21 : decode cX11_puts 21 = .ok (.getfield 118, 3) := by decide +kernel
theorem dX11_puts_24 : decode cX11_puts 24 = .ok (.iconst 1, 1) := by decide +kernel
theorem dX11_puts_25 : decode cX11_puts 25 = .ok (.iadd, 1) := by decide +kernel
theorem dX11_puts_26 : decode cX11_puts 26 = .ok (.putfield 118, 3) := by decide +kernel
theorem dX11_puts_29 : decode cX11_puts 29 = .ok (.return_, 1) := by decide +kernel
def f_X11_puts (S : e_S) (l0 : Nat) (l1 : Int32) (g : e_G) : Option (e_G) :=
  if e_ob S 11 l0 = true then
    (e_gR S g 11 l0 7).bind fun v1 =>
    (e_gI S g 11 l0 9).bind fun v3 =>
    (e_gI S g 11 l0 26).bind fun v5 =>
    (e_aS S g 0 v1 (((200 : Int32) * v3) + v5) l1).bind fun g7 =>
    (e_gI S g7 11 l0 26).bind fun v9 =>
    (e_sI S g7 11 l0 26 (v9 + (1 : Int32))).bind fun g11 =>
    some g11
  else none
theorem o_X11_puts  {S : e_S} {k : e_G} {l0 : Nat} {l1 : Int32} {g : e_G} (hf : f_X11_puts S l0 l1 g = some k) : e_ob S 11 l0 = true := by
  unfold f_X11_puts at hf
  by_cases hc : e_ob S 11 l0 = true
  · exact hc
  · rw [if_neg hc] at hf
    cases hf
theorem c_X11_puts {l : Launch} {D : va_G}  {S : e_S} {k : e_G} {l0 : Nat} {l1 : Int32} {g : e_G} (hf : f_X11_puts S l0 l1 g = some k) : CT l D (e_R 1) M_X11_puts [.ref l0, .int l1] (S, g) none (S, k) := by
  refine CT.of (by decide +kernel) (Nat.le_of_ble_eq_true rfl) ?_
  have ho := o_X11_puts hf
  unfold f_X11_puts at hf
  rw [if_pos ho] at hf
  show X l D (e_R 1) M_X11_puts 0 0 0 [(0, .ref l0), (1, .int l1)] [] (S, g) none (S, k)
  refine X.aload_n dX11_puts_0 rfl (j := 0) rfl ?_
  obtain ⟨v1, h2, hf⟩ := ob hf
  refine Y.getR dX11_puts_1 fl_X11_22 rfl h2 ?_
  refine X.sipush dX11_puts_4 kS_200 ?_
  refine X.aload_n dX11_puts_7 rfl (j := 0) rfl ?_
  obtain ⟨v3, h4, hf⟩ := ob hf
  refine Y.getI dX11_puts_8 fl_X11_92 rfl h4 ?_
  refine X.imul dX11_puts_11 ?_
  refine X.aload_n dX11_puts_12 rfl (j := 0) rfl ?_
  obtain ⟨v5, h6, hf⟩ := ob hf
  refine Y.getI dX11_puts_13 fl_X11_118 rfl h6 ?_
  refine X.iadd dX11_puts_16 ?_
  refine X.iload_n dX11_puts_17 rfl (j := 1) rfl ?_
  obtain ⟨g7, h8, hf⟩ := ob hf
  refine Y.iast dX11_puts_18 h8 ?_
  refine X.aload_n dX11_puts_19 rfl (j := 0) rfl ?_
  refine X.dup dX11_puts_20 rfl ?_
  obtain ⟨v9, h10, hf⟩ := ob hf
  refine Y.getI dX11_puts_21 fl_X11_118 rfl h10 ?_
  refine X.iconst dX11_puts_24 kI_1 ?_
  refine X.iadd dX11_puts_25 ?_
  obtain ⟨g11, h12, hf⟩ := ob hf
  refine Y.putI dX11_puts_26 fl_X11_118 rfl rfl rfl rfl h12 ?_
  have e1 := Option.some.inj hf
  subst e1
  exact X.vret dX11_puts_29 rfl
/-! LeanedOutModel.unwinds(I)V -/
abbrev M_X11_unwinds : e_M := (yX11_unwinds, cX11_unwinds, 3, none)
theorem mk_X11_unwinds : e_Mok M_X11_unwinds 1 := ⟨by decide +kernel, by decide +kernel, by decide +kernel⟩
theorem dX11_unwinds_0 : decode cX11_unwinds 0 = .ok (.aload_n 0, 1) := by decide +kernel
theorem dX11_unwinds_1 : decode cX11_unwinds 1 = .ok (.getfield 121, 3) := by decide +kernel
theorem dX11_unwinds_4 : decode cX11_unwinds 4 = .ok (.ifCond .le 75, 3) := by decide +kernel
theorem dX11_unwinds_7 : decode cX11_unwinds 7 = .ok (.aload_n 0, 1) := by decide +kernel
theorem dX11_unwinds_8 : decode cX11_unwinds 8 = .ok (.getfield 49, 3) := by decide +kernel
theorem dX11_unwinds_11 : decode cX11_unwinds 11 = .ok (.aload_n 0, 1) := by decide +kernel
theorem dX11_unwinds_12 : decode cX11_unwinds 12 = .ok (.getfield 121, 3) := by decide +kernel
theorem dX11_unwinds_15 : decode cX11_unwinds 15 = .ok (.iconst 1, 1) := by decide +kernel
theorem dX11_unwinds_16 : decode cX11_unwinds 16 = .ok (.isub, 1) := by decide +kernel
theorem dX11_unwinds_17 : decode cX11_unwinds 17 = .ok (.iaload, 1) := by decide +kernel
theorem dX11_unwinds_18 : decode cX11_unwinds 18 = .ok (.invokestatic 124, 3) := by decide +kernel
theorem dX11_unwinds_21 : decode cX11_unwinds 21 = .ok (.iload_n 1, 1) := by decide +kernel
theorem dX11_unwinds_22 : decode cX11_unwinds 22 = .ok (.if_icmp .lt 57, 3) := by decide +kernel
theorem dX11_unwinds_25 : decode cX11_unwinds 25 = .ok (.aload_n 0, 1) := by decide +kernel
theorem dX11_unwinds_26 : decode cX11_unwinds 26 = .ok (.dup, 1) := by decide +kernel
theorem dX11_unwinds_27 : decode cX11_unwinds 27 = .ok (.getfield 121, 3) := by decide +kernel
theorem dX11_unwinds_30 : decode cX11_unwinds 30 = .ok (.iconst 1, 1) := by decide +kernel
theorem dX11_unwinds_31 : decode cX11_unwinds 31 = .ok (.isub, 1) := by decide +kernel
theorem dX11_unwinds_32 : decode cX11_unwinds 32 = .ok (.putfield 121, 3) := by decide +kernel
theorem dX11_unwinds_35 : decode cX11_unwinds 35 = .ok (.aload_n 0, 1) := by decide +kernel
theorem dX11_unwinds_36 : decode cX11_unwinds 36 = .ok (.getfield 49, 3) := by decide +kernel
theorem dX11_unwinds_39 : decode cX11_unwinds 39 = .ok (.aload_n 0, 1) := by decide +kernel
theorem dX11_unwinds_40 : decode cX11_unwinds 40 = .ok (.getfield 121, 3) := by decide +kernel
theorem dX11_unwinds_43 : decode cX11_unwinds 43 = .ok (.iaload, 1) := by decide +kernel
theorem dX11_unwinds_44 : decode cX11_unwinds 44 = .ok (.istore_n 2, 1) := by decide +kernel
theorem dX11_unwinds_45 : decode cX11_unwinds 45 = .ok (.aload_n 0, 1) := by decide +kernel
theorem dX11_unwinds_46 : decode cX11_unwinds 46 = .ok (.dup, 1) := by decide +kernel
theorem dX11_unwinds_47 : decode cX11_unwinds 47 = .ok (.getfield 127, 3) := by decide +kernel
theorem dX11_unwinds_50 : decode cX11_unwinds 50 = .ok (.iload_n 2, 1) := by decide +kernel
theorem dX11_unwinds_51 : decode cX11_unwinds 51 = .ok (.bipush 13, 2) := by decide +kernel
theorem dX11_unwinds_53 : decode cX11_unwinds 53 = .ok (.if_icmp .eq 9, 3) := by decide +kernel
theorem dX11_unwinds_56 : decode cX11_unwinds 56 = .ok (.iload_n 2, 1) := by decide +kernel
theorem dX11_unwinds_57 : decode cX11_unwinds 57 = .ok (.bipush 19, 2) := by decide +kernel
theorem dX11_unwinds_59 : decode cX11_unwinds 59 = .ok (.if_icmp .ne 7, 3) := by decide +kernel
theorem dX11_unwinds_62 : decode cX11_unwinds 62 = .ok (.iconst 1, 1) := by decide +kernel
theorem dX11_unwinds_63 : decode cX11_unwinds 63 = .ok (.goto 4, 3) := by decide +kernel
theorem dX11_unwinds_66 : decode cX11_unwinds 66 = .ok (.iconst 0, 1) := by decide +kernel
theorem dX11_unwinds_67 : decode cX11_unwinds 67 = .ok (.isub, 1) := by decide +kernel
theorem dX11_unwinds_68 : decode cX11_unwinds 68 = .ok (.putfield 127, 3) := by decide +kernel
theorem dX11_unwinds_71 : decode cX11_unwinds 71 = .ok (.aload_n 0, 1) := by decide +kernel
theorem dX11_unwinds_72 : decode cX11_unwinds 72 = .ok (.iload_n 2, 1) := by decide +kernel
theorem dX11_unwinds_73 : decode cX11_unwinds 73 = .ok (.invokevirtual 130, 3) := by decide +kernel
theorem dX11_unwinds_76 : decode cX11_unwinds 76 = .ok (.goto (-76), 3) := by decide +kernel
theorem dX11_unwinds_79 : decode cX11_unwinds 79 = .ok (.return_, 1) := by decide +kernel
def J_X11_unwinds_67 (c0 : Nat → Int32 → e_G → Option (e_G)) (S : e_S) (l0 : Nat) (l1 : Int32) (l2 : Int32) (t0 : Nat) (t1 : Int32) (t2 : Int32) (g : e_G) : Option (e_G) :=
  (e_sI S g 11 t0 25 (t1 - t2)).bind fun g1 =>
  (f_X11_puts S l0 l2 g1).bind fun q4 =>
  c0 l0 l1 q4
def J_X11_unwinds_62 (c0 : Nat → Int32 → e_G → Option (e_G)) (S : e_S) (l0 : Nat) (l1 : Int32) (l2 : Int32) (t0 : Nat) (t1 : Int32) (g : e_G) : Option (e_G) :=
  J_X11_unwinds_67 c0 S l0 l1 l2 t0 t1 (1 : Int32) g
def L_X11_unwinds_0 : Nat → e_S → Nat → Int32 → e_G → Option (e_G)
  | 0, _, _, _, _ => none
  | n + 1, S, l0, l1, g =>
  (e_gI S g 11 l0 24).bind fun v1 =>
  if v1 ≤ 0 then
    some g
  else
    (e_gR S g 11 l0 23).bind fun v3 =>
    (e_gI S g 11 l0 24).bind fun v5 =>
    (e_aI S g 0 v3 (v5 - (1 : Int32))).bind fun v7 =>
    (f_X11_rank S v7 g).bind fun q10 =>
    if q10.1 < l1 then
      some q10.2
    else
      (e_gI S q10.2 11 l0 24).bind fun v11 =>
      (e_sI S q10.2 11 l0 24 (v11 - (1 : Int32))).bind fun g13 =>
      (e_gR S g13 11 l0 23).bind fun v15 =>
      (e_gI S g13 11 l0 24).bind fun v17 =>
      (e_aI S g13 0 v15 v17).bind fun v19 =>
      (e_gI S g13 11 l0 25).bind fun v21 =>
      if v19 = (13 : Int32) then
        J_X11_unwinds_62 (L_X11_unwinds_0 n S) S l0 l1 v19 l0 v21 g13
      else
        if v19 = (19 : Int32) then
          J_X11_unwinds_62 (L_X11_unwinds_0 n S) S l0 l1 v19 l0 v21 g13
        else
          J_X11_unwinds_67 (L_X11_unwinds_0 n S) S l0 l1 v19 l0 v21 (0 : Int32) g13
def f_X11_unwinds (S : e_S) (l0 : Nat) (l1 : Int32) (g : e_G) : Option (e_G) :=
  if e_ob S 11 l0 = true then
    L_X11_unwinds_0 50000 S l0 l1 g
  else none
theorem x_J_X11_unwinds_67 {l : Launch} {D : va_G} {S : e_S} {k : e_G} (c0 : Nat → Int32 → e_G → Option (e_G)) (hc0 : ∀ (l0 : Nat) (l1 : Int32) (g : e_G), c0 l0 l1 g = some k → X l D (e_R 2) M_X11_unwinds 0 0 0 [(0, .ref l0), (1, .int l1)] [] (S, g) none (S, k)) {l0 : Nat} {l1 : Int32} {l2 : Int32} {t0 : Nat} {t1 : Int32} {t2 : Int32} {g : e_G} (hf : J_X11_unwinds_67 c0 S l0 l1 l2 t0 t1 t2 g = some k) : X l D (e_R 2) M_X11_unwinds 0 0 67 [(0, .ref l0), (1, .int l1), (2, .int l2)] [.int t2, .int t1, .ref t0] (S, g) none (S, k) := by
  unfold J_X11_unwinds_67 at hf
  refine X.isub dX11_unwinds_67 ?_
  obtain ⟨g1, h2, hf⟩ := ob hf
  refine Y.putI dX11_unwinds_68 fl_X11_127 rfl rfl rfl rfl h2 ?_
  refine X.aload_n dX11_unwinds_71 rfl (j := 0) rfl ?_
  refine X.iload_n dX11_unwinds_72 rfl (j := 2) rfl ?_
  obtain ⟨q4, h3, hf⟩ := ob hf
  refine Y.callV (av := [.int l2]) (ci := 11) dX11_unwinds_73 (c_X11_puts (l := l) (D := D) h3) cw_X11_130 (by decide) rfl mk_X11_puts (o_X11_puts (k := q4) h3) (e_R_ok (Nat.le_of_ble_eq_true rfl) (Nat.le_of_ble_eq_true rfl)) ⟨rfl, rfl⟩ (by simp [Value.category]) ?_
  refine X.goto dX11_unwinds_76 (tgt := 0) rfl ?_
  refine X.sub [0, 1] rfl ?_
  exact hc0 _ _ _ hf
theorem x_J_X11_unwinds_62 {l : Launch} {D : va_G} {S : e_S} {k : e_G} (c0 : Nat → Int32 → e_G → Option (e_G)) (hc0 : ∀ (l0 : Nat) (l1 : Int32) (g : e_G), c0 l0 l1 g = some k → X l D (e_R 2) M_X11_unwinds 0 0 0 [(0, .ref l0), (1, .int l1)] [] (S, g) none (S, k)) {l0 : Nat} {l1 : Int32} {l2 : Int32} {t0 : Nat} {t1 : Int32} {g : e_G} (hf : J_X11_unwinds_62 c0 S l0 l1 l2 t0 t1 g = some k) : X l D (e_R 2) M_X11_unwinds 0 0 62 [(0, .ref l0), (1, .int l1), (2, .int l2)] [.int t1, .ref t0] (S, g) none (S, k) := by
  unfold J_X11_unwinds_62 at hf
  refine X.iconst dX11_unwinds_62 kI_1 ?_
  refine X.goto dX11_unwinds_63 (tgt := 67) rfl ?_
  exact x_J_X11_unwinds_67 _ hc0 hf
theorem x_L_X11_unwinds_0 {l : Launch} {D : va_G} {S : e_S} {k : e_G} : ∀ (n : Nat) (l0 : Nat) (l1 : Int32) (g : e_G), L_X11_unwinds_0 n S l0 l1 g = some k → X l D (e_R 2) M_X11_unwinds 0 0 0 [(0, .ref l0), (1, .int l1)] [] (S, g) none (S, k) := by
  intro n
  induction n with
  | zero =>
    intro l0 l1 g hf
    cases hf
  | succ n ih =>
    intro l0 l1 g hf
    rw [L_X11_unwinds_0] at hf
    refine X.aload_n dX11_unwinds_0 rfl (j := 0) rfl ?_
    obtain ⟨v1, h2, hf⟩ := ob hf
    refine Y.getI dX11_unwinds_1 fl_X11_121 rfl h2 ?_
    refine X.if_le dX11_unwinds_4 (tgt := 79) rfl (fun hc => ?_) (fun hc => ?_)
    · rw [if_pos hc] at hf
      have e1 := Option.some.inj hf
      subst e1
      exact X.vret dX11_unwinds_79 rfl
    · rw [if_neg hc] at hf
      refine X.aload_n dX11_unwinds_7 rfl (j := 0) rfl ?_
      obtain ⟨v3, h4, hf⟩ := ob hf
      refine Y.getR dX11_unwinds_8 fl_X11_49 rfl h4 ?_
      refine X.aload_n dX11_unwinds_11 rfl (j := 0) rfl ?_
      obtain ⟨v5, h6, hf⟩ := ob hf
      refine Y.getI dX11_unwinds_12 fl_X11_121 rfl h6 ?_
      refine X.iconst dX11_unwinds_15 kI_1 ?_
      refine X.isub dX11_unwinds_16 ?_
      obtain ⟨v7, h8, hf⟩ := ob hf
      refine Y.iald dX11_unwinds_17 h8 ?_
      obtain ⟨q10, h9, hf⟩ := ob hf
      refine Y.callS (av := [.int v7]) dX11_unwinds_18 (c_X11_rank (l := l) (D := D) (w := q10.1) (k := q10.2) h9) cw_X11_124 mk_X11_rank (e_R_ok (Nat.le_of_ble_eq_true rfl) (Nat.le_of_ble_eq_true rfl)) ⟨rfl, rfl⟩ (by simp [Value.category]) ?_
      refine X.iload_n dX11_unwinds_21 rfl (j := 1) rfl ?_
      refine X.icmp_lt dX11_unwinds_22 (tgt := 79) rfl (fun hc => ?_) (fun hc => ?_)
      · rw [if_pos hc] at hf
        have e1 := Option.some.inj hf
        subst e1
        exact X.vret dX11_unwinds_79 rfl
      · rw [if_neg hc] at hf
        refine X.aload_n dX11_unwinds_25 rfl (j := 0) rfl ?_
        refine X.dup dX11_unwinds_26 rfl ?_
        obtain ⟨v11, h12, hf⟩ := ob hf
        refine Y.getI dX11_unwinds_27 fl_X11_121 rfl h12 ?_
        refine X.iconst dX11_unwinds_30 kI_1 ?_
        refine X.isub dX11_unwinds_31 ?_
        obtain ⟨g13, h14, hf⟩ := ob hf
        refine Y.putI dX11_unwinds_32 fl_X11_121 rfl rfl rfl rfl h14 ?_
        refine X.aload_n dX11_unwinds_35 rfl (j := 0) rfl ?_
        obtain ⟨v15, h16, hf⟩ := ob hf
        refine Y.getR dX11_unwinds_36 fl_X11_49 rfl h16 ?_
        refine X.aload_n dX11_unwinds_39 rfl (j := 0) rfl ?_
        obtain ⟨v17, h18, hf⟩ := ob hf
        refine Y.getI dX11_unwinds_40 fl_X11_121 rfl h18 ?_
        obtain ⟨v19, h20, hf⟩ := ob hf
        refine Y.iald dX11_unwinds_43 h20 ?_
        refine X.istore_n dX11_unwinds_44 rfl (Nat.le_of_ble_eq_true rfl) (lc' := [(2, .int v19), (0, .ref l0), (1, .int l1)]) rfl ?_
        refine X.aload_n dX11_unwinds_45 rfl (j := 1) rfl ?_
        refine X.dup dX11_unwinds_46 rfl ?_
        obtain ⟨v21, h22, hf⟩ := ob hf
        refine Y.getI dX11_unwinds_47 fl_X11_127 rfl h22 ?_
        refine X.iload_n dX11_unwinds_50 rfl (j := 0) rfl ?_
        refine X.bipush dX11_unwinds_51 kB_13 ?_
        refine X.icmp_eq dX11_unwinds_53 (tgt := 62) rfl (fun hc => ?_) (fun hc => ?_)
        · rw [if_pos hc] at hf
          refine X.sub [1, 2, 0] rfl ?_
          exact x_J_X11_unwinds_62 _ ih hf
        · rw [if_neg hc] at hf
          refine X.iload_n dX11_unwinds_56 rfl (j := 0) rfl ?_
          refine X.bipush dX11_unwinds_57 kB_19 ?_
          refine X.icmp_ne dX11_unwinds_59 (tgt := 66) rfl (fun hc => ?_) (fun hc => ?_)
          · rw [if_neg hc] at hf
            refine X.iconst dX11_unwinds_66 kI_0 ?_
            refine X.sub [1, 2, 0] rfl ?_
            exact x_J_X11_unwinds_67 _ ih hf
          · rw [if_pos hc] at hf
            refine X.sub [1, 2, 0] rfl ?_
            exact x_J_X11_unwinds_62 _ ih hf
theorem o_X11_unwinds  {S : e_S} {k : e_G} {l0 : Nat} {l1 : Int32} {g : e_G} (hf : f_X11_unwinds S l0 l1 g = some k) : e_ob S 11 l0 = true := by
  unfold f_X11_unwinds at hf
  by_cases hc : e_ob S 11 l0 = true
  · exact hc
  · rw [if_neg hc] at hf
    cases hf
theorem c_X11_unwinds {l : Launch} {D : va_G}  {S : e_S} {k : e_G} {l0 : Nat} {l1 : Int32} {g : e_G} (hf : f_X11_unwinds S l0 l1 g = some k) : CT l D (e_R 2) M_X11_unwinds [.ref l0, .int l1] (S, g) none (S, k) := by
  refine CT.of (by decide +kernel) (Nat.le_of_ble_eq_true rfl) ?_
  have ho := o_X11_unwinds hf
  unfold f_X11_unwinds at hf
  rw [if_pos ho] at hf
  show X l D (e_R 2) M_X11_unwinds 0 0 0 [(0, .ref l0), (1, .int l1)] [] (S, g) none (S, k)
  exact x_L_X11_unwinds_0 50000 _ _ _ hf
/-! LeanedOutModel.holds(I)V -/
abbrev M_X11_holds : e_M := (yX11_holds, cX11_holds, 2, none)
theorem mk_X11_holds : e_Mok M_X11_holds 1 := ⟨by decide +kernel, by decide +kernel, by decide +kernel⟩
theorem dX11_holds_0 : decode cX11_holds 0 = .ok (.aload_n 0, 1) := by decide +kernel
theorem dX11_holds_1 : decode cX11_holds 1 = .ok (.getfield 49, 3) := by decide +kernel
theorem dX11_holds_4 : decode cX11_holds 4 = .ok (.aload_n 0, 1) := by decide +kernel
theorem dX11_holds_5 : decode cX11_holds 5 = .ok (.getfield 121, 3) := by decide +kernel
theorem dX11_holds_8 : decode cX11_holds 8 = .ok (.iload_n 1, 1) := by decide +kernel
theorem dX11_holds_9 : decode cX11_holds 9 = .ok (.iastore, 1) := by decide +kernel
theorem dX11_holds_10 : decode cX11_holds 10 = .ok (.aload_n 0, 1) := by decide +kernel
theorem dX11_holds_11 : decode cX11_holds 11 = .ok (.dup, 1) := by decide +kernel
theorem dX11_holds_12 : decode cX11_holds 12 = .ok (.getfield 121, 3) := by decide +kernel
theorem dX11_holds_15 : decode cX11_holds 15 = .ok (.iconst 1, 1) := by decide +kernel
theorem dX11_holds_16 : decode cX11_holds 16 = .ok (.iadd, 1) := by decide +kernel
theorem dX11_holds_17 : decode cX11_holds 17 = .ok (.putfield 121, 3) := by decide +kernel
theorem dX11_holds_20 : decode cX11_holds 20 = .ok (.return_, 1) := by decide +kernel
def f_X11_holds (S : e_S) (l0 : Nat) (l1 : Int32) (g : e_G) : Option (e_G) :=
  if e_ob S 11 l0 = true then
    (e_gR S g 11 l0 23).bind fun v1 =>
    (e_gI S g 11 l0 24).bind fun v3 =>
    (e_aS S g 0 v1 v3 l1).bind fun g5 =>
    (e_gI S g5 11 l0 24).bind fun v7 =>
    (e_sI S g5 11 l0 24 (v7 + (1 : Int32))).bind fun g9 =>
    some g9
  else none
theorem o_X11_holds  {S : e_S} {k : e_G} {l0 : Nat} {l1 : Int32} {g : e_G} (hf : f_X11_holds S l0 l1 g = some k) : e_ob S 11 l0 = true := by
  unfold f_X11_holds at hf
  by_cases hc : e_ob S 11 l0 = true
  · exact hc
  · rw [if_neg hc] at hf
    cases hf
theorem c_X11_holds {l : Launch} {D : va_G}  {S : e_S} {k : e_G} {l0 : Nat} {l1 : Int32} {g : e_G} (hf : f_X11_holds S l0 l1 g = some k) : CT l D (e_R 1) M_X11_holds [.ref l0, .int l1] (S, g) none (S, k) := by
  refine CT.of (by decide +kernel) (Nat.le_of_ble_eq_true rfl) ?_
  have ho := o_X11_holds hf
  unfold f_X11_holds at hf
  rw [if_pos ho] at hf
  show X l D (e_R 1) M_X11_holds 0 0 0 [(0, .ref l0), (1, .int l1)] [] (S, g) none (S, k)
  refine X.aload_n dX11_holds_0 rfl (j := 0) rfl ?_
  obtain ⟨v1, h2, hf⟩ := ob hf
  refine Y.getR dX11_holds_1 fl_X11_49 rfl h2 ?_
  refine X.aload_n dX11_holds_4 rfl (j := 0) rfl ?_
  obtain ⟨v3, h4, hf⟩ := ob hf
  refine Y.getI dX11_holds_5 fl_X11_121 rfl h4 ?_
  refine X.iload_n dX11_holds_8 rfl (j := 1) rfl ?_
  obtain ⟨g5, h6, hf⟩ := ob hf
  refine Y.iast dX11_holds_9 h6 ?_
  refine X.aload_n dX11_holds_10 rfl (j := 0) rfl ?_
  refine X.dup dX11_holds_11 rfl ?_
  obtain ⟨v7, h8, hf⟩ := ob hf
  refine Y.getI dX11_holds_12 fl_X11_121 rfl h8 ?_
  refine X.iconst dX11_holds_15 kI_1 ?_
  refine X.iadd dX11_holds_16 ?_
  obtain ⟨g9, h10, hf⟩ := ob hf
  refine Y.putI dX11_holds_17 fl_X11_121 rfl rfl rfl rfl h10 ?_
  have e1 := Option.some.inj hf
  subst e1
  exact X.vret dX11_holds_20 rfl
/-! LeanedOutModel.opensOne(I)Z -/
abbrev M_X11_opensOne : e_M := (yX11_opensOne, cX11_opensOne, 2, (some .boolean))
theorem mk_X11_opensOne : e_Mok M_X11_opensOne 1 := ⟨by decide +kernel, by decide +kernel, by decide +kernel⟩
theorem dX11_opensOne_0 : decode cX11_opensOne 0 = .ok (.aload_n 0, 1) := by decide +kernel
theorem dX11_opensOne_1 : decode cX11_opensOne 1 = .ok (.getfield 127, 3) := by decide +kernel
theorem dX11_opensOne_4 : decode cX11_opensOne 4 = .ok (.iconst 5, 1) := by decide +kernel
theorem dX11_opensOne_5 : decode cX11_opensOne 5 = .ok (.if_icmp .ne 5, 3) := by decide +kernel
theorem dX11_opensOne_8 : decode cX11_opensOne 8 = .ok (.iconst 0, 1) := by decide +kernel
theorem dX11_opensOne_9 : decode cX11_opensOne 9 = .ok (.ireturn, 1) := by decide +kernel
theorem dX11_opensOne_10 : decode cX11_opensOne 10 = .ok (.aload_n 0, 1) := by decide +kernel
theorem dX11_opensOne_11 : decode cX11_opensOne 11 = .ok (.dup, 1) := by decide +kernel
theorem dX11_opensOne_12 : decode cX11_opensOne 12 = .ok (.getfield 127, 3) := by decide +kernel
theorem dX11_opensOne_15 : decode cX11_opensOne 15 = .ok (.iconst 1, 1) := by decide +kernel
theorem dX11_opensOne_16 : decode cX11_opensOne 16 = .ok (.iadd, 1) := by decide +kernel
theorem dX11_opensOne_17 : decode cX11_opensOne 17 = .ok (.putfield 127, 3) := by decide +kernel
theorem dX11_opensOne_20 : decode cX11_opensOne 20 = .ok (.aload_n 0, 1) := by decide +kernel
theorem dX11_opensOne_21 : decode cX11_opensOne 21 = .ok (.iload_n 1, 1) := by decide +kernel
theorem dX11_opensOne_22 : decode cX11_opensOne 22 = .ok (.invokevirtual 134, 3) := by decide +kernel
theorem dX11_opensOne_25 : decode cX11_opensOne 25 = .ok (.iconst 1, 1) := by decide +kernel
theorem dX11_opensOne_26 : decode cX11_opensOne 26 = .ok (.ireturn, 1) := by decide +kernel
def f_X11_opensOne (S : e_S) (l0 : Nat) (l1 : Int32) (g : e_G) : Option (Int32 × e_G) :=
  if e_ob S 11 l0 = true then
    (e_gI S g 11 l0 25).bind fun v1 =>
    if v1 = (5 : Int32) then
      some ((0 : Int32), g)
    else
      (e_gI S g 11 l0 25).bind fun v3 =>
      (e_sI S g 11 l0 25 (v3 + (1 : Int32))).bind fun g5 =>
      (f_X11_holds S l0 l1 g5).bind fun q8 =>
      some ((1 : Int32), q8)
  else none
theorem o_X11_opensOne  {S : e_S} {w : Int32} {k : e_G} {l0 : Nat} {l1 : Int32} {g : e_G} (hf : f_X11_opensOne S l0 l1 g = some (w, k)) : e_ob S 11 l0 = true := by
  unfold f_X11_opensOne at hf
  by_cases hc : e_ob S 11 l0 = true
  · exact hc
  · rw [if_neg hc] at hf
    cases hf
theorem c_X11_opensOne {l : Launch} {D : va_G}  {S : e_S} {w : Int32} {k : e_G} {l0 : Nat} {l1 : Int32} {g : e_G} (hf : f_X11_opensOne S l0 l1 g = some (w, k)) : CT l D (e_R 2) M_X11_opensOne [.ref l0, .int l1] (S, g) (some (.int w)) (S, k) := by
  refine CT.of (by decide +kernel) (Nat.le_of_ble_eq_true rfl) ?_
  have ho := o_X11_opensOne hf
  unfold f_X11_opensOne at hf
  rw [if_pos ho] at hf
  show X l D (e_R 2) M_X11_opensOne 0 0 0 [(0, .ref l0), (1, .int l1)] [] (S, g) (some (.int w)) (S, k)
  refine X.aload_n dX11_opensOne_0 rfl (j := 0) rfl ?_
  obtain ⟨v1, h2, hf⟩ := ob hf
  refine Y.getI dX11_opensOne_1 fl_X11_127 rfl h2 ?_
  refine X.iconst dX11_opensOne_4 kI_5 ?_
  refine X.icmp_ne dX11_opensOne_5 (tgt := 10) rfl (fun hc => ?_) (fun hc => ?_)
  · rw [if_neg hc] at hf
    refine X.aload_n dX11_opensOne_10 rfl (j := 0) rfl ?_
    refine X.dup dX11_opensOne_11 rfl ?_
    obtain ⟨v3, h4, hf⟩ := ob hf
    refine Y.getI dX11_opensOne_12 fl_X11_127 rfl h4 ?_
    refine X.iconst dX11_opensOne_15 kI_1 ?_
    refine X.iadd dX11_opensOne_16 ?_
    obtain ⟨g5, h6, hf⟩ := ob hf
    refine Y.putI dX11_opensOne_17 fl_X11_127 rfl rfl rfl rfl h6 ?_
    refine X.aload_n dX11_opensOne_20 rfl (j := 0) rfl ?_
    refine X.iload_n dX11_opensOne_21 rfl (j := 1) rfl ?_
    obtain ⟨q8, h7, hf⟩ := ob hf
    refine Y.callV (av := [.int l1]) (ci := 11) dX11_opensOne_22 (c_X11_holds (l := l) (D := D) h7) cw_X11_134 (by decide) rfl mk_X11_holds (o_X11_holds (k := q8) h7) (e_R_ok (Nat.le_of_ble_eq_true rfl) (Nat.le_of_ble_eq_true rfl)) ⟨rfl, rfl⟩ (by simp [Value.category]) ?_
    refine X.iconst dX11_opensOne_25 kI_1 ?_
    obtain ⟨e1, e2⟩ := e_ret hf
    subst e1
    subst e2
    exact X.iret dX11_opensOne_26 rfl rfl
  · rw [if_pos hc] at hf
    refine X.iconst dX11_opensOne_8 kI_0 ?_
    obtain ⟨e1, e2⟩ := e_ret hf
    subst e1
    subst e2
    exact X.iret dX11_opensOne_9 rfl rfl
/-! LeanedOutModel.between(I)Z -/
abbrev M_X11_between : e_M := (yX11_between, cX11_between, 2, (some .boolean))
theorem mk_X11_between : e_Mok M_X11_between 1 := ⟨by decide +kernel, by decide +kernel, by decide +kernel⟩
theorem dX11_between_0 : decode cX11_between 0 = .ok (.aload_n 0, 1) := by decide +kernel
theorem dX11_between_1 : decode cX11_between 1 = .ok (.iload_n 1, 1) := by decide +kernel
theorem dX11_between_2 : decode cX11_between 2 = .ok (.invokestatic 124, 3) := by decide +kernel
theorem dX11_between_5 : decode cX11_between 5 = .ok (.iconst 4, 1) := by decide +kernel
theorem dX11_between_6 : decode cX11_between 6 = .ok (.if_icmp .ne 7, 3) := by decide +kernel
theorem dX11_between_9 : decode cX11_between 9 = .ok (.iconst 5, 1) := by decide +kernel
theorem dX11_between_10 : decode cX11_between 10 = .ok (.goto 7, 3) := by decide +kernel
theorem dX11_between_13 : decode cX11_between 13 = .ok (.iload_n 1, 1) := by decide +kernel
theorem dX11_between_14 : decode cX11_between 14 = .ok (.invokestatic 124, 3) := by decide +kernel
theorem dX11_between_17 : decode cX11_between 17 = .ok (.invokevirtual 137, 3) := by decide +kernel
theorem dX11_between_20 : decode cX11_between 20 = .ok (.iload_n 1, 1) := by decide +kernel
theorem dX11_between_21 : decode cX11_between 21 = .ok (.invokestatic 124, 3) := by decide +kernel
theorem dX11_between_24 : decode cX11_between 24 = .ok (.iconst 4, 1) := by decide +kernel
theorem dX11_between_25 : decode cX11_between 25 = .ok (.if_icmp .ne 30, 3) := by decide +kernel
theorem dX11_between_28 : decode cX11_between 28 = .ok (.aload_n 0, 1) := by decide +kernel
theorem dX11_between_29 : decode cX11_between 29 = .ok (.getfield 121, 3) := by decide +kernel
theorem dX11_between_32 : decode cX11_between 32 = .ok (.ifCond .le 23, 3) := by decide +kernel
theorem dX11_between_35 : decode cX11_between 35 = .ok (.aload_n 0, 1) := by decide +kernel
theorem dX11_between_36 : decode cX11_between 36 = .ok (.getfield 49, 3) := by decide +kernel
theorem dX11_between_39 : decode cX11_between 39 = .ok (.aload_n 0, 1) := by decide +kernel
theorem dX11_between_40 : decode cX11_between 40 = .ok (.getfield 121, 3) := by decide +kernel
theorem dX11_between_43 : decode cX11_between 43 = .ok (.iconst 1, 1) := by decide +kernel
theorem dX11_between_44 : decode cX11_between 44 = .ok (.isub, 1) := by decide +kernel
theorem dX11_between_45 : decode cX11_between 45 = .ok (.iaload, 1) := by decide +kernel
theorem dX11_between_46 : decode cX11_between 46 = .ok (.invokestatic 124, 3) := by decide +kernel
theorem dX11_between_49 : decode cX11_between 49 = .ok (.iconst 4, 1) := by decide +kernel
theorem dX11_between_50 : decode cX11_between 50 = .ok (.if_icmp .ne 5, 3) := by decide +kernel
theorem dX11_between_53 : decode cX11_between 53 = .ok (.iconst 0, 1) := by decide +kernel
theorem dX11_between_54 : decode cX11_between 54 = .ok (.ireturn, 1) := by decide +kernel
theorem dX11_between_55 : decode cX11_between 55 = .ok (.aload_n 0, 1) := by decide +kernel
theorem dX11_between_56 : decode cX11_between 56 = .ok (.iload_n 1, 1) := by decide +kernel
theorem dX11_between_57 : decode cX11_between 57 = .ok (.invokevirtual 134, 3) := by decide +kernel
theorem dX11_between_60 : decode cX11_between 60 = .ok (.iconst 1, 1) := by decide +kernel
theorem dX11_between_61 : decode cX11_between 61 = .ok (.ireturn, 1) := by decide +kernel
def J_X11_between_55 (S : e_S) (l0 : Nat) (l1 : Int32) (g : e_G) : Option (Int32 × e_G) :=
  (f_X11_holds S l0 l1 g).bind fun q2 =>
  some ((1 : Int32), q2)
def J_X11_between_17 (S : e_S) (l0 : Nat) (l1 : Int32) (t0 : Nat) (t1 : Int32) (g : e_G) : Option (Int32 × e_G) :=
  (f_X11_unwinds S t0 t1 g).bind fun q2 =>
  (f_X11_rank S l1 q2).bind fun q4 =>
  if q4.1 = (4 : Int32) then
    (e_gI S q4.2 11 l0 24).bind fun v5 =>
    if v5 ≤ 0 then
      J_X11_between_55 S l0 l1 q4.2
    else
      (e_gR S q4.2 11 l0 23).bind fun v7 =>
      (e_gI S q4.2 11 l0 24).bind fun v9 =>
      (e_aI S q4.2 0 v7 (v9 - (1 : Int32))).bind fun v11 =>
      (f_X11_rank S v11 q4.2).bind fun q14 =>
      if q14.1 = (4 : Int32) then
        some ((0 : Int32), q14.2)
      else
        J_X11_between_55 S l0 l1 q14.2
  else
    J_X11_between_55 S l0 l1 q4.2
def f_X11_between (S : e_S) (l0 : Nat) (l1 : Int32) (g : e_G) : Option (Int32 × e_G) :=
  if e_ob S 11 l0 = true then
    (f_X11_rank S l1 g).bind fun q2 =>
    if q2.1 = (4 : Int32) then
      J_X11_between_17 S l0 l1 l0 (5 : Int32) q2.2
    else
      (f_X11_rank S l1 q2.2).bind fun q4 =>
      J_X11_between_17 S l0 l1 l0 q4.1 q4.2
  else none
theorem x_J_X11_between_55 {l : Launch} {D : va_G} {S : e_S} {w : Int32} {k : e_G} {l0 : Nat} {l1 : Int32} {g : e_G} (hf : J_X11_between_55 S l0 l1 g = some (w, k)) : X l D (e_R 3) M_X11_between 0 0 55 [(0, .ref l0), (1, .int l1)] [] (S, g) (some (.int w)) (S, k) := by
  unfold J_X11_between_55 at hf
  refine X.aload_n dX11_between_55 rfl (j := 0) rfl ?_
  refine X.iload_n dX11_between_56 rfl (j := 1) rfl ?_
  obtain ⟨q2, h1, hf⟩ := ob hf
  refine Y.callV (av := [.int l1]) (ci := 11) dX11_between_57 (c_X11_holds (l := l) (D := D) h1) cw_X11_134 (by decide) rfl mk_X11_holds (o_X11_holds (k := q2) h1) (e_R_ok (Nat.le_of_ble_eq_true rfl) (Nat.le_of_ble_eq_true rfl)) ⟨rfl, rfl⟩ (by simp [Value.category]) ?_
  refine X.iconst dX11_between_60 kI_1 ?_
  obtain ⟨e1, e2⟩ := e_ret hf
  subst e1
  subst e2
  exact X.iret dX11_between_61 rfl rfl
theorem x_J_X11_between_17 {l : Launch} {D : va_G} {S : e_S} {w : Int32} {k : e_G} {l0 : Nat} {l1 : Int32} {t0 : Nat} {t1 : Int32} {g : e_G} (hf : J_X11_between_17 S l0 l1 t0 t1 g = some (w, k)) : X l D (e_R 3) M_X11_between 0 0 17 [(0, .ref l0), (1, .int l1)] [.int t1, .ref t0] (S, g) (some (.int w)) (S, k) := by
  unfold J_X11_between_17 at hf
  obtain ⟨q2, h1, hf⟩ := ob hf
  refine Y.callV (av := [.int t1]) (ci := 11) dX11_between_17 (c_X11_unwinds (l := l) (D := D) h1) cw_X11_137 (by decide) rfl mk_X11_unwinds (o_X11_unwinds (k := q2) h1) (e_R_ok (Nat.le_of_ble_eq_true rfl) (Nat.le_of_ble_eq_true rfl)) ⟨rfl, rfl⟩ (by simp [Value.category]) ?_
  refine X.iload_n dX11_between_20 rfl (j := 1) rfl ?_
  obtain ⟨q4, h3, hf⟩ := ob hf
  refine Y.callS (av := [.int l1]) dX11_between_21 (c_X11_rank (l := l) (D := D) (w := q4.1) (k := q4.2) h3) cw_X11_124 mk_X11_rank (e_R_ok (Nat.le_of_ble_eq_true rfl) (Nat.le_of_ble_eq_true rfl)) ⟨rfl, rfl⟩ (by simp [Value.category]) ?_
  refine X.iconst dX11_between_24 kI_4 ?_
  refine X.icmp_ne dX11_between_25 (tgt := 55) rfl (fun hc => ?_) (fun hc => ?_)
  · rw [if_neg hc] at hf
    exact x_J_X11_between_55 hf
  · rw [if_pos hc] at hf
    refine X.aload_n dX11_between_28 rfl (j := 0) rfl ?_
    obtain ⟨v5, h6, hf⟩ := ob hf
    refine Y.getI dX11_between_29 fl_X11_121 rfl h6 ?_
    refine X.if_le dX11_between_32 (tgt := 55) rfl (fun hc => ?_) (fun hc => ?_)
    · rw [if_pos hc] at hf
      exact x_J_X11_between_55 hf
    · rw [if_neg hc] at hf
      refine X.aload_n dX11_between_35 rfl (j := 0) rfl ?_
      obtain ⟨v7, h8, hf⟩ := ob hf
      refine Y.getR dX11_between_36 fl_X11_49 rfl h8 ?_
      refine X.aload_n dX11_between_39 rfl (j := 0) rfl ?_
      obtain ⟨v9, h10, hf⟩ := ob hf
      refine Y.getI dX11_between_40 fl_X11_121 rfl h10 ?_
      refine X.iconst dX11_between_43 kI_1 ?_
      refine X.isub dX11_between_44 ?_
      obtain ⟨v11, h12, hf⟩ := ob hf
      refine Y.iald dX11_between_45 h12 ?_
      obtain ⟨q14, h13, hf⟩ := ob hf
      refine Y.callS (av := [.int v11]) dX11_between_46 (c_X11_rank (l := l) (D := D) (w := q14.1) (k := q14.2) h13) cw_X11_124 mk_X11_rank (e_R_ok (Nat.le_of_ble_eq_true rfl) (Nat.le_of_ble_eq_true rfl)) ⟨rfl, rfl⟩ (by simp [Value.category]) ?_
      refine X.iconst dX11_between_49 kI_4 ?_
      refine X.icmp_ne dX11_between_50 (tgt := 55) rfl (fun hc => ?_) (fun hc => ?_)
      · rw [if_neg hc] at hf
        exact x_J_X11_between_55 hf
      · rw [if_pos hc] at hf
        refine X.iconst dX11_between_53 kI_0 ?_
        obtain ⟨e1, e2⟩ := e_ret hf
        subst e1
        subst e2
        exact X.iret dX11_between_54 rfl rfl
theorem o_X11_between  {S : e_S} {w : Int32} {k : e_G} {l0 : Nat} {l1 : Int32} {g : e_G} (hf : f_X11_between S l0 l1 g = some (w, k)) : e_ob S 11 l0 = true := by
  unfold f_X11_between at hf
  by_cases hc : e_ob S 11 l0 = true
  · exact hc
  · rw [if_neg hc] at hf
    cases hf
theorem c_X11_between {l : Launch} {D : va_G}  {S : e_S} {w : Int32} {k : e_G} {l0 : Nat} {l1 : Int32} {g : e_G} (hf : f_X11_between S l0 l1 g = some (w, k)) : CT l D (e_R 3) M_X11_between [.ref l0, .int l1] (S, g) (some (.int w)) (S, k) := by
  refine CT.of (by decide +kernel) (Nat.le_of_ble_eq_true rfl) ?_
  have ho := o_X11_between hf
  unfold f_X11_between at hf
  rw [if_pos ho] at hf
  show X l D (e_R 3) M_X11_between 0 0 0 [(0, .ref l0), (1, .int l1)] [] (S, g) (some (.int w)) (S, k)
  refine X.aload_n dX11_between_0 rfl (j := 0) rfl ?_
  refine X.iload_n dX11_between_1 rfl (j := 1) rfl ?_
  obtain ⟨q2, h1, hf⟩ := ob hf
  refine Y.callS (av := [.int l1]) dX11_between_2 (c_X11_rank (l := l) (D := D) (w := q2.1) (k := q2.2) h1) cw_X11_124 mk_X11_rank (e_R_ok (Nat.le_of_ble_eq_true rfl) (Nat.le_of_ble_eq_true rfl)) ⟨rfl, rfl⟩ (by simp [Value.category]) ?_
  refine X.iconst dX11_between_5 kI_4 ?_
  refine X.icmp_ne dX11_between_6 (tgt := 13) rfl (fun hc => ?_) (fun hc => ?_)
  · rw [if_neg hc] at hf
    refine X.iload_n dX11_between_13 rfl (j := 1) rfl ?_
    obtain ⟨q4, h3, hf⟩ := ob hf
    refine Y.callS (av := [.int l1]) dX11_between_14 (c_X11_rank (l := l) (D := D) (w := q4.1) (k := q4.2) h3) cw_X11_124 mk_X11_rank (e_R_ok (Nat.le_of_ble_eq_true rfl) (Nat.le_of_ble_eq_true rfl)) ⟨rfl, rfl⟩ (by simp [Value.category]) ?_
    exact x_J_X11_between_17 hf
  · rw [if_pos hc] at hf
    refine X.iconst dX11_between_9 kI_5 ?_
    refine X.goto dX11_between_10 (tgt := 17) rfl ?_
    exact x_J_X11_between_17 hf
/-! LeanedOutModel.signOf()I -/
abbrev M_X11_signOf : e_M := (yX11_signOf, cX11_signOf, 1, (some .int))
theorem mk_X11_signOf : e_Mok M_X11_signOf 0 := ⟨by decide +kernel, by decide +kernel, by decide +kernel⟩
theorem dX11_signOf_0 : decode cX11_signOf 0 = .ok (.aload_n 0, 1) := by decide +kernel
theorem dX11_signOf_1 : decode cX11_signOf 1 = .ok (.getfield 108, 3) := by decide +kernel
theorem dX11_signOf_4 : decode cX11_signOf 4 = .ok (.iconst 4, 1) := by decide +kernel
theorem dX11_signOf_5 : decode cX11_signOf 5 = .ok (.if_icmp .ne 8, 3) := by decide +kernel
theorem dX11_signOf_8 : decode cX11_signOf 8 = .ok (.bipush 11, 2) := by decide +kernel
theorem dX11_signOf_10 : decode cX11_signOf 10 = .ok (.goto 87, 3) := by decide +kernel
theorem dX11_signOf_13 : decode cX11_signOf 13 = .ok (.aload_n 0, 1) := by decide +kernel
theorem dX11_signOf_14 : decode cX11_signOf 14 = .ok (.getfield 108, 3) := by decide +kernel
theorem dX11_signOf_17 : decode cX11_signOf 17 = .ok (.iconst 5, 1) := by decide +kernel
theorem dX11_signOf_18 : decode cX11_signOf 18 = .ok (.if_icmp .ne 8, 3) := by decide +kernel
theorem dX11_signOf_21 : decode cX11_signOf 21 = .ok (.bipush 12, 2) := by decide +kernel
theorem dX11_signOf_23 : decode cX11_signOf 23 = .ok (.goto 74, 3) := by decide +kernel
theorem dX11_signOf_26 : decode cX11_signOf 26 = .ok (.aload_n 0, 1) := by decide +kernel
theorem dX11_signOf_27 : decode cX11_signOf 27 = .ok (.getfield 108, 3) := by decide +kernel
theorem dX11_signOf_30 : decode cX11_signOf 30 = .ok (.bipush 60, 2) := by decide +kernel
theorem dX11_signOf_32 : decode cX11_signOf 32 = .ok (.if_icmp .ne 8, 3) := by decide +kernel
theorem dX11_signOf_35 : decode cX11_signOf 35 = .ok (.bipush 14, 2) := by decide +kernel
theorem dX11_signOf_37 : decode cX11_signOf 37 = .ok (.goto 60, 3) := by decide +kernel
theorem dX11_signOf_40 : decode cX11_signOf 40 = .ok (.aload_n 0, 1) := by decide +kernel
theorem dX11_signOf_41 : decode cX11_signOf 41 = .ok (.getfield 108, 3) := by decide +kernel
theorem dX11_signOf_44 : decode cX11_signOf 44 = .ok (.bipush 61, 2) := by decide +kernel
theorem dX11_signOf_46 : decode cX11_signOf 46 = .ok (.if_icmp .ne 8, 3) := by decide +kernel
theorem dX11_signOf_49 : decode cX11_signOf 49 = .ok (.bipush 15, 2) := by decide +kernel
theorem dX11_signOf_51 : decode cX11_signOf 51 = .ok (.goto 46, 3) := by decide +kernel
theorem dX11_signOf_54 : decode cX11_signOf 54 = .ok (.aload_n 0, 1) := by decide +kernel
theorem dX11_signOf_55 : decode cX11_signOf 55 = .ok (.getfield 108, 3) := by decide +kernel
theorem dX11_signOf_58 : decode cX11_signOf 58 = .ok (.bipush 43, 2) := by decide +kernel
theorem dX11_signOf_60 : decode cX11_signOf 60 = .ok (.if_icmp .ne 8, 3) := by decide +kernel
theorem dX11_signOf_63 : decode cX11_signOf 63 = .ok (.bipush 16, 2) := by decide +kernel
theorem dX11_signOf_65 : decode cX11_signOf 65 = .ok (.goto 32, 3) := by decide +kernel
theorem dX11_signOf_68 : decode cX11_signOf 68 = .ok (.aload_n 0, 1) := by decide +kernel
theorem dX11_signOf_69 : decode cX11_signOf 69 = .ok (.getfield 108, 3) := by decide +kernel
theorem dX11_signOf_72 : decode cX11_signOf 72 = .ok (.bipush 45, 2) := by decide +kernel
theorem dX11_signOf_74 : decode cX11_signOf 74 = .ok (.if_icmp .ne 8, 3) := by decide +kernel
theorem dX11_signOf_77 : decode cX11_signOf 77 = .ok (.bipush 17, 2) := by decide +kernel
theorem dX11_signOf_79 : decode cX11_signOf 79 = .ok (.goto 18, 3) := by decide +kernel
theorem dX11_signOf_82 : decode cX11_signOf 82 = .ok (.aload_n 0, 1) := by decide +kernel
theorem dX11_signOf_83 : decode cX11_signOf 83 = .ok (.getfield 108, 3) := by decide +kernel
theorem dX11_signOf_86 : decode cX11_signOf 86 = .ok (.bipush 42, 2) := by decide +kernel
theorem dX11_signOf_88 : decode cX11_signOf 88 = .ok (.if_icmp .ne 8, 3) := by decide +kernel
theorem dX11_signOf_91 : decode cX11_signOf 91 = .ok (.bipush 18, 2) := by decide +kernel
theorem dX11_signOf_93 : decode cX11_signOf 93 = .ok (.goto 4, 3) := by decide +kernel
theorem dX11_signOf_96 : decode cX11_signOf 96 = .ok (.iconst (-1), 1) := by decide +kernel
theorem dX11_signOf_97 : decode cX11_signOf 97 = .ok (.ireturn, 1) := by decide +kernel
def f_X11_signOf (S : e_S) (l0 : Nat) (g : e_G) : Option (Int32 × e_G) :=
  if e_ob S 11 l0 = true then
    (e_gI S g 11 l0 20).bind fun v1 =>
    if v1 = (4 : Int32) then
      some ((11 : Int32), g)
    else
      (e_gI S g 11 l0 20).bind fun v3 =>
      if v3 = (5 : Int32) then
        some ((12 : Int32), g)
      else
        (e_gI S g 11 l0 20).bind fun v5 =>
        if v5 = (60 : Int32) then
          some ((14 : Int32), g)
        else
          (e_gI S g 11 l0 20).bind fun v7 =>
          if v7 = (61 : Int32) then
            some ((15 : Int32), g)
          else
            (e_gI S g 11 l0 20).bind fun v9 =>
            if v9 = (43 : Int32) then
              some ((16 : Int32), g)
            else
              (e_gI S g 11 l0 20).bind fun v11 =>
              if v11 = (45 : Int32) then
                some ((17 : Int32), g)
              else
                (e_gI S g 11 l0 20).bind fun v13 =>
                if v13 = (42 : Int32) then
                  some ((18 : Int32), g)
                else
                  some ((-1 : Int32), g)
  else none
theorem o_X11_signOf  {S : e_S} {w : Int32} {k : e_G} {l0 : Nat} {g : e_G} (hf : f_X11_signOf S l0 g = some (w, k)) : e_ob S 11 l0 = true := by
  unfold f_X11_signOf at hf
  by_cases hc : e_ob S 11 l0 = true
  · exact hc
  · rw [if_neg hc] at hf
    cases hf
theorem c_X11_signOf {l : Launch} {D : va_G}  {S : e_S} {w : Int32} {k : e_G} {l0 : Nat} {g : e_G} (hf : f_X11_signOf S l0 g = some (w, k)) : CT l D (e_R 1) M_X11_signOf [.ref l0] (S, g) (some (.int w)) (S, k) := by
  refine CT.of (by decide +kernel) (Nat.le_of_ble_eq_true rfl) ?_
  have ho := o_X11_signOf hf
  unfold f_X11_signOf at hf
  rw [if_pos ho] at hf
  show X l D (e_R 1) M_X11_signOf 0 0 0 [(0, .ref l0)] [] (S, g) (some (.int w)) (S, k)
  refine X.aload_n dX11_signOf_0 rfl (j := 0) rfl ?_
  obtain ⟨v1, h2, hf⟩ := ob hf
  refine Y.getI dX11_signOf_1 fl_X11_108 rfl h2 ?_
  refine X.iconst dX11_signOf_4 kI_4 ?_
  refine X.icmp_ne dX11_signOf_5 (tgt := 13) rfl (fun hc => ?_) (fun hc => ?_)
  · rw [if_neg hc] at hf
    refine X.aload_n dX11_signOf_13 rfl (j := 0) rfl ?_
    obtain ⟨v3, h4, hf⟩ := ob hf
    refine Y.getI dX11_signOf_14 fl_X11_108 rfl h4 ?_
    refine X.iconst dX11_signOf_17 kI_5 ?_
    refine X.icmp_ne dX11_signOf_18 (tgt := 26) rfl (fun hc => ?_) (fun hc => ?_)
    · rw [if_neg hc] at hf
      refine X.aload_n dX11_signOf_26 rfl (j := 0) rfl ?_
      obtain ⟨v5, h6, hf⟩ := ob hf
      refine Y.getI dX11_signOf_27 fl_X11_108 rfl h6 ?_
      refine X.bipush dX11_signOf_30 kB_60 ?_
      refine X.icmp_ne dX11_signOf_32 (tgt := 40) rfl (fun hc => ?_) (fun hc => ?_)
      · rw [if_neg hc] at hf
        refine X.aload_n dX11_signOf_40 rfl (j := 0) rfl ?_
        obtain ⟨v7, h8, hf⟩ := ob hf
        refine Y.getI dX11_signOf_41 fl_X11_108 rfl h8 ?_
        refine X.bipush dX11_signOf_44 kB_61 ?_
        refine X.icmp_ne dX11_signOf_46 (tgt := 54) rfl (fun hc => ?_) (fun hc => ?_)
        · rw [if_neg hc] at hf
          refine X.aload_n dX11_signOf_54 rfl (j := 0) rfl ?_
          obtain ⟨v9, h10, hf⟩ := ob hf
          refine Y.getI dX11_signOf_55 fl_X11_108 rfl h10 ?_
          refine X.bipush dX11_signOf_58 kB_43 ?_
          refine X.icmp_ne dX11_signOf_60 (tgt := 68) rfl (fun hc => ?_) (fun hc => ?_)
          · rw [if_neg hc] at hf
            refine X.aload_n dX11_signOf_68 rfl (j := 0) rfl ?_
            obtain ⟨v11, h12, hf⟩ := ob hf
            refine Y.getI dX11_signOf_69 fl_X11_108 rfl h12 ?_
            refine X.bipush dX11_signOf_72 kB_45 ?_
            refine X.icmp_ne dX11_signOf_74 (tgt := 82) rfl (fun hc => ?_) (fun hc => ?_)
            · rw [if_neg hc] at hf
              refine X.aload_n dX11_signOf_82 rfl (j := 0) rfl ?_
              obtain ⟨v13, h14, hf⟩ := ob hf
              refine Y.getI dX11_signOf_83 fl_X11_108 rfl h14 ?_
              refine X.bipush dX11_signOf_86 kB_42 ?_
              refine X.icmp_ne dX11_signOf_88 (tgt := 96) rfl (fun hc => ?_) (fun hc => ?_)
              · rw [if_neg hc] at hf
                refine X.iconst dX11_signOf_96 kI_m1 ?_
                obtain ⟨e1, e2⟩ := e_ret hf
                subst e1
                subst e2
                exact X.iret dX11_signOf_97 rfl rfl
              · rw [if_pos hc] at hf
                refine X.bipush dX11_signOf_91 kB_18 ?_
                refine X.goto dX11_signOf_93 (tgt := 97) rfl ?_
                obtain ⟨e1, e2⟩ := e_ret hf
                subst e1
                subst e2
                exact X.iret dX11_signOf_97 rfl rfl
            · rw [if_pos hc] at hf
              refine X.bipush dX11_signOf_77 kB_17 ?_
              refine X.goto dX11_signOf_79 (tgt := 97) rfl ?_
              obtain ⟨e1, e2⟩ := e_ret hf
              subst e1
              subst e2
              exact X.iret dX11_signOf_97 rfl rfl
          · rw [if_pos hc] at hf
            refine X.bipush dX11_signOf_63 kB_16 ?_
            refine X.goto dX11_signOf_65 (tgt := 97) rfl ?_
            obtain ⟨e1, e2⟩ := e_ret hf
            subst e1
            subst e2
            exact X.iret dX11_signOf_97 rfl rfl
        · rw [if_pos hc] at hf
          refine X.bipush dX11_signOf_49 kB_15 ?_
          refine X.goto dX11_signOf_51 (tgt := 97) rfl ?_
          obtain ⟨e1, e2⟩ := e_ret hf
          subst e1
          subst e2
          exact X.iret dX11_signOf_97 rfl rfl
      · rw [if_pos hc] at hf
        refine X.bipush dX11_signOf_35 kB_14 ?_
        refine X.goto dX11_signOf_37 (tgt := 97) rfl ?_
        obtain ⟨e1, e2⟩ := e_ret hf
        subst e1
        subst e2
        exact X.iret dX11_signOf_97 rfl rfl
    · rw [if_pos hc] at hf
      refine X.bipush dX11_signOf_21 kB_12 ?_
      refine X.goto dX11_signOf_23 (tgt := 97) rfl ?_
      obtain ⟨e1, e2⟩ := e_ret hf
      subst e1
      subst e2
      exact X.iret dX11_signOf_97 rfl rfl
  · rw [if_pos hc] at hf
    refine X.bipush dX11_signOf_8 kB_11 ?_
    refine X.goto dX11_signOf_10 (tgt := 97) rfl ?_
    obtain ⟨e1, e2⟩ := e_ret hf
    subst e1
    subst e2
    exact X.iret dX11_signOf_97 rfl rfl
/-! LeanedOutModel.eRead()Z -/
abbrev M_X11_eRead : e_M := (yX11_eRead, cX11_eRead, 4, (some .boolean))
theorem mk_X11_eRead : e_Mok M_X11_eRead 0 := ⟨by decide +kernel, by decide +kernel, by decide +kernel⟩
theorem dX11_eRead_0 : decode cX11_eRead 0 = .ok (.aload_n 0, 1) := by decide +kernel
theorem dX11_eRead_1 : decode cX11_eRead 1 = .ok (.iconst 0, 1) := by decide +kernel
theorem dX11_eRead_2 : decode cX11_eRead 2 = .ok (.putfield 121, 3) := by decide +kernel
theorem dX11_eRead_5 : decode cX11_eRead 5 = .ok (.aload_n 0, 1) := by decide +kernel
theorem dX11_eRead_6 : decode cX11_eRead 6 = .ok (.iconst 0, 1) := by decide +kernel
theorem dX11_eRead_7 : decode cX11_eRead 7 = .ok (.putfield 127, 3) := by decide +kernel
theorem dX11_eRead_10 : decode cX11_eRead 10 = .ok (.iconst 1, 1) := by decide +kernel
theorem dX11_eRead_11 : decode cX11_eRead 11 = .ok (.istore_n 1, 1) := by decide +kernel
theorem dX11_eRead_12 : decode cX11_eRead 12 = .ok (.iconst 1, 1) := by decide +kernel
theorem dX11_eRead_13 : decode cX11_eRead 13 = .ok (.istore_n 2, 1) := by decide +kernel
theorem dX11_eRead_14 : decode cX11_eRead 14 = .ok (.aload_n 0, 1) := by decide +kernel
theorem dX11_eRead_15 : decode cX11_eRead 15 = .ok (.invokevirtual 140, 3) := by decide +kernel
theorem dX11_eRead_18 : decode cX11_eRead 18 = .ok (.iload_n 1, 1) := by decide +kernel
theorem dX11_eRead_19 : decode cX11_eRead 19 = .ok (.ifCond .eq 131, 3) := by decide +kernel
theorem dX11_eRead_22 : decode cX11_eRead 22 = .ok (.aload_n 0, 1) := by decide +kernel
theorem dX11_eRead_23 : decode cX11_eRead 23 = .ok (.getfield 108, 3) := by decide +kernel
theorem dX11_eRead_26 : decode cX11_eRead 26 = .ok (.iconst 1, 1) := by decide +kernel
theorem dX11_eRead_27 : decode cX11_eRead 27 = .ok (.if_icmp .eq 11, 3) := by decide +kernel
theorem dX11_eRead_30 : decode cX11_eRead 30 = .ok (.aload_n 0, 1) := by decide +kernel
theorem dX11_eRead_31 : decode cX11_eRead 31 = .ok (.getfield 108, 3) := by decide +kernel
theorem dX11_eRead_34 : decode cX11_eRead 34 = .ok (.iconst 2, 1) := by decide +kernel
theorem dX11_eRead_35 : decode cX11_eRead 35 = .ok (.if_icmp .ne 40, 3) := by decide +kernel
theorem dX11_eRead_38 : decode cX11_eRead 38 = .ok (.aload_n 0, 1) := by decide +kernel
theorem dX11_eRead_39 : decode cX11_eRead 39 = .ok (.aload_n 0, 1) := by decide +kernel
theorem dX11_eRead_40 : decode cX11_eRead 40 = .ok (.getfield 108, 3) := by decide +kernel
theorem dX11_eRead_43 : decode cX11_eRead 43 = .ok (.iconst 1, 1) := by decide +kernel
theorem dX11_eRead_44 : decode cX11_eRead 44 = .ok (.if_icmp .ne 13, 3) := by decide +kernel
theorem dX11_eRead_47 : decode cX11_eRead 47 = .ok (.ldc 143, 2) := by decide +kernel
theorem dX11_eRead_49 : decode cX11_eRead 49 = .ok (.aload_n 0, 1) := by decide +kernel
theorem dX11_eRead_50 : decode cX11_eRead 50 = .ok (.getfield 111, 3) := by decide +kernel
theorem dX11_eRead_53 : decode cX11_eRead 53 = .ok (.iadd, 1) := by decide +kernel
theorem dX11_eRead_54 : decode cX11_eRead 54 = .ok (.goto 7, 3) := by decide +kernel
theorem dX11_eRead_57 : decode cX11_eRead 57 = .ok (.aload_n 0, 1) := by decide +kernel
theorem dX11_eRead_58 : decode cX11_eRead 58 = .ok (.getfield 111, 3) := by decide +kernel
theorem dX11_eRead_61 : decode cX11_eRead 61 = .ok (.invokevirtual 130, 3) := by decide +kernel
theorem dX11_eRead_64 : decode cX11_eRead 64 = .ok (.aload_n 0, 1) := by decide +kernel
theorem dX11_eRead_65 : decode cX11_eRead 65 = .ok (.bipush 7, 2) := by decide +kernel
theorem dX11_eRead_67 : decode cX11_eRead 67 = .ok (.invokevirtual 137, 3) := by decide +kernel
theorem dX11_eRead_70 : decode cX11_eRead 70 = .ok (.iconst 0, 1) := by decide +kernel
theorem dX11_eRead_71 : decode cX11_eRead 71 = .ok (.istore_n 1, 1) := by decide +kernel
theorem dX11_eRead_72 : decode cX11_eRead 72 = .ok (.goto (-58), 3) := by decide +kernel
theorem dX11_eRead_75 : decode cX11_eRead 75 = .ok (.aload_n 0, 1) := by decide +kernel
theorem dX11_eRead_76 : decode cX11_eRead 76 = .ok (.getfield 108, 3) := by decide +kernel
theorem dX11_eRead_79 : decode cX11_eRead 79 = .ok (.bipush 6, 2) := by decide +kernel
theorem dX11_eRead_81 : decode cX11_eRead 81 = .ok (.if_icmp .ne 18, 3) := by decide +kernel
theorem dX11_eRead_84 : decode cX11_eRead 84 = .ok (.iload_n 2, 1) := by decide +kernel
theorem dX11_eRead_85 : decode cX11_eRead 85 = .ok (.ifCond .eq 14, 3) := by decide +kernel
theorem dX11_eRead_88 : decode cX11_eRead 88 = .ok (.aload_n 0, 1) := by decide +kernel
theorem dX11_eRead_89 : decode cX11_eRead 89 = .ok (.bipush 13, 2) := by decide +kernel
theorem dX11_eRead_91 : decode cX11_eRead 91 = .ok (.invokevirtual 144, 3) := by decide +kernel
theorem dX11_eRead_94 : decode cX11_eRead 94 = .ok (.ifCond .ne (-80), 3) := by decide +kernel
theorem dX11_eRead_97 : decode cX11_eRead 97 = .ok (.iconst 0, 1) := by decide +kernel
theorem dX11_eRead_98 : decode cX11_eRead 98 = .ok (.ireturn, 1) := by decide +kernel
theorem dX11_eRead_99 : decode cX11_eRead 99 = .ok (.aload_n 0, 1) := by decide +kernel
theorem dX11_eRead_100 : decode cX11_eRead 100 = .ok (.getfield 108, 3) := by decide +kernel
theorem dX11_eRead_103 : decode cX11_eRead 103 = .ok (.bipush 45, 2) := by decide +kernel
theorem dX11_eRead_105 : decode cX11_eRead 105 = .ok (.if_icmp .ne 19, 3) := by decide +kernel
theorem dX11_eRead_108 : decode cX11_eRead 108 = .ok (.aload_n 0, 1) := by decide +kernel
theorem dX11_eRead_109 : decode cX11_eRead 109 = .ok (.bipush 19, 2) := by decide +kernel
theorem dX11_eRead_111 : decode cX11_eRead 111 = .ok (.invokevirtual 144, 3) := by decide +kernel
theorem dX11_eRead_114 : decode cX11_eRead 114 = .ok (.ifCond .ne 5, 3) := by decide +kernel
theorem dX11_eRead_117 : decode cX11_eRead 117 = .ok (.iconst 0, 1) := by decide +kernel
theorem dX11_eRead_118 : decode cX11_eRead 118 = .ok (.ireturn, 1) := by decide +kernel
theorem dX11_eRead_119 : decode cX11_eRead 119 = .ok (.iconst 0, 1) := by decide +kernel
theorem dX11_eRead_120 : decode cX11_eRead 120 = .ok (.istore_n 2, 1) := by decide +kernel
theorem dX11_eRead_121 : decode cX11_eRead 121 = .ok (.goto (-107), 3) := by decide +kernel
theorem dX11_eRead_124 : decode cX11_eRead 124 = .ok (.aload_n 0, 1) := by decide +kernel
theorem dX11_eRead_125 : decode cX11_eRead 125 = .ok (.getfield 108, 3) := by decide +kernel
theorem dX11_eRead_128 : decode cX11_eRead 128 = .ok (.bipush 40, 2) := by decide +kernel
theorem dX11_eRead_130 : decode cX11_eRead 130 = .ok (.if_icmp .ne 18, 3) := by decide +kernel
theorem dX11_eRead_133 : decode cX11_eRead 133 = .ok (.aload_n 0, 1) := by decide +kernel
theorem dX11_eRead_134 : decode cX11_eRead 134 = .ok (.iconst 0, 1) := by decide +kernel
theorem dX11_eRead_135 : decode cX11_eRead 135 = .ok (.invokevirtual 144, 3) := by decide +kernel
theorem dX11_eRead_138 : decode cX11_eRead 138 = .ok (.ifCond .ne 5, 3) := by decide +kernel
theorem dX11_eRead_141 : decode cX11_eRead 141 = .ok (.iconst 0, 1) := by decide +kernel
theorem dX11_eRead_142 : decode cX11_eRead 142 = .ok (.ireturn, 1) := by decide +kernel
theorem dX11_eRead_143 : decode cX11_eRead 143 = .ok (.iconst 1, 1) := by decide +kernel
theorem dX11_eRead_144 : decode cX11_eRead 144 = .ok (.istore_n 2, 1) := by decide +kernel
theorem dX11_eRead_145 : decode cX11_eRead 145 = .ok (.goto (-131), 3) := by decide +kernel
theorem dX11_eRead_148 : decode cX11_eRead 148 = .ok (.iconst 0, 1) := by decide +kernel
theorem dX11_eRead_149 : decode cX11_eRead 149 = .ok (.ireturn, 1) := by decide +kernel
theorem dX11_eRead_150 : decode cX11_eRead 150 = .ok (.aload_n 0, 1) := by decide +kernel
theorem dX11_eRead_151 : decode cX11_eRead 151 = .ok (.getfield 108, 3) := by decide +kernel
theorem dX11_eRead_154 : decode cX11_eRead 154 = .ok (.bipush 59, 2) := by decide +kernel
theorem dX11_eRead_156 : decode cX11_eRead 156 = .ok (.if_icmp .ne 21, 3) := by decide +kernel
theorem dX11_eRead_159 : decode cX11_eRead 159 = .ok (.aload_n 0, 1) := by decide +kernel
theorem dX11_eRead_160 : decode cX11_eRead 160 = .ok (.iconst 1, 1) := by decide +kernel
theorem dX11_eRead_161 : decode cX11_eRead 161 = .ok (.invokevirtual 137, 3) := by decide +kernel
theorem dX11_eRead_164 : decode cX11_eRead 164 = .ok (.aload_n 0, 1) := by decide +kernel
theorem dX11_eRead_165 : decode cX11_eRead 165 = .ok (.getfield 121, 3) := by decide +kernel
theorem dX11_eRead_168 : decode cX11_eRead 168 = .ok (.ifCond .ne 7, 3) := by decide +kernel
theorem dX11_eRead_171 : decode cX11_eRead 171 = .ok (.iconst 1, 1) := by decide +kernel
theorem dX11_eRead_172 : decode cX11_eRead 172 = .ok (.goto 4, 3) := by decide +kernel
theorem dX11_eRead_175 : decode cX11_eRead 175 = .ok (.iconst 0, 1) := by decide +kernel
theorem dX11_eRead_176 : decode cX11_eRead 176 = .ok (.ireturn, 1) := by decide +kernel
theorem dX11_eRead_177 : decode cX11_eRead 177 = .ok (.aload_n 0, 1) := by decide +kernel
theorem dX11_eRead_178 : decode cX11_eRead 178 = .ok (.getfield 108, 3) := by decide +kernel
theorem dX11_eRead_181 : decode cX11_eRead 181 = .ok (.bipush 41, 2) := by decide +kernel
theorem dX11_eRead_183 : decode cX11_eRead 183 = .ok (.if_icmp .ne 46, 3) := by decide +kernel
theorem dX11_eRead_186 : decode cX11_eRead 186 = .ok (.aload_n 0, 1) := by decide +kernel
theorem dX11_eRead_187 : decode cX11_eRead 187 = .ok (.iconst 1, 1) := by decide +kernel
theorem dX11_eRead_188 : decode cX11_eRead 188 = .ok (.invokevirtual 137, 3) := by decide +kernel
theorem dX11_eRead_191 : decode cX11_eRead 191 = .ok (.aload_n 0, 1) := by decide +kernel
theorem dX11_eRead_192 : decode cX11_eRead 192 = .ok (.getfield 121, 3) := by decide +kernel
theorem dX11_eRead_195 : decode cX11_eRead 195 = .ok (.ifCond .ne 5, 3) := by decide +kernel
theorem dX11_eRead_198 : decode cX11_eRead 198 = .ok (.iconst 0, 1) := by decide +kernel
theorem dX11_eRead_199 : decode cX11_eRead 199 = .ok (.ireturn, 1) := by decide +kernel
theorem dX11_eRead_200 : decode cX11_eRead 200 = .ok (.aload_n 0, 1) := by decide +kernel
theorem dX11_eRead_201 : decode cX11_eRead 201 = .ok (.dup, 1) := by decide +kernel
theorem dX11_eRead_202 : decode cX11_eRead 202 = .ok (.getfield 121, 3) := by decide +kernel
theorem dX11_eRead_205 : decode cX11_eRead 205 = .ok (.iconst 1, 1) := by decide +kernel
theorem dX11_eRead_206 : decode cX11_eRead 206 = .ok (.isub, 1) := by decide +kernel
theorem dX11_eRead_207 : decode cX11_eRead 207 = .ok (.putfield 121, 3) := by decide +kernel
theorem dX11_eRead_210 : decode cX11_eRead 210 = .ok (.aload_n 0, 1) := by decide +kernel
theorem dX11_eRead_211 : decode cX11_eRead 211 = .ok (.dup, 1) := by decide +kernel
theorem dX11_eRead_212 : decode cX11_eRead 212 = .ok (.getfield 127, 3) := by decide +kernel
theorem dX11_eRead_215 : decode cX11_eRead 215 = .ok (.iconst 1, 1) := by decide +kernel
theorem dX11_eRead_216 : decode cX11_eRead 216 = .ok (.isub, 1) := by decide +kernel
theorem dX11_eRead_217 : decode cX11_eRead 217 = .ok (.putfield 127, 3) := by decide +kernel
theorem dX11_eRead_220 : decode cX11_eRead 220 = .ok (.aload_n 0, 1) := by decide +kernel
theorem dX11_eRead_221 : decode cX11_eRead 221 = .ok (.bipush 7, 2) := by decide +kernel
theorem dX11_eRead_223 : decode cX11_eRead 223 = .ok (.invokevirtual 137, 3) := by decide +kernel
theorem dX11_eRead_226 : decode cX11_eRead 226 = .ok (.goto (-212), 3) := by decide +kernel
theorem dX11_eRead_229 : decode cX11_eRead 229 = .ok (.aload_n 0, 1) := by decide +kernel
theorem dX11_eRead_230 : decode cX11_eRead 230 = .ok (.invokevirtual 147, 3) := by decide +kernel
theorem dX11_eRead_233 : decode cX11_eRead 233 = .ok (.istore_n 3, 1) := by decide +kernel
theorem dX11_eRead_234 : decode cX11_eRead 234 = .ok (.iload_n 3, 1) := by decide +kernel
theorem dX11_eRead_235 : decode cX11_eRead 235 = .ok (.iconst (-1), 1) := by decide +kernel
theorem dX11_eRead_236 : decode cX11_eRead 236 = .ok (.if_icmp .eq 11, 3) := by decide +kernel
theorem dX11_eRead_239 : decode cX11_eRead 239 = .ok (.aload_n 0, 1) := by decide +kernel
theorem dX11_eRead_240 : decode cX11_eRead 240 = .ok (.iload_n 3, 1) := by decide +kernel
theorem dX11_eRead_241 : decode cX11_eRead 241 = .ok (.invokevirtual 150, 3) := by decide +kernel
theorem dX11_eRead_244 : decode cX11_eRead 244 = .ok (.ifCond .ne 5, 3) := by decide +kernel
theorem dX11_eRead_247 : decode cX11_eRead 247 = .ok (.iconst 0, 1) := by decide +kernel
theorem dX11_eRead_248 : decode cX11_eRead 248 = .ok (.ireturn, 1) := by decide +kernel
theorem dX11_eRead_249 : decode cX11_eRead 249 = .ok (.iconst 1, 1) := by decide +kernel
theorem dX11_eRead_250 : decode cX11_eRead 250 = .ok (.istore_n 1, 1) := by decide +kernel
theorem dX11_eRead_251 : decode cX11_eRead 251 = .ok (.iload_n 3, 1) := by decide +kernel
theorem dX11_eRead_252 : decode cX11_eRead 252 = .ok (.bipush 12, 2) := by decide +kernel
theorem dX11_eRead_254 : decode cX11_eRead 254 = .ok (.if_icmp .gt 7, 3) := by decide +kernel
theorem dX11_eRead_257 : decode cX11_eRead 257 = .ok (.iconst 1, 1) := by decide +kernel
theorem dX11_eRead_258 : decode cX11_eRead 258 = .ok (.goto 4, 3) := by decide +kernel
theorem dX11_eRead_261 : decode cX11_eRead 261 = .ok (.iconst 0, 1) := by decide +kernel
theorem dX11_eRead_262 : decode cX11_eRead 262 = .ok (.istore_n 2, 1) := by decide +kernel
theorem dX11_eRead_263 : decode cX11_eRead 263 = .ok (.goto (-249), 3) := by decide +kernel
def J_X11_eRead_61 (c14 : Nat → Int32 → Int32 → e_G → Option (Int32 × e_G)) (S : e_S) (l0 : Nat) (l2 : Int32) (t0 : Nat) (t1 : Int32) (g : e_G) : Option (Int32 × e_G) :=
  (f_X11_puts S t0 t1 g).bind fun q2 =>
  (f_X11_unwinds S l0 (7 : Int32) q2).bind fun q4 =>
  c14 l0 (0 : Int32) l2 q4
def J_X11_eRead_38 (c14 : Nat → Int32 → Int32 → e_G → Option (Int32 × e_G)) (S : e_S) (l0 : Nat) (l2 : Int32) (g : e_G) : Option (Int32 × e_G) :=
  (e_gI S g 11 l0 20).bind fun v1 =>
  if v1 = (1 : Int32) then
    (e_gI S g 11 l0 21).bind fun v5 =>
    J_X11_eRead_61 c14 S l0 l2 l0 ((100000 : Int32) + v5) g
  else
    (e_gI S g 11 l0 21).bind fun v3 =>
    J_X11_eRead_61 c14 S l0 l2 l0 v3 g
def J_X11_eRead_99 (c14 : Nat → Int32 → Int32 → e_G → Option (Int32 × e_G)) (S : e_S) (l0 : Nat) (l1 : Int32) (g : e_G) : Option (Int32 × e_G) :=
  (e_gI S g 11 l0 20).bind fun v1 =>
  if v1 = (45 : Int32) then
    (f_X11_opensOne S l0 (19 : Int32) g).bind fun q8 =>
    if q8.1 = 0 then
      some ((0 : Int32), q8.2)
    else
      c14 l0 l1 (0 : Int32) q8.2
  else
    (e_gI S g 11 l0 20).bind fun v3 =>
    if v3 = (40 : Int32) then
      (f_X11_opensOne S l0 (0 : Int32) g).bind fun q6 =>
      if q6.1 = 0 then
        some ((0 : Int32), q6.2)
      else
        c14 l0 l1 (1 : Int32) q6.2
    else
      some ((0 : Int32), g)
def J_X11_eRead_262 (c14 : Nat → Int32 → Int32 → e_G → Option (Int32 × e_G)) (S : e_S) (l0 : Nat) (l1 : Int32) (t0 : Int32) (g : e_G) : Option (Int32 × e_G) :=
  c14 l0 l1 t0 g
def L_X11_eRead_14 : Nat → e_S → Nat → Int32 → Int32 → e_G → Option (Int32 × e_G)
  | 0, _, _, _, _, _ => none
  | n + 1, S, l0, l1, l2, g =>
  (f_X11_next S l0 g).bind fun q2 =>
  if l1 = 0 then
    (e_gI S q2 11 l0 20).bind fun v3 =>
    if v3 = (59 : Int32) then
      (f_X11_unwinds S l0 (1 : Int32) q2).bind fun q26 =>
      (e_gI S q26 11 l0 24).bind fun v27 =>
      if v27 = 0 then
        some ((1 : Int32), q26)
      else
        some ((0 : Int32), q26)
    else
      (e_gI S q2 11 l0 20).bind fun v5 =>
      if v5 = (41 : Int32) then
        (f_X11_unwinds S l0 (1 : Int32) q2).bind fun q12 =>
        (e_gI S q12 11 l0 24).bind fun v13 =>
        if v13 = 0 then
          some ((0 : Int32), q12)
        else
          (e_gI S q12 11 l0 24).bind fun v15 =>
          (e_sI S q12 11 l0 24 (v15 - (1 : Int32))).bind fun g17 =>
          (e_gI S g17 11 l0 25).bind fun v19 =>
          (e_sI S g17 11 l0 25 (v19 - (1 : Int32))).bind fun g21 =>
          (f_X11_unwinds S l0 (7 : Int32) g21).bind fun q24 =>
          L_X11_eRead_14 n S l0 l1 l2 q24
      else
        (f_X11_signOf S l0 q2).bind fun q8 =>
        if q8.1 = (-1 : Int32) then
          some ((0 : Int32), q8.2)
        else
          (f_X11_between S l0 q8.1 q8.2).bind fun q10 =>
          if q10.1 = 0 then
            some ((0 : Int32), q10.2)
          else
            if (12 : Int32) < q8.1 then
              J_X11_eRead_262 (L_X11_eRead_14 n S) S l0 (1 : Int32) (0 : Int32) q10.2
            else
              J_X11_eRead_262 (L_X11_eRead_14 n S) S l0 (1 : Int32) (1 : Int32) q10.2
  else
    (e_gI S q2 11 l0 20).bind fun v29 =>
    if v29 = (1 : Int32) then
      J_X11_eRead_38 (L_X11_eRead_14 n S) S l0 l2 q2
    else
      (e_gI S q2 11 l0 20).bind fun v31 =>
      if v31 = (2 : Int32) then
        J_X11_eRead_38 (L_X11_eRead_14 n S) S l0 l2 q2
      else
        (e_gI S q2 11 l0 20).bind fun v33 =>
        if v33 = (6 : Int32) then
          if l2 = 0 then
            J_X11_eRead_99 (L_X11_eRead_14 n S) S l0 l1 q2
          else
            (f_X11_opensOne S l0 (13 : Int32) q2).bind fun q36 =>
            if q36.1 = 0 then
              some ((0 : Int32), q36.2)
            else
              L_X11_eRead_14 n S l0 l1 l2 q36.2
        else
          J_X11_eRead_99 (L_X11_eRead_14 n S) S l0 l1 q2
def f_X11_eRead (S : e_S) (l0 : Nat) (g : e_G) : Option (Int32 × e_G) :=
  if e_ob S 11 l0 = true then
    (e_sI S g 11 l0 24 (0 : Int32)).bind fun g1 =>
    (e_sI S g1 11 l0 25 (0 : Int32)).bind fun g3 =>
    L_X11_eRead_14 50000 S l0 (1 : Int32) (1 : Int32) g3
  else none
theorem x_J_X11_eRead_61 {l : Launch} {D : va_G} {S : e_S} {w : Int32} {k : e_G} (c14 : Nat → Int32 → Int32 → e_G → Option (Int32 × e_G)) (hc14 : ∀ (l0 : Nat) (l1 : Int32) (l2 : Int32) (g : e_G), c14 l0 l1 l2 g = some (w, k) → X l D (e_R 4) M_X11_eRead 0 0 14 [(0, .ref l0), (1, .int l1), (2, .int l2)] [] (S, g) (some (.int w)) (S, k)) {l0 : Nat} {l2 : Int32} {t0 : Nat} {t1 : Int32} {g : e_G} (hf : J_X11_eRead_61 c14 S l0 l2 t0 t1 g = some (w, k)) : X l D (e_R 4) M_X11_eRead 0 0 61 [(0, .ref l0), (2, .int l2)] [.int t1, .ref t0] (S, g) (some (.int w)) (S, k) := by
  unfold J_X11_eRead_61 at hf
  obtain ⟨q2, h1, hf⟩ := ob hf
  refine Y.callV (av := [.int t1]) (ci := 11) dX11_eRead_61 (c_X11_puts (l := l) (D := D) h1) cw_X11_130 (by decide) rfl mk_X11_puts (o_X11_puts (k := q2) h1) (e_R_ok (Nat.le_of_ble_eq_true rfl) (Nat.le_of_ble_eq_true rfl)) ⟨rfl, rfl⟩ (by simp [Value.category]) ?_
  refine X.aload_n dX11_eRead_64 rfl (j := 0) rfl ?_
  refine X.bipush dX11_eRead_65 kB_7 ?_
  obtain ⟨q4, h3, hf⟩ := ob hf
  refine Y.callV (av := [.int (7 : Int32)]) (ci := 11) dX11_eRead_67 (c_X11_unwinds (l := l) (D := D) h3) cw_X11_137 (by decide) rfl mk_X11_unwinds (o_X11_unwinds (k := q4) h3) (e_R_ok (Nat.le_of_ble_eq_true rfl) (Nat.le_of_ble_eq_true rfl)) ⟨rfl, rfl⟩ (by simp [Value.category]) ?_
  refine X.iconst dX11_eRead_70 kI_0 ?_
  refine X.istore_n dX11_eRead_71 rfl (Nat.le_of_ble_eq_true rfl) (lc' := [(1, .int (0 : Int32)), (0, .ref l0), (2, .int l2)]) rfl ?_
  refine X.goto dX11_eRead_72 (tgt := 14) rfl ?_
  refine X.sub [1, 0, 2] rfl ?_
  exact hc14 _ _ _ _ hf
theorem x_J_X11_eRead_38 {l : Launch} {D : va_G} {S : e_S} {w : Int32} {k : e_G} (c14 : Nat → Int32 → Int32 → e_G → Option (Int32 × e_G)) (hc14 : ∀ (l0 : Nat) (l1 : Int32) (l2 : Int32) (g : e_G), c14 l0 l1 l2 g = some (w, k) → X l D (e_R 4) M_X11_eRead 0 0 14 [(0, .ref l0), (1, .int l1), (2, .int l2)] [] (S, g) (some (.int w)) (S, k)) {l0 : Nat} {l2 : Int32} {g : e_G} (hf : J_X11_eRead_38 c14 S l0 l2 g = some (w, k)) : X l D (e_R 4) M_X11_eRead 0 0 38 [(0, .ref l0), (2, .int l2)] [] (S, g) (some (.int w)) (S, k) := by
  unfold J_X11_eRead_38 at hf
  refine X.aload_n dX11_eRead_38 rfl (j := 0) rfl ?_
  refine X.aload_n dX11_eRead_39 rfl (j := 0) rfl ?_
  obtain ⟨v1, h2, hf⟩ := ob hf
  refine Y.getI dX11_eRead_40 fl_X11_108 rfl h2 ?_
  refine X.iconst dX11_eRead_43 kI_1 ?_
  refine X.icmp_ne dX11_eRead_44 (tgt := 57) rfl (fun hc => ?_) (fun hc => ?_)
  · rw [if_neg hc] at hf
    refine X.aload_n dX11_eRead_57 rfl (j := 0) rfl ?_
    obtain ⟨v3, h4, hf⟩ := ob hf
    refine Y.getI dX11_eRead_58 fl_X11_111 rfl h4 ?_
    exact x_J_X11_eRead_61 _ hc14 hf
  · rw [if_pos hc] at hf
    refine X.ldc dX11_eRead_47 ww_933 ?_
    refine X.aload_n dX11_eRead_49 rfl (j := 0) rfl ?_
    obtain ⟨v5, h6, hf⟩ := ob hf
    refine Y.getI dX11_eRead_50 fl_X11_111 rfl h6 ?_
    refine X.iadd dX11_eRead_53 ?_
    refine X.goto dX11_eRead_54 (tgt := 61) rfl ?_
    exact x_J_X11_eRead_61 _ hc14 hf
theorem x_J_X11_eRead_99 {l : Launch} {D : va_G} {S : e_S} {w : Int32} {k : e_G} (c14 : Nat → Int32 → Int32 → e_G → Option (Int32 × e_G)) (hc14 : ∀ (l0 : Nat) (l1 : Int32) (l2 : Int32) (g : e_G), c14 l0 l1 l2 g = some (w, k) → X l D (e_R 4) M_X11_eRead 0 0 14 [(0, .ref l0), (1, .int l1), (2, .int l2)] [] (S, g) (some (.int w)) (S, k)) {l0 : Nat} {l1 : Int32} {g : e_G} (hf : J_X11_eRead_99 c14 S l0 l1 g = some (w, k)) : X l D (e_R 4) M_X11_eRead 0 0 99 [(0, .ref l0), (1, .int l1)] [] (S, g) (some (.int w)) (S, k) := by
  unfold J_X11_eRead_99 at hf
  refine X.aload_n dX11_eRead_99 rfl (j := 0) rfl ?_
  obtain ⟨v1, h2, hf⟩ := ob hf
  refine Y.getI dX11_eRead_100 fl_X11_108 rfl h2 ?_
  refine X.bipush dX11_eRead_103 kB_45 ?_
  refine X.icmp_ne dX11_eRead_105 (tgt := 124) rfl (fun hc => ?_) (fun hc => ?_)
  · rw [if_neg hc] at hf
    refine X.aload_n dX11_eRead_124 rfl (j := 0) rfl ?_
    obtain ⟨v3, h4, hf⟩ := ob hf
    refine Y.getI dX11_eRead_125 fl_X11_108 rfl h4 ?_
    refine X.bipush dX11_eRead_128 kB_40 ?_
    refine X.icmp_ne dX11_eRead_130 (tgt := 148) rfl (fun hc => ?_) (fun hc => ?_)
    · rw [if_neg hc] at hf
      refine X.iconst dX11_eRead_148 kI_0 ?_
      obtain ⟨e1, e2⟩ := e_ret hf
      subst e1
      subst e2
      exact X.iret dX11_eRead_149 rfl rfl
    · rw [if_pos hc] at hf
      refine X.aload_n dX11_eRead_133 rfl (j := 0) rfl ?_
      refine X.iconst dX11_eRead_134 kI_0 ?_
      obtain ⟨q6, h5, hf⟩ := ob hf
      refine Y.callV (av := [.int (0 : Int32)]) (ci := 11) dX11_eRead_135 (c_X11_opensOne (l := l) (D := D) (w := q6.1) (k := q6.2) h5) cw_X11_144 (by decide) rfl mk_X11_opensOne (o_X11_opensOne (w := q6.1) (k := q6.2) h5) (e_R_ok (Nat.le_of_ble_eq_true rfl) (Nat.le_of_ble_eq_true rfl)) ⟨rfl, rfl⟩ (by simp [Value.category]) ?_
      refine X.if_ne dX11_eRead_138 (tgt := 143) rfl (fun hc => ?_) (fun hc => ?_)
      · rw [if_neg hc] at hf
        refine X.iconst dX11_eRead_143 kI_1 ?_
        refine X.istore_n dX11_eRead_144 rfl (Nat.le_of_ble_eq_true rfl) (lc' := [(2, .int (1 : Int32)), (0, .ref l0), (1, .int l1)]) rfl ?_
        refine X.goto dX11_eRead_145 (tgt := 14) rfl ?_
        refine X.sub [1, 2, 0] rfl ?_
        exact hc14 _ _ _ _ hf
      · rw [if_pos hc] at hf
        refine X.iconst dX11_eRead_141 kI_0 ?_
        obtain ⟨e1, e2⟩ := e_ret hf
        subst e1
        subst e2
        exact X.iret dX11_eRead_142 rfl rfl
  · rw [if_pos hc] at hf
    refine X.aload_n dX11_eRead_108 rfl (j := 0) rfl ?_
    refine X.bipush dX11_eRead_109 kB_19 ?_
    obtain ⟨q8, h7, hf⟩ := ob hf
    refine Y.callV (av := [.int (19 : Int32)]) (ci := 11) dX11_eRead_111 (c_X11_opensOne (l := l) (D := D) (w := q8.1) (k := q8.2) h7) cw_X11_144 (by decide) rfl mk_X11_opensOne (o_X11_opensOne (w := q8.1) (k := q8.2) h7) (e_R_ok (Nat.le_of_ble_eq_true rfl) (Nat.le_of_ble_eq_true rfl)) ⟨rfl, rfl⟩ (by simp [Value.category]) ?_
    refine X.if_ne dX11_eRead_114 (tgt := 119) rfl (fun hc => ?_) (fun hc => ?_)
    · rw [if_neg hc] at hf
      refine X.iconst dX11_eRead_119 kI_0 ?_
      refine X.istore_n dX11_eRead_120 rfl (Nat.le_of_ble_eq_true rfl) (lc' := [(2, .int (0 : Int32)), (0, .ref l0), (1, .int l1)]) rfl ?_
      refine X.goto dX11_eRead_121 (tgt := 14) rfl ?_
      refine X.sub [1, 2, 0] rfl ?_
      exact hc14 _ _ _ _ hf
    · rw [if_pos hc] at hf
      refine X.iconst dX11_eRead_117 kI_0 ?_
      obtain ⟨e1, e2⟩ := e_ret hf
      subst e1
      subst e2
      exact X.iret dX11_eRead_118 rfl rfl
theorem x_J_X11_eRead_262 {l : Launch} {D : va_G} {S : e_S} {w : Int32} {k : e_G} (c14 : Nat → Int32 → Int32 → e_G → Option (Int32 × e_G)) (hc14 : ∀ (l0 : Nat) (l1 : Int32) (l2 : Int32) (g : e_G), c14 l0 l1 l2 g = some (w, k) → X l D (e_R 4) M_X11_eRead 0 0 14 [(0, .ref l0), (1, .int l1), (2, .int l2)] [] (S, g) (some (.int w)) (S, k)) {l0 : Nat} {l1 : Int32} {t0 : Int32} {g : e_G} (hf : J_X11_eRead_262 c14 S l0 l1 t0 g = some (w, k)) : X l D (e_R 4) M_X11_eRead 0 0 262 [(0, .ref l0), (1, .int l1)] [.int t0] (S, g) (some (.int w)) (S, k) := by
  unfold J_X11_eRead_262 at hf
  refine X.istore_n dX11_eRead_262 rfl (Nat.le_of_ble_eq_true rfl) (lc' := [(2, .int t0), (0, .ref l0), (1, .int l1)]) rfl ?_
  refine X.goto dX11_eRead_263 (tgt := 14) rfl ?_
  refine X.sub [1, 2, 0] rfl ?_
  exact hc14 _ _ _ _ hf
theorem x_L_X11_eRead_14 {l : Launch} {D : va_G} {S : e_S} {w : Int32} {k : e_G} : ∀ (n : Nat) (l0 : Nat) (l1 : Int32) (l2 : Int32) (g : e_G), L_X11_eRead_14 n S l0 l1 l2 g = some (w, k) → X l D (e_R 4) M_X11_eRead 0 0 14 [(0, .ref l0), (1, .int l1), (2, .int l2)] [] (S, g) (some (.int w)) (S, k) := by
  intro n
  induction n with
  | zero =>
    intro l0 l1 l2 g hf
    cases hf
  | succ n ih =>
    intro l0 l1 l2 g hf
    rw [L_X11_eRead_14] at hf
    refine X.aload_n dX11_eRead_14 rfl (j := 0) rfl ?_
    obtain ⟨q2, h1, hf⟩ := ob hf
    refine Y.callV (av := []) (ci := 11) dX11_eRead_15 (c_X11_next (l := l) (D := D) h1) cw_X11_140 (by decide) rfl mk_X11_next (o_X11_next (k := q2) h1) (e_R_ok (Nat.le_of_ble_eq_true rfl) (Nat.le_of_ble_eq_true rfl)) ⟨rfl, rfl⟩ (by simp [Value.category]) ?_
    refine X.iload_n dX11_eRead_18 rfl (j := 1) rfl ?_
    refine X.if_eq dX11_eRead_19 (tgt := 150) rfl (fun hc => ?_) (fun hc => ?_)
    · rw [if_pos hc] at hf
      refine X.aload_n dX11_eRead_150 rfl (j := 0) rfl ?_
      obtain ⟨v3, h4, hf⟩ := ob hf
      refine Y.getI dX11_eRead_151 fl_X11_108 rfl h4 ?_
      refine X.bipush dX11_eRead_154 kB_59 ?_
      refine X.icmp_ne dX11_eRead_156 (tgt := 177) rfl (fun hc => ?_) (fun hc => ?_)
      · rw [if_neg hc] at hf
        refine X.aload_n dX11_eRead_177 rfl (j := 0) rfl ?_
        obtain ⟨v5, h6, hf⟩ := ob hf
        refine Y.getI dX11_eRead_178 fl_X11_108 rfl h6 ?_
        refine X.bipush dX11_eRead_181 kB_41 ?_
        refine X.icmp_ne dX11_eRead_183 (tgt := 229) rfl (fun hc => ?_) (fun hc => ?_)
        · rw [if_neg hc] at hf
          refine X.aload_n dX11_eRead_229 rfl (j := 0) rfl ?_
          obtain ⟨q8, h7, hf⟩ := ob hf
          refine Y.callV (av := []) (ci := 11) dX11_eRead_230 (c_X11_signOf (l := l) (D := D) (w := q8.1) (k := q8.2) h7) cw_X11_147 (by decide) rfl mk_X11_signOf (o_X11_signOf (w := q8.1) (k := q8.2) h7) (e_R_ok (Nat.le_of_ble_eq_true rfl) (Nat.le_of_ble_eq_true rfl)) ⟨rfl, rfl⟩ (by simp [Value.category]) ?_
          refine X.istore_n dX11_eRead_233 rfl (Nat.le_of_ble_eq_true rfl) (lc' := [(3, .int q8.1), (0, .ref l0), (1, .int l1), (2, .int l2)]) rfl ?_
          refine X.iload_n dX11_eRead_234 rfl (j := 0) rfl ?_
          refine X.iconst dX11_eRead_235 kI_m1 ?_
          refine X.icmp_eq dX11_eRead_236 (tgt := 247) rfl (fun hc => ?_) (fun hc => ?_)
          · rw [if_pos hc] at hf
            refine X.iconst dX11_eRead_247 kI_0 ?_
            obtain ⟨e1, e2⟩ := e_ret hf
            subst e1
            subst e2
            exact X.iret dX11_eRead_248 rfl rfl
          · rw [if_neg hc] at hf
            refine X.aload_n dX11_eRead_239 rfl (j := 1) rfl ?_
            refine X.iload_n dX11_eRead_240 rfl (j := 0) rfl ?_
            obtain ⟨q10, h9, hf⟩ := ob hf
            refine Y.callV (av := [.int q8.1]) (ci := 11) dX11_eRead_241 (c_X11_between (l := l) (D := D) (w := q10.1) (k := q10.2) h9) cw_X11_150 (by decide) rfl mk_X11_between (o_X11_between (w := q10.1) (k := q10.2) h9) (e_R_ok (Nat.le_of_ble_eq_true rfl) (Nat.le_of_ble_eq_true rfl)) ⟨rfl, rfl⟩ (by simp [Value.category]) ?_
            refine X.if_ne dX11_eRead_244 (tgt := 249) rfl (fun hc => ?_) (fun hc => ?_)
            · rw [if_neg hc] at hf
              refine X.iconst dX11_eRead_249 kI_1 ?_
              refine X.istore_n dX11_eRead_250 rfl (Nat.le_of_ble_eq_true rfl) (lc' := [(1, .int (1 : Int32)), (3, .int q8.1), (0, .ref l0), (2, .int l2)]) rfl ?_
              refine X.iload_n dX11_eRead_251 rfl (j := 1) rfl ?_
              refine X.bipush dX11_eRead_252 kB_12 ?_
              refine X.icmp_gt dX11_eRead_254 (tgt := 261) rfl (fun hc => ?_) (fun hc => ?_)
              · rw [if_pos hc] at hf
                refine X.iconst dX11_eRead_261 kI_0 ?_
                refine X.sub [2, 0] rfl ?_
                exact x_J_X11_eRead_262 _ ih hf
              · rw [if_neg hc] at hf
                refine X.iconst dX11_eRead_257 kI_1 ?_
                refine X.goto dX11_eRead_258 (tgt := 262) rfl ?_
                refine X.sub [2, 0] rfl ?_
                exact x_J_X11_eRead_262 _ ih hf
            · rw [if_pos hc] at hf
              refine X.iconst dX11_eRead_247 kI_0 ?_
              obtain ⟨e1, e2⟩ := e_ret hf
              subst e1
              subst e2
              exact X.iret dX11_eRead_248 rfl rfl
        · rw [if_pos hc] at hf
          refine X.aload_n dX11_eRead_186 rfl (j := 0) rfl ?_
          refine X.iconst dX11_eRead_187 kI_1 ?_
          obtain ⟨q12, h11, hf⟩ := ob hf
          refine Y.callV (av := [.int (1 : Int32)]) (ci := 11) dX11_eRead_188 (c_X11_unwinds (l := l) (D := D) h11) cw_X11_137 (by decide) rfl mk_X11_unwinds (o_X11_unwinds (k := q12) h11) (e_R_ok (Nat.le_of_ble_eq_true rfl) (Nat.le_of_ble_eq_true rfl)) ⟨rfl, rfl⟩ (by simp [Value.category]) ?_
          refine X.aload_n dX11_eRead_191 rfl (j := 0) rfl ?_
          obtain ⟨v13, h14, hf⟩ := ob hf
          refine Y.getI dX11_eRead_192 fl_X11_121 rfl h14 ?_
          refine X.if_ne dX11_eRead_195 (tgt := 200) rfl (fun hc => ?_) (fun hc => ?_)
          · rw [if_neg hc] at hf
            refine X.aload_n dX11_eRead_200 rfl (j := 0) rfl ?_
            refine X.dup dX11_eRead_201 rfl ?_
            obtain ⟨v15, h16, hf⟩ := ob hf
            refine Y.getI dX11_eRead_202 fl_X11_121 rfl h16 ?_
            refine X.iconst dX11_eRead_205 kI_1 ?_
            refine X.isub dX11_eRead_206 ?_
            obtain ⟨g17, h18, hf⟩ := ob hf
            refine Y.putI dX11_eRead_207 fl_X11_121 rfl rfl rfl rfl h18 ?_
            refine X.aload_n dX11_eRead_210 rfl (j := 0) rfl ?_
            refine X.dup dX11_eRead_211 rfl ?_
            obtain ⟨v19, h20, hf⟩ := ob hf
            refine Y.getI dX11_eRead_212 fl_X11_127 rfl h20 ?_
            refine X.iconst dX11_eRead_215 kI_1 ?_
            refine X.isub dX11_eRead_216 ?_
            obtain ⟨g21, h22, hf⟩ := ob hf
            refine Y.putI dX11_eRead_217 fl_X11_127 rfl rfl rfl rfl h22 ?_
            refine X.aload_n dX11_eRead_220 rfl (j := 0) rfl ?_
            refine X.bipush dX11_eRead_221 kB_7 ?_
            obtain ⟨q24, h23, hf⟩ := ob hf
            refine Y.callV (av := [.int (7 : Int32)]) (ci := 11) dX11_eRead_223 (c_X11_unwinds (l := l) (D := D) h23) cw_X11_137 (by decide) rfl mk_X11_unwinds (o_X11_unwinds (k := q24) h23) (e_R_ok (Nat.le_of_ble_eq_true rfl) (Nat.le_of_ble_eq_true rfl)) ⟨rfl, rfl⟩ (by simp [Value.category]) ?_
            refine X.goto dX11_eRead_226 (tgt := 14) rfl ?_
            exact ih _ _ _ _ hf
          · rw [if_pos hc] at hf
            refine X.iconst dX11_eRead_198 kI_0 ?_
            obtain ⟨e1, e2⟩ := e_ret hf
            subst e1
            subst e2
            exact X.iret dX11_eRead_199 rfl rfl
      · rw [if_pos hc] at hf
        refine X.aload_n dX11_eRead_159 rfl (j := 0) rfl ?_
        refine X.iconst dX11_eRead_160 kI_1 ?_
        obtain ⟨q26, h25, hf⟩ := ob hf
        refine Y.callV (av := [.int (1 : Int32)]) (ci := 11) dX11_eRead_161 (c_X11_unwinds (l := l) (D := D) h25) cw_X11_137 (by decide) rfl mk_X11_unwinds (o_X11_unwinds (k := q26) h25) (e_R_ok (Nat.le_of_ble_eq_true rfl) (Nat.le_of_ble_eq_true rfl)) ⟨rfl, rfl⟩ (by simp [Value.category]) ?_
        refine X.aload_n dX11_eRead_164 rfl (j := 0) rfl ?_
        obtain ⟨v27, h28, hf⟩ := ob hf
        refine Y.getI dX11_eRead_165 fl_X11_121 rfl h28 ?_
        refine X.if_ne dX11_eRead_168 (tgt := 175) rfl (fun hc => ?_) (fun hc => ?_)
        · rw [if_neg hc] at hf
          refine X.iconst dX11_eRead_175 kI_0 ?_
          obtain ⟨e1, e2⟩ := e_ret hf
          subst e1
          subst e2
          exact X.iret dX11_eRead_176 rfl rfl
        · rw [if_pos hc] at hf
          refine X.iconst dX11_eRead_171 kI_1 ?_
          refine X.goto dX11_eRead_172 (tgt := 176) rfl ?_
          obtain ⟨e1, e2⟩ := e_ret hf
          subst e1
          subst e2
          exact X.iret dX11_eRead_176 rfl rfl
    · rw [if_neg hc] at hf
      refine X.aload_n dX11_eRead_22 rfl (j := 0) rfl ?_
      obtain ⟨v29, h30, hf⟩ := ob hf
      refine Y.getI dX11_eRead_23 fl_X11_108 rfl h30 ?_
      refine X.iconst dX11_eRead_26 kI_1 ?_
      refine X.icmp_eq dX11_eRead_27 (tgt := 38) rfl (fun hc => ?_) (fun hc => ?_)
      · rw [if_pos hc] at hf
        refine X.sub [0, 2] rfl ?_
        exact x_J_X11_eRead_38 _ ih hf
      · rw [if_neg hc] at hf
        refine X.aload_n dX11_eRead_30 rfl (j := 0) rfl ?_
        obtain ⟨v31, h32, hf⟩ := ob hf
        refine Y.getI dX11_eRead_31 fl_X11_108 rfl h32 ?_
        refine X.iconst dX11_eRead_34 kI_2 ?_
        refine X.icmp_ne dX11_eRead_35 (tgt := 75) rfl (fun hc => ?_) (fun hc => ?_)
        · rw [if_neg hc] at hf
          refine X.aload_n dX11_eRead_75 rfl (j := 0) rfl ?_
          obtain ⟨v33, h34, hf⟩ := ob hf
          refine Y.getI dX11_eRead_76 fl_X11_108 rfl h34 ?_
          refine X.bipush dX11_eRead_79 kB_6 ?_
          refine X.icmp_ne dX11_eRead_81 (tgt := 99) rfl (fun hc => ?_) (fun hc => ?_)
          · rw [if_neg hc] at hf
            refine X.sub [0, 1] rfl ?_
            exact x_J_X11_eRead_99 _ ih hf
          · rw [if_pos hc] at hf
            refine X.iload_n dX11_eRead_84 rfl (j := 2) rfl ?_
            refine X.if_eq dX11_eRead_85 (tgt := 99) rfl (fun hc => ?_) (fun hc => ?_)
            · rw [if_pos hc] at hf
              refine X.sub [0, 1] rfl ?_
              exact x_J_X11_eRead_99 _ ih hf
            · rw [if_neg hc] at hf
              refine X.aload_n dX11_eRead_88 rfl (j := 0) rfl ?_
              refine X.bipush dX11_eRead_89 kB_13 ?_
              obtain ⟨q36, h35, hf⟩ := ob hf
              refine Y.callV (av := [.int (13 : Int32)]) (ci := 11) dX11_eRead_91 (c_X11_opensOne (l := l) (D := D) (w := q36.1) (k := q36.2) h35) cw_X11_144 (by decide) rfl mk_X11_opensOne (o_X11_opensOne (w := q36.1) (k := q36.2) h35) (e_R_ok (Nat.le_of_ble_eq_true rfl) (Nat.le_of_ble_eq_true rfl)) ⟨rfl, rfl⟩ (by simp [Value.category]) ?_
              refine X.if_ne dX11_eRead_94 (tgt := 14) rfl (fun hc => ?_) (fun hc => ?_)
              · rw [if_neg hc] at hf
                exact ih _ _ _ _ hf
              · rw [if_pos hc] at hf
                refine X.iconst dX11_eRead_97 kI_0 ?_
                obtain ⟨e1, e2⟩ := e_ret hf
                subst e1
                subst e2
                exact X.iret dX11_eRead_98 rfl rfl
        · rw [if_pos hc] at hf
          refine X.sub [0, 2] rfl ?_
          exact x_J_X11_eRead_38 _ ih hf
theorem o_X11_eRead  {S : e_S} {w : Int32} {k : e_G} {l0 : Nat} {g : e_G} (hf : f_X11_eRead S l0 g = some (w, k)) : e_ob S 11 l0 = true := by
  unfold f_X11_eRead at hf
  by_cases hc : e_ob S 11 l0 = true
  · exact hc
  · rw [if_neg hc] at hf
    cases hf
theorem c_X11_eRead {l : Launch} {D : va_G}  {S : e_S} {w : Int32} {k : e_G} {l0 : Nat} {g : e_G} (hf : f_X11_eRead S l0 g = some (w, k)) : CT l D (e_R 4) M_X11_eRead [.ref l0] (S, g) (some (.int w)) (S, k) := by
  refine CT.of (by decide +kernel) (Nat.le_of_ble_eq_true rfl) ?_
  have ho := o_X11_eRead hf
  unfold f_X11_eRead at hf
  rw [if_pos ho] at hf
  show X l D (e_R 4) M_X11_eRead 0 0 0 [(0, .ref l0)] [] (S, g) (some (.int w)) (S, k)
  refine X.aload_n dX11_eRead_0 rfl (j := 0) rfl ?_
  refine X.iconst dX11_eRead_1 kI_0 ?_
  obtain ⟨g1, h2, hf⟩ := ob hf
  refine Y.putI dX11_eRead_2 fl_X11_121 rfl rfl rfl rfl h2 ?_
  refine X.aload_n dX11_eRead_5 rfl (j := 0) rfl ?_
  refine X.iconst dX11_eRead_6 kI_0 ?_
  obtain ⟨g3, h4, hf⟩ := ob hf
  refine Y.putI dX11_eRead_7 fl_X11_127 rfl rfl rfl rfl h4 ?_
  refine X.iconst dX11_eRead_10 kI_1 ?_
  refine X.istore_n dX11_eRead_11 rfl (Nat.le_of_ble_eq_true rfl) (lc' := [(1, .int (1 : Int32)), (0, .ref l0)]) rfl ?_
  refine X.iconst dX11_eRead_12 kI_1 ?_
  refine X.istore_n dX11_eRead_13 rfl (Nat.le_of_ble_eq_true rfl) (lc' := [(2, .int (1 : Int32)), (1, .int (1 : Int32)), (0, .ref l0)]) rfl ?_
  refine X.sub [2, 1, 0] rfl ?_
  exact x_L_X11_eRead_14 50000 _ _ _ _ hf
/-! LeanedOutModel.text()I -/
abbrev M_X11_text : e_M := (yX11_text, cX11_text, 3, (some .int))
theorem mk_X11_text : e_Mok M_X11_text 0 := ⟨by decide +kernel, by decide +kernel, by decide +kernel⟩
theorem dX11_text_0 : decode cX11_text 0 = .ok (.aload_n 0, 1) := by decide +kernel
theorem dX11_text_1 : decode cX11_text 1 = .ok (.getfield 92, 3) := by decide +kernel
theorem dX11_text_4 : decode cX11_text 4 = .ok (.bipush 6, 2) := by decide +kernel
theorem dX11_text_6 : decode cX11_text 6 = .ok (.if_icmp .ne 6, 3) := by decide +kernel
theorem dX11_text_9 : decode cX11_text 9 = .ok (.bipush (-4), 2) := by decide +kernel
theorem dX11_text_11 : decode cX11_text 11 = .ok (.ireturn, 1) := by decide +kernel
theorem dX11_text_12 : decode cX11_text 12 = .ok (.aload_n 0, 1) := by decide +kernel
theorem dX11_text_13 : decode cX11_text 13 = .ok (.iconst 0, 1) := by decide +kernel
theorem dX11_text_14 : decode cX11_text 14 = .ok (.putfield 102, 3) := by decide +kernel
theorem dX11_text_17 : decode cX11_text 17 = .ok (.aload_n 0, 1) := by decide +kernel
theorem dX11_text_18 : decode cX11_text 18 = .ok (.iconst 0, 1) := by decide +kernel
theorem dX11_text_19 : decode cX11_text 19 = .ok (.putfield 118, 3) := by decide +kernel
theorem dX11_text_22 : decode cX11_text 22 = .ok (.iconst 1, 1) := by decide +kernel
theorem dX11_text_23 : decode cX11_text 23 = .ok (.istore_n 1, 1) := by decide +kernel
theorem dX11_text_24 : decode cX11_text 24 = .ok (.iconst 0, 1) := by decide +kernel
theorem dX11_text_25 : decode cX11_text 25 = .ok (.istore_n 2, 1) := by decide +kernel
theorem dX11_text_26 : decode cX11_text 26 = .ok (.iload_n 2, 1) := by decide +kernel
theorem dX11_text_27 : decode cX11_text 27 = .ok (.iconst 3, 1) := by decide +kernel
theorem dX11_text_28 : decode cX11_text 28 = .ok (.if_icmp .ge 73, 3) := by decide +kernel
theorem dX11_text_31 : decode cX11_text 31 = .ok (.iload_n 1, 1) := by decide +kernel
theorem dX11_text_32 : decode cX11_text 32 = .ok (.ifCond .eq 69, 3) := by decide +kernel
theorem dX11_text_35 : decode cX11_text 35 = .ok (.aload_n 0, 1) := by decide +kernel
theorem dX11_text_36 : decode cX11_text 36 = .ok (.invokevirtual 140, 3) := by decide +kernel
theorem dX11_text_39 : decode cX11_text 39 = .ok (.aload_n 0, 1) := by decide +kernel
theorem dX11_text_40 : decode cX11_text 40 = .ok (.getfield 108, 3) := by decide +kernel
theorem dX11_text_43 : decode cX11_text 43 = .ok (.iconst 3, 1) := by decide +kernel
theorem dX11_text_44 : decode cX11_text 44 = .ok (.if_icmp .ne 15, 3) := by decide +kernel
theorem dX11_text_47 : decode cX11_text 47 = .ok (.aload_n 0, 1) := by decide +kernel
theorem dX11_text_48 : decode cX11_text 48 = .ok (.getfield 111, 3) := by decide +kernel
theorem dX11_text_51 : decode cX11_text 51 = .ok (.iload_n 2, 1) := by decide +kernel
theorem dX11_text_52 : decode cX11_text 52 = .ok (.if_icmp .ne 7, 3) := by decide +kernel
theorem dX11_text_55 : decode cX11_text 55 = .ok (.iconst 1, 1) := by decide +kernel
theorem dX11_text_56 : decode cX11_text 56 = .ok (.goto 4, 3) := by decide +kernel
theorem dX11_text_59 : decode cX11_text 59 = .ok (.iconst 0, 1) := by decide +kernel
theorem dX11_text_60 : decode cX11_text 60 = .ok (.istore_n 1, 1) := by decide +kernel
theorem dX11_text_61 : decode cX11_text 61 = .ok (.aload_n 0, 1) := by decide +kernel
theorem dX11_text_62 : decode cX11_text 62 = .ok (.getfield 25, 3) := by decide +kernel
theorem dX11_text_65 : decode cX11_text 65 = .ok (.iconst 4, 1) := by decide +kernel
theorem dX11_text_66 : decode cX11_text 66 = .ok (.aload_n 0, 1) := by decide +kernel
theorem dX11_text_67 : decode cX11_text 67 = .ok (.getfield 92, 3) := by decide +kernel
theorem dX11_text_70 : decode cX11_text 70 = .ok (.imul, 1) := by decide +kernel
theorem dX11_text_71 : decode cX11_text 71 = .ok (.iload_n 2, 1) := by decide +kernel
theorem dX11_text_72 : decode cX11_text 72 = .ok (.iadd, 1) := by decide +kernel
theorem dX11_text_73 : decode cX11_text 73 = .ok (.aload_n 0, 1) := by decide +kernel
theorem dX11_text_74 : decode cX11_text 74 = .ok (.getfield 118, 3) := by decide +kernel
theorem dX11_text_77 : decode cX11_text 77 = .ok (.iastore, 1) := by decide +kernel
theorem dX11_text_78 : decode cX11_text 78 = .ok (.iload_n 1, 1) := by decide +kernel
theorem dX11_text_79 : decode cX11_text 79 = .ok (.ifCond .eq 14, 3) := by decide +kernel
theorem dX11_text_82 : decode cX11_text 82 = .ok (.aload_n 0, 1) := by decide +kernel
theorem dX11_text_83 : decode cX11_text 83 = .ok (.invokevirtual 153, 3) := by decide +kernel
theorem dX11_text_86 : decode cX11_text 86 = .ok (.ifCond .eq 7, 3) := by decide +kernel
theorem dX11_text_89 : decode cX11_text 89 = .ok (.iconst 1, 1) := by decide +kernel
theorem dX11_text_90 : decode cX11_text 90 = .ok (.goto 4, 3) := by decide +kernel
theorem dX11_text_93 : decode cX11_text 93 = .ok (.iconst 0, 1) := by decide +kernel
theorem dX11_text_94 : decode cX11_text 94 = .ok (.istore_n 1, 1) := by decide +kernel
theorem dX11_text_95 : decode cX11_text 95 = .ok (.iinc 2 1, 3) := by decide +kernel
theorem dX11_text_98 : decode cX11_text 98 = .ok (.goto (-72), 3) := by decide +kernel
theorem dX11_text_101 : decode cX11_text 101 = .ok (.iload_n 1, 1) := by decide +kernel
theorem dX11_text_102 : decode cX11_text 102 = .ok (.ifCond .eq 20, 3) := by decide +kernel
theorem dX11_text_105 : decode cX11_text 105 = .ok (.aload_n 0, 1) := by decide +kernel
theorem dX11_text_106 : decode cX11_text 106 = .ok (.invokevirtual 140, 3) := by decide +kernel
theorem dX11_text_109 : decode cX11_text 109 = .ok (.aload_n 0, 1) := by decide +kernel
theorem dX11_text_110 : decode cX11_text 110 = .ok (.getfield 108, 3) := by decide +kernel
theorem dX11_text_113 : decode cX11_text 113 = .ok (.ifCond .ne 7, 3) := by decide +kernel
theorem dX11_text_116 : decode cX11_text 116 = .ok (.iconst 1, 1) := by decide +kernel
theorem dX11_text_117 : decode cX11_text 117 = .ok (.goto 4, 3) := by decide +kernel
theorem dX11_text_120 : decode cX11_text 120 = .ok (.iconst 0, 1) := by decide +kernel
theorem dX11_text_121 : decode cX11_text 121 = .ok (.istore_n 1, 1) := by decide +kernel
theorem dX11_text_122 : decode cX11_text 122 = .ok (.aload_n 0, 1) := by decide +kernel
theorem dX11_text_123 : decode cX11_text 123 = .ok (.getfield 25, 3) := by decide +kernel
theorem dX11_text_126 : decode cX11_text 126 = .ok (.iconst 4, 1) := by decide +kernel
theorem dX11_text_127 : decode cX11_text 127 = .ok (.aload_n 0, 1) := by decide +kernel
theorem dX11_text_128 : decode cX11_text 128 = .ok (.getfield 92, 3) := by decide +kernel
theorem dX11_text_131 : decode cX11_text 131 = .ok (.imul, 1) := by decide +kernel
theorem dX11_text_132 : decode cX11_text 132 = .ok (.iconst 3, 1) := by decide +kernel
theorem dX11_text_133 : decode cX11_text 133 = .ok (.iadd, 1) := by decide +kernel
theorem dX11_text_134 : decode cX11_text 134 = .ok (.aload_n 0, 1) := by decide +kernel
theorem dX11_text_135 : decode cX11_text 135 = .ok (.getfield 118, 3) := by decide +kernel
theorem dX11_text_138 : decode cX11_text 138 = .ok (.iastore, 1) := by decide +kernel
theorem dX11_text_139 : decode cX11_text 139 = .ok (.aload_n 0, 1) := by decide +kernel
theorem dX11_text_140 : decode cX11_text 140 = .ok (.iconst 0, 1) := by decide +kernel
theorem dX11_text_141 : decode cX11_text 141 = .ok (.putfield 67, 3) := by decide +kernel
theorem dX11_text_144 : decode cX11_text 144 = .ok (.iload_n 1, 1) := by decide +kernel
theorem dX11_text_145 : decode cX11_text 145 = .ok (.ifCond .ne 11, 3) := by decide +kernel
theorem dX11_text_148 : decode cX11_text 148 = .ok (.bipush (-100), 2) := by decide +kernel
theorem dX11_text_150 : decode cX11_text 150 = .ok (.aload_n 0, 1) := by decide +kernel
theorem dX11_text_151 : decode cX11_text 151 = .ok (.getfield 105, 3) := by decide +kernel
theorem dX11_text_154 : decode cX11_text 154 = .ok (.isub, 1) := by decide +kernel
theorem dX11_text_155 : decode cX11_text 155 = .ok (.ireturn, 1) := by decide +kernel
theorem dX11_text_156 : decode cX11_text 156 = .ok (.aload_n 0, 1) := by decide +kernel
theorem dX11_text_157 : decode cX11_text 157 = .ok (.dup, 1) := by decide +kernel
theorem dX11_text_158 : decode cX11_text 158 = .ok (.getfield 92, 3) := by decide +kernel
theorem dX11_text_161 : decode cX11_text 161 = .ok (.iconst 1, 1) := by decide +kernel
theorem dX11_text_162 : decode cX11_text 162 = .ok (.iadd, 1) := by decide +kernel
theorem dX11_text_163 : decode cX11_text 163 = .ok (.putfield 92, 3) := by decide +kernel
theorem dX11_text_166 : decode cX11_text 166 = .ok (.aload_n 0, 1) := by decide +kernel
theorem dX11_text_167 : decode cX11_text 167 = .ok (.getfield 92, 3) := by decide +kernel
theorem dX11_text_170 : decode cX11_text 170 = .ok (.iconst 1, 1) := by decide +kernel
theorem dX11_text_171 : decode cX11_text 171 = .ok (.isub, 1) := by decide +kernel
theorem dX11_text_172 : decode cX11_text 172 = .ok (.ireturn, 1) := by decide +kernel
def J_X11_text_94 (c26 : Nat → Int32 → Int32 → e_G → Option (Int32 × e_G)) (S : e_S) (l0 : Nat) (l2 : Int32) (t0 : Int32) (g : e_G) : Option (Int32 × e_G) :=
  c26 l0 t0 (l2 + (1 : Int32)) g
def J_X11_text_93 (c26 : Nat → Int32 → Int32 → e_G → Option (Int32 × e_G)) (S : e_S) (l0 : Nat) (l2 : Int32) (g : e_G) : Option (Int32 × e_G) :=
  J_X11_text_94 c26 S l0 l2 (0 : Int32) g
def J_X11_text_60 (c26 : Nat → Int32 → Int32 → e_G → Option (Int32 × e_G)) (S : e_S) (l0 : Nat) (l2 : Int32) (t0 : Int32) (g : e_G) : Option (Int32 × e_G) :=
  (e_gR S g 11 l0 8).bind fun v1 =>
  (e_gI S g 11 l0 9).bind fun v3 =>
  (e_gI S g 11 l0 26).bind fun v5 =>
  (e_aS S g 0 v1 (((4 : Int32) * v3) + l2) v5).bind fun g7 =>
  if t0 = 0 then
    J_X11_text_93 c26 S l0 l2 g7
  else
    (f_X11_eRead S l0 g7).bind fun q10 =>
    if q10.1 = 0 then
      J_X11_text_93 c26 S l0 l2 q10.2
    else
      J_X11_text_94 c26 S l0 l2 (1 : Int32) q10.2
def J_X11_text_59 (c26 : Nat → Int32 → Int32 → e_G → Option (Int32 × e_G)) (S : e_S) (l0 : Nat) (l2 : Int32) (g : e_G) : Option (Int32 × e_G) :=
  J_X11_text_60 c26 S l0 l2 (0 : Int32) g
def J_X11_text_122 (S : e_S) (l0 : Nat) (l1 : Int32) (g : e_G) : Option (Int32 × e_G) :=
  (e_gR S g 11 l0 8).bind fun v1 =>
  (e_gI S g 11 l0 9).bind fun v3 =>
  (e_gI S g 11 l0 26).bind fun v5 =>
  (e_aS S g 0 v1 (((4 : Int32) * v3) + (3 : Int32)) v5).bind fun g7 =>
  (e_sI S g7 11 l0 6 (0 : Int32)).bind fun g9 =>
  if l1 = 0 then
    (e_gI S g9 11 l0 19).bind fun v17 =>
    some ((-100 : Int32) - v17, g9)
  else
    (e_gI S g9 11 l0 9).bind fun v11 =>
    (e_sI S g9 11 l0 9 (v11 + (1 : Int32))).bind fun g13 =>
    (e_gI S g13 11 l0 9).bind fun v15 =>
    some (v15 - (1 : Int32), g13)
def J_X11_text_121 (S : e_S) (l0 : Nat) (t0 : Int32) (g : e_G) : Option (Int32 × e_G) :=
  J_X11_text_122 S l0 t0 g
def J_X11_text_101 (S : e_S) (l0 : Nat) (l1 : Int32) (g : e_G) : Option (Int32 × e_G) :=
  if l1 = 0 then
    J_X11_text_122 S l0 l1 g
  else
    (f_X11_next S l0 g).bind fun q2 =>
    (e_gI S q2 11 l0 20).bind fun v3 =>
    if v3 = 0 then
      J_X11_text_121 S l0 (1 : Int32) q2
    else
      J_X11_text_121 S l0 (0 : Int32) q2
def L_X11_text_26 : Nat → e_S → Nat → Int32 → Int32 → e_G → Option (Int32 × e_G)
  | 0, _, _, _, _, _ => none
  | n + 1, S, l0, l1, l2, g =>
  if (3 : Int32) ≤ l2 then
    J_X11_text_101 S l0 l1 g
  else
    if l1 = 0 then
      J_X11_text_101 S l0 l1 g
    else
      (f_X11_next S l0 g).bind fun q2 =>
      (e_gI S q2 11 l0 20).bind fun v3 =>
      if v3 = (3 : Int32) then
        (e_gI S q2 11 l0 21).bind fun v5 =>
        if v5 = l2 then
          J_X11_text_60 (L_X11_text_26 n S) S l0 l2 (1 : Int32) q2
        else
          J_X11_text_59 (L_X11_text_26 n S) S l0 l2 q2
      else
        J_X11_text_59 (L_X11_text_26 n S) S l0 l2 q2
def f_X11_text (S : e_S) (l0 : Nat) (g : e_G) : Option (Int32 × e_G) :=
  if e_ob S 11 l0 = true then
    (e_gI S g 11 l0 9).bind fun v1 =>
    if v1 = (6 : Int32) then
      some ((-4 : Int32), g)
    else
      (e_sI S g 11 l0 18 (0 : Int32)).bind fun g3 =>
      (e_sI S g3 11 l0 26 (0 : Int32)).bind fun g5 =>
      L_X11_text_26 50000 S l0 (1 : Int32) (0 : Int32) g5
  else none
theorem x_J_X11_text_94 {l : Launch} {D : va_G} {S : e_S} {w : Int32} {k : e_G} (c26 : Nat → Int32 → Int32 → e_G → Option (Int32 × e_G)) (hc26 : ∀ (l0 : Nat) (l1 : Int32) (l2 : Int32) (g : e_G), c26 l0 l1 l2 g = some (w, k) → X l D (e_R 5) M_X11_text 0 0 26 [(0, .ref l0), (1, .int l1), (2, .int l2)] [] (S, g) (some (.int w)) (S, k)) {l0 : Nat} {l2 : Int32} {t0 : Int32} {g : e_G} (hf : J_X11_text_94 c26 S l0 l2 t0 g = some (w, k)) : X l D (e_R 5) M_X11_text 0 0 94 [(0, .ref l0), (2, .int l2)] [.int t0] (S, g) (some (.int w)) (S, k) := by
  unfold J_X11_text_94 at hf
  refine X.istore_n dX11_text_94 rfl (Nat.le_of_ble_eq_true rfl) (lc' := [(1, .int t0), (0, .ref l0), (2, .int l2)]) rfl ?_
  refine X.iinc (j := 2) dX11_text_95 rfl (v := l2 + (1 : Int32)) (by rw [kI_1]) (Nat.le_of_ble_eq_true rfl) (lc' := [(2, .int (l2 + (1 : Int32))), (1, .int t0), (0, .ref l0)]) rfl ?_
  refine X.goto dX11_text_98 (tgt := 26) rfl ?_
  refine X.sub [2, 1, 0] rfl ?_
  exact hc26 _ _ _ _ hf
theorem x_J_X11_text_93 {l : Launch} {D : va_G} {S : e_S} {w : Int32} {k : e_G} (c26 : Nat → Int32 → Int32 → e_G → Option (Int32 × e_G)) (hc26 : ∀ (l0 : Nat) (l1 : Int32) (l2 : Int32) (g : e_G), c26 l0 l1 l2 g = some (w, k) → X l D (e_R 5) M_X11_text 0 0 26 [(0, .ref l0), (1, .int l1), (2, .int l2)] [] (S, g) (some (.int w)) (S, k)) {l0 : Nat} {l2 : Int32} {g : e_G} (hf : J_X11_text_93 c26 S l0 l2 g = some (w, k)) : X l D (e_R 5) M_X11_text 0 0 93 [(0, .ref l0), (2, .int l2)] [] (S, g) (some (.int w)) (S, k) := by
  unfold J_X11_text_93 at hf
  refine X.iconst dX11_text_93 kI_0 ?_
  exact x_J_X11_text_94 _ hc26 hf
theorem x_J_X11_text_60 {l : Launch} {D : va_G} {S : e_S} {w : Int32} {k : e_G} (c26 : Nat → Int32 → Int32 → e_G → Option (Int32 × e_G)) (hc26 : ∀ (l0 : Nat) (l1 : Int32) (l2 : Int32) (g : e_G), c26 l0 l1 l2 g = some (w, k) → X l D (e_R 5) M_X11_text 0 0 26 [(0, .ref l0), (1, .int l1), (2, .int l2)] [] (S, g) (some (.int w)) (S, k)) {l0 : Nat} {l2 : Int32} {t0 : Int32} {g : e_G} (hf : J_X11_text_60 c26 S l0 l2 t0 g = some (w, k)) : X l D (e_R 5) M_X11_text 0 0 60 [(0, .ref l0), (2, .int l2)] [.int t0] (S, g) (some (.int w)) (S, k) := by
  unfold J_X11_text_60 at hf
  refine X.istore_n dX11_text_60 rfl (Nat.le_of_ble_eq_true rfl) (lc' := [(1, .int t0), (0, .ref l0), (2, .int l2)]) rfl ?_
  refine X.aload_n dX11_text_61 rfl (j := 1) rfl ?_
  obtain ⟨v1, h2, hf⟩ := ob hf
  refine Y.getR dX11_text_62 fl_X11_25 rfl h2 ?_
  refine X.iconst dX11_text_65 kI_4 ?_
  refine X.aload_n dX11_text_66 rfl (j := 1) rfl ?_
  obtain ⟨v3, h4, hf⟩ := ob hf
  refine Y.getI dX11_text_67 fl_X11_92 rfl h4 ?_
  refine X.imul dX11_text_70 ?_
  refine X.iload_n dX11_text_71 rfl (j := 2) rfl ?_
  refine X.iadd dX11_text_72 ?_
  refine X.aload_n dX11_text_73 rfl (j := 1) rfl ?_
  obtain ⟨v5, h6, hf⟩ := ob hf
  refine Y.getI dX11_text_74 fl_X11_118 rfl h6 ?_
  obtain ⟨g7, h8, hf⟩ := ob hf
  refine Y.iast dX11_text_77 h8 ?_
  refine X.iload_n dX11_text_78 rfl (j := 0) rfl ?_
  refine X.if_eq dX11_text_79 (tgt := 93) rfl (fun hc => ?_) (fun hc => ?_)
  · rw [if_pos hc] at hf
    refine X.sub [1, 2] rfl ?_
    exact x_J_X11_text_93 _ hc26 hf
  · rw [if_neg hc] at hf
    refine X.aload_n dX11_text_82 rfl (j := 1) rfl ?_
    obtain ⟨q10, h9, hf⟩ := ob hf
    refine Y.callV (av := []) (ci := 11) dX11_text_83 (c_X11_eRead (l := l) (D := D) (w := q10.1) (k := q10.2) h9) cw_X11_153 (by decide) rfl mk_X11_eRead (o_X11_eRead (w := q10.1) (k := q10.2) h9) (e_R_ok (Nat.le_of_ble_eq_true rfl) (Nat.le_of_ble_eq_true rfl)) ⟨rfl, rfl⟩ (by simp [Value.category]) ?_
    refine X.if_eq dX11_text_86 (tgt := 93) rfl (fun hc => ?_) (fun hc => ?_)
    · rw [if_pos hc] at hf
      refine X.sub [1, 2] rfl ?_
      exact x_J_X11_text_93 _ hc26 hf
    · rw [if_neg hc] at hf
      refine X.iconst dX11_text_89 kI_1 ?_
      refine X.goto dX11_text_90 (tgt := 94) rfl ?_
      refine X.sub [1, 2] rfl ?_
      exact x_J_X11_text_94 _ hc26 hf
theorem x_J_X11_text_59 {l : Launch} {D : va_G} {S : e_S} {w : Int32} {k : e_G} (c26 : Nat → Int32 → Int32 → e_G → Option (Int32 × e_G)) (hc26 : ∀ (l0 : Nat) (l1 : Int32) (l2 : Int32) (g : e_G), c26 l0 l1 l2 g = some (w, k) → X l D (e_R 5) M_X11_text 0 0 26 [(0, .ref l0), (1, .int l1), (2, .int l2)] [] (S, g) (some (.int w)) (S, k)) {l0 : Nat} {l2 : Int32} {g : e_G} (hf : J_X11_text_59 c26 S l0 l2 g = some (w, k)) : X l D (e_R 5) M_X11_text 0 0 59 [(0, .ref l0), (2, .int l2)] [] (S, g) (some (.int w)) (S, k) := by
  unfold J_X11_text_59 at hf
  refine X.iconst dX11_text_59 kI_0 ?_
  exact x_J_X11_text_60 _ hc26 hf
theorem x_J_X11_text_122 {l : Launch} {D : va_G} {S : e_S} {w : Int32} {k : e_G} {l0 : Nat} {l1 : Int32} {g : e_G} (hf : J_X11_text_122 S l0 l1 g = some (w, k)) : X l D (e_R 5) M_X11_text 0 0 122 [(0, .ref l0), (1, .int l1)] [] (S, g) (some (.int w)) (S, k) := by
  unfold J_X11_text_122 at hf
  refine X.aload_n dX11_text_122 rfl (j := 0) rfl ?_
  obtain ⟨v1, h2, hf⟩ := ob hf
  refine Y.getR dX11_text_123 fl_X11_25 rfl h2 ?_
  refine X.iconst dX11_text_126 kI_4 ?_
  refine X.aload_n dX11_text_127 rfl (j := 0) rfl ?_
  obtain ⟨v3, h4, hf⟩ := ob hf
  refine Y.getI dX11_text_128 fl_X11_92 rfl h4 ?_
  refine X.imul dX11_text_131 ?_
  refine X.iconst dX11_text_132 kI_3 ?_
  refine X.iadd dX11_text_133 ?_
  refine X.aload_n dX11_text_134 rfl (j := 0) rfl ?_
  obtain ⟨v5, h6, hf⟩ := ob hf
  refine Y.getI dX11_text_135 fl_X11_118 rfl h6 ?_
  obtain ⟨g7, h8, hf⟩ := ob hf
  refine Y.iast dX11_text_138 h8 ?_
  refine X.aload_n dX11_text_139 rfl (j := 0) rfl ?_
  refine X.iconst dX11_text_140 kI_0 ?_
  obtain ⟨g9, h10, hf⟩ := ob hf
  refine Y.putI dX11_text_141 fl_X11_67 rfl rfl rfl rfl h10 ?_
  refine X.iload_n dX11_text_144 rfl (j := 1) rfl ?_
  refine X.if_ne dX11_text_145 (tgt := 156) rfl (fun hc => ?_) (fun hc => ?_)
  · rw [if_neg hc] at hf
    refine X.aload_n dX11_text_156 rfl (j := 0) rfl ?_
    refine X.dup dX11_text_157 rfl ?_
    obtain ⟨v11, h12, hf⟩ := ob hf
    refine Y.getI dX11_text_158 fl_X11_92 rfl h12 ?_
    refine X.iconst dX11_text_161 kI_1 ?_
    refine X.iadd dX11_text_162 ?_
    obtain ⟨g13, h14, hf⟩ := ob hf
    refine Y.putI dX11_text_163 fl_X11_92 rfl rfl rfl rfl h14 ?_
    refine X.aload_n dX11_text_166 rfl (j := 0) rfl ?_
    obtain ⟨v15, h16, hf⟩ := ob hf
    refine Y.getI dX11_text_167 fl_X11_92 rfl h16 ?_
    refine X.iconst dX11_text_170 kI_1 ?_
    refine X.isub dX11_text_171 ?_
    obtain ⟨e1, e2⟩ := e_ret hf
    subst e1
    subst e2
    exact X.iret dX11_text_172 rfl rfl
  · rw [if_pos hc] at hf
    refine X.bipush dX11_text_148 kB_m100 ?_
    refine X.aload_n dX11_text_150 rfl (j := 0) rfl ?_
    obtain ⟨v17, h18, hf⟩ := ob hf
    refine Y.getI dX11_text_151 fl_X11_105 rfl h18 ?_
    refine X.isub dX11_text_154 ?_
    obtain ⟨e1, e2⟩ := e_ret hf
    subst e1
    subst e2
    exact X.iret dX11_text_155 rfl rfl
theorem x_J_X11_text_121 {l : Launch} {D : va_G} {S : e_S} {w : Int32} {k : e_G} {l0 : Nat} {t0 : Int32} {g : e_G} (hf : J_X11_text_121 S l0 t0 g = some (w, k)) : X l D (e_R 5) M_X11_text 0 0 121 [(0, .ref l0)] [.int t0] (S, g) (some (.int w)) (S, k) := by
  unfold J_X11_text_121 at hf
  refine X.istore_n dX11_text_121 rfl (Nat.le_of_ble_eq_true rfl) (lc' := [(1, .int t0), (0, .ref l0)]) rfl ?_
  refine X.sub [1, 0] rfl ?_
  exact x_J_X11_text_122 hf
theorem x_J_X11_text_101 {l : Launch} {D : va_G} {S : e_S} {w : Int32} {k : e_G} {l0 : Nat} {l1 : Int32} {g : e_G} (hf : J_X11_text_101 S l0 l1 g = some (w, k)) : X l D (e_R 5) M_X11_text 0 0 101 [(0, .ref l0), (1, .int l1)] [] (S, g) (some (.int w)) (S, k) := by
  unfold J_X11_text_101 at hf
  refine X.iload_n dX11_text_101 rfl (j := 1) rfl ?_
  refine X.if_eq dX11_text_102 (tgt := 122) rfl (fun hc => ?_) (fun hc => ?_)
  · rw [if_pos hc] at hf
    exact x_J_X11_text_122 hf
  · rw [if_neg hc] at hf
    refine X.aload_n dX11_text_105 rfl (j := 0) rfl ?_
    obtain ⟨q2, h1, hf⟩ := ob hf
    refine Y.callV (av := []) (ci := 11) dX11_text_106 (c_X11_next (l := l) (D := D) h1) cw_X11_140 (by decide) rfl mk_X11_next (o_X11_next (k := q2) h1) (e_R_ok (Nat.le_of_ble_eq_true rfl) (Nat.le_of_ble_eq_true rfl)) ⟨rfl, rfl⟩ (by simp [Value.category]) ?_
    refine X.aload_n dX11_text_109 rfl (j := 0) rfl ?_
    obtain ⟨v3, h4, hf⟩ := ob hf
    refine Y.getI dX11_text_110 fl_X11_108 rfl h4 ?_
    refine X.if_ne dX11_text_113 (tgt := 120) rfl (fun hc => ?_) (fun hc => ?_)
    · rw [if_neg hc] at hf
      refine X.iconst dX11_text_120 kI_0 ?_
      refine X.sub [0] rfl ?_
      exact x_J_X11_text_121 hf
    · rw [if_pos hc] at hf
      refine X.iconst dX11_text_116 kI_1 ?_
      refine X.goto dX11_text_117 (tgt := 121) rfl ?_
      refine X.sub [0] rfl ?_
      exact x_J_X11_text_121 hf
theorem x_L_X11_text_26 {l : Launch} {D : va_G} {S : e_S} {w : Int32} {k : e_G} : ∀ (n : Nat) (l0 : Nat) (l1 : Int32) (l2 : Int32) (g : e_G), L_X11_text_26 n S l0 l1 l2 g = some (w, k) → X l D (e_R 5) M_X11_text 0 0 26 [(0, .ref l0), (1, .int l1), (2, .int l2)] [] (S, g) (some (.int w)) (S, k) := by
  intro n
  induction n with
  | zero =>
    intro l0 l1 l2 g hf
    cases hf
  | succ n ih =>
    intro l0 l1 l2 g hf
    rw [L_X11_text_26] at hf
    refine X.iload_n dX11_text_26 rfl (j := 2) rfl ?_
    refine X.iconst dX11_text_27 kI_3 ?_
    refine X.icmp_ge dX11_text_28 (tgt := 101) rfl (fun hc => ?_) (fun hc => ?_)
    · rw [if_pos hc] at hf
      refine X.sub [0, 1] rfl ?_
      exact x_J_X11_text_101 hf
    · rw [if_neg hc] at hf
      refine X.iload_n dX11_text_31 rfl (j := 1) rfl ?_
      refine X.if_eq dX11_text_32 (tgt := 101) rfl (fun hc => ?_) (fun hc => ?_)
      · rw [if_pos hc] at hf
        refine X.sub [0, 1] rfl ?_
        exact x_J_X11_text_101 hf
      · rw [if_neg hc] at hf
        refine X.aload_n dX11_text_35 rfl (j := 0) rfl ?_
        obtain ⟨q2, h1, hf⟩ := ob hf
        refine Y.callV (av := []) (ci := 11) dX11_text_36 (c_X11_next (l := l) (D := D) h1) cw_X11_140 (by decide) rfl mk_X11_next (o_X11_next (k := q2) h1) (e_R_ok (Nat.le_of_ble_eq_true rfl) (Nat.le_of_ble_eq_true rfl)) ⟨rfl, rfl⟩ (by simp [Value.category]) ?_
        refine X.aload_n dX11_text_39 rfl (j := 0) rfl ?_
        obtain ⟨v3, h4, hf⟩ := ob hf
        refine Y.getI dX11_text_40 fl_X11_108 rfl h4 ?_
        refine X.iconst dX11_text_43 kI_3 ?_
        refine X.icmp_ne dX11_text_44 (tgt := 59) rfl (fun hc => ?_) (fun hc => ?_)
        · rw [if_neg hc] at hf
          refine X.sub [0, 2] rfl ?_
          exact x_J_X11_text_59 _ ih hf
        · rw [if_pos hc] at hf
          refine X.aload_n dX11_text_47 rfl (j := 0) rfl ?_
          obtain ⟨v5, h6, hf⟩ := ob hf
          refine Y.getI dX11_text_48 fl_X11_111 rfl h6 ?_
          refine X.iload_n dX11_text_51 rfl (j := 2) rfl ?_
          refine X.icmp_ne dX11_text_52 (tgt := 59) rfl (fun hc => ?_) (fun hc => ?_)
          · rw [if_neg hc] at hf
            refine X.sub [0, 2] rfl ?_
            exact x_J_X11_text_59 _ ih hf
          · rw [if_pos hc] at hf
            refine X.iconst dX11_text_55 kI_1 ?_
            refine X.goto dX11_text_56 (tgt := 60) rfl ?_
            refine X.sub [0, 2] rfl ?_
            exact x_J_X11_text_60 _ ih hf
theorem o_X11_text  {S : e_S} {w : Int32} {k : e_G} {l0 : Nat} {g : e_G} (hf : f_X11_text S l0 g = some (w, k)) : e_ob S 11 l0 = true := by
  unfold f_X11_text at hf
  by_cases hc : e_ob S 11 l0 = true
  · exact hc
  · rw [if_neg hc] at hf
    cases hf
theorem c_X11_text {l : Launch} {D : va_G}  {S : e_S} {w : Int32} {k : e_G} {l0 : Nat} {g : e_G} (hf : f_X11_text S l0 g = some (w, k)) : CT l D (e_R 5) M_X11_text [.ref l0] (S, g) (some (.int w)) (S, k) := by
  refine CT.of (by decide +kernel) (Nat.le_of_ble_eq_true rfl) ?_
  have ho := o_X11_text hf
  unfold f_X11_text at hf
  rw [if_pos ho] at hf
  show X l D (e_R 5) M_X11_text 0 0 0 [(0, .ref l0)] [] (S, g) (some (.int w)) (S, k)
  refine X.aload_n dX11_text_0 rfl (j := 0) rfl ?_
  obtain ⟨v1, h2, hf⟩ := ob hf
  refine Y.getI dX11_text_1 fl_X11_92 rfl h2 ?_
  refine X.bipush dX11_text_4 kB_6 ?_
  refine X.icmp_ne dX11_text_6 (tgt := 12) rfl (fun hc => ?_) (fun hc => ?_)
  · rw [if_neg hc] at hf
    refine X.aload_n dX11_text_12 rfl (j := 0) rfl ?_
    refine X.iconst dX11_text_13 kI_0 ?_
    obtain ⟨g3, h4, hf⟩ := ob hf
    refine Y.putI dX11_text_14 fl_X11_102 rfl rfl rfl rfl h4 ?_
    refine X.aload_n dX11_text_17 rfl (j := 0) rfl ?_
    refine X.iconst dX11_text_18 kI_0 ?_
    obtain ⟨g5, h6, hf⟩ := ob hf
    refine Y.putI dX11_text_19 fl_X11_118 rfl rfl rfl rfl h6 ?_
    refine X.iconst dX11_text_22 kI_1 ?_
    refine X.istore_n dX11_text_23 rfl (Nat.le_of_ble_eq_true rfl) (lc' := [(1, .int (1 : Int32)), (0, .ref l0)]) rfl ?_
    refine X.iconst dX11_text_24 kI_0 ?_
    refine X.istore_n dX11_text_25 rfl (Nat.le_of_ble_eq_true rfl) (lc' := [(2, .int (0 : Int32)), (1, .int (1 : Int32)), (0, .ref l0)]) rfl ?_
    refine X.sub [2, 1, 0] rfl ?_
    exact x_L_X11_text_26 50000 _ _ _ _ hf
  · rw [if_pos hc] at hf
    refine X.bipush dX11_text_9 kB_m4 ?_
    obtain ⟨e1, e2⟩ := e_ret hf
    subst e1
    subst e2
    exact X.iret dX11_text_11 rfl rfl
/-! LeanedOutModel.two(III)I -/
abbrev M_X11_two : e_M := (yX11_two, cX11_two, 3, (some .int))
theorem mk_X11_two : e_Mok M_X11_two 3 := ⟨by decide +kernel, by decide +kernel, by decide +kernel⟩
theorem dX11_two_0 : decode cX11_two 0 = .ok (.iload_n 0, 1) := by decide +kernel
theorem dX11_two_1 : decode cX11_two 1 = .ok (.tableswitch 101 11 17 #[43, 57, 101, 71, 82, 93, 97], 43) := by decide +kernel
theorem dX11_two_44 : decode cX11_two 44 = .ok (.iload_n 1, 1) := by decide +kernel
theorem dX11_two_45 : decode cX11_two 45 = .ok (.ifCond .ne 7, 3) := by decide +kernel
theorem dX11_two_48 : decode cX11_two 48 = .ok (.iload_n 2, 1) := by decide +kernel
theorem dX11_two_49 : decode cX11_two 49 = .ok (.ifCond .eq 7, 3) := by decide +kernel
theorem dX11_two_52 : decode cX11_two 52 = .ok (.iconst 1, 1) := by decide +kernel
theorem dX11_two_53 : decode cX11_two 53 = .ok (.goto 4, 3) := by decide +kernel
theorem dX11_two_56 : decode cX11_two 56 = .ok (.iconst 0, 1) := by decide +kernel
theorem dX11_two_57 : decode cX11_two 57 = .ok (.ireturn, 1) := by decide +kernel
theorem dX11_two_58 : decode cX11_two 58 = .ok (.iload_n 1, 1) := by decide +kernel
theorem dX11_two_59 : decode cX11_two 59 = .ok (.ifCond .eq 11, 3) := by decide +kernel
theorem dX11_two_62 : decode cX11_two 62 = .ok (.iload_n 2, 1) := by decide +kernel
theorem dX11_two_63 : decode cX11_two 63 = .ok (.ifCond .eq 7, 3) := by decide +kernel
theorem dX11_two_66 : decode cX11_two 66 = .ok (.iconst 1, 1) := by decide +kernel
theorem dX11_two_67 : decode cX11_two 67 = .ok (.goto 4, 3) := by decide +kernel
theorem dX11_two_70 : decode cX11_two 70 = .ok (.iconst 0, 1) := by decide +kernel
theorem dX11_two_71 : decode cX11_two 71 = .ok (.ireturn, 1) := by decide +kernel
theorem dX11_two_72 : decode cX11_two 72 = .ok (.iload_n 1, 1) := by decide +kernel
theorem dX11_two_73 : decode cX11_two 73 = .ok (.iload_n 2, 1) := by decide +kernel
theorem dX11_two_74 : decode cX11_two 74 = .ok (.if_icmp .ge 7, 3) := by decide +kernel
theorem dX11_two_77 : decode cX11_two 77 = .ok (.iconst 1, 1) := by decide +kernel
theorem dX11_two_78 : decode cX11_two 78 = .ok (.goto 4, 3) := by decide +kernel
theorem dX11_two_81 : decode cX11_two 81 = .ok (.iconst 0, 1) := by decide +kernel
theorem dX11_two_82 : decode cX11_two 82 = .ok (.ireturn, 1) := by decide +kernel
theorem dX11_two_83 : decode cX11_two 83 = .ok (.iload_n 1, 1) := by decide +kernel
theorem dX11_two_84 : decode cX11_two 84 = .ok (.iload_n 2, 1) := by decide +kernel
theorem dX11_two_85 : decode cX11_two 85 = .ok (.if_icmp .ne 7, 3) := by decide +kernel
theorem dX11_two_88 : decode cX11_two 88 = .ok (.iconst 1, 1) := by decide +kernel
theorem dX11_two_89 : decode cX11_two 89 = .ok (.goto 4, 3) := by decide +kernel
theorem dX11_two_92 : decode cX11_two 92 = .ok (.iconst 0, 1) := by decide +kernel
theorem dX11_two_93 : decode cX11_two 93 = .ok (.ireturn, 1) := by decide +kernel
theorem dX11_two_94 : decode cX11_two 94 = .ok (.iload_n 1, 1) := by decide +kernel
theorem dX11_two_95 : decode cX11_two 95 = .ok (.iload_n 2, 1) := by decide +kernel
theorem dX11_two_96 : decode cX11_two 96 = .ok (.iadd, 1) := by decide +kernel
theorem dX11_two_97 : decode cX11_two 97 = .ok (.ireturn, 1) := by decide +kernel
theorem dX11_two_98 : decode cX11_two 98 = .ok (.iload_n 1, 1) := by decide +kernel
theorem dX11_two_99 : decode cX11_two 99 = .ok (.iload_n 2, 1) := by decide +kernel
theorem dX11_two_100 : decode cX11_two 100 = .ok (.isub, 1) := by decide +kernel
theorem dX11_two_101 : decode cX11_two 101 = .ok (.ireturn, 1) := by decide +kernel
theorem dX11_two_102 : decode cX11_two 102 = .ok (.iload_n 1, 1) := by decide +kernel
theorem dX11_two_103 : decode cX11_two 103 = .ok (.iload_n 2, 1) := by decide +kernel
theorem dX11_two_104 : decode cX11_two 104 = .ok (.imul, 1) := by decide +kernel
theorem dX11_two_105 : decode cX11_two 105 = .ok (.ireturn, 1) := by decide +kernel
def J_X11_two_52 (S : e_S) (g : e_G) : Option (Int32 × e_G) :=
  some ((1 : Int32), g)
def f_X11_two (S : e_S) (l0 : Int32) (l1 : Int32) (l2 : Int32) (g : e_G) : Option (Int32 × e_G) :=
  if l0 = 11 then
    if l1 = 0 then
      if l2 = 0 then
        some ((0 : Int32), g)
      else
        J_X11_two_52 S g
    else
      J_X11_two_52 S g
  else
  if l0 = 12 then
    if l1 = 0 then
      some ((0 : Int32), g)
    else
      if l2 = 0 then
        some ((0 : Int32), g)
      else
        some ((1 : Int32), g)
  else
  if l0 = 13 then
    some (l1 * l2, g)
  else
  if l0 = 14 then
    if l2 ≤ l1 then
      some ((0 : Int32), g)
    else
      some ((1 : Int32), g)
  else
  if l0 = 15 then
    if l1 = l2 then
      some ((1 : Int32), g)
    else
      some ((0 : Int32), g)
  else
  if l0 = 16 then
    some (l1 + l2, g)
  else
  if l0 = 17 then
    some (l1 - l2, g)
  else
  some (l1 * l2, g)
theorem x_J_X11_two_52 {l : Launch} {D : va_G} {S : e_S} {w : Int32} {k : e_G} {g : e_G} (hf : J_X11_two_52 S g = some (w, k)) : X l D (e_R 1) M_X11_two 0 0 52 [] [] (S, g) (some (.int w)) (S, k) := by
  unfold J_X11_two_52 at hf
  refine X.iconst dX11_two_52 kI_1 ?_
  refine X.goto dX11_two_53 (tgt := 57) rfl ?_
  obtain ⟨e1, e2⟩ := e_ret hf
  subst e1
  subst e2
  exact X.iret dX11_two_57 rfl rfl
theorem c_X11_two {l : Launch} {D : va_G}  {S : e_S} {w : Int32} {k : e_G} {l0 : Int32} {l1 : Int32} {l2 : Int32} {g : e_G} (hf : f_X11_two S l0 l1 l2 g = some (w, k)) : CT l D (e_R 1) M_X11_two [.int l0, .int l1, .int l2] (S, g) (some (.int w)) (S, k) := by
  refine CT.of (by decide +kernel) (Nat.le_of_ble_eq_true rfl) ?_
  unfold f_X11_two at hf
  show X l D (e_R 1) M_X11_two 0 0 0 [(0, .int l0), (1, .int l1), (2, .int l2)] [] (S, g) (some (.int w)) (S, k)
  refine X.iload_n dX11_two_0 rfl (j := 0) rfl ?_
  by_cases h1 : l0 = (11 : Int32)
  · rw [if_pos h1] at hf
    refine X.tableIn dX11_two_1 (by rw [h1]; decide) (by rw [h1]; decide) (off := 43) (tgt := 44) (by rw [h1]; rfl) rfl ?_
    refine X.iload_n dX11_two_44 rfl (j := 1) rfl ?_
    refine X.if_ne dX11_two_45 (tgt := 52) rfl (fun hc => ?_) (fun hc => ?_)
    · rw [if_neg hc] at hf
      refine X.sub [] rfl ?_
      exact x_J_X11_two_52 hf
    · rw [if_pos hc] at hf
      refine X.iload_n dX11_two_48 rfl (j := 2) rfl ?_
      refine X.if_eq dX11_two_49 (tgt := 56) rfl (fun hc => ?_) (fun hc => ?_)
      · rw [if_pos hc] at hf
        refine X.iconst dX11_two_56 kI_0 ?_
        obtain ⟨e1, e2⟩ := e_ret hf
        subst e1
        subst e2
        exact X.iret dX11_two_57 rfl rfl
      · rw [if_neg hc] at hf
        refine X.sub [] rfl ?_
        exact x_J_X11_two_52 hf
  rw [if_neg h1] at hf
  by_cases h2 : l0 = (12 : Int32)
  · rw [if_pos h2] at hf
    refine X.tableIn dX11_two_1 (by rw [h2]; decide) (by rw [h2]; decide) (off := 57) (tgt := 58) (by rw [h2]; rfl) rfl ?_
    refine X.iload_n dX11_two_58 rfl (j := 1) rfl ?_
    refine X.if_eq dX11_two_59 (tgt := 70) rfl (fun hc => ?_) (fun hc => ?_)
    · rw [if_pos hc] at hf
      refine X.iconst dX11_two_70 kI_0 ?_
      obtain ⟨e1, e2⟩ := e_ret hf
      subst e1
      subst e2
      exact X.iret dX11_two_71 rfl rfl
    · rw [if_neg hc] at hf
      refine X.iload_n dX11_two_62 rfl (j := 2) rfl ?_
      refine X.if_eq dX11_two_63 (tgt := 70) rfl (fun hc => ?_) (fun hc => ?_)
      · rw [if_pos hc] at hf
        refine X.iconst dX11_two_70 kI_0 ?_
        obtain ⟨e1, e2⟩ := e_ret hf
        subst e1
        subst e2
        exact X.iret dX11_two_71 rfl rfl
      · rw [if_neg hc] at hf
        refine X.iconst dX11_two_66 kI_1 ?_
        refine X.goto dX11_two_67 (tgt := 71) rfl ?_
        obtain ⟨e1, e2⟩ := e_ret hf
        subst e1
        subst e2
        exact X.iret dX11_two_71 rfl rfl
  rw [if_neg h2] at hf
  by_cases h3 : l0 = (13 : Int32)
  · rw [if_pos h3] at hf
    refine X.tableIn dX11_two_1 (by rw [h3]; decide) (by rw [h3]; decide) (off := 101) (tgt := 102) (by rw [h3]; rfl) rfl ?_
    refine X.iload_n dX11_two_102 rfl (j := 1) rfl ?_
    refine X.iload_n dX11_two_103 rfl (j := 2) rfl ?_
    refine X.imul dX11_two_104 ?_
    obtain ⟨e1, e2⟩ := e_ret hf
    subst e1
    subst e2
    exact X.iret dX11_two_105 rfl rfl
  rw [if_neg h3] at hf
  by_cases h4 : l0 = (14 : Int32)
  · rw [if_pos h4] at hf
    refine X.tableIn dX11_two_1 (by rw [h4]; decide) (by rw [h4]; decide) (off := 71) (tgt := 72) (by rw [h4]; rfl) rfl ?_
    refine X.iload_n dX11_two_72 rfl (j := 1) rfl ?_
    refine X.iload_n dX11_two_73 rfl (j := 2) rfl ?_
    refine X.icmp_ge dX11_two_74 (tgt := 81) rfl (fun hc => ?_) (fun hc => ?_)
    · rw [if_pos hc] at hf
      refine X.iconst dX11_two_81 kI_0 ?_
      obtain ⟨e1, e2⟩ := e_ret hf
      subst e1
      subst e2
      exact X.iret dX11_two_82 rfl rfl
    · rw [if_neg hc] at hf
      refine X.iconst dX11_two_77 kI_1 ?_
      refine X.goto dX11_two_78 (tgt := 82) rfl ?_
      obtain ⟨e1, e2⟩ := e_ret hf
      subst e1
      subst e2
      exact X.iret dX11_two_82 rfl rfl
  rw [if_neg h4] at hf
  by_cases h5 : l0 = (15 : Int32)
  · rw [if_pos h5] at hf
    refine X.tableIn dX11_two_1 (by rw [h5]; decide) (by rw [h5]; decide) (off := 82) (tgt := 83) (by rw [h5]; rfl) rfl ?_
    refine X.iload_n dX11_two_83 rfl (j := 1) rfl ?_
    refine X.iload_n dX11_two_84 rfl (j := 2) rfl ?_
    refine X.icmp_ne dX11_two_85 (tgt := 92) rfl (fun hc => ?_) (fun hc => ?_)
    · rw [if_neg hc] at hf
      refine X.iconst dX11_two_92 kI_0 ?_
      obtain ⟨e1, e2⟩ := e_ret hf
      subst e1
      subst e2
      exact X.iret dX11_two_93 rfl rfl
    · rw [if_pos hc] at hf
      refine X.iconst dX11_two_88 kI_1 ?_
      refine X.goto dX11_two_89 (tgt := 93) rfl ?_
      obtain ⟨e1, e2⟩ := e_ret hf
      subst e1
      subst e2
      exact X.iret dX11_two_93 rfl rfl
  rw [if_neg h5] at hf
  by_cases h6 : l0 = (16 : Int32)
  · rw [if_pos h6] at hf
    refine X.tableIn dX11_two_1 (by rw [h6]; decide) (by rw [h6]; decide) (off := 93) (tgt := 94) (by rw [h6]; rfl) rfl ?_
    refine X.iload_n dX11_two_94 rfl (j := 1) rfl ?_
    refine X.iload_n dX11_two_95 rfl (j := 2) rfl ?_
    refine X.iadd dX11_two_96 ?_
    obtain ⟨e1, e2⟩ := e_ret hf
    subst e1
    subst e2
    exact X.iret dX11_two_97 rfl rfl
  rw [if_neg h6] at hf
  by_cases h7 : l0 = (17 : Int32)
  · rw [if_pos h7] at hf
    refine X.tableIn dX11_two_1 (by rw [h7]; decide) (by rw [h7]; decide) (off := 97) (tgt := 98) (by rw [h7]; rfl) rfl ?_
    refine X.iload_n dX11_two_98 rfl (j := 1) rfl ?_
    refine X.iload_n dX11_two_99 rfl (j := 2) rfl ?_
    refine X.isub dX11_two_100 ?_
    obtain ⟨e1, e2⟩ := e_ret hf
    subst e1
    subst e2
    exact X.iret dX11_two_101 rfl rfl
  rw [if_neg h7] at hf
  refine X.tableOut dX11_two_1 (tgt := 102) (by have qh1 := e_ne (z := 11) (by decide) h1; have qh2 := e_ne (z := 12) (by decide) h2; have qh3 := e_ne (z := 13) (by decide) h3; have qh4 := e_ne (z := 14) (by decide) h4; have qh5 := e_ne (z := 15) (by decide) h5; have qh6 := e_ne (z := 16) (by decide) h6; have qh7 := e_ne (z := 17) (by decide) h7; omega) rfl ?_
  refine X.iload_n dX11_two_102 rfl (j := 1) rfl ?_
  refine X.iload_n dX11_two_103 rfl (j := 2) rfl ?_
  refine X.imul dX11_two_104 ?_
  obtain ⟨e1, e2⟩ := e_ret hf
  subst e1
  subst e2
  exact X.iret dX11_two_105 rfl rfl
