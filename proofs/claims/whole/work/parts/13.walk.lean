theorem kB_97 : (Int8.ofInt (97)).toInt32 = (97 : Int32) := by decide +kernel
theorem kB_122 : (Int8.ofInt (122)).toInt32 = (122 : Int32) := by decide +kernel
theorem kB_48 : (Int8.ofInt (48)).toInt32 = (48 : Int32) := by decide +kernel
theorem kB_57 : (Int8.ofInt (57)).toInt32 = (57 : Int32) := by decide +kernel
theorem kB_41 : (Int8.ofInt (41)).toInt32 = (41 : Int32) := by decide +kernel
theorem kB_59 : (Int8.ofInt (59)).toInt32 = (59 : Int32) := by decide +kernel
theorem kB_43 : (Int8.ofInt (43)).toInt32 = (43 : Int32) := by decide +kernel
theorem kB_45 : (Int8.ofInt (45)).toInt32 = (45 : Int32) := by decide +kernel
theorem kB_42 : (Int8.ofInt (42)).toInt32 = (42 : Int32) := by decide +kernel
theorem kB_60 : (Int8.ofInt (60)).toInt32 = (60 : Int32) := by decide +kernel
theorem kB_61 : (Int8.ofInt (61)).toInt32 = (61 : Int32) := by decide +kernel
theorem kS_1001 : (Int16.ofInt (1001)).toInt32 = (1001 : Int32) := by decide +kernel
theorem kS_1012 : (Int16.ofInt (1012)).toInt32 = (1012 : Int32) := by decide +kernel
theorem kS_1011 : (Int16.ofInt (1011)).toInt32 = (1011 : Int32) := by decide +kernel
theorem kS_1010 : (Int16.ofInt (1010)).toInt32 = (1010 : Int32) := by decide +kernel
theorem kS_1022 : (Int16.ofInt (1022)).toInt32 = (1022 : Int32) := by decide +kernel
theorem kS_1021 : (Int16.ofInt (1021)).toInt32 = (1021 : Int32) := by decide +kernel
theorem kS_1020 : (Int16.ofInt (1020)).toInt32 = (1020 : Int32) := by decide +kernel
theorem kS_1002 : (Int16.ofInt (1002)).toInt32 = (1002 : Int32) := by decide +kernel
theorem kS_1003 : (Int16.ofInt (1003)).toInt32 = (1003 : Int32) := by decide +kernel
theorem kS_1000 : (Int16.ofInt (1000)).toInt32 = (1000 : Int32) := by decide +kernel
theorem kB_32 : (Int8.ofInt (32)).toInt32 = (32 : Int32) := by decide +kernel
theorem ww_351 : Cond.methodLink RX5 135 yJ0_length_8abf5 ∈ e_big := bw (i := 351) (by decide +kernel) rfl
theorem ww_273 : Cond.instanceMethod yJ0_length_8abf5 ∈ e_big := bw (i := 273) (by decide +kernel) rfl
theorem ww_274 : Cond.selects RJ0 yJ0_length_8abf5 yJ0_length_8abf5 ∈ e_big := bw (i := 274) (by decide +kernel) rfl
theorem ww_275 : Cond.code yJ0_length_8abf5 cJ0_length_8abf5 1 (some .int) ∈ e_big := bw (i := 275) (by decide +kernel) rfl
theorem cw_X5_135 : ∀ w ∈ wsV RX5 135 RJ0 yJ0_length_8abf5 [Cond.code yJ0_length_8abf5 cJ0_length_8abf5 1 (some .int)], w ∈ e_big := e_all5 ww_351 ww_273 ww_274 ww_84 ww_275
theorem fl_X5_9 : e_FL RX5 9 5 0 := ⟨⟨by decide, by decide⟩, bw (i := 110) (by decide +kernel) rfl⟩
theorem fl_X5_53 : e_FL RX5 53 5 5 := ⟨⟨by decide, by decide⟩, bw (i := 115) (by decide +kernel) rfl⟩
theorem ww_352 : Cond.methodLink RX5 140 yJ0_charAt_5068e ∈ e_big := bw (i := 352) (by decide +kernel) rfl
theorem ww_283 : Cond.instanceMethod yJ0_charAt_5068e ∈ e_big := bw (i := 283) (by decide +kernel) rfl
theorem ww_284 : Cond.selects RJ0 yJ0_charAt_5068e yJ0_charAt_5068e ∈ e_big := bw (i := 284) (by decide +kernel) rfl
theorem ww_285 : Cond.code yJ0_charAt_5068e cJ0_charAt_5068e 2 (some .char) ∈ e_big := bw (i := 285) (by decide +kernel) rfl
theorem cw_X5_140 : ∀ w ∈ wsV RX5 140 RJ0 yJ0_charAt_5068e [Cond.code yJ0_charAt_5068e cJ0_charAt_5068e 2 (some .char)], w ∈ e_big := e_all5 ww_352 ww_283 ww_284 ww_84 ww_285
theorem fl_X5_34 : e_FL RX5 34 5 3 := ⟨⟨by decide, by decide⟩, bw (i := 113) (by decide +kernel) rfl⟩
theorem ww_347 : Cond.methodLink RX5 109 yX5_spells ∈ e_big := bw (i := 347) (by decide +kernel) rfl
theorem ww_349 : Cond.instanceMethod yX5_spells ∈ e_big := bw (i := 349) (by decide +kernel) rfl
theorem ww_3 : Cond.selects RX5 yX5_spells yX5_spells ∈ e_big := bw (i := 3) (by decide +kernel) rfl
theorem ww_74 : Cond.initialized RX5 ∈ e_big := bw (i := 74) (by decide +kernel) rfl
theorem ww_350 : Cond.code yX5_spells cX5_spells 3 (some .boolean) ∈ e_big := bw (i := 350) (by decide +kernel) rfl
theorem cw_X5_109 : ∀ w ∈ wsV RX5 109 RX5 yX5_spells [Cond.code yX5_spells cX5_spells 3 (some .boolean)], w ∈ e_big := e_all5 ww_347 ww_349 ww_3 ww_74 ww_350
theorem fl_X5_56 : e_FL RX5 56 5 4 := ⟨⟨by decide, by decide⟩, bw (i := 114) (by decide +kernel) rfl⟩
theorem fl_X5_21 : e_FL RX5 21 5 2 := ⟨⟨by decide, by decide⟩, bw (i := 112) (by decide +kernel) rfl⟩
theorem ww_368 : Cond.methodLink RX5 91 yX5_isDigit ∈ e_big := bw (i := 368) (by decide +kernel) rfl
theorem ww_369 : Cond.static yX5_isDigit ∈ e_big := bw (i := 369) (by decide +kernel) rfl
theorem ww_370 : Cond.code yX5_isDigit cX5_isDigit 1 (some .boolean) ∈ e_big := bw (i := 370) (by decide +kernel) rfl
theorem cw_X5_91 : ∀ w ∈ va_wsS RX5 91 yX5_isDigit [Cond.code yX5_isDigit cX5_isDigit 1 (some .boolean)], w ∈ e_big := e_all4 ww_368 ww_369 ww_74 ww_370
theorem fl_X5_81 : e_FL RX5 81 5 6 := ⟨⟨by decide, by decide⟩, bw (i := 116) (by decide +kernel) rfl⟩
theorem ww_342 : Cond.methodLink RX5 100 yX5_nameNumber ∈ e_big := bw (i := 342) (by decide +kernel) rfl
theorem ww_344 : Cond.instanceMethod yX5_nameNumber ∈ e_big := bw (i := 344) (by decide +kernel) rfl
theorem ww_2 : Cond.selects RX5 yX5_nameNumber yX5_nameNumber ∈ e_big := bw (i := 2) (by decide +kernel) rfl
theorem ww_345 : Cond.code yX5_nameNumber cX5_nameNumber 1 (some .int) ∈ e_big := bw (i := 345) (by decide +kernel) rfl
theorem cw_X5_100 : ∀ w ∈ wsV RX5 100 RX5 yX5_nameNumber [Cond.code yX5_nameNumber cX5_nameNumber 1 (some .int)], w ∈ e_big := e_all5 ww_342 ww_344 ww_2 ww_74 ww_345
theorem ww_358 : Cond.methodLink RX5 104 yX5_keyToken ∈ e_big := bw (i := 358) (by decide +kernel) rfl
theorem ww_360 : Cond.instanceMethod yX5_keyToken ∈ e_big := bw (i := 360) (by decide +kernel) rfl
theorem ww_4 : Cond.selects RX5 yX5_keyToken yX5_keyToken ∈ e_big := bw (i := 4) (by decide +kernel) rfl
theorem ww_361 : Cond.code yX5_keyToken cX5_keyToken 1 (some .int) ∈ e_big := bw (i := 361) (by decide +kernel) rfl
theorem cw_X5_104 : ∀ w ∈ wsV RX5 104 RX5 yX5_keyToken [Cond.code yX5_keyToken cX5_keyToken 1 (some .int)], w ∈ e_big := e_all5 ww_358 ww_360 ww_4 ww_74 ww_361
theorem ww_335 : Cond.methodLink RX5 84 yX5_isLetter ∈ e_big := bw (i := 335) (by decide +kernel) rfl
theorem ww_336 : Cond.static yX5_isLetter ∈ e_big := bw (i := 336) (by decide +kernel) rfl
theorem ww_337 : Cond.code yX5_isLetter cX5_isLetter 1 (some .boolean) ∈ e_big := bw (i := 337) (by decide +kernel) rfl
theorem cw_X5_84 : ∀ w ∈ va_wsS RX5 84 yX5_isLetter [Cond.code yX5_isLetter cX5_isLetter 1 (some .boolean)], w ∈ e_big := e_all4 ww_335 ww_336 ww_74 ww_337
theorem ww_375 : Cond.methodLink RX5 97 yX5_isSign ∈ e_big := bw (i := 375) (by decide +kernel) rfl
theorem ww_376 : Cond.static yX5_isSign ∈ e_big := bw (i := 376) (by decide +kernel) rfl
theorem ww_377 : Cond.code yX5_isSign cX5_isSign 1 (some .boolean) ∈ e_big := bw (i := 377) (by decide +kernel) rfl
theorem cw_X5_97 : ∀ w ∈ va_wsS RX5 97 yX5_isSign [Cond.code yX5_isSign cX5_isSign 1 (some .boolean)], w ∈ e_big := e_all4 ww_375 ww_376 ww_74 ww_377
theorem ww_371 : Cond.methodLink RX5 94 yX5_takeNumber ∈ e_big := bw (i := 371) (by decide +kernel) rfl
theorem ww_373 : Cond.instanceMethod yX5_takeNumber ∈ e_big := bw (i := 373) (by decide +kernel) rfl
theorem ww_5 : Cond.selects RX5 yX5_takeNumber yX5_takeNumber ∈ e_big := bw (i := 5) (by decide +kernel) rfl
theorem ww_374 : Cond.code yX5_takeNumber cX5_takeNumber 1 none ∈ e_big := bw (i := 374) (by decide +kernel) rfl
theorem cw_X5_94 : ∀ w ∈ wsV RX5 94 RX5 yX5_takeNumber [Cond.code yX5_takeNumber cX5_takeNumber 1 none], w ∈ e_big := e_all5 ww_371 ww_373 ww_5 ww_74 ww_374
theorem ww_338 : Cond.methodLink RX5 88 yX5_takeWord ∈ e_big := bw (i := 338) (by decide +kernel) rfl
theorem ww_340 : Cond.instanceMethod yX5_takeWord ∈ e_big := bw (i := 340) (by decide +kernel) rfl
theorem ww_1 : Cond.selects RX5 yX5_takeWord yX5_takeWord ∈ e_big := bw (i := 1) (by decide +kernel) rfl
theorem ww_341 : Cond.code yX5_takeWord cX5_takeWord 1 none ∈ e_big := bw (i := 341) (by decide +kernel) rfl
theorem cw_X5_88 : ∀ w ∈ wsV RX5 88 RX5 yX5_takeWord [Cond.code yX5_takeWord cX5_takeWord 1 none], w ∈ e_big := e_all5 ww_338 ww_340 ww_1 ww_74 ww_341
theorem fl_X5_37 : e_FL RX5 37 5 7 := ⟨⟨by decide, by decide⟩, bw (i := 117) (by decide +kernel) rfl⟩
theorem ww_382 : Cond.methodLink RX5 59 yX5_fail ∈ e_big := bw (i := 382) (by decide +kernel) rfl
theorem ww_384 : Cond.instanceMethod yX5_fail ∈ e_big := bw (i := 384) (by decide +kernel) rfl
theorem ww_7 : Cond.selects RX5 yX5_fail yX5_fail ∈ e_big := bw (i := 7) (by decide +kernel) rfl
theorem ww_385 : Cond.code yX5_fail cX5_fail 1 none ∈ e_big := bw (i := 385) (by decide +kernel) rfl
theorem cw_X5_59 : ∀ w ∈ wsV RX5 59 RX5 yX5_fail [Cond.code yX5_fail cX5_fail 1 none], w ∈ e_big := e_all5 ww_382 ww_384 ww_7 ww_74 ww_385
theorem ww_331 : Cond.methodLink RX5 40 yX5_step ∈ e_big := bw (i := 331) (by decide +kernel) rfl
theorem ww_333 : Cond.instanceMethod yX5_step ∈ e_big := bw (i := 333) (by decide +kernel) rfl
theorem ww_0 : Cond.selects RX5 yX5_step yX5_step ∈ e_big := bw (i := 0) (by decide +kernel) rfl
theorem ww_334 : Cond.code yX5_step cX5_step 1 none ∈ e_big := bw (i := 334) (by decide +kernel) rfl
theorem cw_X5_40 : ∀ w ∈ wsV RX5 40 RX5 yX5_step [Cond.code yX5_step cX5_step 1 none], w ∈ e_big := e_all5 ww_331 ww_333 ww_0 ww_74 ww_334
/-! LeanedOut$Reader.isLetter(I)Z -/
abbrev M_X5_isLetter : e_M := (yX5_isLetter, cX5_isLetter, 1, (some .boolean))
theorem mk_X5_isLetter : e_Mok M_X5_isLetter 1 := ⟨by decide +kernel, by decide +kernel, by decide +kernel⟩
theorem dX5_isLetter_0 : decode cX5_isLetter 0 = .ok (.iload_n 0, 1) := by decide +kernel
theorem dX5_isLetter_1 : decode cX5_isLetter 1 = .ok (.bipush 97, 2) := by decide +kernel
theorem dX5_isLetter_3 : decode cX5_isLetter 3 = .ok (.if_icmp .lt 13, 3) := by decide +kernel
theorem dX5_isLetter_6 : decode cX5_isLetter 6 = .ok (.iload_n 0, 1) := by decide +kernel
theorem dX5_isLetter_7 : decode cX5_isLetter 7 = .ok (.bipush 122, 2) := by decide +kernel
theorem dX5_isLetter_9 : decode cX5_isLetter 9 = .ok (.if_icmp .gt 7, 3) := by decide +kernel
theorem dX5_isLetter_12 : decode cX5_isLetter 12 = .ok (.iconst 1, 1) := by decide +kernel
theorem dX5_isLetter_13 : decode cX5_isLetter 13 = .ok (.goto 4, 3) := by decide +kernel
theorem dX5_isLetter_16 : decode cX5_isLetter 16 = .ok (.iconst 0, 1) := by decide +kernel
theorem dX5_isLetter_17 : decode cX5_isLetter 17 = .ok (.ireturn, 1) := by decide +kernel
def f_X5_isLetter (S : e_S) (l0 : Int32) (g : e_G) : Option (Int32 × e_G) :=
  if l0 < (97 : Int32) then
    some ((0 : Int32), g)
  else
    if (122 : Int32) < l0 then
      some ((0 : Int32), g)
    else
      some ((1 : Int32), g)
theorem c_X5_isLetter {l : Launch} {D : va_G}  {S : e_S} {w : Int32} {k : e_G} {l0 : Int32} {g : e_G} (hf : f_X5_isLetter S l0 g = some (w, k)) : CT l D (e_R 1) M_X5_isLetter [.int l0] (S, g) (some (.int w)) (S, k) := by
  refine CT.of (by decide +kernel) (Nat.le_of_ble_eq_true rfl) ?_
  unfold f_X5_isLetter at hf
  show X l D (e_R 1) M_X5_isLetter 0 0 0 [(0, .int l0)] [] (S, g) (some (.int w)) (S, k)
  refine X.iload_n dX5_isLetter_0 rfl (j := 0) rfl ?_
  refine X.bipush dX5_isLetter_1 kB_97 ?_
  refine X.icmp_lt dX5_isLetter_3 (tgt := 16) rfl (fun hc => ?_) (fun hc => ?_)
  · rw [if_pos hc] at hf
    refine X.iconst dX5_isLetter_16 kI_0 ?_
    obtain ⟨e1, e2⟩ := e_ret hf
    subst e1
    subst e2
    exact X.iret dX5_isLetter_17 rfl rfl
  · rw [if_neg hc] at hf
    refine X.iload_n dX5_isLetter_6 rfl (j := 0) rfl ?_
    refine X.bipush dX5_isLetter_7 kB_122 ?_
    refine X.icmp_gt dX5_isLetter_9 (tgt := 16) rfl (fun hc => ?_) (fun hc => ?_)
    · rw [if_pos hc] at hf
      refine X.iconst dX5_isLetter_16 kI_0 ?_
      obtain ⟨e1, e2⟩ := e_ret hf
      subst e1
      subst e2
      exact X.iret dX5_isLetter_17 rfl rfl
    · rw [if_neg hc] at hf
      refine X.iconst dX5_isLetter_12 kI_1 ?_
      refine X.goto dX5_isLetter_13 (tgt := 17) rfl ?_
      obtain ⟨e1, e2⟩ := e_ret hf
      subst e1
      subst e2
      exact X.iret dX5_isLetter_17 rfl rfl
/-! LeanedOut$Reader.isDigit(I)Z -/
abbrev M_X5_isDigit : e_M := (yX5_isDigit, cX5_isDigit, 1, (some .boolean))
theorem mk_X5_isDigit : e_Mok M_X5_isDigit 1 := ⟨by decide +kernel, by decide +kernel, by decide +kernel⟩
theorem dX5_isDigit_0 : decode cX5_isDigit 0 = .ok (.iload_n 0, 1) := by decide +kernel
theorem dX5_isDigit_1 : decode cX5_isDigit 1 = .ok (.bipush 48, 2) := by decide +kernel
theorem dX5_isDigit_3 : decode cX5_isDigit 3 = .ok (.if_icmp .lt 13, 3) := by decide +kernel
theorem dX5_isDigit_6 : decode cX5_isDigit 6 = .ok (.iload_n 0, 1) := by decide +kernel
theorem dX5_isDigit_7 : decode cX5_isDigit 7 = .ok (.bipush 57, 2) := by decide +kernel
theorem dX5_isDigit_9 : decode cX5_isDigit 9 = .ok (.if_icmp .gt 7, 3) := by decide +kernel
theorem dX5_isDigit_12 : decode cX5_isDigit 12 = .ok (.iconst 1, 1) := by decide +kernel
theorem dX5_isDigit_13 : decode cX5_isDigit 13 = .ok (.goto 4, 3) := by decide +kernel
theorem dX5_isDigit_16 : decode cX5_isDigit 16 = .ok (.iconst 0, 1) := by decide +kernel
theorem dX5_isDigit_17 : decode cX5_isDigit 17 = .ok (.ireturn, 1) := by decide +kernel
def f_X5_isDigit (S : e_S) (l0 : Int32) (g : e_G) : Option (Int32 × e_G) :=
  if l0 < (48 : Int32) then
    some ((0 : Int32), g)
  else
    if (57 : Int32) < l0 then
      some ((0 : Int32), g)
    else
      some ((1 : Int32), g)
theorem c_X5_isDigit {l : Launch} {D : va_G}  {S : e_S} {w : Int32} {k : e_G} {l0 : Int32} {g : e_G} (hf : f_X5_isDigit S l0 g = some (w, k)) : CT l D (e_R 1) M_X5_isDigit [.int l0] (S, g) (some (.int w)) (S, k) := by
  refine CT.of (by decide +kernel) (Nat.le_of_ble_eq_true rfl) ?_
  unfold f_X5_isDigit at hf
  show X l D (e_R 1) M_X5_isDigit 0 0 0 [(0, .int l0)] [] (S, g) (some (.int w)) (S, k)
  refine X.iload_n dX5_isDigit_0 rfl (j := 0) rfl ?_
  refine X.bipush dX5_isDigit_1 kB_48 ?_
  refine X.icmp_lt dX5_isDigit_3 (tgt := 16) rfl (fun hc => ?_) (fun hc => ?_)
  · rw [if_pos hc] at hf
    refine X.iconst dX5_isDigit_16 kI_0 ?_
    obtain ⟨e1, e2⟩ := e_ret hf
    subst e1
    subst e2
    exact X.iret dX5_isDigit_17 rfl rfl
  · rw [if_neg hc] at hf
    refine X.iload_n dX5_isDigit_6 rfl (j := 0) rfl ?_
    refine X.bipush dX5_isDigit_7 kB_57 ?_
    refine X.icmp_gt dX5_isDigit_9 (tgt := 16) rfl (fun hc => ?_) (fun hc => ?_)
    · rw [if_pos hc] at hf
      refine X.iconst dX5_isDigit_16 kI_0 ?_
      obtain ⟨e1, e2⟩ := e_ret hf
      subst e1
      subst e2
      exact X.iret dX5_isDigit_17 rfl rfl
    · rw [if_neg hc] at hf
      refine X.iconst dX5_isDigit_12 kI_1 ?_
      refine X.goto dX5_isDigit_13 (tgt := 17) rfl ?_
      obtain ⟨e1, e2⟩ := e_ret hf
      subst e1
      subst e2
      exact X.iret dX5_isDigit_17 rfl rfl
/-! LeanedOut$Reader.isSign(I)Z -/
abbrev M_X5_isSign : e_M := (yX5_isSign, cX5_isSign, 1, (some .boolean))
theorem mk_X5_isSign : e_Mok M_X5_isSign 1 := ⟨by decide +kernel, by decide +kernel, by decide +kernel⟩
theorem dX5_isSign_0 : decode cX5_isSign 0 = .ok (.iload_n 0, 1) := by decide +kernel
theorem dX5_isSign_1 : decode cX5_isSign 1 = .ok (.bipush 40, 2) := by decide +kernel
theorem dX5_isSign_3 : decode cX5_isSign 3 = .ok (.if_icmp .eq 45, 3) := by decide +kernel
theorem dX5_isSign_6 : decode cX5_isSign 6 = .ok (.iload_n 0, 1) := by decide +kernel
theorem dX5_isSign_7 : decode cX5_isSign 7 = .ok (.bipush 41, 2) := by decide +kernel
theorem dX5_isSign_9 : decode cX5_isSign 9 = .ok (.if_icmp .eq 39, 3) := by decide +kernel
theorem dX5_isSign_12 : decode cX5_isSign 12 = .ok (.iload_n 0, 1) := by decide +kernel
theorem dX5_isSign_13 : decode cX5_isSign 13 = .ok (.bipush 59, 2) := by decide +kernel
theorem dX5_isSign_15 : decode cX5_isSign 15 = .ok (.if_icmp .eq 33, 3) := by decide +kernel
theorem dX5_isSign_18 : decode cX5_isSign 18 = .ok (.iload_n 0, 1) := by decide +kernel
theorem dX5_isSign_19 : decode cX5_isSign 19 = .ok (.bipush 43, 2) := by decide +kernel
theorem dX5_isSign_21 : decode cX5_isSign 21 = .ok (.if_icmp .eq 27, 3) := by decide +kernel
theorem dX5_isSign_24 : decode cX5_isSign 24 = .ok (.iload_n 0, 1) := by decide +kernel
theorem dX5_isSign_25 : decode cX5_isSign 25 = .ok (.bipush 45, 2) := by decide +kernel
theorem dX5_isSign_27 : decode cX5_isSign 27 = .ok (.if_icmp .eq 21, 3) := by decide +kernel
theorem dX5_isSign_30 : decode cX5_isSign 30 = .ok (.iload_n 0, 1) := by decide +kernel
theorem dX5_isSign_31 : decode cX5_isSign 31 = .ok (.bipush 42, 2) := by decide +kernel
theorem dX5_isSign_33 : decode cX5_isSign 33 = .ok (.if_icmp .eq 15, 3) := by decide +kernel
theorem dX5_isSign_36 : decode cX5_isSign 36 = .ok (.iload_n 0, 1) := by decide +kernel
theorem dX5_isSign_37 : decode cX5_isSign 37 = .ok (.bipush 60, 2) := by decide +kernel
theorem dX5_isSign_39 : decode cX5_isSign 39 = .ok (.if_icmp .eq 9, 3) := by decide +kernel
theorem dX5_isSign_42 : decode cX5_isSign 42 = .ok (.iload_n 0, 1) := by decide +kernel
theorem dX5_isSign_43 : decode cX5_isSign 43 = .ok (.bipush 61, 2) := by decide +kernel
theorem dX5_isSign_45 : decode cX5_isSign 45 = .ok (.if_icmp .ne 7, 3) := by decide +kernel
theorem dX5_isSign_48 : decode cX5_isSign 48 = .ok (.iconst 1, 1) := by decide +kernel
theorem dX5_isSign_49 : decode cX5_isSign 49 = .ok (.goto 4, 3) := by decide +kernel
theorem dX5_isSign_52 : decode cX5_isSign 52 = .ok (.iconst 0, 1) := by decide +kernel
theorem dX5_isSign_53 : decode cX5_isSign 53 = .ok (.ireturn, 1) := by decide +kernel
def J_X5_isSign_48 (S : e_S) (g : e_G) : Option (Int32 × e_G) :=
  some ((1 : Int32), g)
def f_X5_isSign (S : e_S) (l0 : Int32) (g : e_G) : Option (Int32 × e_G) :=
  if l0 = (40 : Int32) then
    J_X5_isSign_48 S g
  else
    if l0 = (41 : Int32) then
      J_X5_isSign_48 S g
    else
      if l0 = (59 : Int32) then
        J_X5_isSign_48 S g
      else
        if l0 = (43 : Int32) then
          J_X5_isSign_48 S g
        else
          if l0 = (45 : Int32) then
            J_X5_isSign_48 S g
          else
            if l0 = (42 : Int32) then
              J_X5_isSign_48 S g
            else
              if l0 = (60 : Int32) then
                J_X5_isSign_48 S g
              else
                if l0 = (61 : Int32) then
                  J_X5_isSign_48 S g
                else
                  some ((0 : Int32), g)
theorem x_J_X5_isSign_48 {l : Launch} {D : va_G} {S : e_S} {w : Int32} {k : e_G} {g : e_G} (hf : J_X5_isSign_48 S g = some (w, k)) : X l D (e_R 1) M_X5_isSign 0 0 48 [] [] (S, g) (some (.int w)) (S, k) := by
  unfold J_X5_isSign_48 at hf
  refine X.iconst dX5_isSign_48 kI_1 ?_
  refine X.goto dX5_isSign_49 (tgt := 53) rfl ?_
  obtain ⟨e1, e2⟩ := e_ret hf
  subst e1
  subst e2
  exact X.iret dX5_isSign_53 rfl rfl
theorem c_X5_isSign {l : Launch} {D : va_G}  {S : e_S} {w : Int32} {k : e_G} {l0 : Int32} {g : e_G} (hf : f_X5_isSign S l0 g = some (w, k)) : CT l D (e_R 1) M_X5_isSign [.int l0] (S, g) (some (.int w)) (S, k) := by
  refine CT.of (by decide +kernel) (Nat.le_of_ble_eq_true rfl) ?_
  unfold f_X5_isSign at hf
  show X l D (e_R 1) M_X5_isSign 0 0 0 [(0, .int l0)] [] (S, g) (some (.int w)) (S, k)
  refine X.iload_n dX5_isSign_0 rfl (j := 0) rfl ?_
  refine X.bipush dX5_isSign_1 kB_40 ?_
  refine X.icmp_eq dX5_isSign_3 (tgt := 48) rfl (fun hc => ?_) (fun hc => ?_)
  · rw [if_pos hc] at hf
    refine X.sub [] rfl ?_
    exact x_J_X5_isSign_48 hf
  · rw [if_neg hc] at hf
    refine X.iload_n dX5_isSign_6 rfl (j := 0) rfl ?_
    refine X.bipush dX5_isSign_7 kB_41 ?_
    refine X.icmp_eq dX5_isSign_9 (tgt := 48) rfl (fun hc => ?_) (fun hc => ?_)
    · rw [if_pos hc] at hf
      refine X.sub [] rfl ?_
      exact x_J_X5_isSign_48 hf
    · rw [if_neg hc] at hf
      refine X.iload_n dX5_isSign_12 rfl (j := 0) rfl ?_
      refine X.bipush dX5_isSign_13 kB_59 ?_
      refine X.icmp_eq dX5_isSign_15 (tgt := 48) rfl (fun hc => ?_) (fun hc => ?_)
      · rw [if_pos hc] at hf
        refine X.sub [] rfl ?_
        exact x_J_X5_isSign_48 hf
      · rw [if_neg hc] at hf
        refine X.iload_n dX5_isSign_18 rfl (j := 0) rfl ?_
        refine X.bipush dX5_isSign_19 kB_43 ?_
        refine X.icmp_eq dX5_isSign_21 (tgt := 48) rfl (fun hc => ?_) (fun hc => ?_)
        · rw [if_pos hc] at hf
          refine X.sub [] rfl ?_
          exact x_J_X5_isSign_48 hf
        · rw [if_neg hc] at hf
          refine X.iload_n dX5_isSign_24 rfl (j := 0) rfl ?_
          refine X.bipush dX5_isSign_25 kB_45 ?_
          refine X.icmp_eq dX5_isSign_27 (tgt := 48) rfl (fun hc => ?_) (fun hc => ?_)
          · rw [if_pos hc] at hf
            refine X.sub [] rfl ?_
            exact x_J_X5_isSign_48 hf
          · rw [if_neg hc] at hf
            refine X.iload_n dX5_isSign_30 rfl (j := 0) rfl ?_
            refine X.bipush dX5_isSign_31 kB_42 ?_
            refine X.icmp_eq dX5_isSign_33 (tgt := 48) rfl (fun hc => ?_) (fun hc => ?_)
            · rw [if_pos hc] at hf
              refine X.sub [] rfl ?_
              exact x_J_X5_isSign_48 hf
            · rw [if_neg hc] at hf
              refine X.iload_n dX5_isSign_36 rfl (j := 0) rfl ?_
              refine X.bipush dX5_isSign_37 kB_60 ?_
              refine X.icmp_eq dX5_isSign_39 (tgt := 48) rfl (fun hc => ?_) (fun hc => ?_)
              · rw [if_pos hc] at hf
                refine X.sub [] rfl ?_
                exact x_J_X5_isSign_48 hf
              · rw [if_neg hc] at hf
                refine X.iload_n dX5_isSign_42 rfl (j := 0) rfl ?_
                refine X.bipush dX5_isSign_43 kB_61 ?_
                refine X.icmp_ne dX5_isSign_45 (tgt := 52) rfl (fun hc => ?_) (fun hc => ?_)
                · rw [if_neg hc] at hf
                  refine X.iconst dX5_isSign_52 kI_0 ?_
                  obtain ⟨e1, e2⟩ := e_ret hf
                  subst e1
                  subst e2
                  exact X.iret dX5_isSign_53 rfl rfl
                · rw [if_pos hc] at hf
                  refine X.sub [] rfl ?_
                  exact x_J_X5_isSign_48 hf
/-! LeanedOut$Reader.spells(Ljava/lang/String;)Z -/
abbrev M_X5_spells : e_M := (yX5_spells, cX5_spells, 3, (some .boolean))
theorem mk_X5_spells : e_Mok M_X5_spells 1 := ⟨by decide +kernel, by decide +kernel, by decide +kernel⟩
theorem dX5_spells_0 : decode cX5_spells 0 = .ok (.aload_n 0, 1) := by decide +kernel
theorem dX5_spells_1 : decode cX5_spells 1 = .ok (.getfield 34, 3) := by decide +kernel
theorem dX5_spells_4 : decode cX5_spells 4 = .ok (.aload_n 0, 1) := by decide +kernel
theorem dX5_spells_5 : decode cX5_spells 5 = .ok (.getfield 53, 3) := by decide +kernel
theorem dX5_spells_8 : decode cX5_spells 8 = .ok (.isub, 1) := by decide +kernel
theorem dX5_spells_9 : decode cX5_spells 9 = .ok (.aload_n 1, 1) := by decide +kernel
theorem dX5_spells_10 : decode cX5_spells 10 = .ok (.invokevirtual 135, 3) := by decide +kernel
theorem dX5_spells_13 : decode cX5_spells 13 = .ok (.if_icmp .eq 5, 3) := by decide +kernel
theorem dX5_spells_16 : decode cX5_spells 16 = .ok (.iconst 0, 1) := by decide +kernel
theorem dX5_spells_17 : decode cX5_spells 17 = .ok (.ireturn, 1) := by decide +kernel
theorem dX5_spells_18 : decode cX5_spells 18 = .ok (.iconst 0, 1) := by decide +kernel
theorem dX5_spells_19 : decode cX5_spells 19 = .ok (.istore_n 2, 1) := by decide +kernel
theorem dX5_spells_20 : decode cX5_spells 20 = .ok (.iload_n 2, 1) := by decide +kernel
theorem dX5_spells_21 : decode cX5_spells 21 = .ok (.aload_n 1, 1) := by decide +kernel
theorem dX5_spells_22 : decode cX5_spells 22 = .ok (.invokevirtual 135, 3) := by decide +kernel
theorem dX5_spells_25 : decode cX5_spells 25 = .ok (.if_icmp .ge 30, 3) := by decide +kernel
theorem dX5_spells_28 : decode cX5_spells 28 = .ok (.aload_n 0, 1) := by decide +kernel
theorem dX5_spells_29 : decode cX5_spells 29 = .ok (.getfield 9, 3) := by decide +kernel
theorem dX5_spells_32 : decode cX5_spells 32 = .ok (.aload_n 0, 1) := by decide +kernel
theorem dX5_spells_33 : decode cX5_spells 33 = .ok (.getfield 53, 3) := by decide +kernel
theorem dX5_spells_36 : decode cX5_spells 36 = .ok (.iload_n 2, 1) := by decide +kernel
theorem dX5_spells_37 : decode cX5_spells 37 = .ok (.iadd, 1) := by decide +kernel
theorem dX5_spells_38 : decode cX5_spells 38 = .ok (.iaload, 1) := by decide +kernel
theorem dX5_spells_39 : decode cX5_spells 39 = .ok (.aload_n 1, 1) := by decide +kernel
theorem dX5_spells_40 : decode cX5_spells 40 = .ok (.iload_n 2, 1) := by decide +kernel
theorem dX5_spells_41 : decode cX5_spells 41 = .ok (.invokevirtual 140, 3) := by decide +kernel
theorem dX5_spells_44 : decode cX5_spells 44 = .ok (.if_icmp .eq 5, 3) := by decide +kernel
theorem dX5_spells_47 : decode cX5_spells 47 = .ok (.iconst 0, 1) := by decide +kernel
theorem dX5_spells_48 : decode cX5_spells 48 = .ok (.ireturn, 1) := by decide +kernel
theorem dX5_spells_49 : decode cX5_spells 49 = .ok (.iinc 2 1, 3) := by decide +kernel
theorem dX5_spells_52 : decode cX5_spells 52 = .ok (.goto (-32), 3) := by decide +kernel
theorem dX5_spells_55 : decode cX5_spells 55 = .ok (.iconst 1, 1) := by decide +kernel
theorem dX5_spells_56 : decode cX5_spells 56 = .ok (.ireturn, 1) := by decide +kernel
def L_X5_spells_20 : Nat → e_S → Nat → Nat → Int32 → e_G → Option (Int32 × e_G)
  | 0, _, _, _, _, _ => none
  | n + 1, S, l0, l1, l2, g =>
  (f_str_length l1).bind fun v2 =>
  if v2 ≤ l2 then
    some ((1 : Int32), g)
  else
    (e_gR S g 5 l0 0).bind fun v3 =>
    (e_gI S g 5 l0 5).bind fun v5 =>
    (e_aI S g 0 v3 (v5 + l2)).bind fun v7 =>
    (f_str_charAt l1 l2).bind fun v10 =>
    if v7 = v10 then
      L_X5_spells_20 n S l0 l1 (l2 + (1 : Int32)) g
    else
      some ((0 : Int32), g)
def f_X5_spells (S : e_S) (l0 : Nat) (l1 : Nat) (g : e_G) : Option (Int32 × e_G) :=
  if e_ob S 5 l0 = true then
    (e_gI S g 5 l0 3).bind fun v1 =>
    (e_gI S g 5 l0 5).bind fun v3 =>
    (f_str_length l1).bind fun v6 =>
    if (v1 - v3) = v6 then
      L_X5_spells_20 50000 S l0 l1 (0 : Int32) g
    else
      some ((0 : Int32), g)
  else none
theorem x_L_X5_spells_20 {l : Launch} {D : va_G} {S : e_S} {w : Int32} {k : e_G} : ∀ (n : Nat) (l0 : Nat) (l1 : Nat) (l2 : Int32) (g : e_G), L_X5_spells_20 n S l0 l1 l2 g = some (w, k) → X l D (e_R 6) M_X5_spells 0 0 20 [(0, .ref l0), (1, .ref l1), (2, .int l2)] [] (S, g) (some (.int w)) (S, k) := by
  intro n
  induction n with
  | zero =>
    intro l0 l1 l2 g hf
    cases hf
  | succ n ih =>
    intro l0 l1 l2 g hf
    rw [L_X5_spells_20] at hf
    refine X.iload_n dX5_spells_20 rfl (j := 2) rfl ?_
    refine X.aload_n dX5_spells_21 rfl (j := 1) rfl ?_
    obtain ⟨v2, h1, hf⟩ := ob hf
    refine Y.str_length dX5_spells_22 cw_X5_135 (Nat.le_of_ble_eq_true rfl) (by simp [Value.category]) h1 ?_
    refine X.icmp_ge dX5_spells_25 (tgt := 55) rfl (fun hc => ?_) (fun hc => ?_)
    · rw [if_pos hc] at hf
      refine X.iconst dX5_spells_55 kI_1 ?_
      obtain ⟨e1, e2⟩ := e_ret hf
      subst e1
      subst e2
      exact X.iret dX5_spells_56 rfl rfl
    · rw [if_neg hc] at hf
      refine X.aload_n dX5_spells_28 rfl (j := 0) rfl ?_
      obtain ⟨v3, h4, hf⟩ := ob hf
      refine Y.getR dX5_spells_29 fl_X5_9 rfl h4 ?_
      refine X.aload_n dX5_spells_32 rfl (j := 0) rfl ?_
      obtain ⟨v5, h6, hf⟩ := ob hf
      refine Y.getI dX5_spells_33 fl_X5_53 rfl h6 ?_
      refine X.iload_n dX5_spells_36 rfl (j := 2) rfl ?_
      refine X.iadd dX5_spells_37 ?_
      obtain ⟨v7, h8, hf⟩ := ob hf
      refine Y.iald dX5_spells_38 h8 ?_
      refine X.aload_n dX5_spells_39 rfl (j := 1) rfl ?_
      refine X.iload_n dX5_spells_40 rfl (j := 2) rfl ?_
      obtain ⟨v10, h9, hf⟩ := ob hf
      refine Y.str_charAt dX5_spells_41 cw_X5_140 (Nat.le_of_ble_eq_true rfl) (by simp [Value.category]) h9 ?_
      refine X.icmp_eq dX5_spells_44 (tgt := 49) rfl (fun hc => ?_) (fun hc => ?_)
      · rw [if_pos hc] at hf
        refine X.iinc (j := 2) dX5_spells_49 rfl (v := l2 + (1 : Int32)) (by rw [kI_1]) (Nat.le_of_ble_eq_true rfl) (lc' := [(2, .int (l2 + (1 : Int32))), (0, .ref l0), (1, .ref l1)]) rfl ?_
        refine X.goto dX5_spells_52 (tgt := 20) rfl ?_
        refine X.sub [1, 2, 0] rfl ?_
        exact ih _ _ _ _ hf
      · rw [if_neg hc] at hf
        refine X.iconst dX5_spells_47 kI_0 ?_
        obtain ⟨e1, e2⟩ := e_ret hf
        subst e1
        subst e2
        exact X.iret dX5_spells_48 rfl rfl
theorem o_X5_spells  {S : e_S} {w : Int32} {k : e_G} {l0 : Nat} {l1 : Nat} {g : e_G} (hf : f_X5_spells S l0 l1 g = some (w, k)) : e_ob S 5 l0 = true := by
  unfold f_X5_spells at hf
  by_cases hc : e_ob S 5 l0 = true
  · exact hc
  · rw [if_neg hc] at hf
    cases hf
theorem c_X5_spells {l : Launch} {D : va_G}  {S : e_S} {w : Int32} {k : e_G} {l0 : Nat} {l1 : Nat} {g : e_G} (hf : f_X5_spells S l0 l1 g = some (w, k)) : CT l D (e_R 6) M_X5_spells [.ref l0, .ref l1] (S, g) (some (.int w)) (S, k) := by
  refine CT.of (by decide +kernel) (Nat.le_of_ble_eq_true rfl) ?_
  have ho := o_X5_spells hf
  unfold f_X5_spells at hf
  rw [if_pos ho] at hf
  show X l D (e_R 6) M_X5_spells 0 0 0 [(0, .ref l0), (1, .ref l1)] [] (S, g) (some (.int w)) (S, k)
  refine X.aload_n dX5_spells_0 rfl (j := 0) rfl ?_
  obtain ⟨v1, h2, hf⟩ := ob hf
  refine Y.getI dX5_spells_1 fl_X5_34 rfl h2 ?_
  refine X.aload_n dX5_spells_4 rfl (j := 0) rfl ?_
  obtain ⟨v3, h4, hf⟩ := ob hf
  refine Y.getI dX5_spells_5 fl_X5_53 rfl h4 ?_
  refine X.isub dX5_spells_8 ?_
  refine X.aload_n dX5_spells_9 rfl (j := 1) rfl ?_
  obtain ⟨v6, h5, hf⟩ := ob hf
  refine Y.str_length dX5_spells_10 cw_X5_135 (Nat.le_of_ble_eq_true rfl) (by simp [Value.category]) h5 ?_
  refine X.icmp_eq dX5_spells_13 (tgt := 18) rfl (fun hc => ?_) (fun hc => ?_)
  · rw [if_pos hc] at hf
    refine X.iconst dX5_spells_18 kI_0 ?_
    refine X.istore_n dX5_spells_19 rfl (Nat.le_of_ble_eq_true rfl) (lc' := [(2, .int (0 : Int32)), (0, .ref l0), (1, .ref l1)]) rfl ?_
    refine X.sub [1, 2, 0] rfl ?_
    exact x_L_X5_spells_20 50000 _ _ _ _ hf
  · rw [if_neg hc] at hf
    refine X.iconst dX5_spells_16 kI_0 ?_
    obtain ⟨e1, e2⟩ := e_ret hf
    subst e1
    subst e2
    exact X.iret dX5_spells_17 rfl rfl
/-! LeanedOut$Reader.nameNumber()I -/
abbrev M_X5_nameNumber : e_M := (yX5_nameNumber, cX5_nameNumber, 1, (some .int))
theorem mk_X5_nameNumber : e_Mok M_X5_nameNumber 0 := ⟨by decide +kernel, by decide +kernel, by decide +kernel⟩
theorem dX5_nameNumber_0 : decode cX5_nameNumber 0 = .ok (.aload_n 0, 1) := by decide +kernel
theorem dX5_nameNumber_1 : decode cX5_nameNumber 1 = .ok (.ldc 107, 2) := by decide +kernel
theorem dX5_nameNumber_3 : decode cX5_nameNumber 3 = .ok (.invokevirtual 109, 3) := by decide +kernel
theorem dX5_nameNumber_6 : decode cX5_nameNumber 6 = .ok (.ifCond .eq 5, 3) := by decide +kernel
theorem dX5_nameNumber_9 : decode cX5_nameNumber 9 = .ok (.iconst 0, 1) := by decide +kernel
theorem dX5_nameNumber_10 : decode cX5_nameNumber 10 = .ok (.ireturn, 1) := by decide +kernel
theorem dX5_nameNumber_11 : decode cX5_nameNumber 11 = .ok (.aload_n 0, 1) := by decide +kernel
theorem dX5_nameNumber_12 : decode cX5_nameNumber 12 = .ok (.ldc 113, 2) := by decide +kernel
theorem dX5_nameNumber_14 : decode cX5_nameNumber 14 = .ok (.invokevirtual 109, 3) := by decide +kernel
theorem dX5_nameNumber_17 : decode cX5_nameNumber 17 = .ok (.ifCond .eq 5, 3) := by decide +kernel
theorem dX5_nameNumber_20 : decode cX5_nameNumber 20 = .ok (.iconst 1, 1) := by decide +kernel
theorem dX5_nameNumber_21 : decode cX5_nameNumber 21 = .ok (.ireturn, 1) := by decide +kernel
theorem dX5_nameNumber_22 : decode cX5_nameNumber 22 = .ok (.aload_n 0, 1) := by decide +kernel
theorem dX5_nameNumber_23 : decode cX5_nameNumber 23 = .ok (.ldc 115, 2) := by decide +kernel
theorem dX5_nameNumber_25 : decode cX5_nameNumber 25 = .ok (.invokevirtual 109, 3) := by decide +kernel
theorem dX5_nameNumber_28 : decode cX5_nameNumber 28 = .ok (.ifCond .eq 5, 3) := by decide +kernel
theorem dX5_nameNumber_31 : decode cX5_nameNumber 31 = .ok (.iconst 2, 1) := by decide +kernel
theorem dX5_nameNumber_32 : decode cX5_nameNumber 32 = .ok (.ireturn, 1) := by decide +kernel
theorem dX5_nameNumber_33 : decode cX5_nameNumber 33 = .ok (.aload_n 0, 1) := by decide +kernel
theorem dX5_nameNumber_34 : decode cX5_nameNumber 34 = .ok (.ldc 117, 2) := by decide +kernel
theorem dX5_nameNumber_36 : decode cX5_nameNumber 36 = .ok (.invokevirtual 109, 3) := by decide +kernel
theorem dX5_nameNumber_39 : decode cX5_nameNumber 39 = .ok (.ifCond .eq 5, 3) := by decide +kernel
theorem dX5_nameNumber_42 : decode cX5_nameNumber 42 = .ok (.iconst 3, 1) := by decide +kernel
theorem dX5_nameNumber_43 : decode cX5_nameNumber 43 = .ok (.ireturn, 1) := by decide +kernel
theorem dX5_nameNumber_44 : decode cX5_nameNumber 44 = .ok (.aload_n 0, 1) := by decide +kernel
theorem dX5_nameNumber_45 : decode cX5_nameNumber 45 = .ok (.ldc 119, 2) := by decide +kernel
theorem dX5_nameNumber_47 : decode cX5_nameNumber 47 = .ok (.invokevirtual 109, 3) := by decide +kernel
theorem dX5_nameNumber_50 : decode cX5_nameNumber 50 = .ok (.ifCond .eq 5, 3) := by decide +kernel
theorem dX5_nameNumber_53 : decode cX5_nameNumber 53 = .ok (.iconst 4, 1) := by decide +kernel
theorem dX5_nameNumber_54 : decode cX5_nameNumber 54 = .ok (.ireturn, 1) := by decide +kernel
theorem dX5_nameNumber_55 : decode cX5_nameNumber 55 = .ok (.aload_n 0, 1) := by decide +kernel
theorem dX5_nameNumber_56 : decode cX5_nameNumber 56 = .ok (.ldc 121, 2) := by decide +kernel
theorem dX5_nameNumber_58 : decode cX5_nameNumber 58 = .ok (.invokevirtual 109, 3) := by decide +kernel
theorem dX5_nameNumber_61 : decode cX5_nameNumber 61 = .ok (.ifCond .eq 5, 3) := by decide +kernel
theorem dX5_nameNumber_64 : decode cX5_nameNumber 64 = .ok (.iconst 5, 1) := by decide +kernel
theorem dX5_nameNumber_65 : decode cX5_nameNumber 65 = .ok (.ireturn, 1) := by decide +kernel
theorem dX5_nameNumber_66 : decode cX5_nameNumber 66 = .ok (.iconst (-1), 1) := by decide +kernel
theorem dX5_nameNumber_67 : decode cX5_nameNumber 67 = .ok (.ireturn, 1) := by decide +kernel
def f_X5_nameNumber (S : e_S) (l0 : Nat) (g : e_G) : Option (Int32 × e_G) :=
  if e_ob S 5 l0 = true then
    (f_X5_spells S l0 1000001 g).bind fun q2 =>
    if q2.1 = 0 then
      (f_X5_spells S l0 1000002 q2.2).bind fun q4 =>
      if q4.1 = 0 then
        (f_X5_spells S l0 1000003 q4.2).bind fun q6 =>
        if q6.1 = 0 then
          (f_X5_spells S l0 1000004 q6.2).bind fun q8 =>
          if q8.1 = 0 then
            (f_X5_spells S l0 1000005 q8.2).bind fun q10 =>
            if q10.1 = 0 then
              (f_X5_spells S l0 1000006 q10.2).bind fun q12 =>
              if q12.1 = 0 then
                some ((-1 : Int32), q12.2)
              else
                some ((5 : Int32), q12.2)
            else
              some ((4 : Int32), q10.2)
          else
            some ((3 : Int32), q8.2)
        else
          some ((2 : Int32), q6.2)
      else
        some ((1 : Int32), q4.2)
    else
      some ((0 : Int32), q2.2)
  else none
theorem o_X5_nameNumber  {S : e_S} {w : Int32} {k : e_G} {l0 : Nat} {g : e_G} (hf : f_X5_nameNumber S l0 g = some (w, k)) : e_ob S 5 l0 = true := by
  unfold f_X5_nameNumber at hf
  by_cases hc : e_ob S 5 l0 = true
  · exact hc
  · rw [if_neg hc] at hf
    cases hf
theorem c_X5_nameNumber {l : Launch} {D : va_G}  {S : e_S} {w : Int32} {k : e_G} {l0 : Nat} {g : e_G} (hf : f_X5_nameNumber S l0 g = some (w, k)) : CT l D (e_R 7) M_X5_nameNumber [.ref l0] (S, g) (some (.int w)) (S, k) := by
  refine CT.of (by decide +kernel) (Nat.le_of_ble_eq_true rfl) ?_
  have ho := o_X5_nameNumber hf
  unfold f_X5_nameNumber at hf
  rw [if_pos ho] at hf
  show X l D (e_R 7) M_X5_nameNumber 0 0 0 [(0, .ref l0)] [] (S, g) (some (.int w)) (S, k)
  refine X.aload_n dX5_nameNumber_0 rfl (j := 0) rfl ?_
  refine X.ldcS (i := 1) dX5_nameNumber_1 rfl ?_
  obtain ⟨q2, h1, hf⟩ := ob hf
  refine Y.callV (av := [.ref 1000001]) (ci := 5) dX5_nameNumber_3 (c_X5_spells (l := l) (D := D) (w := q2.1) (k := q2.2) h1) cw_X5_109 (by decide) rfl mk_X5_spells (o_X5_spells (w := q2.1) (k := q2.2) h1) (e_R_ok (Nat.le_of_ble_eq_true rfl) (Nat.le_of_ble_eq_true rfl)) ⟨rfl, rfl⟩ (by simp [Value.category]) ?_
  refine X.if_eq dX5_nameNumber_6 (tgt := 11) rfl (fun hc => ?_) (fun hc => ?_)
  · rw [if_pos hc] at hf
    refine X.aload_n dX5_nameNumber_11 rfl (j := 0) rfl ?_
    refine X.ldcS (i := 2) dX5_nameNumber_12 rfl ?_
    obtain ⟨q4, h3, hf⟩ := ob hf
    refine Y.callV (av := [.ref 1000002]) (ci := 5) dX5_nameNumber_14 (c_X5_spells (l := l) (D := D) (w := q4.1) (k := q4.2) h3) cw_X5_109 (by decide) rfl mk_X5_spells (o_X5_spells (w := q4.1) (k := q4.2) h3) (e_R_ok (Nat.le_of_ble_eq_true rfl) (Nat.le_of_ble_eq_true rfl)) ⟨rfl, rfl⟩ (by simp [Value.category]) ?_
    refine X.if_eq dX5_nameNumber_17 (tgt := 22) rfl (fun hc => ?_) (fun hc => ?_)
    · rw [if_pos hc] at hf
      refine X.aload_n dX5_nameNumber_22 rfl (j := 0) rfl ?_
      refine X.ldcS (i := 3) dX5_nameNumber_23 rfl ?_
      obtain ⟨q6, h5, hf⟩ := ob hf
      refine Y.callV (av := [.ref 1000003]) (ci := 5) dX5_nameNumber_25 (c_X5_spells (l := l) (D := D) (w := q6.1) (k := q6.2) h5) cw_X5_109 (by decide) rfl mk_X5_spells (o_X5_spells (w := q6.1) (k := q6.2) h5) (e_R_ok (Nat.le_of_ble_eq_true rfl) (Nat.le_of_ble_eq_true rfl)) ⟨rfl, rfl⟩ (by simp [Value.category]) ?_
      refine X.if_eq dX5_nameNumber_28 (tgt := 33) rfl (fun hc => ?_) (fun hc => ?_)
      · rw [if_pos hc] at hf
        refine X.aload_n dX5_nameNumber_33 rfl (j := 0) rfl ?_
        refine X.ldcS (i := 4) dX5_nameNumber_34 rfl ?_
        obtain ⟨q8, h7, hf⟩ := ob hf
        refine Y.callV (av := [.ref 1000004]) (ci := 5) dX5_nameNumber_36 (c_X5_spells (l := l) (D := D) (w := q8.1) (k := q8.2) h7) cw_X5_109 (by decide) rfl mk_X5_spells (o_X5_spells (w := q8.1) (k := q8.2) h7) (e_R_ok (Nat.le_of_ble_eq_true rfl) (Nat.le_of_ble_eq_true rfl)) ⟨rfl, rfl⟩ (by simp [Value.category]) ?_
        refine X.if_eq dX5_nameNumber_39 (tgt := 44) rfl (fun hc => ?_) (fun hc => ?_)
        · rw [if_pos hc] at hf
          refine X.aload_n dX5_nameNumber_44 rfl (j := 0) rfl ?_
          refine X.ldcS (i := 5) dX5_nameNumber_45 rfl ?_
          obtain ⟨q10, h9, hf⟩ := ob hf
          refine Y.callV (av := [.ref 1000005]) (ci := 5) dX5_nameNumber_47 (c_X5_spells (l := l) (D := D) (w := q10.1) (k := q10.2) h9) cw_X5_109 (by decide) rfl mk_X5_spells (o_X5_spells (w := q10.1) (k := q10.2) h9) (e_R_ok (Nat.le_of_ble_eq_true rfl) (Nat.le_of_ble_eq_true rfl)) ⟨rfl, rfl⟩ (by simp [Value.category]) ?_
          refine X.if_eq dX5_nameNumber_50 (tgt := 55) rfl (fun hc => ?_) (fun hc => ?_)
          · rw [if_pos hc] at hf
            refine X.aload_n dX5_nameNumber_55 rfl (j := 0) rfl ?_
            refine X.ldcS (i := 6) dX5_nameNumber_56 rfl ?_
            obtain ⟨q12, h11, hf⟩ := ob hf
            refine Y.callV (av := [.ref 1000006]) (ci := 5) dX5_nameNumber_58 (c_X5_spells (l := l) (D := D) (w := q12.1) (k := q12.2) h11) cw_X5_109 (by decide) rfl mk_X5_spells (o_X5_spells (w := q12.1) (k := q12.2) h11) (e_R_ok (Nat.le_of_ble_eq_true rfl) (Nat.le_of_ble_eq_true rfl)) ⟨rfl, rfl⟩ (by simp [Value.category]) ?_
            refine X.if_eq dX5_nameNumber_61 (tgt := 66) rfl (fun hc => ?_) (fun hc => ?_)
            · rw [if_pos hc] at hf
              refine X.iconst dX5_nameNumber_66 kI_m1 ?_
              obtain ⟨e1, e2⟩ := e_ret hf
              subst e1
              subst e2
              exact X.iret dX5_nameNumber_67 rfl rfl
            · rw [if_neg hc] at hf
              refine X.iconst dX5_nameNumber_64 kI_5 ?_
              obtain ⟨e1, e2⟩ := e_ret hf
              subst e1
              subst e2
              exact X.iret dX5_nameNumber_65 rfl rfl
          · rw [if_neg hc] at hf
            refine X.iconst dX5_nameNumber_53 kI_4 ?_
            obtain ⟨e1, e2⟩ := e_ret hf
            subst e1
            subst e2
            exact X.iret dX5_nameNumber_54 rfl rfl
        · rw [if_neg hc] at hf
          refine X.iconst dX5_nameNumber_42 kI_3 ?_
          obtain ⟨e1, e2⟩ := e_ret hf
          subst e1
          subst e2
          exact X.iret dX5_nameNumber_43 rfl rfl
      · rw [if_neg hc] at hf
        refine X.iconst dX5_nameNumber_31 kI_2 ?_
        obtain ⟨e1, e2⟩ := e_ret hf
        subst e1
        subst e2
        exact X.iret dX5_nameNumber_32 rfl rfl
    · rw [if_neg hc] at hf
      refine X.iconst dX5_nameNumber_20 kI_1 ?_
      obtain ⟨e1, e2⟩ := e_ret hf
      subst e1
      subst e2
      exact X.iret dX5_nameNumber_21 rfl rfl
  · rw [if_neg hc] at hf
    refine X.iconst dX5_nameNumber_9 kI_0 ?_
    obtain ⟨e1, e2⟩ := e_ret hf
    subst e1
    subst e2
    exact X.iret dX5_nameNumber_10 rfl rfl
/-! LeanedOut$Reader.keyToken()I -/
abbrev M_X5_keyToken : e_M := (yX5_keyToken, cX5_keyToken, 1, (some .int))
theorem mk_X5_keyToken : e_Mok M_X5_keyToken 0 := ⟨by decide +kernel, by decide +kernel, by decide +kernel⟩
theorem dX5_keyToken_0 : decode cX5_keyToken 0 = .ok (.aload_n 0, 1) := by decide +kernel
theorem dX5_keyToken_1 : decode cX5_keyToken 1 = .ok (.ldc 123, 2) := by decide +kernel
theorem dX5_keyToken_3 : decode cX5_keyToken 3 = .ok (.invokevirtual 109, 3) := by decide +kernel
theorem dX5_keyToken_6 : decode cX5_keyToken 6 = .ok (.ifCond .eq 7, 3) := by decide +kernel
theorem dX5_keyToken_9 : decode cX5_keyToken 9 = .ok (.sipush 1020, 3) := by decide +kernel
theorem dX5_keyToken_12 : decode cX5_keyToken 12 = .ok (.ireturn, 1) := by decide +kernel
theorem dX5_keyToken_13 : decode cX5_keyToken 13 = .ok (.aload_n 0, 1) := by decide +kernel
theorem dX5_keyToken_14 : decode cX5_keyToken 14 = .ok (.ldc 125, 2) := by decide +kernel
theorem dX5_keyToken_16 : decode cX5_keyToken 16 = .ok (.invokevirtual 109, 3) := by decide +kernel
theorem dX5_keyToken_19 : decode cX5_keyToken 19 = .ok (.ifCond .eq 7, 3) := by decide +kernel
theorem dX5_keyToken_22 : decode cX5_keyToken 22 = .ok (.sipush 1021, 3) := by decide +kernel
theorem dX5_keyToken_25 : decode cX5_keyToken 25 = .ok (.ireturn, 1) := by decide +kernel
theorem dX5_keyToken_26 : decode cX5_keyToken 26 = .ok (.aload_n 0, 1) := by decide +kernel
theorem dX5_keyToken_27 : decode cX5_keyToken 27 = .ok (.ldc 127, 2) := by decide +kernel
theorem dX5_keyToken_29 : decode cX5_keyToken 29 = .ok (.invokevirtual 109, 3) := by decide +kernel
theorem dX5_keyToken_32 : decode cX5_keyToken 32 = .ok (.ifCond .eq 7, 3) := by decide +kernel
theorem dX5_keyToken_35 : decode cX5_keyToken 35 = .ok (.sipush 1022, 3) := by decide +kernel
theorem dX5_keyToken_38 : decode cX5_keyToken 38 = .ok (.ireturn, 1) := by decide +kernel
theorem dX5_keyToken_39 : decode cX5_keyToken 39 = .ok (.aload_n 0, 1) := by decide +kernel
theorem dX5_keyToken_40 : decode cX5_keyToken 40 = .ok (.ldc 129, 2) := by decide +kernel
theorem dX5_keyToken_42 : decode cX5_keyToken 42 = .ok (.invokevirtual 109, 3) := by decide +kernel
theorem dX5_keyToken_45 : decode cX5_keyToken 45 = .ok (.ifCond .eq 7, 3) := by decide +kernel
theorem dX5_keyToken_48 : decode cX5_keyToken 48 = .ok (.sipush 1010, 3) := by decide +kernel
theorem dX5_keyToken_51 : decode cX5_keyToken 51 = .ok (.ireturn, 1) := by decide +kernel
theorem dX5_keyToken_52 : decode cX5_keyToken 52 = .ok (.aload_n 0, 1) := by decide +kernel
theorem dX5_keyToken_53 : decode cX5_keyToken 53 = .ok (.ldc 131, 2) := by decide +kernel
theorem dX5_keyToken_55 : decode cX5_keyToken 55 = .ok (.invokevirtual 109, 3) := by decide +kernel
theorem dX5_keyToken_58 : decode cX5_keyToken 58 = .ok (.ifCond .eq 7, 3) := by decide +kernel
theorem dX5_keyToken_61 : decode cX5_keyToken 61 = .ok (.sipush 1011, 3) := by decide +kernel
theorem dX5_keyToken_64 : decode cX5_keyToken 64 = .ok (.ireturn, 1) := by decide +kernel
theorem dX5_keyToken_65 : decode cX5_keyToken 65 = .ok (.aload_n 0, 1) := by decide +kernel
theorem dX5_keyToken_66 : decode cX5_keyToken 66 = .ok (.ldc 133, 2) := by decide +kernel
theorem dX5_keyToken_68 : decode cX5_keyToken 68 = .ok (.invokevirtual 109, 3) := by decide +kernel
theorem dX5_keyToken_71 : decode cX5_keyToken 71 = .ok (.ifCond .eq 7, 3) := by decide +kernel
theorem dX5_keyToken_74 : decode cX5_keyToken 74 = .ok (.sipush 1012, 3) := by decide +kernel
theorem dX5_keyToken_77 : decode cX5_keyToken 77 = .ok (.ireturn, 1) := by decide +kernel
theorem dX5_keyToken_78 : decode cX5_keyToken 78 = .ok (.sipush 1001, 3) := by decide +kernel
theorem dX5_keyToken_81 : decode cX5_keyToken 81 = .ok (.ireturn, 1) := by decide +kernel
def f_X5_keyToken (S : e_S) (l0 : Nat) (g : e_G) : Option (Int32 × e_G) :=
  if e_ob S 5 l0 = true then
    (f_X5_spells S l0 1000007 g).bind fun q2 =>
    if q2.1 = 0 then
      (f_X5_spells S l0 1000008 q2.2).bind fun q4 =>
      if q4.1 = 0 then
        (f_X5_spells S l0 1000009 q4.2).bind fun q6 =>
        if q6.1 = 0 then
          (f_X5_spells S l0 1000010 q6.2).bind fun q8 =>
          if q8.1 = 0 then
            (f_X5_spells S l0 1000011 q8.2).bind fun q10 =>
            if q10.1 = 0 then
              (f_X5_spells S l0 1000012 q10.2).bind fun q12 =>
              if q12.1 = 0 then
                some ((1001 : Int32), q12.2)
              else
                some ((1012 : Int32), q12.2)
            else
              some ((1011 : Int32), q10.2)
          else
            some ((1010 : Int32), q8.2)
        else
          some ((1022 : Int32), q6.2)
      else
        some ((1021 : Int32), q4.2)
    else
      some ((1020 : Int32), q2.2)
  else none
theorem o_X5_keyToken  {S : e_S} {w : Int32} {k : e_G} {l0 : Nat} {g : e_G} (hf : f_X5_keyToken S l0 g = some (w, k)) : e_ob S 5 l0 = true := by
  unfold f_X5_keyToken at hf
  by_cases hc : e_ob S 5 l0 = true
  · exact hc
  · rw [if_neg hc] at hf
    cases hf
theorem c_X5_keyToken {l : Launch} {D : va_G}  {S : e_S} {w : Int32} {k : e_G} {l0 : Nat} {g : e_G} (hf : f_X5_keyToken S l0 g = some (w, k)) : CT l D (e_R 7) M_X5_keyToken [.ref l0] (S, g) (some (.int w)) (S, k) := by
  refine CT.of (by decide +kernel) (Nat.le_of_ble_eq_true rfl) ?_
  have ho := o_X5_keyToken hf
  unfold f_X5_keyToken at hf
  rw [if_pos ho] at hf
  show X l D (e_R 7) M_X5_keyToken 0 0 0 [(0, .ref l0)] [] (S, g) (some (.int w)) (S, k)
  refine X.aload_n dX5_keyToken_0 rfl (j := 0) rfl ?_
  refine X.ldcS (i := 7) dX5_keyToken_1 rfl ?_
  obtain ⟨q2, h1, hf⟩ := ob hf
  refine Y.callV (av := [.ref 1000007]) (ci := 5) dX5_keyToken_3 (c_X5_spells (l := l) (D := D) (w := q2.1) (k := q2.2) h1) cw_X5_109 (by decide) rfl mk_X5_spells (o_X5_spells (w := q2.1) (k := q2.2) h1) (e_R_ok (Nat.le_of_ble_eq_true rfl) (Nat.le_of_ble_eq_true rfl)) ⟨rfl, rfl⟩ (by simp [Value.category]) ?_
  refine X.if_eq dX5_keyToken_6 (tgt := 13) rfl (fun hc => ?_) (fun hc => ?_)
  · rw [if_pos hc] at hf
    refine X.aload_n dX5_keyToken_13 rfl (j := 0) rfl ?_
    refine X.ldcS (i := 8) dX5_keyToken_14 rfl ?_
    obtain ⟨q4, h3, hf⟩ := ob hf
    refine Y.callV (av := [.ref 1000008]) (ci := 5) dX5_keyToken_16 (c_X5_spells (l := l) (D := D) (w := q4.1) (k := q4.2) h3) cw_X5_109 (by decide) rfl mk_X5_spells (o_X5_spells (w := q4.1) (k := q4.2) h3) (e_R_ok (Nat.le_of_ble_eq_true rfl) (Nat.le_of_ble_eq_true rfl)) ⟨rfl, rfl⟩ (by simp [Value.category]) ?_
    refine X.if_eq dX5_keyToken_19 (tgt := 26) rfl (fun hc => ?_) (fun hc => ?_)
    · rw [if_pos hc] at hf
      refine X.aload_n dX5_keyToken_26 rfl (j := 0) rfl ?_
      refine X.ldcS (i := 9) dX5_keyToken_27 rfl ?_
      obtain ⟨q6, h5, hf⟩ := ob hf
      refine Y.callV (av := [.ref 1000009]) (ci := 5) dX5_keyToken_29 (c_X5_spells (l := l) (D := D) (w := q6.1) (k := q6.2) h5) cw_X5_109 (by decide) rfl mk_X5_spells (o_X5_spells (w := q6.1) (k := q6.2) h5) (e_R_ok (Nat.le_of_ble_eq_true rfl) (Nat.le_of_ble_eq_true rfl)) ⟨rfl, rfl⟩ (by simp [Value.category]) ?_
      refine X.if_eq dX5_keyToken_32 (tgt := 39) rfl (fun hc => ?_) (fun hc => ?_)
      · rw [if_pos hc] at hf
        refine X.aload_n dX5_keyToken_39 rfl (j := 0) rfl ?_
        refine X.ldcS (i := 10) dX5_keyToken_40 rfl ?_
        obtain ⟨q8, h7, hf⟩ := ob hf
        refine Y.callV (av := [.ref 1000010]) (ci := 5) dX5_keyToken_42 (c_X5_spells (l := l) (D := D) (w := q8.1) (k := q8.2) h7) cw_X5_109 (by decide) rfl mk_X5_spells (o_X5_spells (w := q8.1) (k := q8.2) h7) (e_R_ok (Nat.le_of_ble_eq_true rfl) (Nat.le_of_ble_eq_true rfl)) ⟨rfl, rfl⟩ (by simp [Value.category]) ?_
        refine X.if_eq dX5_keyToken_45 (tgt := 52) rfl (fun hc => ?_) (fun hc => ?_)
        · rw [if_pos hc] at hf
          refine X.aload_n dX5_keyToken_52 rfl (j := 0) rfl ?_
          refine X.ldcS (i := 11) dX5_keyToken_53 rfl ?_
          obtain ⟨q10, h9, hf⟩ := ob hf
          refine Y.callV (av := [.ref 1000011]) (ci := 5) dX5_keyToken_55 (c_X5_spells (l := l) (D := D) (w := q10.1) (k := q10.2) h9) cw_X5_109 (by decide) rfl mk_X5_spells (o_X5_spells (w := q10.1) (k := q10.2) h9) (e_R_ok (Nat.le_of_ble_eq_true rfl) (Nat.le_of_ble_eq_true rfl)) ⟨rfl, rfl⟩ (by simp [Value.category]) ?_
          refine X.if_eq dX5_keyToken_58 (tgt := 65) rfl (fun hc => ?_) (fun hc => ?_)
          · rw [if_pos hc] at hf
            refine X.aload_n dX5_keyToken_65 rfl (j := 0) rfl ?_
            refine X.ldcS (i := 12) dX5_keyToken_66 rfl ?_
            obtain ⟨q12, h11, hf⟩ := ob hf
            refine Y.callV (av := [.ref 1000012]) (ci := 5) dX5_keyToken_68 (c_X5_spells (l := l) (D := D) (w := q12.1) (k := q12.2) h11) cw_X5_109 (by decide) rfl mk_X5_spells (o_X5_spells (w := q12.1) (k := q12.2) h11) (e_R_ok (Nat.le_of_ble_eq_true rfl) (Nat.le_of_ble_eq_true rfl)) ⟨rfl, rfl⟩ (by simp [Value.category]) ?_
            refine X.if_eq dX5_keyToken_71 (tgt := 78) rfl (fun hc => ?_) (fun hc => ?_)
            · rw [if_pos hc] at hf
              refine X.sipush dX5_keyToken_78 kS_1001 ?_
              obtain ⟨e1, e2⟩ := e_ret hf
              subst e1
              subst e2
              exact X.iret dX5_keyToken_81 rfl rfl
            · rw [if_neg hc] at hf
              refine X.sipush dX5_keyToken_74 kS_1012 ?_
              obtain ⟨e1, e2⟩ := e_ret hf
              subst e1
              subst e2
              exact X.iret dX5_keyToken_77 rfl rfl
          · rw [if_neg hc] at hf
            refine X.sipush dX5_keyToken_61 kS_1011 ?_
            obtain ⟨e1, e2⟩ := e_ret hf
            subst e1
            subst e2
            exact X.iret dX5_keyToken_64 rfl rfl
        · rw [if_neg hc] at hf
          refine X.sipush dX5_keyToken_48 kS_1010 ?_
          obtain ⟨e1, e2⟩ := e_ret hf
          subst e1
          subst e2
          exact X.iret dX5_keyToken_51 rfl rfl
      · rw [if_neg hc] at hf
        refine X.sipush dX5_keyToken_35 kS_1022 ?_
        obtain ⟨e1, e2⟩ := e_ret hf
        subst e1
        subst e2
        exact X.iret dX5_keyToken_38 rfl rfl
    · rw [if_neg hc] at hf
      refine X.sipush dX5_keyToken_22 kS_1021 ?_
      obtain ⟨e1, e2⟩ := e_ret hf
      subst e1
      subst e2
      exact X.iret dX5_keyToken_25 rfl rfl
  · rw [if_neg hc] at hf
    refine X.sipush dX5_keyToken_9 kS_1020 ?_
    obtain ⟨e1, e2⟩ := e_ret hf
    subst e1
    subst e2
    exact X.iret dX5_keyToken_12 rfl rfl
/-! LeanedOut$Reader.takeNumber()V -/
abbrev M_X5_takeNumber : e_M := (yX5_takeNumber, cX5_takeNumber, 1, none)
theorem mk_X5_takeNumber : e_Mok M_X5_takeNumber 0 := ⟨by decide +kernel, by decide +kernel, by decide +kernel⟩
theorem dX5_takeNumber_0 : decode cX5_takeNumber 0 = .ok (.aload_n 0, 1) := by decide +kernel
theorem dX5_takeNumber_1 : decode cX5_takeNumber 1 = .ok (.iconst 0, 1) := by decide +kernel
theorem dX5_takeNumber_2 : decode cX5_takeNumber 2 = .ok (.putfield 81, 3) := by decide +kernel
theorem dX5_takeNumber_5 : decode cX5_takeNumber 5 = .ok (.aload_n 0, 1) := by decide +kernel
theorem dX5_takeNumber_6 : decode cX5_takeNumber 6 = .ok (.getfield 34, 3) := by decide +kernel
theorem dX5_takeNumber_9 : decode cX5_takeNumber 9 = .ok (.aload_n 0, 1) := by decide +kernel
theorem dX5_takeNumber_10 : decode cX5_takeNumber 10 = .ok (.getfield 21, 3) := by decide +kernel
theorem dX5_takeNumber_13 : decode cX5_takeNumber 13 = .ok (.if_icmp .ge 55, 3) := by decide +kernel
theorem dX5_takeNumber_16 : decode cX5_takeNumber 16 = .ok (.aload_n 0, 1) := by decide +kernel
theorem dX5_takeNumber_17 : decode cX5_takeNumber 17 = .ok (.getfield 9, 3) := by decide +kernel
theorem dX5_takeNumber_20 : decode cX5_takeNumber 20 = .ok (.aload_n 0, 1) := by decide +kernel
theorem dX5_takeNumber_21 : decode cX5_takeNumber 21 = .ok (.getfield 34, 3) := by decide +kernel
theorem dX5_takeNumber_24 : decode cX5_takeNumber 24 = .ok (.iaload, 1) := by decide +kernel
theorem dX5_takeNumber_25 : decode cX5_takeNumber 25 = .ok (.invokestatic 91, 3) := by decide +kernel
theorem dX5_takeNumber_28 : decode cX5_takeNumber 28 = .ok (.ifCond .eq 40, 3) := by decide +kernel
theorem dX5_takeNumber_31 : decode cX5_takeNumber 31 = .ok (.aload_n 0, 1) := by decide +kernel
theorem dX5_takeNumber_32 : decode cX5_takeNumber 32 = .ok (.bipush 10, 2) := by decide +kernel
theorem dX5_takeNumber_34 : decode cX5_takeNumber 34 = .ok (.aload_n 0, 1) := by decide +kernel
theorem dX5_takeNumber_35 : decode cX5_takeNumber 35 = .ok (.getfield 81, 3) := by decide +kernel
theorem dX5_takeNumber_38 : decode cX5_takeNumber 38 = .ok (.imul, 1) := by decide +kernel
theorem dX5_takeNumber_39 : decode cX5_takeNumber 39 = .ok (.aload_n 0, 1) := by decide +kernel
theorem dX5_takeNumber_40 : decode cX5_takeNumber 40 = .ok (.getfield 9, 3) := by decide +kernel
theorem dX5_takeNumber_43 : decode cX5_takeNumber 43 = .ok (.aload_n 0, 1) := by decide +kernel
theorem dX5_takeNumber_44 : decode cX5_takeNumber 44 = .ok (.getfield 34, 3) := by decide +kernel
theorem dX5_takeNumber_47 : decode cX5_takeNumber 47 = .ok (.iaload, 1) := by decide +kernel
theorem dX5_takeNumber_48 : decode cX5_takeNumber 48 = .ok (.iadd, 1) := by decide +kernel
theorem dX5_takeNumber_49 : decode cX5_takeNumber 49 = .ok (.bipush 48, 2) := by decide +kernel
theorem dX5_takeNumber_51 : decode cX5_takeNumber 51 = .ok (.isub, 1) := by decide +kernel
theorem dX5_takeNumber_52 : decode cX5_takeNumber 52 = .ok (.putfield 81, 3) := by decide +kernel
theorem dX5_takeNumber_55 : decode cX5_takeNumber 55 = .ok (.aload_n 0, 1) := by decide +kernel
theorem dX5_takeNumber_56 : decode cX5_takeNumber 56 = .ok (.dup, 1) := by decide +kernel
theorem dX5_takeNumber_57 : decode cX5_takeNumber 57 = .ok (.getfield 34, 3) := by decide +kernel
theorem dX5_takeNumber_60 : decode cX5_takeNumber 60 = .ok (.iconst 1, 1) := by decide +kernel
theorem dX5_takeNumber_61 : decode cX5_takeNumber 61 = .ok (.iadd, 1) := by decide +kernel
theorem dX5_takeNumber_62 : decode cX5_takeNumber 62 = .ok (.putfield 34, 3) := by decide +kernel
theorem dX5_takeNumber_65 : decode cX5_takeNumber 65 = .ok (.goto (-60), 3) := by decide +kernel
theorem dX5_takeNumber_68 : decode cX5_takeNumber 68 = .ok (.aload_n 0, 1) := by decide +kernel
theorem dX5_takeNumber_69 : decode cX5_takeNumber 69 = .ok (.aload_n 0, 1) := by decide +kernel
theorem dX5_takeNumber_70 : decode cX5_takeNumber 70 = .ok (.getfield 34, 3) := by decide +kernel
theorem dX5_takeNumber_73 : decode cX5_takeNumber 73 = .ok (.aload_n 0, 1) := by decide +kernel
theorem dX5_takeNumber_74 : decode cX5_takeNumber 74 = .ok (.getfield 53, 3) := by decide +kernel
theorem dX5_takeNumber_77 : decode cX5_takeNumber 77 = .ok (.isub, 1) := by decide +kernel
theorem dX5_takeNumber_78 : decode cX5_takeNumber 78 = .ok (.iconst 4, 1) := by decide +kernel
theorem dX5_takeNumber_79 : decode cX5_takeNumber 79 = .ok (.if_icmp .le 9, 3) := by decide +kernel
theorem dX5_takeNumber_82 : decode cX5_takeNumber 82 = .ok (.sipush 1001, 3) := by decide +kernel
theorem dX5_takeNumber_85 : decode cX5_takeNumber 85 = .ok (.goto 6, 3) := by decide +kernel
theorem dX5_takeNumber_88 : decode cX5_takeNumber 88 = .ok (.sipush 1002, 3) := by decide +kernel
theorem dX5_takeNumber_91 : decode cX5_takeNumber 91 = .ok (.putfield 56, 3) := by decide +kernel
theorem dX5_takeNumber_94 : decode cX5_takeNumber 94 = .ok (.return_, 1) := by decide +kernel
def J_X5_takeNumber_91 (S : e_S) (t0 : Nat) (t1 : Int32) (g : e_G) : Option (e_G) :=
  (e_sI S g 5 t0 4 t1).bind fun g1 =>
  some g1
def J_X5_takeNumber_68 (S : e_S) (l0 : Nat) (g : e_G) : Option (e_G) :=
  (e_gI S g 5 l0 3).bind fun v1 =>
  (e_gI S g 5 l0 5).bind fun v3 =>
  if (v1 - v3) ≤ (4 : Int32) then
    J_X5_takeNumber_91 S l0 (1002 : Int32) g
  else
    J_X5_takeNumber_91 S l0 (1001 : Int32) g
def L_X5_takeNumber_5 : Nat → e_S → Nat → e_G → Option (e_G)
  | 0, _, _, _ => none
  | n + 1, S, l0, g =>
  (e_gI S g 5 l0 3).bind fun v1 =>
  (e_gI S g 5 l0 2).bind fun v3 =>
  if v3 ≤ v1 then
    J_X5_takeNumber_68 S l0 g
  else
    (e_gR S g 5 l0 0).bind fun v5 =>
    (e_gI S g 5 l0 3).bind fun v7 =>
    (e_aI S g 0 v5 v7).bind fun v9 =>
    (f_X5_isDigit S v9 g).bind fun q12 =>
    if q12.1 = 0 then
      J_X5_takeNumber_68 S l0 q12.2
    else
      (e_gI S q12.2 5 l0 6).bind fun v13 =>
      (e_gR S q12.2 5 l0 0).bind fun v15 =>
      (e_gI S q12.2 5 l0 3).bind fun v17 =>
      (e_aI S q12.2 0 v15 v17).bind fun v19 =>
      (e_sI S q12.2 5 l0 6 ((((10 : Int32) * v13) + v19) - (48 : Int32))).bind fun g21 =>
      (e_gI S g21 5 l0 3).bind fun v23 =>
      (e_sI S g21 5 l0 3 (v23 + (1 : Int32))).bind fun g25 =>
      L_X5_takeNumber_5 n S l0 g25
def f_X5_takeNumber (S : e_S) (l0 : Nat) (g : e_G) : Option (e_G) :=
  if e_ob S 5 l0 = true then
    (e_sI S g 5 l0 6 (0 : Int32)).bind fun g1 =>
    L_X5_takeNumber_5 50000 S l0 g1
  else none
theorem x_J_X5_takeNumber_91 {l : Launch} {D : va_G} {S : e_S} {k : e_G} {t0 : Nat} {t1 : Int32} {g : e_G} (hf : J_X5_takeNumber_91 S t0 t1 g = some k) : X l D (e_R 2) M_X5_takeNumber 0 0 91 [] [.int t1, .ref t0] (S, g) none (S, k) := by
  unfold J_X5_takeNumber_91 at hf
  obtain ⟨g1, h2, hf⟩ := ob hf
  refine Y.putI dX5_takeNumber_91 fl_X5_56 rfl rfl rfl rfl h2 ?_
  have e1 := Option.some.inj hf
  subst e1
  exact X.vret dX5_takeNumber_94 rfl
theorem x_J_X5_takeNumber_68 {l : Launch} {D : va_G} {S : e_S} {k : e_G} {l0 : Nat} {g : e_G} (hf : J_X5_takeNumber_68 S l0 g = some k) : X l D (e_R 2) M_X5_takeNumber 0 0 68 [(0, .ref l0)] [] (S, g) none (S, k) := by
  unfold J_X5_takeNumber_68 at hf
  refine X.aload_n dX5_takeNumber_68 rfl (j := 0) rfl ?_
  refine X.aload_n dX5_takeNumber_69 rfl (j := 0) rfl ?_
  obtain ⟨v1, h2, hf⟩ := ob hf
  refine Y.getI dX5_takeNumber_70 fl_X5_34 rfl h2 ?_
  refine X.aload_n dX5_takeNumber_73 rfl (j := 0) rfl ?_
  obtain ⟨v3, h4, hf⟩ := ob hf
  refine Y.getI dX5_takeNumber_74 fl_X5_53 rfl h4 ?_
  refine X.isub dX5_takeNumber_77 ?_
  refine X.iconst dX5_takeNumber_78 kI_4 ?_
  refine X.icmp_le dX5_takeNumber_79 (tgt := 88) rfl (fun hc => ?_) (fun hc => ?_)
  · rw [if_pos hc] at hf
    refine X.sipush dX5_takeNumber_88 kS_1002 ?_
    refine X.sub [] rfl ?_
    exact x_J_X5_takeNumber_91 hf
  · rw [if_neg hc] at hf
    refine X.sipush dX5_takeNumber_82 kS_1001 ?_
    refine X.goto dX5_takeNumber_85 (tgt := 91) rfl ?_
    refine X.sub [] rfl ?_
    exact x_J_X5_takeNumber_91 hf
theorem x_L_X5_takeNumber_5 {l : Launch} {D : va_G} {S : e_S} {k : e_G} : ∀ (n : Nat) (l0 : Nat) (g : e_G), L_X5_takeNumber_5 n S l0 g = some k → X l D (e_R 2) M_X5_takeNumber 0 0 5 [(0, .ref l0)] [] (S, g) none (S, k) := by
  intro n
  induction n with
  | zero =>
    intro l0 g hf
    cases hf
  | succ n ih =>
    intro l0 g hf
    rw [L_X5_takeNumber_5] at hf
    refine X.aload_n dX5_takeNumber_5 rfl (j := 0) rfl ?_
    obtain ⟨v1, h2, hf⟩ := ob hf
    refine Y.getI dX5_takeNumber_6 fl_X5_34 rfl h2 ?_
    refine X.aload_n dX5_takeNumber_9 rfl (j := 0) rfl ?_
    obtain ⟨v3, h4, hf⟩ := ob hf
    refine Y.getI dX5_takeNumber_10 fl_X5_21 rfl h4 ?_
    refine X.icmp_ge dX5_takeNumber_13 (tgt := 68) rfl (fun hc => ?_) (fun hc => ?_)
    · rw [if_pos hc] at hf
      exact x_J_X5_takeNumber_68 hf
    · rw [if_neg hc] at hf
      refine X.aload_n dX5_takeNumber_16 rfl (j := 0) rfl ?_
      obtain ⟨v5, h6, hf⟩ := ob hf
      refine Y.getR dX5_takeNumber_17 fl_X5_9 rfl h6 ?_
      refine X.aload_n dX5_takeNumber_20 rfl (j := 0) rfl ?_
      obtain ⟨v7, h8, hf⟩ := ob hf
      refine Y.getI dX5_takeNumber_21 fl_X5_34 rfl h8 ?_
      obtain ⟨v9, h10, hf⟩ := ob hf
      refine Y.iald dX5_takeNumber_24 h10 ?_
      obtain ⟨q12, h11, hf⟩ := ob hf
      refine Y.callS (av := [.int v9]) dX5_takeNumber_25 (c_X5_isDigit (l := l) (D := D) (w := q12.1) (k := q12.2) h11) cw_X5_91 mk_X5_isDigit (e_R_ok (Nat.le_of_ble_eq_true rfl) (Nat.le_of_ble_eq_true rfl)) ⟨rfl, rfl⟩ (by simp [Value.category]) ?_
      refine X.if_eq dX5_takeNumber_28 (tgt := 68) rfl (fun hc => ?_) (fun hc => ?_)
      · rw [if_pos hc] at hf
        exact x_J_X5_takeNumber_68 hf
      · rw [if_neg hc] at hf
        refine X.aload_n dX5_takeNumber_31 rfl (j := 0) rfl ?_
        refine X.bipush dX5_takeNumber_32 kB_10 ?_
        refine X.aload_n dX5_takeNumber_34 rfl (j := 0) rfl ?_
        obtain ⟨v13, h14, hf⟩ := ob hf
        refine Y.getI dX5_takeNumber_35 fl_X5_81 rfl h14 ?_
        refine X.imul dX5_takeNumber_38 ?_
        refine X.aload_n dX5_takeNumber_39 rfl (j := 0) rfl ?_
        obtain ⟨v15, h16, hf⟩ := ob hf
        refine Y.getR dX5_takeNumber_40 fl_X5_9 rfl h16 ?_
        refine X.aload_n dX5_takeNumber_43 rfl (j := 0) rfl ?_
        obtain ⟨v17, h18, hf⟩ := ob hf
        refine Y.getI dX5_takeNumber_44 fl_X5_34 rfl h18 ?_
        obtain ⟨v19, h20, hf⟩ := ob hf
        refine Y.iald dX5_takeNumber_47 h20 ?_
        refine X.iadd dX5_takeNumber_48 ?_
        refine X.bipush dX5_takeNumber_49 kB_48 ?_
        refine X.isub dX5_takeNumber_51 ?_
        obtain ⟨g21, h22, hf⟩ := ob hf
        refine Y.putI dX5_takeNumber_52 fl_X5_81 rfl rfl rfl rfl h22 ?_
        refine X.aload_n dX5_takeNumber_55 rfl (j := 0) rfl ?_
        refine X.dup dX5_takeNumber_56 rfl ?_
        obtain ⟨v23, h24, hf⟩ := ob hf
        refine Y.getI dX5_takeNumber_57 fl_X5_34 rfl h24 ?_
        refine X.iconst dX5_takeNumber_60 kI_1 ?_
        refine X.iadd dX5_takeNumber_61 ?_
        obtain ⟨g25, h26, hf⟩ := ob hf
        refine Y.putI dX5_takeNumber_62 fl_X5_34 rfl rfl rfl rfl h26 ?_
        refine X.goto dX5_takeNumber_65 (tgt := 5) rfl ?_
        exact ih _ _ hf
theorem o_X5_takeNumber  {S : e_S} {k : e_G} {l0 : Nat} {g : e_G} (hf : f_X5_takeNumber S l0 g = some k) : e_ob S 5 l0 = true := by
  unfold f_X5_takeNumber at hf
  by_cases hc : e_ob S 5 l0 = true
  · exact hc
  · rw [if_neg hc] at hf
    cases hf
theorem c_X5_takeNumber {l : Launch} {D : va_G}  {S : e_S} {k : e_G} {l0 : Nat} {g : e_G} (hf : f_X5_takeNumber S l0 g = some k) : CT l D (e_R 2) M_X5_takeNumber [.ref l0] (S, g) none (S, k) := by
  refine CT.of (by decide +kernel) (Nat.le_of_ble_eq_true rfl) ?_
  have ho := o_X5_takeNumber hf
  unfold f_X5_takeNumber at hf
  rw [if_pos ho] at hf
  show X l D (e_R 2) M_X5_takeNumber 0 0 0 [(0, .ref l0)] [] (S, g) none (S, k)
  refine X.aload_n dX5_takeNumber_0 rfl (j := 0) rfl ?_
  refine X.iconst dX5_takeNumber_1 kI_0 ?_
  obtain ⟨g1, h2, hf⟩ := ob hf
  refine Y.putI dX5_takeNumber_2 fl_X5_81 rfl rfl rfl rfl h2 ?_
  exact x_L_X5_takeNumber_5 50000 _ _ hf
/-! LeanedOut$Reader.takeWord()V -/
abbrev M_X5_takeWord : e_M := (yX5_takeWord, cX5_takeWord, 1, none)
theorem mk_X5_takeWord : e_Mok M_X5_takeWord 0 := ⟨by decide +kernel, by decide +kernel, by decide +kernel⟩
theorem dX5_takeWord_0 : decode cX5_takeWord 0 = .ok (.aload_n 0, 1) := by decide +kernel
theorem dX5_takeWord_1 : decode cX5_takeWord 1 = .ok (.getfield 34, 3) := by decide +kernel
theorem dX5_takeWord_4 : decode cX5_takeWord 4 = .ok (.aload_n 0, 1) := by decide +kernel
theorem dX5_takeWord_5 : decode cX5_takeWord 5 = .ok (.getfield 21, 3) := by decide +kernel
theorem dX5_takeWord_8 : decode cX5_takeWord 8 = .ok (.if_icmp .ge 31, 3) := by decide +kernel
theorem dX5_takeWord_11 : decode cX5_takeWord 11 = .ok (.aload_n 0, 1) := by decide +kernel
theorem dX5_takeWord_12 : decode cX5_takeWord 12 = .ok (.getfield 9, 3) := by decide +kernel
theorem dX5_takeWord_15 : decode cX5_takeWord 15 = .ok (.aload_n 0, 1) := by decide +kernel
theorem dX5_takeWord_16 : decode cX5_takeWord 16 = .ok (.getfield 34, 3) := by decide +kernel
theorem dX5_takeWord_19 : decode cX5_takeWord 19 = .ok (.iaload, 1) := by decide +kernel
theorem dX5_takeWord_20 : decode cX5_takeWord 20 = .ok (.invokestatic 84, 3) := by decide +kernel
theorem dX5_takeWord_23 : decode cX5_takeWord 23 = .ok (.ifCond .eq 16, 3) := by decide +kernel
theorem dX5_takeWord_26 : decode cX5_takeWord 26 = .ok (.aload_n 0, 1) := by decide +kernel
theorem dX5_takeWord_27 : decode cX5_takeWord 27 = .ok (.dup, 1) := by decide +kernel
theorem dX5_takeWord_28 : decode cX5_takeWord 28 = .ok (.getfield 34, 3) := by decide +kernel
theorem dX5_takeWord_31 : decode cX5_takeWord 31 = .ok (.iconst 1, 1) := by decide +kernel
theorem dX5_takeWord_32 : decode cX5_takeWord 32 = .ok (.iadd, 1) := by decide +kernel
theorem dX5_takeWord_33 : decode cX5_takeWord 33 = .ok (.putfield 34, 3) := by decide +kernel
theorem dX5_takeWord_36 : decode cX5_takeWord 36 = .ok (.goto (-36), 3) := by decide +kernel
theorem dX5_takeWord_39 : decode cX5_takeWord 39 = .ok (.aload_n 0, 1) := by decide +kernel
theorem dX5_takeWord_40 : decode cX5_takeWord 40 = .ok (.aload_n 0, 1) := by decide +kernel
theorem dX5_takeWord_41 : decode cX5_takeWord 41 = .ok (.invokevirtual 100, 3) := by decide +kernel
theorem dX5_takeWord_44 : decode cX5_takeWord 44 = .ok (.putfield 81, 3) := by decide +kernel
theorem dX5_takeWord_47 : decode cX5_takeWord 47 = .ok (.aload_n 0, 1) := by decide +kernel
theorem dX5_takeWord_48 : decode cX5_takeWord 48 = .ok (.aload_n 0, 1) := by decide +kernel
theorem dX5_takeWord_49 : decode cX5_takeWord 49 = .ok (.getfield 81, 3) := by decide +kernel
theorem dX5_takeWord_52 : decode cX5_takeWord 52 = .ok (.ifCond .lt 9, 3) := by decide +kernel
theorem dX5_takeWord_55 : decode cX5_takeWord 55 = .ok (.sipush 1003, 3) := by decide +kernel
theorem dX5_takeWord_58 : decode cX5_takeWord 58 = .ok (.goto 7, 3) := by decide +kernel
theorem dX5_takeWord_61 : decode cX5_takeWord 61 = .ok (.aload_n 0, 1) := by decide +kernel
theorem dX5_takeWord_62 : decode cX5_takeWord 62 = .ok (.invokevirtual 104, 3) := by decide +kernel
theorem dX5_takeWord_65 : decode cX5_takeWord 65 = .ok (.putfield 56, 3) := by decide +kernel
theorem dX5_takeWord_68 : decode cX5_takeWord 68 = .ok (.return_, 1) := by decide +kernel
def J_X5_takeWord_65 (S : e_S) (t0 : Nat) (t1 : Int32) (g : e_G) : Option (e_G) :=
  (e_sI S g 5 t0 4 t1).bind fun g1 =>
  some g1
def J_X5_takeWord_39 (S : e_S) (l0 : Nat) (g : e_G) : Option (e_G) :=
  (f_X5_nameNumber S l0 g).bind fun q2 =>
  (e_sI S q2.2 5 l0 6 q2.1).bind fun g3 =>
  (e_gI S g3 5 l0 6).bind fun v5 =>
  if v5 < 0 then
    (f_X5_keyToken S l0 g3).bind fun q8 =>
    J_X5_takeWord_65 S l0 q8.1 q8.2
  else
    J_X5_takeWord_65 S l0 (1003 : Int32) g3
def L_X5_takeWord_0 : Nat → e_S → Nat → e_G → Option (e_G)
  | 0, _, _, _ => none
  | n + 1, S, l0, g =>
  (e_gI S g 5 l0 3).bind fun v1 =>
  (e_gI S g 5 l0 2).bind fun v3 =>
  if v3 ≤ v1 then
    J_X5_takeWord_39 S l0 g
  else
    (e_gR S g 5 l0 0).bind fun v5 =>
    (e_gI S g 5 l0 3).bind fun v7 =>
    (e_aI S g 0 v5 v7).bind fun v9 =>
    (f_X5_isLetter S v9 g).bind fun q12 =>
    if q12.1 = 0 then
      J_X5_takeWord_39 S l0 q12.2
    else
      (e_gI S q12.2 5 l0 3).bind fun v13 =>
      (e_sI S q12.2 5 l0 3 (v13 + (1 : Int32))).bind fun g15 =>
      L_X5_takeWord_0 n S l0 g15
def f_X5_takeWord (S : e_S) (l0 : Nat) (g : e_G) : Option (e_G) :=
  if e_ob S 5 l0 = true then
    L_X5_takeWord_0 50000 S l0 g
  else none
theorem x_J_X5_takeWord_65 {l : Launch} {D : va_G} {S : e_S} {k : e_G} {t0 : Nat} {t1 : Int32} {g : e_G} (hf : J_X5_takeWord_65 S t0 t1 g = some k) : X l D (e_R 8) M_X5_takeWord 0 0 65 [] [.int t1, .ref t0] (S, g) none (S, k) := by
  unfold J_X5_takeWord_65 at hf
  obtain ⟨g1, h2, hf⟩ := ob hf
  refine Y.putI dX5_takeWord_65 fl_X5_56 rfl rfl rfl rfl h2 ?_
  have e1 := Option.some.inj hf
  subst e1
  exact X.vret dX5_takeWord_68 rfl
theorem x_J_X5_takeWord_39 {l : Launch} {D : va_G} {S : e_S} {k : e_G} {l0 : Nat} {g : e_G} (hf : J_X5_takeWord_39 S l0 g = some k) : X l D (e_R 8) M_X5_takeWord 0 0 39 [(0, .ref l0)] [] (S, g) none (S, k) := by
  unfold J_X5_takeWord_39 at hf
  refine X.aload_n dX5_takeWord_39 rfl (j := 0) rfl ?_
  refine X.aload_n dX5_takeWord_40 rfl (j := 0) rfl ?_
  obtain ⟨q2, h1, hf⟩ := ob hf
  refine Y.callV (av := []) (ci := 5) dX5_takeWord_41 (c_X5_nameNumber (l := l) (D := D) (w := q2.1) (k := q2.2) h1) cw_X5_100 (by decide) rfl mk_X5_nameNumber (o_X5_nameNumber (w := q2.1) (k := q2.2) h1) (e_R_ok (Nat.le_of_ble_eq_true rfl) (Nat.le_of_ble_eq_true rfl)) ⟨rfl, rfl⟩ (by simp [Value.category]) ?_
  obtain ⟨g3, h4, hf⟩ := ob hf
  refine Y.putI dX5_takeWord_44 fl_X5_81 rfl rfl rfl rfl h4 ?_
  refine X.aload_n dX5_takeWord_47 rfl (j := 0) rfl ?_
  refine X.aload_n dX5_takeWord_48 rfl (j := 0) rfl ?_
  obtain ⟨v5, h6, hf⟩ := ob hf
  refine Y.getI dX5_takeWord_49 fl_X5_81 rfl h6 ?_
  refine X.if_lt dX5_takeWord_52 (tgt := 61) rfl (fun hc => ?_) (fun hc => ?_)
  · rw [if_pos hc] at hf
    refine X.aload_n dX5_takeWord_61 rfl (j := 0) rfl ?_
    obtain ⟨q8, h7, hf⟩ := ob hf
    refine Y.callV (av := []) (ci := 5) dX5_takeWord_62 (c_X5_keyToken (l := l) (D := D) (w := q8.1) (k := q8.2) h7) cw_X5_104 (by decide) rfl mk_X5_keyToken (o_X5_keyToken (w := q8.1) (k := q8.2) h7) (e_R_ok (Nat.le_of_ble_eq_true rfl) (Nat.le_of_ble_eq_true rfl)) ⟨rfl, rfl⟩ (by simp [Value.category]) ?_
    refine X.sub [] rfl ?_
    exact x_J_X5_takeWord_65 hf
  · rw [if_neg hc] at hf
    refine X.sipush dX5_takeWord_55 kS_1003 ?_
    refine X.goto dX5_takeWord_58 (tgt := 65) rfl ?_
    refine X.sub [] rfl ?_
    exact x_J_X5_takeWord_65 hf
theorem x_L_X5_takeWord_0 {l : Launch} {D : va_G} {S : e_S} {k : e_G} : ∀ (n : Nat) (l0 : Nat) (g : e_G), L_X5_takeWord_0 n S l0 g = some k → X l D (e_R 8) M_X5_takeWord 0 0 0 [(0, .ref l0)] [] (S, g) none (S, k) := by
  intro n
  induction n with
  | zero =>
    intro l0 g hf
    cases hf
  | succ n ih =>
    intro l0 g hf
    rw [L_X5_takeWord_0] at hf
    refine X.aload_n dX5_takeWord_0 rfl (j := 0) rfl ?_
    obtain ⟨v1, h2, hf⟩ := ob hf
    refine Y.getI dX5_takeWord_1 fl_X5_34 rfl h2 ?_
    refine X.aload_n dX5_takeWord_4 rfl (j := 0) rfl ?_
    obtain ⟨v3, h4, hf⟩ := ob hf
    refine Y.getI dX5_takeWord_5 fl_X5_21 rfl h4 ?_
    refine X.icmp_ge dX5_takeWord_8 (tgt := 39) rfl (fun hc => ?_) (fun hc => ?_)
    · rw [if_pos hc] at hf
      exact x_J_X5_takeWord_39 hf
    · rw [if_neg hc] at hf
      refine X.aload_n dX5_takeWord_11 rfl (j := 0) rfl ?_
      obtain ⟨v5, h6, hf⟩ := ob hf
      refine Y.getR dX5_takeWord_12 fl_X5_9 rfl h6 ?_
      refine X.aload_n dX5_takeWord_15 rfl (j := 0) rfl ?_
      obtain ⟨v7, h8, hf⟩ := ob hf
      refine Y.getI dX5_takeWord_16 fl_X5_34 rfl h8 ?_
      obtain ⟨v9, h10, hf⟩ := ob hf
      refine Y.iald dX5_takeWord_19 h10 ?_
      obtain ⟨q12, h11, hf⟩ := ob hf
      refine Y.callS (av := [.int v9]) dX5_takeWord_20 (c_X5_isLetter (l := l) (D := D) (w := q12.1) (k := q12.2) h11) cw_X5_84 mk_X5_isLetter (e_R_ok (Nat.le_of_ble_eq_true rfl) (Nat.le_of_ble_eq_true rfl)) ⟨rfl, rfl⟩ (by simp [Value.category]) ?_
      refine X.if_eq dX5_takeWord_23 (tgt := 39) rfl (fun hc => ?_) (fun hc => ?_)
      · rw [if_pos hc] at hf
        exact x_J_X5_takeWord_39 hf
      · rw [if_neg hc] at hf
        refine X.aload_n dX5_takeWord_26 rfl (j := 0) rfl ?_
        refine X.dup dX5_takeWord_27 rfl ?_
        obtain ⟨v13, h14, hf⟩ := ob hf
        refine Y.getI dX5_takeWord_28 fl_X5_34 rfl h14 ?_
        refine X.iconst dX5_takeWord_31 kI_1 ?_
        refine X.iadd dX5_takeWord_32 ?_
        obtain ⟨g15, h16, hf⟩ := ob hf
        refine Y.putI dX5_takeWord_33 fl_X5_34 rfl rfl rfl rfl h16 ?_
        refine X.goto dX5_takeWord_36 (tgt := 0) rfl ?_
        exact ih _ _ hf
theorem o_X5_takeWord  {S : e_S} {k : e_G} {l0 : Nat} {g : e_G} (hf : f_X5_takeWord S l0 g = some k) : e_ob S 5 l0 = true := by
  unfold f_X5_takeWord at hf
  by_cases hc : e_ob S 5 l0 = true
  · exact hc
  · rw [if_neg hc] at hf
    cases hf
theorem c_X5_takeWord {l : Launch} {D : va_G}  {S : e_S} {k : e_G} {l0 : Nat} {g : e_G} (hf : f_X5_takeWord S l0 g = some k) : CT l D (e_R 8) M_X5_takeWord [.ref l0] (S, g) none (S, k) := by
  refine CT.of (by decide +kernel) (Nat.le_of_ble_eq_true rfl) ?_
  have ho := o_X5_takeWord hf
  unfold f_X5_takeWord at hf
  rw [if_pos ho] at hf
  show X l D (e_R 8) M_X5_takeWord 0 0 0 [(0, .ref l0)] [] (S, g) none (S, k)
  exact x_L_X5_takeWord_0 50000 _ _ hf
/-! LeanedOut$Reader.step()V -/
abbrev M_X5_step : e_M := (yX5_step, cX5_step, 1, none)
theorem mk_X5_step : e_Mok M_X5_step 0 := ⟨by decide +kernel, by decide +kernel, by decide +kernel⟩
theorem dX5_step_0 : decode cX5_step 0 = .ok (.aload_n 0, 1) := by decide +kernel
theorem dX5_step_1 : decode cX5_step 1 = .ok (.getfield 34, 3) := by decide +kernel
theorem dX5_step_4 : decode cX5_step 4 = .ok (.aload_n 0, 1) := by decide +kernel
theorem dX5_step_5 : decode cX5_step 5 = .ok (.getfield 21, 3) := by decide +kernel
theorem dX5_step_8 : decode cX5_step 8 = .ok (.if_icmp .ge 44, 3) := by decide +kernel
theorem dX5_step_11 : decode cX5_step 11 = .ok (.aload_n 0, 1) := by decide +kernel
theorem dX5_step_12 : decode cX5_step 12 = .ok (.getfield 9, 3) := by decide +kernel
theorem dX5_step_15 : decode cX5_step 15 = .ok (.aload_n 0, 1) := by decide +kernel
theorem dX5_step_16 : decode cX5_step 16 = .ok (.getfield 34, 3) := by decide +kernel
theorem dX5_step_19 : decode cX5_step 19 = .ok (.iaload, 1) := by decide +kernel
theorem dX5_step_20 : decode cX5_step 20 = .ok (.bipush 32, 2) := by decide +kernel
theorem dX5_step_22 : decode cX5_step 22 = .ok (.if_icmp .eq 17, 3) := by decide +kernel
theorem dX5_step_25 : decode cX5_step 25 = .ok (.aload_n 0, 1) := by decide +kernel
theorem dX5_step_26 : decode cX5_step 26 = .ok (.getfield 9, 3) := by decide +kernel
theorem dX5_step_29 : decode cX5_step 29 = .ok (.aload_n 0, 1) := by decide +kernel
theorem dX5_step_30 : decode cX5_step 30 = .ok (.getfield 34, 3) := by decide +kernel
theorem dX5_step_33 : decode cX5_step 33 = .ok (.iaload, 1) := by decide +kernel
theorem dX5_step_34 : decode cX5_step 34 = .ok (.bipush 10, 2) := by decide +kernel
theorem dX5_step_36 : decode cX5_step 36 = .ok (.if_icmp .ne 16, 3) := by decide +kernel
theorem dX5_step_39 : decode cX5_step 39 = .ok (.aload_n 0, 1) := by decide +kernel
theorem dX5_step_40 : decode cX5_step 40 = .ok (.dup, 1) := by decide +kernel
theorem dX5_step_41 : decode cX5_step 41 = .ok (.getfield 34, 3) := by decide +kernel
theorem dX5_step_44 : decode cX5_step 44 = .ok (.iconst 1, 1) := by decide +kernel
theorem dX5_step_45 : decode cX5_step 45 = .ok (.iadd, 1) := by decide +kernel
theorem dX5_step_46 : decode cX5_step 46 = .ok (.putfield 34, 3) := by decide +kernel
theorem dX5_step_49 : decode cX5_step 49 = .ok (.goto (-49), 3) := by decide +kernel
theorem dX5_step_52 : decode cX5_step 52 = .ok (.aload_n 0, 1) := by decide +kernel
theorem dX5_step_53 : decode cX5_step 53 = .ok (.aload_n 0, 1) := by decide +kernel
theorem dX5_step_54 : decode cX5_step 54 = .ok (.getfield 34, 3) := by decide +kernel
theorem dX5_step_57 : decode cX5_step 57 = .ok (.putfield 53, 3) := by decide +kernel
theorem dX5_step_60 : decode cX5_step 60 = .ok (.aload_n 0, 1) := by decide +kernel
theorem dX5_step_61 : decode cX5_step 61 = .ok (.getfield 34, 3) := by decide +kernel
theorem dX5_step_64 : decode cX5_step 64 = .ok (.aload_n 0, 1) := by decide +kernel
theorem dX5_step_65 : decode cX5_step 65 = .ok (.getfield 21, 3) := by decide +kernel
theorem dX5_step_68 : decode cX5_step 68 = .ok (.if_icmp .lt 13, 3) := by decide +kernel
theorem dX5_step_71 : decode cX5_step 71 = .ok (.aload_n 0, 1) := by decide +kernel
theorem dX5_step_72 : decode cX5_step 72 = .ok (.sipush 1000, 3) := by decide +kernel
theorem dX5_step_75 : decode cX5_step 75 = .ok (.putfield 56, 3) := by decide +kernel
theorem dX5_step_78 : decode cX5_step 78 = .ok (.goto 91, 3) := by decide +kernel
theorem dX5_step_81 : decode cX5_step 81 = .ok (.aload_n 0, 1) := by decide +kernel
theorem dX5_step_82 : decode cX5_step 82 = .ok (.getfield 9, 3) := by decide +kernel
theorem dX5_step_85 : decode cX5_step 85 = .ok (.aload_n 0, 1) := by decide +kernel
theorem dX5_step_86 : decode cX5_step 86 = .ok (.getfield 34, 3) := by decide +kernel
theorem dX5_step_89 : decode cX5_step 89 = .ok (.iaload, 1) := by decide +kernel
theorem dX5_step_90 : decode cX5_step 90 = .ok (.invokestatic 84, 3) := by decide +kernel
theorem dX5_step_93 : decode cX5_step 93 = .ok (.ifCond .eq 10, 3) := by decide +kernel
theorem dX5_step_96 : decode cX5_step 96 = .ok (.aload_n 0, 1) := by decide +kernel
theorem dX5_step_97 : decode cX5_step 97 = .ok (.invokevirtual 88, 3) := by decide +kernel
theorem dX5_step_100 : decode cX5_step 100 = .ok (.goto 69, 3) := by decide +kernel
theorem dX5_step_103 : decode cX5_step 103 = .ok (.aload_n 0, 1) := by decide +kernel
theorem dX5_step_104 : decode cX5_step 104 = .ok (.getfield 9, 3) := by decide +kernel
theorem dX5_step_107 : decode cX5_step 107 = .ok (.aload_n 0, 1) := by decide +kernel
theorem dX5_step_108 : decode cX5_step 108 = .ok (.getfield 34, 3) := by decide +kernel
theorem dX5_step_111 : decode cX5_step 111 = .ok (.iaload, 1) := by decide +kernel
theorem dX5_step_112 : decode cX5_step 112 = .ok (.invokestatic 91, 3) := by decide +kernel
theorem dX5_step_115 : decode cX5_step 115 = .ok (.ifCond .eq 10, 3) := by decide +kernel
theorem dX5_step_118 : decode cX5_step 118 = .ok (.aload_n 0, 1) := by decide +kernel
theorem dX5_step_119 : decode cX5_step 119 = .ok (.invokevirtual 94, 3) := by decide +kernel
theorem dX5_step_122 : decode cX5_step 122 = .ok (.goto 47, 3) := by decide +kernel
theorem dX5_step_125 : decode cX5_step 125 = .ok (.aload_n 0, 1) := by decide +kernel
theorem dX5_step_126 : decode cX5_step 126 = .ok (.aload_n 0, 1) := by decide +kernel
theorem dX5_step_127 : decode cX5_step 127 = .ok (.getfield 9, 3) := by decide +kernel
theorem dX5_step_130 : decode cX5_step 130 = .ok (.aload_n 0, 1) := by decide +kernel
theorem dX5_step_131 : decode cX5_step 131 = .ok (.getfield 34, 3) := by decide +kernel
theorem dX5_step_134 : decode cX5_step 134 = .ok (.iaload, 1) := by decide +kernel
theorem dX5_step_135 : decode cX5_step 135 = .ok (.invokestatic 97, 3) := by decide +kernel
theorem dX5_step_138 : decode cX5_step 138 = .ok (.ifCond .eq 15, 3) := by decide +kernel
theorem dX5_step_141 : decode cX5_step 141 = .ok (.aload_n 0, 1) := by decide +kernel
theorem dX5_step_142 : decode cX5_step 142 = .ok (.getfield 9, 3) := by decide +kernel
theorem dX5_step_145 : decode cX5_step 145 = .ok (.aload_n 0, 1) := by decide +kernel
theorem dX5_step_146 : decode cX5_step 146 = .ok (.getfield 34, 3) := by decide +kernel
theorem dX5_step_149 : decode cX5_step 149 = .ok (.iaload, 1) := by decide +kernel
theorem dX5_step_150 : decode cX5_step 150 = .ok (.goto 6, 3) := by decide +kernel
theorem dX5_step_153 : decode cX5_step 153 = .ok (.sipush 1001, 3) := by decide +kernel
theorem dX5_step_156 : decode cX5_step 156 = .ok (.putfield 56, 3) := by decide +kernel
theorem dX5_step_159 : decode cX5_step 159 = .ok (.aload_n 0, 1) := by decide +kernel
theorem dX5_step_160 : decode cX5_step 160 = .ok (.dup, 1) := by decide +kernel
theorem dX5_step_161 : decode cX5_step 161 = .ok (.getfield 34, 3) := by decide +kernel
theorem dX5_step_164 : decode cX5_step 164 = .ok (.iconst 1, 1) := by decide +kernel
theorem dX5_step_165 : decode cX5_step 165 = .ok (.iadd, 1) := by decide +kernel
theorem dX5_step_166 : decode cX5_step 166 = .ok (.putfield 34, 3) := by decide +kernel
theorem dX5_step_169 : decode cX5_step 169 = .ok (.return_, 1) := by decide +kernel
def J_X5_step_156 (S : e_S) (l0 : Nat) (t0 : Nat) (t1 : Int32) (g : e_G) : Option (e_G) :=
  (e_sI S g 5 t0 4 t1).bind fun g1 =>
  (e_gI S g1 5 l0 3).bind fun v3 =>
  (e_sI S g1 5 l0 3 (v3 + (1 : Int32))).bind fun g5 =>
  some g5
def J_X5_step_52 (S : e_S) (l0 : Nat) (g : e_G) : Option (e_G) :=
  (e_gI S g 5 l0 3).bind fun v1 =>
  (e_sI S g 5 l0 5 v1).bind fun g3 =>
  (e_gI S g3 5 l0 3).bind fun v5 =>
  (e_gI S g3 5 l0 2).bind fun v7 =>
  if v5 < v7 then
    (e_gR S g3 5 l0 0).bind fun v9 =>
    (e_gI S g3 5 l0 3).bind fun v11 =>
    (e_aI S g3 0 v9 v11).bind fun v13 =>
    (f_X5_isLetter S v13 g3).bind fun q16 =>
    if q16.1 = 0 then
      (e_gR S q16.2 5 l0 0).bind fun v17 =>
      (e_gI S q16.2 5 l0 3).bind fun v19 =>
      (e_aI S q16.2 0 v17 v19).bind fun v21 =>
      (f_X5_isDigit S v21 q16.2).bind fun q24 =>
      if q24.1 = 0 then
        (e_gR S q24.2 5 l0 0).bind fun v25 =>
        (e_gI S q24.2 5 l0 3).bind fun v27 =>
        (e_aI S q24.2 0 v25 v27).bind fun v29 =>
        (f_X5_isSign S v29 q24.2).bind fun q32 =>
        if q32.1 = 0 then
          J_X5_step_156 S l0 l0 (1001 : Int32) q32.2
        else
          (e_gR S q32.2 5 l0 0).bind fun v33 =>
          (e_gI S q32.2 5 l0 3).bind fun v35 =>
          (e_aI S q32.2 0 v33 v35).bind fun v37 =>
          J_X5_step_156 S l0 l0 v37 q32.2
      else
        (f_X5_takeNumber S l0 q24.2).bind fun q40 =>
        some q40
    else
      (f_X5_takeWord S l0 q16.2).bind fun q42 =>
      some q42
  else
    (e_sI S g3 5 l0 4 (1000 : Int32)).bind fun g43 =>
    some g43
def J_X5_step_39 (c0 : Nat → e_G → Option (e_G)) (S : e_S) (l0 : Nat) (g : e_G) : Option (e_G) :=
  (e_gI S g 5 l0 3).bind fun v1 =>
  (e_sI S g 5 l0 3 (v1 + (1 : Int32))).bind fun g3 =>
  c0 l0 g3
def L_X5_step_0 : Nat → e_S → Nat → e_G → Option (e_G)
  | 0, _, _, _ => none
  | n + 1, S, l0, g =>
  (e_gI S g 5 l0 3).bind fun v1 =>
  (e_gI S g 5 l0 2).bind fun v3 =>
  if v3 ≤ v1 then
    J_X5_step_52 S l0 g
  else
    (e_gR S g 5 l0 0).bind fun v5 =>
    (e_gI S g 5 l0 3).bind fun v7 =>
    (e_aI S g 0 v5 v7).bind fun v9 =>
    if v9 = (32 : Int32) then
      J_X5_step_39 (L_X5_step_0 n S) S l0 g
    else
      (e_gR S g 5 l0 0).bind fun v11 =>
      (e_gI S g 5 l0 3).bind fun v13 =>
      (e_aI S g 0 v11 v13).bind fun v15 =>
      if v15 = (10 : Int32) then
        J_X5_step_39 (L_X5_step_0 n S) S l0 g
      else
        J_X5_step_52 S l0 g
def f_X5_step (S : e_S) (l0 : Nat) (g : e_G) : Option (e_G) :=
  if e_ob S 5 l0 = true then
    L_X5_step_0 50000 S l0 g
  else none
theorem x_J_X5_step_156 {l : Launch} {D : va_G} {S : e_S} {k : e_G} {l0 : Nat} {t0 : Nat} {t1 : Int32} {g : e_G} (hf : J_X5_step_156 S l0 t0 t1 g = some k) : X l D (e_R 9) M_X5_step 0 0 156 [(0, .ref l0)] [.int t1, .ref t0] (S, g) none (S, k) := by
  unfold J_X5_step_156 at hf
  obtain ⟨g1, h2, hf⟩ := ob hf
  refine Y.putI dX5_step_156 fl_X5_56 rfl rfl rfl rfl h2 ?_
  refine X.aload_n dX5_step_159 rfl (j := 0) rfl ?_
  refine X.dup dX5_step_160 rfl ?_
  obtain ⟨v3, h4, hf⟩ := ob hf
  refine Y.getI dX5_step_161 fl_X5_34 rfl h4 ?_
  refine X.iconst dX5_step_164 kI_1 ?_
  refine X.iadd dX5_step_165 ?_
  obtain ⟨g5, h6, hf⟩ := ob hf
  refine Y.putI dX5_step_166 fl_X5_34 rfl rfl rfl rfl h6 ?_
  have e1 := Option.some.inj hf
  subst e1
  exact X.vret dX5_step_169 rfl
theorem x_J_X5_step_52 {l : Launch} {D : va_G} {S : e_S} {k : e_G} {l0 : Nat} {g : e_G} (hf : J_X5_step_52 S l0 g = some k) : X l D (e_R 9) M_X5_step 0 0 52 [(0, .ref l0)] [] (S, g) none (S, k) := by
  unfold J_X5_step_52 at hf
  refine X.aload_n dX5_step_52 rfl (j := 0) rfl ?_
  refine X.aload_n dX5_step_53 rfl (j := 0) rfl ?_
  obtain ⟨v1, h2, hf⟩ := ob hf
  refine Y.getI dX5_step_54 fl_X5_34 rfl h2 ?_
  obtain ⟨g3, h4, hf⟩ := ob hf
  refine Y.putI dX5_step_57 fl_X5_53 rfl rfl rfl rfl h4 ?_
  refine X.aload_n dX5_step_60 rfl (j := 0) rfl ?_
  obtain ⟨v5, h6, hf⟩ := ob hf
  refine Y.getI dX5_step_61 fl_X5_34 rfl h6 ?_
  refine X.aload_n dX5_step_64 rfl (j := 0) rfl ?_
  obtain ⟨v7, h8, hf⟩ := ob hf
  refine Y.getI dX5_step_65 fl_X5_21 rfl h8 ?_
  refine X.icmp_lt dX5_step_68 (tgt := 81) rfl (fun hc => ?_) (fun hc => ?_)
  · rw [if_pos hc] at hf
    refine X.aload_n dX5_step_81 rfl (j := 0) rfl ?_
    obtain ⟨v9, h10, hf⟩ := ob hf
    refine Y.getR dX5_step_82 fl_X5_9 rfl h10 ?_
    refine X.aload_n dX5_step_85 rfl (j := 0) rfl ?_
    obtain ⟨v11, h12, hf⟩ := ob hf
    refine Y.getI dX5_step_86 fl_X5_34 rfl h12 ?_
    obtain ⟨v13, h14, hf⟩ := ob hf
    refine Y.iald dX5_step_89 h14 ?_
    obtain ⟨q16, h15, hf⟩ := ob hf
    refine Y.callS (av := [.int v13]) dX5_step_90 (c_X5_isLetter (l := l) (D := D) (w := q16.1) (k := q16.2) h15) cw_X5_84 mk_X5_isLetter (e_R_ok (Nat.le_of_ble_eq_true rfl) (Nat.le_of_ble_eq_true rfl)) ⟨rfl, rfl⟩ (by simp [Value.category]) ?_
    refine X.if_eq dX5_step_93 (tgt := 103) rfl (fun hc => ?_) (fun hc => ?_)
    · rw [if_pos hc] at hf
      refine X.aload_n dX5_step_103 rfl (j := 0) rfl ?_
      obtain ⟨v17, h18, hf⟩ := ob hf
      refine Y.getR dX5_step_104 fl_X5_9 rfl h18 ?_
      refine X.aload_n dX5_step_107 rfl (j := 0) rfl ?_
      obtain ⟨v19, h20, hf⟩ := ob hf
      refine Y.getI dX5_step_108 fl_X5_34 rfl h20 ?_
      obtain ⟨v21, h22, hf⟩ := ob hf
      refine Y.iald dX5_step_111 h22 ?_
      obtain ⟨q24, h23, hf⟩ := ob hf
      refine Y.callS (av := [.int v21]) dX5_step_112 (c_X5_isDigit (l := l) (D := D) (w := q24.1) (k := q24.2) h23) cw_X5_91 mk_X5_isDigit (e_R_ok (Nat.le_of_ble_eq_true rfl) (Nat.le_of_ble_eq_true rfl)) ⟨rfl, rfl⟩ (by simp [Value.category]) ?_
      refine X.if_eq dX5_step_115 (tgt := 125) rfl (fun hc => ?_) (fun hc => ?_)
      · rw [if_pos hc] at hf
        refine X.aload_n dX5_step_125 rfl (j := 0) rfl ?_
        refine X.aload_n dX5_step_126 rfl (j := 0) rfl ?_
        obtain ⟨v25, h26, hf⟩ := ob hf
        refine Y.getR dX5_step_127 fl_X5_9 rfl h26 ?_
        refine X.aload_n dX5_step_130 rfl (j := 0) rfl ?_
        obtain ⟨v27, h28, hf⟩ := ob hf
        refine Y.getI dX5_step_131 fl_X5_34 rfl h28 ?_
        obtain ⟨v29, h30, hf⟩ := ob hf
        refine Y.iald dX5_step_134 h30 ?_
        obtain ⟨q32, h31, hf⟩ := ob hf
        refine Y.callS (av := [.int v29]) dX5_step_135 (c_X5_isSign (l := l) (D := D) (w := q32.1) (k := q32.2) h31) cw_X5_97 mk_X5_isSign (e_R_ok (Nat.le_of_ble_eq_true rfl) (Nat.le_of_ble_eq_true rfl)) ⟨rfl, rfl⟩ (by simp [Value.category]) ?_
        refine X.if_eq dX5_step_138 (tgt := 153) rfl (fun hc => ?_) (fun hc => ?_)
        · rw [if_pos hc] at hf
          refine X.sipush dX5_step_153 kS_1001 ?_
          exact x_J_X5_step_156 hf
        · rw [if_neg hc] at hf
          refine X.aload_n dX5_step_141 rfl (j := 0) rfl ?_
          obtain ⟨v33, h34, hf⟩ := ob hf
          refine Y.getR dX5_step_142 fl_X5_9 rfl h34 ?_
          refine X.aload_n dX5_step_145 rfl (j := 0) rfl ?_
          obtain ⟨v35, h36, hf⟩ := ob hf
          refine Y.getI dX5_step_146 fl_X5_34 rfl h36 ?_
          obtain ⟨v37, h38, hf⟩ := ob hf
          refine Y.iald dX5_step_149 h38 ?_
          refine X.goto dX5_step_150 (tgt := 156) rfl ?_
          exact x_J_X5_step_156 hf
      · rw [if_neg hc] at hf
        refine X.aload_n dX5_step_118 rfl (j := 0) rfl ?_
        obtain ⟨q40, h39, hf⟩ := ob hf
        refine Y.callV (av := []) (ci := 5) dX5_step_119 (c_X5_takeNumber (l := l) (D := D) h39) cw_X5_94 (by decide) rfl mk_X5_takeNumber (o_X5_takeNumber (k := q40) h39) (e_R_ok (Nat.le_of_ble_eq_true rfl) (Nat.le_of_ble_eq_true rfl)) ⟨rfl, rfl⟩ (by simp [Value.category]) ?_
        refine X.goto dX5_step_122 (tgt := 169) rfl ?_
        have e1 := Option.some.inj hf
        subst e1
        exact X.vret dX5_step_169 rfl
    · rw [if_neg hc] at hf
      refine X.aload_n dX5_step_96 rfl (j := 0) rfl ?_
      obtain ⟨q42, h41, hf⟩ := ob hf
      refine Y.callV (av := []) (ci := 5) dX5_step_97 (c_X5_takeWord (l := l) (D := D) h41) cw_X5_88 (by decide) rfl mk_X5_takeWord (o_X5_takeWord (k := q42) h41) (e_R_ok (Nat.le_of_ble_eq_true rfl) (Nat.le_of_ble_eq_true rfl)) ⟨rfl, rfl⟩ (by simp [Value.category]) ?_
      refine X.goto dX5_step_100 (tgt := 169) rfl ?_
      have e1 := Option.some.inj hf
      subst e1
      exact X.vret dX5_step_169 rfl
  · rw [if_neg hc] at hf
    refine X.aload_n dX5_step_71 rfl (j := 0) rfl ?_
    refine X.sipush dX5_step_72 kS_1000 ?_
    obtain ⟨g43, h44, hf⟩ := ob hf
    refine Y.putI dX5_step_75 fl_X5_56 rfl rfl rfl rfl h44 ?_
    refine X.goto dX5_step_78 (tgt := 169) rfl ?_
    have e1 := Option.some.inj hf
    subst e1
    exact X.vret dX5_step_169 rfl
theorem x_J_X5_step_39 {l : Launch} {D : va_G} {S : e_S} {k : e_G} (c0 : Nat → e_G → Option (e_G)) (hc0 : ∀ (l0 : Nat) (g : e_G), c0 l0 g = some k → X l D (e_R 9) M_X5_step 0 0 0 [(0, .ref l0)] [] (S, g) none (S, k)) {l0 : Nat} {g : e_G} (hf : J_X5_step_39 c0 S l0 g = some k) : X l D (e_R 9) M_X5_step 0 0 39 [(0, .ref l0)] [] (S, g) none (S, k) := by
  unfold J_X5_step_39 at hf
  refine X.aload_n dX5_step_39 rfl (j := 0) rfl ?_
  refine X.dup dX5_step_40 rfl ?_
  obtain ⟨v1, h2, hf⟩ := ob hf
  refine Y.getI dX5_step_41 fl_X5_34 rfl h2 ?_
  refine X.iconst dX5_step_44 kI_1 ?_
  refine X.iadd dX5_step_45 ?_
  obtain ⟨g3, h4, hf⟩ := ob hf
  refine Y.putI dX5_step_46 fl_X5_34 rfl rfl rfl rfl h4 ?_
  refine X.goto dX5_step_49 (tgt := 0) rfl ?_
  exact hc0 _ _ hf
theorem x_L_X5_step_0 {l : Launch} {D : va_G} {S : e_S} {k : e_G} : ∀ (n : Nat) (l0 : Nat) (g : e_G), L_X5_step_0 n S l0 g = some k → X l D (e_R 9) M_X5_step 0 0 0 [(0, .ref l0)] [] (S, g) none (S, k) := by
  intro n
  induction n with
  | zero =>
    intro l0 g hf
    cases hf
  | succ n ih =>
    intro l0 g hf
    rw [L_X5_step_0] at hf
    refine X.aload_n dX5_step_0 rfl (j := 0) rfl ?_
    obtain ⟨v1, h2, hf⟩ := ob hf
    refine Y.getI dX5_step_1 fl_X5_34 rfl h2 ?_
    refine X.aload_n dX5_step_4 rfl (j := 0) rfl ?_
    obtain ⟨v3, h4, hf⟩ := ob hf
    refine Y.getI dX5_step_5 fl_X5_21 rfl h4 ?_
    refine X.icmp_ge dX5_step_8 (tgt := 52) rfl (fun hc => ?_) (fun hc => ?_)
    · rw [if_pos hc] at hf
      exact x_J_X5_step_52 hf
    · rw [if_neg hc] at hf
      refine X.aload_n dX5_step_11 rfl (j := 0) rfl ?_
      obtain ⟨v5, h6, hf⟩ := ob hf
      refine Y.getR dX5_step_12 fl_X5_9 rfl h6 ?_
      refine X.aload_n dX5_step_15 rfl (j := 0) rfl ?_
      obtain ⟨v7, h8, hf⟩ := ob hf
      refine Y.getI dX5_step_16 fl_X5_34 rfl h8 ?_
      obtain ⟨v9, h10, hf⟩ := ob hf
      refine Y.iald dX5_step_19 h10 ?_
      refine X.bipush dX5_step_20 kB_32 ?_
      refine X.icmp_eq dX5_step_22 (tgt := 39) rfl (fun hc => ?_) (fun hc => ?_)
      · rw [if_pos hc] at hf
        exact x_J_X5_step_39 _ ih hf
      · rw [if_neg hc] at hf
        refine X.aload_n dX5_step_25 rfl (j := 0) rfl ?_
        obtain ⟨v11, h12, hf⟩ := ob hf
        refine Y.getR dX5_step_26 fl_X5_9 rfl h12 ?_
        refine X.aload_n dX5_step_29 rfl (j := 0) rfl ?_
        obtain ⟨v13, h14, hf⟩ := ob hf
        refine Y.getI dX5_step_30 fl_X5_34 rfl h14 ?_
        obtain ⟨v15, h16, hf⟩ := ob hf
        refine Y.iald dX5_step_33 h16 ?_
        refine X.bipush dX5_step_34 kB_10 ?_
        refine X.icmp_ne dX5_step_36 (tgt := 52) rfl (fun hc => ?_) (fun hc => ?_)
        · rw [if_neg hc] at hf
          exact x_J_X5_step_52 hf
        · rw [if_pos hc] at hf
          exact x_J_X5_step_39 _ ih hf
theorem o_X5_step  {S : e_S} {k : e_G} {l0 : Nat} {g : e_G} (hf : f_X5_step S l0 g = some k) : e_ob S 5 l0 = true := by
  unfold f_X5_step at hf
  by_cases hc : e_ob S 5 l0 = true
  · exact hc
  · rw [if_neg hc] at hf
    cases hf
theorem c_X5_step {l : Launch} {D : va_G}  {S : e_S} {k : e_G} {l0 : Nat} {g : e_G} (hf : f_X5_step S l0 g = some k) : CT l D (e_R 9) M_X5_step [.ref l0] (S, g) none (S, k) := by
  refine CT.of (by decide +kernel) (Nat.le_of_ble_eq_true rfl) ?_
  have ho := o_X5_step hf
  unfold f_X5_step at hf
  rw [if_pos ho] at hf
  show X l D (e_R 9) M_X5_step 0 0 0 [(0, .ref l0)] [] (S, g) none (S, k)
  exact x_L_X5_step_0 50000 _ _ hf
/-! LeanedOut$Reader.fail()V -/
abbrev M_X5_fail : e_M := (yX5_fail, cX5_fail, 1, none)
theorem mk_X5_fail : e_Mok M_X5_fail 0 := ⟨by decide +kernel, by decide +kernel, by decide +kernel⟩
theorem dX5_fail_0 : decode cX5_fail 0 = .ok (.aload_n 0, 1) := by decide +kernel
theorem dX5_fail_1 : decode cX5_fail 1 = .ok (.getfield 37, 3) := by decide +kernel
theorem dX5_fail_4 : decode cX5_fail 4 = .ok (.iconst (-1), 1) := by decide +kernel
theorem dX5_fail_5 : decode cX5_fail 5 = .ok (.if_icmp .ne 11, 3) := by decide +kernel
theorem dX5_fail_8 : decode cX5_fail 8 = .ok (.aload_n 0, 1) := by decide +kernel
theorem dX5_fail_9 : decode cX5_fail 9 = .ok (.aload_n 0, 1) := by decide +kernel
theorem dX5_fail_10 : decode cX5_fail 10 = .ok (.getfield 53, 3) := by decide +kernel
theorem dX5_fail_13 : decode cX5_fail 13 = .ok (.putfield 37, 3) := by decide +kernel
theorem dX5_fail_16 : decode cX5_fail 16 = .ok (.aload_n 0, 1) := by decide +kernel
theorem dX5_fail_17 : decode cX5_fail 17 = .ok (.sipush 1001, 3) := by decide +kernel
theorem dX5_fail_20 : decode cX5_fail 20 = .ok (.putfield 56, 3) := by decide +kernel
theorem dX5_fail_23 : decode cX5_fail 23 = .ok (.return_, 1) := by decide +kernel
def J_X5_fail_16 (S : e_S) (l0 : Nat) (g : e_G) : Option (e_G) :=
  (e_sI S g 5 l0 4 (1001 : Int32)).bind fun g1 =>
  some g1
def f_X5_fail (S : e_S) (l0 : Nat) (g : e_G) : Option (e_G) :=
  if e_ob S 5 l0 = true then
    (e_gI S g 5 l0 7).bind fun v1 =>
    if v1 = (-1 : Int32) then
      (e_gI S g 5 l0 5).bind fun v3 =>
      (e_sI S g 5 l0 7 v3).bind fun g5 =>
      J_X5_fail_16 S l0 g5
    else
      J_X5_fail_16 S l0 g
  else none
theorem x_J_X5_fail_16 {l : Launch} {D : va_G} {S : e_S} {k : e_G} {l0 : Nat} {g : e_G} (hf : J_X5_fail_16 S l0 g = some k) : X l D (e_R 1) M_X5_fail 0 0 16 [(0, .ref l0)] [] (S, g) none (S, k) := by
  unfold J_X5_fail_16 at hf
  refine X.aload_n dX5_fail_16 rfl (j := 0) rfl ?_
  refine X.sipush dX5_fail_17 kS_1001 ?_
  obtain ⟨g1, h2, hf⟩ := ob hf
  refine Y.putI dX5_fail_20 fl_X5_56 rfl rfl rfl rfl h2 ?_
  have e1 := Option.some.inj hf
  subst e1
  exact X.vret dX5_fail_23 rfl
theorem o_X5_fail  {S : e_S} {k : e_G} {l0 : Nat} {g : e_G} (hf : f_X5_fail S l0 g = some k) : e_ob S 5 l0 = true := by
  unfold f_X5_fail at hf
  by_cases hc : e_ob S 5 l0 = true
  · exact hc
  · rw [if_neg hc] at hf
    cases hf
theorem c_X5_fail {l : Launch} {D : va_G}  {S : e_S} {k : e_G} {l0 : Nat} {g : e_G} (hf : f_X5_fail S l0 g = some k) : CT l D (e_R 1) M_X5_fail [.ref l0] (S, g) none (S, k) := by
  refine CT.of (by decide +kernel) (Nat.le_of_ble_eq_true rfl) ?_
  have ho := o_X5_fail hf
  unfold f_X5_fail at hf
  rw [if_pos ho] at hf
  show X l D (e_R 1) M_X5_fail 0 0 0 [(0, .ref l0)] [] (S, g) none (S, k)
  refine X.aload_n dX5_fail_0 rfl (j := 0) rfl ?_
  obtain ⟨v1, h2, hf⟩ := ob hf
  refine Y.getI dX5_fail_1 fl_X5_37 rfl h2 ?_
  refine X.iconst dX5_fail_4 kI_m1 ?_
  refine X.icmp_ne dX5_fail_5 (tgt := 16) rfl (fun hc => ?_) (fun hc => ?_)
  · rw [if_neg hc] at hf
    exact x_J_X5_fail_16 hf
  · rw [if_pos hc] at hf
    refine X.aload_n dX5_fail_8 rfl (j := 0) rfl ?_
    refine X.aload_n dX5_fail_9 rfl (j := 0) rfl ?_
    obtain ⟨v3, h4, hf⟩ := ob hf
    refine Y.getI dX5_fail_10 fl_X5_53 rfl h4 ?_
    obtain ⟨g5, h6, hf⟩ := ob hf
    refine Y.putI dX5_fail_13 fl_X5_37 rfl rfl rfl rfl h6 ?_
    exact x_J_X5_fail_16 hf
/-! LeanedOut$Reader.expect(I)V -/
abbrev M_X5_expect : e_M := (yX5_expect, cX5_expect, 2, none)
theorem mk_X5_expect : e_Mok M_X5_expect 1 := ⟨by decide +kernel, by decide +kernel, by decide +kernel⟩
theorem dX5_expect_0 : decode cX5_expect 0 = .ok (.aload_n 0, 1) := by decide +kernel
theorem dX5_expect_1 : decode cX5_expect 1 = .ok (.getfield 56, 3) := by decide +kernel
theorem dX5_expect_4 : decode cX5_expect 4 = .ok (.iload_n 1, 1) := by decide +kernel
theorem dX5_expect_5 : decode cX5_expect 5 = .ok (.if_icmp .ne 10, 3) := by decide +kernel
theorem dX5_expect_8 : decode cX5_expect 8 = .ok (.aload_n 0, 1) := by decide +kernel
theorem dX5_expect_9 : decode cX5_expect 9 = .ok (.invokevirtual 40, 3) := by decide +kernel
theorem dX5_expect_12 : decode cX5_expect 12 = .ok (.goto 7, 3) := by decide +kernel
theorem dX5_expect_15 : decode cX5_expect 15 = .ok (.aload_n 0, 1) := by decide +kernel
theorem dX5_expect_16 : decode cX5_expect 16 = .ok (.invokevirtual 59, 3) := by decide +kernel
theorem dX5_expect_19 : decode cX5_expect 19 = .ok (.return_, 1) := by decide +kernel
def f_X5_expect (S : e_S) (l0 : Nat) (l1 : Int32) (g : e_G) : Option (e_G) :=
  if e_ob S 5 l0 = true then
    (e_gI S g 5 l0 4).bind fun v1 =>
    if v1 = l1 then
      (f_X5_step S l0 g).bind fun q6 =>
      some q6
    else
      (f_X5_fail S l0 g).bind fun q4 =>
      some q4
  else none
theorem o_X5_expect  {S : e_S} {k : e_G} {l0 : Nat} {l1 : Int32} {g : e_G} (hf : f_X5_expect S l0 l1 g = some k) : e_ob S 5 l0 = true := by
  unfold f_X5_expect at hf
  by_cases hc : e_ob S 5 l0 = true
  · exact hc
  · rw [if_neg hc] at hf
    cases hf
theorem c_X5_expect {l : Launch} {D : va_G}  {S : e_S} {k : e_G} {l0 : Nat} {l1 : Int32} {g : e_G} (hf : f_X5_expect S l0 l1 g = some k) : CT l D (e_R 10) M_X5_expect [.ref l0, .int l1] (S, g) none (S, k) := by
  refine CT.of (by decide +kernel) (Nat.le_of_ble_eq_true rfl) ?_
  have ho := o_X5_expect hf
  unfold f_X5_expect at hf
  rw [if_pos ho] at hf
  show X l D (e_R 10) M_X5_expect 0 0 0 [(0, .ref l0), (1, .int l1)] [] (S, g) none (S, k)
  refine X.aload_n dX5_expect_0 rfl (j := 0) rfl ?_
  obtain ⟨v1, h2, hf⟩ := ob hf
  refine Y.getI dX5_expect_1 fl_X5_56 rfl h2 ?_
  refine X.iload_n dX5_expect_4 rfl (j := 1) rfl ?_
  refine X.icmp_ne dX5_expect_5 (tgt := 15) rfl (fun hc => ?_) (fun hc => ?_)
  · rw [if_neg hc] at hf
    refine X.aload_n dX5_expect_15 rfl (j := 0) rfl ?_
    obtain ⟨q4, h3, hf⟩ := ob hf
    refine Y.callV (av := []) (ci := 5) dX5_expect_16 (c_X5_fail (l := l) (D := D) h3) cw_X5_59 (by decide) rfl mk_X5_fail (o_X5_fail (k := q4) h3) (e_R_ok (Nat.le_of_ble_eq_true rfl) (Nat.le_of_ble_eq_true rfl)) ⟨rfl, rfl⟩ (by simp [Value.category]) ?_
    have e1 := Option.some.inj hf
    subst e1
    exact X.vret dX5_expect_19 rfl
  · rw [if_pos hc] at hf
    refine X.aload_n dX5_expect_8 rfl (j := 0) rfl ?_
    obtain ⟨q6, h5, hf⟩ := ob hf
    refine Y.callV (av := []) (ci := 5) dX5_expect_9 (c_X5_step (l := l) (D := D) h5) cw_X5_40 (by decide) rfl mk_X5_step (o_X5_step (k := q6) h5) (e_R_ok (Nat.le_of_ble_eq_true rfl) (Nat.le_of_ble_eq_true rfl)) ⟨rfl, rfl⟩ (by simp [Value.category]) ?_
    refine X.goto dX5_expect_12 (tgt := 19) rfl ?_
    have e1 := Option.some.inj hf
    subst e1
    exact X.vret dX5_expect_19 rfl
