
theorem fl_X11_34 : e_FL RX11 34 11 14 := ⟨⟨by decide, by decide⟩, bw (i := 975) (by decide +kernel) rfl⟩
theorem fl_X11_37 : e_FL RX11 37 11 15 := ⟨⟨by decide, by decide⟩, bw (i := 976) (by decide +kernel) rfl⟩
theorem ww_1287 : Cond.methodLink RX11 262 yX11_sheetWrong ∈ e_big := bw (i := 1287) (by decide +kernel) rfl
theorem ww_1289 : Cond.instanceMethod yX11_sheetWrong ∈ e_big := bw (i := 1289) (by decide +kernel) rfl
theorem ww_69 : Cond.selects RX11 yX11_sheetWrong yX11_sheetWrong ∈ e_big := bw (i := 69) (by decide +kernel) rfl
theorem ww_1290 : Cond.code yX11_sheetWrong cX11_sheetWrong 2 (some .int) ∈ e_big := bw (i := 1290) (by decide +kernel) rfl
theorem cw_X11_262 : ∀ w ∈ wsV RX11 262 RX11 yX11_sheetWrong [Cond.code yX11_sheetWrong cX11_sheetWrong 2 (some .int)], w ∈ e_big := e_all5 ww_1287 ww_1289 ww_69 ww_89 ww_1290
theorem fl_X11_40 : e_FL RX11 40 11 16 := ⟨⟨by decide, by decide⟩, bw (i := 977) (by decide +kernel) rfl⟩
theorem ww_1283 : Cond.methodLink RX11 265 yX11_toldWrong ∈ e_big := bw (i := 1283) (by decide +kernel) rfl
theorem ww_1285 : Cond.instanceMethod yX11_toldWrong ∈ e_big := bw (i := 1285) (by decide +kernel) rfl
theorem ww_68 : Cond.selects RX11 yX11_toldWrong yX11_toldWrong ∈ e_big := bw (i := 68) (by decide +kernel) rfl
theorem ww_1286 : Cond.code yX11_toldWrong cX11_toldWrong 4 (some .int) ∈ e_big := bw (i := 1286) (by decide +kernel) rfl
theorem cw_X11_265 : ∀ w ∈ wsV RX11 265 RX11 yX11_toldWrong [Cond.code yX11_toldWrong cX11_toldWrong 4 (some .int)], w ∈ e_big := e_all5 ww_1283 ww_1285 ww_68 ww_89 ww_1286
theorem ww_1291 : Cond.methodLink RX11 268 yX11_unlike ∈ e_big := bw (i := 1291) (by decide +kernel) rfl
theorem ww_1293 : Cond.instanceMethod yX11_unlike ∈ e_big := bw (i := 1293) (by decide +kernel) rfl
theorem ww_70 : Cond.selects RX11 yX11_unlike yX11_unlike ∈ e_big := bw (i := 70) (by decide +kernel) rfl
theorem ww_1294 : Cond.code yX11_unlike cX11_unlike 5 (some .int) ∈ e_big := bw (i := 1294) (by decide +kernel) rfl
theorem cw_X11_268 : ∀ w ∈ wsV RX11 268 RX11 yX11_unlike [Cond.code yX11_unlike cX11_unlike 5 (some .int)], w ∈ e_big := e_all5 ww_1291 ww_1293 ww_70 ww_89 ww_1294
theorem fl_X11_279 : e_FL RX11 279 11 34 := ⟨⟨by decide, by decide⟩, bw (i := 995) (by decide +kernel) rfl⟩
theorem ww_1328 : Cond.constantLong RX11 271 (48271) ∈ e_big := bw (i := 1328) (by decide +kernel) rfl
theorem ww_1329 : Cond.constantLong RX11 273 (2147483647) ∈ e_big := bw (i := 1329) (by decide +kernel) rfl
theorem ww_1330 : Cond.constantLong RX11 275 (6) ∈ e_big := bw (i := 1330) (by decide +kernel) rfl
theorem ww_1331 : Cond.constantLong RX11 277 (10) ∈ e_big := bw (i := 1331) (by decide +kernel) rfl
theorem ww_1323 : Cond.constant RX11 282 (99999) ∈ e_big := bw (i := 1323) (by decide +kernel) rfl
theorem ww_1324 : Cond.methodLink RX11 283 yX11_cranes ∈ e_big := bw (i := 1324) (by decide +kernel) rfl
theorem ww_1326 : Cond.instanceMethod yX11_cranes ∈ e_big := bw (i := 1326) (by decide +kernel) rfl
theorem ww_71 : Cond.selects RX11 yX11_cranes yX11_cranes ∈ e_big := bw (i := 71) (by decide +kernel) rfl
theorem ww_1327 : Cond.code yX11_cranes cX11_cranes 6 (some .int) ∈ e_big := bw (i := 1327) (by decide +kernel) rfl
theorem cw_X11_283 : ∀ w ∈ wsV RX11 283 RX11 yX11_cranes [Cond.code yX11_cranes cX11_cranes 6 (some .int)], w ∈ e_big := e_all5 ww_1324 ww_1326 ww_71 ww_89 ww_1327
theorem fl_X11_31 : e_FL RX11 31 11 13 := ⟨⟨by decide, by decide⟩, bw (i := 974) (by decide +kernel) rfl⟩
theorem fl_X11_28 : e_FL RX11 28 11 12 := ⟨⟨by decide, by decide⟩, bw (i := 973) (by decide +kernel) rfl⟩
theorem fl_X11_286 : e_FL RX11 286 11 11 := ⟨⟨by decide, by decide⟩, bw (i := 972) (by decide +kernel) rfl⟩
/-! LeanedOutModel.sheetWrong(I)I -/
abbrev M_X11_sheetWrong : e_M := (yX11_sheetWrong, cX11_sheetWrong, 2, (some .int))
theorem mk_X11_sheetWrong : e_Mok M_X11_sheetWrong 1 := ⟨by decide +kernel, by decide +kernel, by decide +kernel⟩
theorem dX11_sheetWrong_0 : decode cX11_sheetWrong 0 = .ok (.iload_n 1, 1) := by decide +kernel
theorem dX11_sheetWrong_1 : decode cX11_sheetWrong 1 = .ok (.iconst 0, 1) := by decide +kernel
theorem dX11_sheetWrong_2 : decode cX11_sheetWrong 2 = .ok (.iconst 3, 1) := by decide +kernel
theorem dX11_sheetWrong_3 : decode cX11_sheetWrong 3 = .ok (.invokestatic 78, 3) := by decide +kernel
theorem dX11_sheetWrong_6 : decode cX11_sheetWrong 6 = .ok (.ifCond .ne 6, 3) := by decide +kernel
theorem dX11_sheetWrong_9 : decode cX11_sheetWrong 9 = .ok (.bipush (-2), 2) := by decide +kernel
theorem dX11_sheetWrong_11 : decode cX11_sheetWrong 11 = .ok (.ireturn, 1) := by decide +kernel
theorem dX11_sheetWrong_12 : decode cX11_sheetWrong 12 = .ok (.aload_n 0, 1) := by decide +kernel
theorem dX11_sheetWrong_13 : decode cX11_sheetWrong 13 = .ok (.getfield 34, 3) := by decide +kernel
theorem dX11_sheetWrong_16 : decode cX11_sheetWrong 16 = .ok (.iload_n 1, 1) := by decide +kernel
theorem dX11_sheetWrong_17 : decode cX11_sheetWrong 17 = .ok (.iaload, 1) := by decide +kernel
theorem dX11_sheetWrong_18 : decode cX11_sheetWrong 18 = .ok (.iconst (-1), 1) := by decide +kernel
theorem dX11_sheetWrong_19 : decode cX11_sheetWrong 19 = .ok (.if_icmp .ne 6, 3) := by decide +kernel
theorem dX11_sheetWrong_22 : decode cX11_sheetWrong 22 = .ok (.bipush (-11), 2) := by decide +kernel
theorem dX11_sheetWrong_24 : decode cX11_sheetWrong 24 = .ok (.ireturn, 1) := by decide +kernel
theorem dX11_sheetWrong_25 : decode cX11_sheetWrong 25 = .ok (.aload_n 0, 1) := by decide +kernel
theorem dX11_sheetWrong_26 : decode cX11_sheetWrong 26 = .ok (.getfield 37, 3) := by decide +kernel
theorem dX11_sheetWrong_29 : decode cX11_sheetWrong 29 = .ok (.iload_n 1, 1) := by decide +kernel
theorem dX11_sheetWrong_30 : decode cX11_sheetWrong 30 = .ok (.iaload, 1) := by decide +kernel
theorem dX11_sheetWrong_31 : decode cX11_sheetWrong 31 = .ok (.bipush 20, 2) := by decide +kernel
theorem dX11_sheetWrong_33 : decode cX11_sheetWrong 33 = .ok (.if_icmp .le 8, 3) := by decide +kernel
theorem dX11_sheetWrong_36 : decode cX11_sheetWrong 36 = .ok (.bipush (-2), 2) := by decide +kernel
theorem dX11_sheetWrong_38 : decode cX11_sheetWrong 38 = .ok (.goto 4, 3) := by decide +kernel
theorem dX11_sheetWrong_41 : decode cX11_sheetWrong 41 = .ok (.iconst 0, 1) := by decide +kernel
theorem dX11_sheetWrong_42 : decode cX11_sheetWrong 42 = .ok (.ireturn, 1) := by decide +kernel
def f_X11_sheetWrong (S : e_S) (l0 : Nat) (l1 : Int32) (g : e_G) : Option (Int32 × e_G) :=
  if e_ob S 11 l0 = true then
    (f_X11_in S l1 (0 : Int32) (3 : Int32) g).bind fun q2 =>
    if q2.1 = 0 then
      some ((-2 : Int32), q2.2)
    else
      (e_gR S q2.2 11 l0 14).bind fun v3 =>
      (e_aI S q2.2 0 v3 l1).bind fun v5 =>
      if v5 = (-1 : Int32) then
        some ((-11 : Int32), q2.2)
      else
        (e_gR S q2.2 11 l0 15).bind fun v7 =>
        (e_aI S q2.2 0 v7 l1).bind fun v9 =>
        if v9 ≤ (20 : Int32) then
          some ((0 : Int32), q2.2)
        else
          some ((-2 : Int32), q2.2)
  else none
theorem o_X11_sheetWrong  {S : e_S} {w : Int32} {k : e_G} {l0 : Nat} {l1 : Int32} {g : e_G} (hf : f_X11_sheetWrong S l0 l1 g = some (w, k)) : e_ob S 11 l0 = true := by
  unfold f_X11_sheetWrong at hf
  by_cases hc : e_ob S 11 l0 = true
  · exact hc
  · rw [if_neg hc] at hf
    cases hf
theorem c_X11_sheetWrong {l : Launch} {D : va_G}  {S : e_S} {w : Int32} {k : e_G} {l0 : Nat} {l1 : Int32} {g : e_G} (hf : f_X11_sheetWrong S l0 l1 g = some (w, k)) : CT l D (e_R 2) M_X11_sheetWrong [.ref l0, .int l1] (S, g) (some (.int w)) (S, k) := by
  refine CT.of (by decide +kernel) (Nat.le_of_ble_eq_true rfl) ?_
  have ho := o_X11_sheetWrong hf
  unfold f_X11_sheetWrong at hf
  rw [if_pos ho] at hf
  show X l D (e_R 2) M_X11_sheetWrong 0 0 0 [(0, .ref l0), (1, .int l1)] [] (S, g) (some (.int w)) (S, k)
  refine X.iload_n dX11_sheetWrong_0 rfl (j := 1) rfl ?_
  refine X.iconst dX11_sheetWrong_1 kI_0 ?_
  refine X.iconst dX11_sheetWrong_2 kI_3 ?_
  obtain ⟨q2, h1, hf⟩ := ob hf
  refine Y.callS (av := [.int l1, .int (0 : Int32), .int (3 : Int32)]) dX11_sheetWrong_3 (c_X11_in (l := l) (D := D) (w := q2.1) (k := q2.2) h1) cw_X11_78 mk_X11_in (e_R_ok (Nat.le_of_ble_eq_true rfl) (Nat.le_of_ble_eq_true rfl)) ⟨rfl, rfl⟩ (by simp [Value.category]) ?_
  refine X.if_ne dX11_sheetWrong_6 (tgt := 12) rfl (fun hc => ?_) (fun hc => ?_)
  · rw [if_neg hc] at hf
    refine X.aload_n dX11_sheetWrong_12 rfl (j := 0) rfl ?_
    obtain ⟨v3, h4, hf⟩ := ob hf
    refine Y.getR dX11_sheetWrong_13 fl_X11_34 rfl h4 ?_
    refine X.iload_n dX11_sheetWrong_16 rfl (j := 1) rfl ?_
    obtain ⟨v5, h6, hf⟩ := ob hf
    refine Y.iald dX11_sheetWrong_17 h6 ?_
    refine X.iconst dX11_sheetWrong_18 kI_m1 ?_
    refine X.icmp_ne dX11_sheetWrong_19 (tgt := 25) rfl (fun hc => ?_) (fun hc => ?_)
    · rw [if_neg hc] at hf
      refine X.aload_n dX11_sheetWrong_25 rfl (j := 0) rfl ?_
      obtain ⟨v7, h8, hf⟩ := ob hf
      refine Y.getR dX11_sheetWrong_26 fl_X11_37 rfl h8 ?_
      refine X.iload_n dX11_sheetWrong_29 rfl (j := 1) rfl ?_
      obtain ⟨v9, h10, hf⟩ := ob hf
      refine Y.iald dX11_sheetWrong_30 h10 ?_
      refine X.bipush dX11_sheetWrong_31 kB_20 ?_
      refine X.icmp_le dX11_sheetWrong_33 (tgt := 41) rfl (fun hc => ?_) (fun hc => ?_)
      · rw [if_pos hc] at hf
        refine X.iconst dX11_sheetWrong_41 kI_0 ?_
        obtain ⟨e1, e2⟩ := e_ret hf
        subst e1
        subst e2
        exact X.iret dX11_sheetWrong_42 rfl rfl
      · rw [if_neg hc] at hf
        refine X.bipush dX11_sheetWrong_36 kB_m2 ?_
        refine X.goto dX11_sheetWrong_38 (tgt := 42) rfl ?_
        obtain ⟨e1, e2⟩ := e_ret hf
        subst e1
        subst e2
        exact X.iret dX11_sheetWrong_42 rfl rfl
    · rw [if_pos hc] at hf
      refine X.bipush dX11_sheetWrong_22 kB_m11 ?_
      obtain ⟨e1, e2⟩ := e_ret hf
      subst e1
      subst e2
      exact X.iret dX11_sheetWrong_24 rfl rfl
  · rw [if_pos hc] at hf
    refine X.bipush dX11_sheetWrong_9 kB_m2 ?_
    obtain ⟨e1, e2⟩ := e_ret hf
    subst e1
    subst e2
    exact X.iret dX11_sheetWrong_11 rfl rfl
/-! LeanedOutModel.toldWrong(II)I -/
abbrev M_X11_toldWrong : e_M := (yX11_toldWrong, cX11_toldWrong, 4, (some .int))
theorem mk_X11_toldWrong : e_Mok M_X11_toldWrong 2 := ⟨by decide +kernel, by decide +kernel, by decide +kernel⟩
theorem dX11_toldWrong_0 : decode cX11_toldWrong 0 = .ok (.aload_n 0, 1) := by decide +kernel
theorem dX11_toldWrong_1 : decode cX11_toldWrong 1 = .ok (.iload_n 1, 1) := by decide +kernel
theorem dX11_toldWrong_2 : decode cX11_toldWrong 2 = .ok (.invokevirtual 262, 3) := by decide +kernel
theorem dX11_toldWrong_5 : decode cX11_toldWrong 5 = .ok (.istore_n 3, 1) := by decide +kernel
theorem dX11_toldWrong_6 : decode cX11_toldWrong 6 = .ok (.iload_n 3, 1) := by decide +kernel
theorem dX11_toldWrong_7 : decode cX11_toldWrong 7 = .ok (.ifCond .eq 7, 3) := by decide +kernel
theorem dX11_toldWrong_10 : decode cX11_toldWrong 10 = .ok (.iload_n 3, 1) := by decide +kernel
theorem dX11_toldWrong_11 : decode cX11_toldWrong 11 = .ok (.goto 17, 3) := by decide +kernel
theorem dX11_toldWrong_14 : decode cX11_toldWrong 14 = .ok (.aload_n 0, 1) := by decide +kernel
theorem dX11_toldWrong_15 : decode cX11_toldWrong 15 = .ok (.iload_n 2, 1) := by decide +kernel
theorem dX11_toldWrong_16 : decode cX11_toldWrong 16 = .ok (.invokevirtual 179, 3) := by decide +kernel
theorem dX11_toldWrong_19 : decode cX11_toldWrong 19 = .ok (.ifCond .eq 7, 3) := by decide +kernel
theorem dX11_toldWrong_22 : decode cX11_toldWrong 22 = .ok (.iconst 0, 1) := by decide +kernel
theorem dX11_toldWrong_23 : decode cX11_toldWrong 23 = .ok (.goto 5, 3) := by decide +kernel
theorem dX11_toldWrong_26 : decode cX11_toldWrong 26 = .ok (.bipush (-5), 2) := by decide +kernel
theorem dX11_toldWrong_28 : decode cX11_toldWrong 28 = .ok (.ireturn, 1) := by decide +kernel
def f_X11_toldWrong (S : e_S) (l0 : Nat) (l1 : Int32) (l2 : Int32) (g : e_G) : Option (Int32 × e_G) :=
  if e_ob S 11 l0 = true then
    (f_X11_sheetWrong S l0 l1 g).bind fun q2 =>
    if q2.1 = 0 then
      (f_X11_isOne S l0 l2 q2.2).bind fun q4 =>
      if q4.1 = 0 then
        some ((-5 : Int32), q4.2)
      else
        some ((0 : Int32), q4.2)
    else
      some (q2.1, q2.2)
  else none
theorem o_X11_toldWrong  {S : e_S} {w : Int32} {k : e_G} {l0 : Nat} {l1 : Int32} {l2 : Int32} {g : e_G} (hf : f_X11_toldWrong S l0 l1 l2 g = some (w, k)) : e_ob S 11 l0 = true := by
  unfold f_X11_toldWrong at hf
  by_cases hc : e_ob S 11 l0 = true
  · exact hc
  · rw [if_neg hc] at hf
    cases hf
theorem c_X11_toldWrong {l : Launch} {D : va_G}  {S : e_S} {w : Int32} {k : e_G} {l0 : Nat} {l1 : Int32} {l2 : Int32} {g : e_G} (hf : f_X11_toldWrong S l0 l1 l2 g = some (w, k)) : CT l D (e_R 3) M_X11_toldWrong [.ref l0, .int l1, .int l2] (S, g) (some (.int w)) (S, k) := by
  refine CT.of (by decide +kernel) (Nat.le_of_ble_eq_true rfl) ?_
  have ho := o_X11_toldWrong hf
  unfold f_X11_toldWrong at hf
  rw [if_pos ho] at hf
  show X l D (e_R 3) M_X11_toldWrong 0 0 0 [(0, .ref l0), (1, .int l1), (2, .int l2)] [] (S, g) (some (.int w)) (S, k)
  refine X.aload_n dX11_toldWrong_0 rfl (j := 0) rfl ?_
  refine X.iload_n dX11_toldWrong_1 rfl (j := 1) rfl ?_
  obtain ⟨q2, h1, hf⟩ := ob hf
  refine Y.callV (av := [.int l1]) (ci := 11) dX11_toldWrong_2 (c_X11_sheetWrong (l := l) (D := D) (w := q2.1) (k := q2.2) h1) cw_X11_262 (by decide) rfl mk_X11_sheetWrong (o_X11_sheetWrong (w := q2.1) (k := q2.2) h1) (e_R_ok (Nat.le_of_ble_eq_true rfl) (Nat.le_of_ble_eq_true rfl)) ⟨rfl, rfl⟩ (by simp [Value.category]) ?_
  refine X.istore_n dX11_toldWrong_5 rfl (Nat.le_of_ble_eq_true rfl) (lc' := [(3, .int q2.1), (0, .ref l0), (1, .int l1), (2, .int l2)]) rfl ?_
  refine X.iload_n dX11_toldWrong_6 rfl (j := 0) rfl ?_
  refine X.if_eq dX11_toldWrong_7 (tgt := 14) rfl (fun hc => ?_) (fun hc => ?_)
  · rw [if_pos hc] at hf
    refine X.aload_n dX11_toldWrong_14 rfl (j := 1) rfl ?_
    refine X.iload_n dX11_toldWrong_15 rfl (j := 3) rfl ?_
    obtain ⟨q4, h3, hf⟩ := ob hf
    refine Y.callV (av := [.int l2]) (ci := 11) dX11_toldWrong_16 (c_X11_isOne (l := l) (D := D) (w := q4.1) (k := q4.2) h3) cw_X11_179 (by decide) rfl mk_X11_isOne (o_X11_isOne (w := q4.1) (k := q4.2) h3) (e_R_ok (Nat.le_of_ble_eq_true rfl) (Nat.le_of_ble_eq_true rfl)) ⟨rfl, rfl⟩ (by simp [Value.category]) ?_
    refine X.if_eq dX11_toldWrong_19 (tgt := 26) rfl (fun hc => ?_) (fun hc => ?_)
    · rw [if_pos hc] at hf
      refine X.bipush dX11_toldWrong_26 kB_m5 ?_
      obtain ⟨e1, e2⟩ := e_ret hf
      subst e1
      subst e2
      exact X.iret dX11_toldWrong_28 rfl rfl
    · rw [if_neg hc] at hf
      refine X.iconst dX11_toldWrong_22 kI_0 ?_
      refine X.goto dX11_toldWrong_23 (tgt := 28) rfl ?_
      obtain ⟨e1, e2⟩ := e_ret hf
      subst e1
      subst e2
      exact X.iret dX11_toldWrong_28 rfl rfl
  · rw [if_neg hc] at hf
    refine X.iload_n dX11_toldWrong_10 rfl (j := 0) rfl ?_
    refine X.goto dX11_toldWrong_11 (tgt := 28) rfl ?_
    obtain ⟨e1, e2⟩ := e_ret hf
    subst e1
    subst e2
    exact X.iret dX11_toldWrong_28 rfl rfl
/-! LeanedOutModel.unlike(II)I -/
abbrev M_X11_unlike : e_M := (yX11_unlike, cX11_unlike, 5, (some .int))
theorem mk_X11_unlike : e_Mok M_X11_unlike 2 := ⟨by decide +kernel, by decide +kernel, by decide +kernel⟩
theorem dX11_unlike_0 : decode cX11_unlike 0 = .ok (.iconst (-1), 1) := by decide +kernel
theorem dX11_unlike_1 : decode cX11_unlike 1 = .ok (.istore_n 3, 1) := by decide +kernel
theorem dX11_unlike_2 : decode cX11_unlike 2 = .ok (.aload_n 0, 1) := by decide +kernel
theorem dX11_unlike_3 : decode cX11_unlike 3 = .ok (.invokevirtual 223, 3) := by decide +kernel
theorem dX11_unlike_6 : decode cX11_unlike 6 = .ok (.iconst 0, 1) := by decide +kernel
theorem dX11_unlike_7 : decode cX11_unlike 7 = .ok (.istore 4, 2) := by decide +kernel
theorem dX11_unlike_9 : decode cX11_unlike 9 = .ok (.iload 4, 2) := by decide +kernel
theorem dX11_unlike_11 : decode cX11_unlike 11 = .ok (.aload_n 0, 1) := by decide +kernel
theorem dX11_unlike_12 : decode cX11_unlike 12 = .ok (.getfield 37, 3) := by decide +kernel
theorem dX11_unlike_15 : decode cX11_unlike 15 = .ok (.iload_n 1, 1) := by decide +kernel
theorem dX11_unlike_16 : decode cX11_unlike 16 = .ok (.iaload, 1) := by decide +kernel
theorem dX11_unlike_17 : decode cX11_unlike 17 = .ok (.if_icmp .ge 51, 3) := by decide +kernel
theorem dX11_unlike_20 : decode cX11_unlike 20 = .ok (.iload_n 3, 1) := by decide +kernel
theorem dX11_unlike_21 : decode cX11_unlike 21 = .ok (.iconst (-1), 1) := by decide +kernel
theorem dX11_unlike_22 : decode cX11_unlike 22 = .ok (.if_icmp .ne 46, 3) := by decide +kernel
theorem dX11_unlike_25 : decode cX11_unlike 25 = .ok (.aload_n 0, 1) := by decide +kernel
theorem dX11_unlike_26 : decode cX11_unlike 26 = .ok (.invokevirtual 219, 3) := by decide +kernel
theorem dX11_unlike_29 : decode cX11_unlike 29 = .ok (.pop, 1) := by decide +kernel
theorem dX11_unlike_30 : decode cX11_unlike 30 = .ok (.aload_n 0, 1) := by decide +kernel
theorem dX11_unlike_31 : decode cX11_unlike 31 = .ok (.getfield 40, 3) := by decide +kernel
theorem dX11_unlike_34 : decode cX11_unlike 34 = .ok (.bipush 40, 2) := by decide +kernel
theorem dX11_unlike_36 : decode cX11_unlike 36 = .ok (.iload_n 1, 1) := by decide +kernel
theorem dX11_unlike_37 : decode cX11_unlike 37 = .ok (.imul, 1) := by decide +kernel
theorem dX11_unlike_38 : decode cX11_unlike 38 = .ok (.iload 4, 2) := by decide +kernel
theorem dX11_unlike_40 : decode cX11_unlike 40 = .ok (.iadd, 1) := by decide +kernel
theorem dX11_unlike_41 : decode cX11_unlike 41 = .ok (.iaload, 1) := by decide +kernel
theorem dX11_unlike_42 : decode cX11_unlike 42 = .ok (.aload_n 0, 1) := by decide +kernel
theorem dX11_unlike_43 : decode cX11_unlike 43 = .ok (.getfield 16, 3) := by decide +kernel
theorem dX11_unlike_46 : decode cX11_unlike 46 = .ok (.iconst 4, 1) := by decide +kernel
theorem dX11_unlike_47 : decode cX11_unlike 47 = .ok (.iload_n 2, 1) := by decide +kernel
theorem dX11_unlike_48 : decode cX11_unlike 48 = .ok (.imul, 1) := by decide +kernel
theorem dX11_unlike_49 : decode cX11_unlike 49 = .ok (.iconst 2, 1) := by decide +kernel
theorem dX11_unlike_50 : decode cX11_unlike 50 = .ok (.iadd, 1) := by decide +kernel
theorem dX11_unlike_51 : decode cX11_unlike 51 = .ok (.iaload, 1) := by decide +kernel
theorem dX11_unlike_52 : decode cX11_unlike 52 = .ok (.if_icmp .ne 7, 3) := by decide +kernel
theorem dX11_unlike_55 : decode cX11_unlike 55 = .ok (.iconst (-1), 1) := by decide +kernel
theorem dX11_unlike_56 : decode cX11_unlike 56 = .ok (.goto 5, 3) := by decide +kernel
theorem dX11_unlike_59 : decode cX11_unlike 59 = .ok (.iload 4, 2) := by decide +kernel
theorem dX11_unlike_61 : decode cX11_unlike 61 = .ok (.istore_n 3, 1) := by decide +kernel
theorem dX11_unlike_62 : decode cX11_unlike 62 = .ok (.iinc 4 1, 3) := by decide +kernel
theorem dX11_unlike_65 : decode cX11_unlike 65 = .ok (.goto (-56), 3) := by decide +kernel
theorem dX11_unlike_68 : decode cX11_unlike 68 = .ok (.aload_n 0, 1) := by decide +kernel
theorem dX11_unlike_69 : decode cX11_unlike 69 = .ok (.invokevirtual 235, 3) := by decide +kernel
theorem dX11_unlike_72 : decode cX11_unlike 72 = .ok (.iload_n 3, 1) := by decide +kernel
theorem dX11_unlike_73 : decode cX11_unlike 73 = .ok (.ireturn, 1) := by decide +kernel
def J_X11_unlike_68 (S : e_S) (l0 : Nat) (l3 : Int32) (g : e_G) : Option (Int32 × e_G) :=
  (f_X11_lays S l0 g).bind fun q2 =>
  some (l3, q2)
def J_X11_unlike_61 (c9 : Nat → Int32 → Int32 → Int32 → Int32 → e_G → Option (Int32 × e_G)) (S : e_S) (l0 : Nat) (l1 : Int32) (l2 : Int32) (l4 : Int32) (t0 : Int32) (g : e_G) : Option (Int32 × e_G) :=
  c9 l0 l1 l2 t0 (l4 + (1 : Int32)) g
def L_X11_unlike_9 : Nat → e_S → Nat → Int32 → Int32 → Int32 → Int32 → e_G → Option (Int32 × e_G)
  | 0, _, _, _, _, _, _, _ => none
  | n + 1, S, l0, l1, l2, l3, l4, g =>
  (e_gR S g 11 l0 15).bind fun v1 =>
  (e_aI S g 0 v1 l1).bind fun v3 =>
  if v3 ≤ l4 then
    J_X11_unlike_68 S l0 l3 g
  else
    if l3 = (-1 : Int32) then
      (f_X11_dayOf S l0 g).bind fun q6 =>
      (e_gR S q6.2 11 l0 16).bind fun v7 =>
      (e_aI S q6.2 0 v7 (((40 : Int32) * l1) + l4)).bind fun v9 =>
      (e_gR S q6.2 11 l0 3).bind fun v11 =>
      (e_aI S q6.2 0 v11 (((4 : Int32) * l2) + (2 : Int32))).bind fun v13 =>
      if v9 = v13 then
        J_X11_unlike_61 (L_X11_unlike_9 n S) S l0 l1 l2 l4 (-1 : Int32) q6.2
      else
        J_X11_unlike_61 (L_X11_unlike_9 n S) S l0 l1 l2 l4 l4 q6.2
    else
      J_X11_unlike_68 S l0 l3 g
def f_X11_unlike (S : e_S) (l0 : Nat) (l1 : Int32) (l2 : Int32) (g : e_G) : Option (Int32 × e_G) :=
  if e_ob S 11 l0 = true then
    (f_X11_keepsAll S l0 g).bind fun q2 =>
    L_X11_unlike_9 50000 S l0 l1 l2 (-1 : Int32) (0 : Int32) q2
  else none
theorem x_J_X11_unlike_68 {l : Launch} {D : va_G} {S : e_S} {w : Int32} {k : e_G} {l0 : Nat} {l3 : Int32} {g : e_G} (hf : J_X11_unlike_68 S l0 l3 g = some (w, k)) : X l D (e_R 6) M_X11_unlike 0 0 68 [(0, .ref l0), (3, .int l3)] [] (S, g) (some (.int w)) (S, k) := by
  unfold J_X11_unlike_68 at hf
  refine X.aload_n dX11_unlike_68 rfl (j := 0) rfl ?_
  obtain ⟨q2, h1, hf⟩ := ob hf
  refine Y.callV (av := []) (ci := 11) dX11_unlike_69 (c_X11_lays (l := l) (D := D) h1) cw_X11_235 (by decide) rfl mk_X11_lays (o_X11_lays (k := q2) h1) (e_R_ok (Nat.le_of_ble_eq_true rfl) (Nat.le_of_ble_eq_true rfl)) ⟨rfl, rfl⟩ (by simp [Value.category]) ?_
  refine X.iload_n dX11_unlike_72 rfl (j := 1) rfl ?_
  obtain ⟨e1, e2⟩ := e_ret hf
  subst e1
  subst e2
  exact X.iret dX11_unlike_73 rfl rfl
theorem x_J_X11_unlike_61 {l : Launch} {D : va_G} {S : e_S} {w : Int32} {k : e_G} (c9 : Nat → Int32 → Int32 → Int32 → Int32 → e_G → Option (Int32 × e_G)) (hc9 : ∀ (l0 : Nat) (l1 : Int32) (l2 : Int32) (l3 : Int32) (l4 : Int32) (g : e_G), c9 l0 l1 l2 l3 l4 g = some (w, k) → X l D (e_R 6) M_X11_unlike 0 0 9 [(0, .ref l0), (1, .int l1), (2, .int l2), (3, .int l3), (4, .int l4)] [] (S, g) (some (.int w)) (S, k)) {l0 : Nat} {l1 : Int32} {l2 : Int32} {l4 : Int32} {t0 : Int32} {g : e_G} (hf : J_X11_unlike_61 c9 S l0 l1 l2 l4 t0 g = some (w, k)) : X l D (e_R 6) M_X11_unlike 0 0 61 [(0, .ref l0), (1, .int l1), (2, .int l2), (4, .int l4)] [.int t0] (S, g) (some (.int w)) (S, k) := by
  unfold J_X11_unlike_61 at hf
  refine X.istore_n dX11_unlike_61 rfl (Nat.le_of_ble_eq_true rfl) (lc' := [(3, .int t0), (0, .ref l0), (1, .int l1), (2, .int l2), (4, .int l4)]) rfl ?_
  refine X.iinc (j := 4) dX11_unlike_62 rfl (v := l4 + (1 : Int32)) (by rw [kI_1]) (Nat.le_of_ble_eq_true rfl) (lc' := [(4, .int (l4 + (1 : Int32))), (3, .int t0), (0, .ref l0), (1, .int l1), (2, .int l2)]) rfl ?_
  refine X.goto dX11_unlike_65 (tgt := 9) rfl ?_
  refine X.sub [2, 3, 4, 1, 0] rfl ?_
  exact hc9 _ _ _ _ _ _ hf
theorem x_L_X11_unlike_9 {l : Launch} {D : va_G} {S : e_S} {w : Int32} {k : e_G} : ∀ (n : Nat) (l0 : Nat) (l1 : Int32) (l2 : Int32) (l3 : Int32) (l4 : Int32) (g : e_G), L_X11_unlike_9 n S l0 l1 l2 l3 l4 g = some (w, k) → X l D (e_R 6) M_X11_unlike 0 0 9 [(0, .ref l0), (1, .int l1), (2, .int l2), (3, .int l3), (4, .int l4)] [] (S, g) (some (.int w)) (S, k) := by
  intro n
  induction n with
  | zero =>
    intro l0 l1 l2 l3 l4 g hf
    cases hf
  | succ n ih =>
    intro l0 l1 l2 l3 l4 g hf
    rw [L_X11_unlike_9] at hf
    refine X.iload dX11_unlike_9 (j := 4) rfl ?_
    refine X.aload_n dX11_unlike_11 rfl (j := 0) rfl ?_
    obtain ⟨v1, h2, hf⟩ := ob hf
    refine Y.getR dX11_unlike_12 fl_X11_37 rfl h2 ?_
    refine X.iload_n dX11_unlike_15 rfl (j := 1) rfl ?_
    obtain ⟨v3, h4, hf⟩ := ob hf
    refine Y.iald dX11_unlike_16 h4 ?_
    refine X.icmp_ge dX11_unlike_17 (tgt := 68) rfl (fun hc => ?_) (fun hc => ?_)
    · rw [if_pos hc] at hf
      refine X.sub [0, 3] rfl ?_
      exact x_J_X11_unlike_68 hf
    · rw [if_neg hc] at hf
      refine X.iload_n dX11_unlike_20 rfl (j := 3) rfl ?_
      refine X.iconst dX11_unlike_21 kI_m1 ?_
      refine X.icmp_ne dX11_unlike_22 (tgt := 68) rfl (fun hc => ?_) (fun hc => ?_)
      · rw [if_neg hc] at hf
        refine X.sub [0, 3] rfl ?_
        exact x_J_X11_unlike_68 hf
      · rw [if_pos hc] at hf
        refine X.aload_n dX11_unlike_25 rfl (j := 0) rfl ?_
        obtain ⟨q6, h5, hf⟩ := ob hf
        refine Y.callV (av := []) (ci := 11) dX11_unlike_26 (c_X11_dayOf (l := l) (D := D) (w := q6.1) (k := q6.2) h5) cw_X11_219 (by decide) rfl mk_X11_dayOf (o_X11_dayOf (w := q6.1) (k := q6.2) h5) (e_R_ok (Nat.le_of_ble_eq_true rfl) (Nat.le_of_ble_eq_true rfl)) ⟨rfl, rfl⟩ (by simp [Value.category]) ?_
        refine X.pop dX11_unlike_29 rfl ?_
        refine X.aload_n dX11_unlike_30 rfl (j := 0) rfl ?_
        obtain ⟨v7, h8, hf⟩ := ob hf
        refine Y.getR dX11_unlike_31 fl_X11_40 rfl h8 ?_
        refine X.bipush dX11_unlike_34 kB_40 ?_
        refine X.iload_n dX11_unlike_36 rfl (j := 1) rfl ?_
        refine X.imul dX11_unlike_37 ?_
        refine X.iload dX11_unlike_38 (j := 4) rfl ?_
        refine X.iadd dX11_unlike_40 ?_
        obtain ⟨v9, h10, hf⟩ := ob hf
        refine Y.iald dX11_unlike_41 h10 ?_
        refine X.aload_n dX11_unlike_42 rfl (j := 0) rfl ?_
        obtain ⟨v11, h12, hf⟩ := ob hf
        refine Y.getR dX11_unlike_43 fl_X11_16 rfl h12 ?_
        refine X.iconst dX11_unlike_46 kI_4 ?_
        refine X.iload_n dX11_unlike_47 rfl (j := 2) rfl ?_
        refine X.imul dX11_unlike_48 ?_
        refine X.iconst dX11_unlike_49 kI_2 ?_
        refine X.iadd dX11_unlike_50 ?_
        obtain ⟨v13, h14, hf⟩ := ob hf
        refine Y.iald dX11_unlike_51 h14 ?_
        refine X.icmp_ne dX11_unlike_52 (tgt := 59) rfl (fun hc => ?_) (fun hc => ?_)
        · rw [if_neg hc] at hf
          refine X.iload dX11_unlike_59 (j := 4) rfl ?_
          refine X.sub [0, 1, 2, 4] rfl ?_
          exact x_J_X11_unlike_61 _ ih hf
        · rw [if_pos hc] at hf
          refine X.iconst dX11_unlike_55 kI_m1 ?_
          refine X.goto dX11_unlike_56 (tgt := 61) rfl ?_
          refine X.sub [0, 1, 2, 4] rfl ?_
          exact x_J_X11_unlike_61 _ ih hf
theorem o_X11_unlike  {S : e_S} {w : Int32} {k : e_G} {l0 : Nat} {l1 : Int32} {l2 : Int32} {g : e_G} (hf : f_X11_unlike S l0 l1 l2 g = some (w, k)) : e_ob S 11 l0 = true := by
  unfold f_X11_unlike at hf
  by_cases hc : e_ob S 11 l0 = true
  · exact hc
  · rw [if_neg hc] at hf
    cases hf
theorem c_X11_unlike {l : Launch} {D : va_G}  {S : e_S} {w : Int32} {k : e_G} {l0 : Nat} {l1 : Int32} {l2 : Int32} {g : e_G} (hf : f_X11_unlike S l0 l1 l2 g = some (w, k)) : CT l D (e_R 6) M_X11_unlike [.ref l0, .int l1, .int l2] (S, g) (some (.int w)) (S, k) := by
  refine CT.of (by decide +kernel) (Nat.le_of_ble_eq_true rfl) ?_
  have ho := o_X11_unlike hf
  unfold f_X11_unlike at hf
  rw [if_pos ho] at hf
  show X l D (e_R 6) M_X11_unlike 0 0 0 [(0, .ref l0), (1, .int l1), (2, .int l2)] [] (S, g) (some (.int w)) (S, k)
  refine X.iconst dX11_unlike_0 kI_m1 ?_
  refine X.istore_n dX11_unlike_1 rfl (Nat.le_of_ble_eq_true rfl) (lc' := [(3, .int (-1 : Int32)), (0, .ref l0), (1, .int l1), (2, .int l2)]) rfl ?_
  refine X.aload_n dX11_unlike_2 rfl (j := 1) rfl ?_
  obtain ⟨q2, h1, hf⟩ := ob hf
  refine Y.callV (av := []) (ci := 11) dX11_unlike_3 (c_X11_keepsAll (l := l) (D := D) h1) cw_X11_223 (by decide) rfl mk_X11_keepsAll (o_X11_keepsAll (k := q2) h1) (e_R_ok (Nat.le_of_ble_eq_true rfl) (Nat.le_of_ble_eq_true rfl)) ⟨rfl, rfl⟩ (by simp [Value.category]) ?_
  refine X.iconst dX11_unlike_6 kI_0 ?_
  refine X.istore dX11_unlike_7 (Nat.le_of_ble_eq_true rfl) (lc' := [(4, .int (0 : Int32)), (3, .int (-1 : Int32)), (0, .ref l0), (1, .int l1), (2, .int l2)]) rfl ?_
  refine X.sub [2, 3, 4, 1, 0] rfl ?_
  exact x_L_X11_unlike_9 50000 _ _ _ _ _ _ hf
/-! LeanedOutModel.judge(II)I -/
abbrev M_X11_judge : e_M := (yX11_judge, cX11_judge, 4, (some .int))
theorem mk_X11_judge : e_Mok M_X11_judge 2 := ⟨by decide +kernel, by decide +kernel, by decide +kernel⟩
theorem dX11_judge_0 : decode cX11_judge 0 = .ok (.aload_n 0, 1) := by decide +kernel
theorem dX11_judge_1 : decode cX11_judge 1 = .ok (.iload_n 1, 1) := by decide +kernel
theorem dX11_judge_2 : decode cX11_judge 2 = .ok (.iload_n 2, 1) := by decide +kernel
theorem dX11_judge_3 : decode cX11_judge 3 = .ok (.invokevirtual 265, 3) := by decide +kernel
theorem dX11_judge_6 : decode cX11_judge 6 = .ok (.istore_n 3, 1) := by decide +kernel
theorem dX11_judge_7 : decode cX11_judge 7 = .ok (.iload_n 3, 1) := by decide +kernel
theorem dX11_judge_8 : decode cX11_judge 8 = .ok (.ifCond .ne 12, 3) := by decide +kernel
theorem dX11_judge_11 : decode cX11_judge 11 = .ok (.aload_n 0, 1) := by decide +kernel
theorem dX11_judge_12 : decode cX11_judge 12 = .ok (.iload_n 1, 1) := by decide +kernel
theorem dX11_judge_13 : decode cX11_judge 13 = .ok (.iload_n 2, 1) := by decide +kernel
theorem dX11_judge_14 : decode cX11_judge 14 = .ok (.invokevirtual 268, 3) := by decide +kernel
theorem dX11_judge_17 : decode cX11_judge 17 = .ok (.goto 4, 3) := by decide +kernel
theorem dX11_judge_20 : decode cX11_judge 20 = .ok (.iload_n 3, 1) := by decide +kernel
theorem dX11_judge_21 : decode cX11_judge 21 = .ok (.ireturn, 1) := by decide +kernel
def f_X11_judge (S : e_S) (l0 : Nat) (l1 : Int32) (l2 : Int32) (g : e_G) : Option (Int32 × e_G) :=
  if e_ob S 11 l0 = true then
    (f_X11_toldWrong S l0 l1 l2 g).bind fun q2 =>
    if q2.1 = 0 then
      (f_X11_unlike S l0 l1 l2 q2.2).bind fun q4 =>
      some (q4.1, q4.2)
    else
      some (q2.1, q2.2)
  else none
theorem o_X11_judge  {S : e_S} {w : Int32} {k : e_G} {l0 : Nat} {l1 : Int32} {l2 : Int32} {g : e_G} (hf : f_X11_judge S l0 l1 l2 g = some (w, k)) : e_ob S 11 l0 = true := by
  unfold f_X11_judge at hf
  by_cases hc : e_ob S 11 l0 = true
  · exact hc
  · rw [if_neg hc] at hf
    cases hf
theorem c_X11_judge {l : Launch} {D : va_G}  {S : e_S} {w : Int32} {k : e_G} {l0 : Nat} {l1 : Int32} {l2 : Int32} {g : e_G} (hf : f_X11_judge S l0 l1 l2 g = some (w, k)) : CT l D (e_R 7) M_X11_judge [.ref l0, .int l1, .int l2] (S, g) (some (.int w)) (S, k) := by
  refine CT.of (by decide +kernel) (Nat.le_of_ble_eq_true rfl) ?_
  have ho := o_X11_judge hf
  unfold f_X11_judge at hf
  rw [if_pos ho] at hf
  show X l D (e_R 7) M_X11_judge 0 0 0 [(0, .ref l0), (1, .int l1), (2, .int l2)] [] (S, g) (some (.int w)) (S, k)
  refine X.aload_n dX11_judge_0 rfl (j := 0) rfl ?_
  refine X.iload_n dX11_judge_1 rfl (j := 1) rfl ?_
  refine X.iload_n dX11_judge_2 rfl (j := 2) rfl ?_
  obtain ⟨q2, h1, hf⟩ := ob hf
  refine Y.callV (av := [.int l1, .int l2]) (ci := 11) dX11_judge_3 (c_X11_toldWrong (l := l) (D := D) (w := q2.1) (k := q2.2) h1) cw_X11_265 (by decide) rfl mk_X11_toldWrong (o_X11_toldWrong (w := q2.1) (k := q2.2) h1) (e_R_ok (Nat.le_of_ble_eq_true rfl) (Nat.le_of_ble_eq_true rfl)) ⟨rfl, rfl⟩ (by simp [Value.category]) ?_
  refine X.istore_n dX11_judge_6 rfl (Nat.le_of_ble_eq_true rfl) (lc' := [(3, .int q2.1), (0, .ref l0), (1, .int l1), (2, .int l2)]) rfl ?_
  refine X.iload_n dX11_judge_7 rfl (j := 0) rfl ?_
  refine X.if_ne dX11_judge_8 (tgt := 20) rfl (fun hc => ?_) (fun hc => ?_)
  · rw [if_neg hc] at hf
    refine X.iload_n dX11_judge_20 rfl (j := 0) rfl ?_
    obtain ⟨e1, e2⟩ := e_ret hf
    subst e1
    subst e2
    exact X.iret dX11_judge_21 rfl rfl
  · rw [if_pos hc] at hf
    refine X.aload_n dX11_judge_11 rfl (j := 1) rfl ?_
    refine X.iload_n dX11_judge_12 rfl (j := 2) rfl ?_
    refine X.iload_n dX11_judge_13 rfl (j := 3) rfl ?_
    obtain ⟨q4, h3, hf⟩ := ob hf
    refine Y.callV (av := [.int l1, .int l2]) (ci := 11) dX11_judge_14 (c_X11_unlike (l := l) (D := D) (w := q4.1) (k := q4.2) h3) cw_X11_268 (by decide) rfl mk_X11_unlike (o_X11_unlike (w := q4.1) (k := q4.2) h3) (e_R_ok (Nat.le_of_ble_eq_true rfl) (Nat.le_of_ble_eq_true rfl)) ⟨rfl, rfl⟩ (by simp [Value.category]) ?_
    refine X.goto dX11_judge_17 (tgt := 21) rfl ?_
    obtain ⟨e1, e2⟩ := e_ret hf
    subst e1
    subst e2
    exact X.iret dX11_judge_21 rfl rfl
/-! LeanedOutModel.kinds(III)I -/
abbrev M_X11_kinds : e_M := (yX11_kinds, cX11_kinds, 9, (some .int))
theorem mk_X11_kinds : e_Mok M_X11_kinds 3 := ⟨by decide +kernel, by decide +kernel, by decide +kernel⟩
theorem dX11_kinds_0 : decode cX11_kinds 0 = .ok (.aload_n 0, 1) := by decide +kernel
theorem dX11_kinds_1 : decode cX11_kinds 1 = .ok (.iload_n 1, 1) := by decide +kernel
theorem dX11_kinds_2 : decode cX11_kinds 2 = .ok (.iload_n 2, 1) := by decide +kernel
theorem dX11_kinds_3 : decode cX11_kinds 3 = .ok (.invokevirtual 265, 3) := by decide +kernel
theorem dX11_kinds_6 : decode cX11_kinds 6 = .ok (.istore 4, 2) := by decide +kernel
theorem dX11_kinds_8 : decode cX11_kinds 8 = .ok (.iload 4, 2) := by decide +kernel
theorem dX11_kinds_10 : decode cX11_kinds 10 = .ok (.ifCond .eq 6, 3) := by decide +kernel
theorem dX11_kinds_13 : decode cX11_kinds 13 = .ok (.iload 4, 2) := by decide +kernel
theorem dX11_kinds_15 : decode cX11_kinds 15 = .ok (.ireturn, 1) := by decide +kernel
theorem dX11_kinds_16 : decode cX11_kinds 16 = .ok (.iload_n 3, 1) := by decide +kernel
theorem dX11_kinds_17 : decode cX11_kinds 17 = .ok (.iconst 0, 1) := by decide +kernel
theorem dX11_kinds_18 : decode cX11_kinds 18 = .ok (.iconst 1, 1) := by decide +kernel
theorem dX11_kinds_19 : decode cX11_kinds 19 = .ok (.invokestatic 78, 3) := by decide +kernel
theorem dX11_kinds_22 : decode cX11_kinds 22 = .ok (.ifCond .ne 6, 3) := by decide +kernel
theorem dX11_kinds_25 : decode cX11_kinds 25 = .ok (.bipush (-7), 2) := by decide +kernel
theorem dX11_kinds_27 : decode cX11_kinds 27 = .ok (.ireturn, 1) := by decide +kernel
theorem dX11_kinds_28 : decode cX11_kinds 28 = .ok (.aload_n 0, 1) := by decide +kernel
theorem dX11_kinds_29 : decode cX11_kinds 29 = .ok (.getfield 7, 3) := by decide +kernel
theorem dX11_kinds_32 : decode cX11_kinds 32 = .ok (.iload_n 2, 1) := by decide +kernel
theorem dX11_kinds_33 : decode cX11_kinds 33 = .ok (.iaload, 1) := by decide +kernel
theorem dX11_kinds_34 : decode cX11_kinds 34 = .ok (.istore 5, 2) := by decide +kernel
theorem dX11_kinds_36 : decode cX11_kinds 36 = .ok (.aload_n 0, 1) := by decide +kernel
theorem dX11_kinds_37 : decode cX11_kinds 37 = .ok (.getfield 13, 3) := by decide +kernel
theorem dX11_kinds_40 : decode cX11_kinds 40 = .ok (.iload_n 2, 1) := by decide +kernel
theorem dX11_kinds_41 : decode cX11_kinds 41 = .ok (.iaload, 1) := by decide +kernel
theorem dX11_kinds_42 : decode cX11_kinds 42 = .ok (.istore 6, 2) := by decide +kernel
theorem dX11_kinds_44 : decode cX11_kinds 44 = .ok (.iconst 0, 1) := by decide +kernel
theorem dX11_kinds_45 : decode cX11_kinds 45 = .ok (.istore 7, 2) := by decide +kernel
theorem dX11_kinds_47 : decode cX11_kinds 47 = .ok (.iconst 0, 1) := by decide +kernel
theorem dX11_kinds_48 : decode cX11_kinds 48 = .ok (.istore 8, 2) := by decide +kernel
theorem dX11_kinds_50 : decode cX11_kinds 50 = .ok (.iload 8, 2) := by decide +kernel
theorem dX11_kinds_52 : decode cX11_kinds 52 = .ok (.iload_n 3, 1) := by decide +kernel
theorem dX11_kinds_53 : decode cX11_kinds 53 = .ok (.ifCond .ne 8, 3) := by decide +kernel
theorem dX11_kinds_56 : decode cX11_kinds 56 = .ok (.bipush 6, 2) := by decide +kernel
theorem dX11_kinds_58 : decode cX11_kinds 58 = .ok (.goto 5, 3) := by decide +kernel
theorem dX11_kinds_61 : decode cX11_kinds 61 = .ok (.bipush 10, 2) := by decide +kernel
theorem dX11_kinds_63 : decode cX11_kinds 63 = .ok (.if_icmp .ge 67, 3) := by decide +kernel
theorem dX11_kinds_66 : decode cX11_kinds 66 = .ok (.aload_n 0, 1) := by decide +kernel
theorem dX11_kinds_67 : decode cX11_kinds 67 = .ok (.getfield 7, 3) := by decide +kernel
theorem dX11_kinds_70 : decode cX11_kinds 70 = .ok (.iload_n 2, 1) := by decide +kernel
theorem dX11_kinds_71 : decode cX11_kinds 71 = .ok (.iload_n 3, 1) := by decide +kernel
theorem dX11_kinds_72 : decode cX11_kinds 72 = .ok (.ifCond .ne 8, 3) := by decide +kernel
theorem dX11_kinds_75 : decode cX11_kinds 75 = .ok (.iload 8, 2) := by decide +kernel
theorem dX11_kinds_77 : decode cX11_kinds 77 = .ok (.goto 5, 3) := by decide +kernel
theorem dX11_kinds_80 : decode cX11_kinds 80 = .ok (.iload 5, 2) := by decide +kernel
theorem dX11_kinds_82 : decode cX11_kinds 82 = .ok (.iastore, 1) := by decide +kernel
theorem dX11_kinds_83 : decode cX11_kinds 83 = .ok (.aload_n 0, 1) := by decide +kernel
theorem dX11_kinds_84 : decode cX11_kinds 84 = .ok (.getfield 13, 3) := by decide +kernel
theorem dX11_kinds_87 : decode cX11_kinds 87 = .ok (.iload_n 2, 1) := by decide +kernel
theorem dX11_kinds_88 : decode cX11_kinds 88 = .ok (.iload_n 3, 1) := by decide +kernel
theorem dX11_kinds_89 : decode cX11_kinds 89 = .ok (.iconst 1, 1) := by decide +kernel
theorem dX11_kinds_90 : decode cX11_kinds 90 = .ok (.if_icmp .ne 8, 3) := by decide +kernel
theorem dX11_kinds_93 : decode cX11_kinds 93 = .ok (.iload 8, 2) := by decide +kernel
theorem dX11_kinds_95 : decode cX11_kinds 95 = .ok (.goto 5, 3) := by decide +kernel
theorem dX11_kinds_98 : decode cX11_kinds 98 = .ok (.iload 6, 2) := by decide +kernel
theorem dX11_kinds_100 : decode cX11_kinds 100 = .ok (.iastore, 1) := by decide +kernel
theorem dX11_kinds_101 : decode cX11_kinds 101 = .ok (.iload 7, 2) := by decide +kernel
theorem dX11_kinds_103 : decode cX11_kinds 103 = .ok (.aload_n 0, 1) := by decide +kernel
theorem dX11_kinds_104 : decode cX11_kinds 104 = .ok (.iload_n 1, 1) := by decide +kernel
theorem dX11_kinds_105 : decode cX11_kinds 105 = .ok (.iload_n 2, 1) := by decide +kernel
theorem dX11_kinds_106 : decode cX11_kinds 106 = .ok (.invokevirtual 268, 3) := by decide +kernel
theorem dX11_kinds_109 : decode cX11_kinds 109 = .ok (.iconst (-1), 1) := by decide +kernel
theorem dX11_kinds_110 : decode cX11_kinds 110 = .ok (.if_icmp .ne 10, 3) := by decide +kernel
theorem dX11_kinds_113 : decode cX11_kinds 113 = .ok (.iconst 1, 1) := by decide +kernel
theorem dX11_kinds_114 : decode cX11_kinds 114 = .ok (.iload 8, 2) := by decide +kernel
theorem dX11_kinds_116 : decode cX11_kinds 116 = .ok (.ishl, 1) := by decide +kernel
theorem dX11_kinds_117 : decode cX11_kinds 117 = .ok (.goto 4, 3) := by decide +kernel
theorem dX11_kinds_120 : decode cX11_kinds 120 = .ok (.iconst 0, 1) := by decide +kernel
theorem dX11_kinds_121 : decode cX11_kinds 121 = .ok (.ior, 1) := by decide +kernel
theorem dX11_kinds_122 : decode cX11_kinds 122 = .ok (.istore 7, 2) := by decide +kernel
theorem dX11_kinds_124 : decode cX11_kinds 124 = .ok (.iinc 8 1, 3) := by decide +kernel
theorem dX11_kinds_127 : decode cX11_kinds 127 = .ok (.goto (-77), 3) := by decide +kernel
theorem dX11_kinds_130 : decode cX11_kinds 130 = .ok (.aload_n 0, 1) := by decide +kernel
theorem dX11_kinds_131 : decode cX11_kinds 131 = .ok (.getfield 7, 3) := by decide +kernel
theorem dX11_kinds_134 : decode cX11_kinds 134 = .ok (.iload_n 2, 1) := by decide +kernel
theorem dX11_kinds_135 : decode cX11_kinds 135 = .ok (.iload 5, 2) := by decide +kernel
theorem dX11_kinds_137 : decode cX11_kinds 137 = .ok (.iastore, 1) := by decide +kernel
theorem dX11_kinds_138 : decode cX11_kinds 138 = .ok (.aload_n 0, 1) := by decide +kernel
theorem dX11_kinds_139 : decode cX11_kinds 139 = .ok (.getfield 13, 3) := by decide +kernel
theorem dX11_kinds_142 : decode cX11_kinds 142 = .ok (.iload_n 2, 1) := by decide +kernel
theorem dX11_kinds_143 : decode cX11_kinds 143 = .ok (.iload 6, 2) := by decide +kernel
theorem dX11_kinds_145 : decode cX11_kinds 145 = .ok (.iastore, 1) := by decide +kernel
theorem dX11_kinds_146 : decode cX11_kinds 146 = .ok (.iload 7, 2) := by decide +kernel
theorem dX11_kinds_148 : decode cX11_kinds 148 = .ok (.ireturn, 1) := by decide +kernel
def J_X11_kinds_121 (c50 : Nat → Int32 → Int32 → Int32 → Int32 → Int32 → Int32 → Int32 → e_G → Option (Int32 × e_G)) (S : e_S) (l0 : Nat) (l1 : Int32) (l2 : Int32) (l3 : Int32) (l5 : Int32) (l6 : Int32) (l8 : Int32) (t0 : Int32) (t1 : Int32) (g : e_G) : Option (Int32 × e_G) :=
  c50 l0 l1 l2 l3 l5 l6 (t0 ||| t1) (l8 + (1 : Int32)) g
def J_X11_kinds_100 (c50 : Nat → Int32 → Int32 → Int32 → Int32 → Int32 → Int32 → Int32 → e_G → Option (Int32 × e_G)) (S : e_S) (l0 : Nat) (l1 : Int32) (l2 : Int32) (l3 : Int32) (l5 : Int32) (l6 : Int32) (l7 : Int32) (l8 : Int32) (t0 : Nat) (t1 : Int32) (t2 : Int32) (g : e_G) : Option (Int32 × e_G) :=
  (e_aS S g 0 t0 t1 t2).bind fun g1 =>
  (f_X11_unlike S l0 l1 l2 g1).bind fun q4 =>
  if q4.1 = (-1 : Int32) then
    J_X11_kinds_121 c50 S l0 l1 l2 l3 l5 l6 l8 l7 ((1 : Int32) <<< (l8 &&& 31)) q4.2
  else
    J_X11_kinds_121 c50 S l0 l1 l2 l3 l5 l6 l8 l7 (0 : Int32) q4.2
def J_X11_kinds_82 (c50 : Nat → Int32 → Int32 → Int32 → Int32 → Int32 → Int32 → Int32 → e_G → Option (Int32 × e_G)) (S : e_S) (l0 : Nat) (l1 : Int32) (l2 : Int32) (l3 : Int32) (l5 : Int32) (l6 : Int32) (l7 : Int32) (l8 : Int32) (t0 : Nat) (t1 : Int32) (t2 : Int32) (g : e_G) : Option (Int32 × e_G) :=
  (e_aS S g 0 t0 t1 t2).bind fun g1 =>
  (e_gR S g1 11 l0 2).bind fun v3 =>
  if l3 = (1 : Int32) then
    J_X11_kinds_100 c50 S l0 l1 l2 l3 l5 l6 l7 l8 v3 l2 l8 g1
  else
    J_X11_kinds_100 c50 S l0 l1 l2 l3 l5 l6 l7 l8 v3 l2 l6 g1
def J_X11_kinds_63 (c50 : Nat → Int32 → Int32 → Int32 → Int32 → Int32 → Int32 → Int32 → e_G → Option (Int32 × e_G)) (S : e_S) (l0 : Nat) (l1 : Int32) (l2 : Int32) (l3 : Int32) (l5 : Int32) (l6 : Int32) (l7 : Int32) (l8 : Int32) (t0 : Int32) (t1 : Int32) (g : e_G) : Option (Int32 × e_G) :=
  if t1 ≤ t0 then
    (e_gR S g 11 l0 1).bind fun v1 =>
    (e_aS S g 0 v1 l2 l5).bind fun g3 =>
    (e_gR S g3 11 l0 2).bind fun v5 =>
    (e_aS S g3 0 v5 l2 l6).bind fun g7 =>
    some (l7, g7)
  else
    (e_gR S g 11 l0 1).bind fun v9 =>
    if l3 = 0 then
      J_X11_kinds_82 c50 S l0 l1 l2 l3 l5 l6 l7 l8 v9 l2 l8 g
    else
      J_X11_kinds_82 c50 S l0 l1 l2 l3 l5 l6 l7 l8 v9 l2 l5 g
def L_X11_kinds_50 : Nat → e_S → Nat → Int32 → Int32 → Int32 → Int32 → Int32 → Int32 → Int32 → e_G → Option (Int32 × e_G)
  | 0, _, _, _, _, _, _, _, _, _, _ => none
  | n + 1, S, l0, l1, l2, l3, l5, l6, l7, l8, g =>
  if l3 = 0 then
    J_X11_kinds_63 (L_X11_kinds_50 n S) S l0 l1 l2 l3 l5 l6 l7 l8 l8 (6 : Int32) g
  else
    J_X11_kinds_63 (L_X11_kinds_50 n S) S l0 l1 l2 l3 l5 l6 l7 l8 l8 (10 : Int32) g
def f_X11_kinds (S : e_S) (l0 : Nat) (l1 : Int32) (l2 : Int32) (l3 : Int32) (g : e_G) : Option (Int32 × e_G) :=
  if e_ob S 11 l0 = true then
    (f_X11_toldWrong S l0 l1 l2 g).bind fun q2 =>
    if q2.1 = 0 then
      (f_X11_in S l3 (0 : Int32) (1 : Int32) q2.2).bind fun q4 =>
      if q4.1 = 0 then
        some ((-7 : Int32), q4.2)
      else
        (e_gR S q4.2 11 l0 1).bind fun v5 =>
        (e_aI S q4.2 0 v5 l2).bind fun v7 =>
        (e_gR S q4.2 11 l0 2).bind fun v9 =>
        (e_aI S q4.2 0 v9 l2).bind fun v11 =>
        L_X11_kinds_50 50000 S l0 l1 l2 l3 v7 v11 (0 : Int32) (0 : Int32) q4.2
    else
      some (q2.1, q2.2)
  else none
theorem x_J_X11_kinds_121 {l : Launch} {D : va_G} {S : e_S} {w : Int32} {k : e_G} (c50 : Nat → Int32 → Int32 → Int32 → Int32 → Int32 → Int32 → Int32 → e_G → Option (Int32 × e_G)) (hc50 : ∀ (l0 : Nat) (l1 : Int32) (l2 : Int32) (l3 : Int32) (l5 : Int32) (l6 : Int32) (l7 : Int32) (l8 : Int32) (g : e_G), c50 l0 l1 l2 l3 l5 l6 l7 l8 g = some (w, k) → X l D (e_R 7) M_X11_kinds 0 0 50 [(0, .ref l0), (1, .int l1), (2, .int l2), (3, .int l3), (5, .int l5), (6, .int l6), (7, .int l7), (8, .int l8)] [] (S, g) (some (.int w)) (S, k)) {l0 : Nat} {l1 : Int32} {l2 : Int32} {l3 : Int32} {l5 : Int32} {l6 : Int32} {l8 : Int32} {t0 : Int32} {t1 : Int32} {g : e_G} (hf : J_X11_kinds_121 c50 S l0 l1 l2 l3 l5 l6 l8 t0 t1 g = some (w, k)) : X l D (e_R 7) M_X11_kinds 0 0 121 [(0, .ref l0), (1, .int l1), (2, .int l2), (3, .int l3), (5, .int l5), (6, .int l6), (8, .int l8)] [.int t1, .int t0] (S, g) (some (.int w)) (S, k) := by
  unfold J_X11_kinds_121 at hf
  refine X.ior dX11_kinds_121 ?_
  refine X.istore dX11_kinds_122 (Nat.le_of_ble_eq_true rfl) (lc' := [(7, .int (t0 ||| t1)), (0, .ref l0), (1, .int l1), (2, .int l2), (3, .int l3), (5, .int l5), (6, .int l6), (8, .int l8)]) rfl ?_
  refine X.iinc (j := 7) dX11_kinds_124 rfl (v := l8 + (1 : Int32)) (by rw [kI_1]) (Nat.le_of_ble_eq_true rfl) (lc' := [(8, .int (l8 + (1 : Int32))), (7, .int (t0 ||| t1)), (0, .ref l0), (1, .int l1), (2, .int l2), (3, .int l3), (5, .int l5), (6, .int l6)]) rfl ?_
  refine X.goto dX11_kinds_127 (tgt := 50) rfl ?_
  refine X.sub [2, 3, 4, 5, 6, 7, 1, 0] rfl ?_
  exact hc50 _ _ _ _ _ _ _ _ _ hf
theorem x_J_X11_kinds_100 {l : Launch} {D : va_G} {S : e_S} {w : Int32} {k : e_G} (c50 : Nat → Int32 → Int32 → Int32 → Int32 → Int32 → Int32 → Int32 → e_G → Option (Int32 × e_G)) (hc50 : ∀ (l0 : Nat) (l1 : Int32) (l2 : Int32) (l3 : Int32) (l5 : Int32) (l6 : Int32) (l7 : Int32) (l8 : Int32) (g : e_G), c50 l0 l1 l2 l3 l5 l6 l7 l8 g = some (w, k) → X l D (e_R 7) M_X11_kinds 0 0 50 [(0, .ref l0), (1, .int l1), (2, .int l2), (3, .int l3), (5, .int l5), (6, .int l6), (7, .int l7), (8, .int l8)] [] (S, g) (some (.int w)) (S, k)) {l0 : Nat} {l1 : Int32} {l2 : Int32} {l3 : Int32} {l5 : Int32} {l6 : Int32} {l7 : Int32} {l8 : Int32} {t0 : Nat} {t1 : Int32} {t2 : Int32} {g : e_G} (hf : J_X11_kinds_100 c50 S l0 l1 l2 l3 l5 l6 l7 l8 t0 t1 t2 g = some (w, k)) : X l D (e_R 7) M_X11_kinds 0 0 100 [(0, .ref l0), (1, .int l1), (2, .int l2), (3, .int l3), (5, .int l5), (6, .int l6), (7, .int l7), (8, .int l8)] [.int t2, .int t1, .ref t0] (S, g) (some (.int w)) (S, k) := by
  unfold J_X11_kinds_100 at hf
  obtain ⟨g1, h2, hf⟩ := ob hf
  refine Y.iast dX11_kinds_100 h2 ?_
  refine X.iload dX11_kinds_101 (j := 6) rfl ?_
  refine X.aload_n dX11_kinds_103 rfl (j := 0) rfl ?_
  refine X.iload_n dX11_kinds_104 rfl (j := 1) rfl ?_
  refine X.iload_n dX11_kinds_105 rfl (j := 2) rfl ?_
  obtain ⟨q4, h3, hf⟩ := ob hf
  refine Y.callV (av := [.int l1, .int l2]) (ci := 11) dX11_kinds_106 (c_X11_unlike (l := l) (D := D) (w := q4.1) (k := q4.2) h3) cw_X11_268 (by decide) rfl mk_X11_unlike (o_X11_unlike (w := q4.1) (k := q4.2) h3) (e_R_ok (Nat.le_of_ble_eq_true rfl) (Nat.le_of_ble_eq_true rfl)) ⟨rfl, rfl⟩ (by simp [Value.category]) ?_
  refine X.iconst dX11_kinds_109 kI_m1 ?_
  refine X.icmp_ne dX11_kinds_110 (tgt := 120) rfl (fun hc => ?_) (fun hc => ?_)
  · rw [if_neg hc] at hf
    refine X.iconst dX11_kinds_120 kI_0 ?_
    refine X.sub [0, 1, 2, 3, 4, 5, 7] rfl ?_
    exact x_J_X11_kinds_121 _ hc50 hf
  · rw [if_pos hc] at hf
    refine X.iconst dX11_kinds_113 kI_1 ?_
    refine X.iload dX11_kinds_114 (j := 7) rfl ?_
    refine X.ishl dX11_kinds_116 ?_
    refine X.goto dX11_kinds_117 (tgt := 121) rfl ?_
    refine X.sub [0, 1, 2, 3, 4, 5, 7] rfl ?_
    exact x_J_X11_kinds_121 _ hc50 hf
theorem x_J_X11_kinds_82 {l : Launch} {D : va_G} {S : e_S} {w : Int32} {k : e_G} (c50 : Nat → Int32 → Int32 → Int32 → Int32 → Int32 → Int32 → Int32 → e_G → Option (Int32 × e_G)) (hc50 : ∀ (l0 : Nat) (l1 : Int32) (l2 : Int32) (l3 : Int32) (l5 : Int32) (l6 : Int32) (l7 : Int32) (l8 : Int32) (g : e_G), c50 l0 l1 l2 l3 l5 l6 l7 l8 g = some (w, k) → X l D (e_R 7) M_X11_kinds 0 0 50 [(0, .ref l0), (1, .int l1), (2, .int l2), (3, .int l3), (5, .int l5), (6, .int l6), (7, .int l7), (8, .int l8)] [] (S, g) (some (.int w)) (S, k)) {l0 : Nat} {l1 : Int32} {l2 : Int32} {l3 : Int32} {l5 : Int32} {l6 : Int32} {l7 : Int32} {l8 : Int32} {t0 : Nat} {t1 : Int32} {t2 : Int32} {g : e_G} (hf : J_X11_kinds_82 c50 S l0 l1 l2 l3 l5 l6 l7 l8 t0 t1 t2 g = some (w, k)) : X l D (e_R 7) M_X11_kinds 0 0 82 [(0, .ref l0), (1, .int l1), (2, .int l2), (3, .int l3), (5, .int l5), (6, .int l6), (7, .int l7), (8, .int l8)] [.int t2, .int t1, .ref t0] (S, g) (some (.int w)) (S, k) := by
  unfold J_X11_kinds_82 at hf
  obtain ⟨g1, h2, hf⟩ := ob hf
  refine Y.iast dX11_kinds_82 h2 ?_
  refine X.aload_n dX11_kinds_83 rfl (j := 0) rfl ?_
  obtain ⟨v3, h4, hf⟩ := ob hf
  refine Y.getR dX11_kinds_84 fl_X11_13 rfl h4 ?_
  refine X.iload_n dX11_kinds_87 rfl (j := 2) rfl ?_
  refine X.iload_n dX11_kinds_88 rfl (j := 3) rfl ?_
  refine X.iconst dX11_kinds_89 kI_1 ?_
  refine X.icmp_ne dX11_kinds_90 (tgt := 98) rfl (fun hc => ?_) (fun hc => ?_)
  · rw [if_neg hc] at hf
    refine X.iload dX11_kinds_98 (j := 5) rfl ?_
    exact x_J_X11_kinds_100 _ hc50 hf
  · rw [if_pos hc] at hf
    refine X.iload dX11_kinds_93 (j := 7) rfl ?_
    refine X.goto dX11_kinds_95 (tgt := 100) rfl ?_
    exact x_J_X11_kinds_100 _ hc50 hf
theorem x_J_X11_kinds_63 {l : Launch} {D : va_G} {S : e_S} {w : Int32} {k : e_G} (c50 : Nat → Int32 → Int32 → Int32 → Int32 → Int32 → Int32 → Int32 → e_G → Option (Int32 × e_G)) (hc50 : ∀ (l0 : Nat) (l1 : Int32) (l2 : Int32) (l3 : Int32) (l5 : Int32) (l6 : Int32) (l7 : Int32) (l8 : Int32) (g : e_G), c50 l0 l1 l2 l3 l5 l6 l7 l8 g = some (w, k) → X l D (e_R 7) M_X11_kinds 0 0 50 [(0, .ref l0), (1, .int l1), (2, .int l2), (3, .int l3), (5, .int l5), (6, .int l6), (7, .int l7), (8, .int l8)] [] (S, g) (some (.int w)) (S, k)) {l0 : Nat} {l1 : Int32} {l2 : Int32} {l3 : Int32} {l5 : Int32} {l6 : Int32} {l7 : Int32} {l8 : Int32} {t0 : Int32} {t1 : Int32} {g : e_G} (hf : J_X11_kinds_63 c50 S l0 l1 l2 l3 l5 l6 l7 l8 t0 t1 g = some (w, k)) : X l D (e_R 7) M_X11_kinds 0 0 63 [(0, .ref l0), (1, .int l1), (2, .int l2), (3, .int l3), (5, .int l5), (6, .int l6), (7, .int l7), (8, .int l8)] [.int t1, .int t0] (S, g) (some (.int w)) (S, k) := by
  unfold J_X11_kinds_63 at hf
  refine X.icmp_ge dX11_kinds_63 (tgt := 130) rfl (fun hc => ?_) (fun hc => ?_)
  · rw [if_pos hc] at hf
    refine X.aload_n dX11_kinds_130 rfl (j := 0) rfl ?_
    obtain ⟨v1, h2, hf⟩ := ob hf
    refine Y.getR dX11_kinds_131 fl_X11_7 rfl h2 ?_
    refine X.iload_n dX11_kinds_134 rfl (j := 2) rfl ?_
    refine X.iload dX11_kinds_135 (j := 4) rfl ?_
    obtain ⟨g3, h4, hf⟩ := ob hf
    refine Y.iast dX11_kinds_137 h4 ?_
    refine X.aload_n dX11_kinds_138 rfl (j := 0) rfl ?_
    obtain ⟨v5, h6, hf⟩ := ob hf
    refine Y.getR dX11_kinds_139 fl_X11_13 rfl h6 ?_
    refine X.iload_n dX11_kinds_142 rfl (j := 2) rfl ?_
    refine X.iload dX11_kinds_143 (j := 5) rfl ?_
    obtain ⟨g7, h8, hf⟩ := ob hf
    refine Y.iast dX11_kinds_145 h8 ?_
    refine X.iload dX11_kinds_146 (j := 6) rfl ?_
    obtain ⟨e1, e2⟩ := e_ret hf
    subst e1
    subst e2
    exact X.iret dX11_kinds_148 rfl rfl
  · rw [if_neg hc] at hf
    refine X.aload_n dX11_kinds_66 rfl (j := 0) rfl ?_
    obtain ⟨v9, h10, hf⟩ := ob hf
    refine Y.getR dX11_kinds_67 fl_X11_7 rfl h10 ?_
    refine X.iload_n dX11_kinds_70 rfl (j := 2) rfl ?_
    refine X.iload_n dX11_kinds_71 rfl (j := 3) rfl ?_
    refine X.if_ne dX11_kinds_72 (tgt := 80) rfl (fun hc => ?_) (fun hc => ?_)
    · rw [if_neg hc] at hf
      refine X.iload dX11_kinds_80 (j := 4) rfl ?_
      exact x_J_X11_kinds_82 _ hc50 hf
    · rw [if_pos hc] at hf
      refine X.iload dX11_kinds_75 (j := 7) rfl ?_
      refine X.goto dX11_kinds_77 (tgt := 82) rfl ?_
      exact x_J_X11_kinds_82 _ hc50 hf
theorem x_L_X11_kinds_50 {l : Launch} {D : va_G} {S : e_S} {w : Int32} {k : e_G} : ∀ (n : Nat) (l0 : Nat) (l1 : Int32) (l2 : Int32) (l3 : Int32) (l5 : Int32) (l6 : Int32) (l7 : Int32) (l8 : Int32) (g : e_G), L_X11_kinds_50 n S l0 l1 l2 l3 l5 l6 l7 l8 g = some (w, k) → X l D (e_R 7) M_X11_kinds 0 0 50 [(0, .ref l0), (1, .int l1), (2, .int l2), (3, .int l3), (5, .int l5), (6, .int l6), (7, .int l7), (8, .int l8)] [] (S, g) (some (.int w)) (S, k) := by
  intro n
  induction n with
  | zero =>
    intro l0 l1 l2 l3 l5 l6 l7 l8 g hf
    cases hf
  | succ n ih =>
    intro l0 l1 l2 l3 l5 l6 l7 l8 g hf
    rw [L_X11_kinds_50] at hf
    refine X.iload dX11_kinds_50 (j := 7) rfl ?_
    refine X.iload_n dX11_kinds_52 rfl (j := 3) rfl ?_
    refine X.if_ne dX11_kinds_53 (tgt := 61) rfl (fun hc => ?_) (fun hc => ?_)
    · rw [if_neg hc] at hf
      refine X.bipush dX11_kinds_61 kB_10 ?_
      exact x_J_X11_kinds_63 _ ih hf
    · rw [if_pos hc] at hf
      refine X.bipush dX11_kinds_56 kB_6 ?_
      refine X.goto dX11_kinds_58 (tgt := 63) rfl ?_
      exact x_J_X11_kinds_63 _ ih hf
theorem o_X11_kinds  {S : e_S} {w : Int32} {k : e_G} {l0 : Nat} {l1 : Int32} {l2 : Int32} {l3 : Int32} {g : e_G} (hf : f_X11_kinds S l0 l1 l2 l3 g = some (w, k)) : e_ob S 11 l0 = true := by
  unfold f_X11_kinds at hf
  by_cases hc : e_ob S 11 l0 = true
  · exact hc
  · rw [if_neg hc] at hf
    cases hf
theorem c_X11_kinds {l : Launch} {D : va_G}  {S : e_S} {w : Int32} {k : e_G} {l0 : Nat} {l1 : Int32} {l2 : Int32} {l3 : Int32} {g : e_G} (hf : f_X11_kinds S l0 l1 l2 l3 g = some (w, k)) : CT l D (e_R 7) M_X11_kinds [.ref l0, .int l1, .int l2, .int l3] (S, g) (some (.int w)) (S, k) := by
  refine CT.of (by decide +kernel) (Nat.le_of_ble_eq_true rfl) ?_
  have ho := o_X11_kinds hf
  unfold f_X11_kinds at hf
  rw [if_pos ho] at hf
  show X l D (e_R 7) M_X11_kinds 0 0 0 [(0, .ref l0), (1, .int l1), (2, .int l2), (3, .int l3)] [] (S, g) (some (.int w)) (S, k)
  refine X.aload_n dX11_kinds_0 rfl (j := 0) rfl ?_
  refine X.iload_n dX11_kinds_1 rfl (j := 1) rfl ?_
  refine X.iload_n dX11_kinds_2 rfl (j := 2) rfl ?_
  obtain ⟨q2, h1, hf⟩ := ob hf
  refine Y.callV (av := [.int l1, .int l2]) (ci := 11) dX11_kinds_3 (c_X11_toldWrong (l := l) (D := D) (w := q2.1) (k := q2.2) h1) cw_X11_265 (by decide) rfl mk_X11_toldWrong (o_X11_toldWrong (w := q2.1) (k := q2.2) h1) (e_R_ok (Nat.le_of_ble_eq_true rfl) (Nat.le_of_ble_eq_true rfl)) ⟨rfl, rfl⟩ (by simp [Value.category]) ?_
  refine X.istore dX11_kinds_6 (Nat.le_of_ble_eq_true rfl) (lc' := [(4, .int q2.1), (0, .ref l0), (1, .int l1), (2, .int l2), (3, .int l3)]) rfl ?_
  refine X.iload dX11_kinds_8 (j := 0) rfl ?_
  refine X.if_eq dX11_kinds_10 (tgt := 16) rfl (fun hc => ?_) (fun hc => ?_)
  · rw [if_pos hc] at hf
    refine X.iload_n dX11_kinds_16 rfl (j := 4) rfl ?_
    refine X.iconst dX11_kinds_17 kI_0 ?_
    refine X.iconst dX11_kinds_18 kI_1 ?_
    obtain ⟨q4, h3, hf⟩ := ob hf
    refine Y.callS (av := [.int l3, .int (0 : Int32), .int (1 : Int32)]) dX11_kinds_19 (c_X11_in (l := l) (D := D) (w := q4.1) (k := q4.2) h3) cw_X11_78 mk_X11_in (e_R_ok (Nat.le_of_ble_eq_true rfl) (Nat.le_of_ble_eq_true rfl)) ⟨rfl, rfl⟩ (by simp [Value.category]) ?_
    refine X.if_ne dX11_kinds_22 (tgt := 28) rfl (fun hc => ?_) (fun hc => ?_)
    · rw [if_neg hc] at hf
      refine X.aload_n dX11_kinds_28 rfl (j := 1) rfl ?_
      obtain ⟨v5, h6, hf⟩ := ob hf
      refine Y.getR dX11_kinds_29 fl_X11_7 rfl h6 ?_
      refine X.iload_n dX11_kinds_32 rfl (j := 3) rfl ?_
      obtain ⟨v7, h8, hf⟩ := ob hf
      refine Y.iald dX11_kinds_33 h8 ?_
      refine X.istore dX11_kinds_34 (Nat.le_of_ble_eq_true rfl) (lc' := [(5, .int v7), (4, .int q2.1), (0, .ref l0), (1, .int l1), (2, .int l2), (3, .int l3)]) rfl ?_
      refine X.aload_n dX11_kinds_36 rfl (j := 2) rfl ?_
      obtain ⟨v9, h10, hf⟩ := ob hf
      refine Y.getR dX11_kinds_37 fl_X11_13 rfl h10 ?_
      refine X.iload_n dX11_kinds_40 rfl (j := 4) rfl ?_
      obtain ⟨v11, h12, hf⟩ := ob hf
      refine Y.iald dX11_kinds_41 h12 ?_
      refine X.istore dX11_kinds_42 (Nat.le_of_ble_eq_true rfl) (lc' := [(6, .int v11), (5, .int v7), (4, .int q2.1), (0, .ref l0), (1, .int l1), (2, .int l2), (3, .int l3)]) rfl ?_
      refine X.iconst dX11_kinds_44 kI_0 ?_
      refine X.istore dX11_kinds_45 (Nat.le_of_ble_eq_true rfl) (lc' := [(7, .int (0 : Int32)), (6, .int v11), (5, .int v7), (4, .int q2.1), (0, .ref l0), (1, .int l1), (2, .int l2), (3, .int l3)]) rfl ?_
      refine X.iconst dX11_kinds_47 kI_0 ?_
      refine X.istore dX11_kinds_48 (Nat.le_of_ble_eq_true rfl) (lc' := [(8, .int (0 : Int32)), (7, .int (0 : Int32)), (6, .int v11), (5, .int v7), (4, .int q2.1), (0, .ref l0), (1, .int l1), (2, .int l2), (3, .int l3)]) rfl ?_
      refine X.sub [5, 6, 7, 8, 3, 2, 1, 0] rfl ?_
      exact x_L_X11_kinds_50 50000 _ _ _ _ _ _ _ _ _ hf
    · rw [if_pos hc] at hf
      refine X.bipush dX11_kinds_25 kB_m7 ?_
      obtain ⟨e1, e2⟩ := e_ret hf
      subst e1
      subst e2
      exact X.iret dX11_kinds_27 rfl rfl
  · rw [if_neg hc] at hf
    refine X.iload dX11_kinds_13 (j := 0) rfl ?_
    obtain ⟨e1, e2⟩ := e_ret hf
    subst e1
    subst e2
    exact X.iret dX11_kinds_15 rfl rfl
/-! LeanedOutModel.windows(III)I -/
abbrev M_X11_windows : e_M := (yX11_windows, cX11_windows, 9, (some .int))
theorem mk_X11_windows : e_Mok M_X11_windows 3 := ⟨by decide +kernel, by decide +kernel, by decide +kernel⟩
theorem dX11_windows_0 : decode cX11_windows 0 = .ok (.aload_n 0, 1) := by decide +kernel
theorem dX11_windows_1 : decode cX11_windows 1 = .ok (.iload_n 1, 1) := by decide +kernel
theorem dX11_windows_2 : decode cX11_windows 2 = .ok (.iload_n 2, 1) := by decide +kernel
theorem dX11_windows_3 : decode cX11_windows 3 = .ok (.invokevirtual 265, 3) := by decide +kernel
theorem dX11_windows_6 : decode cX11_windows 6 = .ok (.istore 4, 2) := by decide +kernel
theorem dX11_windows_8 : decode cX11_windows 8 = .ok (.iload 4, 2) := by decide +kernel
theorem dX11_windows_10 : decode cX11_windows 10 = .ok (.ifCond .eq 6, 3) := by decide +kernel
theorem dX11_windows_13 : decode cX11_windows 13 = .ok (.iload 4, 2) := by decide +kernel
theorem dX11_windows_15 : decode cX11_windows 15 = .ok (.ireturn, 1) := by decide +kernel
theorem dX11_windows_16 : decode cX11_windows 16 = .ok (.iload_n 3, 1) := by decide +kernel
theorem dX11_windows_17 : decode cX11_windows 17 = .ok (.iconst 0, 1) := by decide +kernel
theorem dX11_windows_18 : decode cX11_windows 18 = .ok (.iconst 1, 1) := by decide +kernel
theorem dX11_windows_19 : decode cX11_windows 19 = .ok (.invokestatic 78, 3) := by decide +kernel
theorem dX11_windows_22 : decode cX11_windows 22 = .ok (.ifCond .ne 6, 3) := by decide +kernel
theorem dX11_windows_25 : decode cX11_windows 25 = .ok (.bipush (-7), 2) := by decide +kernel
theorem dX11_windows_27 : decode cX11_windows 27 = .ok (.ireturn, 1) := by decide +kernel
theorem dX11_windows_28 : decode cX11_windows 28 = .ok (.aload_n 0, 1) := by decide +kernel
theorem dX11_windows_29 : decode cX11_windows 29 = .ok (.getfield 16, 3) := by decide +kernel
theorem dX11_windows_32 : decode cX11_windows 32 = .ok (.iconst 4, 1) := by decide +kernel
theorem dX11_windows_33 : decode cX11_windows 33 = .ok (.iload_n 2, 1) := by decide +kernel
theorem dX11_windows_34 : decode cX11_windows 34 = .ok (.imul, 1) := by decide +kernel
theorem dX11_windows_35 : decode cX11_windows 35 = .ok (.iload_n 3, 1) := by decide +kernel
theorem dX11_windows_36 : decode cX11_windows 36 = .ok (.iadd, 1) := by decide +kernel
theorem dX11_windows_37 : decode cX11_windows 37 = .ok (.iaload, 1) := by decide +kernel
theorem dX11_windows_38 : decode cX11_windows 38 = .ok (.istore 5, 2) := by decide +kernel
theorem dX11_windows_40 : decode cX11_windows 40 = .ok (.iconst 0, 1) := by decide +kernel
theorem dX11_windows_41 : decode cX11_windows 41 = .ok (.istore 6, 2) := by decide +kernel
theorem dX11_windows_43 : decode cX11_windows 43 = .ok (.iconst 0, 1) := by decide +kernel
theorem dX11_windows_44 : decode cX11_windows 44 = .ok (.istore 7, 2) := by decide +kernel
theorem dX11_windows_46 : decode cX11_windows 46 = .ok (.iload 7, 2) := by decide +kernel
theorem dX11_windows_48 : decode cX11_windows 48 = .ok (.bipush 20, 2) := by decide +kernel
theorem dX11_windows_50 : decode cX11_windows 50 = .ok (.if_icmp .ge 90, 3) := by decide +kernel
theorem dX11_windows_53 : decode cX11_windows 53 = .ok (.iload_n 3, 1) := by decide +kernel
theorem dX11_windows_54 : decode cX11_windows 54 = .ok (.ifCond .ne 13, 3) := by decide +kernel
theorem dX11_windows_57 : decode cX11_windows 57 = .ok (.aload_n 0, 1) := by decide +kernel
theorem dX11_windows_58 : decode cX11_windows 58 = .ok (.iload_n 2, 1) := by decide +kernel
theorem dX11_windows_59 : decode cX11_windows 59 = .ok (.iload 7, 2) := by decide +kernel
theorem dX11_windows_61 : decode cX11_windows 61 = .ok (.invokevirtual 189, 3) := by decide +kernel
theorem dX11_windows_64 : decode cX11_windows 64 = .ok (.goto 16, 3) := by decide +kernel
theorem dX11_windows_67 : decode cX11_windows 67 = .ok (.aload_n 0, 1) := by decide +kernel
theorem dX11_windows_68 : decode cX11_windows 68 = .ok (.getfield 16, 3) := by decide +kernel
theorem dX11_windows_71 : decode cX11_windows 71 = .ok (.iconst 4, 1) := by decide +kernel
theorem dX11_windows_72 : decode cX11_windows 72 = .ok (.iload_n 2, 1) := by decide +kernel
theorem dX11_windows_73 : decode cX11_windows 73 = .ok (.imul, 1) := by decide +kernel
theorem dX11_windows_74 : decode cX11_windows 74 = .ok (.iaload, 1) := by decide +kernel
theorem dX11_windows_75 : decode cX11_windows 75 = .ok (.iload 7, 2) := by decide +kernel
theorem dX11_windows_77 : decode cX11_windows 77 = .ok (.invokestatic 185, 3) := by decide +kernel
theorem dX11_windows_80 : decode cX11_windows 80 = .ok (.istore 8, 2) := by decide +kernel
theorem dX11_windows_82 : decode cX11_windows 82 = .ok (.iload 8, 2) := by decide +kernel
theorem dX11_windows_84 : decode cX11_windows 84 = .ok (.ifCond .eq 50, 3) := by decide +kernel
theorem dX11_windows_87 : decode cX11_windows 87 = .ok (.aload_n 0, 1) := by decide +kernel
theorem dX11_windows_88 : decode cX11_windows 88 = .ok (.getfield 16, 3) := by decide +kernel
theorem dX11_windows_91 : decode cX11_windows 91 = .ok (.iconst 4, 1) := by decide +kernel
theorem dX11_windows_92 : decode cX11_windows 92 = .ok (.iload_n 2, 1) := by decide +kernel
theorem dX11_windows_93 : decode cX11_windows 93 = .ok (.imul, 1) := by decide +kernel
theorem dX11_windows_94 : decode cX11_windows 94 = .ok (.iload_n 3, 1) := by decide +kernel
theorem dX11_windows_95 : decode cX11_windows 95 = .ok (.iadd, 1) := by decide +kernel
theorem dX11_windows_96 : decode cX11_windows 96 = .ok (.iload 7, 2) := by decide +kernel
theorem dX11_windows_98 : decode cX11_windows 98 = .ok (.iastore, 1) := by decide +kernel
theorem dX11_windows_99 : decode cX11_windows 99 = .ok (.iload 6, 2) := by decide +kernel
theorem dX11_windows_101 : decode cX11_windows 101 = .ok (.aload_n 0, 1) := by decide +kernel
theorem dX11_windows_102 : decode cX11_windows 102 = .ok (.iload_n 1, 1) := by decide +kernel
theorem dX11_windows_103 : decode cX11_windows 103 = .ok (.iload_n 2, 1) := by decide +kernel
theorem dX11_windows_104 : decode cX11_windows 104 = .ok (.invokevirtual 268, 3) := by decide +kernel
theorem dX11_windows_107 : decode cX11_windows 107 = .ok (.iconst (-1), 1) := by decide +kernel
theorem dX11_windows_108 : decode cX11_windows 108 = .ok (.if_icmp .ne 10, 3) := by decide +kernel
theorem dX11_windows_111 : decode cX11_windows 111 = .ok (.iconst 1, 1) := by decide +kernel
theorem dX11_windows_112 : decode cX11_windows 112 = .ok (.iload 7, 2) := by decide +kernel
theorem dX11_windows_114 : decode cX11_windows 114 = .ok (.ishl, 1) := by decide +kernel
theorem dX11_windows_115 : decode cX11_windows 115 = .ok (.goto 4, 3) := by decide +kernel
theorem dX11_windows_118 : decode cX11_windows 118 = .ok (.iconst 0, 1) := by decide +kernel
theorem dX11_windows_119 : decode cX11_windows 119 = .ok (.ior, 1) := by decide +kernel
theorem dX11_windows_120 : decode cX11_windows 120 = .ok (.istore 6, 2) := by decide +kernel
theorem dX11_windows_122 : decode cX11_windows 122 = .ok (.aload_n 0, 1) := by decide +kernel
theorem dX11_windows_123 : decode cX11_windows 123 = .ok (.getfield 16, 3) := by decide +kernel
theorem dX11_windows_126 : decode cX11_windows 126 = .ok (.iconst 4, 1) := by decide +kernel
theorem dX11_windows_127 : decode cX11_windows 127 = .ok (.iload_n 2, 1) := by decide +kernel
theorem dX11_windows_128 : decode cX11_windows 128 = .ok (.imul, 1) := by decide +kernel
theorem dX11_windows_129 : decode cX11_windows 129 = .ok (.iload_n 3, 1) := by decide +kernel
theorem dX11_windows_130 : decode cX11_windows 130 = .ok (.iadd, 1) := by decide +kernel
theorem dX11_windows_131 : decode cX11_windows 131 = .ok (.iload 5, 2) := by decide +kernel
theorem dX11_windows_133 : decode cX11_windows 133 = .ok (.iastore, 1) := by decide +kernel
theorem dX11_windows_134 : decode cX11_windows 134 = .ok (.iinc 7 1, 3) := by decide +kernel
theorem dX11_windows_137 : decode cX11_windows 137 = .ok (.goto (-91), 3) := by decide +kernel
theorem dX11_windows_140 : decode cX11_windows 140 = .ok (.iload 6, 2) := by decide +kernel
theorem dX11_windows_142 : decode cX11_windows 142 = .ok (.ireturn, 1) := by decide +kernel
def J_X11_windows_134 (c46 : Nat → Int32 → Int32 → Int32 → Int32 → Int32 → Int32 → e_G → Option (Int32 × e_G)) (S : e_S) (l0 : Nat) (l1 : Int32) (l2 : Int32) (l3 : Int32) (l5 : Int32) (l6 : Int32) (l7 : Int32) (g : e_G) : Option (Int32 × e_G) :=
  c46 l0 l1 l2 l3 l5 l6 (l7 + (1 : Int32)) g
def J_X11_windows_119 (c46 : Nat → Int32 → Int32 → Int32 → Int32 → Int32 → Int32 → e_G → Option (Int32 × e_G)) (S : e_S) (l0 : Nat) (l1 : Int32) (l2 : Int32) (l3 : Int32) (l5 : Int32) (l7 : Int32) (t0 : Int32) (t1 : Int32) (g : e_G) : Option (Int32 × e_G) :=
  (e_gR S g 11 l0 3).bind fun v1 =>
  (e_aS S g 0 v1 (((4 : Int32) * l2) + l3) l5).bind fun g3 =>
  J_X11_windows_134 c46 S l0 l1 l2 l3 l5 (t0 ||| t1) l7 g3
def J_X11_windows_80 (c46 : Nat → Int32 → Int32 → Int32 → Int32 → Int32 → Int32 → e_G → Option (Int32 × e_G)) (S : e_S) (l0 : Nat) (l1 : Int32) (l2 : Int32) (l3 : Int32) (l5 : Int32) (l6 : Int32) (l7 : Int32) (t0 : Int32) (g : e_G) : Option (Int32 × e_G) :=
  if t0 = 0 then
    J_X11_windows_134 c46 S l0 l1 l2 l3 l5 l6 l7 g
  else
    (e_gR S g 11 l0 3).bind fun v1 =>
    (e_aS S g 0 v1 (((4 : Int32) * l2) + l3) l7).bind fun g3 =>
    (f_X11_unlike S l0 l1 l2 g3).bind fun q6 =>
    if q6.1 = (-1 : Int32) then
      J_X11_windows_119 c46 S l0 l1 l2 l3 l5 l7 l6 ((1 : Int32) <<< (l7 &&& 31)) q6.2
    else
      J_X11_windows_119 c46 S l0 l1 l2 l3 l5 l7 l6 (0 : Int32) q6.2
def L_X11_windows_46 : Nat → e_S → Nat → Int32 → Int32 → Int32 → Int32 → Int32 → Int32 → e_G → Option (Int32 × e_G)
  | 0, _, _, _, _, _, _, _, _, _ => none
  | n + 1, S, l0, l1, l2, l3, l5, l6, l7, g =>
  if (20 : Int32) ≤ l7 then
    some (l6, g)
  else
    if l3 = 0 then
      (f_X11_mayBeAt S l0 l2 l7 g).bind fun q8 =>
      J_X11_windows_80 (L_X11_windows_46 n S) S l0 l1 l2 l3 l5 l6 l7 q8.1 q8.2
    else
      (e_gR S g 11 l0 3).bind fun v1 =>
      (e_aI S g 0 v1 ((4 : Int32) * l2)).bind fun v3 =>
      (f_X11_areAcross S v3 l7 g).bind fun q6 =>
      J_X11_windows_80 (L_X11_windows_46 n S) S l0 l1 l2 l3 l5 l6 l7 q6.1 q6.2
def f_X11_windows (S : e_S) (l0 : Nat) (l1 : Int32) (l2 : Int32) (l3 : Int32) (g : e_G) : Option (Int32 × e_G) :=
  if e_ob S 11 l0 = true then
    (f_X11_toldWrong S l0 l1 l2 g).bind fun q2 =>
    if q2.1 = 0 then
      (f_X11_in S l3 (0 : Int32) (1 : Int32) q2.2).bind fun q4 =>
      if q4.1 = 0 then
        some ((-7 : Int32), q4.2)
      else
        (e_gR S q4.2 11 l0 3).bind fun v5 =>
        (e_aI S q4.2 0 v5 (((4 : Int32) * l2) + l3)).bind fun v7 =>
        L_X11_windows_46 50000 S l0 l1 l2 l3 v7 (0 : Int32) (0 : Int32) q4.2
    else
      some (q2.1, q2.2)
  else none
theorem x_J_X11_windows_134 {l : Launch} {D : va_G} {S : e_S} {w : Int32} {k : e_G} (c46 : Nat → Int32 → Int32 → Int32 → Int32 → Int32 → Int32 → e_G → Option (Int32 × e_G)) (hc46 : ∀ (l0 : Nat) (l1 : Int32) (l2 : Int32) (l3 : Int32) (l5 : Int32) (l6 : Int32) (l7 : Int32) (g : e_G), c46 l0 l1 l2 l3 l5 l6 l7 g = some (w, k) → X l D (e_R 7) M_X11_windows 0 0 46 [(0, .ref l0), (1, .int l1), (2, .int l2), (3, .int l3), (5, .int l5), (6, .int l6), (7, .int l7)] [] (S, g) (some (.int w)) (S, k)) {l0 : Nat} {l1 : Int32} {l2 : Int32} {l3 : Int32} {l5 : Int32} {l6 : Int32} {l7 : Int32} {g : e_G} (hf : J_X11_windows_134 c46 S l0 l1 l2 l3 l5 l6 l7 g = some (w, k)) : X l D (e_R 7) M_X11_windows 0 0 134 [(0, .ref l0), (1, .int l1), (2, .int l2), (3, .int l3), (5, .int l5), (6, .int l6), (7, .int l7)] [] (S, g) (some (.int w)) (S, k) := by
  unfold J_X11_windows_134 at hf
  refine X.iinc (j := 6) dX11_windows_134 rfl (v := l7 + (1 : Int32)) (by rw [kI_1]) (Nat.le_of_ble_eq_true rfl) (lc' := [(7, .int (l7 + (1 : Int32))), (0, .ref l0), (1, .int l1), (2, .int l2), (3, .int l3), (5, .int l5), (6, .int l6)]) rfl ?_
  refine X.goto dX11_windows_137 (tgt := 46) rfl ?_
  refine X.sub [1, 2, 3, 4, 5, 6, 0] rfl ?_
  exact hc46 _ _ _ _ _ _ _ _ hf
theorem x_J_X11_windows_119 {l : Launch} {D : va_G} {S : e_S} {w : Int32} {k : e_G} (c46 : Nat → Int32 → Int32 → Int32 → Int32 → Int32 → Int32 → e_G → Option (Int32 × e_G)) (hc46 : ∀ (l0 : Nat) (l1 : Int32) (l2 : Int32) (l3 : Int32) (l5 : Int32) (l6 : Int32) (l7 : Int32) (g : e_G), c46 l0 l1 l2 l3 l5 l6 l7 g = some (w, k) → X l D (e_R 7) M_X11_windows 0 0 46 [(0, .ref l0), (1, .int l1), (2, .int l2), (3, .int l3), (5, .int l5), (6, .int l6), (7, .int l7)] [] (S, g) (some (.int w)) (S, k)) {l0 : Nat} {l1 : Int32} {l2 : Int32} {l3 : Int32} {l5 : Int32} {l7 : Int32} {t0 : Int32} {t1 : Int32} {g : e_G} (hf : J_X11_windows_119 c46 S l0 l1 l2 l3 l5 l7 t0 t1 g = some (w, k)) : X l D (e_R 7) M_X11_windows 0 0 119 [(0, .ref l0), (1, .int l1), (2, .int l2), (3, .int l3), (5, .int l5), (7, .int l7)] [.int t1, .int t0] (S, g) (some (.int w)) (S, k) := by
  unfold J_X11_windows_119 at hf
  refine X.ior dX11_windows_119 ?_
  refine X.istore dX11_windows_120 (Nat.le_of_ble_eq_true rfl) (lc' := [(6, .int (t0 ||| t1)), (0, .ref l0), (1, .int l1), (2, .int l2), (3, .int l3), (5, .int l5), (7, .int l7)]) rfl ?_
  refine X.aload_n dX11_windows_122 rfl (j := 1) rfl ?_
  obtain ⟨v1, h2, hf⟩ := ob hf
  refine Y.getR dX11_windows_123 fl_X11_16 rfl h2 ?_
  refine X.iconst dX11_windows_126 kI_4 ?_
  refine X.iload_n dX11_windows_127 rfl (j := 3) rfl ?_
  refine X.imul dX11_windows_128 ?_
  refine X.iload_n dX11_windows_129 rfl (j := 4) rfl ?_
  refine X.iadd dX11_windows_130 ?_
  refine X.iload dX11_windows_131 (j := 5) rfl ?_
  obtain ⟨g3, h4, hf⟩ := ob hf
  refine Y.iast dX11_windows_133 h4 ?_
  refine X.sub [1, 2, 3, 4, 5, 0, 6] rfl ?_
  exact x_J_X11_windows_134 _ hc46 hf
theorem x_J_X11_windows_80 {l : Launch} {D : va_G} {S : e_S} {w : Int32} {k : e_G} (c46 : Nat → Int32 → Int32 → Int32 → Int32 → Int32 → Int32 → e_G → Option (Int32 × e_G)) (hc46 : ∀ (l0 : Nat) (l1 : Int32) (l2 : Int32) (l3 : Int32) (l5 : Int32) (l6 : Int32) (l7 : Int32) (g : e_G), c46 l0 l1 l2 l3 l5 l6 l7 g = some (w, k) → X l D (e_R 7) M_X11_windows 0 0 46 [(0, .ref l0), (1, .int l1), (2, .int l2), (3, .int l3), (5, .int l5), (6, .int l6), (7, .int l7)] [] (S, g) (some (.int w)) (S, k)) {l0 : Nat} {l1 : Int32} {l2 : Int32} {l3 : Int32} {l5 : Int32} {l6 : Int32} {l7 : Int32} {t0 : Int32} {g : e_G} (hf : J_X11_windows_80 c46 S l0 l1 l2 l3 l5 l6 l7 t0 g = some (w, k)) : X l D (e_R 7) M_X11_windows 0 0 80 [(0, .ref l0), (1, .int l1), (2, .int l2), (3, .int l3), (5, .int l5), (6, .int l6), (7, .int l7)] [.int t0] (S, g) (some (.int w)) (S, k) := by
  unfold J_X11_windows_80 at hf
  refine X.istore dX11_windows_80 (Nat.le_of_ble_eq_true rfl) (lc' := [(8, .int t0), (0, .ref l0), (1, .int l1), (2, .int l2), (3, .int l3), (5, .int l5), (6, .int l6), (7, .int l7)]) rfl ?_
  refine X.iload dX11_windows_82 (j := 0) rfl ?_
  refine X.if_eq dX11_windows_84 (tgt := 134) rfl (fun hc => ?_) (fun hc => ?_)
  · rw [if_pos hc] at hf
    refine X.sub [1, 2, 3, 4, 5, 6, 7] rfl ?_
    exact x_J_X11_windows_134 _ hc46 hf
  · rw [if_neg hc] at hf
    refine X.aload_n dX11_windows_87 rfl (j := 1) rfl ?_
    obtain ⟨v1, h2, hf⟩ := ob hf
    refine Y.getR dX11_windows_88 fl_X11_16 rfl h2 ?_
    refine X.iconst dX11_windows_91 kI_4 ?_
    refine X.iload_n dX11_windows_92 rfl (j := 3) rfl ?_
    refine X.imul dX11_windows_93 ?_
    refine X.iload_n dX11_windows_94 rfl (j := 4) rfl ?_
    refine X.iadd dX11_windows_95 ?_
    refine X.iload dX11_windows_96 (j := 7) rfl ?_
    obtain ⟨g3, h4, hf⟩ := ob hf
    refine Y.iast dX11_windows_98 h4 ?_
    refine X.iload dX11_windows_99 (j := 6) rfl ?_
    refine X.aload_n dX11_windows_101 rfl (j := 1) rfl ?_
    refine X.iload_n dX11_windows_102 rfl (j := 2) rfl ?_
    refine X.iload_n dX11_windows_103 rfl (j := 3) rfl ?_
    obtain ⟨q6, h5, hf⟩ := ob hf
    refine Y.callV (av := [.int l1, .int l2]) (ci := 11) dX11_windows_104 (c_X11_unlike (l := l) (D := D) (w := q6.1) (k := q6.2) h5) cw_X11_268 (by decide) rfl mk_X11_unlike (o_X11_unlike (w := q6.1) (k := q6.2) h5) (e_R_ok (Nat.le_of_ble_eq_true rfl) (Nat.le_of_ble_eq_true rfl)) ⟨rfl, rfl⟩ (by simp [Value.category]) ?_
    refine X.iconst dX11_windows_107 kI_m1 ?_
    refine X.icmp_ne dX11_windows_108 (tgt := 118) rfl (fun hc => ?_) (fun hc => ?_)
    · rw [if_neg hc] at hf
      refine X.iconst dX11_windows_118 kI_0 ?_
      refine X.sub [1, 2, 3, 4, 5, 7] rfl ?_
      exact x_J_X11_windows_119 _ hc46 hf
    · rw [if_pos hc] at hf
      refine X.iconst dX11_windows_111 kI_1 ?_
      refine X.iload dX11_windows_112 (j := 7) rfl ?_
      refine X.ishl dX11_windows_114 ?_
      refine X.goto dX11_windows_115 (tgt := 119) rfl ?_
      refine X.sub [1, 2, 3, 4, 5, 7] rfl ?_
      exact x_J_X11_windows_119 _ hc46 hf
theorem x_L_X11_windows_46 {l : Launch} {D : va_G} {S : e_S} {w : Int32} {k : e_G} : ∀ (n : Nat) (l0 : Nat) (l1 : Int32) (l2 : Int32) (l3 : Int32) (l5 : Int32) (l6 : Int32) (l7 : Int32) (g : e_G), L_X11_windows_46 n S l0 l1 l2 l3 l5 l6 l7 g = some (w, k) → X l D (e_R 7) M_X11_windows 0 0 46 [(0, .ref l0), (1, .int l1), (2, .int l2), (3, .int l3), (5, .int l5), (6, .int l6), (7, .int l7)] [] (S, g) (some (.int w)) (S, k) := by
  intro n
  induction n with
  | zero =>
    intro l0 l1 l2 l3 l5 l6 l7 g hf
    cases hf
  | succ n ih =>
    intro l0 l1 l2 l3 l5 l6 l7 g hf
    rw [L_X11_windows_46] at hf
    refine X.iload dX11_windows_46 (j := 6) rfl ?_
    refine X.bipush dX11_windows_48 kB_20 ?_
    refine X.icmp_ge dX11_windows_50 (tgt := 140) rfl (fun hc => ?_) (fun hc => ?_)
    · rw [if_pos hc] at hf
      refine X.iload dX11_windows_140 (j := 5) rfl ?_
      obtain ⟨e1, e2⟩ := e_ret hf
      subst e1
      subst e2
      exact X.iret dX11_windows_142 rfl rfl
    · rw [if_neg hc] at hf
      refine X.iload_n dX11_windows_53 rfl (j := 3) rfl ?_
      refine X.if_ne dX11_windows_54 (tgt := 67) rfl (fun hc => ?_) (fun hc => ?_)
      · rw [if_neg hc] at hf
        refine X.aload_n dX11_windows_67 rfl (j := 0) rfl ?_
        obtain ⟨v1, h2, hf⟩ := ob hf
        refine Y.getR dX11_windows_68 fl_X11_16 rfl h2 ?_
        refine X.iconst dX11_windows_71 kI_4 ?_
        refine X.iload_n dX11_windows_72 rfl (j := 2) rfl ?_
        refine X.imul dX11_windows_73 ?_
        obtain ⟨v3, h4, hf⟩ := ob hf
        refine Y.iald dX11_windows_74 h4 ?_
        refine X.iload dX11_windows_75 (j := 6) rfl ?_
        obtain ⟨q6, h5, hf⟩ := ob hf
        refine Y.callS (av := [.int v3, .int l7]) dX11_windows_77 (c_X11_areAcross (l := l) (D := D) (w := q6.1) (k := q6.2) h5) cw_X11_185 mk_X11_areAcross (e_R_ok (Nat.le_of_ble_eq_true rfl) (Nat.le_of_ble_eq_true rfl)) ⟨rfl, rfl⟩ (by simp [Value.category]) ?_
        exact x_J_X11_windows_80 _ ih hf
      · rw [if_pos hc] at hf
        refine X.aload_n dX11_windows_57 rfl (j := 0) rfl ?_
        refine X.iload_n dX11_windows_58 rfl (j := 2) rfl ?_
        refine X.iload dX11_windows_59 (j := 6) rfl ?_
        obtain ⟨q8, h7, hf⟩ := ob hf
        refine Y.callV (av := [.int l2, .int l7]) (ci := 11) dX11_windows_61 (c_X11_mayBeAt (l := l) (D := D) (w := q8.1) (k := q8.2) h7) cw_X11_189 (by decide) rfl mk_X11_mayBeAt (o_X11_mayBeAt (w := q8.1) (k := q8.2) h7) (e_R_ok (Nat.le_of_ble_eq_true rfl) (Nat.le_of_ble_eq_true rfl)) ⟨rfl, rfl⟩ (by simp [Value.category]) ?_
        refine X.goto dX11_windows_64 (tgt := 80) rfl ?_
        exact x_J_X11_windows_80 _ ih hf
theorem o_X11_windows  {S : e_S} {w : Int32} {k : e_G} {l0 : Nat} {l1 : Int32} {l2 : Int32} {l3 : Int32} {g : e_G} (hf : f_X11_windows S l0 l1 l2 l3 g = some (w, k)) : e_ob S 11 l0 = true := by
  unfold f_X11_windows at hf
  by_cases hc : e_ob S 11 l0 = true
  · exact hc
  · rw [if_neg hc] at hf
    cases hf
theorem c_X11_windows {l : Launch} {D : va_G}  {S : e_S} {w : Int32} {k : e_G} {l0 : Nat} {l1 : Int32} {l2 : Int32} {l3 : Int32} {g : e_G} (hf : f_X11_windows S l0 l1 l2 l3 g = some (w, k)) : CT l D (e_R 7) M_X11_windows [.ref l0, .int l1, .int l2, .int l3] (S, g) (some (.int w)) (S, k) := by
  refine CT.of (by decide +kernel) (Nat.le_of_ble_eq_true rfl) ?_
  have ho := o_X11_windows hf
  unfold f_X11_windows at hf
  rw [if_pos ho] at hf
  show X l D (e_R 7) M_X11_windows 0 0 0 [(0, .ref l0), (1, .int l1), (2, .int l2), (3, .int l3)] [] (S, g) (some (.int w)) (S, k)
  refine X.aload_n dX11_windows_0 rfl (j := 0) rfl ?_
  refine X.iload_n dX11_windows_1 rfl (j := 1) rfl ?_
  refine X.iload_n dX11_windows_2 rfl (j := 2) rfl ?_
  obtain ⟨q2, h1, hf⟩ := ob hf
  refine Y.callV (av := [.int l1, .int l2]) (ci := 11) dX11_windows_3 (c_X11_toldWrong (l := l) (D := D) (w := q2.1) (k := q2.2) h1) cw_X11_265 (by decide) rfl mk_X11_toldWrong (o_X11_toldWrong (w := q2.1) (k := q2.2) h1) (e_R_ok (Nat.le_of_ble_eq_true rfl) (Nat.le_of_ble_eq_true rfl)) ⟨rfl, rfl⟩ (by simp [Value.category]) ?_
  refine X.istore dX11_windows_6 (Nat.le_of_ble_eq_true rfl) (lc' := [(4, .int q2.1), (0, .ref l0), (1, .int l1), (2, .int l2), (3, .int l3)]) rfl ?_
  refine X.iload dX11_windows_8 (j := 0) rfl ?_
  refine X.if_eq dX11_windows_10 (tgt := 16) rfl (fun hc => ?_) (fun hc => ?_)
  · rw [if_pos hc] at hf
    refine X.iload_n dX11_windows_16 rfl (j := 4) rfl ?_
    refine X.iconst dX11_windows_17 kI_0 ?_
    refine X.iconst dX11_windows_18 kI_1 ?_
    obtain ⟨q4, h3, hf⟩ := ob hf
    refine Y.callS (av := [.int l3, .int (0 : Int32), .int (1 : Int32)]) dX11_windows_19 (c_X11_in (l := l) (D := D) (w := q4.1) (k := q4.2) h3) cw_X11_78 mk_X11_in (e_R_ok (Nat.le_of_ble_eq_true rfl) (Nat.le_of_ble_eq_true rfl)) ⟨rfl, rfl⟩ (by simp [Value.category]) ?_
    refine X.if_ne dX11_windows_22 (tgt := 28) rfl (fun hc => ?_) (fun hc => ?_)
    · rw [if_neg hc] at hf
      refine X.aload_n dX11_windows_28 rfl (j := 1) rfl ?_
      obtain ⟨v5, h6, hf⟩ := ob hf
      refine Y.getR dX11_windows_29 fl_X11_16 rfl h6 ?_
      refine X.iconst dX11_windows_32 kI_4 ?_
      refine X.iload_n dX11_windows_33 rfl (j := 3) rfl ?_
      refine X.imul dX11_windows_34 ?_
      refine X.iload_n dX11_windows_35 rfl (j := 4) rfl ?_
      refine X.iadd dX11_windows_36 ?_
      obtain ⟨v7, h8, hf⟩ := ob hf
      refine Y.iald dX11_windows_37 h8 ?_
      refine X.istore dX11_windows_38 (Nat.le_of_ble_eq_true rfl) (lc' := [(5, .int v7), (4, .int q2.1), (0, .ref l0), (1, .int l1), (2, .int l2), (3, .int l3)]) rfl ?_
      refine X.iconst dX11_windows_40 kI_0 ?_
      refine X.istore dX11_windows_41 (Nat.le_of_ble_eq_true rfl) (lc' := [(6, .int (0 : Int32)), (5, .int v7), (4, .int q2.1), (0, .ref l0), (1, .int l1), (2, .int l2), (3, .int l3)]) rfl ?_
      refine X.iconst dX11_windows_43 kI_0 ?_
      refine X.istore dX11_windows_44 (Nat.le_of_ble_eq_true rfl) (lc' := [(7, .int (0 : Int32)), (6, .int (0 : Int32)), (5, .int v7), (4, .int q2.1), (0, .ref l0), (1, .int l1), (2, .int l2), (3, .int l3)]) rfl ?_
      refine X.sub [4, 5, 6, 7, 2, 1, 0] rfl ?_
      exact x_L_X11_windows_46 50000 _ _ _ _ _ _ _ _ hf
    · rw [if_pos hc] at hf
      refine X.bipush dX11_windows_25 kB_m7 ?_
      obtain ⟨e1, e2⟩ := e_ret hf
      subst e1
      subst e2
      exact X.iret dX11_windows_27 rfl rfl
  · rw [if_neg hc] at hf
    refine X.iload dX11_windows_13 (j := 0) rfl ?_
    obtain ⟨e1, e2⟩ := e_ret hf
    subst e1
    subst e2
    exact X.iret dX11_windows_15 rfl rfl
/-! LeanedOutModel.leans(III)I -/
abbrev M_X11_leans : e_M := (yX11_leans, cX11_leans, 10, (some .int))
theorem mk_X11_leans : e_Mok M_X11_leans 3 := ⟨by decide +kernel, by decide +kernel, by decide +kernel⟩
theorem dX11_leans_0 : decode cX11_leans 0 = .ok (.aload_n 0, 1) := by decide +kernel
theorem dX11_leans_1 : decode cX11_leans 1 = .ok (.iload_n 1, 1) := by decide +kernel
theorem dX11_leans_2 : decode cX11_leans 2 = .ok (.iload_n 2, 1) := by decide +kernel
theorem dX11_leans_3 : decode cX11_leans 3 = .ok (.invokevirtual 265, 3) := by decide +kernel
theorem dX11_leans_6 : decode cX11_leans 6 = .ok (.istore 4, 2) := by decide +kernel
theorem dX11_leans_8 : decode cX11_leans 8 = .ok (.iload 4, 2) := by decide +kernel
theorem dX11_leans_10 : decode cX11_leans 10 = .ok (.ifCond .eq 6, 3) := by decide +kernel
theorem dX11_leans_13 : decode cX11_leans 13 = .ok (.iload 4, 2) := by decide +kernel
theorem dX11_leans_15 : decode cX11_leans 15 = .ok (.ireturn, 1) := by decide +kernel
theorem dX11_leans_16 : decode cX11_leans 16 = .ok (.iload_n 3, 1) := by decide +kernel
theorem dX11_leans_17 : decode cX11_leans 17 = .ok (.iconst 0, 1) := by decide +kernel
theorem dX11_leans_18 : decode cX11_leans 18 = .ok (.iconst 1, 1) := by decide +kernel
theorem dX11_leans_19 : decode cX11_leans 19 = .ok (.invokestatic 78, 3) := by decide +kernel
theorem dX11_leans_22 : decode cX11_leans 22 = .ok (.ifCond .ne 6, 3) := by decide +kernel
theorem dX11_leans_25 : decode cX11_leans 25 = .ok (.bipush (-7), 2) := by decide +kernel
theorem dX11_leans_27 : decode cX11_leans 27 = .ok (.ireturn, 1) := by decide +kernel
theorem dX11_leans_28 : decode cX11_leans 28 = .ok (.aload_n 0, 1) := by decide +kernel
theorem dX11_leans_29 : decode cX11_leans 29 = .ok (.getfield 16, 3) := by decide +kernel
theorem dX11_leans_32 : decode cX11_leans 32 = .ok (.iconst 4, 1) := by decide +kernel
theorem dX11_leans_33 : decode cX11_leans 33 = .ok (.iload_n 2, 1) := by decide +kernel
theorem dX11_leans_34 : decode cX11_leans 34 = .ok (.imul, 1) := by decide +kernel
theorem dX11_leans_35 : decode cX11_leans 35 = .ok (.iconst 2, 1) := by decide +kernel
theorem dX11_leans_36 : decode cX11_leans 36 = .ok (.iadd, 1) := by decide +kernel
theorem dX11_leans_37 : decode cX11_leans 37 = .ok (.iaload, 1) := by decide +kernel
theorem dX11_leans_38 : decode cX11_leans 38 = .ok (.istore 5, 2) := by decide +kernel
theorem dX11_leans_40 : decode cX11_leans 40 = .ok (.iconst 0, 1) := by decide +kernel
theorem dX11_leans_41 : decode cX11_leans 41 = .ok (.istore 6, 2) := by decide +kernel
theorem dX11_leans_43 : decode cX11_leans 43 = .ok (.iconst (-1), 1) := by decide +kernel
theorem dX11_leans_44 : decode cX11_leans 44 = .ok (.istore 7, 2) := by decide +kernel
theorem dX11_leans_46 : decode cX11_leans 46 = .ok (.iconst 0, 1) := by decide +kernel
theorem dX11_leans_47 : decode cX11_leans 47 = .ok (.istore 8, 2) := by decide +kernel
theorem dX11_leans_49 : decode cX11_leans 49 = .ok (.iload 8, 2) := by decide +kernel
theorem dX11_leans_51 : decode cX11_leans 51 = .ok (.bipush 99, 2) := by decide +kernel
theorem dX11_leans_53 : decode cX11_leans 53 = .ok (.if_icmp .gt 73, 3) := by decide +kernel
theorem dX11_leans_56 : decode cX11_leans 56 = .ok (.aload_n 0, 1) := by decide +kernel
theorem dX11_leans_57 : decode cX11_leans 57 = .ok (.getfield 16, 3) := by decide +kernel
theorem dX11_leans_60 : decode cX11_leans 60 = .ok (.iconst 4, 1) := by decide +kernel
theorem dX11_leans_61 : decode cX11_leans 61 = .ok (.iload_n 2, 1) := by decide +kernel
theorem dX11_leans_62 : decode cX11_leans 62 = .ok (.imul, 1) := by decide +kernel
theorem dX11_leans_63 : decode cX11_leans 63 = .ok (.iconst 2, 1) := by decide +kernel
theorem dX11_leans_64 : decode cX11_leans 64 = .ok (.iadd, 1) := by decide +kernel
theorem dX11_leans_65 : decode cX11_leans 65 = .ok (.iload 8, 2) := by decide +kernel
theorem dX11_leans_67 : decode cX11_leans 67 = .ok (.iastore, 1) := by decide +kernel
theorem dX11_leans_68 : decode cX11_leans 68 = .ok (.aload_n 0, 1) := by decide +kernel
theorem dX11_leans_69 : decode cX11_leans 69 = .ok (.iload_n 1, 1) := by decide +kernel
theorem dX11_leans_70 : decode cX11_leans 70 = .ok (.iload_n 2, 1) := by decide +kernel
theorem dX11_leans_71 : decode cX11_leans 71 = .ok (.invokevirtual 268, 3) := by decide +kernel
theorem dX11_leans_74 : decode cX11_leans 74 = .ok (.iconst (-1), 1) := by decide +kernel
theorem dX11_leans_75 : decode cX11_leans 75 = .ok (.if_icmp .ne 7, 3) := by decide +kernel
theorem dX11_leans_78 : decode cX11_leans 78 = .ok (.iconst 1, 1) := by decide +kernel
theorem dX11_leans_79 : decode cX11_leans 79 = .ok (.goto 4, 3) := by decide +kernel
theorem dX11_leans_82 : decode cX11_leans 82 = .ok (.iconst 0, 1) := by decide +kernel
theorem dX11_leans_83 : decode cX11_leans 83 = .ok (.istore 9, 2) := by decide +kernel
theorem dX11_leans_85 : decode cX11_leans 85 = .ok (.iload 6, 2) := by decide +kernel
theorem dX11_leans_87 : decode cX11_leans 87 = .ok (.iload 9, 2) := by decide +kernel
theorem dX11_leans_89 : decode cX11_leans 89 = .ok (.ifCond .eq 7, 3) := by decide +kernel
theorem dX11_leans_92 : decode cX11_leans 92 = .ok (.iconst 1, 1) := by decide +kernel
theorem dX11_leans_93 : decode cX11_leans 93 = .ok (.goto 4, 3) := by decide +kernel
theorem dX11_leans_96 : decode cX11_leans 96 = .ok (.iconst 0, 1) := by decide +kernel
theorem dX11_leans_97 : decode cX11_leans 97 = .ok (.iadd, 1) := by decide +kernel
theorem dX11_leans_98 : decode cX11_leans 98 = .ok (.istore 6, 2) := by decide +kernel
theorem dX11_leans_100 : decode cX11_leans 100 = .ok (.iload 9, 2) := by decide +kernel
theorem dX11_leans_102 : decode cX11_leans 102 = .ok (.ifCond .eq 14, 3) := by decide +kernel
theorem dX11_leans_105 : decode cX11_leans 105 = .ok (.iload 7, 2) := by decide +kernel
theorem dX11_leans_107 : decode cX11_leans 107 = .ok (.iconst (-1), 1) := by decide +kernel
theorem dX11_leans_108 : decode cX11_leans 108 = .ok (.if_icmp .ne 8, 3) := by decide +kernel
theorem dX11_leans_111 : decode cX11_leans 111 = .ok (.iload 8, 2) := by decide +kernel
theorem dX11_leans_113 : decode cX11_leans 113 = .ok (.goto 5, 3) := by decide +kernel
theorem dX11_leans_116 : decode cX11_leans 116 = .ok (.iload 7, 2) := by decide +kernel
theorem dX11_leans_118 : decode cX11_leans 118 = .ok (.istore 7, 2) := by decide +kernel
theorem dX11_leans_120 : decode cX11_leans 120 = .ok (.iinc 8 1, 3) := by decide +kernel
theorem dX11_leans_123 : decode cX11_leans 123 = .ok (.goto (-74), 3) := by decide +kernel
theorem dX11_leans_126 : decode cX11_leans 126 = .ok (.aload_n 0, 1) := by decide +kernel
theorem dX11_leans_127 : decode cX11_leans 127 = .ok (.getfield 16, 3) := by decide +kernel
theorem dX11_leans_130 : decode cX11_leans 130 = .ok (.iconst 4, 1) := by decide +kernel
theorem dX11_leans_131 : decode cX11_leans 131 = .ok (.iload_n 2, 1) := by decide +kernel
theorem dX11_leans_132 : decode cX11_leans 132 = .ok (.imul, 1) := by decide +kernel
theorem dX11_leans_133 : decode cX11_leans 133 = .ok (.iconst 2, 1) := by decide +kernel
theorem dX11_leans_134 : decode cX11_leans 134 = .ok (.iadd, 1) := by decide +kernel
theorem dX11_leans_135 : decode cX11_leans 135 = .ok (.iload 5, 2) := by decide +kernel
theorem dX11_leans_137 : decode cX11_leans 137 = .ok (.iastore, 1) := by decide +kernel
theorem dX11_leans_138 : decode cX11_leans 138 = .ok (.iload_n 3, 1) := by decide +kernel
theorem dX11_leans_139 : decode cX11_leans 139 = .ok (.ifCond .ne 8, 3) := by decide +kernel
theorem dX11_leans_142 : decode cX11_leans 142 = .ok (.iload 6, 2) := by decide +kernel
theorem dX11_leans_144 : decode cX11_leans 144 = .ok (.goto 5, 3) := by decide +kernel
theorem dX11_leans_147 : decode cX11_leans 147 = .ok (.iload 7, 2) := by decide +kernel
theorem dX11_leans_149 : decode cX11_leans 149 = .ok (.ireturn, 1) := by decide +kernel
def J_X11_leans_118 (c49 : Nat → Int32 → Int32 → Int32 → Int32 → Int32 → Int32 → Int32 → e_G → Option (Int32 × e_G)) (S : e_S) (l0 : Nat) (l1 : Int32) (l2 : Int32) (l3 : Int32) (l5 : Int32) (l6 : Int32) (l8 : Int32) (t0 : Int32) (g : e_G) : Option (Int32 × e_G) :=
  c49 l0 l1 l2 l3 l5 l6 t0 (l8 + (1 : Int32)) g
def J_X11_leans_116 (c49 : Nat → Int32 → Int32 → Int32 → Int32 → Int32 → Int32 → Int32 → e_G → Option (Int32 × e_G)) (S : e_S) (l0 : Nat) (l1 : Int32) (l2 : Int32) (l3 : Int32) (l5 : Int32) (l6 : Int32) (l7 : Int32) (l8 : Int32) (g : e_G) : Option (Int32 × e_G) :=
  J_X11_leans_118 c49 S l0 l1 l2 l3 l5 l6 l8 l7 g
def J_X11_leans_97 (c49 : Nat → Int32 → Int32 → Int32 → Int32 → Int32 → Int32 → Int32 → e_G → Option (Int32 × e_G)) (S : e_S) (l0 : Nat) (l1 : Int32) (l2 : Int32) (l3 : Int32) (l5 : Int32) (l7 : Int32) (l8 : Int32) (l9 : Int32) (t0 : Int32) (t1 : Int32) (g : e_G) : Option (Int32 × e_G) :=
  if l9 = 0 then
    J_X11_leans_116 c49 S l0 l1 l2 l3 l5 (t0 + t1) l7 l8 g
  else
    if l7 = (-1 : Int32) then
      J_X11_leans_118 c49 S l0 l1 l2 l3 l5 (t0 + t1) l8 l8 g
    else
      J_X11_leans_116 c49 S l0 l1 l2 l3 l5 (t0 + t1) l7 l8 g
def J_X11_leans_83 (c49 : Nat → Int32 → Int32 → Int32 → Int32 → Int32 → Int32 → Int32 → e_G → Option (Int32 × e_G)) (S : e_S) (l0 : Nat) (l1 : Int32) (l2 : Int32) (l3 : Int32) (l5 : Int32) (l6 : Int32) (l7 : Int32) (l8 : Int32) (t0 : Int32) (g : e_G) : Option (Int32 × e_G) :=
  if t0 = 0 then
    J_X11_leans_97 c49 S l0 l1 l2 l3 l5 l7 l8 t0 l6 (0 : Int32) g
  else
    J_X11_leans_97 c49 S l0 l1 l2 l3 l5 l7 l8 t0 l6 (1 : Int32) g
def L_X11_leans_49 : Nat → e_S → Nat → Int32 → Int32 → Int32 → Int32 → Int32 → Int32 → Int32 → e_G → Option (Int32 × e_G)
  | 0, _, _, _, _, _, _, _, _, _, _ => none
  | n + 1, S, l0, l1, l2, l3, l5, l6, l7, l8, g =>
  if (99 : Int32) < l8 then
    (e_gR S g 11 l0 3).bind fun v1 =>
    (e_aS S g 0 v1 (((4 : Int32) * l2) + (2 : Int32)) l5).bind fun g3 =>
    if l3 = 0 then
      some (l6, g3)
    else
      some (l7, g3)
  else
    (e_gR S g 11 l0 3).bind fun v5 =>
    (e_aS S g 0 v5 (((4 : Int32) * l2) + (2 : Int32)) l8).bind fun g7 =>
    (f_X11_unlike S l0 l1 l2 g7).bind fun q10 =>
    if q10.1 = (-1 : Int32) then
      J_X11_leans_83 (L_X11_leans_49 n S) S l0 l1 l2 l3 l5 l6 l7 l8 (1 : Int32) q10.2
    else
      J_X11_leans_83 (L_X11_leans_49 n S) S l0 l1 l2 l3 l5 l6 l7 l8 (0 : Int32) q10.2
def f_X11_leans (S : e_S) (l0 : Nat) (l1 : Int32) (l2 : Int32) (l3 : Int32) (g : e_G) : Option (Int32 × e_G) :=
  if e_ob S 11 l0 = true then
    (f_X11_toldWrong S l0 l1 l2 g).bind fun q2 =>
    if q2.1 = 0 then
      (f_X11_in S l3 (0 : Int32) (1 : Int32) q2.2).bind fun q4 =>
      if q4.1 = 0 then
        some ((-7 : Int32), q4.2)
      else
        (e_gR S q4.2 11 l0 3).bind fun v5 =>
        (e_aI S q4.2 0 v5 (((4 : Int32) * l2) + (2 : Int32))).bind fun v7 =>
        L_X11_leans_49 50000 S l0 l1 l2 l3 v7 (0 : Int32) (-1 : Int32) (0 : Int32) q4.2
    else
      some (q2.1, q2.2)
  else none
theorem x_J_X11_leans_118 {l : Launch} {D : va_G} {S : e_S} {w : Int32} {k : e_G} (c49 : Nat → Int32 → Int32 → Int32 → Int32 → Int32 → Int32 → Int32 → e_G → Option (Int32 × e_G)) (hc49 : ∀ (l0 : Nat) (l1 : Int32) (l2 : Int32) (l3 : Int32) (l5 : Int32) (l6 : Int32) (l7 : Int32) (l8 : Int32) (g : e_G), c49 l0 l1 l2 l3 l5 l6 l7 l8 g = some (w, k) → X l D (e_R 7) M_X11_leans 0 0 49 [(0, .ref l0), (1, .int l1), (2, .int l2), (3, .int l3), (5, .int l5), (6, .int l6), (7, .int l7), (8, .int l8)] [] (S, g) (some (.int w)) (S, k)) {l0 : Nat} {l1 : Int32} {l2 : Int32} {l3 : Int32} {l5 : Int32} {l6 : Int32} {l8 : Int32} {t0 : Int32} {g : e_G} (hf : J_X11_leans_118 c49 S l0 l1 l2 l3 l5 l6 l8 t0 g = some (w, k)) : X l D (e_R 7) M_X11_leans 0 0 118 [(0, .ref l0), (1, .int l1), (2, .int l2), (3, .int l3), (5, .int l5), (6, .int l6), (8, .int l8)] [.int t0] (S, g) (some (.int w)) (S, k) := by
  unfold J_X11_leans_118 at hf
  refine X.istore dX11_leans_118 (Nat.le_of_ble_eq_true rfl) (lc' := [(7, .int t0), (0, .ref l0), (1, .int l1), (2, .int l2), (3, .int l3), (5, .int l5), (6, .int l6), (8, .int l8)]) rfl ?_
  refine X.iinc (j := 7) dX11_leans_120 rfl (v := l8 + (1 : Int32)) (by rw [kI_1]) (Nat.le_of_ble_eq_true rfl) (lc' := [(8, .int (l8 + (1 : Int32))), (7, .int t0), (0, .ref l0), (1, .int l1), (2, .int l2), (3, .int l3), (5, .int l5), (6, .int l6)]) rfl ?_
  refine X.goto dX11_leans_123 (tgt := 49) rfl ?_
  refine X.sub [2, 3, 4, 5, 6, 7, 1, 0] rfl ?_
  exact hc49 _ _ _ _ _ _ _ _ _ hf
theorem x_J_X11_leans_116 {l : Launch} {D : va_G} {S : e_S} {w : Int32} {k : e_G} (c49 : Nat → Int32 → Int32 → Int32 → Int32 → Int32 → Int32 → Int32 → e_G → Option (Int32 × e_G)) (hc49 : ∀ (l0 : Nat) (l1 : Int32) (l2 : Int32) (l3 : Int32) (l5 : Int32) (l6 : Int32) (l7 : Int32) (l8 : Int32) (g : e_G), c49 l0 l1 l2 l3 l5 l6 l7 l8 g = some (w, k) → X l D (e_R 7) M_X11_leans 0 0 49 [(0, .ref l0), (1, .int l1), (2, .int l2), (3, .int l3), (5, .int l5), (6, .int l6), (7, .int l7), (8, .int l8)] [] (S, g) (some (.int w)) (S, k)) {l0 : Nat} {l1 : Int32} {l2 : Int32} {l3 : Int32} {l5 : Int32} {l6 : Int32} {l7 : Int32} {l8 : Int32} {g : e_G} (hf : J_X11_leans_116 c49 S l0 l1 l2 l3 l5 l6 l7 l8 g = some (w, k)) : X l D (e_R 7) M_X11_leans 0 0 116 [(0, .ref l0), (1, .int l1), (2, .int l2), (3, .int l3), (5, .int l5), (6, .int l6), (7, .int l7), (8, .int l8)] [] (S, g) (some (.int w)) (S, k) := by
  unfold J_X11_leans_116 at hf
  refine X.iload dX11_leans_116 (j := 6) rfl ?_
  refine X.sub [0, 1, 2, 3, 4, 5, 7] rfl ?_
  exact x_J_X11_leans_118 _ hc49 hf
theorem x_J_X11_leans_97 {l : Launch} {D : va_G} {S : e_S} {w : Int32} {k : e_G} (c49 : Nat → Int32 → Int32 → Int32 → Int32 → Int32 → Int32 → Int32 → e_G → Option (Int32 × e_G)) (hc49 : ∀ (l0 : Nat) (l1 : Int32) (l2 : Int32) (l3 : Int32) (l5 : Int32) (l6 : Int32) (l7 : Int32) (l8 : Int32) (g : e_G), c49 l0 l1 l2 l3 l5 l6 l7 l8 g = some (w, k) → X l D (e_R 7) M_X11_leans 0 0 49 [(0, .ref l0), (1, .int l1), (2, .int l2), (3, .int l3), (5, .int l5), (6, .int l6), (7, .int l7), (8, .int l8)] [] (S, g) (some (.int w)) (S, k)) {l0 : Nat} {l1 : Int32} {l2 : Int32} {l3 : Int32} {l5 : Int32} {l7 : Int32} {l8 : Int32} {l9 : Int32} {t0 : Int32} {t1 : Int32} {g : e_G} (hf : J_X11_leans_97 c49 S l0 l1 l2 l3 l5 l7 l8 l9 t0 t1 g = some (w, k)) : X l D (e_R 7) M_X11_leans 0 0 97 [(0, .ref l0), (1, .int l1), (2, .int l2), (3, .int l3), (5, .int l5), (7, .int l7), (8, .int l8), (9, .int l9)] [.int t1, .int t0] (S, g) (some (.int w)) (S, k) := by
  unfold J_X11_leans_97 at hf
  refine X.iadd dX11_leans_97 ?_
  refine X.istore dX11_leans_98 (Nat.le_of_ble_eq_true rfl) (lc' := [(6, .int (t0 + t1)), (0, .ref l0), (1, .int l1), (2, .int l2), (3, .int l3), (5, .int l5), (7, .int l7), (8, .int l8), (9, .int l9)]) rfl ?_
  refine X.iload dX11_leans_100 (j := 8) rfl ?_
  refine X.if_eq dX11_leans_102 (tgt := 116) rfl (fun hc => ?_) (fun hc => ?_)
  · rw [if_pos hc] at hf
    refine X.sub [1, 2, 3, 4, 5, 0, 6, 7] rfl ?_
    exact x_J_X11_leans_116 _ hc49 hf
  · rw [if_neg hc] at hf
    refine X.iload dX11_leans_105 (j := 6) rfl ?_
    refine X.iconst dX11_leans_107 kI_m1 ?_
    refine X.icmp_ne dX11_leans_108 (tgt := 116) rfl (fun hc => ?_) (fun hc => ?_)
    · rw [if_neg hc] at hf
      refine X.sub [1, 2, 3, 4, 5, 0, 6, 7] rfl ?_
      exact x_J_X11_leans_116 _ hc49 hf
    · rw [if_pos hc] at hf
      refine X.iload dX11_leans_111 (j := 7) rfl ?_
      refine X.goto dX11_leans_113 (tgt := 118) rfl ?_
      refine X.sub [1, 2, 3, 4, 5, 0, 7] rfl ?_
      exact x_J_X11_leans_118 _ hc49 hf
theorem x_J_X11_leans_83 {l : Launch} {D : va_G} {S : e_S} {w : Int32} {k : e_G} (c49 : Nat → Int32 → Int32 → Int32 → Int32 → Int32 → Int32 → Int32 → e_G → Option (Int32 × e_G)) (hc49 : ∀ (l0 : Nat) (l1 : Int32) (l2 : Int32) (l3 : Int32) (l5 : Int32) (l6 : Int32) (l7 : Int32) (l8 : Int32) (g : e_G), c49 l0 l1 l2 l3 l5 l6 l7 l8 g = some (w, k) → X l D (e_R 7) M_X11_leans 0 0 49 [(0, .ref l0), (1, .int l1), (2, .int l2), (3, .int l3), (5, .int l5), (6, .int l6), (7, .int l7), (8, .int l8)] [] (S, g) (some (.int w)) (S, k)) {l0 : Nat} {l1 : Int32} {l2 : Int32} {l3 : Int32} {l5 : Int32} {l6 : Int32} {l7 : Int32} {l8 : Int32} {t0 : Int32} {g : e_G} (hf : J_X11_leans_83 c49 S l0 l1 l2 l3 l5 l6 l7 l8 t0 g = some (w, k)) : X l D (e_R 7) M_X11_leans 0 0 83 [(0, .ref l0), (1, .int l1), (2, .int l2), (3, .int l3), (5, .int l5), (6, .int l6), (7, .int l7), (8, .int l8)] [.int t0] (S, g) (some (.int w)) (S, k) := by
  unfold J_X11_leans_83 at hf
  refine X.istore dX11_leans_83 (Nat.le_of_ble_eq_true rfl) (lc' := [(9, .int t0), (0, .ref l0), (1, .int l1), (2, .int l2), (3, .int l3), (5, .int l5), (6, .int l6), (7, .int l7), (8, .int l8)]) rfl ?_
  refine X.iload dX11_leans_85 (j := 6) rfl ?_
  refine X.iload dX11_leans_87 (j := 0) rfl ?_
  refine X.if_eq dX11_leans_89 (tgt := 96) rfl (fun hc => ?_) (fun hc => ?_)
  · rw [if_pos hc] at hf
    refine X.iconst dX11_leans_96 kI_0 ?_
    refine X.sub [1, 2, 3, 4, 5, 7, 8, 0] rfl ?_
    exact x_J_X11_leans_97 _ hc49 hf
  · rw [if_neg hc] at hf
    refine X.iconst dX11_leans_92 kI_1 ?_
    refine X.goto dX11_leans_93 (tgt := 97) rfl ?_
    refine X.sub [1, 2, 3, 4, 5, 7, 8, 0] rfl ?_
    exact x_J_X11_leans_97 _ hc49 hf
theorem x_L_X11_leans_49 {l : Launch} {D : va_G} {S : e_S} {w : Int32} {k : e_G} : ∀ (n : Nat) (l0 : Nat) (l1 : Int32) (l2 : Int32) (l3 : Int32) (l5 : Int32) (l6 : Int32) (l7 : Int32) (l8 : Int32) (g : e_G), L_X11_leans_49 n S l0 l1 l2 l3 l5 l6 l7 l8 g = some (w, k) → X l D (e_R 7) M_X11_leans 0 0 49 [(0, .ref l0), (1, .int l1), (2, .int l2), (3, .int l3), (5, .int l5), (6, .int l6), (7, .int l7), (8, .int l8)] [] (S, g) (some (.int w)) (S, k) := by
  intro n
  induction n with
  | zero =>
    intro l0 l1 l2 l3 l5 l6 l7 l8 g hf
    cases hf
  | succ n ih =>
    intro l0 l1 l2 l3 l5 l6 l7 l8 g hf
    rw [L_X11_leans_49] at hf
    refine X.iload dX11_leans_49 (j := 7) rfl ?_
    refine X.bipush dX11_leans_51 kB_99 ?_
    refine X.icmp_gt dX11_leans_53 (tgt := 126) rfl (fun hc => ?_) (fun hc => ?_)
    · rw [if_pos hc] at hf
      refine X.aload_n dX11_leans_126 rfl (j := 0) rfl ?_
      obtain ⟨v1, h2, hf⟩ := ob hf
      refine Y.getR dX11_leans_127 fl_X11_16 rfl h2 ?_
      refine X.iconst dX11_leans_130 kI_4 ?_
      refine X.iload_n dX11_leans_131 rfl (j := 2) rfl ?_
      refine X.imul dX11_leans_132 ?_
      refine X.iconst dX11_leans_133 kI_2 ?_
      refine X.iadd dX11_leans_134 ?_
      refine X.iload dX11_leans_135 (j := 4) rfl ?_
      obtain ⟨g3, h4, hf⟩ := ob hf
      refine Y.iast dX11_leans_137 h4 ?_
      refine X.iload_n dX11_leans_138 rfl (j := 3) rfl ?_
      refine X.if_ne dX11_leans_139 (tgt := 147) rfl (fun hc => ?_) (fun hc => ?_)
      · rw [if_neg hc] at hf
        refine X.iload dX11_leans_147 (j := 6) rfl ?_
        obtain ⟨e1, e2⟩ := e_ret hf
        subst e1
        subst e2
        exact X.iret dX11_leans_149 rfl rfl
      · rw [if_pos hc] at hf
        refine X.iload dX11_leans_142 (j := 5) rfl ?_
        refine X.goto dX11_leans_144 (tgt := 149) rfl ?_
        obtain ⟨e1, e2⟩ := e_ret hf
        subst e1
        subst e2
        exact X.iret dX11_leans_149 rfl rfl
    · rw [if_neg hc] at hf
      refine X.aload_n dX11_leans_56 rfl (j := 0) rfl ?_
      obtain ⟨v5, h6, hf⟩ := ob hf
      refine Y.getR dX11_leans_57 fl_X11_16 rfl h6 ?_
      refine X.iconst dX11_leans_60 kI_4 ?_
      refine X.iload_n dX11_leans_61 rfl (j := 2) rfl ?_
      refine X.imul dX11_leans_62 ?_
      refine X.iconst dX11_leans_63 kI_2 ?_
      refine X.iadd dX11_leans_64 ?_
      refine X.iload dX11_leans_65 (j := 7) rfl ?_
      obtain ⟨g7, h8, hf⟩ := ob hf
      refine Y.iast dX11_leans_67 h8 ?_
      refine X.aload_n dX11_leans_68 rfl (j := 0) rfl ?_
      refine X.iload_n dX11_leans_69 rfl (j := 1) rfl ?_
      refine X.iload_n dX11_leans_70 rfl (j := 2) rfl ?_
      obtain ⟨q10, h9, hf⟩ := ob hf
      refine Y.callV (av := [.int l1, .int l2]) (ci := 11) dX11_leans_71 (c_X11_unlike (l := l) (D := D) (w := q10.1) (k := q10.2) h9) cw_X11_268 (by decide) rfl mk_X11_unlike (o_X11_unlike (w := q10.1) (k := q10.2) h9) (e_R_ok (Nat.le_of_ble_eq_true rfl) (Nat.le_of_ble_eq_true rfl)) ⟨rfl, rfl⟩ (by simp [Value.category]) ?_
      refine X.iconst dX11_leans_74 kI_m1 ?_
      refine X.icmp_ne dX11_leans_75 (tgt := 82) rfl (fun hc => ?_) (fun hc => ?_)
      · rw [if_neg hc] at hf
        refine X.iconst dX11_leans_82 kI_0 ?_
        exact x_J_X11_leans_83 _ ih hf
      · rw [if_pos hc] at hf
        refine X.iconst dX11_leans_78 kI_1 ?_
        refine X.goto dX11_leans_79 (tgt := 83) rfl ?_
        exact x_J_X11_leans_83 _ ih hf
theorem o_X11_leans  {S : e_S} {w : Int32} {k : e_G} {l0 : Nat} {l1 : Int32} {l2 : Int32} {l3 : Int32} {g : e_G} (hf : f_X11_leans S l0 l1 l2 l3 g = some (w, k)) : e_ob S 11 l0 = true := by
  unfold f_X11_leans at hf
  by_cases hc : e_ob S 11 l0 = true
  · exact hc
  · rw [if_neg hc] at hf
    cases hf
theorem c_X11_leans {l : Launch} {D : va_G}  {S : e_S} {w : Int32} {k : e_G} {l0 : Nat} {l1 : Int32} {l2 : Int32} {l3 : Int32} {g : e_G} (hf : f_X11_leans S l0 l1 l2 l3 g = some (w, k)) : CT l D (e_R 7) M_X11_leans [.ref l0, .int l1, .int l2, .int l3] (S, g) (some (.int w)) (S, k) := by
  refine CT.of (by decide +kernel) (Nat.le_of_ble_eq_true rfl) ?_
  have ho := o_X11_leans hf
  unfold f_X11_leans at hf
  rw [if_pos ho] at hf
  show X l D (e_R 7) M_X11_leans 0 0 0 [(0, .ref l0), (1, .int l1), (2, .int l2), (3, .int l3)] [] (S, g) (some (.int w)) (S, k)
  refine X.aload_n dX11_leans_0 rfl (j := 0) rfl ?_
  refine X.iload_n dX11_leans_1 rfl (j := 1) rfl ?_
  refine X.iload_n dX11_leans_2 rfl (j := 2) rfl ?_
  obtain ⟨q2, h1, hf⟩ := ob hf
  refine Y.callV (av := [.int l1, .int l2]) (ci := 11) dX11_leans_3 (c_X11_toldWrong (l := l) (D := D) (w := q2.1) (k := q2.2) h1) cw_X11_265 (by decide) rfl mk_X11_toldWrong (o_X11_toldWrong (w := q2.1) (k := q2.2) h1) (e_R_ok (Nat.le_of_ble_eq_true rfl) (Nat.le_of_ble_eq_true rfl)) ⟨rfl, rfl⟩ (by simp [Value.category]) ?_
  refine X.istore dX11_leans_6 (Nat.le_of_ble_eq_true rfl) (lc' := [(4, .int q2.1), (0, .ref l0), (1, .int l1), (2, .int l2), (3, .int l3)]) rfl ?_
  refine X.iload dX11_leans_8 (j := 0) rfl ?_
  refine X.if_eq dX11_leans_10 (tgt := 16) rfl (fun hc => ?_) (fun hc => ?_)
  · rw [if_pos hc] at hf
    refine X.iload_n dX11_leans_16 rfl (j := 4) rfl ?_
    refine X.iconst dX11_leans_17 kI_0 ?_
    refine X.iconst dX11_leans_18 kI_1 ?_
    obtain ⟨q4, h3, hf⟩ := ob hf
    refine Y.callS (av := [.int l3, .int (0 : Int32), .int (1 : Int32)]) dX11_leans_19 (c_X11_in (l := l) (D := D) (w := q4.1) (k := q4.2) h3) cw_X11_78 mk_X11_in (e_R_ok (Nat.le_of_ble_eq_true rfl) (Nat.le_of_ble_eq_true rfl)) ⟨rfl, rfl⟩ (by simp [Value.category]) ?_
    refine X.if_ne dX11_leans_22 (tgt := 28) rfl (fun hc => ?_) (fun hc => ?_)
    · rw [if_neg hc] at hf
      refine X.aload_n dX11_leans_28 rfl (j := 1) rfl ?_
      obtain ⟨v5, h6, hf⟩ := ob hf
      refine Y.getR dX11_leans_29 fl_X11_16 rfl h6 ?_
      refine X.iconst dX11_leans_32 kI_4 ?_
      refine X.iload_n dX11_leans_33 rfl (j := 3) rfl ?_
      refine X.imul dX11_leans_34 ?_
      refine X.iconst dX11_leans_35 kI_2 ?_
      refine X.iadd dX11_leans_36 ?_
      obtain ⟨v7, h8, hf⟩ := ob hf
      refine Y.iald dX11_leans_37 h8 ?_
      refine X.istore dX11_leans_38 (Nat.le_of_ble_eq_true rfl) (lc' := [(5, .int v7), (4, .int q2.1), (0, .ref l0), (1, .int l1), (2, .int l2), (3, .int l3)]) rfl ?_
      refine X.iconst dX11_leans_40 kI_0 ?_
      refine X.istore dX11_leans_41 (Nat.le_of_ble_eq_true rfl) (lc' := [(6, .int (0 : Int32)), (5, .int v7), (4, .int q2.1), (0, .ref l0), (1, .int l1), (2, .int l2), (3, .int l3)]) rfl ?_
      refine X.iconst dX11_leans_43 kI_m1 ?_
      refine X.istore dX11_leans_44 (Nat.le_of_ble_eq_true rfl) (lc' := [(7, .int (-1 : Int32)), (6, .int (0 : Int32)), (5, .int v7), (4, .int q2.1), (0, .ref l0), (1, .int l1), (2, .int l2), (3, .int l3)]) rfl ?_
      refine X.iconst dX11_leans_46 kI_0 ?_
      refine X.istore dX11_leans_47 (Nat.le_of_ble_eq_true rfl) (lc' := [(8, .int (0 : Int32)), (7, .int (-1 : Int32)), (6, .int (0 : Int32)), (5, .int v7), (4, .int q2.1), (0, .ref l0), (1, .int l1), (2, .int l2), (3, .int l3)]) rfl ?_
      refine X.sub [5, 6, 7, 8, 3, 2, 1, 0] rfl ?_
      exact x_L_X11_leans_49 50000 _ _ _ _ _ _ _ _ _ hf
    · rw [if_pos hc] at hf
      refine X.bipush dX11_leans_25 kB_m7 ?_
      obtain ⟨e1, e2⟩ := e_ret hf
      subst e1
      subst e2
      exact X.iret dX11_leans_27 rfl rfl
  · rw [if_neg hc] at hf
    refine X.iload dX11_leans_13 (j := 0) rfl ?_
    obtain ⟨e1, e2⟩ := e_ret hf
    subst e1
    subst e2
    exact X.iret dX11_leans_15 rfl rfl
/-! LeanedOutModel.whose(I)I -/
abbrev M_X11_whose : e_M := (yX11_whose, cX11_whose, 5, (some .int))
theorem mk_X11_whose : e_Mok M_X11_whose 1 := ⟨by decide +kernel, by decide +kernel, by decide +kernel⟩
theorem dX11_whose_0 : decode cX11_whose 0 = .ok (.aload_n 0, 1) := by decide +kernel
theorem dX11_whose_1 : decode cX11_whose 1 = .ok (.iload_n 1, 1) := by decide +kernel
theorem dX11_whose_2 : decode cX11_whose 2 = .ok (.invokevirtual 262, 3) := by decide +kernel
theorem dX11_whose_5 : decode cX11_whose 5 = .ok (.istore_n 2, 1) := by decide +kernel
theorem dX11_whose_6 : decode cX11_whose 6 = .ok (.iload_n 2, 1) := by decide +kernel
theorem dX11_whose_7 : decode cX11_whose 7 = .ok (.ifCond .eq 5, 3) := by decide +kernel
theorem dX11_whose_10 : decode cX11_whose 10 = .ok (.iload_n 2, 1) := by decide +kernel
theorem dX11_whose_11 : decode cX11_whose 11 = .ok (.ireturn, 1) := by decide +kernel
theorem dX11_whose_12 : decode cX11_whose 12 = .ok (.iconst 0, 1) := by decide +kernel
theorem dX11_whose_13 : decode cX11_whose 13 = .ok (.istore_n 3, 1) := by decide +kernel
theorem dX11_whose_14 : decode cX11_whose 14 = .ok (.iconst 0, 1) := by decide +kernel
theorem dX11_whose_15 : decode cX11_whose 15 = .ok (.istore 4, 2) := by decide +kernel
theorem dX11_whose_17 : decode cX11_whose 17 = .ok (.iload 4, 2) := by decide +kernel
theorem dX11_whose_19 : decode cX11_whose 19 = .ok (.aload_n 0, 1) := by decide +kernel
theorem dX11_whose_20 : decode cX11_whose 20 = .ok (.getfield 75, 3) := by decide +kernel
theorem dX11_whose_23 : decode cX11_whose 23 = .ok (.if_icmp .ge 31, 3) := by decide +kernel
theorem dX11_whose_26 : decode cX11_whose 26 = .ok (.iload_n 3, 1) := by decide +kernel
theorem dX11_whose_27 : decode cX11_whose 27 = .ok (.aload_n 0, 1) := by decide +kernel
theorem dX11_whose_28 : decode cX11_whose 28 = .ok (.iload_n 1, 1) := by decide +kernel
theorem dX11_whose_29 : decode cX11_whose 29 = .ok (.iload 4, 2) := by decide +kernel
theorem dX11_whose_31 : decode cX11_whose 31 = .ok (.invokevirtual 268, 3) := by decide +kernel
theorem dX11_whose_34 : decode cX11_whose 34 = .ok (.iconst (-1), 1) := by decide +kernel
theorem dX11_whose_35 : decode cX11_whose 35 = .ok (.if_icmp .ne 10, 3) := by decide +kernel
theorem dX11_whose_38 : decode cX11_whose 38 = .ok (.iconst 1, 1) := by decide +kernel
theorem dX11_whose_39 : decode cX11_whose 39 = .ok (.iload 4, 2) := by decide +kernel
theorem dX11_whose_41 : decode cX11_whose 41 = .ok (.ishl, 1) := by decide +kernel
theorem dX11_whose_42 : decode cX11_whose 42 = .ok (.goto 4, 3) := by decide +kernel
theorem dX11_whose_45 : decode cX11_whose 45 = .ok (.iconst 0, 1) := by decide +kernel
theorem dX11_whose_46 : decode cX11_whose 46 = .ok (.ior, 1) := by decide +kernel
theorem dX11_whose_47 : decode cX11_whose 47 = .ok (.istore_n 3, 1) := by decide +kernel
theorem dX11_whose_48 : decode cX11_whose 48 = .ok (.iinc 4 1, 3) := by decide +kernel
theorem dX11_whose_51 : decode cX11_whose 51 = .ok (.goto (-34), 3) := by decide +kernel
theorem dX11_whose_54 : decode cX11_whose 54 = .ok (.iload_n 3, 1) := by decide +kernel
theorem dX11_whose_55 : decode cX11_whose 55 = .ok (.ireturn, 1) := by decide +kernel
def J_X11_whose_46 (c17 : Nat → Int32 → Int32 → Int32 → e_G → Option (Int32 × e_G)) (S : e_S) (l0 : Nat) (l1 : Int32) (l4 : Int32) (t0 : Int32) (t1 : Int32) (g : e_G) : Option (Int32 × e_G) :=
  c17 l0 l1 (t0 ||| t1) (l4 + (1 : Int32)) g
def L_X11_whose_17 : Nat → e_S → Nat → Int32 → Int32 → Int32 → e_G → Option (Int32 × e_G)
  | 0, _, _, _, _, _, _ => none
  | n + 1, S, l0, l1, l3, l4, g =>
  (e_gI S g 11 l0 0).bind fun v1 =>
  if v1 ≤ l4 then
    some (l3, g)
  else
    (f_X11_unlike S l0 l1 l4 g).bind fun q4 =>
    if q4.1 = (-1 : Int32) then
      J_X11_whose_46 (L_X11_whose_17 n S) S l0 l1 l4 l3 ((1 : Int32) <<< (l4 &&& 31)) q4.2
    else
      J_X11_whose_46 (L_X11_whose_17 n S) S l0 l1 l4 l3 (0 : Int32) q4.2
def f_X11_whose (S : e_S) (l0 : Nat) (l1 : Int32) (g : e_G) : Option (Int32 × e_G) :=
  if e_ob S 11 l0 = true then
    (f_X11_sheetWrong S l0 l1 g).bind fun q2 =>
    if q2.1 = 0 then
      L_X11_whose_17 50000 S l0 l1 (0 : Int32) (0 : Int32) q2.2
    else
      some (q2.1, q2.2)
  else none
theorem x_J_X11_whose_46 {l : Launch} {D : va_G} {S : e_S} {w : Int32} {k : e_G} (c17 : Nat → Int32 → Int32 → Int32 → e_G → Option (Int32 × e_G)) (hc17 : ∀ (l0 : Nat) (l1 : Int32) (l3 : Int32) (l4 : Int32) (g : e_G), c17 l0 l1 l3 l4 g = some (w, k) → X l D (e_R 7) M_X11_whose 0 0 17 [(0, .ref l0), (1, .int l1), (3, .int l3), (4, .int l4)] [] (S, g) (some (.int w)) (S, k)) {l0 : Nat} {l1 : Int32} {l4 : Int32} {t0 : Int32} {t1 : Int32} {g : e_G} (hf : J_X11_whose_46 c17 S l0 l1 l4 t0 t1 g = some (w, k)) : X l D (e_R 7) M_X11_whose 0 0 46 [(0, .ref l0), (1, .int l1), (4, .int l4)] [.int t1, .int t0] (S, g) (some (.int w)) (S, k) := by
  unfold J_X11_whose_46 at hf
  refine X.ior dX11_whose_46 ?_
  refine X.istore_n dX11_whose_47 rfl (Nat.le_of_ble_eq_true rfl) (lc' := [(3, .int (t0 ||| t1)), (0, .ref l0), (1, .int l1), (4, .int l4)]) rfl ?_
  refine X.iinc (j := 3) dX11_whose_48 rfl (v := l4 + (1 : Int32)) (by rw [kI_1]) (Nat.le_of_ble_eq_true rfl) (lc' := [(4, .int (l4 + (1 : Int32))), (3, .int (t0 ||| t1)), (0, .ref l0), (1, .int l1)]) rfl ?_
  refine X.goto dX11_whose_51 (tgt := 17) rfl ?_
  refine X.sub [2, 3, 1, 0] rfl ?_
  exact hc17 _ _ _ _ _ hf
theorem x_L_X11_whose_17 {l : Launch} {D : va_G} {S : e_S} {w : Int32} {k : e_G} : ∀ (n : Nat) (l0 : Nat) (l1 : Int32) (l3 : Int32) (l4 : Int32) (g : e_G), L_X11_whose_17 n S l0 l1 l3 l4 g = some (w, k) → X l D (e_R 7) M_X11_whose 0 0 17 [(0, .ref l0), (1, .int l1), (3, .int l3), (4, .int l4)] [] (S, g) (some (.int w)) (S, k) := by
  intro n
  induction n with
  | zero =>
    intro l0 l1 l3 l4 g hf
    cases hf
  | succ n ih =>
    intro l0 l1 l3 l4 g hf
    rw [L_X11_whose_17] at hf
    refine X.iload dX11_whose_17 (j := 3) rfl ?_
    refine X.aload_n dX11_whose_19 rfl (j := 0) rfl ?_
    obtain ⟨v1, h2, hf⟩ := ob hf
    refine Y.getI dX11_whose_20 fl_X11_75 rfl h2 ?_
    refine X.icmp_ge dX11_whose_23 (tgt := 54) rfl (fun hc => ?_) (fun hc => ?_)
    · rw [if_pos hc] at hf
      refine X.iload_n dX11_whose_54 rfl (j := 2) rfl ?_
      obtain ⟨e1, e2⟩ := e_ret hf
      subst e1
      subst e2
      exact X.iret dX11_whose_55 rfl rfl
    · rw [if_neg hc] at hf
      refine X.iload_n dX11_whose_26 rfl (j := 2) rfl ?_
      refine X.aload_n dX11_whose_27 rfl (j := 0) rfl ?_
      refine X.iload_n dX11_whose_28 rfl (j := 1) rfl ?_
      refine X.iload dX11_whose_29 (j := 3) rfl ?_
      obtain ⟨q4, h3, hf⟩ := ob hf
      refine Y.callV (av := [.int l1, .int l4]) (ci := 11) dX11_whose_31 (c_X11_unlike (l := l) (D := D) (w := q4.1) (k := q4.2) h3) cw_X11_268 (by decide) rfl mk_X11_unlike (o_X11_unlike (w := q4.1) (k := q4.2) h3) (e_R_ok (Nat.le_of_ble_eq_true rfl) (Nat.le_of_ble_eq_true rfl)) ⟨rfl, rfl⟩ (by simp [Value.category]) ?_
      refine X.iconst dX11_whose_34 kI_m1 ?_
      refine X.icmp_ne dX11_whose_35 (tgt := 45) rfl (fun hc => ?_) (fun hc => ?_)
      · rw [if_neg hc] at hf
        refine X.iconst dX11_whose_45 kI_0 ?_
        refine X.sub [0, 1, 3] rfl ?_
        exact x_J_X11_whose_46 _ ih hf
      · rw [if_pos hc] at hf
        refine X.iconst dX11_whose_38 kI_1 ?_
        refine X.iload dX11_whose_39 (j := 3) rfl ?_
        refine X.ishl dX11_whose_41 ?_
        refine X.goto dX11_whose_42 (tgt := 46) rfl ?_
        refine X.sub [0, 1, 3] rfl ?_
        exact x_J_X11_whose_46 _ ih hf
theorem o_X11_whose  {S : e_S} {w : Int32} {k : e_G} {l0 : Nat} {l1 : Int32} {g : e_G} (hf : f_X11_whose S l0 l1 g = some (w, k)) : e_ob S 11 l0 = true := by
  unfold f_X11_whose at hf
  by_cases hc : e_ob S 11 l0 = true
  · exact hc
  · rw [if_neg hc] at hf
    cases hf
theorem c_X11_whose {l : Launch} {D : va_G}  {S : e_S} {w : Int32} {k : e_G} {l0 : Nat} {l1 : Int32} {g : e_G} (hf : f_X11_whose S l0 l1 g = some (w, k)) : CT l D (e_R 7) M_X11_whose [.ref l0, .int l1] (S, g) (some (.int w)) (S, k) := by
  refine CT.of (by decide +kernel) (Nat.le_of_ble_eq_true rfl) ?_
  have ho := o_X11_whose hf
  unfold f_X11_whose at hf
  rw [if_pos ho] at hf
  show X l D (e_R 7) M_X11_whose 0 0 0 [(0, .ref l0), (1, .int l1)] [] (S, g) (some (.int w)) (S, k)
  refine X.aload_n dX11_whose_0 rfl (j := 0) rfl ?_
  refine X.iload_n dX11_whose_1 rfl (j := 1) rfl ?_
  obtain ⟨q2, h1, hf⟩ := ob hf
  refine Y.callV (av := [.int l1]) (ci := 11) dX11_whose_2 (c_X11_sheetWrong (l := l) (D := D) (w := q2.1) (k := q2.2) h1) cw_X11_262 (by decide) rfl mk_X11_sheetWrong (o_X11_sheetWrong (w := q2.1) (k := q2.2) h1) (e_R_ok (Nat.le_of_ble_eq_true rfl) (Nat.le_of_ble_eq_true rfl)) ⟨rfl, rfl⟩ (by simp [Value.category]) ?_
  refine X.istore_n dX11_whose_5 rfl (Nat.le_of_ble_eq_true rfl) (lc' := [(2, .int q2.1), (0, .ref l0), (1, .int l1)]) rfl ?_
  refine X.iload_n dX11_whose_6 rfl (j := 0) rfl ?_
  refine X.if_eq dX11_whose_7 (tgt := 12) rfl (fun hc => ?_) (fun hc => ?_)
  · rw [if_pos hc] at hf
    refine X.iconst dX11_whose_12 kI_0 ?_
    refine X.istore_n dX11_whose_13 rfl (Nat.le_of_ble_eq_true rfl) (lc' := [(3, .int (0 : Int32)), (2, .int q2.1), (0, .ref l0), (1, .int l1)]) rfl ?_
    refine X.iconst dX11_whose_14 kI_0 ?_
    refine X.istore dX11_whose_15 (Nat.le_of_ble_eq_true rfl) (lc' := [(4, .int (0 : Int32)), (3, .int (0 : Int32)), (2, .int q2.1), (0, .ref l0), (1, .int l1)]) rfl ?_
    refine X.sub [3, 4, 1, 0] rfl ?_
    exact x_L_X11_whose_17 50000 _ _ _ _ _ hf
  · rw [if_neg hc] at hf
    refine X.iload_n dX11_whose_10 rfl (j := 0) rfl ?_
    obtain ⟨e1, e2⟩ := e_ret hf
    subst e1
    subst e2
    exact X.iret dX11_whose_11 rfl rfl
/-! LeanedOutModel.laws(II)I -/
abbrev M_X11_laws : e_M := (yX11_laws, cX11_laws, 7, (some .int))
theorem mk_X11_laws : e_Mok M_X11_laws 2 := ⟨by decide +kernel, by decide +kernel, by decide +kernel⟩
theorem dX11_laws_0 : decode cX11_laws 0 = .ok (.aload_n 0, 1) := by decide +kernel
theorem dX11_laws_1 : decode cX11_laws 1 = .ok (.iload_n 1, 1) := by decide +kernel
theorem dX11_laws_2 : decode cX11_laws 2 = .ok (.iload_n 2, 1) := by decide +kernel
theorem dX11_laws_3 : decode cX11_laws 3 = .ok (.invokevirtual 265, 3) := by decide +kernel
theorem dX11_laws_6 : decode cX11_laws 6 = .ok (.istore_n 3, 1) := by decide +kernel
theorem dX11_laws_7 : decode cX11_laws 7 = .ok (.iload_n 3, 1) := by decide +kernel
theorem dX11_laws_8 : decode cX11_laws 8 = .ok (.ifCond .eq 5, 3) := by decide +kernel
theorem dX11_laws_11 : decode cX11_laws 11 = .ok (.iload_n 3, 1) := by decide +kernel
theorem dX11_laws_12 : decode cX11_laws 12 = .ok (.ireturn, 1) := by decide +kernel
theorem dX11_laws_13 : decode cX11_laws 13 = .ok (.aload_n 0, 1) := by decide +kernel
theorem dX11_laws_14 : decode cX11_laws 14 = .ok (.getfield 95, 3) := by decide +kernel
theorem dX11_laws_17 : decode cX11_laws 17 = .ok (.istore 4, 2) := by decide +kernel
theorem dX11_laws_19 : decode cX11_laws 19 = .ok (.iconst 0, 1) := by decide +kernel
theorem dX11_laws_20 : decode cX11_laws 20 = .ok (.istore 5, 2) := by decide +kernel
theorem dX11_laws_22 : decode cX11_laws 22 = .ok (.iconst 0, 1) := by decide +kernel
theorem dX11_laws_23 : decode cX11_laws 23 = .ok (.istore 6, 2) := by decide +kernel
theorem dX11_laws_25 : decode cX11_laws 25 = .ok (.iload 6, 2) := by decide +kernel
theorem dX11_laws_27 : decode cX11_laws 27 = .ok (.aload_n 0, 1) := by decide +kernel
theorem dX11_laws_28 : decode cX11_laws 28 = .ok (.getfield 92, 3) := by decide +kernel
theorem dX11_laws_31 : decode cX11_laws 31 = .ok (.if_icmp .ge 38, 3) := by decide +kernel
theorem dX11_laws_34 : decode cX11_laws 34 = .ok (.aload_n 0, 1) := by decide +kernel
theorem dX11_laws_35 : decode cX11_laws 35 = .ok (.iload 6, 2) := by decide +kernel
theorem dX11_laws_37 : decode cX11_laws 37 = .ok (.putfield 95, 3) := by decide +kernel
theorem dX11_laws_40 : decode cX11_laws 40 = .ok (.iload 5, 2) := by decide +kernel
theorem dX11_laws_42 : decode cX11_laws 42 = .ok (.aload_n 0, 1) := by decide +kernel
theorem dX11_laws_43 : decode cX11_laws 43 = .ok (.iload_n 1, 1) := by decide +kernel
theorem dX11_laws_44 : decode cX11_laws 44 = .ok (.iload_n 2, 1) := by decide +kernel
theorem dX11_laws_45 : decode cX11_laws 45 = .ok (.invokevirtual 268, 3) := by decide +kernel
theorem dX11_laws_48 : decode cX11_laws 48 = .ok (.iconst (-1), 1) := by decide +kernel
theorem dX11_laws_49 : decode cX11_laws 49 = .ok (.if_icmp .ne 10, 3) := by decide +kernel
theorem dX11_laws_52 : decode cX11_laws 52 = .ok (.iconst 1, 1) := by decide +kernel
theorem dX11_laws_53 : decode cX11_laws 53 = .ok (.iload 6, 2) := by decide +kernel
theorem dX11_laws_55 : decode cX11_laws 55 = .ok (.ishl, 1) := by decide +kernel
theorem dX11_laws_56 : decode cX11_laws 56 = .ok (.goto 4, 3) := by decide +kernel
theorem dX11_laws_59 : decode cX11_laws 59 = .ok (.iconst 0, 1) := by decide +kernel
theorem dX11_laws_60 : decode cX11_laws 60 = .ok (.ior, 1) := by decide +kernel
theorem dX11_laws_61 : decode cX11_laws 61 = .ok (.istore 5, 2) := by decide +kernel
theorem dX11_laws_63 : decode cX11_laws 63 = .ok (.iinc 6 1, 3) := by decide +kernel
theorem dX11_laws_66 : decode cX11_laws 66 = .ok (.goto (-41), 3) := by decide +kernel
theorem dX11_laws_69 : decode cX11_laws 69 = .ok (.aload_n 0, 1) := by decide +kernel
theorem dX11_laws_70 : decode cX11_laws 70 = .ok (.iload 4, 2) := by decide +kernel
theorem dX11_laws_72 : decode cX11_laws 72 = .ok (.putfield 95, 3) := by decide +kernel
theorem dX11_laws_75 : decode cX11_laws 75 = .ok (.iload 5, 2) := by decide +kernel
theorem dX11_laws_77 : decode cX11_laws 77 = .ok (.ireturn, 1) := by decide +kernel
def J_X11_laws_60 (c25 : Nat → Int32 → Int32 → Int32 → Int32 → Int32 → e_G → Option (Int32 × e_G)) (S : e_S) (l0 : Nat) (l1 : Int32) (l2 : Int32) (l4 : Int32) (l6 : Int32) (t0 : Int32) (t1 : Int32) (g : e_G) : Option (Int32 × e_G) :=
  c25 l0 l1 l2 l4 (t0 ||| t1) (l6 + (1 : Int32)) g
def L_X11_laws_25 : Nat → e_S → Nat → Int32 → Int32 → Int32 → Int32 → Int32 → e_G → Option (Int32 × e_G)
  | 0, _, _, _, _, _, _, _, _ => none
  | n + 1, S, l0, l1, l2, l4, l5, l6, g =>
  (e_gI S g 11 l0 9).bind fun v1 =>
  if v1 ≤ l6 then
    (e_sI S g 11 l0 10 l4).bind fun g3 =>
    some (l5, g3)
  else
    (e_sI S g 11 l0 10 l6).bind fun g5 =>
    (f_X11_unlike S l0 l1 l2 g5).bind fun q8 =>
    if q8.1 = (-1 : Int32) then
      J_X11_laws_60 (L_X11_laws_25 n S) S l0 l1 l2 l4 l6 l5 ((1 : Int32) <<< (l6 &&& 31)) q8.2
    else
      J_X11_laws_60 (L_X11_laws_25 n S) S l0 l1 l2 l4 l6 l5 (0 : Int32) q8.2
def f_X11_laws (S : e_S) (l0 : Nat) (l1 : Int32) (l2 : Int32) (g : e_G) : Option (Int32 × e_G) :=
  if e_ob S 11 l0 = true then
    (f_X11_toldWrong S l0 l1 l2 g).bind fun q2 =>
    if q2.1 = 0 then
      (e_gI S q2.2 11 l0 10).bind fun v3 =>
      L_X11_laws_25 50000 S l0 l1 l2 v3 (0 : Int32) (0 : Int32) q2.2
    else
      some (q2.1, q2.2)
  else none
theorem x_J_X11_laws_60 {l : Launch} {D : va_G} {S : e_S} {w : Int32} {k : e_G} (c25 : Nat → Int32 → Int32 → Int32 → Int32 → Int32 → e_G → Option (Int32 × e_G)) (hc25 : ∀ (l0 : Nat) (l1 : Int32) (l2 : Int32) (l4 : Int32) (l5 : Int32) (l6 : Int32) (g : e_G), c25 l0 l1 l2 l4 l5 l6 g = some (w, k) → X l D (e_R 7) M_X11_laws 0 0 25 [(0, .ref l0), (1, .int l1), (2, .int l2), (4, .int l4), (5, .int l5), (6, .int l6)] [] (S, g) (some (.int w)) (S, k)) {l0 : Nat} {l1 : Int32} {l2 : Int32} {l4 : Int32} {l6 : Int32} {t0 : Int32} {t1 : Int32} {g : e_G} (hf : J_X11_laws_60 c25 S l0 l1 l2 l4 l6 t0 t1 g = some (w, k)) : X l D (e_R 7) M_X11_laws 0 0 60 [(0, .ref l0), (1, .int l1), (2, .int l2), (4, .int l4), (6, .int l6)] [.int t1, .int t0] (S, g) (some (.int w)) (S, k) := by
  unfold J_X11_laws_60 at hf
  refine X.ior dX11_laws_60 ?_
  refine X.istore dX11_laws_61 (Nat.le_of_ble_eq_true rfl) (lc' := [(5, .int (t0 ||| t1)), (0, .ref l0), (1, .int l1), (2, .int l2), (4, .int l4), (6, .int l6)]) rfl ?_
  refine X.iinc (j := 5) dX11_laws_63 rfl (v := l6 + (1 : Int32)) (by rw [kI_1]) (Nat.le_of_ble_eq_true rfl) (lc' := [(6, .int (l6 + (1 : Int32))), (5, .int (t0 ||| t1)), (0, .ref l0), (1, .int l1), (2, .int l2), (4, .int l4)]) rfl ?_
  refine X.goto dX11_laws_66 (tgt := 25) rfl ?_
  refine X.sub [2, 3, 4, 5, 1, 0] rfl ?_
  exact hc25 _ _ _ _ _ _ _ hf
theorem x_L_X11_laws_25 {l : Launch} {D : va_G} {S : e_S} {w : Int32} {k : e_G} : ∀ (n : Nat) (l0 : Nat) (l1 : Int32) (l2 : Int32) (l4 : Int32) (l5 : Int32) (l6 : Int32) (g : e_G), L_X11_laws_25 n S l0 l1 l2 l4 l5 l6 g = some (w, k) → X l D (e_R 7) M_X11_laws 0 0 25 [(0, .ref l0), (1, .int l1), (2, .int l2), (4, .int l4), (5, .int l5), (6, .int l6)] [] (S, g) (some (.int w)) (S, k) := by
  intro n
  induction n with
  | zero =>
    intro l0 l1 l2 l4 l5 l6 g hf
    cases hf
  | succ n ih =>
    intro l0 l1 l2 l4 l5 l6 g hf
    rw [L_X11_laws_25] at hf
    refine X.iload dX11_laws_25 (j := 5) rfl ?_
    refine X.aload_n dX11_laws_27 rfl (j := 0) rfl ?_
    obtain ⟨v1, h2, hf⟩ := ob hf
    refine Y.getI dX11_laws_28 fl_X11_92 rfl h2 ?_
    refine X.icmp_ge dX11_laws_31 (tgt := 69) rfl (fun hc => ?_) (fun hc => ?_)
    · rw [if_pos hc] at hf
      refine X.aload_n dX11_laws_69 rfl (j := 0) rfl ?_
      refine X.iload dX11_laws_70 (j := 3) rfl ?_
      obtain ⟨g3, h4, hf⟩ := ob hf
      refine Y.putI dX11_laws_72 fl_X11_95 rfl rfl rfl rfl h4 ?_
      refine X.iload dX11_laws_75 (j := 4) rfl ?_
      obtain ⟨e1, e2⟩ := e_ret hf
      subst e1
      subst e2
      exact X.iret dX11_laws_77 rfl rfl
    · rw [if_neg hc] at hf
      refine X.aload_n dX11_laws_34 rfl (j := 0) rfl ?_
      refine X.iload dX11_laws_35 (j := 5) rfl ?_
      obtain ⟨g5, h6, hf⟩ := ob hf
      refine Y.putI dX11_laws_37 fl_X11_95 rfl rfl rfl rfl h6 ?_
      refine X.iload dX11_laws_40 (j := 4) rfl ?_
      refine X.aload_n dX11_laws_42 rfl (j := 0) rfl ?_
      refine X.iload_n dX11_laws_43 rfl (j := 1) rfl ?_
      refine X.iload_n dX11_laws_44 rfl (j := 2) rfl ?_
      obtain ⟨q8, h7, hf⟩ := ob hf
      refine Y.callV (av := [.int l1, .int l2]) (ci := 11) dX11_laws_45 (c_X11_unlike (l := l) (D := D) (w := q8.1) (k := q8.2) h7) cw_X11_268 (by decide) rfl mk_X11_unlike (o_X11_unlike (w := q8.1) (k := q8.2) h7) (e_R_ok (Nat.le_of_ble_eq_true rfl) (Nat.le_of_ble_eq_true rfl)) ⟨rfl, rfl⟩ (by simp [Value.category]) ?_
      refine X.iconst dX11_laws_48 kI_m1 ?_
      refine X.icmp_ne dX11_laws_49 (tgt := 59) rfl (fun hc => ?_) (fun hc => ?_)
      · rw [if_neg hc] at hf
        refine X.iconst dX11_laws_59 kI_0 ?_
        refine X.sub [0, 1, 2, 3, 5] rfl ?_
        exact x_J_X11_laws_60 _ ih hf
      · rw [if_pos hc] at hf
        refine X.iconst dX11_laws_52 kI_1 ?_
        refine X.iload dX11_laws_53 (j := 5) rfl ?_
        refine X.ishl dX11_laws_55 ?_
        refine X.goto dX11_laws_56 (tgt := 60) rfl ?_
        refine X.sub [0, 1, 2, 3, 5] rfl ?_
        exact x_J_X11_laws_60 _ ih hf
theorem o_X11_laws  {S : e_S} {w : Int32} {k : e_G} {l0 : Nat} {l1 : Int32} {l2 : Int32} {g : e_G} (hf : f_X11_laws S l0 l1 l2 g = some (w, k)) : e_ob S 11 l0 = true := by
  unfold f_X11_laws at hf
  by_cases hc : e_ob S 11 l0 = true
  · exact hc
  · rw [if_neg hc] at hf
    cases hf
theorem c_X11_laws {l : Launch} {D : va_G}  {S : e_S} {w : Int32} {k : e_G} {l0 : Nat} {l1 : Int32} {l2 : Int32} {g : e_G} (hf : f_X11_laws S l0 l1 l2 g = some (w, k)) : CT l D (e_R 7) M_X11_laws [.ref l0, .int l1, .int l2] (S, g) (some (.int w)) (S, k) := by
  refine CT.of (by decide +kernel) (Nat.le_of_ble_eq_true rfl) ?_
  have ho := o_X11_laws hf
  unfold f_X11_laws at hf
  rw [if_pos ho] at hf
  show X l D (e_R 7) M_X11_laws 0 0 0 [(0, .ref l0), (1, .int l1), (2, .int l2)] [] (S, g) (some (.int w)) (S, k)
  refine X.aload_n dX11_laws_0 rfl (j := 0) rfl ?_
  refine X.iload_n dX11_laws_1 rfl (j := 1) rfl ?_
  refine X.iload_n dX11_laws_2 rfl (j := 2) rfl ?_
  obtain ⟨q2, h1, hf⟩ := ob hf
  refine Y.callV (av := [.int l1, .int l2]) (ci := 11) dX11_laws_3 (c_X11_toldWrong (l := l) (D := D) (w := q2.1) (k := q2.2) h1) cw_X11_265 (by decide) rfl mk_X11_toldWrong (o_X11_toldWrong (w := q2.1) (k := q2.2) h1) (e_R_ok (Nat.le_of_ble_eq_true rfl) (Nat.le_of_ble_eq_true rfl)) ⟨rfl, rfl⟩ (by simp [Value.category]) ?_
  refine X.istore_n dX11_laws_6 rfl (Nat.le_of_ble_eq_true rfl) (lc' := [(3, .int q2.1), (0, .ref l0), (1, .int l1), (2, .int l2)]) rfl ?_
  refine X.iload_n dX11_laws_7 rfl (j := 0) rfl ?_
  refine X.if_eq dX11_laws_8 (tgt := 13) rfl (fun hc => ?_) (fun hc => ?_)
  · rw [if_pos hc] at hf
    refine X.aload_n dX11_laws_13 rfl (j := 1) rfl ?_
    obtain ⟨v3, h4, hf⟩ := ob hf
    refine Y.getI dX11_laws_14 fl_X11_95 rfl h4 ?_
    refine X.istore dX11_laws_17 (Nat.le_of_ble_eq_true rfl) (lc' := [(4, .int v3), (3, .int q2.1), (0, .ref l0), (1, .int l1), (2, .int l2)]) rfl ?_
    refine X.iconst dX11_laws_19 kI_0 ?_
    refine X.istore dX11_laws_20 (Nat.le_of_ble_eq_true rfl) (lc' := [(5, .int (0 : Int32)), (4, .int v3), (3, .int q2.1), (0, .ref l0), (1, .int l1), (2, .int l2)]) rfl ?_
    refine X.iconst dX11_laws_22 kI_0 ?_
    refine X.istore dX11_laws_23 (Nat.le_of_ble_eq_true rfl) (lc' := [(6, .int (0 : Int32)), (5, .int (0 : Int32)), (4, .int v3), (3, .int q2.1), (0, .ref l0), (1, .int l1), (2, .int l2)]) rfl ?_
    refine X.sub [4, 5, 6, 2, 1, 0] rfl ?_
    exact x_L_X11_laws_25 50000 _ _ _ _ _ _ _ hf
  · rw [if_neg hc] at hf
    refine X.iload_n dX11_laws_11 rfl (j := 0) rfl ?_
    obtain ⟨e1, e2⟩ := e_ret hf
    subst e1
    subst e2
    exact X.iret dX11_laws_12 rfl rfl
/-! LeanedOutModel.film(III)I -/
abbrev M_X11_film : e_M := (yX11_film, cX11_film, 5, (some .int))
theorem mk_X11_film : e_Mok M_X11_film 3 := ⟨by decide +kernel, by decide +kernel, by decide +kernel⟩
theorem dX11_film_0 : decode cX11_film 0 = .ok (.iload_n 1, 1) := by decide +kernel
theorem dX11_film_1 : decode cX11_film 1 = .ok (.iconst 0, 1) := by decide +kernel
theorem dX11_film_2 : decode cX11_film 2 = .ok (.iconst 3, 1) := by decide +kernel
theorem dX11_film_3 : decode cX11_film 3 = .ok (.invokestatic 78, 3) := by decide +kernel
theorem dX11_film_6 : decode cX11_film 6 = .ok (.ifCond .ne 6, 3) := by decide +kernel
theorem dX11_film_9 : decode cX11_film 9 = .ok (.bipush (-2), 2) := by decide +kernel
theorem dX11_film_11 : decode cX11_film 11 = .ok (.ireturn, 1) := by decide +kernel
theorem dX11_film_12 : decode cX11_film 12 = .ok (.aload_n 0, 1) := by decide +kernel
theorem dX11_film_13 : decode cX11_film 13 = .ok (.iload_n 2, 1) := by decide +kernel
theorem dX11_film_14 : decode cX11_film 14 = .ok (.invokevirtual 179, 3) := by decide +kernel
theorem dX11_film_17 : decode cX11_film 17 = .ok (.ifCond .ne 6, 3) := by decide +kernel
theorem dX11_film_20 : decode cX11_film 20 = .ok (.bipush (-5), 2) := by decide +kernel
theorem dX11_film_22 : decode cX11_film 22 = .ok (.ireturn, 1) := by decide +kernel
theorem dX11_film_23 : decode cX11_film 23 = .ok (.iload_n 3, 1) := by decide +kernel
theorem dX11_film_24 : decode cX11_film 24 = .ok (.iconst 0, 1) := by decide +kernel
theorem dX11_film_25 : decode cX11_film 25 = .ok (.bipush 20, 2) := by decide +kernel
theorem dX11_film_27 : decode cX11_film 27 = .ok (.invokestatic 78, 3) := by decide +kernel
theorem dX11_film_30 : decode cX11_film 30 = .ok (.ifCond .ne 6, 3) := by decide +kernel
theorem dX11_film_33 : decode cX11_film 33 = .ok (.bipush (-7), 2) := by decide +kernel
theorem dX11_film_35 : decode cX11_film 35 = .ok (.ireturn, 1) := by decide +kernel
theorem dX11_film_36 : decode cX11_film 36 = .ok (.aload_n 0, 1) := by decide +kernel
theorem dX11_film_37 : decode cX11_film 37 = .ok (.getfield 34, 3) := by decide +kernel
theorem dX11_film_40 : decode cX11_film 40 = .ok (.iload_n 1, 1) := by decide +kernel
theorem dX11_film_41 : decode cX11_film 41 = .ok (.iconst 0, 1) := by decide +kernel
theorem dX11_film_42 : decode cX11_film 42 = .ok (.iastore, 1) := by decide +kernel
theorem dX11_film_43 : decode cX11_film 43 = .ok (.aload_n 0, 1) := by decide +kernel
theorem dX11_film_44 : decode cX11_film 44 = .ok (.getfield 37, 3) := by decide +kernel
theorem dX11_film_47 : decode cX11_film 47 = .ok (.iload_n 1, 1) := by decide +kernel
theorem dX11_film_48 : decode cX11_film 48 = .ok (.iload_n 3, 1) := by decide +kernel
theorem dX11_film_49 : decode cX11_film 49 = .ok (.iastore, 1) := by decide +kernel
theorem dX11_film_50 : decode cX11_film 50 = .ok (.aload_n 0, 1) := by decide +kernel
theorem dX11_film_51 : decode cX11_film 51 = .ok (.invokevirtual 223, 3) := by decide +kernel
theorem dX11_film_54 : decode cX11_film 54 = .ok (.iconst 0, 1) := by decide +kernel
theorem dX11_film_55 : decode cX11_film 55 = .ok (.istore 4, 2) := by decide +kernel
theorem dX11_film_57 : decode cX11_film 57 = .ok (.iload 4, 2) := by decide +kernel
theorem dX11_film_59 : decode cX11_film 59 = .ok (.bipush 40, 2) := by decide +kernel
theorem dX11_film_61 : decode cX11_film 61 = .ok (.if_icmp .ge 55, 3) := by decide +kernel
theorem dX11_film_64 : decode cX11_film 64 = .ok (.aload_n 0, 1) := by decide +kernel
theorem dX11_film_65 : decode cX11_film 65 = .ok (.getfield 40, 3) := by decide +kernel
theorem dX11_film_68 : decode cX11_film 68 = .ok (.bipush 40, 2) := by decide +kernel
theorem dX11_film_70 : decode cX11_film 70 = .ok (.iload_n 1, 1) := by decide +kernel
theorem dX11_film_71 : decode cX11_film 71 = .ok (.imul, 1) := by decide +kernel
theorem dX11_film_72 : decode cX11_film 72 = .ok (.iload 4, 2) := by decide +kernel
theorem dX11_film_74 : decode cX11_film 74 = .ok (.iadd, 1) := by decide +kernel
theorem dX11_film_75 : decode cX11_film 75 = .ok (.iconst 0, 1) := by decide +kernel
theorem dX11_film_76 : decode cX11_film 76 = .ok (.iastore, 1) := by decide +kernel
theorem dX11_film_77 : decode cX11_film 77 = .ok (.iload 4, 2) := by decide +kernel
theorem dX11_film_79 : decode cX11_film 79 = .ok (.iload_n 3, 1) := by decide +kernel
theorem dX11_film_80 : decode cX11_film 80 = .ok (.if_icmp .ge 30, 3) := by decide +kernel
theorem dX11_film_83 : decode cX11_film 83 = .ok (.aload_n 0, 1) := by decide +kernel
theorem dX11_film_84 : decode cX11_film 84 = .ok (.invokevirtual 219, 3) := by decide +kernel
theorem dX11_film_87 : decode cX11_film 87 = .ok (.pop, 1) := by decide +kernel
theorem dX11_film_88 : decode cX11_film 88 = .ok (.aload_n 0, 1) := by decide +kernel
theorem dX11_film_89 : decode cX11_film 89 = .ok (.getfield 40, 3) := by decide +kernel
theorem dX11_film_92 : decode cX11_film 92 = .ok (.bipush 40, 2) := by decide +kernel
theorem dX11_film_94 : decode cX11_film 94 = .ok (.iload_n 1, 1) := by decide +kernel
theorem dX11_film_95 : decode cX11_film 95 = .ok (.imul, 1) := by decide +kernel
theorem dX11_film_96 : decode cX11_film 96 = .ok (.iload 4, 2) := by decide +kernel
theorem dX11_film_98 : decode cX11_film 98 = .ok (.iadd, 1) := by decide +kernel
theorem dX11_film_99 : decode cX11_film 99 = .ok (.aload_n 0, 1) := by decide +kernel
theorem dX11_film_100 : decode cX11_film 100 = .ok (.getfield 16, 3) := by decide +kernel
theorem dX11_film_103 : decode cX11_film 103 = .ok (.iconst 4, 1) := by decide +kernel
theorem dX11_film_104 : decode cX11_film 104 = .ok (.iload_n 2, 1) := by decide +kernel
theorem dX11_film_105 : decode cX11_film 105 = .ok (.imul, 1) := by decide +kernel
theorem dX11_film_106 : decode cX11_film 106 = .ok (.iconst 2, 1) := by decide +kernel
theorem dX11_film_107 : decode cX11_film 107 = .ok (.iadd, 1) := by decide +kernel
theorem dX11_film_108 : decode cX11_film 108 = .ok (.iaload, 1) := by decide +kernel
theorem dX11_film_109 : decode cX11_film 109 = .ok (.iastore, 1) := by decide +kernel
theorem dX11_film_110 : decode cX11_film 110 = .ok (.iinc 4 1, 3) := by decide +kernel
theorem dX11_film_113 : decode cX11_film 113 = .ok (.goto (-56), 3) := by decide +kernel
theorem dX11_film_116 : decode cX11_film 116 = .ok (.aload_n 0, 1) := by decide +kernel
theorem dX11_film_117 : decode cX11_film 117 = .ok (.invokevirtual 235, 3) := by decide +kernel
theorem dX11_film_120 : decode cX11_film 120 = .ok (.iload_n 3, 1) := by decide +kernel
theorem dX11_film_121 : decode cX11_film 121 = .ok (.ireturn, 1) := by decide +kernel
def J_X11_film_110 (c57 : Nat → Int32 → Int32 → Int32 → Int32 → e_G → Option (Int32 × e_G)) (S : e_S) (l0 : Nat) (l1 : Int32) (l2 : Int32) (l3 : Int32) (l4 : Int32) (g : e_G) : Option (Int32 × e_G) :=
  c57 l0 l1 l2 l3 (l4 + (1 : Int32)) g
def L_X11_film_57 : Nat → e_S → Nat → Int32 → Int32 → Int32 → Int32 → e_G → Option (Int32 × e_G)
  | 0, _, _, _, _, _, _, _ => none
  | n + 1, S, l0, l1, l2, l3, l4, g =>
  if (40 : Int32) ≤ l4 then
    (f_X11_lays S l0 g).bind fun q2 =>
    some (l3, q2)
  else
    (e_gR S g 11 l0 16).bind fun v3 =>
    (e_aS S g 0 v3 (((40 : Int32) * l1) + l4) (0 : Int32)).bind fun g5 =>
    if l3 ≤ l4 then
      J_X11_film_110 (L_X11_film_57 n S) S l0 l1 l2 l3 l4 g5
    else
      (f_X11_dayOf S l0 g5).bind fun q8 =>
      (e_gR S q8.2 11 l0 16).bind fun v9 =>
      (e_gR S q8.2 11 l0 3).bind fun v11 =>
      (e_aI S q8.2 0 v11 (((4 : Int32) * l2) + (2 : Int32))).bind fun v13 =>
      (e_aS S q8.2 0 v9 (((40 : Int32) * l1) + l4) v13).bind fun g15 =>
      J_X11_film_110 (L_X11_film_57 n S) S l0 l1 l2 l3 l4 g15
def f_X11_film (S : e_S) (l0 : Nat) (l1 : Int32) (l2 : Int32) (l3 : Int32) (g : e_G) : Option (Int32 × e_G) :=
  if e_ob S 11 l0 = true then
    (f_X11_in S l1 (0 : Int32) (3 : Int32) g).bind fun q2 =>
    if q2.1 = 0 then
      some ((-2 : Int32), q2.2)
    else
      (f_X11_isOne S l0 l2 q2.2).bind fun q4 =>
      if q4.1 = 0 then
        some ((-5 : Int32), q4.2)
      else
        (f_X11_in S l3 (0 : Int32) (20 : Int32) q4.2).bind fun q6 =>
        if q6.1 = 0 then
          some ((-7 : Int32), q6.2)
        else
          (e_gR S q6.2 11 l0 14).bind fun v7 =>
          (e_aS S q6.2 0 v7 l1 (0 : Int32)).bind fun g9 =>
          (e_gR S g9 11 l0 15).bind fun v11 =>
          (e_aS S g9 0 v11 l1 l3).bind fun g13 =>
          (f_X11_keepsAll S l0 g13).bind fun q16 =>
          L_X11_film_57 50000 S l0 l1 l2 l3 (0 : Int32) q16
  else none
theorem x_J_X11_film_110 {l : Launch} {D : va_G} {S : e_S} {w : Int32} {k : e_G} (c57 : Nat → Int32 → Int32 → Int32 → Int32 → e_G → Option (Int32 × e_G)) (hc57 : ∀ (l0 : Nat) (l1 : Int32) (l2 : Int32) (l3 : Int32) (l4 : Int32) (g : e_G), c57 l0 l1 l2 l3 l4 g = some (w, k) → X l D (e_R 6) M_X11_film 0 0 57 [(0, .ref l0), (1, .int l1), (2, .int l2), (3, .int l3), (4, .int l4)] [] (S, g) (some (.int w)) (S, k)) {l0 : Nat} {l1 : Int32} {l2 : Int32} {l3 : Int32} {l4 : Int32} {g : e_G} (hf : J_X11_film_110 c57 S l0 l1 l2 l3 l4 g = some (w, k)) : X l D (e_R 6) M_X11_film 0 0 110 [(0, .ref l0), (1, .int l1), (2, .int l2), (3, .int l3), (4, .int l4)] [] (S, g) (some (.int w)) (S, k) := by
  unfold J_X11_film_110 at hf
  refine X.iinc (j := 4) dX11_film_110 rfl (v := l4 + (1 : Int32)) (by rw [kI_1]) (Nat.le_of_ble_eq_true rfl) (lc' := [(4, .int (l4 + (1 : Int32))), (0, .ref l0), (1, .int l1), (2, .int l2), (3, .int l3)]) rfl ?_
  refine X.goto dX11_film_113 (tgt := 57) rfl ?_
  refine X.sub [1, 2, 3, 4, 0] rfl ?_
  exact hc57 _ _ _ _ _ _ hf
theorem x_L_X11_film_57 {l : Launch} {D : va_G} {S : e_S} {w : Int32} {k : e_G} : ∀ (n : Nat) (l0 : Nat) (l1 : Int32) (l2 : Int32) (l3 : Int32) (l4 : Int32) (g : e_G), L_X11_film_57 n S l0 l1 l2 l3 l4 g = some (w, k) → X l D (e_R 6) M_X11_film 0 0 57 [(0, .ref l0), (1, .int l1), (2, .int l2), (3, .int l3), (4, .int l4)] [] (S, g) (some (.int w)) (S, k) := by
  intro n
  induction n with
  | zero =>
    intro l0 l1 l2 l3 l4 g hf
    cases hf
  | succ n ih =>
    intro l0 l1 l2 l3 l4 g hf
    rw [L_X11_film_57] at hf
    refine X.iload dX11_film_57 (j := 4) rfl ?_
    refine X.bipush dX11_film_59 kB_40 ?_
    refine X.icmp_ge dX11_film_61 (tgt := 116) rfl (fun hc => ?_) (fun hc => ?_)
    · rw [if_pos hc] at hf
      refine X.aload_n dX11_film_116 rfl (j := 0) rfl ?_
      obtain ⟨q2, h1, hf⟩ := ob hf
      refine Y.callV (av := []) (ci := 11) dX11_film_117 (c_X11_lays (l := l) (D := D) h1) cw_X11_235 (by decide) rfl mk_X11_lays (o_X11_lays (k := q2) h1) (e_R_ok (Nat.le_of_ble_eq_true rfl) (Nat.le_of_ble_eq_true rfl)) ⟨rfl, rfl⟩ (by simp [Value.category]) ?_
      refine X.iload_n dX11_film_120 rfl (j := 3) rfl ?_
      obtain ⟨e1, e2⟩ := e_ret hf
      subst e1
      subst e2
      exact X.iret dX11_film_121 rfl rfl
    · rw [if_neg hc] at hf
      refine X.aload_n dX11_film_64 rfl (j := 0) rfl ?_
      obtain ⟨v3, h4, hf⟩ := ob hf
      refine Y.getR dX11_film_65 fl_X11_40 rfl h4 ?_
      refine X.bipush dX11_film_68 kB_40 ?_
      refine X.iload_n dX11_film_70 rfl (j := 1) rfl ?_
      refine X.imul dX11_film_71 ?_
      refine X.iload dX11_film_72 (j := 4) rfl ?_
      refine X.iadd dX11_film_74 ?_
      refine X.iconst dX11_film_75 kI_0 ?_
      obtain ⟨g5, h6, hf⟩ := ob hf
      refine Y.iast dX11_film_76 h6 ?_
      refine X.iload dX11_film_77 (j := 4) rfl ?_
      refine X.iload_n dX11_film_79 rfl (j := 3) rfl ?_
      refine X.icmp_ge dX11_film_80 (tgt := 110) rfl (fun hc => ?_) (fun hc => ?_)
      · rw [if_pos hc] at hf
        exact x_J_X11_film_110 _ ih hf
      · rw [if_neg hc] at hf
        refine X.aload_n dX11_film_83 rfl (j := 0) rfl ?_
        obtain ⟨q8, h7, hf⟩ := ob hf
        refine Y.callV (av := []) (ci := 11) dX11_film_84 (c_X11_dayOf (l := l) (D := D) (w := q8.1) (k := q8.2) h7) cw_X11_219 (by decide) rfl mk_X11_dayOf (o_X11_dayOf (w := q8.1) (k := q8.2) h7) (e_R_ok (Nat.le_of_ble_eq_true rfl) (Nat.le_of_ble_eq_true rfl)) ⟨rfl, rfl⟩ (by simp [Value.category]) ?_
        refine X.pop dX11_film_87 rfl ?_
        refine X.aload_n dX11_film_88 rfl (j := 0) rfl ?_
        obtain ⟨v9, h10, hf⟩ := ob hf
        refine Y.getR dX11_film_89 fl_X11_40 rfl h10 ?_
        refine X.bipush dX11_film_92 kB_40 ?_
        refine X.iload_n dX11_film_94 rfl (j := 1) rfl ?_
        refine X.imul dX11_film_95 ?_
        refine X.iload dX11_film_96 (j := 4) rfl ?_
        refine X.iadd dX11_film_98 ?_
        refine X.aload_n dX11_film_99 rfl (j := 0) rfl ?_
        obtain ⟨v11, h12, hf⟩ := ob hf
        refine Y.getR dX11_film_100 fl_X11_16 rfl h12 ?_
        refine X.iconst dX11_film_103 kI_4 ?_
        refine X.iload_n dX11_film_104 rfl (j := 2) rfl ?_
        refine X.imul dX11_film_105 ?_
        refine X.iconst dX11_film_106 kI_2 ?_
        refine X.iadd dX11_film_107 ?_
        obtain ⟨v13, h14, hf⟩ := ob hf
        refine Y.iald dX11_film_108 h14 ?_
        obtain ⟨g15, h16, hf⟩ := ob hf
        refine Y.iast dX11_film_109 h16 ?_
        exact x_J_X11_film_110 _ ih hf
theorem o_X11_film  {S : e_S} {w : Int32} {k : e_G} {l0 : Nat} {l1 : Int32} {l2 : Int32} {l3 : Int32} {g : e_G} (hf : f_X11_film S l0 l1 l2 l3 g = some (w, k)) : e_ob S 11 l0 = true := by
  unfold f_X11_film at hf
  by_cases hc : e_ob S 11 l0 = true
  · exact hc
  · rw [if_neg hc] at hf
    cases hf
theorem c_X11_film {l : Launch} {D : va_G}  {S : e_S} {w : Int32} {k : e_G} {l0 : Nat} {l1 : Int32} {l2 : Int32} {l3 : Int32} {g : e_G} (hf : f_X11_film S l0 l1 l2 l3 g = some (w, k)) : CT l D (e_R 6) M_X11_film [.ref l0, .int l1, .int l2, .int l3] (S, g) (some (.int w)) (S, k) := by
  refine CT.of (by decide +kernel) (Nat.le_of_ble_eq_true rfl) ?_
  have ho := o_X11_film hf
  unfold f_X11_film at hf
  rw [if_pos ho] at hf
  show X l D (e_R 6) M_X11_film 0 0 0 [(0, .ref l0), (1, .int l1), (2, .int l2), (3, .int l3)] [] (S, g) (some (.int w)) (S, k)
  refine X.iload_n dX11_film_0 rfl (j := 1) rfl ?_
  refine X.iconst dX11_film_1 kI_0 ?_
  refine X.iconst dX11_film_2 kI_3 ?_
  obtain ⟨q2, h1, hf⟩ := ob hf
  refine Y.callS (av := [.int l1, .int (0 : Int32), .int (3 : Int32)]) dX11_film_3 (c_X11_in (l := l) (D := D) (w := q2.1) (k := q2.2) h1) cw_X11_78 mk_X11_in (e_R_ok (Nat.le_of_ble_eq_true rfl) (Nat.le_of_ble_eq_true rfl)) ⟨rfl, rfl⟩ (by simp [Value.category]) ?_
  refine X.if_ne dX11_film_6 (tgt := 12) rfl (fun hc => ?_) (fun hc => ?_)
  · rw [if_neg hc] at hf
    refine X.aload_n dX11_film_12 rfl (j := 0) rfl ?_
    refine X.iload_n dX11_film_13 rfl (j := 2) rfl ?_
    obtain ⟨q4, h3, hf⟩ := ob hf
    refine Y.callV (av := [.int l2]) (ci := 11) dX11_film_14 (c_X11_isOne (l := l) (D := D) (w := q4.1) (k := q4.2) h3) cw_X11_179 (by decide) rfl mk_X11_isOne (o_X11_isOne (w := q4.1) (k := q4.2) h3) (e_R_ok (Nat.le_of_ble_eq_true rfl) (Nat.le_of_ble_eq_true rfl)) ⟨rfl, rfl⟩ (by simp [Value.category]) ?_
    refine X.if_ne dX11_film_17 (tgt := 23) rfl (fun hc => ?_) (fun hc => ?_)
    · rw [if_neg hc] at hf
      refine X.iload_n dX11_film_23 rfl (j := 3) rfl ?_
      refine X.iconst dX11_film_24 kI_0 ?_
      refine X.bipush dX11_film_25 kB_20 ?_
      obtain ⟨q6, h5, hf⟩ := ob hf
      refine Y.callS (av := [.int l3, .int (0 : Int32), .int (20 : Int32)]) dX11_film_27 (c_X11_in (l := l) (D := D) (w := q6.1) (k := q6.2) h5) cw_X11_78 mk_X11_in (e_R_ok (Nat.le_of_ble_eq_true rfl) (Nat.le_of_ble_eq_true rfl)) ⟨rfl, rfl⟩ (by simp [Value.category]) ?_
      refine X.if_ne dX11_film_30 (tgt := 36) rfl (fun hc => ?_) (fun hc => ?_)
      · rw [if_neg hc] at hf
        refine X.aload_n dX11_film_36 rfl (j := 0) rfl ?_
        obtain ⟨v7, h8, hf⟩ := ob hf
        refine Y.getR dX11_film_37 fl_X11_34 rfl h8 ?_
        refine X.iload_n dX11_film_40 rfl (j := 1) rfl ?_
        refine X.iconst dX11_film_41 kI_0 ?_
        obtain ⟨g9, h10, hf⟩ := ob hf
        refine Y.iast dX11_film_42 h10 ?_
        refine X.aload_n dX11_film_43 rfl (j := 0) rfl ?_
        obtain ⟨v11, h12, hf⟩ := ob hf
        refine Y.getR dX11_film_44 fl_X11_37 rfl h12 ?_
        refine X.iload_n dX11_film_47 rfl (j := 1) rfl ?_
        refine X.iload_n dX11_film_48 rfl (j := 3) rfl ?_
        obtain ⟨g13, h14, hf⟩ := ob hf
        refine Y.iast dX11_film_49 h14 ?_
        refine X.aload_n dX11_film_50 rfl (j := 0) rfl ?_
        obtain ⟨q16, h15, hf⟩ := ob hf
        refine Y.callV (av := []) (ci := 11) dX11_film_51 (c_X11_keepsAll (l := l) (D := D) h15) cw_X11_223 (by decide) rfl mk_X11_keepsAll (o_X11_keepsAll (k := q16) h15) (e_R_ok (Nat.le_of_ble_eq_true rfl) (Nat.le_of_ble_eq_true rfl)) ⟨rfl, rfl⟩ (by simp [Value.category]) ?_
        refine X.iconst dX11_film_54 kI_0 ?_
        refine X.istore dX11_film_55 (Nat.le_of_ble_eq_true rfl) (lc' := [(4, .int (0 : Int32)), (0, .ref l0), (1, .int l1), (2, .int l2), (3, .int l3)]) rfl ?_
        refine X.sub [1, 2, 3, 4, 0] rfl ?_
        exact x_L_X11_film_57 50000 _ _ _ _ _ _ hf
      · rw [if_pos hc] at hf
        refine X.bipush dX11_film_33 kB_m7 ?_
        obtain ⟨e1, e2⟩ := e_ret hf
        subst e1
        subst e2
        exact X.iret dX11_film_35 rfl rfl
    · rw [if_pos hc] at hf
      refine X.bipush dX11_film_20 kB_m5 ?_
      obtain ⟨e1, e2⟩ := e_ret hf
      subst e1
      subst e2
      exact X.iret dX11_film_22 rfl rfl
  · rw [if_pos hc] at hf
    refine X.bipush dX11_film_9 kB_m2 ?_
    obtain ⟨e1, e2⟩ := e_ret hf
    subst e1
    subst e2
    exact X.iret dX11_film_11 rfl rfl
/-! LeanedOutModel.cranes(I)I -/
abbrev M_X11_cranes : e_M := (yX11_cranes, cX11_cranes, 6, (some .int))
theorem mk_X11_cranes : e_Mok M_X11_cranes 1 := ⟨by decide +kernel, by decide +kernel, by decide +kernel⟩
theorem dX11_cranes_0 : decode cX11_cranes 0 = .ok (.iload_n 1, 1) := by decide +kernel
theorem dX11_cranes_1 : decode cX11_cranes 1 = .ok (.i2l, 1) := by decide +kernel
theorem dX11_cranes_2 : decode cX11_cranes 2 = .ok (.lconst 1, 1) := by decide +kernel
theorem dX11_cranes_3 : decode cX11_cranes 3 = .ok (.ladd, 1) := by decide +kernel
theorem dX11_cranes_4 : decode cX11_cranes 4 = .ok (.lstore_n 2, 1) := by decide +kernel
theorem dX11_cranes_5 : decode cX11_cranes 5 = .ok (.aload_n 0, 1) := by decide +kernel
theorem dX11_cranes_6 : decode cX11_cranes 6 = .ok (.invokevirtual 223, 3) := by decide +kernel
theorem dX11_cranes_9 : decode cX11_cranes 9 = .ok (.iconst 0, 1) := by decide +kernel
theorem dX11_cranes_10 : decode cX11_cranes 10 = .ok (.istore 4, 2) := by decide +kernel
theorem dX11_cranes_12 : decode cX11_cranes 12 = .ok (.iload 4, 2) := by decide +kernel
theorem dX11_cranes_14 : decode cX11_cranes 14 = .ok (.bipush 8, 2) := by decide +kernel
theorem dX11_cranes_16 : decode cX11_cranes 16 = .ok (.if_icmp .ge 91, 3) := by decide +kernel
theorem dX11_cranes_19 : decode cX11_cranes 19 = .ok (.lload_n 2, 1) := by decide +kernel
theorem dX11_cranes_20 : decode cX11_cranes 20 = .ok (.ldc2_w 271, 3) := by decide +kernel
theorem dX11_cranes_23 : decode cX11_cranes 23 = .ok (.lmul, 1) := by decide +kernel
theorem dX11_cranes_24 : decode cX11_cranes 24 = .ok (.ldc2_w 273, 3) := by decide +kernel
theorem dX11_cranes_27 : decode cX11_cranes 27 = .ok (.lrem, 1) := by decide +kernel
theorem dX11_cranes_28 : decode cX11_cranes 28 = .ok (.lstore_n 2, 1) := by decide +kernel
theorem dX11_cranes_29 : decode cX11_cranes 29 = .ok (.lload_n 2, 1) := by decide +kernel
theorem dX11_cranes_30 : decode cX11_cranes 30 = .ok (.ldc2_w 275, 3) := by decide +kernel
theorem dX11_cranes_33 : decode cX11_cranes 33 = .ok (.lrem, 1) := by decide +kernel
theorem dX11_cranes_34 : decode cX11_cranes 34 = .ok (.l2i, 1) := by decide +kernel
theorem dX11_cranes_35 : decode cX11_cranes 35 = .ok (.iconst 0, 1) := by decide +kernel
theorem dX11_cranes_36 : decode cX11_cranes 36 = .ok (.iconst 5, 1) := by decide +kernel
theorem dX11_cranes_37 : decode cX11_cranes 37 = .ok (.invokestatic 167, 3) := by decide +kernel
theorem dX11_cranes_40 : decode cX11_cranes 40 = .ok (.istore 5, 2) := by decide +kernel
theorem dX11_cranes_42 : decode cX11_cranes 42 = .ok (.lload_n 2, 1) := by decide +kernel
theorem dX11_cranes_43 : decode cX11_cranes 43 = .ok (.ldc2_w 271, 3) := by decide +kernel
theorem dX11_cranes_46 : decode cX11_cranes 46 = .ok (.lmul, 1) := by decide +kernel
theorem dX11_cranes_47 : decode cX11_cranes 47 = .ok (.ldc2_w 273, 3) := by decide +kernel
theorem dX11_cranes_50 : decode cX11_cranes 50 = .ok (.lrem, 1) := by decide +kernel
theorem dX11_cranes_51 : decode cX11_cranes 51 = .ok (.lstore_n 2, 1) := by decide +kernel
theorem dX11_cranes_52 : decode cX11_cranes 52 = .ok (.iload 5, 2) := by decide +kernel
theorem dX11_cranes_54 : decode cX11_cranes 54 = .ok (.aload_n 0, 1) := by decide +kernel
theorem dX11_cranes_55 : decode cX11_cranes 55 = .ok (.getfield 75, 3) := by decide +kernel
theorem dX11_cranes_58 : decode cX11_cranes 58 = .ok (.if_icmp .ge 38, 3) := by decide +kernel
theorem dX11_cranes_61 : decode cX11_cranes 61 = .ok (.aload_n 0, 1) := by decide +kernel
theorem dX11_cranes_62 : decode cX11_cranes 62 = .ok (.getfield 16, 3) := by decide +kernel
theorem dX11_cranes_65 : decode cX11_cranes 65 = .ok (.iconst 4, 1) := by decide +kernel
theorem dX11_cranes_66 : decode cX11_cranes 66 = .ok (.iload 5, 2) := by decide +kernel
theorem dX11_cranes_68 : decode cX11_cranes 68 = .ok (.imul, 1) := by decide +kernel
theorem dX11_cranes_69 : decode cX11_cranes 69 = .ok (.iconst 1, 1) := by decide +kernel
theorem dX11_cranes_70 : decode cX11_cranes 70 = .ok (.iadd, 1) := by decide +kernel
theorem dX11_cranes_71 : decode cX11_cranes 71 = .ok (.bipush 10, 2) := by decide +kernel
theorem dX11_cranes_73 : decode cX11_cranes 73 = .ok (.iconst 1, 1) := by decide +kernel
theorem dX11_cranes_74 : decode cX11_cranes 74 = .ok (.aload_n 0, 1) := by decide +kernel
theorem dX11_cranes_75 : decode cX11_cranes 75 = .ok (.getfield 16, 3) := by decide +kernel
theorem dX11_cranes_78 : decode cX11_cranes 78 = .ok (.iconst 4, 1) := by decide +kernel
theorem dX11_cranes_79 : decode cX11_cranes 79 = .ok (.iload 5, 2) := by decide +kernel
theorem dX11_cranes_81 : decode cX11_cranes 81 = .ok (.imul, 1) := by decide +kernel
theorem dX11_cranes_82 : decode cX11_cranes 82 = .ok (.iaload, 1) := by decide +kernel
theorem dX11_cranes_83 : decode cX11_cranes 83 = .ok (.bipush 10, 2) := by decide +kernel
theorem dX11_cranes_85 : decode cX11_cranes 85 = .ok (.idiv, 1) := by decide +kernel
theorem dX11_cranes_86 : decode cX11_cranes 86 = .ok (.isub, 1) := by decide +kernel
theorem dX11_cranes_87 : decode cX11_cranes 87 = .ok (.imul, 1) := by decide +kernel
theorem dX11_cranes_88 : decode cX11_cranes 88 = .ok (.lload_n 2, 1) := by decide +kernel
theorem dX11_cranes_89 : decode cX11_cranes 89 = .ok (.ldc2_w 277, 3) := by decide +kernel
theorem dX11_cranes_92 : decode cX11_cranes 92 = .ok (.lrem, 1) := by decide +kernel
theorem dX11_cranes_93 : decode cX11_cranes 93 = .ok (.l2i, 1) := by decide +kernel
theorem dX11_cranes_94 : decode cX11_cranes 94 = .ok (.iadd, 1) := by decide +kernel
theorem dX11_cranes_95 : decode cX11_cranes 95 = .ok (.iastore, 1) := by decide +kernel
theorem dX11_cranes_96 : decode cX11_cranes 96 = .ok (.aload_n 0, 1) := by decide +kernel
theorem dX11_cranes_97 : decode cX11_cranes 97 = .ok (.invokevirtual 219, 3) := by decide +kernel
theorem dX11_cranes_100 : decode cX11_cranes 100 = .ok (.pop, 1) := by decide +kernel
theorem dX11_cranes_101 : decode cX11_cranes 101 = .ok (.iinc 4 1, 3) := by decide +kernel
theorem dX11_cranes_104 : decode cX11_cranes 104 = .ok (.goto (-92), 3) := by decide +kernel
theorem dX11_cranes_107 : decode cX11_cranes 107 = .ok (.aload_n 0, 1) := by decide +kernel
theorem dX11_cranes_108 : decode cX11_cranes 108 = .ok (.invokevirtual 82, 3) := by decide +kernel
theorem dX11_cranes_111 : decode cX11_cranes 111 = .ok (.istore 4, 2) := by decide +kernel
theorem dX11_cranes_113 : decode cX11_cranes 113 = .ok (.aload_n 0, 1) := by decide +kernel
theorem dX11_cranes_114 : decode cX11_cranes 114 = .ok (.aload_n 0, 1) := by decide +kernel
theorem dX11_cranes_115 : decode cX11_cranes 115 = .ok (.invokevirtual 207, 3) := by decide +kernel
theorem dX11_cranes_118 : decode cX11_cranes 118 = .ok (.putfield 279, 3) := by decide +kernel
theorem dX11_cranes_121 : decode cX11_cranes 121 = .ok (.aload_n 0, 1) := by decide +kernel
theorem dX11_cranes_122 : decode cX11_cranes 122 = .ok (.invokevirtual 235, 3) := by decide +kernel
theorem dX11_cranes_125 : decode cX11_cranes 125 = .ok (.iload 4, 2) := by decide +kernel
theorem dX11_cranes_127 : decode cX11_cranes 127 = .ok (.ireturn, 1) := by decide +kernel
def J_X11_cranes_96 (c12 : Nat → Int64 → Int32 → e_G → Option (Int32 × e_G)) (S : e_S) (l0 : Nat) (l2 : Int64) (l4 : Int32) (g : e_G) : Option (Int32 × e_G) :=
  (f_X11_dayOf S l0 g).bind fun q2 =>
  c12 l0 l2 (l4 + (1 : Int32)) q2.2
def L_X11_cranes_12 : Nat → e_S → Nat → Int64 → Int32 → e_G → Option (Int32 × e_G)
  | 0, _, _, _, _, _ => none
  | n + 1, S, l0, l2, l4, g =>
  if (8 : Int32) ≤ l4 then
    (f_X11_keptSet S l0 g).bind fun q2 =>
    (f_X11_metTwos S l0 q2.2).bind fun q4 =>
    (e_sI S q4.2 11 l0 34 q4.1).bind fun g5 =>
    (f_X11_lays S l0 g5).bind fun q8 =>
    some (q2.1, q8)
  else
    (f_X11_within S ((l_rem (l_rem (l2 * (48271 : Int64)) (2147483647 : Int64)) (6 : Int64)).toInt32) (0 : Int32) (5 : Int32) g).bind fun q10 =>
    (e_gI S q10.2 11 l0 0).bind fun v11 =>
    if v11 ≤ q10.1 then
      J_X11_cranes_96 (L_X11_cranes_12 n S) S l0 (l_rem ((l_rem (l2 * (48271 : Int64)) (2147483647 : Int64)) * (48271 : Int64)) (2147483647 : Int64)) l4 q10.2
    else
      (e_gR S q10.2 11 l0 3).bind fun v13 =>
      (e_gR S q10.2 11 l0 3).bind fun v15 =>
      (e_aI S q10.2 0 v15 ((4 : Int32) * q10.1)).bind fun v17 =>
      (e_aS S q10.2 0 v13 (((4 : Int32) * q10.1) + (1 : Int32)) (((10 : Int32) * ((1 : Int32) - (v17 / (10 : Int32)))) + ((l_rem (l_rem ((l_rem (l2 * (48271 : Int64)) (2147483647 : Int64)) * (48271 : Int64)) (2147483647 : Int64)) (10 : Int64)).toInt32))).bind fun g19 =>
      J_X11_cranes_96 (L_X11_cranes_12 n S) S l0 (l_rem ((l_rem (l2 * (48271 : Int64)) (2147483647 : Int64)) * (48271 : Int64)) (2147483647 : Int64)) l4 g19
def f_X11_cranes (S : e_S) (l0 : Nat) (l1 : Int32) (g : e_G) : Option (Int32 × e_G) :=
  if e_ob S 11 l0 = true then
    (f_X11_keepsAll S l0 g).bind fun q2 =>
    L_X11_cranes_12 50000 S l0 (l1.toInt64 + (1 : Int64)) (0 : Int32) q2
  else none
theorem x_J_X11_cranes_96 {l : Launch} {D : va_G} {S : e_S} {w : Int32} {k : e_G} (c12 : Nat → Int64 → Int32 → e_G → Option (Int32 × e_G)) (hc12 : ∀ (l0 : Nat) (l2 : Int64) (l4 : Int32) (g : e_G), c12 l0 l2 l4 g = some (w, k) → X l D (e_R 6) M_X11_cranes 0 0 12 [(0, .ref l0), (2, .long l2), (4, .int l4)] [] (S, g) (some (.int w)) (S, k)) {l0 : Nat} {l2 : Int64} {l4 : Int32} {g : e_G} (hf : J_X11_cranes_96 c12 S l0 l2 l4 g = some (w, k)) : X l D (e_R 6) M_X11_cranes 0 0 96 [(0, .ref l0), (2, .long l2), (4, .int l4)] [] (S, g) (some (.int w)) (S, k) := by
  unfold J_X11_cranes_96 at hf
  refine X.aload_n dX11_cranes_96 rfl (j := 0) rfl ?_
  obtain ⟨q2, h1, hf⟩ := ob hf
  refine Y.callV (av := []) (ci := 11) dX11_cranes_97 (c_X11_dayOf (l := l) (D := D) (w := q2.1) (k := q2.2) h1) cw_X11_219 (by decide) rfl mk_X11_dayOf (o_X11_dayOf (w := q2.1) (k := q2.2) h1) (e_R_ok (Nat.le_of_ble_eq_true rfl) (Nat.le_of_ble_eq_true rfl)) ⟨rfl, rfl⟩ (by simp [Value.category]) ?_
  refine X.pop dX11_cranes_100 rfl ?_
  refine X.iinc (j := 2) dX11_cranes_101 rfl (v := l4 + (1 : Int32)) (by rw [kI_1]) (Nat.le_of_ble_eq_true rfl) (lc' := [(4, .int (l4 + (1 : Int32))), (0, .ref l0), (2, .long l2)]) rfl ?_
  refine X.goto dX11_cranes_104 (tgt := 12) rfl ?_
  refine X.sub [1, 2, 0] rfl ?_
  exact hc12 _ _ _ _ hf
theorem x_L_X11_cranes_12 {l : Launch} {D : va_G} {S : e_S} {w : Int32} {k : e_G} : ∀ (n : Nat) (l0 : Nat) (l2 : Int64) (l4 : Int32) (g : e_G), L_X11_cranes_12 n S l0 l2 l4 g = some (w, k) → X l D (e_R 6) M_X11_cranes 0 0 12 [(0, .ref l0), (2, .long l2), (4, .int l4)] [] (S, g) (some (.int w)) (S, k) := by
  intro n
  induction n with
  | zero =>
    intro l0 l2 l4 g hf
    cases hf
  | succ n ih =>
    intro l0 l2 l4 g hf
    rw [L_X11_cranes_12] at hf
    refine X.iload dX11_cranes_12 (j := 2) rfl ?_
    refine X.bipush dX11_cranes_14 kB_8 ?_
    refine X.icmp_ge dX11_cranes_16 (tgt := 107) rfl (fun hc => ?_) (fun hc => ?_)
    · rw [if_pos hc] at hf
      refine X.aload_n dX11_cranes_107 rfl (j := 0) rfl ?_
      obtain ⟨q2, h1, hf⟩ := ob hf
      refine Y.callV (av := []) (ci := 11) dX11_cranes_108 (c_X11_keptSet (l := l) (D := D) (w := q2.1) (k := q2.2) h1) cw_X11_82 (by decide) rfl mk_X11_keptSet (o_X11_keptSet (w := q2.1) (k := q2.2) h1) (e_R_ok (Nat.le_of_ble_eq_true rfl) (Nat.le_of_ble_eq_true rfl)) ⟨rfl, rfl⟩ (by simp [Value.category]) ?_
      refine X.istore dX11_cranes_111 (Nat.le_of_ble_eq_true rfl) (lc' := [(4, .int q2.1), (0, .ref l0), (2, .long l2)]) rfl ?_
      refine X.aload_n dX11_cranes_113 rfl (j := 1) rfl ?_
      refine X.aload_n dX11_cranes_114 rfl (j := 1) rfl ?_
      obtain ⟨q4, h3, hf⟩ := ob hf
      refine Y.callV (av := []) (ci := 11) dX11_cranes_115 (c_X11_metTwos (l := l) (D := D) (w := q4.1) (k := q4.2) h3) cw_X11_207 (by decide) rfl mk_X11_metTwos (o_X11_metTwos (w := q4.1) (k := q4.2) h3) (e_R_ok (Nat.le_of_ble_eq_true rfl) (Nat.le_of_ble_eq_true rfl)) ⟨rfl, rfl⟩ (by simp [Value.category]) ?_
      obtain ⟨g5, h6, hf⟩ := ob hf
      refine Y.putI dX11_cranes_118 fl_X11_279 rfl rfl rfl rfl h6 ?_
      refine X.aload_n dX11_cranes_121 rfl (j := 1) rfl ?_
      obtain ⟨q8, h7, hf⟩ := ob hf
      refine Y.callV (av := []) (ci := 11) dX11_cranes_122 (c_X11_lays (l := l) (D := D) h7) cw_X11_235 (by decide) rfl mk_X11_lays (o_X11_lays (k := q8) h7) (e_R_ok (Nat.le_of_ble_eq_true rfl) (Nat.le_of_ble_eq_true rfl)) ⟨rfl, rfl⟩ (by simp [Value.category]) ?_
      refine X.iload dX11_cranes_125 (j := 0) rfl ?_
      obtain ⟨e1, e2⟩ := e_ret hf
      subst e1
      subst e2
      exact X.iret dX11_cranes_127 rfl rfl
    · rw [if_neg hc] at hf
      refine X.lload_n dX11_cranes_19 rfl (j := 1) rfl ?_
      refine X.ldc2 dX11_cranes_20 ww_1328 ?_
      refine X.lmul dX11_cranes_23 ?_
      refine X.ldc2 dX11_cranes_24 ww_1329 ?_
      refine Y.lrem dX11_cranes_27 (by decide) ?_
      refine X.lstore_n dX11_cranes_28 rfl (Nat.le_of_ble_eq_true rfl) (lc' := [(2, .long (l_rem (l2 * (48271 : Int64)) (2147483647 : Int64))), (0, .ref l0), (4, .int l4)]) rfl ?_
      refine X.lload_n dX11_cranes_29 rfl (j := 0) rfl ?_
      refine X.ldc2 dX11_cranes_30 ww_1330 ?_
      refine Y.lrem dX11_cranes_33 (by decide) ?_
      refine X.l2i dX11_cranes_34 ?_
      refine X.iconst dX11_cranes_35 kI_0 ?_
      refine X.iconst dX11_cranes_36 kI_5 ?_
      obtain ⟨q10, h9, hf⟩ := ob hf
      refine Y.callS (av := [.int ((l_rem (l_rem (l2 * (48271 : Int64)) (2147483647 : Int64)) (6 : Int64)).toInt32), .int (0 : Int32), .int (5 : Int32)]) dX11_cranes_37 (c_X11_within (l := l) (D := D) (w := q10.1) (k := q10.2) h9) cw_X11_167 mk_X11_within (e_R_ok (Nat.le_of_ble_eq_true rfl) (Nat.le_of_ble_eq_true rfl)) ⟨rfl, rfl⟩ (by simp [Value.category]) ?_
      refine X.istore dX11_cranes_40 (Nat.le_of_ble_eq_true rfl) (lc' := [(5, .int q10.1), (2, .long (l_rem (l2 * (48271 : Int64)) (2147483647 : Int64))), (0, .ref l0), (4, .int l4)]) rfl ?_
      refine X.lload_n dX11_cranes_42 rfl (j := 1) rfl ?_
      refine X.ldc2 dX11_cranes_43 ww_1328 ?_
      refine X.lmul dX11_cranes_46 ?_
      refine X.ldc2 dX11_cranes_47 ww_1329 ?_
      refine Y.lrem dX11_cranes_50 (by decide) ?_
      refine X.lstore_n dX11_cranes_51 rfl (Nat.le_of_ble_eq_true rfl) (lc' := [(2, .long (l_rem ((l_rem (l2 * (48271 : Int64)) (2147483647 : Int64)) * (48271 : Int64)) (2147483647 : Int64))), (5, .int q10.1), (0, .ref l0), (4, .int l4)]) rfl ?_
      refine X.iload dX11_cranes_52 (j := 1) rfl ?_
      refine X.aload_n dX11_cranes_54 rfl (j := 2) rfl ?_
      obtain ⟨v11, h12, hf⟩ := ob hf
      refine Y.getI dX11_cranes_55 fl_X11_75 rfl h12 ?_
      refine X.icmp_ge dX11_cranes_58 (tgt := 96) rfl (fun hc => ?_) (fun hc => ?_)
      · rw [if_pos hc] at hf
        refine X.sub [2, 0, 3] rfl ?_
        exact x_J_X11_cranes_96 _ ih hf
      · rw [if_neg hc] at hf
        refine X.aload_n dX11_cranes_61 rfl (j := 2) rfl ?_
        obtain ⟨v13, h14, hf⟩ := ob hf
        refine Y.getR dX11_cranes_62 fl_X11_16 rfl h14 ?_
        refine X.iconst dX11_cranes_65 kI_4 ?_
        refine X.iload dX11_cranes_66 (j := 1) rfl ?_
        refine X.imul dX11_cranes_68 ?_
        refine X.iconst dX11_cranes_69 kI_1 ?_
        refine X.iadd dX11_cranes_70 ?_
        refine X.bipush dX11_cranes_71 kB_10 ?_
        refine X.iconst dX11_cranes_73 kI_1 ?_
        refine X.aload_n dX11_cranes_74 rfl (j := 2) rfl ?_
        obtain ⟨v15, h16, hf⟩ := ob hf
        refine Y.getR dX11_cranes_75 fl_X11_16 rfl h16 ?_
        refine X.iconst dX11_cranes_78 kI_4 ?_
        refine X.iload dX11_cranes_79 (j := 1) rfl ?_
        refine X.imul dX11_cranes_81 ?_
        obtain ⟨v17, h18, hf⟩ := ob hf
        refine Y.iald dX11_cranes_82 h18 ?_
        refine X.bipush dX11_cranes_83 kB_10 ?_
        refine X.idiv dX11_cranes_85 (by decide) ?_
        refine X.isub dX11_cranes_86 ?_
        refine X.imul dX11_cranes_87 ?_
        refine X.lload_n dX11_cranes_88 rfl (j := 0) rfl ?_
        refine X.ldc2 dX11_cranes_89 ww_1331 ?_
        refine Y.lrem dX11_cranes_92 (by decide) ?_
        refine X.l2i dX11_cranes_93 ?_
        refine X.iadd dX11_cranes_94 ?_
        obtain ⟨g19, h20, hf⟩ := ob hf
        refine Y.iast dX11_cranes_95 h20 ?_
        refine X.sub [2, 0, 3] rfl ?_
        exact x_J_X11_cranes_96 _ ih hf
theorem o_X11_cranes  {S : e_S} {w : Int32} {k : e_G} {l0 : Nat} {l1 : Int32} {g : e_G} (hf : f_X11_cranes S l0 l1 g = some (w, k)) : e_ob S 11 l0 = true := by
  unfold f_X11_cranes at hf
  by_cases hc : e_ob S 11 l0 = true
  · exact hc
  · rw [if_neg hc] at hf
    cases hf
theorem c_X11_cranes {l : Launch} {D : va_G}  {S : e_S} {w : Int32} {k : e_G} {l0 : Nat} {l1 : Int32} {g : e_G} (hf : f_X11_cranes S l0 l1 g = some (w, k)) : CT l D (e_R 6) M_X11_cranes [.ref l0, .int l1] (S, g) (some (.int w)) (S, k) := by
  refine CT.of (by decide +kernel) (Nat.le_of_ble_eq_true rfl) ?_
  have ho := o_X11_cranes hf
  unfold f_X11_cranes at hf
  rw [if_pos ho] at hf
  show X l D (e_R 6) M_X11_cranes 0 0 0 [(0, .ref l0), (1, .int l1)] [] (S, g) (some (.int w)) (S, k)
  refine X.iload_n dX11_cranes_0 rfl (j := 1) rfl ?_
  refine X.i2l dX11_cranes_1 ?_
  refine X.lconst dX11_cranes_2 (v := (1 : Int64)) rfl ?_
  refine X.ladd dX11_cranes_3 ?_
  refine X.lstore_n dX11_cranes_4 rfl (Nat.le_of_ble_eq_true rfl) (lc' := [(2, .long (l1.toInt64 + (1 : Int64))), (0, .ref l0), (1, .int l1)]) rfl ?_
  refine X.aload_n dX11_cranes_5 rfl (j := 1) rfl ?_
  obtain ⟨q2, h1, hf⟩ := ob hf
  refine Y.callV (av := []) (ci := 11) dX11_cranes_6 (c_X11_keepsAll (l := l) (D := D) h1) cw_X11_223 (by decide) rfl mk_X11_keepsAll (o_X11_keepsAll (k := q2) h1) (e_R_ok (Nat.le_of_ble_eq_true rfl) (Nat.le_of_ble_eq_true rfl)) ⟨rfl, rfl⟩ (by simp [Value.category]) ?_
  refine X.iconst dX11_cranes_9 kI_0 ?_
  refine X.istore dX11_cranes_10 (Nat.le_of_ble_eq_true rfl) (lc' := [(4, .int (0 : Int32)), (2, .long (l1.toInt64 + (1 : Int64))), (0, .ref l0), (1, .int l1)]) rfl ?_
  refine X.sub [2, 1, 0] rfl ?_
  exact x_L_X11_cranes_12 50000 _ _ _ _ hf
/-! LeanedOutModel.drawn(II)I -/
abbrev M_X11_drawn : e_M := (yX11_drawn, cX11_drawn, 4, (some .int))
theorem mk_X11_drawn : e_Mok M_X11_drawn 2 := ⟨by decide +kernel, by decide +kernel, by decide +kernel⟩
theorem dX11_drawn_0 : decode cX11_drawn 0 = .ok (.iload_n 1, 1) := by decide +kernel
theorem dX11_drawn_1 : decode cX11_drawn 1 = .ok (.iconst 0, 1) := by decide +kernel
theorem dX11_drawn_2 : decode cX11_drawn 2 = .ok (.ldc_w 282, 3) := by decide +kernel
theorem dX11_drawn_5 : decode cX11_drawn 5 = .ok (.invokestatic 78, 3) := by decide +kernel
theorem dX11_drawn_8 : decode cX11_drawn 8 = .ok (.ifCond .eq 12, 3) := by decide +kernel
theorem dX11_drawn_11 : decode cX11_drawn 11 = .ok (.iload_n 2, 1) := by decide +kernel
theorem dX11_drawn_12 : decode cX11_drawn 12 = .ok (.iconst 0, 1) := by decide +kernel
theorem dX11_drawn_13 : decode cX11_drawn 13 = .ok (.iconst 1, 1) := by decide +kernel
theorem dX11_drawn_14 : decode cX11_drawn 14 = .ok (.invokestatic 78, 3) := by decide +kernel
theorem dX11_drawn_17 : decode cX11_drawn 17 = .ok (.ifCond .ne 6, 3) := by decide +kernel
theorem dX11_drawn_20 : decode cX11_drawn 20 = .ok (.bipush (-2), 2) := by decide +kernel
theorem dX11_drawn_22 : decode cX11_drawn 22 = .ok (.ireturn, 1) := by decide +kernel
theorem dX11_drawn_23 : decode cX11_drawn 23 = .ok (.aload_n 0, 1) := by decide +kernel
theorem dX11_drawn_24 : decode cX11_drawn 24 = .ok (.iload_n 1, 1) := by decide +kernel
theorem dX11_drawn_25 : decode cX11_drawn 25 = .ok (.invokevirtual 283, 3) := by decide +kernel
theorem dX11_drawn_28 : decode cX11_drawn 28 = .ok (.istore_n 3, 1) := by decide +kernel
theorem dX11_drawn_29 : decode cX11_drawn 29 = .ok (.iload_n 2, 1) := by decide +kernel
theorem dX11_drawn_30 : decode cX11_drawn 30 = .ok (.ifCond .ne 7, 3) := by decide +kernel
theorem dX11_drawn_33 : decode cX11_drawn 33 = .ok (.iload_n 3, 1) := by decide +kernel
theorem dX11_drawn_34 : decode cX11_drawn 34 = .ok (.goto 7, 3) := by decide +kernel
theorem dX11_drawn_37 : decode cX11_drawn 37 = .ok (.aload_n 0, 1) := by decide +kernel
theorem dX11_drawn_38 : decode cX11_drawn 38 = .ok (.getfield 279, 3) := by decide +kernel
theorem dX11_drawn_41 : decode cX11_drawn 41 = .ok (.ireturn, 1) := by decide +kernel
def f_X11_drawn (S : e_S) (l0 : Nat) (l1 : Int32) (l2 : Int32) (g : e_G) : Option (Int32 × e_G) :=
  if e_ob S 11 l0 = true then
    (f_X11_in S l1 (0 : Int32) (99999 : Int32) g).bind fun q2 =>
    if q2.1 = 0 then
      some ((-2 : Int32), q2.2)
    else
      (f_X11_in S l2 (0 : Int32) (1 : Int32) q2.2).bind fun q4 =>
      if q4.1 = 0 then
        some ((-2 : Int32), q4.2)
      else
        (f_X11_cranes S l0 l1 q4.2).bind fun q6 =>
        if l2 = 0 then
          some (q6.1, q6.2)
        else
          (e_gI S q6.2 11 l0 34).bind fun v7 =>
          some (v7, q6.2)
  else none
theorem o_X11_drawn  {S : e_S} {w : Int32} {k : e_G} {l0 : Nat} {l1 : Int32} {l2 : Int32} {g : e_G} (hf : f_X11_drawn S l0 l1 l2 g = some (w, k)) : e_ob S 11 l0 = true := by
  unfold f_X11_drawn at hf
  by_cases hc : e_ob S 11 l0 = true
  · exact hc
  · rw [if_neg hc] at hf
    cases hf
theorem c_X11_drawn {l : Launch} {D : va_G}  {S : e_S} {w : Int32} {k : e_G} {l0 : Nat} {l1 : Int32} {l2 : Int32} {g : e_G} (hf : f_X11_drawn S l0 l1 l2 g = some (w, k)) : CT l D (e_R 7) M_X11_drawn [.ref l0, .int l1, .int l2] (S, g) (some (.int w)) (S, k) := by
  refine CT.of (by decide +kernel) (Nat.le_of_ble_eq_true rfl) ?_
  have ho := o_X11_drawn hf
  unfold f_X11_drawn at hf
  rw [if_pos ho] at hf
  show X l D (e_R 7) M_X11_drawn 0 0 0 [(0, .ref l0), (1, .int l1), (2, .int l2)] [] (S, g) (some (.int w)) (S, k)
  refine X.iload_n dX11_drawn_0 rfl (j := 1) rfl ?_
  refine X.iconst dX11_drawn_1 kI_0 ?_
  refine X.ldcw dX11_drawn_2 ww_1323 ?_
  obtain ⟨q2, h1, hf⟩ := ob hf
  refine Y.callS (av := [.int l1, .int (0 : Int32), .int (99999 : Int32)]) dX11_drawn_5 (c_X11_in (l := l) (D := D) (w := q2.1) (k := q2.2) h1) cw_X11_78 mk_X11_in (e_R_ok (Nat.le_of_ble_eq_true rfl) (Nat.le_of_ble_eq_true rfl)) ⟨rfl, rfl⟩ (by simp [Value.category]) ?_
  refine X.if_eq dX11_drawn_8 (tgt := 20) rfl (fun hc => ?_) (fun hc => ?_)
  · rw [if_pos hc] at hf
    refine X.bipush dX11_drawn_20 kB_m2 ?_
    obtain ⟨e1, e2⟩ := e_ret hf
    subst e1
    subst e2
    exact X.iret dX11_drawn_22 rfl rfl
  · rw [if_neg hc] at hf
    refine X.iload_n dX11_drawn_11 rfl (j := 2) rfl ?_
    refine X.iconst dX11_drawn_12 kI_0 ?_
    refine X.iconst dX11_drawn_13 kI_1 ?_
    obtain ⟨q4, h3, hf⟩ := ob hf
    refine Y.callS (av := [.int l2, .int (0 : Int32), .int (1 : Int32)]) dX11_drawn_14 (c_X11_in (l := l) (D := D) (w := q4.1) (k := q4.2) h3) cw_X11_78 mk_X11_in (e_R_ok (Nat.le_of_ble_eq_true rfl) (Nat.le_of_ble_eq_true rfl)) ⟨rfl, rfl⟩ (by simp [Value.category]) ?_
    refine X.if_ne dX11_drawn_17 (tgt := 23) rfl (fun hc => ?_) (fun hc => ?_)
    · rw [if_neg hc] at hf
      refine X.aload_n dX11_drawn_23 rfl (j := 0) rfl ?_
      refine X.iload_n dX11_drawn_24 rfl (j := 1) rfl ?_
      obtain ⟨q6, h5, hf⟩ := ob hf
      refine Y.callV (av := [.int l1]) (ci := 11) dX11_drawn_25 (c_X11_cranes (l := l) (D := D) (w := q6.1) (k := q6.2) h5) cw_X11_283 (by decide) rfl mk_X11_cranes (o_X11_cranes (w := q6.1) (k := q6.2) h5) (e_R_ok (Nat.le_of_ble_eq_true rfl) (Nat.le_of_ble_eq_true rfl)) ⟨rfl, rfl⟩ (by simp [Value.category]) ?_
      refine X.istore_n dX11_drawn_28 rfl (Nat.le_of_ble_eq_true rfl) (lc' := [(3, .int q6.1), (0, .ref l0), (1, .int l1), (2, .int l2)]) rfl ?_
      refine X.iload_n dX11_drawn_29 rfl (j := 3) rfl ?_
      refine X.if_ne dX11_drawn_30 (tgt := 37) rfl (fun hc => ?_) (fun hc => ?_)
      · rw [if_neg hc] at hf
        refine X.aload_n dX11_drawn_37 rfl (j := 1) rfl ?_
        obtain ⟨v7, h8, hf⟩ := ob hf
        refine Y.getI dX11_drawn_38 fl_X11_279 rfl h8 ?_
        obtain ⟨e1, e2⟩ := e_ret hf
        subst e1
        subst e2
        exact X.iret dX11_drawn_41 rfl rfl
      · rw [if_pos hc] at hf
        refine X.iload_n dX11_drawn_33 rfl (j := 0) rfl ?_
        refine X.goto dX11_drawn_34 (tgt := 41) rfl ?_
        obtain ⟨e1, e2⟩ := e_ret hf
        subst e1
        subst e2
        exact X.iret dX11_drawn_41 rfl rfl
    · rw [if_pos hc] at hf
      refine X.bipush dX11_drawn_20 kB_m2 ?_
      obtain ⟨e1, e2⟩ := e_ret hf
      subst e1
      subst e2
      exact X.iret dX11_drawn_22 rfl rfl
/-! LeanedOutModel.odds(IIII)J -/
abbrev M_X11_odds : e_M := (yX11_odds, cX11_odds, 8, (some .long))
theorem mk_X11_odds : e_Mok M_X11_odds 4 := ⟨by decide +kernel, by decide +kernel, by decide +kernel⟩
theorem dX11_odds_0 : decode cX11_odds 0 = .ok (.iload_n 1, 1) := by decide +kernel
theorem dX11_odds_1 : decode cX11_odds 1 = .ok (.iconst 0, 1) := by decide +kernel
theorem dX11_odds_2 : decode cX11_odds 2 = .ok (.ldc_w 282, 3) := by decide +kernel
theorem dX11_odds_5 : decode cX11_odds 5 = .ok (.invokestatic 78, 3) := by decide +kernel
theorem dX11_odds_8 : decode cX11_odds 8 = .ok (.ifCond .eq 31, 3) := by decide +kernel
theorem dX11_odds_11 : decode cX11_odds 11 = .ok (.iload_n 2, 1) := by decide +kernel
theorem dX11_odds_12 : decode cX11_odds 12 = .ok (.iconst 1, 1) := by decide +kernel
theorem dX11_odds_13 : decode cX11_odds 13 = .ok (.bipush 40, 2) := by decide +kernel
theorem dX11_odds_15 : decode cX11_odds 15 = .ok (.invokestatic 78, 3) := by decide +kernel
theorem dX11_odds_18 : decode cX11_odds 18 = .ok (.ifCond .eq 21, 3) := by decide +kernel
theorem dX11_odds_21 : decode cX11_odds 21 = .ok (.aload_n 0, 1) := by decide +kernel
theorem dX11_odds_22 : decode cX11_odds 22 = .ok (.iload_n 3, 1) := by decide +kernel
theorem dX11_odds_23 : decode cX11_odds 23 = .ok (.invokevirtual 179, 3) := by decide +kernel
theorem dX11_odds_26 : decode cX11_odds 26 = .ok (.ifCond .eq 13, 3) := by decide +kernel
theorem dX11_odds_29 : decode cX11_odds 29 = .ok (.iload 4, 2) := by decide +kernel
theorem dX11_odds_31 : decode cX11_odds 31 = .ok (.iconst 0, 1) := by decide +kernel
theorem dX11_odds_32 : decode cX11_odds 32 = .ok (.iconst 1, 1) := by decide +kernel
theorem dX11_odds_33 : decode cX11_odds 33 = .ok (.invokestatic 78, 3) := by decide +kernel
theorem dX11_odds_36 : decode cX11_odds 36 = .ok (.ifCond .ne 7, 3) := by decide +kernel
theorem dX11_odds_39 : decode cX11_odds 39 = .ok (.ldc2_w 256, 3) := by decide +kernel
theorem dX11_odds_42 : decode cX11_odds 42 = .ok (.lreturn, 1) := by decide +kernel
theorem dX11_odds_43 : decode cX11_odds 43 = .ok (.lconst 0, 1) := by decide +kernel
theorem dX11_odds_44 : decode cX11_odds 44 = .ok (.lstore 5, 2) := by decide +kernel
theorem dX11_odds_46 : decode cX11_odds 46 = .ok (.iconst 0, 1) := by decide +kernel
theorem dX11_odds_47 : decode cX11_odds 47 = .ok (.istore 7, 2) := by decide +kernel
theorem dX11_odds_49 : decode cX11_odds 49 = .ok (.iload 7, 2) := by decide +kernel
theorem dX11_odds_51 : decode cX11_odds 51 = .ok (.iload_n 2, 1) := by decide +kernel
theorem dX11_odds_52 : decode cX11_odds 52 = .ok (.if_icmp .ge 35, 3) := by decide +kernel
theorem dX11_odds_55 : decode cX11_odds 55 = .ok (.lload 5, 2) := by decide +kernel
theorem dX11_odds_57 : decode cX11_odds 57 = .ok (.aload_n 0, 1) := by decide +kernel
theorem dX11_odds_58 : decode cX11_odds 58 = .ok (.iload_n 1, 1) := by decide +kernel
theorem dX11_odds_59 : decode cX11_odds 59 = .ok (.iload 7, 2) := by decide +kernel
theorem dX11_odds_61 : decode cX11_odds 61 = .ok (.iadd, 1) := by decide +kernel
theorem dX11_odds_62 : decode cX11_odds 62 = .ok (.invokevirtual 283, 3) := by decide +kernel
theorem dX11_odds_65 : decode cX11_odds 65 = .ok (.iload_n 3, 1) := by decide +kernel
theorem dX11_odds_66 : decode cX11_odds 66 = .ok (.ishr, 1) := by decide +kernel
theorem dX11_odds_67 : decode cX11_odds 67 = .ok (.iconst 1, 1) := by decide +kernel
theorem dX11_odds_68 : decode cX11_odds 68 = .ok (.iand, 1) := by decide +kernel
theorem dX11_odds_69 : decode cX11_odds 69 = .ok (.iconst 1, 1) := by decide +kernel
theorem dX11_odds_70 : decode cX11_odds 70 = .ok (.if_icmp .ne 7, 3) := by decide +kernel
theorem dX11_odds_73 : decode cX11_odds 73 = .ok (.lconst 1, 1) := by decide +kernel
theorem dX11_odds_74 : decode cX11_odds 74 = .ok (.goto 4, 3) := by decide +kernel
theorem dX11_odds_77 : decode cX11_odds 77 = .ok (.lconst 0, 1) := by decide +kernel
theorem dX11_odds_78 : decode cX11_odds 78 = .ok (.ladd, 1) := by decide +kernel
theorem dX11_odds_79 : decode cX11_odds 79 = .ok (.lstore 5, 2) := by decide +kernel
theorem dX11_odds_81 : decode cX11_odds 81 = .ok (.iinc 7 1, 3) := by decide +kernel
theorem dX11_odds_84 : decode cX11_odds 84 = .ok (.goto (-35), 3) := by decide +kernel
theorem dX11_odds_87 : decode cX11_odds 87 = .ok (.lload 5, 2) := by decide +kernel
theorem dX11_odds_89 : decode cX11_odds 89 = .ok (.iload_n 2, 1) := by decide +kernel
theorem dX11_odds_90 : decode cX11_odds 90 = .ok (.i2l, 1) := by decide +kernel
theorem dX11_odds_91 : decode cX11_odds 91 = .ok (.iload 4, 2) := by decide +kernel
theorem dX11_odds_93 : decode cX11_odds 93 = .ok (.invokestatic 258, 3) := by decide +kernel
theorem dX11_odds_96 : decode cX11_odds 96 = .ok (.lreturn, 1) := by decide +kernel
def J_X11_odds_78 (c49 : Nat → Int32 → Int32 → Int32 → Int32 → Int64 → Int32 → e_G → Option (Int64 × e_G)) (S : e_S) (l0 : Nat) (l1 : Int32) (l2 : Int32) (l3 : Int32) (l4 : Int32) (l7 : Int32) (t0 : Int64) (t1 : Int64) (g : e_G) : Option (Int64 × e_G) :=
  c49 l0 l1 l2 l3 l4 (t0 + t1) (l7 + (1 : Int32)) g
def L_X11_odds_49 : Nat → e_S → Nat → Int32 → Int32 → Int32 → Int32 → Int64 → Int32 → e_G → Option (Int64 × e_G)
  | 0, _, _, _, _, _, _, _, _, _ => none
  | n + 1, S, l0, l1, l2, l3, l4, l5, l7, g =>
  if l2 ≤ l7 then
    (f_X11_lowest S l5 l2.toInt64 l4 g).bind fun q2 =>
    some (q2.1, q2.2)
  else
    (f_X11_cranes S l0 (l1 + l7) g).bind fun q4 =>
    if ((q4.1 >>> (l3 &&& 31)) &&& (1 : Int32)) = (1 : Int32) then
      J_X11_odds_78 (L_X11_odds_49 n S) S l0 l1 l2 l3 l4 l7 l5 (1 : Int64) q4.2
    else
      J_X11_odds_78 (L_X11_odds_49 n S) S l0 l1 l2 l3 l4 l7 l5 (0 : Int64) q4.2
def f_X11_odds (S : e_S) (l0 : Nat) (l1 : Int32) (l2 : Int32) (l3 : Int32) (l4 : Int32) (g : e_G) : Option (Int64 × e_G) :=
  if e_ob S 11 l0 = true then
    (f_X11_in S l1 (0 : Int32) (99999 : Int32) g).bind fun q2 =>
    if q2.1 = 0 then
      some ((-4611686018427387904 : Int64), q2.2)
    else
      (f_X11_in S l2 (1 : Int32) (40 : Int32) q2.2).bind fun q4 =>
      if q4.1 = 0 then
        some ((-4611686018427387904 : Int64), q4.2)
      else
        (f_X11_isOne S l0 l3 q4.2).bind fun q6 =>
        if q6.1 = 0 then
          some ((-4611686018427387904 : Int64), q6.2)
        else
          (f_X11_in S l4 (0 : Int32) (1 : Int32) q6.2).bind fun q8 =>
          if q8.1 = 0 then
            some ((-4611686018427387904 : Int64), q8.2)
          else
            L_X11_odds_49 50000 S l0 l1 l2 l3 l4 (0 : Int64) (0 : Int32) q8.2
  else none
theorem x_J_X11_odds_78 {l : Launch} {D : va_G} {S : e_S} {w : Int64} {k : e_G} (c49 : Nat → Int32 → Int32 → Int32 → Int32 → Int64 → Int32 → e_G → Option (Int64 × e_G)) (hc49 : ∀ (l0 : Nat) (l1 : Int32) (l2 : Int32) (l3 : Int32) (l4 : Int32) (l5 : Int64) (l7 : Int32) (g : e_G), c49 l0 l1 l2 l3 l4 l5 l7 g = some (w, k) → X l D (e_R 7) M_X11_odds 0 0 49 [(0, .ref l0), (1, .int l1), (2, .int l2), (3, .int l3), (4, .int l4), (5, .long l5), (7, .int l7)] [] (S, g) (some (.long w)) (S, k)) {l0 : Nat} {l1 : Int32} {l2 : Int32} {l3 : Int32} {l4 : Int32} {l7 : Int32} {t0 : Int64} {t1 : Int64} {g : e_G} (hf : J_X11_odds_78 c49 S l0 l1 l2 l3 l4 l7 t0 t1 g = some (w, k)) : X l D (e_R 7) M_X11_odds 0 0 78 [(0, .ref l0), (1, .int l1), (2, .int l2), (3, .int l3), (4, .int l4), (7, .int l7)] [.long t1, .long t0] (S, g) (some (.long w)) (S, k) := by
  unfold J_X11_odds_78 at hf
  refine X.ladd dX11_odds_78 ?_
  refine X.lstore dX11_odds_79 (Nat.le_of_ble_eq_true rfl) (lc' := [(5, .long (t0 + t1)), (0, .ref l0), (1, .int l1), (2, .int l2), (3, .int l3), (4, .int l4), (7, .int l7)]) rfl ?_
  refine X.iinc (j := 6) dX11_odds_81 rfl (v := l7 + (1 : Int32)) (by rw [kI_1]) (Nat.le_of_ble_eq_true rfl) (lc' := [(7, .int (l7 + (1 : Int32))), (5, .long (t0 + t1)), (0, .ref l0), (1, .int l1), (2, .int l2), (3, .int l3), (4, .int l4)]) rfl ?_
  refine X.goto dX11_odds_84 (tgt := 49) rfl ?_
  refine X.sub [2, 3, 4, 5, 6, 1, 0] rfl ?_
  exact hc49 _ _ _ _ _ _ _ _ hf
theorem x_L_X11_odds_49 {l : Launch} {D : va_G} {S : e_S} {w : Int64} {k : e_G} : ∀ (n : Nat) (l0 : Nat) (l1 : Int32) (l2 : Int32) (l3 : Int32) (l4 : Int32) (l5 : Int64) (l7 : Int32) (g : e_G), L_X11_odds_49 n S l0 l1 l2 l3 l4 l5 l7 g = some (w, k) → X l D (e_R 7) M_X11_odds 0 0 49 [(0, .ref l0), (1, .int l1), (2, .int l2), (3, .int l3), (4, .int l4), (5, .long l5), (7, .int l7)] [] (S, g) (some (.long w)) (S, k) := by
  intro n
  induction n with
  | zero =>
    intro l0 l1 l2 l3 l4 l5 l7 g hf
    cases hf
  | succ n ih =>
    intro l0 l1 l2 l3 l4 l5 l7 g hf
    rw [L_X11_odds_49] at hf
    refine X.iload dX11_odds_49 (j := 6) rfl ?_
    refine X.iload_n dX11_odds_51 rfl (j := 2) rfl ?_
    refine X.icmp_ge dX11_odds_52 (tgt := 87) rfl (fun hc => ?_) (fun hc => ?_)
    · rw [if_pos hc] at hf
      refine X.lload dX11_odds_87 (j := 5) rfl ?_
      refine X.iload_n dX11_odds_89 rfl (j := 2) rfl ?_
      refine X.i2l dX11_odds_90 ?_
      refine X.iload dX11_odds_91 (j := 4) rfl ?_
      obtain ⟨q2, h1, hf⟩ := ob hf
      refine Y.callS (av := [.long l5, .long l2.toInt64, .int l4]) dX11_odds_93 (c_X11_lowest (l := l) (D := D) (w := q2.1) (k := q2.2) h1) cw_X11_258 mk_X11_lowest (e_R_ok (Nat.le_of_ble_eq_true rfl) (Nat.le_of_ble_eq_true rfl)) ⟨rfl, rfl⟩ (by simp [Value.category]) ?_
      obtain ⟨e1, e2⟩ := e_ret hf
      subst e1
      subst e2
      exact X.lret dX11_odds_96 rfl
    · rw [if_neg hc] at hf
      refine X.lload dX11_odds_55 (j := 5) rfl ?_
      refine X.aload_n dX11_odds_57 rfl (j := 0) rfl ?_
      refine X.iload_n dX11_odds_58 rfl (j := 1) rfl ?_
      refine X.iload dX11_odds_59 (j := 6) rfl ?_
      refine X.iadd dX11_odds_61 ?_
      obtain ⟨q4, h3, hf⟩ := ob hf
      refine Y.callV (av := [.int (l1 + l7)]) (ci := 11) dX11_odds_62 (c_X11_cranes (l := l) (D := D) (w := q4.1) (k := q4.2) h3) cw_X11_283 (by decide) rfl mk_X11_cranes (o_X11_cranes (w := q4.1) (k := q4.2) h3) (e_R_ok (Nat.le_of_ble_eq_true rfl) (Nat.le_of_ble_eq_true rfl)) ⟨rfl, rfl⟩ (by simp [Value.category]) ?_
      refine X.iload_n dX11_odds_65 rfl (j := 3) rfl ?_
      refine X.ishr dX11_odds_66 ?_
      refine X.iconst dX11_odds_67 kI_1 ?_
      refine X.iand dX11_odds_68 ?_
      refine X.iconst dX11_odds_69 kI_1 ?_
      refine X.icmp_ne dX11_odds_70 (tgt := 77) rfl (fun hc => ?_) (fun hc => ?_)
      · rw [if_neg hc] at hf
        refine X.lconst dX11_odds_77 (v := (0 : Int64)) rfl ?_
        refine X.sub [0, 1, 2, 3, 4, 6] rfl ?_
        exact x_J_X11_odds_78 _ ih hf
      · rw [if_pos hc] at hf
        refine X.lconst dX11_odds_73 (v := (1 : Int64)) rfl ?_
        refine X.goto dX11_odds_74 (tgt := 78) rfl ?_
        refine X.sub [0, 1, 2, 3, 4, 6] rfl ?_
        exact x_J_X11_odds_78 _ ih hf
theorem o_X11_odds  {S : e_S} {w : Int64} {k : e_G} {l0 : Nat} {l1 : Int32} {l2 : Int32} {l3 : Int32} {l4 : Int32} {g : e_G} (hf : f_X11_odds S l0 l1 l2 l3 l4 g = some (w, k)) : e_ob S 11 l0 = true := by
  unfold f_X11_odds at hf
  by_cases hc : e_ob S 11 l0 = true
  · exact hc
  · rw [if_neg hc] at hf
    cases hf
theorem c_X11_odds {l : Launch} {D : va_G}  {S : e_S} {w : Int64} {k : e_G} {l0 : Nat} {l1 : Int32} {l2 : Int32} {l3 : Int32} {l4 : Int32} {g : e_G} (hf : f_X11_odds S l0 l1 l2 l3 l4 g = some (w, k)) : CT l D (e_R 7) M_X11_odds [.ref l0, .int l1, .int l2, .int l3, .int l4] (S, g) (some (.long w)) (S, k) := by
  refine CT.of (by decide +kernel) (Nat.le_of_ble_eq_true rfl) ?_
  have ho := o_X11_odds hf
  unfold f_X11_odds at hf
  rw [if_pos ho] at hf
  show X l D (e_R 7) M_X11_odds 0 0 0 [(0, .ref l0), (1, .int l1), (2, .int l2), (3, .int l3), (4, .int l4)] [] (S, g) (some (.long w)) (S, k)
  refine X.iload_n dX11_odds_0 rfl (j := 1) rfl ?_
  refine X.iconst dX11_odds_1 kI_0 ?_
  refine X.ldcw dX11_odds_2 ww_1323 ?_
  obtain ⟨q2, h1, hf⟩ := ob hf
  refine Y.callS (av := [.int l1, .int (0 : Int32), .int (99999 : Int32)]) dX11_odds_5 (c_X11_in (l := l) (D := D) (w := q2.1) (k := q2.2) h1) cw_X11_78 mk_X11_in (e_R_ok (Nat.le_of_ble_eq_true rfl) (Nat.le_of_ble_eq_true rfl)) ⟨rfl, rfl⟩ (by simp [Value.category]) ?_
  refine X.if_eq dX11_odds_8 (tgt := 39) rfl (fun hc => ?_) (fun hc => ?_)
  · rw [if_pos hc] at hf
    refine X.ldc2 dX11_odds_39 ww_1275 ?_
    obtain ⟨e1, e2⟩ := e_ret hf
    subst e1
    subst e2
    exact X.lret dX11_odds_42 rfl
  · rw [if_neg hc] at hf
    refine X.iload_n dX11_odds_11 rfl (j := 2) rfl ?_
    refine X.iconst dX11_odds_12 kI_1 ?_
    refine X.bipush dX11_odds_13 kB_40 ?_
    obtain ⟨q4, h3, hf⟩ := ob hf
    refine Y.callS (av := [.int l2, .int (1 : Int32), .int (40 : Int32)]) dX11_odds_15 (c_X11_in (l := l) (D := D) (w := q4.1) (k := q4.2) h3) cw_X11_78 mk_X11_in (e_R_ok (Nat.le_of_ble_eq_true rfl) (Nat.le_of_ble_eq_true rfl)) ⟨rfl, rfl⟩ (by simp [Value.category]) ?_
    refine X.if_eq dX11_odds_18 (tgt := 39) rfl (fun hc => ?_) (fun hc => ?_)
    · rw [if_pos hc] at hf
      refine X.ldc2 dX11_odds_39 ww_1275 ?_
      obtain ⟨e1, e2⟩ := e_ret hf
      subst e1
      subst e2
      exact X.lret dX11_odds_42 rfl
    · rw [if_neg hc] at hf
      refine X.aload_n dX11_odds_21 rfl (j := 0) rfl ?_
      refine X.iload_n dX11_odds_22 rfl (j := 3) rfl ?_
      obtain ⟨q6, h5, hf⟩ := ob hf
      refine Y.callV (av := [.int l3]) (ci := 11) dX11_odds_23 (c_X11_isOne (l := l) (D := D) (w := q6.1) (k := q6.2) h5) cw_X11_179 (by decide) rfl mk_X11_isOne (o_X11_isOne (w := q6.1) (k := q6.2) h5) (e_R_ok (Nat.le_of_ble_eq_true rfl) (Nat.le_of_ble_eq_true rfl)) ⟨rfl, rfl⟩ (by simp [Value.category]) ?_
      refine X.if_eq dX11_odds_26 (tgt := 39) rfl (fun hc => ?_) (fun hc => ?_)
      · rw [if_pos hc] at hf
        refine X.ldc2 dX11_odds_39 ww_1275 ?_
        obtain ⟨e1, e2⟩ := e_ret hf
        subst e1
        subst e2
        exact X.lret dX11_odds_42 rfl
      · rw [if_neg hc] at hf
        refine X.iload dX11_odds_29 (j := 4) rfl ?_
        refine X.iconst dX11_odds_31 kI_0 ?_
        refine X.iconst dX11_odds_32 kI_1 ?_
        obtain ⟨q8, h7, hf⟩ := ob hf
        refine Y.callS (av := [.int l4, .int (0 : Int32), .int (1 : Int32)]) dX11_odds_33 (c_X11_in (l := l) (D := D) (w := q8.1) (k := q8.2) h7) cw_X11_78 mk_X11_in (e_R_ok (Nat.le_of_ble_eq_true rfl) (Nat.le_of_ble_eq_true rfl)) ⟨rfl, rfl⟩ (by simp [Value.category]) ?_
        refine X.if_ne dX11_odds_36 (tgt := 43) rfl (fun hc => ?_) (fun hc => ?_)
        · rw [if_neg hc] at hf
          refine X.lconst dX11_odds_43 (v := (0 : Int64)) rfl ?_
          refine X.lstore dX11_odds_44 (Nat.le_of_ble_eq_true rfl) (lc' := [(5, .long (0 : Int64)), (0, .ref l0), (1, .int l1), (2, .int l2), (3, .int l3), (4, .int l4)]) rfl ?_
          refine X.iconst dX11_odds_46 kI_0 ?_
          refine X.istore dX11_odds_47 (Nat.le_of_ble_eq_true rfl) (lc' := [(7, .int (0 : Int32)), (5, .long (0 : Int64)), (0, .ref l0), (1, .int l1), (2, .int l2), (3, .int l3), (4, .int l4)]) rfl ?_
          refine X.sub [2, 3, 4, 5, 6, 1, 0] rfl ?_
          exact x_L_X11_odds_49 50000 _ _ _ _ _ _ _ _ hf
        · rw [if_pos hc] at hf
          refine X.ldc2 dX11_odds_39 ww_1275 ?_
          obtain ⟨e1, e2⟩ := e_ret hf
          subst e1
          subst e2
          exact X.lret dX11_odds_42 rfl
/-! LeanedOutModel.image()I -/
abbrev M_X11_image : e_M := (yX11_image, cX11_image, 2, (some .int))
theorem mk_X11_image : e_Mok M_X11_image 0 := ⟨by decide +kernel, by decide +kernel, by decide +kernel⟩
theorem dX11_image_0 : decode cX11_image 0 = .ok (.aload_n 0, 1) := by decide +kernel
theorem dX11_image_1 : decode cX11_image 1 = .ok (.iconst 1, 1) := by decide +kernel
theorem dX11_image_2 : decode cX11_image 2 = .ok (.putfield 286, 3) := by decide +kernel
theorem dX11_image_5 : decode cX11_image 5 = .ok (.iconst 0, 1) := by decide +kernel
theorem dX11_image_6 : decode cX11_image 6 = .ok (.istore_n 1, 1) := by decide +kernel
theorem dX11_image_7 : decode cX11_image 7 = .ok (.iload_n 1, 1) := by decide +kernel
theorem dX11_image_8 : decode cX11_image 8 = .ok (.bipush 24, 2) := by decide +kernel
theorem dX11_image_10 : decode cX11_image 10 = .ok (.if_icmp .ge 21, 3) := by decide +kernel
theorem dX11_image_13 : decode cX11_image 13 = .ok (.aload_n 0, 1) := by decide +kernel
theorem dX11_image_14 : decode cX11_image 14 = .ok (.getfield 28, 3) := by decide +kernel
theorem dX11_image_17 : decode cX11_image 17 = .ok (.iload_n 1, 1) := by decide +kernel
theorem dX11_image_18 : decode cX11_image 18 = .ok (.aload_n 0, 1) := by decide +kernel
theorem dX11_image_19 : decode cX11_image 19 = .ok (.getfield 16, 3) := by decide +kernel
theorem dX11_image_22 : decode cX11_image 22 = .ok (.iload_n 1, 1) := by decide +kernel
theorem dX11_image_23 : decode cX11_image 23 = .ok (.iaload, 1) := by decide +kernel
theorem dX11_image_24 : decode cX11_image 24 = .ok (.iastore, 1) := by decide +kernel
theorem dX11_image_25 : decode cX11_image 25 = .ok (.iinc 1 1, 3) := by decide +kernel
theorem dX11_image_28 : decode cX11_image 28 = .ok (.goto (-21), 3) := by decide +kernel
theorem dX11_image_31 : decode cX11_image 31 = .ok (.aload_n 0, 1) := by decide +kernel
theorem dX11_image_32 : decode cX11_image 32 = .ok (.getfield 31, 3) := by decide +kernel
theorem dX11_image_35 : decode cX11_image 35 = .ok (.iconst 0, 1) := by decide +kernel
theorem dX11_image_36 : decode cX11_image 36 = .ok (.aload_n 0, 1) := by decide +kernel
theorem dX11_image_37 : decode cX11_image 37 = .ok (.getfield 75, 3) := by decide +kernel
theorem dX11_image_40 : decode cX11_image 40 = .ok (.iastore, 1) := by decide +kernel
theorem dX11_image_41 : decode cX11_image 41 = .ok (.aload_n 0, 1) := by decide +kernel
theorem dX11_image_42 : decode cX11_image 42 = .ok (.getfield 31, 3) := by decide +kernel
theorem dX11_image_45 : decode cX11_image 45 = .ok (.iconst 1, 1) := by decide +kernel
theorem dX11_image_46 : decode cX11_image 46 = .ok (.aload_n 0, 1) := by decide +kernel
theorem dX11_image_47 : decode cX11_image 47 = .ok (.getfield 89, 3) := by decide +kernel
theorem dX11_image_50 : decode cX11_image 50 = .ok (.iastore, 1) := by decide +kernel
theorem dX11_image_51 : decode cX11_image 51 = .ok (.aload_n 0, 1) := by decide +kernel
theorem dX11_image_52 : decode cX11_image 52 = .ok (.getfield 31, 3) := by decide +kernel
theorem dX11_image_55 : decode cX11_image 55 = .ok (.iconst 2, 1) := by decide +kernel
theorem dX11_image_56 : decode cX11_image 56 = .ok (.aload_n 0, 1) := by decide +kernel
theorem dX11_image_57 : decode cX11_image 57 = .ok (.getfield 95, 3) := by decide +kernel
theorem dX11_image_60 : decode cX11_image 60 = .ok (.iastore, 1) := by decide +kernel
theorem dX11_image_61 : decode cX11_image 61 = .ok (.aload_n 0, 1) := by decide +kernel
theorem dX11_image_62 : decode cX11_image 62 = .ok (.getfield 75, 3) := by decide +kernel
theorem dX11_image_65 : decode cX11_image 65 = .ok (.ireturn, 1) := by decide +kernel
def L_X11_image_7 : Nat → e_S → Nat → Int32 → e_G → Option (Int32 × e_G)
  | 0, _, _, _, _ => none
  | n + 1, S, l0, l1, g =>
  if (24 : Int32) ≤ l1 then
    (e_gR S g 11 l0 13).bind fun v1 =>
    (e_gI S g 11 l0 0).bind fun v3 =>
    (e_aS S g 0 v1 (0 : Int32) v3).bind fun g5 =>
    (e_gR S g5 11 l0 13).bind fun v7 =>
    (e_gI S g5 11 l0 4).bind fun v9 =>
    (e_aS S g5 0 v7 (1 : Int32) v9).bind fun g11 =>
    (e_gR S g11 11 l0 13).bind fun v13 =>
    (e_gI S g11 11 l0 10).bind fun v15 =>
    (e_aS S g11 0 v13 (2 : Int32) v15).bind fun g17 =>
    (e_gI S g17 11 l0 0).bind fun v19 =>
    some (v19, g17)
  else
    (e_gR S g 11 l0 12).bind fun v21 =>
    (e_gR S g 11 l0 3).bind fun v23 =>
    (e_aI S g 0 v23 l1).bind fun v25 =>
    (e_aS S g 0 v21 l1 v25).bind fun g27 =>
    L_X11_image_7 n S l0 (l1 + (1 : Int32)) g27
def f_X11_image (S : e_S) (l0 : Nat) (g : e_G) : Option (Int32 × e_G) :=
  if e_ob S 11 l0 = true then
    (e_sI S g 11 l0 11 (1 : Int32)).bind fun g1 =>
    L_X11_image_7 50000 S l0 (0 : Int32) g1
  else none
theorem x_L_X11_image_7 {l : Launch} {D : va_G} {S : e_S} {w : Int32} {k : e_G} : ∀ (n : Nat) (l0 : Nat) (l1 : Int32) (g : e_G), L_X11_image_7 n S l0 l1 g = some (w, k) → X l D (e_R 1) M_X11_image 0 0 7 [(0, .ref l0), (1, .int l1)] [] (S, g) (some (.int w)) (S, k) := by
  intro n
  induction n with
  | zero =>
    intro l0 l1 g hf
    cases hf
  | succ n ih =>
    intro l0 l1 g hf
    rw [L_X11_image_7] at hf
    refine X.iload_n dX11_image_7 rfl (j := 1) rfl ?_
    refine X.bipush dX11_image_8 kB_24 ?_
    refine X.icmp_ge dX11_image_10 (tgt := 31) rfl (fun hc => ?_) (fun hc => ?_)
    · rw [if_pos hc] at hf
      refine X.aload_n dX11_image_31 rfl (j := 0) rfl ?_
      obtain ⟨v1, h2, hf⟩ := ob hf
      refine Y.getR dX11_image_32 fl_X11_31 rfl h2 ?_
      refine X.iconst dX11_image_35 kI_0 ?_
      refine X.aload_n dX11_image_36 rfl (j := 0) rfl ?_
      obtain ⟨v3, h4, hf⟩ := ob hf
      refine Y.getI dX11_image_37 fl_X11_75 rfl h4 ?_
      obtain ⟨g5, h6, hf⟩ := ob hf
      refine Y.iast dX11_image_40 h6 ?_
      refine X.aload_n dX11_image_41 rfl (j := 0) rfl ?_
      obtain ⟨v7, h8, hf⟩ := ob hf
      refine Y.getR dX11_image_42 fl_X11_31 rfl h8 ?_
      refine X.iconst dX11_image_45 kI_1 ?_
      refine X.aload_n dX11_image_46 rfl (j := 0) rfl ?_
      obtain ⟨v9, h10, hf⟩ := ob hf
      refine Y.getI dX11_image_47 fl_X11_89 rfl h10 ?_
      obtain ⟨g11, h12, hf⟩ := ob hf
      refine Y.iast dX11_image_50 h12 ?_
      refine X.aload_n dX11_image_51 rfl (j := 0) rfl ?_
      obtain ⟨v13, h14, hf⟩ := ob hf
      refine Y.getR dX11_image_52 fl_X11_31 rfl h14 ?_
      refine X.iconst dX11_image_55 kI_2 ?_
      refine X.aload_n dX11_image_56 rfl (j := 0) rfl ?_
      obtain ⟨v15, h16, hf⟩ := ob hf
      refine Y.getI dX11_image_57 fl_X11_95 rfl h16 ?_
      obtain ⟨g17, h18, hf⟩ := ob hf
      refine Y.iast dX11_image_60 h18 ?_
      refine X.aload_n dX11_image_61 rfl (j := 0) rfl ?_
      obtain ⟨v19, h20, hf⟩ := ob hf
      refine Y.getI dX11_image_62 fl_X11_75 rfl h20 ?_
      obtain ⟨e1, e2⟩ := e_ret hf
      subst e1
      subst e2
      exact X.iret dX11_image_65 rfl rfl
    · rw [if_neg hc] at hf
      refine X.aload_n dX11_image_13 rfl (j := 0) rfl ?_
      obtain ⟨v21, h22, hf⟩ := ob hf
      refine Y.getR dX11_image_14 fl_X11_28 rfl h22 ?_
      refine X.iload_n dX11_image_17 rfl (j := 1) rfl ?_
      refine X.aload_n dX11_image_18 rfl (j := 0) rfl ?_
      obtain ⟨v23, h24, hf⟩ := ob hf
      refine Y.getR dX11_image_19 fl_X11_16 rfl h24 ?_
      refine X.iload_n dX11_image_22 rfl (j := 1) rfl ?_
      obtain ⟨v25, h26, hf⟩ := ob hf
      refine Y.iald dX11_image_23 h26 ?_
      obtain ⟨g27, h28, hf⟩ := ob hf
      refine Y.iast dX11_image_24 h28 ?_
      refine X.iinc (j := 1) dX11_image_25 rfl (v := l1 + (1 : Int32)) (by rw [kI_1]) (Nat.le_of_ble_eq_true rfl) (lc' := [(1, .int (l1 + (1 : Int32))), (0, .ref l0)]) rfl ?_
      refine X.goto dX11_image_28 (tgt := 7) rfl ?_
      refine X.sub [1, 0] rfl ?_
      exact ih _ _ _ hf
theorem o_X11_image  {S : e_S} {w : Int32} {k : e_G} {l0 : Nat} {g : e_G} (hf : f_X11_image S l0 g = some (w, k)) : e_ob S 11 l0 = true := by
  unfold f_X11_image at hf
  by_cases hc : e_ob S 11 l0 = true
  · exact hc
  · rw [if_neg hc] at hf
    cases hf
theorem c_X11_image {l : Launch} {D : va_G}  {S : e_S} {w : Int32} {k : e_G} {l0 : Nat} {g : e_G} (hf : f_X11_image S l0 g = some (w, k)) : CT l D (e_R 1) M_X11_image [.ref l0] (S, g) (some (.int w)) (S, k) := by
  refine CT.of (by decide +kernel) (Nat.le_of_ble_eq_true rfl) ?_
  have ho := o_X11_image hf
  unfold f_X11_image at hf
  rw [if_pos ho] at hf
  show X l D (e_R 1) M_X11_image 0 0 0 [(0, .ref l0)] [] (S, g) (some (.int w)) (S, k)
  refine X.aload_n dX11_image_0 rfl (j := 0) rfl ?_
  refine X.iconst dX11_image_1 kI_1 ?_
  obtain ⟨g1, h2, hf⟩ := ob hf
  refine Y.putI dX11_image_2 fl_X11_286 rfl rfl rfl rfl h2 ?_
  refine X.iconst dX11_image_5 kI_0 ?_
  refine X.istore_n dX11_image_6 rfl (Nat.le_of_ble_eq_true rfl) (lc' := [(1, .int (0 : Int32)), (0, .ref l0)]) rfl ?_
  refine X.sub [1, 0] rfl ?_
  exact x_L_X11_image_7 50000 _ _ _ hf
/-! LeanedOutModel.back()I -/
abbrev M_X11_back : e_M := (yX11_back, cX11_back, 2, (some .int))
theorem mk_X11_back : e_Mok M_X11_back 0 := ⟨by decide +kernel, by decide +kernel, by decide +kernel⟩
theorem dX11_back_0 : decode cX11_back 0 = .ok (.aload_n 0, 1) := by decide +kernel
theorem dX11_back_1 : decode cX11_back 1 = .ok (.getfield 286, 3) := by decide +kernel
theorem dX11_back_4 : decode cX11_back 4 = .ok (.ifCond .ne 6, 3) := by decide +kernel
theorem dX11_back_7 : decode cX11_back 7 = .ok (.bipush (-3), 2) := by decide +kernel
theorem dX11_back_9 : decode cX11_back 9 = .ok (.ireturn, 1) := by decide +kernel
theorem dX11_back_10 : decode cX11_back 10 = .ok (.iconst 0, 1) := by decide +kernel
theorem dX11_back_11 : decode cX11_back 11 = .ok (.istore_n 1, 1) := by decide +kernel
theorem dX11_back_12 : decode cX11_back 12 = .ok (.iload_n 1, 1) := by decide +kernel
theorem dX11_back_13 : decode cX11_back 13 = .ok (.bipush 24, 2) := by decide +kernel
theorem dX11_back_15 : decode cX11_back 15 = .ok (.if_icmp .ge 21, 3) := by decide +kernel
theorem dX11_back_18 : decode cX11_back 18 = .ok (.aload_n 0, 1) := by decide +kernel
theorem dX11_back_19 : decode cX11_back 19 = .ok (.getfield 16, 3) := by decide +kernel
theorem dX11_back_22 : decode cX11_back 22 = .ok (.iload_n 1, 1) := by decide +kernel
theorem dX11_back_23 : decode cX11_back 23 = .ok (.aload_n 0, 1) := by decide +kernel
theorem dX11_back_24 : decode cX11_back 24 = .ok (.getfield 28, 3) := by decide +kernel
theorem dX11_back_27 : decode cX11_back 27 = .ok (.iload_n 1, 1) := by decide +kernel
theorem dX11_back_28 : decode cX11_back 28 = .ok (.iaload, 1) := by decide +kernel
theorem dX11_back_29 : decode cX11_back 29 = .ok (.iastore, 1) := by decide +kernel
theorem dX11_back_30 : decode cX11_back 30 = .ok (.iinc 1 1, 3) := by decide +kernel
theorem dX11_back_33 : decode cX11_back 33 = .ok (.goto (-21), 3) := by decide +kernel
theorem dX11_back_36 : decode cX11_back 36 = .ok (.aload_n 0, 1) := by decide +kernel
theorem dX11_back_37 : decode cX11_back 37 = .ok (.aload_n 0, 1) := by decide +kernel
theorem dX11_back_38 : decode cX11_back 38 = .ok (.getfield 31, 3) := by decide +kernel
theorem dX11_back_41 : decode cX11_back 41 = .ok (.iconst 0, 1) := by decide +kernel
theorem dX11_back_42 : decode cX11_back 42 = .ok (.iaload, 1) := by decide +kernel
theorem dX11_back_43 : decode cX11_back 43 = .ok (.putfield 75, 3) := by decide +kernel
theorem dX11_back_46 : decode cX11_back 46 = .ok (.aload_n 0, 1) := by decide +kernel
theorem dX11_back_47 : decode cX11_back 47 = .ok (.aload_n 0, 1) := by decide +kernel
theorem dX11_back_48 : decode cX11_back 48 = .ok (.getfield 31, 3) := by decide +kernel
theorem dX11_back_51 : decode cX11_back 51 = .ok (.iconst 1, 1) := by decide +kernel
theorem dX11_back_52 : decode cX11_back 52 = .ok (.iaload, 1) := by decide +kernel
theorem dX11_back_53 : decode cX11_back 53 = .ok (.putfield 89, 3) := by decide +kernel
theorem dX11_back_56 : decode cX11_back 56 = .ok (.aload_n 0, 1) := by decide +kernel
theorem dX11_back_57 : decode cX11_back 57 = .ok (.aload_n 0, 1) := by decide +kernel
theorem dX11_back_58 : decode cX11_back 58 = .ok (.getfield 31, 3) := by decide +kernel
theorem dX11_back_61 : decode cX11_back 61 = .ok (.iconst 2, 1) := by decide +kernel
theorem dX11_back_62 : decode cX11_back 62 = .ok (.iaload, 1) := by decide +kernel
theorem dX11_back_63 : decode cX11_back 63 = .ok (.putfield 95, 3) := by decide +kernel
theorem dX11_back_66 : decode cX11_back 66 = .ok (.aload_n 0, 1) := by decide +kernel
theorem dX11_back_67 : decode cX11_back 67 = .ok (.getfield 75, 3) := by decide +kernel
theorem dX11_back_70 : decode cX11_back 70 = .ok (.ireturn, 1) := by decide +kernel
def L_X11_back_12 : Nat → e_S → Nat → Int32 → e_G → Option (Int32 × e_G)
  | 0, _, _, _, _ => none
  | n + 1, S, l0, l1, g =>
  if (24 : Int32) ≤ l1 then
    (e_gR S g 11 l0 13).bind fun v1 =>
    (e_aI S g 0 v1 (0 : Int32)).bind fun v3 =>
    (e_sI S g 11 l0 0 v3).bind fun g5 =>
    (e_gR S g5 11 l0 13).bind fun v7 =>
    (e_aI S g5 0 v7 (1 : Int32)).bind fun v9 =>
    (e_sI S g5 11 l0 4 v9).bind fun g11 =>
    (e_gR S g11 11 l0 13).bind fun v13 =>
    (e_aI S g11 0 v13 (2 : Int32)).bind fun v15 =>
    (e_sI S g11 11 l0 10 v15).bind fun g17 =>
    (e_gI S g17 11 l0 0).bind fun v19 =>
    some (v19, g17)
  else
    (e_gR S g 11 l0 3).bind fun v21 =>
    (e_gR S g 11 l0 12).bind fun v23 =>
    (e_aI S g 0 v23 l1).bind fun v25 =>
    (e_aS S g 0 v21 l1 v25).bind fun g27 =>
    L_X11_back_12 n S l0 (l1 + (1 : Int32)) g27
def f_X11_back (S : e_S) (l0 : Nat) (g : e_G) : Option (Int32 × e_G) :=
  if e_ob S 11 l0 = true then
    (e_gI S g 11 l0 11).bind fun v1 =>
    if v1 = 0 then
      some ((-3 : Int32), g)
    else
      L_X11_back_12 50000 S l0 (0 : Int32) g
  else none
theorem x_L_X11_back_12 {l : Launch} {D : va_G} {S : e_S} {w : Int32} {k : e_G} : ∀ (n : Nat) (l0 : Nat) (l1 : Int32) (g : e_G), L_X11_back_12 n S l0 l1 g = some (w, k) → X l D (e_R 1) M_X11_back 0 0 12 [(0, .ref l0), (1, .int l1)] [] (S, g) (some (.int w)) (S, k) := by
  intro n
  induction n with
  | zero =>
    intro l0 l1 g hf
    cases hf
  | succ n ih =>
    intro l0 l1 g hf
    rw [L_X11_back_12] at hf
    refine X.iload_n dX11_back_12 rfl (j := 1) rfl ?_
    refine X.bipush dX11_back_13 kB_24 ?_
    refine X.icmp_ge dX11_back_15 (tgt := 36) rfl (fun hc => ?_) (fun hc => ?_)
    · rw [if_pos hc] at hf
      refine X.aload_n dX11_back_36 rfl (j := 0) rfl ?_
      refine X.aload_n dX11_back_37 rfl (j := 0) rfl ?_
      obtain ⟨v1, h2, hf⟩ := ob hf
      refine Y.getR dX11_back_38 fl_X11_31 rfl h2 ?_
      refine X.iconst dX11_back_41 kI_0 ?_
      obtain ⟨v3, h4, hf⟩ := ob hf
      refine Y.iald dX11_back_42 h4 ?_
      obtain ⟨g5, h6, hf⟩ := ob hf
      refine Y.putI dX11_back_43 fl_X11_75 rfl rfl rfl rfl h6 ?_
      refine X.aload_n dX11_back_46 rfl (j := 0) rfl ?_
      refine X.aload_n dX11_back_47 rfl (j := 0) rfl ?_
      obtain ⟨v7, h8, hf⟩ := ob hf
      refine Y.getR dX11_back_48 fl_X11_31 rfl h8 ?_
      refine X.iconst dX11_back_51 kI_1 ?_
      obtain ⟨v9, h10, hf⟩ := ob hf
      refine Y.iald dX11_back_52 h10 ?_
      obtain ⟨g11, h12, hf⟩ := ob hf
      refine Y.putI dX11_back_53 fl_X11_89 rfl rfl rfl rfl h12 ?_
      refine X.aload_n dX11_back_56 rfl (j := 0) rfl ?_
      refine X.aload_n dX11_back_57 rfl (j := 0) rfl ?_
      obtain ⟨v13, h14, hf⟩ := ob hf
      refine Y.getR dX11_back_58 fl_X11_31 rfl h14 ?_
      refine X.iconst dX11_back_61 kI_2 ?_
      obtain ⟨v15, h16, hf⟩ := ob hf
      refine Y.iald dX11_back_62 h16 ?_
      obtain ⟨g17, h18, hf⟩ := ob hf
      refine Y.putI dX11_back_63 fl_X11_95 rfl rfl rfl rfl h18 ?_
      refine X.aload_n dX11_back_66 rfl (j := 0) rfl ?_
      obtain ⟨v19, h20, hf⟩ := ob hf
      refine Y.getI dX11_back_67 fl_X11_75 rfl h20 ?_
      obtain ⟨e1, e2⟩ := e_ret hf
      subst e1
      subst e2
      exact X.iret dX11_back_70 rfl rfl
    · rw [if_neg hc] at hf
      refine X.aload_n dX11_back_18 rfl (j := 0) rfl ?_
      obtain ⟨v21, h22, hf⟩ := ob hf
      refine Y.getR dX11_back_19 fl_X11_16 rfl h22 ?_
      refine X.iload_n dX11_back_22 rfl (j := 1) rfl ?_
      refine X.aload_n dX11_back_23 rfl (j := 0) rfl ?_
      obtain ⟨v23, h24, hf⟩ := ob hf
      refine Y.getR dX11_back_24 fl_X11_28 rfl h24 ?_
      refine X.iload_n dX11_back_27 rfl (j := 1) rfl ?_
      obtain ⟨v25, h26, hf⟩ := ob hf
      refine Y.iald dX11_back_28 h26 ?_
      obtain ⟨g27, h28, hf⟩ := ob hf
      refine Y.iast dX11_back_29 h28 ?_
      refine X.iinc (j := 1) dX11_back_30 rfl (v := l1 + (1 : Int32)) (by rw [kI_1]) (Nat.le_of_ble_eq_true rfl) (lc' := [(1, .int (l1 + (1 : Int32))), (0, .ref l0)]) rfl ?_
      refine X.goto dX11_back_33 (tgt := 12) rfl ?_
      refine X.sub [1, 0] rfl ?_
      exact ih _ _ _ hf
theorem o_X11_back  {S : e_S} {w : Int32} {k : e_G} {l0 : Nat} {g : e_G} (hf : f_X11_back S l0 g = some (w, k)) : e_ob S 11 l0 = true := by
  unfold f_X11_back at hf
  by_cases hc : e_ob S 11 l0 = true
  · exact hc
  · rw [if_neg hc] at hf
    cases hf
theorem c_X11_back {l : Launch} {D : va_G}  {S : e_S} {w : Int32} {k : e_G} {l0 : Nat} {g : e_G} (hf : f_X11_back S l0 g = some (w, k)) : CT l D (e_R 1) M_X11_back [.ref l0] (S, g) (some (.int w)) (S, k) := by
  refine CT.of (by decide +kernel) (Nat.le_of_ble_eq_true rfl) ?_
  have ho := o_X11_back hf
  unfold f_X11_back at hf
  rw [if_pos ho] at hf
  show X l D (e_R 1) M_X11_back 0 0 0 [(0, .ref l0)] [] (S, g) (some (.int w)) (S, k)
  refine X.aload_n dX11_back_0 rfl (j := 0) rfl ?_
  obtain ⟨v1, h2, hf⟩ := ob hf
  refine Y.getI dX11_back_1 fl_X11_286 rfl h2 ?_
  refine X.if_ne dX11_back_4 (tgt := 10) rfl (fun hc => ?_) (fun hc => ?_)
  · rw [if_neg hc] at hf
    refine X.iconst dX11_back_10 kI_0 ?_
    refine X.istore_n dX11_back_11 rfl (Nat.le_of_ble_eq_true rfl) (lc' := [(1, .int (0 : Int32)), (0, .ref l0)]) rfl ?_
    refine X.sub [1, 0] rfl ?_
    exact x_L_X11_back_12 50000 _ _ _ hf
  · rw [if_pos hc] at hf
    refine X.bipush dX11_back_7 kB_m3 ?_
    obtain ⟨e1, e2⟩ := e_ret hf
    subst e1
    subst e2
    exact X.iret dX11_back_9 rfl rfl
