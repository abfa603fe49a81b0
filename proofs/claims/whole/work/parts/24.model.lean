
theorem ww_1360 : Cond.methodLink RX11 290 yX11_person ∈ e_big := bw (i := 1360) (by decide +kernel) rfl
theorem ww_1128 : Cond.instanceMethod yX11_person ∈ e_big := bw (i := 1128) (by decide +kernel) rfl
theorem ww_1129 : Cond.selects RX11 yX11_person yX11_person ∈ e_big := bw (i := 1129) (by decide +kernel) rfl
theorem ww_1130 : Cond.code yX11_person cX11_person 4 (some .int) ∈ e_big := bw (i := 1130) (by decide +kernel) rfl
theorem cw_X11_290 : ∀ w ∈ wsV RX11 290 RX11 yX11_person [Cond.code yX11_person cX11_person 4 (some .int)], w ∈ e_big := e_all5 ww_1360 ww_1128 ww_1129 ww_89 ww_1130
theorem ww_1365 : Cond.methodLink RX11 293 yX11_isUnder ∈ e_big := bw (i := 1365) (by decide +kernel) rfl
theorem ww_1366 : Cond.static yX11_isUnder ∈ e_big := bw (i := 1366) (by decide +kernel) rfl
theorem ww_1367 : Cond.code yX11_isUnder cX11_isUnder 2 (some .boolean) ∈ e_big := bw (i := 1367) (by decide +kernel) rfl
theorem cw_X11_293 : ∀ w ∈ va_wsS RX11 293 yX11_isUnder [Cond.code yX11_isUnder cX11_isUnder 2 (some .boolean)], w ∈ e_big := e_all4 ww_1365 ww_1366 ww_89 ww_1367
/-! LeanedOutModel.sheet(III)I -/
abbrev M_X11_sheet : e_M := (yX11_sheet, cX11_sheet, 5, (some .int))
theorem mk_X11_sheet : e_Mok M_X11_sheet 3 := ⟨by decide +kernel, by decide +kernel, by decide +kernel⟩
theorem dX11_sheet_0 : decode cX11_sheet 0 = .ok (.iload_n 1, 1) := by decide +kernel
theorem dX11_sheet_1 : decode cX11_sheet 1 = .ok (.iconst 0, 1) := by decide +kernel
theorem dX11_sheet_2 : decode cX11_sheet 2 = .ok (.iconst 3, 1) := by decide +kernel
theorem dX11_sheet_3 : decode cX11_sheet 3 = .ok (.invokestatic 78, 3) := by decide +kernel
theorem dX11_sheet_6 : decode cX11_sheet 6 = .ok (.ifCond .eq 23, 3) := by decide +kernel
theorem dX11_sheet_9 : decode cX11_sheet 9 = .ok (.iload_n 2, 1) := by decide +kernel
theorem dX11_sheet_10 : decode cX11_sheet 10 = .ok (.iconst (-1), 1) := by decide +kernel
theorem dX11_sheet_11 : decode cX11_sheet 11 = .ok (.iconst 2, 1) := by decide +kernel
theorem dX11_sheet_12 : decode cX11_sheet 12 = .ok (.invokestatic 78, 3) := by decide +kernel
theorem dX11_sheet_15 : decode cX11_sheet 15 = .ok (.ifCond .eq 14, 3) := by decide +kernel
theorem dX11_sheet_18 : decode cX11_sheet 18 = .ok (.iload_n 2, 1) := by decide +kernel
theorem dX11_sheet_19 : decode cX11_sheet 19 = .ok (.iconst (-1), 1) := by decide +kernel
theorem dX11_sheet_20 : decode cX11_sheet 20 = .ok (.if_icmp .eq 12, 3) := by decide +kernel
theorem dX11_sheet_23 : decode cX11_sheet 23 = .ok (.iload_n 3, 1) := by decide +kernel
theorem dX11_sheet_24 : decode cX11_sheet 24 = .ok (.bipush 40, 2) := by decide +kernel
theorem dX11_sheet_26 : decode cX11_sheet 26 = .ok (.if_icmp .le 6, 3) := by decide +kernel
theorem dX11_sheet_29 : decode cX11_sheet 29 = .ok (.bipush (-2), 2) := by decide +kernel
theorem dX11_sheet_31 : decode cX11_sheet 31 = .ok (.ireturn, 1) := by decide +kernel
theorem dX11_sheet_32 : decode cX11_sheet 32 = .ok (.iload_n 2, 1) := by decide +kernel
theorem dX11_sheet_33 : decode cX11_sheet 33 = .ok (.iconst (-1), 1) := by decide +kernel
theorem dX11_sheet_34 : decode cX11_sheet 34 = .ok (.if_icmp .eq 10, 3) := by decide +kernel
theorem dX11_sheet_37 : decode cX11_sheet 37 = .ok (.iload_n 3, 1) := by decide +kernel
theorem dX11_sheet_38 : decode cX11_sheet 38 = .ok (.ifCond .ge 6, 3) := by decide +kernel
theorem dX11_sheet_41 : decode cX11_sheet 41 = .ok (.bipush (-14), 2) := by decide +kernel
theorem dX11_sheet_43 : decode cX11_sheet 43 = .ok (.ireturn, 1) := by decide +kernel
theorem dX11_sheet_44 : decode cX11_sheet 44 = .ok (.aload_n 0, 1) := by decide +kernel
theorem dX11_sheet_45 : decode cX11_sheet 45 = .ok (.getfield 34, 3) := by decide +kernel
theorem dX11_sheet_48 : decode cX11_sheet 48 = .ok (.iload_n 1, 1) := by decide +kernel
theorem dX11_sheet_49 : decode cX11_sheet 49 = .ok (.iload_n 2, 1) := by decide +kernel
theorem dX11_sheet_50 : decode cX11_sheet 50 = .ok (.iastore, 1) := by decide +kernel
theorem dX11_sheet_51 : decode cX11_sheet 51 = .ok (.aload_n 0, 1) := by decide +kernel
theorem dX11_sheet_52 : decode cX11_sheet 52 = .ok (.getfield 37, 3) := by decide +kernel
theorem dX11_sheet_55 : decode cX11_sheet 55 = .ok (.iload_n 1, 1) := by decide +kernel
theorem dX11_sheet_56 : decode cX11_sheet 56 = .ok (.iload_n 2, 1) := by decide +kernel
theorem dX11_sheet_57 : decode cX11_sheet 57 = .ok (.iconst (-1), 1) := by decide +kernel
theorem dX11_sheet_58 : decode cX11_sheet 58 = .ok (.if_icmp .ne 7, 3) := by decide +kernel
theorem dX11_sheet_61 : decode cX11_sheet 61 = .ok (.iconst 0, 1) := by decide +kernel
theorem dX11_sheet_62 : decode cX11_sheet 62 = .ok (.goto 4, 3) := by decide +kernel
theorem dX11_sheet_65 : decode cX11_sheet 65 = .ok (.iload_n 3, 1) := by decide +kernel
theorem dX11_sheet_66 : decode cX11_sheet 66 = .ok (.iastore, 1) := by decide +kernel
theorem dX11_sheet_67 : decode cX11_sheet 67 = .ok (.iconst 0, 1) := by decide +kernel
theorem dX11_sheet_68 : decode cX11_sheet 68 = .ok (.istore 4, 2) := by decide +kernel
theorem dX11_sheet_70 : decode cX11_sheet 70 = .ok (.iload 4, 2) := by decide +kernel
theorem dX11_sheet_72 : decode cX11_sheet 72 = .ok (.bipush 40, 2) := by decide +kernel
theorem dX11_sheet_74 : decode cX11_sheet 74 = .ok (.if_icmp .ge 22, 3) := by decide +kernel
theorem dX11_sheet_77 : decode cX11_sheet 77 = .ok (.aload_n 0, 1) := by decide +kernel
theorem dX11_sheet_78 : decode cX11_sheet 78 = .ok (.getfield 40, 3) := by decide +kernel
theorem dX11_sheet_81 : decode cX11_sheet 81 = .ok (.bipush 40, 2) := by decide +kernel
theorem dX11_sheet_83 : decode cX11_sheet 83 = .ok (.iload_n 1, 1) := by decide +kernel
theorem dX11_sheet_84 : decode cX11_sheet 84 = .ok (.imul, 1) := by decide +kernel
theorem dX11_sheet_85 : decode cX11_sheet 85 = .ok (.iload 4, 2) := by decide +kernel
theorem dX11_sheet_87 : decode cX11_sheet 87 = .ok (.iadd, 1) := by decide +kernel
theorem dX11_sheet_88 : decode cX11_sheet 88 = .ok (.iconst 0, 1) := by decide +kernel
theorem dX11_sheet_89 : decode cX11_sheet 89 = .ok (.iastore, 1) := by decide +kernel
theorem dX11_sheet_90 : decode cX11_sheet 90 = .ok (.iinc 4 1, 3) := by decide +kernel
theorem dX11_sheet_93 : decode cX11_sheet 93 = .ok (.goto (-23), 3) := by decide +kernel
theorem dX11_sheet_96 : decode cX11_sheet 96 = .ok (.iconst 1, 1) := by decide +kernel
theorem dX11_sheet_97 : decode cX11_sheet 97 = .ok (.ireturn, 1) := by decide +kernel
def L_X11_sheet_70 : Nat → e_S → Nat → Int32 → Int32 → e_G → Option (Int32 × e_G)
  | 0, _, _, _, _, _ => none
  | n + 1, S, l0, l1, l4, g =>
  if (40 : Int32) ≤ l4 then
    some ((1 : Int32), g)
  else
    (e_gR S g 11 l0 16).bind fun v1 =>
    (e_aS S g 0 v1 (((40 : Int32) * l1) + l4) (0 : Int32)).bind fun g3 =>
    L_X11_sheet_70 n S l0 l1 (l4 + (1 : Int32)) g3
def J_X11_sheet_66 (S : e_S) (l0 : Nat) (l1 : Int32) (t0 : Nat) (t1 : Int32) (t2 : Int32) (g : e_G) : Option (Int32 × e_G) :=
  (e_aS S g 0 t0 t1 t2).bind fun g1 =>
  L_X11_sheet_70 50000 S l0 l1 (0 : Int32) g1
def J_X11_sheet_44 (S : e_S) (l0 : Nat) (l1 : Int32) (l2 : Int32) (l3 : Int32) (g : e_G) : Option (Int32 × e_G) :=
  (e_gR S g 11 l0 14).bind fun v1 =>
  (e_aS S g 0 v1 l1 l2).bind fun g3 =>
  (e_gR S g3 11 l0 15).bind fun v5 =>
  if l2 = (-1 : Int32) then
    J_X11_sheet_66 S l0 l1 v5 l1 (0 : Int32) g3
  else
    J_X11_sheet_66 S l0 l1 v5 l1 l3 g3
def J_X11_sheet_32 (S : e_S) (l0 : Nat) (l1 : Int32) (l2 : Int32) (l3 : Int32) (g : e_G) : Option (Int32 × e_G) :=
  if l2 = (-1 : Int32) then
    J_X11_sheet_44 S l0 l1 l2 l3 g
  else
    if 0 ≤ l3 then
      J_X11_sheet_44 S l0 l1 l2 l3 g
    else
      some ((-14 : Int32), g)
def f_X11_sheet (S : e_S) (l0 : Nat) (l1 : Int32) (l2 : Int32) (l3 : Int32) (g : e_G) : Option (Int32 × e_G) :=
  if e_ob S 11 l0 = true then
    (f_X11_in S l1 (0 : Int32) (3 : Int32) g).bind fun q2 =>
    if q2.1 = 0 then
      some ((-2 : Int32), q2.2)
    else
      (f_X11_in S l2 (-1 : Int32) (2 : Int32) q2.2).bind fun q4 =>
      if q4.1 = 0 then
        some ((-2 : Int32), q4.2)
      else
        if l2 = (-1 : Int32) then
          J_X11_sheet_32 S l0 l1 l2 l3 q4.2
        else
          if l3 ≤ (40 : Int32) then
            J_X11_sheet_32 S l0 l1 l2 l3 q4.2
          else
            some ((-2 : Int32), q4.2)
  else none
theorem x_L_X11_sheet_70 {l : Launch} {D : va_G} {S : e_S} {w : Int32} {k : e_G} : ∀ (n : Nat) (l0 : Nat) (l1 : Int32) (l4 : Int32) (g : e_G), L_X11_sheet_70 n S l0 l1 l4 g = some (w, k) → X l D (e_R 2) M_X11_sheet 0 0 70 [(0, .ref l0), (1, .int l1), (4, .int l4)] [] (S, g) (some (.int w)) (S, k) := by
  intro n
  induction n with
  | zero =>
    intro l0 l1 l4 g hf
    cases hf
  | succ n ih =>
    intro l0 l1 l4 g hf
    rw [L_X11_sheet_70] at hf
    refine X.iload dX11_sheet_70 (j := 2) rfl ?_
    refine X.bipush dX11_sheet_72 kB_40 ?_
    refine X.icmp_ge dX11_sheet_74 (tgt := 96) rfl (fun hc => ?_) (fun hc => ?_)
    · rw [if_pos hc] at hf
      refine X.iconst dX11_sheet_96 kI_1 ?_
      obtain ⟨e1, e2⟩ := e_ret hf
      subst e1
      subst e2
      exact X.iret dX11_sheet_97 rfl rfl
    · rw [if_neg hc] at hf
      refine X.aload_n dX11_sheet_77 rfl (j := 0) rfl ?_
      obtain ⟨v1, h2, hf⟩ := ob hf
      refine Y.getR dX11_sheet_78 fl_X11_40 rfl h2 ?_
      refine X.bipush dX11_sheet_81 kB_40 ?_
      refine X.iload_n dX11_sheet_83 rfl (j := 1) rfl ?_
      refine X.imul dX11_sheet_84 ?_
      refine X.iload dX11_sheet_85 (j := 2) rfl ?_
      refine X.iadd dX11_sheet_87 ?_
      refine X.iconst dX11_sheet_88 kI_0 ?_
      obtain ⟨g3, h4, hf⟩ := ob hf
      refine Y.iast dX11_sheet_89 h4 ?_
      refine X.iinc (j := 2) dX11_sheet_90 rfl (v := l4 + (1 : Int32)) (by rw [kI_1]) (Nat.le_of_ble_eq_true rfl) (lc' := [(4, .int (l4 + (1 : Int32))), (0, .ref l0), (1, .int l1)]) rfl ?_
      refine X.goto dX11_sheet_93 (tgt := 70) rfl ?_
      refine X.sub [1, 2, 0] rfl ?_
      exact ih _ _ _ _ hf
theorem x_J_X11_sheet_66 {l : Launch} {D : va_G} {S : e_S} {w : Int32} {k : e_G} {l0 : Nat} {l1 : Int32} {t0 : Nat} {t1 : Int32} {t2 : Int32} {g : e_G} (hf : J_X11_sheet_66 S l0 l1 t0 t1 t2 g = some (w, k)) : X l D (e_R 2) M_X11_sheet 0 0 66 [(0, .ref l0), (1, .int l1)] [.int t2, .int t1, .ref t0] (S, g) (some (.int w)) (S, k) := by
  unfold J_X11_sheet_66 at hf
  obtain ⟨g1, h2, hf⟩ := ob hf
  refine Y.iast dX11_sheet_66 h2 ?_
  refine X.iconst dX11_sheet_67 kI_0 ?_
  refine X.istore dX11_sheet_68 (Nat.le_of_ble_eq_true rfl) (lc' := [(4, .int (0 : Int32)), (0, .ref l0), (1, .int l1)]) rfl ?_
  refine X.sub [1, 2, 0] rfl ?_
  exact x_L_X11_sheet_70 50000 _ _ _ _ hf
theorem x_J_X11_sheet_44 {l : Launch} {D : va_G} {S : e_S} {w : Int32} {k : e_G} {l0 : Nat} {l1 : Int32} {l2 : Int32} {l3 : Int32} {g : e_G} (hf : J_X11_sheet_44 S l0 l1 l2 l3 g = some (w, k)) : X l D (e_R 2) M_X11_sheet 0 0 44 [(0, .ref l0), (1, .int l1), (2, .int l2), (3, .int l3)] [] (S, g) (some (.int w)) (S, k) := by
  unfold J_X11_sheet_44 at hf
  refine X.aload_n dX11_sheet_44 rfl (j := 0) rfl ?_
  obtain ⟨v1, h2, hf⟩ := ob hf
  refine Y.getR dX11_sheet_45 fl_X11_34 rfl h2 ?_
  refine X.iload_n dX11_sheet_48 rfl (j := 1) rfl ?_
  refine X.iload_n dX11_sheet_49 rfl (j := 2) rfl ?_
  obtain ⟨g3, h4, hf⟩ := ob hf
  refine Y.iast dX11_sheet_50 h4 ?_
  refine X.aload_n dX11_sheet_51 rfl (j := 0) rfl ?_
  obtain ⟨v5, h6, hf⟩ := ob hf
  refine Y.getR dX11_sheet_52 fl_X11_37 rfl h6 ?_
  refine X.iload_n dX11_sheet_55 rfl (j := 1) rfl ?_
  refine X.iload_n dX11_sheet_56 rfl (j := 2) rfl ?_
  refine X.iconst dX11_sheet_57 kI_m1 ?_
  refine X.icmp_ne dX11_sheet_58 (tgt := 65) rfl (fun hc => ?_) (fun hc => ?_)
  · rw [if_neg hc] at hf
    refine X.iload_n dX11_sheet_65 rfl (j := 3) rfl ?_
    refine X.sub [0, 1] rfl ?_
    exact x_J_X11_sheet_66 hf
  · rw [if_pos hc] at hf
    refine X.iconst dX11_sheet_61 kI_0 ?_
    refine X.goto dX11_sheet_62 (tgt := 66) rfl ?_
    refine X.sub [0, 1] rfl ?_
    exact x_J_X11_sheet_66 hf
theorem x_J_X11_sheet_32 {l : Launch} {D : va_G} {S : e_S} {w : Int32} {k : e_G} {l0 : Nat} {l1 : Int32} {l2 : Int32} {l3 : Int32} {g : e_G} (hf : J_X11_sheet_32 S l0 l1 l2 l3 g = some (w, k)) : X l D (e_R 2) M_X11_sheet 0 0 32 [(0, .ref l0), (1, .int l1), (2, .int l2), (3, .int l3)] [] (S, g) (some (.int w)) (S, k) := by
  unfold J_X11_sheet_32 at hf
  refine X.iload_n dX11_sheet_32 rfl (j := 2) rfl ?_
  refine X.iconst dX11_sheet_33 kI_m1 ?_
  refine X.icmp_eq dX11_sheet_34 (tgt := 44) rfl (fun hc => ?_) (fun hc => ?_)
  · rw [if_pos hc] at hf
    exact x_J_X11_sheet_44 hf
  · rw [if_neg hc] at hf
    refine X.iload_n dX11_sheet_37 rfl (j := 3) rfl ?_
    refine X.if_ge dX11_sheet_38 (tgt := 44) rfl (fun hc => ?_) (fun hc => ?_)
    · rw [if_pos hc] at hf
      exact x_J_X11_sheet_44 hf
    · rw [if_neg hc] at hf
      refine X.bipush dX11_sheet_41 kB_m14 ?_
      obtain ⟨e1, e2⟩ := e_ret hf
      subst e1
      subst e2
      exact X.iret dX11_sheet_43 rfl rfl
theorem o_X11_sheet  {S : e_S} {w : Int32} {k : e_G} {l0 : Nat} {l1 : Int32} {l2 : Int32} {l3 : Int32} {g : e_G} (hf : f_X11_sheet S l0 l1 l2 l3 g = some (w, k)) : e_ob S 11 l0 = true := by
  unfold f_X11_sheet at hf
  by_cases hc : e_ob S 11 l0 = true
  · exact hc
  · rw [if_neg hc] at hf
    cases hf
theorem c_X11_sheet {l : Launch} {D : va_G}  {S : e_S} {w : Int32} {k : e_G} {l0 : Nat} {l1 : Int32} {l2 : Int32} {l3 : Int32} {g : e_G} (hf : f_X11_sheet S l0 l1 l2 l3 g = some (w, k)) : CT l D (e_R 2) M_X11_sheet [.ref l0, .int l1, .int l2, .int l3] (S, g) (some (.int w)) (S, k) := by
  refine CT.of (by decide +kernel) (Nat.le_of_ble_eq_true rfl) ?_
  have ho := o_X11_sheet hf
  unfold f_X11_sheet at hf
  rw [if_pos ho] at hf
  show X l D (e_R 2) M_X11_sheet 0 0 0 [(0, .ref l0), (1, .int l1), (2, .int l2), (3, .int l3)] [] (S, g) (some (.int w)) (S, k)
  refine X.iload_n dX11_sheet_0 rfl (j := 1) rfl ?_
  refine X.iconst dX11_sheet_1 kI_0 ?_
  refine X.iconst dX11_sheet_2 kI_3 ?_
  obtain ⟨q2, h1, hf⟩ := ob hf
  refine Y.callS (av := [.int l1, .int (0 : Int32), .int (3 : Int32)]) dX11_sheet_3 (c_X11_in (l := l) (D := D) (w := q2.1) (k := q2.2) h1) cw_X11_78 mk_X11_in (e_R_ok (Nat.le_of_ble_eq_true rfl) (Nat.le_of_ble_eq_true rfl)) ⟨rfl, rfl⟩ (by simp [Value.category]) ?_
  refine X.if_eq dX11_sheet_6 (tgt := 29) rfl (fun hc => ?_) (fun hc => ?_)
  · rw [if_pos hc] at hf
    refine X.bipush dX11_sheet_29 kB_m2 ?_
    obtain ⟨e1, e2⟩ := e_ret hf
    subst e1
    subst e2
    exact X.iret dX11_sheet_31 rfl rfl
  · rw [if_neg hc] at hf
    refine X.iload_n dX11_sheet_9 rfl (j := 2) rfl ?_
    refine X.iconst dX11_sheet_10 kI_m1 ?_
    refine X.iconst dX11_sheet_11 kI_2 ?_
    obtain ⟨q4, h3, hf⟩ := ob hf
    refine Y.callS (av := [.int l2, .int (-1 : Int32), .int (2 : Int32)]) dX11_sheet_12 (c_X11_in (l := l) (D := D) (w := q4.1) (k := q4.2) h3) cw_X11_78 mk_X11_in (e_R_ok (Nat.le_of_ble_eq_true rfl) (Nat.le_of_ble_eq_true rfl)) ⟨rfl, rfl⟩ (by simp [Value.category]) ?_
    refine X.if_eq dX11_sheet_15 (tgt := 29) rfl (fun hc => ?_) (fun hc => ?_)
    · rw [if_pos hc] at hf
      refine X.bipush dX11_sheet_29 kB_m2 ?_
      obtain ⟨e1, e2⟩ := e_ret hf
      subst e1
      subst e2
      exact X.iret dX11_sheet_31 rfl rfl
    · rw [if_neg hc] at hf
      refine X.iload_n dX11_sheet_18 rfl (j := 2) rfl ?_
      refine X.iconst dX11_sheet_19 kI_m1 ?_
      refine X.icmp_eq dX11_sheet_20 (tgt := 32) rfl (fun hc => ?_) (fun hc => ?_)
      · rw [if_pos hc] at hf
        exact x_J_X11_sheet_32 hf
      · rw [if_neg hc] at hf
        refine X.iload_n dX11_sheet_23 rfl (j := 3) rfl ?_
        refine X.bipush dX11_sheet_24 kB_40 ?_
        refine X.icmp_le dX11_sheet_26 (tgt := 32) rfl (fun hc => ?_) (fun hc => ?_)
        · rw [if_pos hc] at hf
          exact x_J_X11_sheet_32 hf
        · rw [if_neg hc] at hf
          refine X.bipush dX11_sheet_29 kB_m2 ?_
          obtain ⟨e1, e2⟩ := e_ret hf
          subst e1
          subst e2
          exact X.iret dX11_sheet_31 rfl rfl
/-! LeanedOutModel.cell(III)I -/
abbrev M_X11_cell : e_M := (yX11_cell, cX11_cell, 4, (some .int))
theorem mk_X11_cell : e_Mok M_X11_cell 3 := ⟨by decide +kernel, by decide +kernel, by decide +kernel⟩
theorem dX11_cell_0 : decode cX11_cell 0 = .ok (.iload_n 1, 1) := by decide +kernel
theorem dX11_cell_1 : decode cX11_cell 1 = .ok (.iconst 0, 1) := by decide +kernel
theorem dX11_cell_2 : decode cX11_cell 2 = .ok (.iconst 3, 1) := by decide +kernel
theorem dX11_cell_3 : decode cX11_cell 3 = .ok (.invokestatic 78, 3) := by decide +kernel
theorem dX11_cell_6 : decode cX11_cell 6 = .ok (.ifCond .ne 6, 3) := by decide +kernel
theorem dX11_cell_9 : decode cX11_cell 9 = .ok (.bipush (-2), 2) := by decide +kernel
theorem dX11_cell_11 : decode cX11_cell 11 = .ok (.ireturn, 1) := by decide +kernel
theorem dX11_cell_12 : decode cX11_cell 12 = .ok (.aload_n 0, 1) := by decide +kernel
theorem dX11_cell_13 : decode cX11_cell 13 = .ok (.getfield 34, 3) := by decide +kernel
theorem dX11_cell_16 : decode cX11_cell 16 = .ok (.iload_n 1, 1) := by decide +kernel
theorem dX11_cell_17 : decode cX11_cell 17 = .ok (.iaload, 1) := by decide +kernel
theorem dX11_cell_18 : decode cX11_cell 18 = .ok (.iconst (-1), 1) := by decide +kernel
theorem dX11_cell_19 : decode cX11_cell 19 = .ok (.if_icmp .ne 6, 3) := by decide +kernel
theorem dX11_cell_22 : decode cX11_cell 22 = .ok (.bipush (-11), 2) := by decide +kernel
theorem dX11_cell_24 : decode cX11_cell 24 = .ok (.ireturn, 1) := by decide +kernel
theorem dX11_cell_25 : decode cX11_cell 25 = .ok (.iload_n 2, 1) := by decide +kernel
theorem dX11_cell_26 : decode cX11_cell 26 = .ok (.iconst 0, 1) := by decide +kernel
theorem dX11_cell_27 : decode cX11_cell 27 = .ok (.aload_n 0, 1) := by decide +kernel
theorem dX11_cell_28 : decode cX11_cell 28 = .ok (.getfield 37, 3) := by decide +kernel
theorem dX11_cell_31 : decode cX11_cell 31 = .ok (.iload_n 1, 1) := by decide +kernel
theorem dX11_cell_32 : decode cX11_cell 32 = .ok (.iaload, 1) := by decide +kernel
theorem dX11_cell_33 : decode cX11_cell 33 = .ok (.iconst 1, 1) := by decide +kernel
theorem dX11_cell_34 : decode cX11_cell 34 = .ok (.isub, 1) := by decide +kernel
theorem dX11_cell_35 : decode cX11_cell 35 = .ok (.invokestatic 78, 3) := by decide +kernel
theorem dX11_cell_38 : decode cX11_cell 38 = .ok (.ifCond .ne 6, 3) := by decide +kernel
theorem dX11_cell_41 : decode cX11_cell 41 = .ok (.bipush (-12), 2) := by decide +kernel
theorem dX11_cell_43 : decode cX11_cell 43 = .ok (.ireturn, 1) := by decide +kernel
theorem dX11_cell_44 : decode cX11_cell 44 = .ok (.aload_n 0, 1) := by decide +kernel
theorem dX11_cell_45 : decode cX11_cell 45 = .ok (.getfield 40, 3) := by decide +kernel
theorem dX11_cell_48 : decode cX11_cell 48 = .ok (.bipush 40, 2) := by decide +kernel
theorem dX11_cell_50 : decode cX11_cell 50 = .ok (.iload_n 1, 1) := by decide +kernel
theorem dX11_cell_51 : decode cX11_cell 51 = .ok (.imul, 1) := by decide +kernel
theorem dX11_cell_52 : decode cX11_cell 52 = .ok (.iload_n 2, 1) := by decide +kernel
theorem dX11_cell_53 : decode cX11_cell 53 = .ok (.iadd, 1) := by decide +kernel
theorem dX11_cell_54 : decode cX11_cell 54 = .ok (.aload_n 0, 1) := by decide +kernel
theorem dX11_cell_55 : decode cX11_cell 55 = .ok (.getfield 34, 3) := by decide +kernel
theorem dX11_cell_58 : decode cX11_cell 58 = .ok (.iload_n 1, 1) := by decide +kernel
theorem dX11_cell_59 : decode cX11_cell 59 = .ok (.iaload, 1) := by decide +kernel
theorem dX11_cell_60 : decode cX11_cell 60 = .ok (.ifCond .ne 8, 3) := by decide +kernel
theorem dX11_cell_63 : decode cX11_cell 63 = .ok (.iload_n 3, 1) := by decide +kernel
theorem dX11_cell_64 : decode cX11_cell 64 = .ok (.i2b, 1) := by decide +kernel
theorem dX11_cell_65 : decode cX11_cell 65 = .ok (.goto 19, 3) := by decide +kernel
theorem dX11_cell_68 : decode cX11_cell 68 = .ok (.aload_n 0, 1) := by decide +kernel
theorem dX11_cell_69 : decode cX11_cell 69 = .ok (.getfield 34, 3) := by decide +kernel
theorem dX11_cell_72 : decode cX11_cell 72 = .ok (.iload_n 1, 1) := by decide +kernel
theorem dX11_cell_73 : decode cX11_cell 73 = .ok (.iaload, 1) := by decide +kernel
theorem dX11_cell_74 : decode cX11_cell 74 = .ok (.iconst 1, 1) := by decide +kernel
theorem dX11_cell_75 : decode cX11_cell 75 = .ok (.if_icmp .ne 8, 3) := by decide +kernel
theorem dX11_cell_78 : decode cX11_cell 78 = .ok (.iload_n 3, 1) := by decide +kernel
theorem dX11_cell_79 : decode cX11_cell 79 = .ok (.i2s, 1) := by decide +kernel
theorem dX11_cell_80 : decode cX11_cell 80 = .ok (.goto 4, 3) := by decide +kernel
theorem dX11_cell_83 : decode cX11_cell 83 = .ok (.iload_n 3, 1) := by decide +kernel
theorem dX11_cell_84 : decode cX11_cell 84 = .ok (.iastore, 1) := by decide +kernel
theorem dX11_cell_85 : decode cX11_cell 85 = .ok (.iconst 1, 1) := by decide +kernel
theorem dX11_cell_86 : decode cX11_cell 86 = .ok (.ireturn, 1) := by decide +kernel
def J_X11_cell_84 (S : e_S) (t0 : Nat) (t1 : Int32) (t2 : Int32) (g : e_G) : Option (Int32 × e_G) :=
  (e_aS S g 0 t0 t1 t2).bind fun g1 =>
  some ((1 : Int32), g1)
def f_X11_cell (S : e_S) (l0 : Nat) (l1 : Int32) (l2 : Int32) (l3 : Int32) (g : e_G) : Option (Int32 × e_G) :=
  if e_ob S 11 l0 = true then
    (f_X11_in S l1 (0 : Int32) (3 : Int32) g).bind fun q2 =>
    if q2.1 = 0 then
      some ((-2 : Int32), q2.2)
    else
      (e_gR S q2.2 11 l0 14).bind fun v3 =>
      (e_aI S q2.2 0 v3 l1).bind fun v5 =>
      if v5 = (-1 : Int32) then
        some ((-11 : Int32), q2.2)
      else
        (e_gR S q2.2 11 l0 15).bind fun v7 =>
        (e_aI S q2.2 0 v7 l1).bind fun v9 =>
        (f_X11_in S l2 (0 : Int32) (v9 - (1 : Int32)) q2.2).bind fun q12 =>
        if q12.1 = 0 then
          some ((-12 : Int32), q12.2)
        else
          (e_gR S q12.2 11 l0 16).bind fun v13 =>
          (e_gR S q12.2 11 l0 14).bind fun v15 =>
          (e_aI S q12.2 0 v15 l1).bind fun v17 =>
          if v17 = 0 then
            J_X11_cell_84 S v13 (((40 : Int32) * l1) + l2) l3.toInt8.toInt32 q12.2
          else
            (e_gR S q12.2 11 l0 14).bind fun v19 =>
            (e_aI S q12.2 0 v19 l1).bind fun v21 =>
            if v21 = (1 : Int32) then
              J_X11_cell_84 S v13 (((40 : Int32) * l1) + l2) l3.toInt16.toInt32 q12.2
            else
              J_X11_cell_84 S v13 (((40 : Int32) * l1) + l2) l3 q12.2
  else none
theorem x_J_X11_cell_84 {l : Launch} {D : va_G} {S : e_S} {w : Int32} {k : e_G} {t0 : Nat} {t1 : Int32} {t2 : Int32} {g : e_G} (hf : J_X11_cell_84 S t0 t1 t2 g = some (w, k)) : X l D (e_R 2) M_X11_cell 0 0 84 [] [.int t2, .int t1, .ref t0] (S, g) (some (.int w)) (S, k) := by
  unfold J_X11_cell_84 at hf
  obtain ⟨g1, h2, hf⟩ := ob hf
  refine Y.iast dX11_cell_84 h2 ?_
  refine X.iconst dX11_cell_85 kI_1 ?_
  obtain ⟨e1, e2⟩ := e_ret hf
  subst e1
  subst e2
  exact X.iret dX11_cell_86 rfl rfl
theorem o_X11_cell  {S : e_S} {w : Int32} {k : e_G} {l0 : Nat} {l1 : Int32} {l2 : Int32} {l3 : Int32} {g : e_G} (hf : f_X11_cell S l0 l1 l2 l3 g = some (w, k)) : e_ob S 11 l0 = true := by
  unfold f_X11_cell at hf
  by_cases hc : e_ob S 11 l0 = true
  · exact hc
  · rw [if_neg hc] at hf
    cases hf
theorem c_X11_cell {l : Launch} {D : va_G}  {S : e_S} {w : Int32} {k : e_G} {l0 : Nat} {l1 : Int32} {l2 : Int32} {l3 : Int32} {g : e_G} (hf : f_X11_cell S l0 l1 l2 l3 g = some (w, k)) : CT l D (e_R 2) M_X11_cell [.ref l0, .int l1, .int l2, .int l3] (S, g) (some (.int w)) (S, k) := by
  refine CT.of (by decide +kernel) (Nat.le_of_ble_eq_true rfl) ?_
  have ho := o_X11_cell hf
  unfold f_X11_cell at hf
  rw [if_pos ho] at hf
  show X l D (e_R 2) M_X11_cell 0 0 0 [(0, .ref l0), (1, .int l1), (2, .int l2), (3, .int l3)] [] (S, g) (some (.int w)) (S, k)
  refine X.iload_n dX11_cell_0 rfl (j := 1) rfl ?_
  refine X.iconst dX11_cell_1 kI_0 ?_
  refine X.iconst dX11_cell_2 kI_3 ?_
  obtain ⟨q2, h1, hf⟩ := ob hf
  refine Y.callS (av := [.int l1, .int (0 : Int32), .int (3 : Int32)]) dX11_cell_3 (c_X11_in (l := l) (D := D) (w := q2.1) (k := q2.2) h1) cw_X11_78 mk_X11_in (e_R_ok (Nat.le_of_ble_eq_true rfl) (Nat.le_of_ble_eq_true rfl)) ⟨rfl, rfl⟩ (by simp [Value.category]) ?_
  refine X.if_ne dX11_cell_6 (tgt := 12) rfl (fun hc => ?_) (fun hc => ?_)
  · rw [if_neg hc] at hf
    refine X.aload_n dX11_cell_12 rfl (j := 0) rfl ?_
    obtain ⟨v3, h4, hf⟩ := ob hf
    refine Y.getR dX11_cell_13 fl_X11_34 rfl h4 ?_
    refine X.iload_n dX11_cell_16 rfl (j := 1) rfl ?_
    obtain ⟨v5, h6, hf⟩ := ob hf
    refine Y.iald dX11_cell_17 h6 ?_
    refine X.iconst dX11_cell_18 kI_m1 ?_
    refine X.icmp_ne dX11_cell_19 (tgt := 25) rfl (fun hc => ?_) (fun hc => ?_)
    · rw [if_neg hc] at hf
      refine X.iload_n dX11_cell_25 rfl (j := 2) rfl ?_
      refine X.iconst dX11_cell_26 kI_0 ?_
      refine X.aload_n dX11_cell_27 rfl (j := 0) rfl ?_
      obtain ⟨v7, h8, hf⟩ := ob hf
      refine Y.getR dX11_cell_28 fl_X11_37 rfl h8 ?_
      refine X.iload_n dX11_cell_31 rfl (j := 1) rfl ?_
      obtain ⟨v9, h10, hf⟩ := ob hf
      refine Y.iald dX11_cell_32 h10 ?_
      refine X.iconst dX11_cell_33 kI_1 ?_
      refine X.isub dX11_cell_34 ?_
      obtain ⟨q12, h11, hf⟩ := ob hf
      refine Y.callS (av := [.int l2, .int (0 : Int32), .int (v9 - (1 : Int32))]) dX11_cell_35 (c_X11_in (l := l) (D := D) (w := q12.1) (k := q12.2) h11) cw_X11_78 mk_X11_in (e_R_ok (Nat.le_of_ble_eq_true rfl) (Nat.le_of_ble_eq_true rfl)) ⟨rfl, rfl⟩ (by simp [Value.category]) ?_
      refine X.if_ne dX11_cell_38 (tgt := 44) rfl (fun hc => ?_) (fun hc => ?_)
      · rw [if_neg hc] at hf
        refine X.aload_n dX11_cell_44 rfl (j := 0) rfl ?_
        obtain ⟨v13, h14, hf⟩ := ob hf
        refine Y.getR dX11_cell_45 fl_X11_40 rfl h14 ?_
        refine X.bipush dX11_cell_48 kB_40 ?_
        refine X.iload_n dX11_cell_50 rfl (j := 1) rfl ?_
        refine X.imul dX11_cell_51 ?_
        refine X.iload_n dX11_cell_52 rfl (j := 2) rfl ?_
        refine X.iadd dX11_cell_53 ?_
        refine X.aload_n dX11_cell_54 rfl (j := 0) rfl ?_
        obtain ⟨v15, h16, hf⟩ := ob hf
        refine Y.getR dX11_cell_55 fl_X11_34 rfl h16 ?_
        refine X.iload_n dX11_cell_58 rfl (j := 1) rfl ?_
        obtain ⟨v17, h18, hf⟩ := ob hf
        refine Y.iald dX11_cell_59 h18 ?_
        refine X.if_ne dX11_cell_60 (tgt := 68) rfl (fun hc => ?_) (fun hc => ?_)
        · rw [if_neg hc] at hf
          refine X.aload_n dX11_cell_68 rfl (j := 0) rfl ?_
          obtain ⟨v19, h20, hf⟩ := ob hf
          refine Y.getR dX11_cell_69 fl_X11_34 rfl h20 ?_
          refine X.iload_n dX11_cell_72 rfl (j := 1) rfl ?_
          obtain ⟨v21, h22, hf⟩ := ob hf
          refine Y.iald dX11_cell_73 h22 ?_
          refine X.iconst dX11_cell_74 kI_1 ?_
          refine X.icmp_ne dX11_cell_75 (tgt := 83) rfl (fun hc => ?_) (fun hc => ?_)
          · rw [if_neg hc] at hf
            refine X.iload_n dX11_cell_83 rfl (j := 3) rfl ?_
            refine X.sub [] rfl ?_
            exact x_J_X11_cell_84 hf
          · rw [if_pos hc] at hf
            refine X.iload_n dX11_cell_78 rfl (j := 3) rfl ?_
            refine X.i2s dX11_cell_79 ?_
            refine X.goto dX11_cell_80 (tgt := 84) rfl ?_
            refine X.sub [] rfl ?_
            exact x_J_X11_cell_84 hf
        · rw [if_pos hc] at hf
          refine X.iload_n dX11_cell_63 rfl (j := 3) rfl ?_
          refine X.i2b dX11_cell_64 ?_
          refine X.goto dX11_cell_65 (tgt := 84) rfl ?_
          refine X.sub [] rfl ?_
          exact x_J_X11_cell_84 hf
      · rw [if_pos hc] at hf
        refine X.bipush dX11_cell_41 kB_m12 ?_
        obtain ⟨e1, e2⟩ := e_ret hf
        subst e1
        subst e2
        exact X.iret dX11_cell_43 rfl rfl
    · rw [if_pos hc] at hf
      refine X.bipush dX11_cell_22 kB_m11 ?_
      obtain ⟨e1, e2⟩ := e_ret hf
      subst e1
      subst e2
      exact X.iret dX11_cell_24 rfl rfl
  · rw [if_pos hc] at hf
    refine X.bipush dX11_cell_9 kB_m2 ?_
    obtain ⟨e1, e2⟩ := e_ret hf
    subst e1
    subst e2
    exact X.iret dX11_cell_11 rfl rfl
/-! LeanedOutModel.copy(IIIII)I -/
abbrev M_X11_copy : e_M := (yX11_copy, cX11_copy, 10, (some .int))
theorem mk_X11_copy : e_Mok M_X11_copy 5 := ⟨by decide +kernel, by decide +kernel, by decide +kernel⟩
theorem dX11_copy_0 : decode cX11_copy 0 = .ok (.iload_n 1, 1) := by decide +kernel
theorem dX11_copy_1 : decode cX11_copy 1 = .ok (.iconst 0, 1) := by decide +kernel
theorem dX11_copy_2 : decode cX11_copy 2 = .ok (.iconst 3, 1) := by decide +kernel
theorem dX11_copy_3 : decode cX11_copy 3 = .ok (.invokestatic 78, 3) := by decide +kernel
theorem dX11_copy_6 : decode cX11_copy 6 = .ok (.ifCond .eq 12, 3) := by decide +kernel
theorem dX11_copy_9 : decode cX11_copy 9 = .ok (.iload_n 3, 1) := by decide +kernel
theorem dX11_copy_10 : decode cX11_copy 10 = .ok (.iconst 0, 1) := by decide +kernel
theorem dX11_copy_11 : decode cX11_copy 11 = .ok (.iconst 3, 1) := by decide +kernel
theorem dX11_copy_12 : decode cX11_copy 12 = .ok (.invokestatic 78, 3) := by decide +kernel
theorem dX11_copy_15 : decode cX11_copy 15 = .ok (.ifCond .ne 6, 3) := by decide +kernel
theorem dX11_copy_18 : decode cX11_copy 18 = .ok (.bipush (-2), 2) := by decide +kernel
theorem dX11_copy_20 : decode cX11_copy 20 = .ok (.ireturn, 1) := by decide +kernel
theorem dX11_copy_21 : decode cX11_copy 21 = .ok (.aload_n 0, 1) := by decide +kernel
theorem dX11_copy_22 : decode cX11_copy 22 = .ok (.getfield 34, 3) := by decide +kernel
theorem dX11_copy_25 : decode cX11_copy 25 = .ok (.iload_n 1, 1) := by decide +kernel
theorem dX11_copy_26 : decode cX11_copy 26 = .ok (.iaload, 1) := by decide +kernel
theorem dX11_copy_27 : decode cX11_copy 27 = .ok (.iconst (-1), 1) := by decide +kernel
theorem dX11_copy_28 : decode cX11_copy 28 = .ok (.if_icmp .eq 13, 3) := by decide +kernel
theorem dX11_copy_31 : decode cX11_copy 31 = .ok (.aload_n 0, 1) := by decide +kernel
theorem dX11_copy_32 : decode cX11_copy 32 = .ok (.getfield 34, 3) := by decide +kernel
theorem dX11_copy_35 : decode cX11_copy 35 = .ok (.iload_n 3, 1) := by decide +kernel
theorem dX11_copy_36 : decode cX11_copy 36 = .ok (.iaload, 1) := by decide +kernel
theorem dX11_copy_37 : decode cX11_copy 37 = .ok (.iconst (-1), 1) := by decide +kernel
theorem dX11_copy_38 : decode cX11_copy 38 = .ok (.if_icmp .ne 6, 3) := by decide +kernel
theorem dX11_copy_41 : decode cX11_copy 41 = .ok (.bipush (-11), 2) := by decide +kernel
theorem dX11_copy_43 : decode cX11_copy 43 = .ok (.ireturn, 1) := by decide +kernel
theorem dX11_copy_44 : decode cX11_copy 44 = .ok (.aload_n 0, 1) := by decide +kernel
theorem dX11_copy_45 : decode cX11_copy 45 = .ok (.getfield 34, 3) := by decide +kernel
theorem dX11_copy_48 : decode cX11_copy 48 = .ok (.iload_n 1, 1) := by decide +kernel
theorem dX11_copy_49 : decode cX11_copy 49 = .ok (.iaload, 1) := by decide +kernel
theorem dX11_copy_50 : decode cX11_copy 50 = .ok (.aload_n 0, 1) := by decide +kernel
theorem dX11_copy_51 : decode cX11_copy 51 = .ok (.getfield 34, 3) := by decide +kernel
theorem dX11_copy_54 : decode cX11_copy 54 = .ok (.iload_n 3, 1) := by decide +kernel
theorem dX11_copy_55 : decode cX11_copy 55 = .ok (.iaload, 1) := by decide +kernel
theorem dX11_copy_56 : decode cX11_copy 56 = .ok (.if_icmp .eq 6, 3) := by decide +kernel
theorem dX11_copy_59 : decode cX11_copy 59 = .ok (.bipush (-13), 2) := by decide +kernel
theorem dX11_copy_61 : decode cX11_copy 61 = .ok (.ireturn, 1) := by decide +kernel
theorem dX11_copy_62 : decode cX11_copy 62 = .ok (.iload 5, 2) := by decide +kernel
theorem dX11_copy_64 : decode cX11_copy 64 = .ok (.ifCond .lt 60, 3) := by decide +kernel
theorem dX11_copy_67 : decode cX11_copy 67 = .ok (.iload_n 2, 1) := by decide +kernel
theorem dX11_copy_68 : decode cX11_copy 68 = .ok (.ifCond .lt 56, 3) := by decide +kernel
theorem dX11_copy_71 : decode cX11_copy 71 = .ok (.iload 4, 2) := by decide +kernel
theorem dX11_copy_73 : decode cX11_copy 73 = .ok (.ifCond .lt 51, 3) := by decide +kernel
theorem dX11_copy_76 : decode cX11_copy 76 = .ok (.iload_n 2, 1) := by decide +kernel
theorem dX11_copy_77 : decode cX11_copy 77 = .ok (.aload_n 0, 1) := by decide +kernel
theorem dX11_copy_78 : decode cX11_copy 78 = .ok (.getfield 37, 3) := by decide +kernel
theorem dX11_copy_81 : decode cX11_copy 81 = .ok (.iload_n 1, 1) := by decide +kernel
theorem dX11_copy_82 : decode cX11_copy 82 = .ok (.iaload, 1) := by decide +kernel
theorem dX11_copy_83 : decode cX11_copy 83 = .ok (.if_icmp .gt 41, 3) := by decide +kernel
theorem dX11_copy_86 : decode cX11_copy 86 = .ok (.iload 4, 2) := by decide +kernel
theorem dX11_copy_88 : decode cX11_copy 88 = .ok (.aload_n 0, 1) := by decide +kernel
theorem dX11_copy_89 : decode cX11_copy 89 = .ok (.getfield 37, 3) := by decide +kernel
theorem dX11_copy_92 : decode cX11_copy 92 = .ok (.iload_n 3, 1) := by decide +kernel
theorem dX11_copy_93 : decode cX11_copy 93 = .ok (.iaload, 1) := by decide +kernel
theorem dX11_copy_94 : decode cX11_copy 94 = .ok (.if_icmp .gt 30, 3) := by decide +kernel
theorem dX11_copy_97 : decode cX11_copy 97 = .ok (.iload 5, 2) := by decide +kernel
theorem dX11_copy_99 : decode cX11_copy 99 = .ok (.aload_n 0, 1) := by decide +kernel
theorem dX11_copy_100 : decode cX11_copy 100 = .ok (.getfield 37, 3) := by decide +kernel
theorem dX11_copy_103 : decode cX11_copy 103 = .ok (.iload_n 1, 1) := by decide +kernel
theorem dX11_copy_104 : decode cX11_copy 104 = .ok (.iaload, 1) := by decide +kernel
theorem dX11_copy_105 : decode cX11_copy 105 = .ok (.iload_n 2, 1) := by decide +kernel
theorem dX11_copy_106 : decode cX11_copy 106 = .ok (.isub, 1) := by decide +kernel
theorem dX11_copy_107 : decode cX11_copy 107 = .ok (.if_icmp .gt 17, 3) := by decide +kernel
theorem dX11_copy_110 : decode cX11_copy 110 = .ok (.iload 5, 2) := by decide +kernel
theorem dX11_copy_112 : decode cX11_copy 112 = .ok (.aload_n 0, 1) := by decide +kernel
theorem dX11_copy_113 : decode cX11_copy 113 = .ok (.getfield 37, 3) := by decide +kernel
theorem dX11_copy_116 : decode cX11_copy 116 = .ok (.iload_n 3, 1) := by decide +kernel
theorem dX11_copy_117 : decode cX11_copy 117 = .ok (.iaload, 1) := by decide +kernel
theorem dX11_copy_118 : decode cX11_copy 118 = .ok (.iload 4, 2) := by decide +kernel
theorem dX11_copy_120 : decode cX11_copy 120 = .ok (.isub, 1) := by decide +kernel
theorem dX11_copy_121 : decode cX11_copy 121 = .ok (.if_icmp .le 6, 3) := by decide +kernel
theorem dX11_copy_124 : decode cX11_copy 124 = .ok (.bipush (-12), 2) := by decide +kernel
theorem dX11_copy_126 : decode cX11_copy 126 = .ok (.ireturn, 1) := by decide +kernel
theorem dX11_copy_127 : decode cX11_copy 127 = .ok (.bipush 40, 2) := by decide +kernel
theorem dX11_copy_129 : decode cX11_copy 129 = .ok (.iload_n 1, 1) := by decide +kernel
theorem dX11_copy_130 : decode cX11_copy 130 = .ok (.imul, 1) := by decide +kernel
theorem dX11_copy_131 : decode cX11_copy 131 = .ok (.iload_n 2, 1) := by decide +kernel
theorem dX11_copy_132 : decode cX11_copy 132 = .ok (.iadd, 1) := by decide +kernel
theorem dX11_copy_133 : decode cX11_copy 133 = .ok (.istore 6, 2) := by decide +kernel
theorem dX11_copy_135 : decode cX11_copy 135 = .ok (.bipush 40, 2) := by decide +kernel
theorem dX11_copy_137 : decode cX11_copy 137 = .ok (.iload_n 3, 1) := by decide +kernel
theorem dX11_copy_138 : decode cX11_copy 138 = .ok (.imul, 1) := by decide +kernel
theorem dX11_copy_139 : decode cX11_copy 139 = .ok (.iload 4, 2) := by decide +kernel
theorem dX11_copy_141 : decode cX11_copy 141 = .ok (.iadd, 1) := by decide +kernel
theorem dX11_copy_142 : decode cX11_copy 142 = .ok (.istore 7, 2) := by decide +kernel
theorem dX11_copy_144 : decode cX11_copy 144 = .ok (.iconst 0, 1) := by decide +kernel
theorem dX11_copy_145 : decode cX11_copy 145 = .ok (.istore 8, 2) := by decide +kernel
theorem dX11_copy_147 : decode cX11_copy 147 = .ok (.iload 8, 2) := by decide +kernel
theorem dX11_copy_149 : decode cX11_copy 149 = .ok (.iload 5, 2) := by decide +kernel
theorem dX11_copy_151 : decode cX11_copy 151 = .ok (.if_icmp .ge 50, 3) := by decide +kernel
theorem dX11_copy_154 : decode cX11_copy 154 = .ok (.iload 6, 2) := by decide +kernel
theorem dX11_copy_156 : decode cX11_copy 156 = .ok (.iload 7, 2) := by decide +kernel
theorem dX11_copy_158 : decode cX11_copy 158 = .ok (.if_icmp .ge 13, 3) := by decide +kernel
theorem dX11_copy_161 : decode cX11_copy 161 = .ok (.iload 5, 2) := by decide +kernel
theorem dX11_copy_163 : decode cX11_copy 163 = .ok (.iconst 1, 1) := by decide +kernel
theorem dX11_copy_164 : decode cX11_copy 164 = .ok (.isub, 1) := by decide +kernel
theorem dX11_copy_165 : decode cX11_copy 165 = .ok (.iload 8, 2) := by decide +kernel
theorem dX11_copy_167 : decode cX11_copy 167 = .ok (.isub, 1) := by decide +kernel
theorem dX11_copy_168 : decode cX11_copy 168 = .ok (.goto 5, 3) := by decide +kernel
theorem dX11_copy_171 : decode cX11_copy 171 = .ok (.iload 8, 2) := by decide +kernel
theorem dX11_copy_173 : decode cX11_copy 173 = .ok (.istore 9, 2) := by decide +kernel
theorem dX11_copy_175 : decode cX11_copy 175 = .ok (.aload_n 0, 1) := by decide +kernel
theorem dX11_copy_176 : decode cX11_copy 176 = .ok (.getfield 40, 3) := by decide +kernel
theorem dX11_copy_179 : decode cX11_copy 179 = .ok (.iload 7, 2) := by decide +kernel
theorem dX11_copy_181 : decode cX11_copy 181 = .ok (.iload 9, 2) := by decide +kernel
theorem dX11_copy_183 : decode cX11_copy 183 = .ok (.iadd, 1) := by decide +kernel
theorem dX11_copy_184 : decode cX11_copy 184 = .ok (.aload_n 0, 1) := by decide +kernel
theorem dX11_copy_185 : decode cX11_copy 185 = .ok (.getfield 40, 3) := by decide +kernel
theorem dX11_copy_188 : decode cX11_copy 188 = .ok (.iload 6, 2) := by decide +kernel
theorem dX11_copy_190 : decode cX11_copy 190 = .ok (.iload 9, 2) := by decide +kernel
theorem dX11_copy_192 : decode cX11_copy 192 = .ok (.iadd, 1) := by decide +kernel
theorem dX11_copy_193 : decode cX11_copy 193 = .ok (.iaload, 1) := by decide +kernel
theorem dX11_copy_194 : decode cX11_copy 194 = .ok (.iastore, 1) := by decide +kernel
theorem dX11_copy_195 : decode cX11_copy 195 = .ok (.iinc 8 1, 3) := by decide +kernel
theorem dX11_copy_198 : decode cX11_copy 198 = .ok (.goto (-51), 3) := by decide +kernel
theorem dX11_copy_201 : decode cX11_copy 201 = .ok (.iload 5, 2) := by decide +kernel
theorem dX11_copy_203 : decode cX11_copy 203 = .ok (.ireturn, 1) := by decide +kernel
def J_X11_copy_173 (c147 : Nat → Int32 → Int32 → Int32 → Int32 → e_G → Option (Int32 × e_G)) (S : e_S) (l0 : Nat) (l5 : Int32) (l6 : Int32) (l7 : Int32) (l8 : Int32) (t0 : Int32) (g : e_G) : Option (Int32 × e_G) :=
  (e_gR S g 11 l0 16).bind fun v1 =>
  (e_gR S g 11 l0 16).bind fun v3 =>
  (e_aI S g 0 v3 (l6 + t0)).bind fun v5 =>
  (e_aS S g 0 v1 (l7 + t0) v5).bind fun g7 =>
  c147 l0 l5 l6 l7 (l8 + (1 : Int32)) g7
def L_X11_copy_147 : Nat → e_S → Nat → Int32 → Int32 → Int32 → Int32 → e_G → Option (Int32 × e_G)
  | 0, _, _, _, _, _, _, _ => none
  | n + 1, S, l0, l5, l6, l7, l8, g =>
  if l5 ≤ l8 then
    some (l5, g)
  else
    if l7 ≤ l6 then
      J_X11_copy_173 (L_X11_copy_147 n S) S l0 l5 l6 l7 l8 l8 g
    else
      J_X11_copy_173 (L_X11_copy_147 n S) S l0 l5 l6 l7 l8 ((l5 - (1 : Int32)) - l8) g
def f_X11_copy (S : e_S) (l0 : Nat) (l1 : Int32) (l2 : Int32) (l3 : Int32) (l4 : Int32) (l5 : Int32) (g : e_G) : Option (Int32 × e_G) :=
  if e_ob S 11 l0 = true then
    (f_X11_in S l1 (0 : Int32) (3 : Int32) g).bind fun q2 =>
    if q2.1 = 0 then
      some ((-2 : Int32), q2.2)
    else
      (f_X11_in S l3 (0 : Int32) (3 : Int32) q2.2).bind fun q4 =>
      if q4.1 = 0 then
        some ((-2 : Int32), q4.2)
      else
        (e_gR S q4.2 11 l0 14).bind fun v5 =>
        (e_aI S q4.2 0 v5 l1).bind fun v7 =>
        if v7 = (-1 : Int32) then
          some ((-11 : Int32), q4.2)
        else
          (e_gR S q4.2 11 l0 14).bind fun v9 =>
          (e_aI S q4.2 0 v9 l3).bind fun v11 =>
          if v11 = (-1 : Int32) then
            some ((-11 : Int32), q4.2)
          else
            (e_gR S q4.2 11 l0 14).bind fun v13 =>
            (e_aI S q4.2 0 v13 l1).bind fun v15 =>
            (e_gR S q4.2 11 l0 14).bind fun v17 =>
            (e_aI S q4.2 0 v17 l3).bind fun v19 =>
            if v15 = v19 then
              if l5 < 0 then
                some ((-12 : Int32), q4.2)
              else
                if l2 < 0 then
                  some ((-12 : Int32), q4.2)
                else
                  if l4 < 0 then
                    some ((-12 : Int32), q4.2)
                  else
                    (e_gR S q4.2 11 l0 15).bind fun v21 =>
                    (e_aI S q4.2 0 v21 l1).bind fun v23 =>
                    if v23 < l2 then
                      some ((-12 : Int32), q4.2)
                    else
                      (e_gR S q4.2 11 l0 15).bind fun v25 =>
                      (e_aI S q4.2 0 v25 l3).bind fun v27 =>
                      if v27 < l4 then
                        some ((-12 : Int32), q4.2)
                      else
                        (e_gR S q4.2 11 l0 15).bind fun v29 =>
                        (e_aI S q4.2 0 v29 l1).bind fun v31 =>
                        if (v31 - l2) < l5 then
                          some ((-12 : Int32), q4.2)
                        else
                          (e_gR S q4.2 11 l0 15).bind fun v33 =>
                          (e_aI S q4.2 0 v33 l3).bind fun v35 =>
                          if l5 ≤ (v35 - l4) then
                            L_X11_copy_147 50000 S l0 l5 (((40 : Int32) * l1) + l2) (((40 : Int32) * l3) + l4) (0 : Int32) q4.2
                          else
                            some ((-12 : Int32), q4.2)
            else
              some ((-13 : Int32), q4.2)
  else none
theorem x_J_X11_copy_173 {l : Launch} {D : va_G} {S : e_S} {w : Int32} {k : e_G} (c147 : Nat → Int32 → Int32 → Int32 → Int32 → e_G → Option (Int32 × e_G)) (hc147 : ∀ (l0 : Nat) (l5 : Int32) (l6 : Int32) (l7 : Int32) (l8 : Int32) (g : e_G), c147 l0 l5 l6 l7 l8 g = some (w, k) → X l D (e_R 2) M_X11_copy 0 0 147 [(0, .ref l0), (5, .int l5), (6, .int l6), (7, .int l7), (8, .int l8)] [] (S, g) (some (.int w)) (S, k)) {l0 : Nat} {l5 : Int32} {l6 : Int32} {l7 : Int32} {l8 : Int32} {t0 : Int32} {g : e_G} (hf : J_X11_copy_173 c147 S l0 l5 l6 l7 l8 t0 g = some (w, k)) : X l D (e_R 2) M_X11_copy 0 0 173 [(0, .ref l0), (5, .int l5), (6, .int l6), (7, .int l7), (8, .int l8)] [.int t0] (S, g) (some (.int w)) (S, k) := by
  unfold J_X11_copy_173 at hf
  refine X.istore dX11_copy_173 (Nat.le_of_ble_eq_true rfl) (lc' := [(9, .int t0), (0, .ref l0), (5, .int l5), (6, .int l6), (7, .int l7), (8, .int l8)]) rfl ?_
  refine X.aload_n dX11_copy_175 rfl (j := 1) rfl ?_
  obtain ⟨v1, h2, hf⟩ := ob hf
  refine Y.getR dX11_copy_176 fl_X11_40 rfl h2 ?_
  refine X.iload dX11_copy_179 (j := 4) rfl ?_
  refine X.iload dX11_copy_181 (j := 0) rfl ?_
  refine X.iadd dX11_copy_183 ?_
  refine X.aload_n dX11_copy_184 rfl (j := 1) rfl ?_
  obtain ⟨v3, h4, hf⟩ := ob hf
  refine Y.getR dX11_copy_185 fl_X11_40 rfl h4 ?_
  refine X.iload dX11_copy_188 (j := 3) rfl ?_
  refine X.iload dX11_copy_190 (j := 0) rfl ?_
  refine X.iadd dX11_copy_192 ?_
  obtain ⟨v5, h6, hf⟩ := ob hf
  refine Y.iald dX11_copy_193 h6 ?_
  obtain ⟨g7, h8, hf⟩ := ob hf
  refine Y.iast dX11_copy_194 h8 ?_
  refine X.iinc (j := 5) dX11_copy_195 rfl (v := l8 + (1 : Int32)) (by rw [kI_1]) (Nat.le_of_ble_eq_true rfl) (lc' := [(8, .int (l8 + (1 : Int32))), (9, .int t0), (0, .ref l0), (5, .int l5), (6, .int l6), (7, .int l7)]) rfl ?_
  refine X.goto dX11_copy_198 (tgt := 147) rfl ?_
  refine X.sub [2, 3, 4, 5, 0] rfl ?_
  exact hc147 _ _ _ _ _ _ hf
theorem x_L_X11_copy_147 {l : Launch} {D : va_G} {S : e_S} {w : Int32} {k : e_G} : ∀ (n : Nat) (l0 : Nat) (l5 : Int32) (l6 : Int32) (l7 : Int32) (l8 : Int32) (g : e_G), L_X11_copy_147 n S l0 l5 l6 l7 l8 g = some (w, k) → X l D (e_R 2) M_X11_copy 0 0 147 [(0, .ref l0), (5, .int l5), (6, .int l6), (7, .int l7), (8, .int l8)] [] (S, g) (some (.int w)) (S, k) := by
  intro n
  induction n with
  | zero =>
    intro l0 l5 l6 l7 l8 g hf
    cases hf
  | succ n ih =>
    intro l0 l5 l6 l7 l8 g hf
    rw [L_X11_copy_147] at hf
    refine X.iload dX11_copy_147 (j := 4) rfl ?_
    refine X.iload dX11_copy_149 (j := 1) rfl ?_
    refine X.icmp_ge dX11_copy_151 (tgt := 201) rfl (fun hc => ?_) (fun hc => ?_)
    · rw [if_pos hc] at hf
      refine X.iload dX11_copy_201 (j := 1) rfl ?_
      obtain ⟨e1, e2⟩ := e_ret hf
      subst e1
      subst e2
      exact X.iret dX11_copy_203 rfl rfl
    · rw [if_neg hc] at hf
      refine X.iload dX11_copy_154 (j := 2) rfl ?_
      refine X.iload dX11_copy_156 (j := 3) rfl ?_
      refine X.icmp_ge dX11_copy_158 (tgt := 171) rfl (fun hc => ?_) (fun hc => ?_)
      · rw [if_pos hc] at hf
        refine X.iload dX11_copy_171 (j := 4) rfl ?_
        exact x_J_X11_copy_173 _ ih hf
      · rw [if_neg hc] at hf
        refine X.iload dX11_copy_161 (j := 1) rfl ?_
        refine X.iconst dX11_copy_163 kI_1 ?_
        refine X.isub dX11_copy_164 ?_
        refine X.iload dX11_copy_165 (j := 4) rfl ?_
        refine X.isub dX11_copy_167 ?_
        refine X.goto dX11_copy_168 (tgt := 173) rfl ?_
        exact x_J_X11_copy_173 _ ih hf
theorem o_X11_copy  {S : e_S} {w : Int32} {k : e_G} {l0 : Nat} {l1 : Int32} {l2 : Int32} {l3 : Int32} {l4 : Int32} {l5 : Int32} {g : e_G} (hf : f_X11_copy S l0 l1 l2 l3 l4 l5 g = some (w, k)) : e_ob S 11 l0 = true := by
  unfold f_X11_copy at hf
  by_cases hc : e_ob S 11 l0 = true
  · exact hc
  · rw [if_neg hc] at hf
    cases hf
theorem c_X11_copy {l : Launch} {D : va_G}  {S : e_S} {w : Int32} {k : e_G} {l0 : Nat} {l1 : Int32} {l2 : Int32} {l3 : Int32} {l4 : Int32} {l5 : Int32} {g : e_G} (hf : f_X11_copy S l0 l1 l2 l3 l4 l5 g = some (w, k)) : CT l D (e_R 2) M_X11_copy [.ref l0, .int l1, .int l2, .int l3, .int l4, .int l5] (S, g) (some (.int w)) (S, k) := by
  refine CT.of (by decide +kernel) (Nat.le_of_ble_eq_true rfl) ?_
  have ho := o_X11_copy hf
  unfold f_X11_copy at hf
  rw [if_pos ho] at hf
  show X l D (e_R 2) M_X11_copy 0 0 0 [(0, .ref l0), (1, .int l1), (2, .int l2), (3, .int l3), (4, .int l4), (5, .int l5)] [] (S, g) (some (.int w)) (S, k)
  refine X.iload_n dX11_copy_0 rfl (j := 1) rfl ?_
  refine X.iconst dX11_copy_1 kI_0 ?_
  refine X.iconst dX11_copy_2 kI_3 ?_
  obtain ⟨q2, h1, hf⟩ := ob hf
  refine Y.callS (av := [.int l1, .int (0 : Int32), .int (3 : Int32)]) dX11_copy_3 (c_X11_in (l := l) (D := D) (w := q2.1) (k := q2.2) h1) cw_X11_78 mk_X11_in (e_R_ok (Nat.le_of_ble_eq_true rfl) (Nat.le_of_ble_eq_true rfl)) ⟨rfl, rfl⟩ (by simp [Value.category]) ?_
  refine X.if_eq dX11_copy_6 (tgt := 18) rfl (fun hc => ?_) (fun hc => ?_)
  · rw [if_pos hc] at hf
    refine X.bipush dX11_copy_18 kB_m2 ?_
    obtain ⟨e1, e2⟩ := e_ret hf
    subst e1
    subst e2
    exact X.iret dX11_copy_20 rfl rfl
  · rw [if_neg hc] at hf
    refine X.iload_n dX11_copy_9 rfl (j := 3) rfl ?_
    refine X.iconst dX11_copy_10 kI_0 ?_
    refine X.iconst dX11_copy_11 kI_3 ?_
    obtain ⟨q4, h3, hf⟩ := ob hf
    refine Y.callS (av := [.int l3, .int (0 : Int32), .int (3 : Int32)]) dX11_copy_12 (c_X11_in (l := l) (D := D) (w := q4.1) (k := q4.2) h3) cw_X11_78 mk_X11_in (e_R_ok (Nat.le_of_ble_eq_true rfl) (Nat.le_of_ble_eq_true rfl)) ⟨rfl, rfl⟩ (by simp [Value.category]) ?_
    refine X.if_ne dX11_copy_15 (tgt := 21) rfl (fun hc => ?_) (fun hc => ?_)
    · rw [if_neg hc] at hf
      refine X.aload_n dX11_copy_21 rfl (j := 0) rfl ?_
      obtain ⟨v5, h6, hf⟩ := ob hf
      refine Y.getR dX11_copy_22 fl_X11_34 rfl h6 ?_
      refine X.iload_n dX11_copy_25 rfl (j := 1) rfl ?_
      obtain ⟨v7, h8, hf⟩ := ob hf
      refine Y.iald dX11_copy_26 h8 ?_
      refine X.iconst dX11_copy_27 kI_m1 ?_
      refine X.icmp_eq dX11_copy_28 (tgt := 41) rfl (fun hc => ?_) (fun hc => ?_)
      · rw [if_pos hc] at hf
        refine X.bipush dX11_copy_41 kB_m11 ?_
        obtain ⟨e1, e2⟩ := e_ret hf
        subst e1
        subst e2
        exact X.iret dX11_copy_43 rfl rfl
      · rw [if_neg hc] at hf
        refine X.aload_n dX11_copy_31 rfl (j := 0) rfl ?_
        obtain ⟨v9, h10, hf⟩ := ob hf
        refine Y.getR dX11_copy_32 fl_X11_34 rfl h10 ?_
        refine X.iload_n dX11_copy_35 rfl (j := 3) rfl ?_
        obtain ⟨v11, h12, hf⟩ := ob hf
        refine Y.iald dX11_copy_36 h12 ?_
        refine X.iconst dX11_copy_37 kI_m1 ?_
        refine X.icmp_ne dX11_copy_38 (tgt := 44) rfl (fun hc => ?_) (fun hc => ?_)
        · rw [if_neg hc] at hf
          refine X.aload_n dX11_copy_44 rfl (j := 0) rfl ?_
          obtain ⟨v13, h14, hf⟩ := ob hf
          refine Y.getR dX11_copy_45 fl_X11_34 rfl h14 ?_
          refine X.iload_n dX11_copy_48 rfl (j := 1) rfl ?_
          obtain ⟨v15, h16, hf⟩ := ob hf
          refine Y.iald dX11_copy_49 h16 ?_
          refine X.aload_n dX11_copy_50 rfl (j := 0) rfl ?_
          obtain ⟨v17, h18, hf⟩ := ob hf
          refine Y.getR dX11_copy_51 fl_X11_34 rfl h18 ?_
          refine X.iload_n dX11_copy_54 rfl (j := 3) rfl ?_
          obtain ⟨v19, h20, hf⟩ := ob hf
          refine Y.iald dX11_copy_55 h20 ?_
          refine X.icmp_eq dX11_copy_56 (tgt := 62) rfl (fun hc => ?_) (fun hc => ?_)
          · rw [if_pos hc] at hf
            refine X.iload dX11_copy_62 (j := 5) rfl ?_
            refine X.if_lt dX11_copy_64 (tgt := 124) rfl (fun hc => ?_) (fun hc => ?_)
            · rw [if_pos hc] at hf
              refine X.bipush dX11_copy_124 kB_m12 ?_
              obtain ⟨e1, e2⟩ := e_ret hf
              subst e1
              subst e2
              exact X.iret dX11_copy_126 rfl rfl
            · rw [if_neg hc] at hf
              refine X.iload_n dX11_copy_67 rfl (j := 2) rfl ?_
              refine X.if_lt dX11_copy_68 (tgt := 124) rfl (fun hc => ?_) (fun hc => ?_)
              · rw [if_pos hc] at hf
                refine X.bipush dX11_copy_124 kB_m12 ?_
                obtain ⟨e1, e2⟩ := e_ret hf
                subst e1
                subst e2
                exact X.iret dX11_copy_126 rfl rfl
              · rw [if_neg hc] at hf
                refine X.iload dX11_copy_71 (j := 4) rfl ?_
                refine X.if_lt dX11_copy_73 (tgt := 124) rfl (fun hc => ?_) (fun hc => ?_)
                · rw [if_pos hc] at hf
                  refine X.bipush dX11_copy_124 kB_m12 ?_
                  obtain ⟨e1, e2⟩ := e_ret hf
                  subst e1
                  subst e2
                  exact X.iret dX11_copy_126 rfl rfl
                · rw [if_neg hc] at hf
                  refine X.iload_n dX11_copy_76 rfl (j := 2) rfl ?_
                  refine X.aload_n dX11_copy_77 rfl (j := 0) rfl ?_
                  obtain ⟨v21, h22, hf⟩ := ob hf
                  refine Y.getR dX11_copy_78 fl_X11_37 rfl h22 ?_
                  refine X.iload_n dX11_copy_81 rfl (j := 1) rfl ?_
                  obtain ⟨v23, h24, hf⟩ := ob hf
                  refine Y.iald dX11_copy_82 h24 ?_
                  refine X.icmp_gt dX11_copy_83 (tgt := 124) rfl (fun hc => ?_) (fun hc => ?_)
                  · rw [if_pos hc] at hf
                    refine X.bipush dX11_copy_124 kB_m12 ?_
                    obtain ⟨e1, e2⟩ := e_ret hf
                    subst e1
                    subst e2
                    exact X.iret dX11_copy_126 rfl rfl
                  · rw [if_neg hc] at hf
                    refine X.iload dX11_copy_86 (j := 4) rfl ?_
                    refine X.aload_n dX11_copy_88 rfl (j := 0) rfl ?_
                    obtain ⟨v25, h26, hf⟩ := ob hf
                    refine Y.getR dX11_copy_89 fl_X11_37 rfl h26 ?_
                    refine X.iload_n dX11_copy_92 rfl (j := 3) rfl ?_
                    obtain ⟨v27, h28, hf⟩ := ob hf
                    refine Y.iald dX11_copy_93 h28 ?_
                    refine X.icmp_gt dX11_copy_94 (tgt := 124) rfl (fun hc => ?_) (fun hc => ?_)
                    · rw [if_pos hc] at hf
                      refine X.bipush dX11_copy_124 kB_m12 ?_
                      obtain ⟨e1, e2⟩ := e_ret hf
                      subst e1
                      subst e2
                      exact X.iret dX11_copy_126 rfl rfl
                    · rw [if_neg hc] at hf
                      refine X.iload dX11_copy_97 (j := 5) rfl ?_
                      refine X.aload_n dX11_copy_99 rfl (j := 0) rfl ?_
                      obtain ⟨v29, h30, hf⟩ := ob hf
                      refine Y.getR dX11_copy_100 fl_X11_37 rfl h30 ?_
                      refine X.iload_n dX11_copy_103 rfl (j := 1) rfl ?_
                      obtain ⟨v31, h32, hf⟩ := ob hf
                      refine Y.iald dX11_copy_104 h32 ?_
                      refine X.iload_n dX11_copy_105 rfl (j := 2) rfl ?_
                      refine X.isub dX11_copy_106 ?_
                      refine X.icmp_gt dX11_copy_107 (tgt := 124) rfl (fun hc => ?_) (fun hc => ?_)
                      · rw [if_pos hc] at hf
                        refine X.bipush dX11_copy_124 kB_m12 ?_
                        obtain ⟨e1, e2⟩ := e_ret hf
                        subst e1
                        subst e2
                        exact X.iret dX11_copy_126 rfl rfl
                      · rw [if_neg hc] at hf
                        refine X.iload dX11_copy_110 (j := 5) rfl ?_
                        refine X.aload_n dX11_copy_112 rfl (j := 0) rfl ?_
                        obtain ⟨v33, h34, hf⟩ := ob hf
                        refine Y.getR dX11_copy_113 fl_X11_37 rfl h34 ?_
                        refine X.iload_n dX11_copy_116 rfl (j := 3) rfl ?_
                        obtain ⟨v35, h36, hf⟩ := ob hf
                        refine Y.iald dX11_copy_117 h36 ?_
                        refine X.iload dX11_copy_118 (j := 4) rfl ?_
                        refine X.isub dX11_copy_120 ?_
                        refine X.icmp_le dX11_copy_121 (tgt := 127) rfl (fun hc => ?_) (fun hc => ?_)
                        · rw [if_pos hc] at hf
                          refine X.bipush dX11_copy_127 kB_40 ?_
                          refine X.iload_n dX11_copy_129 rfl (j := 1) rfl ?_
                          refine X.imul dX11_copy_130 ?_
                          refine X.iload_n dX11_copy_131 rfl (j := 2) rfl ?_
                          refine X.iadd dX11_copy_132 ?_
                          refine X.istore dX11_copy_133 (Nat.le_of_ble_eq_true rfl) (lc' := [(6, .int (((40 : Int32) * l1) + l2)), (0, .ref l0), (1, .int l1), (2, .int l2), (3, .int l3), (4, .int l4), (5, .int l5)]) rfl ?_
                          refine X.bipush dX11_copy_135 kB_40 ?_
                          refine X.iload_n dX11_copy_137 rfl (j := 4) rfl ?_
                          refine X.imul dX11_copy_138 ?_
                          refine X.iload dX11_copy_139 (j := 5) rfl ?_
                          refine X.iadd dX11_copy_141 ?_
                          refine X.istore dX11_copy_142 (Nat.le_of_ble_eq_true rfl) (lc' := [(7, .int (((40 : Int32) * l3) + l4)), (6, .int (((40 : Int32) * l1) + l2)), (0, .ref l0), (1, .int l1), (2, .int l2), (3, .int l3), (4, .int l4), (5, .int l5)]) rfl ?_
                          refine X.iconst dX11_copy_144 kI_0 ?_
                          refine X.istore dX11_copy_145 (Nat.le_of_ble_eq_true rfl) (lc' := [(8, .int (0 : Int32)), (7, .int (((40 : Int32) * l3) + l4)), (6, .int (((40 : Int32) * l1) + l2)), (0, .ref l0), (1, .int l1), (2, .int l2), (3, .int l3), (4, .int l4), (5, .int l5)]) rfl ?_
                          refine X.sub [3, 8, 2, 1, 0] rfl ?_
                          exact x_L_X11_copy_147 50000 _ _ _ _ _ _ hf
                        · rw [if_neg hc] at hf
                          refine X.bipush dX11_copy_124 kB_m12 ?_
                          obtain ⟨e1, e2⟩ := e_ret hf
                          subst e1
                          subst e2
                          exact X.iret dX11_copy_126 rfl rfl
          · rw [if_neg hc] at hf
            refine X.bipush dX11_copy_59 kB_m13 ?_
            obtain ⟨e1, e2⟩ := e_ret hf
            subst e1
            subst e2
            exact X.iret dX11_copy_61 rfl rfl
        · rw [if_pos hc] at hf
          refine X.bipush dX11_copy_41 kB_m11 ?_
          obtain ⟨e1, e2⟩ := e_ret hf
          subst e1
          subst e2
          exact X.iret dX11_copy_43 rfl rfl
    · rw [if_pos hc] at hf
      refine X.bipush dX11_copy_18 kB_m2 ?_
      obtain ⟨e1, e2⟩ := e_ret hf
      subst e1
      subst e2
      exact X.iret dX11_copy_20 rfl rfl
/-! LeanedOutModel.peopleBy(IIII)I -/
abbrev M_X11_peopleBy : e_M := (yX11_peopleBy, cX11_peopleBy, 9, (some .int))
theorem mk_X11_peopleBy : e_Mok M_X11_peopleBy 4 := ⟨by decide +kernel, by decide +kernel, by decide +kernel⟩
theorem dX11_peopleBy_0 : decode cX11_peopleBy 0 = .ok (.iload_n 1, 1) := by decide +kernel
theorem dX11_peopleBy_1 : decode cX11_peopleBy 1 = .ok (.iconst 0, 1) := by decide +kernel
theorem dX11_peopleBy_2 : decode cX11_peopleBy 2 = .ok (.iconst 3, 1) := by decide +kernel
theorem dX11_peopleBy_3 : decode cX11_peopleBy 3 = .ok (.invokestatic 78, 3) := by decide +kernel
theorem dX11_peopleBy_6 : decode cX11_peopleBy 6 = .ok (.ifCond .eq 23, 3) := by decide +kernel
theorem dX11_peopleBy_9 : decode cX11_peopleBy 9 = .ok (.iload_n 2, 1) := by decide +kernel
theorem dX11_peopleBy_10 : decode cX11_peopleBy 10 = .ok (.iconst 0, 1) := by decide +kernel
theorem dX11_peopleBy_11 : decode cX11_peopleBy 11 = .ok (.iconst 2, 1) := by decide +kernel
theorem dX11_peopleBy_12 : decode cX11_peopleBy 12 = .ok (.invokestatic 78, 3) := by decide +kernel
theorem dX11_peopleBy_15 : decode cX11_peopleBy 15 = .ok (.ifCond .eq 14, 3) := by decide +kernel
theorem dX11_peopleBy_18 : decode cX11_peopleBy 18 = .ok (.iload 4, 2) := by decide +kernel
theorem dX11_peopleBy_20 : decode cX11_peopleBy 20 = .ok (.iconst 0, 1) := by decide +kernel
theorem dX11_peopleBy_21 : decode cX11_peopleBy 21 = .ok (.bipush 6, 2) := by decide +kernel
theorem dX11_peopleBy_23 : decode cX11_peopleBy 23 = .ok (.invokestatic 78, 3) := by decide +kernel
theorem dX11_peopleBy_26 : decode cX11_peopleBy 26 = .ok (.ifCond .ne 6, 3) := by decide +kernel
theorem dX11_peopleBy_29 : decode cX11_peopleBy 29 = .ok (.bipush (-2), 2) := by decide +kernel
theorem dX11_peopleBy_31 : decode cX11_peopleBy 31 = .ok (.ireturn, 1) := by decide +kernel
theorem dX11_peopleBy_32 : decode cX11_peopleBy 32 = .ok (.aload_n 0, 1) := by decide +kernel
theorem dX11_peopleBy_33 : decode cX11_peopleBy 33 = .ok (.getfield 34, 3) := by decide +kernel
theorem dX11_peopleBy_36 : decode cX11_peopleBy 36 = .ok (.iload_n 1, 1) := by decide +kernel
theorem dX11_peopleBy_37 : decode cX11_peopleBy 37 = .ok (.iaload, 1) := by decide +kernel
theorem dX11_peopleBy_38 : decode cX11_peopleBy 38 = .ok (.iconst (-1), 1) := by decide +kernel
theorem dX11_peopleBy_39 : decode cX11_peopleBy 39 = .ok (.if_icmp .ne 6, 3) := by decide +kernel
theorem dX11_peopleBy_42 : decode cX11_peopleBy 42 = .ok (.bipush (-11), 2) := by decide +kernel
theorem dX11_peopleBy_44 : decode cX11_peopleBy 44 = .ok (.ireturn, 1) := by decide +kernel
theorem dX11_peopleBy_45 : decode cX11_peopleBy 45 = .ok (.aload_n 0, 1) := by decide +kernel
theorem dX11_peopleBy_46 : decode cX11_peopleBy 46 = .ok (.getfield 34, 3) := by decide +kernel
theorem dX11_peopleBy_49 : decode cX11_peopleBy 49 = .ok (.iload_n 1, 1) := by decide +kernel
theorem dX11_peopleBy_50 : decode cX11_peopleBy 50 = .ok (.iaload, 1) := by decide +kernel
theorem dX11_peopleBy_51 : decode cX11_peopleBy 51 = .ok (.iload_n 2, 1) := by decide +kernel
theorem dX11_peopleBy_52 : decode cX11_peopleBy 52 = .ok (.if_icmp .eq 6, 3) := by decide +kernel
theorem dX11_peopleBy_55 : decode cX11_peopleBy 55 = .ok (.bipush (-13), 2) := by decide +kernel
theorem dX11_peopleBy_57 : decode cX11_peopleBy 57 = .ok (.ireturn, 1) := by decide +kernel
theorem dX11_peopleBy_58 : decode cX11_peopleBy 58 = .ok (.iconst 0, 1) := by decide +kernel
theorem dX11_peopleBy_59 : decode cX11_peopleBy 59 = .ok (.istore 5, 2) := by decide +kernel
theorem dX11_peopleBy_61 : decode cX11_peopleBy 61 = .ok (.iconst 0, 1) := by decide +kernel
theorem dX11_peopleBy_62 : decode cX11_peopleBy 62 = .ok (.istore 6, 2) := by decide +kernel
theorem dX11_peopleBy_64 : decode cX11_peopleBy 64 = .ok (.iload 6, 2) := by decide +kernel
theorem dX11_peopleBy_66 : decode cX11_peopleBy 66 = .ok (.iload 4, 2) := by decide +kernel
theorem dX11_peopleBy_68 : decode cX11_peopleBy 68 = .ok (.if_icmp .ge 85, 3) := by decide +kernel
theorem dX11_peopleBy_71 : decode cX11_peopleBy 71 = .ok (.iload_n 3, 1) := by decide +kernel
theorem dX11_peopleBy_72 : decode cX11_peopleBy 72 = .ok (.iconst 2, 1) := by decide +kernel
theorem dX11_peopleBy_73 : decode cX11_peopleBy 73 = .ok (.iload 6, 2) := by decide +kernel
theorem dX11_peopleBy_75 : decode cX11_peopleBy 75 = .ok (.imul, 1) := by decide +kernel
theorem dX11_peopleBy_76 : decode cX11_peopleBy 76 = .ok (.iadd, 1) := by decide +kernel
theorem dX11_peopleBy_77 : decode cX11_peopleBy 77 = .ok (.istore 7, 2) := by decide +kernel
theorem dX11_peopleBy_79 : decode cX11_peopleBy 79 = .ok (.iload_n 3, 1) := by decide +kernel
theorem dX11_peopleBy_80 : decode cX11_peopleBy 80 = .ok (.ifCond .lt 22, 3) := by decide +kernel
theorem dX11_peopleBy_83 : decode cX11_peopleBy 83 = .ok (.iload 7, 2) := by decide +kernel
theorem dX11_peopleBy_85 : decode cX11_peopleBy 85 = .ok (.iload_n 3, 1) := by decide +kernel
theorem dX11_peopleBy_86 : decode cX11_peopleBy 86 = .ok (.if_icmp .lt 16, 3) := by decide +kernel
theorem dX11_peopleBy_89 : decode cX11_peopleBy 89 = .ok (.iload 7, 2) := by decide +kernel
theorem dX11_peopleBy_91 : decode cX11_peopleBy 91 = .ok (.aload_n 0, 1) := by decide +kernel
theorem dX11_peopleBy_92 : decode cX11_peopleBy 92 = .ok (.getfield 37, 3) := by decide +kernel
theorem dX11_peopleBy_95 : decode cX11_peopleBy 95 = .ok (.iload_n 1, 1) := by decide +kernel
theorem dX11_peopleBy_96 : decode cX11_peopleBy 96 = .ok (.iaload, 1) := by decide +kernel
theorem dX11_peopleBy_97 : decode cX11_peopleBy 97 = .ok (.iconst 2, 1) := by decide +kernel
theorem dX11_peopleBy_98 : decode cX11_peopleBy 98 = .ok (.isub, 1) := by decide +kernel
theorem dX11_peopleBy_99 : decode cX11_peopleBy 99 = .ok (.if_icmp .le 6, 3) := by decide +kernel
theorem dX11_peopleBy_102 : decode cX11_peopleBy 102 = .ok (.bipush (-12), 2) := by decide +kernel
theorem dX11_peopleBy_104 : decode cX11_peopleBy 104 = .ok (.ireturn, 1) := by decide +kernel
theorem dX11_peopleBy_105 : decode cX11_peopleBy 105 = .ok (.bipush 40, 2) := by decide +kernel
theorem dX11_peopleBy_107 : decode cX11_peopleBy 107 = .ok (.iload_n 1, 1) := by decide +kernel
theorem dX11_peopleBy_108 : decode cX11_peopleBy 108 = .ok (.imul, 1) := by decide +kernel
theorem dX11_peopleBy_109 : decode cX11_peopleBy 109 = .ok (.iload 7, 2) := by decide +kernel
theorem dX11_peopleBy_111 : decode cX11_peopleBy 111 = .ok (.iadd, 1) := by decide +kernel
theorem dX11_peopleBy_112 : decode cX11_peopleBy 112 = .ok (.istore 8, 2) := by decide +kernel
theorem dX11_peopleBy_114 : decode cX11_peopleBy 114 = .ok (.iload 5, 2) := by decide +kernel
theorem dX11_peopleBy_116 : decode cX11_peopleBy 116 = .ok (.aload_n 0, 1) := by decide +kernel
theorem dX11_peopleBy_117 : decode cX11_peopleBy 117 = .ok (.aload_n 0, 1) := by decide +kernel
theorem dX11_peopleBy_118 : decode cX11_peopleBy 118 = .ok (.getfield 40, 3) := by decide +kernel
theorem dX11_peopleBy_121 : decode cX11_peopleBy 121 = .ok (.iload 8, 2) := by decide +kernel
theorem dX11_peopleBy_123 : decode cX11_peopleBy 123 = .ok (.iaload, 1) := by decide +kernel
theorem dX11_peopleBy_124 : decode cX11_peopleBy 124 = .ok (.aload_n 0, 1) := by decide +kernel
theorem dX11_peopleBy_125 : decode cX11_peopleBy 125 = .ok (.getfield 40, 3) := by decide +kernel
theorem dX11_peopleBy_128 : decode cX11_peopleBy 128 = .ok (.iload 8, 2) := by decide +kernel
theorem dX11_peopleBy_130 : decode cX11_peopleBy 130 = .ok (.iconst 1, 1) := by decide +kernel
theorem dX11_peopleBy_131 : decode cX11_peopleBy 131 = .ok (.iadd, 1) := by decide +kernel
theorem dX11_peopleBy_132 : decode cX11_peopleBy 132 = .ok (.iaload, 1) := by decide +kernel
theorem dX11_peopleBy_133 : decode cX11_peopleBy 133 = .ok (.invokevirtual 290, 3) := by decide +kernel
theorem dX11_peopleBy_136 : decode cX11_peopleBy 136 = .ok (.ifCond .lt 7, 3) := by decide +kernel
theorem dX11_peopleBy_139 : decode cX11_peopleBy 139 = .ok (.iconst 1, 1) := by decide +kernel
theorem dX11_peopleBy_140 : decode cX11_peopleBy 140 = .ok (.goto 4, 3) := by decide +kernel
theorem dX11_peopleBy_143 : decode cX11_peopleBy 143 = .ok (.iconst 0, 1) := by decide +kernel
theorem dX11_peopleBy_144 : decode cX11_peopleBy 144 = .ok (.iadd, 1) := by decide +kernel
theorem dX11_peopleBy_145 : decode cX11_peopleBy 145 = .ok (.istore 5, 2) := by decide +kernel
theorem dX11_peopleBy_147 : decode cX11_peopleBy 147 = .ok (.iinc 6 1, 3) := by decide +kernel
theorem dX11_peopleBy_150 : decode cX11_peopleBy 150 = .ok (.goto (-86), 3) := by decide +kernel
theorem dX11_peopleBy_153 : decode cX11_peopleBy 153 = .ok (.iload 5, 2) := by decide +kernel
theorem dX11_peopleBy_155 : decode cX11_peopleBy 155 = .ok (.ireturn, 1) := by decide +kernel
def J_X11_peopleBy_144 (c64 : Nat → Int32 → Int32 → Int32 → Int32 → Int32 → e_G → Option (Int32 × e_G)) (S : e_S) (l0 : Nat) (l1 : Int32) (l3 : Int32) (l4 : Int32) (l6 : Int32) (t0 : Int32) (t1 : Int32) (g : e_G) : Option (Int32 × e_G) :=
  c64 l0 l1 l3 l4 (t0 + t1) (l6 + (1 : Int32)) g
def L_X11_peopleBy_64 : Nat → e_S → Nat → Int32 → Int32 → Int32 → Int32 → Int32 → e_G → Option (Int32 × e_G)
  | 0, _, _, _, _, _, _, _, _ => none
  | n + 1, S, l0, l1, l3, l4, l5, l6, g =>
  if l4 ≤ l6 then
    some (l5, g)
  else
    if l3 < 0 then
      some ((-12 : Int32), g)
    else
      if (l3 + ((2 : Int32) * l6)) < l3 then
        some ((-12 : Int32), g)
      else
        (e_gR S g 11 l0 15).bind fun v1 =>
        (e_aI S g 0 v1 l1).bind fun v3 =>
        if (l3 + ((2 : Int32) * l6)) ≤ (v3 - (2 : Int32)) then
          (e_gR S g 11 l0 16).bind fun v5 =>
          (e_aI S g 0 v5 (((40 : Int32) * l1) + (l3 + ((2 : Int32) * l6)))).bind fun v7 =>
          (e_gR S g 11 l0 16).bind fun v9 =>
          (e_aI S g 0 v9 ((((40 : Int32) * l1) + (l3 + ((2 : Int32) * l6))) + (1 : Int32))).bind fun v11 =>
          (f_X11_person S l0 v7 v11 g).bind fun q14 =>
          if q14.1 < 0 then
            J_X11_peopleBy_144 (L_X11_peopleBy_64 n S) S l0 l1 l3 l4 l6 l5 (0 : Int32) q14.2
          else
            J_X11_peopleBy_144 (L_X11_peopleBy_64 n S) S l0 l1 l3 l4 l6 l5 (1 : Int32) q14.2
        else
          some ((-12 : Int32), g)
def f_X11_peopleBy (S : e_S) (l0 : Nat) (l1 : Int32) (l2 : Int32) (l3 : Int32) (l4 : Int32) (g : e_G) : Option (Int32 × e_G) :=
  if e_ob S 11 l0 = true then
    (f_X11_in S l1 (0 : Int32) (3 : Int32) g).bind fun q2 =>
    if q2.1 = 0 then
      some ((-2 : Int32), q2.2)
    else
      (f_X11_in S l2 (0 : Int32) (2 : Int32) q2.2).bind fun q4 =>
      if q4.1 = 0 then
        some ((-2 : Int32), q4.2)
      else
        (f_X11_in S l4 (0 : Int32) (6 : Int32) q4.2).bind fun q6 =>
        if q6.1 = 0 then
          some ((-2 : Int32), q6.2)
        else
          (e_gR S q6.2 11 l0 14).bind fun v7 =>
          (e_aI S q6.2 0 v7 l1).bind fun v9 =>
          if v9 = (-1 : Int32) then
            some ((-11 : Int32), q6.2)
          else
            (e_gR S q6.2 11 l0 14).bind fun v11 =>
            (e_aI S q6.2 0 v11 l1).bind fun v13 =>
            if v13 = l2 then
              L_X11_peopleBy_64 50000 S l0 l1 l3 l4 (0 : Int32) (0 : Int32) q6.2
            else
              some ((-13 : Int32), q6.2)
  else none
theorem x_J_X11_peopleBy_144 {l : Launch} {D : va_G} {S : e_S} {w : Int32} {k : e_G} (c64 : Nat → Int32 → Int32 → Int32 → Int32 → Int32 → e_G → Option (Int32 × e_G)) (hc64 : ∀ (l0 : Nat) (l1 : Int32) (l3 : Int32) (l4 : Int32) (l5 : Int32) (l6 : Int32) (g : e_G), c64 l0 l1 l3 l4 l5 l6 g = some (w, k) → X l D (e_R 4) M_X11_peopleBy 0 0 64 [(0, .ref l0), (1, .int l1), (3, .int l3), (4, .int l4), (5, .int l5), (6, .int l6)] [] (S, g) (some (.int w)) (S, k)) {l0 : Nat} {l1 : Int32} {l3 : Int32} {l4 : Int32} {l6 : Int32} {t0 : Int32} {t1 : Int32} {g : e_G} (hf : J_X11_peopleBy_144 c64 S l0 l1 l3 l4 l6 t0 t1 g = some (w, k)) : X l D (e_R 4) M_X11_peopleBy 0 0 144 [(0, .ref l0), (1, .int l1), (3, .int l3), (4, .int l4), (6, .int l6)] [.int t1, .int t0] (S, g) (some (.int w)) (S, k) := by
  unfold J_X11_peopleBy_144 at hf
  refine X.iadd dX11_peopleBy_144 ?_
  refine X.istore dX11_peopleBy_145 (Nat.le_of_ble_eq_true rfl) (lc' := [(5, .int (t0 + t1)), (0, .ref l0), (1, .int l1), (3, .int l3), (4, .int l4), (6, .int l6)]) rfl ?_
  refine X.iinc (j := 5) dX11_peopleBy_147 rfl (v := l6 + (1 : Int32)) (by rw [kI_1]) (Nat.le_of_ble_eq_true rfl) (lc' := [(6, .int (l6 + (1 : Int32))), (5, .int (t0 + t1)), (0, .ref l0), (1, .int l1), (3, .int l3), (4, .int l4)]) rfl ?_
  refine X.goto dX11_peopleBy_150 (tgt := 64) rfl ?_
  refine X.sub [2, 3, 4, 5, 1, 0] rfl ?_
  exact hc64 _ _ _ _ _ _ _ hf
theorem x_L_X11_peopleBy_64 {l : Launch} {D : va_G} {S : e_S} {w : Int32} {k : e_G} : ∀ (n : Nat) (l0 : Nat) (l1 : Int32) (l3 : Int32) (l4 : Int32) (l5 : Int32) (l6 : Int32) (g : e_G), L_X11_peopleBy_64 n S l0 l1 l3 l4 l5 l6 g = some (w, k) → X l D (e_R 4) M_X11_peopleBy 0 0 64 [(0, .ref l0), (1, .int l1), (3, .int l3), (4, .int l4), (5, .int l5), (6, .int l6)] [] (S, g) (some (.int w)) (S, k) := by
  intro n
  induction n with
  | zero =>
    intro l0 l1 l3 l4 l5 l6 g hf
    cases hf
  | succ n ih =>
    intro l0 l1 l3 l4 l5 l6 g hf
    rw [L_X11_peopleBy_64] at hf
    refine X.iload dX11_peopleBy_64 (j := 5) rfl ?_
    refine X.iload dX11_peopleBy_66 (j := 3) rfl ?_
    refine X.icmp_ge dX11_peopleBy_68 (tgt := 153) rfl (fun hc => ?_) (fun hc => ?_)
    · rw [if_pos hc] at hf
      refine X.iload dX11_peopleBy_153 (j := 4) rfl ?_
      obtain ⟨e1, e2⟩ := e_ret hf
      subst e1
      subst e2
      exact X.iret dX11_peopleBy_155 rfl rfl
    · rw [if_neg hc] at hf
      refine X.iload_n dX11_peopleBy_71 rfl (j := 2) rfl ?_
      refine X.iconst dX11_peopleBy_72 kI_2 ?_
      refine X.iload dX11_peopleBy_73 (j := 5) rfl ?_
      refine X.imul dX11_peopleBy_75 ?_
      refine X.iadd dX11_peopleBy_76 ?_
      refine X.istore dX11_peopleBy_77 (Nat.le_of_ble_eq_true rfl) (lc' := [(7, .int (l3 + ((2 : Int32) * l6))), (0, .ref l0), (1, .int l1), (3, .int l3), (4, .int l4), (5, .int l5), (6, .int l6)]) rfl ?_
      refine X.iload_n dX11_peopleBy_79 rfl (j := 3) rfl ?_
      refine X.if_lt dX11_peopleBy_80 (tgt := 102) rfl (fun hc => ?_) (fun hc => ?_)
      · rw [if_pos hc] at hf
        refine X.bipush dX11_peopleBy_102 kB_m12 ?_
        obtain ⟨e1, e2⟩ := e_ret hf
        subst e1
        subst e2
        exact X.iret dX11_peopleBy_104 rfl rfl
      · rw [if_neg hc] at hf
        refine X.iload dX11_peopleBy_83 (j := 0) rfl ?_
        refine X.iload_n dX11_peopleBy_85 rfl (j := 3) rfl ?_
        refine X.icmp_lt dX11_peopleBy_86 (tgt := 102) rfl (fun hc => ?_) (fun hc => ?_)
        · rw [if_pos hc] at hf
          refine X.bipush dX11_peopleBy_102 kB_m12 ?_
          obtain ⟨e1, e2⟩ := e_ret hf
          subst e1
          subst e2
          exact X.iret dX11_peopleBy_104 rfl rfl
        · rw [if_neg hc] at hf
          refine X.iload dX11_peopleBy_89 (j := 0) rfl ?_
          refine X.aload_n dX11_peopleBy_91 rfl (j := 1) rfl ?_
          obtain ⟨v1, h2, hf⟩ := ob hf
          refine Y.getR dX11_peopleBy_92 fl_X11_37 rfl h2 ?_
          refine X.iload_n dX11_peopleBy_95 rfl (j := 2) rfl ?_
          obtain ⟨v3, h4, hf⟩ := ob hf
          refine Y.iald dX11_peopleBy_96 h4 ?_
          refine X.iconst dX11_peopleBy_97 kI_2 ?_
          refine X.isub dX11_peopleBy_98 ?_
          refine X.icmp_le dX11_peopleBy_99 (tgt := 105) rfl (fun hc => ?_) (fun hc => ?_)
          · rw [if_pos hc] at hf
            refine X.bipush dX11_peopleBy_105 kB_40 ?_
            refine X.iload_n dX11_peopleBy_107 rfl (j := 2) rfl ?_
            refine X.imul dX11_peopleBy_108 ?_
            refine X.iload dX11_peopleBy_109 (j := 0) rfl ?_
            refine X.iadd dX11_peopleBy_111 ?_
            refine X.istore dX11_peopleBy_112 (Nat.le_of_ble_eq_true rfl) (lc' := [(8, .int (((40 : Int32) * l1) + (l3 + ((2 : Int32) * l6)))), (7, .int (l3 + ((2 : Int32) * l6))), (0, .ref l0), (1, .int l1), (3, .int l3), (4, .int l4), (5, .int l5), (6, .int l6)]) rfl ?_
            refine X.iload dX11_peopleBy_114 (j := 6) rfl ?_
            refine X.aload_n dX11_peopleBy_116 rfl (j := 2) rfl ?_
            refine X.aload_n dX11_peopleBy_117 rfl (j := 2) rfl ?_
            obtain ⟨v5, h6, hf⟩ := ob hf
            refine Y.getR dX11_peopleBy_118 fl_X11_40 rfl h6 ?_
            refine X.iload dX11_peopleBy_121 (j := 0) rfl ?_
            obtain ⟨v7, h8, hf⟩ := ob hf
            refine Y.iald dX11_peopleBy_123 h8 ?_
            refine X.aload_n dX11_peopleBy_124 rfl (j := 2) rfl ?_
            obtain ⟨v9, h10, hf⟩ := ob hf
            refine Y.getR dX11_peopleBy_125 fl_X11_40 rfl h10 ?_
            refine X.iload dX11_peopleBy_128 (j := 0) rfl ?_
            refine X.iconst dX11_peopleBy_130 kI_1 ?_
            refine X.iadd dX11_peopleBy_131 ?_
            obtain ⟨v11, h12, hf⟩ := ob hf
            refine Y.iald dX11_peopleBy_132 h12 ?_
            obtain ⟨q14, h13, hf⟩ := ob hf
            refine Y.callV (av := [.int v7, .int v11]) (ci := 11) dX11_peopleBy_133 (c_X11_person (l := l) (D := D) (w := q14.1) (k := q14.2) h13) cw_X11_290 (by decide) rfl mk_X11_person (o_X11_person (w := q14.1) (k := q14.2) h13) (e_R_ok (Nat.le_of_ble_eq_true rfl) (Nat.le_of_ble_eq_true rfl)) ⟨rfl, rfl⟩ (by simp [Value.category]) ?_
            refine X.if_lt dX11_peopleBy_136 (tgt := 143) rfl (fun hc => ?_) (fun hc => ?_)
            · rw [if_pos hc] at hf
              refine X.iconst dX11_peopleBy_143 kI_0 ?_
              refine X.sub [2, 3, 4, 5, 7] rfl ?_
              exact x_J_X11_peopleBy_144 _ ih hf
            · rw [if_neg hc] at hf
              refine X.iconst dX11_peopleBy_139 kI_1 ?_
              refine X.goto dX11_peopleBy_140 (tgt := 144) rfl ?_
              refine X.sub [2, 3, 4, 5, 7] rfl ?_
              exact x_J_X11_peopleBy_144 _ ih hf
          · rw [if_neg hc] at hf
            refine X.bipush dX11_peopleBy_102 kB_m12 ?_
            obtain ⟨e1, e2⟩ := e_ret hf
            subst e1
            subst e2
            exact X.iret dX11_peopleBy_104 rfl rfl
theorem o_X11_peopleBy  {S : e_S} {w : Int32} {k : e_G} {l0 : Nat} {l1 : Int32} {l2 : Int32} {l3 : Int32} {l4 : Int32} {g : e_G} (hf : f_X11_peopleBy S l0 l1 l2 l3 l4 g = some (w, k)) : e_ob S 11 l0 = true := by
  unfold f_X11_peopleBy at hf
  by_cases hc : e_ob S 11 l0 = true
  · exact hc
  · rw [if_neg hc] at hf
    cases hf
theorem c_X11_peopleBy {l : Launch} {D : va_G}  {S : e_S} {w : Int32} {k : e_G} {l0 : Nat} {l1 : Int32} {l2 : Int32} {l3 : Int32} {l4 : Int32} {g : e_G} (hf : f_X11_peopleBy S l0 l1 l2 l3 l4 g = some (w, k)) : CT l D (e_R 4) M_X11_peopleBy [.ref l0, .int l1, .int l2, .int l3, .int l4] (S, g) (some (.int w)) (S, k) := by
  refine CT.of (by decide +kernel) (Nat.le_of_ble_eq_true rfl) ?_
  have ho := o_X11_peopleBy hf
  unfold f_X11_peopleBy at hf
  rw [if_pos ho] at hf
  show X l D (e_R 4) M_X11_peopleBy 0 0 0 [(0, .ref l0), (1, .int l1), (2, .int l2), (3, .int l3), (4, .int l4)] [] (S, g) (some (.int w)) (S, k)
  refine X.iload_n dX11_peopleBy_0 rfl (j := 1) rfl ?_
  refine X.iconst dX11_peopleBy_1 kI_0 ?_
  refine X.iconst dX11_peopleBy_2 kI_3 ?_
  obtain ⟨q2, h1, hf⟩ := ob hf
  refine Y.callS (av := [.int l1, .int (0 : Int32), .int (3 : Int32)]) dX11_peopleBy_3 (c_X11_in (l := l) (D := D) (w := q2.1) (k := q2.2) h1) cw_X11_78 mk_X11_in (e_R_ok (Nat.le_of_ble_eq_true rfl) (Nat.le_of_ble_eq_true rfl)) ⟨rfl, rfl⟩ (by simp [Value.category]) ?_
  refine X.if_eq dX11_peopleBy_6 (tgt := 29) rfl (fun hc => ?_) (fun hc => ?_)
  · rw [if_pos hc] at hf
    refine X.bipush dX11_peopleBy_29 kB_m2 ?_
    obtain ⟨e1, e2⟩ := e_ret hf
    subst e1
    subst e2
    exact X.iret dX11_peopleBy_31 rfl rfl
  · rw [if_neg hc] at hf
    refine X.iload_n dX11_peopleBy_9 rfl (j := 2) rfl ?_
    refine X.iconst dX11_peopleBy_10 kI_0 ?_
    refine X.iconst dX11_peopleBy_11 kI_2 ?_
    obtain ⟨q4, h3, hf⟩ := ob hf
    refine Y.callS (av := [.int l2, .int (0 : Int32), .int (2 : Int32)]) dX11_peopleBy_12 (c_X11_in (l := l) (D := D) (w := q4.1) (k := q4.2) h3) cw_X11_78 mk_X11_in (e_R_ok (Nat.le_of_ble_eq_true rfl) (Nat.le_of_ble_eq_true rfl)) ⟨rfl, rfl⟩ (by simp [Value.category]) ?_
    refine X.if_eq dX11_peopleBy_15 (tgt := 29) rfl (fun hc => ?_) (fun hc => ?_)
    · rw [if_pos hc] at hf
      refine X.bipush dX11_peopleBy_29 kB_m2 ?_
      obtain ⟨e1, e2⟩ := e_ret hf
      subst e1
      subst e2
      exact X.iret dX11_peopleBy_31 rfl rfl
    · rw [if_neg hc] at hf
      refine X.iload dX11_peopleBy_18 (j := 4) rfl ?_
      refine X.iconst dX11_peopleBy_20 kI_0 ?_
      refine X.bipush dX11_peopleBy_21 kB_6 ?_
      obtain ⟨q6, h5, hf⟩ := ob hf
      refine Y.callS (av := [.int l4, .int (0 : Int32), .int (6 : Int32)]) dX11_peopleBy_23 (c_X11_in (l := l) (D := D) (w := q6.1) (k := q6.2) h5) cw_X11_78 mk_X11_in (e_R_ok (Nat.le_of_ble_eq_true rfl) (Nat.le_of_ble_eq_true rfl)) ⟨rfl, rfl⟩ (by simp [Value.category]) ?_
      refine X.if_ne dX11_peopleBy_26 (tgt := 32) rfl (fun hc => ?_) (fun hc => ?_)
      · rw [if_neg hc] at hf
        refine X.aload_n dX11_peopleBy_32 rfl (j := 0) rfl ?_
        obtain ⟨v7, h8, hf⟩ := ob hf
        refine Y.getR dX11_peopleBy_33 fl_X11_34 rfl h8 ?_
        refine X.iload_n dX11_peopleBy_36 rfl (j := 1) rfl ?_
        obtain ⟨v9, h10, hf⟩ := ob hf
        refine Y.iald dX11_peopleBy_37 h10 ?_
        refine X.iconst dX11_peopleBy_38 kI_m1 ?_
        refine X.icmp_ne dX11_peopleBy_39 (tgt := 45) rfl (fun hc => ?_) (fun hc => ?_)
        · rw [if_neg hc] at hf
          refine X.aload_n dX11_peopleBy_45 rfl (j := 0) rfl ?_
          obtain ⟨v11, h12, hf⟩ := ob hf
          refine Y.getR dX11_peopleBy_46 fl_X11_34 rfl h12 ?_
          refine X.iload_n dX11_peopleBy_49 rfl (j := 1) rfl ?_
          obtain ⟨v13, h14, hf⟩ := ob hf
          refine Y.iald dX11_peopleBy_50 h14 ?_
          refine X.iload_n dX11_peopleBy_51 rfl (j := 2) rfl ?_
          refine X.icmp_eq dX11_peopleBy_52 (tgt := 58) rfl (fun hc => ?_) (fun hc => ?_)
          · rw [if_pos hc] at hf
            refine X.iconst dX11_peopleBy_58 kI_0 ?_
            refine X.istore dX11_peopleBy_59 (Nat.le_of_ble_eq_true rfl) (lc' := [(5, .int (0 : Int32)), (0, .ref l0), (1, .int l1), (2, .int l2), (3, .int l3), (4, .int l4)]) rfl ?_
            refine X.iconst dX11_peopleBy_61 kI_0 ?_
            refine X.istore dX11_peopleBy_62 (Nat.le_of_ble_eq_true rfl) (lc' := [(6, .int (0 : Int32)), (5, .int (0 : Int32)), (0, .ref l0), (1, .int l1), (2, .int l2), (3, .int l3), (4, .int l4)]) rfl ?_
            refine X.sub [2, 3, 5, 6, 1, 0] rfl ?_
            exact x_L_X11_peopleBy_64 50000 _ _ _ _ _ _ _ hf
          · rw [if_neg hc] at hf
            refine X.bipush dX11_peopleBy_55 kB_m13 ?_
            obtain ⟨e1, e2⟩ := e_ret hf
            subst e1
            subst e2
            exact X.iret dX11_peopleBy_57 rfl rfl
        · rw [if_pos hc] at hf
          refine X.bipush dX11_peopleBy_42 kB_m11 ?_
          obtain ⟨e1, e2⟩ := e_ret hf
          subst e1
          subst e2
          exact X.iret dX11_peopleBy_44 rfl rfl
      · rw [if_pos hc] at hf
        refine X.bipush dX11_peopleBy_29 kB_m2 ?_
        obtain ⟨e1, e2⟩ := e_ret hf
        subst e1
        subst e2
        exact X.iret dX11_peopleBy_31 rfl rfl
/-! LeanedOutModel.isUnder(II)Z -/
abbrev M_X11_isUnder : e_M := (yX11_isUnder, cX11_isUnder, 2, (some .boolean))
theorem mk_X11_isUnder : e_Mok M_X11_isUnder 2 := ⟨by decide +kernel, by decide +kernel, by decide +kernel⟩
theorem dX11_isUnder_0 : decode cX11_isUnder 0 = .ok (.iload_n 1, 1) := by decide +kernel
theorem dX11_isUnder_1 : decode cX11_isUnder 1 = .ok (.ifCond .eq 28, 3) := by decide +kernel
theorem dX11_isUnder_4 : decode cX11_isUnder 4 = .ok (.iload_n 0, 1) := by decide +kernel
theorem dX11_isUnder_5 : decode cX11_isUnder 5 = .ok (.iload_n 1, 1) := by decide +kernel
theorem dX11_isUnder_6 : decode cX11_isUnder 6 = .ok (.if_icmp .eq 23, 3) := by decide +kernel
theorem dX11_isUnder_9 : decode cX11_isUnder 9 = .ok (.iload_n 1, 1) := by decide +kernel
theorem dX11_isUnder_10 : decode cX11_isUnder 10 = .ok (.iconst 1, 1) := by decide +kernel
theorem dX11_isUnder_11 : decode cX11_isUnder 11 = .ok (.if_icmp .ne 8, 3) := by decide +kernel
theorem dX11_isUnder_14 : decode cX11_isUnder 14 = .ok (.iload_n 0, 1) := by decide +kernel
theorem dX11_isUnder_15 : decode cX11_isUnder 15 = .ok (.iconst 3, 1) := by decide +kernel
theorem dX11_isUnder_16 : decode cX11_isUnder 16 = .ok (.if_icmp .eq 13, 3) := by decide +kernel
theorem dX11_isUnder_19 : decode cX11_isUnder 19 = .ok (.iload_n 1, 1) := by decide +kernel
theorem dX11_isUnder_20 : decode cX11_isUnder 20 = .ok (.iconst 2, 1) := by decide +kernel
theorem dX11_isUnder_21 : decode cX11_isUnder 21 = .ok (.if_icmp .ne 12, 3) := by decide +kernel
theorem dX11_isUnder_24 : decode cX11_isUnder 24 = .ok (.iload_n 0, 1) := by decide +kernel
theorem dX11_isUnder_25 : decode cX11_isUnder 25 = .ok (.iconst 4, 1) := by decide +kernel
theorem dX11_isUnder_26 : decode cX11_isUnder 26 = .ok (.if_icmp .ne 7, 3) := by decide +kernel
theorem dX11_isUnder_29 : decode cX11_isUnder 29 = .ok (.iconst 1, 1) := by decide +kernel
theorem dX11_isUnder_30 : decode cX11_isUnder 30 = .ok (.goto 4, 3) := by decide +kernel
theorem dX11_isUnder_33 : decode cX11_isUnder 33 = .ok (.iconst 0, 1) := by decide +kernel
theorem dX11_isUnder_34 : decode cX11_isUnder 34 = .ok (.ireturn, 1) := by decide +kernel
def J_X11_isUnder_29 (S : e_S) (g : e_G) : Option (Int32 × e_G) :=
  some ((1 : Int32), g)
def J_X11_isUnder_19 (S : e_S) (l0 : Int32) (l1 : Int32) (g : e_G) : Option (Int32 × e_G) :=
  if l1 = (2 : Int32) then
    if l0 = (4 : Int32) then
      J_X11_isUnder_29 S g
    else
      some ((0 : Int32), g)
  else
    some ((0 : Int32), g)
def f_X11_isUnder (S : e_S) (l0 : Int32) (l1 : Int32) (g : e_G) : Option (Int32 × e_G) :=
  if l1 = 0 then
    J_X11_isUnder_29 S g
  else
    if l0 = l1 then
      J_X11_isUnder_29 S g
    else
      if l1 = (1 : Int32) then
        if l0 = (3 : Int32) then
          J_X11_isUnder_29 S g
        else
          J_X11_isUnder_19 S l0 l1 g
      else
        J_X11_isUnder_19 S l0 l1 g
theorem x_J_X11_isUnder_29 {l : Launch} {D : va_G} {S : e_S} {w : Int32} {k : e_G} {g : e_G} (hf : J_X11_isUnder_29 S g = some (w, k)) : X l D (e_R 1) M_X11_isUnder 0 0 29 [] [] (S, g) (some (.int w)) (S, k) := by
  unfold J_X11_isUnder_29 at hf
  refine X.iconst dX11_isUnder_29 kI_1 ?_
  refine X.goto dX11_isUnder_30 (tgt := 34) rfl ?_
  obtain ⟨e1, e2⟩ := e_ret hf
  subst e1
  subst e2
  exact X.iret dX11_isUnder_34 rfl rfl
theorem x_J_X11_isUnder_19 {l : Launch} {D : va_G} {S : e_S} {w : Int32} {k : e_G} {l0 : Int32} {l1 : Int32} {g : e_G} (hf : J_X11_isUnder_19 S l0 l1 g = some (w, k)) : X l D (e_R 1) M_X11_isUnder 0 0 19 [(0, .int l0), (1, .int l1)] [] (S, g) (some (.int w)) (S, k) := by
  unfold J_X11_isUnder_19 at hf
  refine X.iload_n dX11_isUnder_19 rfl (j := 1) rfl ?_
  refine X.iconst dX11_isUnder_20 kI_2 ?_
  refine X.icmp_ne dX11_isUnder_21 (tgt := 33) rfl (fun hc => ?_) (fun hc => ?_)
  · rw [if_neg hc] at hf
    refine X.iconst dX11_isUnder_33 kI_0 ?_
    obtain ⟨e1, e2⟩ := e_ret hf
    subst e1
    subst e2
    exact X.iret dX11_isUnder_34 rfl rfl
  · rw [if_pos hc] at hf
    refine X.iload_n dX11_isUnder_24 rfl (j := 0) rfl ?_
    refine X.iconst dX11_isUnder_25 kI_4 ?_
    refine X.icmp_ne dX11_isUnder_26 (tgt := 33) rfl (fun hc => ?_) (fun hc => ?_)
    · rw [if_neg hc] at hf
      refine X.iconst dX11_isUnder_33 kI_0 ?_
      obtain ⟨e1, e2⟩ := e_ret hf
      subst e1
      subst e2
      exact X.iret dX11_isUnder_34 rfl rfl
    · rw [if_pos hc] at hf
      refine X.sub [] rfl ?_
      exact x_J_X11_isUnder_29 hf
theorem c_X11_isUnder {l : Launch} {D : va_G}  {S : e_S} {w : Int32} {k : e_G} {l0 : Int32} {l1 : Int32} {g : e_G} (hf : f_X11_isUnder S l0 l1 g = some (w, k)) : CT l D (e_R 1) M_X11_isUnder [.int l0, .int l1] (S, g) (some (.int w)) (S, k) := by
  refine CT.of (by decide +kernel) (Nat.le_of_ble_eq_true rfl) ?_
  unfold f_X11_isUnder at hf
  show X l D (e_R 1) M_X11_isUnder 0 0 0 [(0, .int l0), (1, .int l1)] [] (S, g) (some (.int w)) (S, k)
  refine X.iload_n dX11_isUnder_0 rfl (j := 1) rfl ?_
  refine X.if_eq dX11_isUnder_1 (tgt := 29) rfl (fun hc => ?_) (fun hc => ?_)
  · rw [if_pos hc] at hf
    refine X.sub [] rfl ?_
    exact x_J_X11_isUnder_29 hf
  · rw [if_neg hc] at hf
    refine X.iload_n dX11_isUnder_4 rfl (j := 0) rfl ?_
    refine X.iload_n dX11_isUnder_5 rfl (j := 1) rfl ?_
    refine X.icmp_eq dX11_isUnder_6 (tgt := 29) rfl (fun hc => ?_) (fun hc => ?_)
    · rw [if_pos hc] at hf
      refine X.sub [] rfl ?_
      exact x_J_X11_isUnder_29 hf
    · rw [if_neg hc] at hf
      refine X.iload_n dX11_isUnder_9 rfl (j := 1) rfl ?_
      refine X.iconst dX11_isUnder_10 kI_1 ?_
      refine X.icmp_ne dX11_isUnder_11 (tgt := 19) rfl (fun hc => ?_) (fun hc => ?_)
      · rw [if_neg hc] at hf
        exact x_J_X11_isUnder_19 hf
      · rw [if_pos hc] at hf
        refine X.iload_n dX11_isUnder_14 rfl (j := 0) rfl ?_
        refine X.iconst dX11_isUnder_15 kI_3 ?_
        refine X.icmp_eq dX11_isUnder_16 (tgt := 29) rfl (fun hc => ?_) (fun hc => ?_)
        · rw [if_pos hc] at hf
          refine X.sub [] rfl ?_
          exact x_J_X11_isUnder_29 hf
        · rw [if_neg hc] at hf
          exact x_J_X11_isUnder_19 hf
/-! LeanedOutModel.taken(II)I -/
abbrev M_X11_taken : e_M := (yX11_taken, cX11_taken, 3, (some .int))
theorem mk_X11_taken : e_Mok M_X11_taken 2 := ⟨by decide +kernel, by decide +kernel, by decide +kernel⟩
theorem dX11_taken_0 : decode cX11_taken 0 = .ok (.iload_n 2, 1) := by decide +kernel
theorem dX11_taken_1 : decode cX11_taken 1 = .ok (.iconst 0, 1) := by decide +kernel
theorem dX11_taken_2 : decode cX11_taken 2 = .ok (.bipush 6, 2) := by decide +kernel
theorem dX11_taken_4 : decode cX11_taken 4 = .ok (.invokestatic 78, 3) := by decide +kernel
theorem dX11_taken_7 : decode cX11_taken 7 = .ok (.ifCond .ne 6, 3) := by decide +kernel
theorem dX11_taken_10 : decode cX11_taken 10 = .ok (.bipush (-2), 2) := by decide +kernel
theorem dX11_taken_12 : decode cX11_taken 12 = .ok (.ireturn, 1) := by decide +kernel
theorem dX11_taken_13 : decode cX11_taken 13 = .ok (.iload_n 1, 1) := by decide +kernel
theorem dX11_taken_14 : decode cX11_taken 14 = .ok (.iconst 0, 1) := by decide +kernel
theorem dX11_taken_15 : decode cX11_taken 15 = .ok (.bipush 11, 2) := by decide +kernel
theorem dX11_taken_17 : decode cX11_taken 17 = .ok (.invokestatic 78, 3) := by decide +kernel
theorem dX11_taken_20 : decode cX11_taken 20 = .ok (.ifCond .ne 6, 3) := by decide +kernel
theorem dX11_taken_23 : decode cX11_taken 23 = .ok (.bipush (-12), 2) := by decide +kernel
theorem dX11_taken_25 : decode cX11_taken 25 = .ok (.ireturn, 1) := by decide +kernel
theorem dX11_taken_26 : decode cX11_taken 26 = .ok (.iload_n 1, 1) := by decide +kernel
theorem dX11_taken_27 : decode cX11_taken 27 = .ok (.bipush 6, 2) := by decide +kernel
theorem dX11_taken_29 : decode cX11_taken 29 = .ok (.irem, 1) := by decide +kernel
theorem dX11_taken_30 : decode cX11_taken 30 = .ok (.aload_n 0, 1) := by decide +kernel
theorem dX11_taken_31 : decode cX11_taken 31 = .ok (.getfield 75, 3) := by decide +kernel
theorem dX11_taken_34 : decode cX11_taken 34 = .ok (.if_icmp .lt 6, 3) := by decide +kernel
theorem dX11_taken_37 : decode cX11_taken 37 = .ok (.bipush (-11), 2) := by decide +kernel
theorem dX11_taken_39 : decode cX11_taken 39 = .ok (.ireturn, 1) := by decide +kernel
theorem dX11_taken_40 : decode cX11_taken 40 = .ok (.iload_n 1, 1) := by decide +kernel
theorem dX11_taken_41 : decode cX11_taken 41 = .ok (.bipush 6, 2) := by decide +kernel
theorem dX11_taken_43 : decode cX11_taken 43 = .ok (.if_icmp .lt 28, 3) := by decide +kernel
theorem dX11_taken_46 : decode cX11_taken 46 = .ok (.iload_n 2, 1) := by decide +kernel
theorem dX11_taken_47 : decode cX11_taken 47 = .ok (.bipush 6, 2) := by decide +kernel
theorem dX11_taken_49 : decode cX11_taken 49 = .ok (.if_icmp .ne 19, 3) := by decide +kernel
theorem dX11_taken_52 : decode cX11_taken 52 = .ok (.aload_n 0, 1) := by decide +kernel
theorem dX11_taken_53 : decode cX11_taken 53 = .ok (.getfield 16, 3) := by decide +kernel
theorem dX11_taken_56 : decode cX11_taken 56 = .ok (.iconst 4, 1) := by decide +kernel
theorem dX11_taken_57 : decode cX11_taken 57 = .ok (.iload_n 1, 1) := by decide +kernel
theorem dX11_taken_58 : decode cX11_taken 58 = .ok (.bipush 6, 2) := by decide +kernel
theorem dX11_taken_60 : decode cX11_taken 60 = .ok (.isub, 1) := by decide +kernel
theorem dX11_taken_61 : decode cX11_taken 61 = .ok (.imul, 1) := by decide +kernel
theorem dX11_taken_62 : decode cX11_taken 62 = .ok (.iconst 3, 1) := by decide +kernel
theorem dX11_taken_63 : decode cX11_taken 63 = .ok (.iadd, 1) := by decide +kernel
theorem dX11_taken_64 : decode cX11_taken 64 = .ok (.iaload, 1) := by decide +kernel
theorem dX11_taken_65 : decode cX11_taken 65 = .ok (.goto 5, 3) := by decide +kernel
theorem dX11_taken_68 : decode cX11_taken 68 = .ok (.bipush (-13), 2) := by decide +kernel
theorem dX11_taken_70 : decode cX11_taken 70 = .ok (.ireturn, 1) := by decide +kernel
theorem dX11_taken_71 : decode cX11_taken 71 = .ok (.iload_n 2, 1) := by decide +kernel
theorem dX11_taken_72 : decode cX11_taken 72 = .ok (.bipush 6, 2) := by decide +kernel
theorem dX11_taken_74 : decode cX11_taken 74 = .ok (.if_icmp .ge 20, 3) := by decide +kernel
theorem dX11_taken_77 : decode cX11_taken 77 = .ok (.aload_n 0, 1) := by decide +kernel
theorem dX11_taken_78 : decode cX11_taken 78 = .ok (.getfield 7, 3) := by decide +kernel
theorem dX11_taken_81 : decode cX11_taken 81 = .ok (.iload_n 1, 1) := by decide +kernel
theorem dX11_taken_82 : decode cX11_taken 82 = .ok (.iaload, 1) := by decide +kernel
theorem dX11_taken_83 : decode cX11_taken 83 = .ok (.iload_n 2, 1) := by decide +kernel
theorem dX11_taken_84 : decode cX11_taken 84 = .ok (.invokestatic 293, 3) := by decide +kernel
theorem dX11_taken_87 : decode cX11_taken 87 = .ok (.ifCond .eq 7, 3) := by decide +kernel
theorem dX11_taken_90 : decode cX11_taken 90 = .ok (.iload_n 1, 1) := by decide +kernel
theorem dX11_taken_91 : decode cX11_taken 91 = .ok (.goto 5, 3) := by decide +kernel
theorem dX11_taken_94 : decode cX11_taken 94 = .ok (.bipush (-13), 2) := by decide +kernel
theorem dX11_taken_96 : decode cX11_taken 96 = .ok (.ireturn, 1) := by decide +kernel
def f_X11_taken (S : e_S) (l0 : Nat) (l1 : Int32) (l2 : Int32) (g : e_G) : Option (Int32 × e_G) :=
  if e_ob S 11 l0 = true then
    (f_X11_in S l2 (0 : Int32) (6 : Int32) g).bind fun q2 =>
    if q2.1 = 0 then
      some ((-2 : Int32), q2.2)
    else
      (f_X11_in S l1 (0 : Int32) (11 : Int32) q2.2).bind fun q4 =>
      if q4.1 = 0 then
        some ((-12 : Int32), q4.2)
      else
        (e_gI S q4.2 11 l0 0).bind fun v5 =>
        if (i_rem l1 (6 : Int32)) < v5 then
          if l1 < (6 : Int32) then
            if (6 : Int32) ≤ l2 then
              some ((-13 : Int32), q4.2)
            else
              (e_gR S q4.2 11 l0 1).bind fun v7 =>
              (e_aI S q4.2 0 v7 l1).bind fun v9 =>
              (f_X11_isUnder S v9 l2 q4.2).bind fun q12 =>
              if q12.1 = 0 then
                some ((-13 : Int32), q12.2)
              else
                some (l1, q12.2)
          else
            if l2 = (6 : Int32) then
              (e_gR S q4.2 11 l0 3).bind fun v13 =>
              (e_aI S q4.2 0 v13 (((4 : Int32) * (l1 - (6 : Int32))) + (3 : Int32))).bind fun v15 =>
              some (v15, q4.2)
            else
              some ((-13 : Int32), q4.2)
        else
          some ((-11 : Int32), q4.2)
  else none
theorem o_X11_taken  {S : e_S} {w : Int32} {k : e_G} {l0 : Nat} {l1 : Int32} {l2 : Int32} {g : e_G} (hf : f_X11_taken S l0 l1 l2 g = some (w, k)) : e_ob S 11 l0 = true := by
  unfold f_X11_taken at hf
  by_cases hc : e_ob S 11 l0 = true
  · exact hc
  · rw [if_neg hc] at hf
    cases hf
theorem c_X11_taken {l : Launch} {D : va_G}  {S : e_S} {w : Int32} {k : e_G} {l0 : Nat} {l1 : Int32} {l2 : Int32} {g : e_G} (hf : f_X11_taken S l0 l1 l2 g = some (w, k)) : CT l D (e_R 2) M_X11_taken [.ref l0, .int l1, .int l2] (S, g) (some (.int w)) (S, k) := by
  refine CT.of (by decide +kernel) (Nat.le_of_ble_eq_true rfl) ?_
  have ho := o_X11_taken hf
  unfold f_X11_taken at hf
  rw [if_pos ho] at hf
  show X l D (e_R 2) M_X11_taken 0 0 0 [(0, .ref l0), (1, .int l1), (2, .int l2)] [] (S, g) (some (.int w)) (S, k)
  refine X.iload_n dX11_taken_0 rfl (j := 2) rfl ?_
  refine X.iconst dX11_taken_1 kI_0 ?_
  refine X.bipush dX11_taken_2 kB_6 ?_
  obtain ⟨q2, h1, hf⟩ := ob hf
  refine Y.callS (av := [.int l2, .int (0 : Int32), .int (6 : Int32)]) dX11_taken_4 (c_X11_in (l := l) (D := D) (w := q2.1) (k := q2.2) h1) cw_X11_78 mk_X11_in (e_R_ok (Nat.le_of_ble_eq_true rfl) (Nat.le_of_ble_eq_true rfl)) ⟨rfl, rfl⟩ (by simp [Value.category]) ?_
  refine X.if_ne dX11_taken_7 (tgt := 13) rfl (fun hc => ?_) (fun hc => ?_)
  · rw [if_neg hc] at hf
    refine X.iload_n dX11_taken_13 rfl (j := 1) rfl ?_
    refine X.iconst dX11_taken_14 kI_0 ?_
    refine X.bipush dX11_taken_15 kB_11 ?_
    obtain ⟨q4, h3, hf⟩ := ob hf
    refine Y.callS (av := [.int l1, .int (0 : Int32), .int (11 : Int32)]) dX11_taken_17 (c_X11_in (l := l) (D := D) (w := q4.1) (k := q4.2) h3) cw_X11_78 mk_X11_in (e_R_ok (Nat.le_of_ble_eq_true rfl) (Nat.le_of_ble_eq_true rfl)) ⟨rfl, rfl⟩ (by simp [Value.category]) ?_
    refine X.if_ne dX11_taken_20 (tgt := 26) rfl (fun hc => ?_) (fun hc => ?_)
    · rw [if_neg hc] at hf
      refine X.iload_n dX11_taken_26 rfl (j := 1) rfl ?_
      refine X.bipush dX11_taken_27 kB_6 ?_
      refine Y.irem dX11_taken_29 (by decide) ?_
      refine X.aload_n dX11_taken_30 rfl (j := 0) rfl ?_
      obtain ⟨v5, h6, hf⟩ := ob hf
      refine Y.getI dX11_taken_31 fl_X11_75 rfl h6 ?_
      refine X.icmp_lt dX11_taken_34 (tgt := 40) rfl (fun hc => ?_) (fun hc => ?_)
      · rw [if_pos hc] at hf
        refine X.iload_n dX11_taken_40 rfl (j := 1) rfl ?_
        refine X.bipush dX11_taken_41 kB_6 ?_
        refine X.icmp_lt dX11_taken_43 (tgt := 71) rfl (fun hc => ?_) (fun hc => ?_)
        · rw [if_pos hc] at hf
          refine X.iload_n dX11_taken_71 rfl (j := 2) rfl ?_
          refine X.bipush dX11_taken_72 kB_6 ?_
          refine X.icmp_ge dX11_taken_74 (tgt := 94) rfl (fun hc => ?_) (fun hc => ?_)
          · rw [if_pos hc] at hf
            refine X.bipush dX11_taken_94 kB_m13 ?_
            obtain ⟨e1, e2⟩ := e_ret hf
            subst e1
            subst e2
            exact X.iret dX11_taken_96 rfl rfl
          · rw [if_neg hc] at hf
            refine X.aload_n dX11_taken_77 rfl (j := 0) rfl ?_
            obtain ⟨v7, h8, hf⟩ := ob hf
            refine Y.getR dX11_taken_78 fl_X11_7 rfl h8 ?_
            refine X.iload_n dX11_taken_81 rfl (j := 1) rfl ?_
            obtain ⟨v9, h10, hf⟩ := ob hf
            refine Y.iald dX11_taken_82 h10 ?_
            refine X.iload_n dX11_taken_83 rfl (j := 2) rfl ?_
            obtain ⟨q12, h11, hf⟩ := ob hf
            refine Y.callS (av := [.int v9, .int l2]) dX11_taken_84 (c_X11_isUnder (l := l) (D := D) (w := q12.1) (k := q12.2) h11) cw_X11_293 mk_X11_isUnder (e_R_ok (Nat.le_of_ble_eq_true rfl) (Nat.le_of_ble_eq_true rfl)) ⟨rfl, rfl⟩ (by simp [Value.category]) ?_
            refine X.if_eq dX11_taken_87 (tgt := 94) rfl (fun hc => ?_) (fun hc => ?_)
            · rw [if_pos hc] at hf
              refine X.bipush dX11_taken_94 kB_m13 ?_
              obtain ⟨e1, e2⟩ := e_ret hf
              subst e1
              subst e2
              exact X.iret dX11_taken_96 rfl rfl
            · rw [if_neg hc] at hf
              refine X.iload_n dX11_taken_90 rfl (j := 1) rfl ?_
              refine X.goto dX11_taken_91 (tgt := 96) rfl ?_
              obtain ⟨e1, e2⟩ := e_ret hf
              subst e1
              subst e2
              exact X.iret dX11_taken_96 rfl rfl
        · rw [if_neg hc] at hf
          refine X.iload_n dX11_taken_46 rfl (j := 2) rfl ?_
          refine X.bipush dX11_taken_47 kB_6 ?_
          refine X.icmp_ne dX11_taken_49 (tgt := 68) rfl (fun hc => ?_) (fun hc => ?_)
          · rw [if_neg hc] at hf
            refine X.bipush dX11_taken_68 kB_m13 ?_
            obtain ⟨e1, e2⟩ := e_ret hf
            subst e1
            subst e2
            exact X.iret dX11_taken_70 rfl rfl
          · rw [if_pos hc] at hf
            refine X.aload_n dX11_taken_52 rfl (j := 0) rfl ?_
            obtain ⟨v13, h14, hf⟩ := ob hf
            refine Y.getR dX11_taken_53 fl_X11_16 rfl h14 ?_
            refine X.iconst dX11_taken_56 kI_4 ?_
            refine X.iload_n dX11_taken_57 rfl (j := 1) rfl ?_
            refine X.bipush dX11_taken_58 kB_6 ?_
            refine X.isub dX11_taken_60 ?_
            refine X.imul dX11_taken_61 ?_
            refine X.iconst dX11_taken_62 kI_3 ?_
            refine X.iadd dX11_taken_63 ?_
            obtain ⟨v15, h16, hf⟩ := ob hf
            refine Y.iald dX11_taken_64 h16 ?_
            refine X.goto dX11_taken_65 (tgt := 70) rfl ?_
            obtain ⟨e1, e2⟩ := e_ret hf
            subst e1
            subst e2
            exact X.iret dX11_taken_70 rfl rfl
      · rw [if_neg hc] at hf
        refine X.bipush dX11_taken_37 kB_m11 ?_
        obtain ⟨e1, e2⟩ := e_ret hf
        subst e1
        subst e2
        exact X.iret dX11_taken_39 rfl rfl
    · rw [if_pos hc] at hf
      refine X.bipush dX11_taken_23 kB_m12 ?_
      obtain ⟨e1, e2⟩ := e_ret hf
      subst e1
      subst e2
      exact X.iret dX11_taken_25 rfl rfl
  · rw [if_pos hc] at hf
    refine X.bipush dX11_taken_10 kB_m2 ?_
    obtain ⟨e1, e2⟩ := e_ret hf
    subst e1
    subst e2
    exact X.iret dX11_taken_12 rfl rfl
