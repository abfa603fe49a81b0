theorem kB_99 : (Int8.ofInt (99)).toInt32 = (99 : Int32) := by decide +kernel
theorem kB_m99 : (Int8.ofInt (-99)).toInt32 = (-99 : Int32) := by decide +kernel
theorem kB_40 : (Int8.ofInt (40)).toInt32 = (40 : Int32) := by decide +kernel
theorem ww_536 : Cond.methodLink RX7 104 yJ9_min_7cf53 ∈ e_big := bw (i := 536) (by decide +kernel) rfl
theorem ww_325 : Cond.static yJ9_min_7cf53 ∈ e_big := bw (i := 325) (by decide +kernel) rfl
theorem ww_326 : Cond.code yJ9_min_7cf53 cJ9_min_7cf53 2 (some .int) ∈ e_big := bw (i := 326) (by decide +kernel) rfl
theorem ww_537 : Cond.methodLink RX7 107 yJ9_max_7cf53 ∈ e_big := bw (i := 537) (by decide +kernel) rfl
theorem ww_538 : Cond.static yJ9_max_7cf53 ∈ e_big := bw (i := 538) (by decide +kernel) rfl
theorem ww_539 : Cond.code yJ9_max_7cf53 cJ9_max_7cf53 2 (some .int) ∈ e_big := bw (i := 539) (by decide +kernel) rfl
theorem fl_X7_31 : e_FL RX7 31 7 9 := ⟨⟨by decide, by decide⟩, bw (i := 242) (by decide +kernel) rfl⟩
theorem ww_512 : Cond.methodLink RX7 101 yX7_beside ∈ e_big := bw (i := 512) (by decide +kernel) rfl
theorem ww_514 : Cond.instanceMethod yX7_beside ∈ e_big := bw (i := 514) (by decide +kernel) rfl
theorem ww_16 : Cond.selects RX7 yX7_beside yX7_beside ∈ e_big := bw (i := 16) (by decide +kernel) rfl
theorem ww_515 : Cond.code yX7_beside cX7_beside 4 (some .int) ∈ e_big := bw (i := 515) (by decide +kernel) rfl
theorem cw_X7_101 : ∀ w ∈ wsV RX7 101 RX7 yX7_beside [Cond.code yX7_beside cX7_beside 4 (some .int)], w ∈ e_big := e_all5 ww_512 ww_514 ww_16 ww_83 ww_515
theorem fl_X7_46 : e_FL RX7 46 7 7 := ⟨⟨by decide, by decide⟩, bw (i := 238) (by decide +kernel) rfl⟩
theorem fl_X7_24 : e_FL RX7 24 7 4 := ⟨⟨by decide, by decide⟩, bw (i := 232) (by decide +kernel) rfl⟩
theorem ww_533 : Cond.methodLink RX7 97 yX7_bounded ∈ e_big := bw (i := 533) (by decide +kernel) rfl
theorem ww_534 : Cond.static yX7_bounded ∈ e_big := bw (i := 534) (by decide +kernel) rfl
theorem ww_535 : Cond.code yX7_bounded cX7_bounded 3 (some .int) ∈ e_big := bw (i := 535) (by decide +kernel) rfl
theorem cw_X7_97 : ∀ w ∈ va_wsS RX7 97 yX7_bounded [Cond.code yX7_bounded cX7_bounded 3 (some .int)], w ∈ e_big := e_all4 ww_533 ww_534 ww_83 ww_535
theorem fl_X7_49 : e_FL RX7 49 7 8 := ⟨⟨by decide, by decide⟩, bw (i := 240) (by decide +kernel) rfl⟩
theorem fl_X7_38 : e_FL RX7 38 7 11 := ⟨⟨by decide, by decide⟩, bw (i := 244) (by decide +kernel) rfl⟩
theorem ww_505 : Cond.methodLink RX7 87 yX7_fillNames ∈ e_big := bw (i := 505) (by decide +kernel) rfl
theorem ww_507 : Cond.instanceMethod yX7_fillNames ∈ e_big := bw (i := 507) (by decide +kernel) rfl
theorem ww_15 : Cond.selects RX7 yX7_fillNames yX7_fillNames ∈ e_big := bw (i := 15) (by decide +kernel) rfl
theorem ww_508 : Cond.code yX7_fillNames cX7_fillNames 2 none ∈ e_big := bw (i := 508) (by decide +kernel) rfl
theorem cw_X7_87 : ∀ w ∈ wsV RX7 87 RX7 yX7_fillNames [Cond.code yX7_fillNames cX7_fillNames 2 none], w ∈ e_big := e_all5 ww_505 ww_507 ww_15 ww_83 ww_508
theorem ww_520 : Cond.methodLink RX7 91 yX9_value ∈ e_big := bw (i := 520) (by decide +kernel) rfl
theorem ww_521 : Cond.instanceMethod yX9_value ∈ e_big := bw (i := 521) (by decide +kernel) rfl
theorem ww_522 : Cond.selects RX9 yX9_value yX9_value ∈ e_big := bw (i := 522) (by decide +kernel) rfl
theorem ww_523 : Cond.code yX9_value cX9_value 6 (some .int) ∈ e_big := bw (i := 523) (by decide +kernel) rfl
theorem cw_X7_91 : ∀ w ∈ wsV RX7 91 RX9 yX9_value [Cond.code yX9_value cX9_value 6 (some .int)], w ∈ e_big := e_all5 ww_520 ww_521 ww_522 ww_75 ww_523
theorem fl_X7_34 : e_FL RX7 34 7 10 := ⟨⟨by decide, by decide⟩, bw (i := 243) (by decide +kernel) rfl⟩
theorem fl_X7_21 : e_FL RX7 21 7 3 := ⟨⟨by decide, by decide⟩, bw (i := 230) (by decide +kernel) rfl⟩
theorem ww_584 : Cond.methodLink RX7 110 yX7_kindOf ∈ e_big := bw (i := 584) (by decide +kernel) rfl
theorem ww_585 : Cond.instanceMethod yX7_kindOf ∈ e_big := bw (i := 585) (by decide +kernel) rfl
theorem ww_586 : Cond.selects RX7 yX7_kindOf yX7_kindOf ∈ e_big := bw (i := 586) (by decide +kernel) rfl
theorem ww_587 : Cond.code yX7_kindOf cX7_kindOf 3 (some (.object "LeanedOut$Person")) ∈ e_big := bw (i := 587) (by decide +kernel) rfl
theorem cw_X7_110 : ∀ w ∈ wsV RX7 110 RX7 yX7_kindOf [Cond.code yX7_kindOf cX7_kindOf 3 (some (.object "LeanedOut$Person"))], w ∈ e_big := e_all5 ww_584 ww_585 ww_586 ww_83 ww_587
theorem ww_588 : Cond.methodLink RX7 114 yX7_says ∈ e_big := bw (i := 588) (by decide +kernel) rfl
theorem ww_502 : Cond.instanceMethod yX7_says ∈ e_big := bw (i := 502) (by decide +kernel) rfl
theorem ww_503 : Cond.selects RX7 yX7_says yX7_says ∈ e_big := bw (i := 503) (by decide +kernel) rfl
theorem ww_504 : Cond.code yX7_says cX7_says 4 (some .int) ∈ e_big := bw (i := 504) (by decide +kernel) rfl
theorem cw_X7_114 : ∀ w ∈ wsV RX7 114 RX7 yX7_says [Cond.code yX7_says cX7_says 4 (some .int)], w ∈ e_big := e_all5 ww_588 ww_502 ww_503 ww_83 ww_504
theorem ww_725 : Cond.methodLink RX7 84 yX7_minding ∈ e_big := bw (i := 725) (by decide +kernel) rfl
theorem ww_641 : Cond.instanceMethod yX7_minding ∈ e_big := bw (i := 641) (by decide +kernel) rfl
theorem ww_642 : Cond.selects RX7 yX7_minding yX7_minding ∈ e_big := bw (i := 642) (by decide +kernel) rfl
theorem ww_643 : Cond.code yX7_minding cX7_minding 2 (some .int) ∈ e_big := bw (i := 643) (by decide +kernel) rfl
theorem cw_X7_84 : ∀ w ∈ wsV RX7 84 RX7 yX7_minding [Cond.code yX7_minding cX7_minding 2 (some .int)], w ∈ e_big := e_all5 ww_725 ww_641 ww_642 ww_83 ww_643
theorem ww_702 : Cond.methodLink RX7 128 yX7_leaning ∈ e_big := bw (i := 702) (by decide +kernel) rfl
theorem ww_581 : Cond.instanceMethod yX7_leaning ∈ e_big := bw (i := 581) (by decide +kernel) rfl
theorem ww_582 : Cond.selects RX7 yX7_leaning yX7_leaning ∈ e_big := bw (i := 582) (by decide +kernel) rfl
theorem ww_583 : Cond.code yX7_leaning cX7_leaning 2 (some .int) ∈ e_big := bw (i := 583) (by decide +kernel) rfl
theorem cw_X7_128 : ∀ w ∈ wsV RX7 128 RX7 yX7_leaning [Cond.code yX7_leaning cX7_leaning 2 (some .int)], w ∈ e_big := e_all5 ww_702 ww_581 ww_582 ww_83 ww_583
theorem ww_703 : Cond.methodLink RX7 130 yX7_holding ∈ e_big := bw (i := 703) (by decide +kernel) rfl
theorem ww_617 : Cond.instanceMethod yX7_holding ∈ e_big := bw (i := 617) (by decide +kernel) rfl
theorem ww_618 : Cond.selects RX7 yX7_holding yX7_holding ∈ e_big := bw (i := 618) (by decide +kernel) rfl
theorem ww_619 : Cond.code yX7_holding cX7_holding 2 (some .int) ∈ e_big := bw (i := 619) (by decide +kernel) rfl
theorem cw_X7_130 : ∀ w ∈ wsV RX7 130 RX7 yX7_holding [Cond.code yX7_holding cX7_holding 2 (some .int)], w ∈ e_big := e_all5 ww_703 ww_617 ww_618 ww_83 ww_619
theorem fl_X6_15 : e_FL RX6 15 6 1 := ⟨⟨by decide, by decide⟩, bw (i := 164) (by decide +kernel) rfl⟩
theorem fl_X6_28 : e_FL RX6 28 6 2 := ⟨⟨by decide, by decide⟩, bw (i := 166) (by decide +kernel) rfl⟩
theorem fl_X6_9 : e_FL RX6 9 6 0 := ⟨⟨by decide, by decide⟩, bw (i := 162) (by decide +kernel) rfl⟩
theorem ww_845 : Cond.methodLink RX6 19 yJ9_min_7cf53 ∈ e_big := bw (i := 845) (by decide +kernel) rfl
theorem ww_846 : Cond.methodLink RX6 25 yJ9_max_7cf53 ∈ e_big := bw (i := 846) (by decide +kernel) rfl
theorem ww_813 : Cond.methodLink RX6 31 yX6_has ∈ e_big := bw (i := 813) (by decide +kernel) rfl
theorem ww_814 : Cond.instanceMethod yX6_has ∈ e_big := bw (i := 814) (by decide +kernel) rfl
theorem ww_815 : Cond.selects RX6 yX6_has yX6_has ∈ e_big := bw (i := 815) (by decide +kernel) rfl
theorem ww_76 : Cond.initialized RX6 ∈ e_big := bw (i := 76) (by decide +kernel) rfl
theorem ww_816 : Cond.code yX6_has cX6_has 2 (some .boolean) ∈ e_big := bw (i := 816) (by decide +kernel) rfl
theorem cw_X6_31 : ∀ w ∈ wsV RX6 31 RX6 yX6_has [Cond.code yX6_has cX6_has 2 (some .boolean)], w ∈ e_big := e_all5 ww_813 ww_814 ww_815 ww_76 ww_816
/-! LeanedOut$Street.bounded(III)I -/
abbrev M_X7_bounded : e_M := (yX7_bounded, cX7_bounded, 3, (some .int))
theorem mk_X7_bounded : e_Mok M_X7_bounded 3 := ⟨by decide +kernel, by decide +kernel, by decide +kernel⟩
theorem dX7_bounded_0 : decode cX7_bounded 0 = .ok (.iload_n 1, 1) := by decide +kernel
theorem dX7_bounded_1 : decode cX7_bounded 1 = .ok (.iload_n 2, 1) := by decide +kernel
theorem dX7_bounded_2 : decode cX7_bounded 2 = .ok (.iload_n 0, 1) := by decide +kernel
theorem dX7_bounded_3 : decode cX7_bounded 3 = .ok (.invokestatic 104, 3) := by decide +kernel
theorem dX7_bounded_6 : decode cX7_bounded 6 = .ok (.invokestatic 107, 3) := by decide +kernel
theorem dX7_bounded_9 : decode cX7_bounded 9 = .ok (.ireturn, 1) := by decide +kernel
def f_X7_bounded (S : e_S) (l0 : Int32) (l1 : Int32) (l2 : Int32) (g : e_G) : Option (Int32 × e_G) :=
  some (i_max l1 (i_min l2 l0), g)
theorem c_X7_bounded {l : Launch} {D : va_G}  {S : e_S} {w : Int32} {k : e_G} {l0 : Int32} {l1 : Int32} {l2 : Int32} {g : e_G} (hf : f_X7_bounded S l0 l1 l2 g = some (w, k)) : CT l D (e_R 1) M_X7_bounded [.int l0, .int l1, .int l2] (S, g) (some (.int w)) (S, k) := by
  refine CT.of (by decide +kernel) (Nat.le_of_ble_eq_true rfl) ?_
  unfold f_X7_bounded at hf
  show X l D (e_R 1) M_X7_bounded 0 0 0 [(0, .int l0), (1, .int l1), (2, .int l2)] [] (S, g) (some (.int w)) (S, k)
  refine X.iload_n dX7_bounded_0 rfl (j := 1) rfl ?_
  refine X.iload_n dX7_bounded_1 rfl (j := 2) rfl ?_
  refine X.iload_n dX7_bounded_2 rfl (j := 0) rfl ?_
  refine Y.mmin dX7_bounded_3 ww_536 ww_325 ww_88 ww_326 ⟨Nat.le_of_ble_eq_true rfl, Nat.le_of_ble_eq_true rfl⟩ (by simp [Value.category]) ?_
  refine Y.mmax dX7_bounded_6 ww_537 ww_538 ww_88 ww_539 ⟨Nat.le_of_ble_eq_true rfl, Nat.le_of_ble_eq_true rfl⟩ (by simp [Value.category]) ?_
  obtain ⟨e1, e2⟩ := e_ret hf
  subst e1
  subst e2
  exact X.iret dX7_bounded_9 rfl rfl
/-! LeanedOut$Street.fillNames(I)V -/
abbrev M_X7_fillNames : e_M := (yX7_fillNames, cX7_fillNames, 2, none)
theorem mk_X7_fillNames : e_Mok M_X7_fillNames 1 := ⟨by decide +kernel, by decide +kernel, by decide +kernel⟩
theorem dX7_fillNames_0 : decode cX7_fillNames 0 = .ok (.aload_n 0, 1) := by decide +kernel
theorem dX7_fillNames_1 : decode cX7_fillNames 1 = .ok (.getfield 31, 3) := by decide +kernel
theorem dX7_fillNames_4 : decode cX7_fillNames 4 = .ok (.iconst 0, 1) := by decide +kernel
theorem dX7_fillNames_5 : decode cX7_fillNames 5 = .ok (.aload_n 0, 1) := by decide +kernel
theorem dX7_fillNames_6 : decode cX7_fillNames 6 = .ok (.getfield 18, 3) := by decide +kernel
theorem dX7_fillNames_9 : decode cX7_fillNames 9 = .ok (.iload_n 1, 1) := by decide +kernel
theorem dX7_fillNames_10 : decode cX7_fillNames 10 = .ok (.iaload, 1) := by decide +kernel
theorem dX7_fillNames_11 : decode cX7_fillNames 11 = .ok (.iastore, 1) := by decide +kernel
theorem dX7_fillNames_12 : decode cX7_fillNames 12 = .ok (.aload_n 0, 1) := by decide +kernel
theorem dX7_fillNames_13 : decode cX7_fillNames 13 = .ok (.getfield 31, 3) := by decide +kernel
theorem dX7_fillNames_16 : decode cX7_fillNames 16 = .ok (.iconst 1, 1) := by decide +kernel
theorem dX7_fillNames_17 : decode cX7_fillNames 17 = .ok (.aload_n 0, 1) := by decide +kernel
theorem dX7_fillNames_18 : decode cX7_fillNames 18 = .ok (.getfield 9, 3) := by decide +kernel
theorem dX7_fillNames_21 : decode cX7_fillNames 21 = .ok (.iload_n 1, 1) := by decide +kernel
theorem dX7_fillNames_22 : decode cX7_fillNames 22 = .ok (.iaload, 1) := by decide +kernel
theorem dX7_fillNames_23 : decode cX7_fillNames 23 = .ok (.bipush 10, 2) := by decide +kernel
theorem dX7_fillNames_25 : decode cX7_fillNames 25 = .ok (.irem, 1) := by decide +kernel
theorem dX7_fillNames_26 : decode cX7_fillNames 26 = .ok (.aload_n 0, 1) := by decide +kernel
theorem dX7_fillNames_27 : decode cX7_fillNames 27 = .ok (.getfield 15, 3) := by decide +kernel
theorem dX7_fillNames_30 : decode cX7_fillNames 30 = .ok (.iload_n 1, 1) := by decide +kernel
theorem dX7_fillNames_31 : decode cX7_fillNames 31 = .ok (.iaload, 1) := by decide +kernel
theorem dX7_fillNames_32 : decode cX7_fillNames 32 = .ok (.bipush 10, 2) := by decide +kernel
theorem dX7_fillNames_34 : decode cX7_fillNames 34 = .ok (.irem, 1) := by decide +kernel
theorem dX7_fillNames_35 : decode cX7_fillNames 35 = .ok (.isub, 1) := by decide +kernel
theorem dX7_fillNames_36 : decode cX7_fillNames 36 = .ok (.invokestatic 64, 3) := by decide +kernel
theorem dX7_fillNames_39 : decode cX7_fillNames 39 = .ok (.iastore, 1) := by decide +kernel
theorem dX7_fillNames_40 : decode cX7_fillNames 40 = .ok (.aload_n 0, 1) := by decide +kernel
theorem dX7_fillNames_41 : decode cX7_fillNames 41 = .ok (.getfield 31, 3) := by decide +kernel
theorem dX7_fillNames_44 : decode cX7_fillNames 44 = .ok (.iconst 2, 1) := by decide +kernel
theorem dX7_fillNames_45 : decode cX7_fillNames 45 = .ok (.aload_n 0, 1) := by decide +kernel
theorem dX7_fillNames_46 : decode cX7_fillNames 46 = .ok (.iload_n 1, 1) := by decide +kernel
theorem dX7_fillNames_47 : decode cX7_fillNames 47 = .ok (.invokevirtual 101, 3) := by decide +kernel
theorem dX7_fillNames_50 : decode cX7_fillNames 50 = .ok (.iastore, 1) := by decide +kernel
theorem dX7_fillNames_51 : decode cX7_fillNames 51 = .ok (.aload_n 0, 1) := by decide +kernel
theorem dX7_fillNames_52 : decode cX7_fillNames 52 = .ok (.getfield 31, 3) := by decide +kernel
theorem dX7_fillNames_55 : decode cX7_fillNames 55 = .ok (.iconst 3, 1) := by decide +kernel
theorem dX7_fillNames_56 : decode cX7_fillNames 56 = .ok (.aload_n 0, 1) := by decide +kernel
theorem dX7_fillNames_57 : decode cX7_fillNames 57 = .ok (.getfield 46, 3) := by decide +kernel
theorem dX7_fillNames_60 : decode cX7_fillNames 60 = .ok (.iastore, 1) := by decide +kernel
theorem dX7_fillNames_61 : decode cX7_fillNames 61 = .ok (.aload_n 0, 1) := by decide +kernel
theorem dX7_fillNames_62 : decode cX7_fillNames 62 = .ok (.getfield 31, 3) := by decide +kernel
theorem dX7_fillNames_65 : decode cX7_fillNames 65 = .ok (.iconst 4, 1) := by decide +kernel
theorem dX7_fillNames_66 : decode cX7_fillNames 66 = .ok (.aload_n 0, 1) := by decide +kernel
theorem dX7_fillNames_67 : decode cX7_fillNames 67 = .ok (.aload_n 0, 1) := by decide +kernel
theorem dX7_fillNames_68 : decode cX7_fillNames 68 = .ok (.getfield 9, 3) := by decide +kernel
theorem dX7_fillNames_71 : decode cX7_fillNames 71 = .ok (.iload_n 1, 1) := by decide +kernel
theorem dX7_fillNames_72 : decode cX7_fillNames 72 = .ok (.iaload, 1) := by decide +kernel
theorem dX7_fillNames_73 : decode cX7_fillNames 73 = .ok (.invokevirtual 81, 3) := by decide +kernel
theorem dX7_fillNames_76 : decode cX7_fillNames 76 = .ok (.iastore, 1) := by decide +kernel
theorem dX7_fillNames_77 : decode cX7_fillNames 77 = .ok (.aload_n 0, 1) := by decide +kernel
theorem dX7_fillNames_78 : decode cX7_fillNames 78 = .ok (.getfield 31, 3) := by decide +kernel
theorem dX7_fillNames_81 : decode cX7_fillNames 81 = .ok (.iconst 5, 1) := by decide +kernel
theorem dX7_fillNames_82 : decode cX7_fillNames 82 = .ok (.aload_n 0, 1) := by decide +kernel
theorem dX7_fillNames_83 : decode cX7_fillNames 83 = .ok (.getfield 24, 3) := by decide +kernel
theorem dX7_fillNames_86 : decode cX7_fillNames 86 = .ok (.iload_n 1, 1) := by decide +kernel
theorem dX7_fillNames_87 : decode cX7_fillNames 87 = .ok (.iaload, 1) := by decide +kernel
theorem dX7_fillNames_88 : decode cX7_fillNames 88 = .ok (.iastore, 1) := by decide +kernel
theorem dX7_fillNames_89 : decode cX7_fillNames 89 = .ok (.return_, 1) := by decide +kernel
def f_X7_fillNames (S : e_S) (l0 : Nat) (l1 : Int32) (g : e_G) : Option (e_G) :=
  if e_ob S 7 l0 = true then
    (e_gR S g 7 l0 9).bind fun v1 =>
    (e_gR S g 7 l0 2).bind fun v3 =>
    (e_aI S g 0 v3 l1).bind fun v5 =>
    (e_aS S g 0 v1 (0 : Int32) v5).bind fun g7 =>
    (e_gR S g7 7 l0 9).bind fun v9 =>
    (e_gR S g7 7 l0 0).bind fun v11 =>
    (e_aI S g7 0 v11 l1).bind fun v13 =>
    (e_gR S g7 7 l0 1).bind fun v15 =>
    (e_aI S g7 0 v15 l1).bind fun v17 =>
    (e_aS S g7 0 v9 (1 : Int32) (i_abs ((i_rem v13 (10 : Int32)) - (i_rem v17 (10 : Int32))))).bind fun g20 =>
    (e_gR S g20 7 l0 9).bind fun v22 =>
    (f_X7_beside S l0 l1 g20).bind fun q25 =>
    (e_aS S q25.2 0 v22 (2 : Int32) q25.1).bind fun g26 =>
    (e_gR S g26 7 l0 9).bind fun v28 =>
    (e_gI S g26 7 l0 7).bind fun v30 =>
    (e_aS S g26 0 v28 (3 : Int32) v30).bind fun g32 =>
    (e_gR S g32 7 l0 9).bind fun v34 =>
    (e_gR S g32 7 l0 0).bind fun v36 =>
    (e_aI S g32 0 v36 l1).bind fun v38 =>
    (f_X7_lookers S l0 v38 g32).bind fun q41 =>
    (e_aS S q41.2 0 v34 (4 : Int32) q41.1).bind fun g42 =>
    (e_gR S g42 7 l0 9).bind fun v44 =>
    (e_gR S g42 7 l0 4).bind fun v46 =>
    (e_aI S g42 0 v46 l1).bind fun v48 =>
    (e_aS S g42 0 v44 (5 : Int32) v48).bind fun g50 =>
    some g50
  else none
theorem o_X7_fillNames  {S : e_S} {k : e_G} {l0 : Nat} {l1 : Int32} {g : e_G} (hf : f_X7_fillNames S l0 l1 g = some k) : e_ob S 7 l0 = true := by
  unfold f_X7_fillNames at hf
  by_cases hc : e_ob S 7 l0 = true
  · exact hc
  · rw [if_neg hc] at hf
    cases hf
theorem c_X7_fillNames {l : Launch} {D : va_G}  {S : e_S} {k : e_G} {l0 : Nat} {l1 : Int32} {g : e_G} (hf : f_X7_fillNames S l0 l1 g = some k) : CT l D (e_R 2) M_X7_fillNames [.ref l0, .int l1] (S, g) none (S, k) := by
  refine CT.of (by decide +kernel) (Nat.le_of_ble_eq_true rfl) ?_
  have ho := o_X7_fillNames hf
  unfold f_X7_fillNames at hf
  rw [if_pos ho] at hf
  show X l D (e_R 2) M_X7_fillNames 0 0 0 [(0, .ref l0), (1, .int l1)] [] (S, g) none (S, k)
  refine X.aload_n dX7_fillNames_0 rfl (j := 0) rfl ?_
  obtain ⟨v1, h2, hf⟩ := ob hf
  refine Y.getR dX7_fillNames_1 fl_X7_31 rfl h2 ?_
  refine X.iconst dX7_fillNames_4 kI_0 ?_
  refine X.aload_n dX7_fillNames_5 rfl (j := 0) rfl ?_
  obtain ⟨v3, h4, hf⟩ := ob hf
  refine Y.getR dX7_fillNames_6 fl_X7_18 rfl h4 ?_
  refine X.iload_n dX7_fillNames_9 rfl (j := 1) rfl ?_
  obtain ⟨v5, h6, hf⟩ := ob hf
  refine Y.iald dX7_fillNames_10 h6 ?_
  obtain ⟨g7, h8, hf⟩ := ob hf
  refine Y.iast dX7_fillNames_11 h8 ?_
  refine X.aload_n dX7_fillNames_12 rfl (j := 0) rfl ?_
  obtain ⟨v9, h10, hf⟩ := ob hf
  refine Y.getR dX7_fillNames_13 fl_X7_31 rfl h10 ?_
  refine X.iconst dX7_fillNames_16 kI_1 ?_
  refine X.aload_n dX7_fillNames_17 rfl (j := 0) rfl ?_
  obtain ⟨v11, h12, hf⟩ := ob hf
  refine Y.getR dX7_fillNames_18 fl_X7_9 rfl h12 ?_
  refine X.iload_n dX7_fillNames_21 rfl (j := 1) rfl ?_
  obtain ⟨v13, h14, hf⟩ := ob hf
  refine Y.iald dX7_fillNames_22 h14 ?_
  refine X.bipush dX7_fillNames_23 kB_10 ?_
  refine Y.irem dX7_fillNames_25 (by decide) ?_
  refine X.aload_n dX7_fillNames_26 rfl (j := 0) rfl ?_
  obtain ⟨v15, h16, hf⟩ := ob hf
  refine Y.getR dX7_fillNames_27 fl_X7_15 rfl h16 ?_
  refine X.iload_n dX7_fillNames_30 rfl (j := 1) rfl ?_
  obtain ⟨v17, h18, hf⟩ := ob hf
  refine Y.iald dX7_fillNames_31 h18 ?_
  refine X.bipush dX7_fillNames_32 kB_10 ?_
  refine Y.irem dX7_fillNames_34 (by decide) ?_
  refine X.isub dX7_fillNames_35 ?_
  refine Y.mabs dX7_fillNames_36 ww_509 ww_510 ww_88 ww_511 ⟨Nat.le_of_ble_eq_true rfl, Nat.le_of_ble_eq_true rfl⟩ (by simp [Value.category]) ?_
  obtain ⟨g20, h21, hf⟩ := ob hf
  refine Y.iast dX7_fillNames_39 h21 ?_
  refine X.aload_n dX7_fillNames_40 rfl (j := 0) rfl ?_
  obtain ⟨v22, h23, hf⟩ := ob hf
  refine Y.getR dX7_fillNames_41 fl_X7_31 rfl h23 ?_
  refine X.iconst dX7_fillNames_44 kI_2 ?_
  refine X.aload_n dX7_fillNames_45 rfl (j := 0) rfl ?_
  refine X.iload_n dX7_fillNames_46 rfl (j := 1) rfl ?_
  obtain ⟨q25, h24, hf⟩ := ob hf
  refine Y.callV (av := [.int l1]) (ci := 7) dX7_fillNames_47 (c_X7_beside (l := l) (D := D) (w := q25.1) (k := q25.2) h24) cw_X7_101 (by decide) rfl mk_X7_beside (o_X7_beside (w := q25.1) (k := q25.2) h24) (e_R_ok (Nat.le_of_ble_eq_true rfl) (Nat.le_of_ble_eq_true rfl)) ⟨rfl, rfl⟩ (by simp [Value.category]) ?_
  obtain ⟨g26, h27, hf⟩ := ob hf
  refine Y.iast dX7_fillNames_50 h27 ?_
  refine X.aload_n dX7_fillNames_51 rfl (j := 0) rfl ?_
  obtain ⟨v28, h29, hf⟩ := ob hf
  refine Y.getR dX7_fillNames_52 fl_X7_31 rfl h29 ?_
  refine X.iconst dX7_fillNames_55 kI_3 ?_
  refine X.aload_n dX7_fillNames_56 rfl (j := 0) rfl ?_
  obtain ⟨v30, h31, hf⟩ := ob hf
  refine Y.getI dX7_fillNames_57 fl_X7_46 rfl h31 ?_
  obtain ⟨g32, h33, hf⟩ := ob hf
  refine Y.iast dX7_fillNames_60 h33 ?_
  refine X.aload_n dX7_fillNames_61 rfl (j := 0) rfl ?_
  obtain ⟨v34, h35, hf⟩ := ob hf
  refine Y.getR dX7_fillNames_62 fl_X7_31 rfl h35 ?_
  refine X.iconst dX7_fillNames_65 kI_4 ?_
  refine X.aload_n dX7_fillNames_66 rfl (j := 0) rfl ?_
  refine X.aload_n dX7_fillNames_67 rfl (j := 0) rfl ?_
  obtain ⟨v36, h37, hf⟩ := ob hf
  refine Y.getR dX7_fillNames_68 fl_X7_9 rfl h37 ?_
  refine X.iload_n dX7_fillNames_71 rfl (j := 1) rfl ?_
  obtain ⟨v38, h39, hf⟩ := ob hf
  refine Y.iald dX7_fillNames_72 h39 ?_
  obtain ⟨q41, h40, hf⟩ := ob hf
  refine Y.callV (av := [.int v38]) (ci := 7) dX7_fillNames_73 (c_X7_lookers (l := l) (D := D) (w := q41.1) (k := q41.2) h40) cw_X7_81 (by decide) rfl mk_X7_lookers (o_X7_lookers (w := q41.1) (k := q41.2) h40) (e_R_ok (Nat.le_of_ble_eq_true rfl) (Nat.le_of_ble_eq_true rfl)) ⟨rfl, rfl⟩ (by simp [Value.category]) ?_
  obtain ⟨g42, h43, hf⟩ := ob hf
  refine Y.iast dX7_fillNames_76 h43 ?_
  refine X.aload_n dX7_fillNames_77 rfl (j := 0) rfl ?_
  obtain ⟨v44, h45, hf⟩ := ob hf
  refine Y.getR dX7_fillNames_78 fl_X7_31 rfl h45 ?_
  refine X.iconst dX7_fillNames_81 kI_5 ?_
  refine X.aload_n dX7_fillNames_82 rfl (j := 0) rfl ?_
  obtain ⟨v46, h47, hf⟩ := ob hf
  refine Y.getR dX7_fillNames_83 fl_X7_24 rfl h47 ?_
  refine X.iload_n dX7_fillNames_86 rfl (j := 1) rfl ?_
  obtain ⟨v48, h49, hf⟩ := ob hf
  refine Y.iald dX7_fillNames_87 h49 ?_
  obtain ⟨g50, h51, hf⟩ := ob hf
  refine Y.iast dX7_fillNames_88 h51 ?_
  have e1 := Option.some.inj hf
  subst e1
  exact X.vret dX7_fillNames_89 rfl
/-! LeanedOut$Street.says(II)I -/
abbrev M_X7_says : e_M := (yX7_says, cX7_says, 4, (some .int))
theorem mk_X7_says : e_Mok M_X7_says 2 := ⟨by decide +kernel, by decide +kernel, by decide +kernel⟩
theorem dX7_says_0 : decode cX7_says 0 = .ok (.aload_n 0, 1) := by decide +kernel
theorem dX7_says_1 : decode cX7_says 1 = .ok (.getfield 49, 3) := by decide +kernel
theorem dX7_says_4 : decode cX7_says 4 = .ok (.ifCond .lt 15, 3) := by decide +kernel
theorem dX7_says_7 : decode cX7_says 7 = .ok (.aload_n 0, 1) := by decide +kernel
theorem dX7_says_8 : decode cX7_says 8 = .ok (.getfield 49, 3) := by decide +kernel
theorem dX7_says_11 : decode cX7_says 11 = .ok (.aload_n 0, 1) := by decide +kernel
theorem dX7_says_12 : decode cX7_says 12 = .ok (.getfield 38, 3) := by decide +kernel
theorem dX7_says_15 : decode cX7_says 15 = .ok (.arraylength, 1) := by decide +kernel
theorem dX7_says_16 : decode cX7_says 16 = .ok (.if_icmp .lt 5, 3) := by decide +kernel
theorem dX7_says_19 : decode cX7_says 19 = .ok (.iconst 0, 1) := by decide +kernel
theorem dX7_says_20 : decode cX7_says 20 = .ok (.ireturn, 1) := by decide +kernel
theorem dX7_says_21 : decode cX7_says 21 = .ok (.aload_n 0, 1) := by decide +kernel
theorem dX7_says_22 : decode cX7_says 22 = .ok (.iload_n 2, 1) := by decide +kernel
theorem dX7_says_23 : decode cX7_says 23 = .ok (.invokevirtual 87, 3) := by decide +kernel
theorem dX7_says_26 : decode cX7_says 26 = .ok (.aload_n 0, 1) := by decide +kernel
theorem dX7_says_27 : decode cX7_says 27 = .ok (.getfield 38, 3) := by decide +kernel
theorem dX7_says_30 : decode cX7_says 30 = .ok (.aload_n 0, 1) := by decide +kernel
theorem dX7_says_31 : decode cX7_says 31 = .ok (.getfield 49, 3) := by decide +kernel
theorem dX7_says_34 : decode cX7_says 34 = .ok (.aaload, 1) := by decide +kernel
theorem dX7_says_35 : decode cX7_says 35 = .ok (.iload_n 1, 1) := by decide +kernel
theorem dX7_says_36 : decode cX7_says 36 = .ok (.aload_n 0, 1) := by decide +kernel
theorem dX7_says_37 : decode cX7_says 37 = .ok (.getfield 31, 3) := by decide +kernel
theorem dX7_says_40 : decode cX7_says 40 = .ok (.invokevirtual 91, 3) := by decide +kernel
theorem dX7_says_43 : decode cX7_says 43 = .ok (.istore_n 3, 1) := by decide +kernel
theorem dX7_says_44 : decode cX7_says 44 = .ok (.iload_n 3, 1) := by decide +kernel
theorem dX7_says_45 : decode cX7_says 45 = .ok (.iload_n 1, 1) := by decide +kernel
theorem dX7_says_46 : decode cX7_says 46 = .ok (.iconst 1, 1) := by decide +kernel
theorem dX7_says_47 : decode cX7_says 47 = .ok (.if_icmp .ne 7, 3) := by decide +kernel
theorem dX7_says_50 : decode cX7_says 50 = .ok (.iconst 0, 1) := by decide +kernel
theorem dX7_says_51 : decode cX7_says 51 = .ok (.goto 5, 3) := by decide +kernel
theorem dX7_says_54 : decode cX7_says 54 = .ok (.bipush (-99), 2) := by decide +kernel
theorem dX7_says_56 : decode cX7_says 56 = .ok (.bipush 99, 2) := by decide +kernel
theorem dX7_says_58 : decode cX7_says 58 = .ok (.invokestatic 97, 3) := by decide +kernel
theorem dX7_says_61 : decode cX7_says 61 = .ok (.ireturn, 1) := by decide +kernel
def J_X7_says_56 (S : e_S) (t0 : Int32) (t1 : Int32) (g : e_G) : Option (Int32 × e_G) :=
  (f_X7_bounded S t0 t1 (99 : Int32) g).bind fun q2 =>
  some (q2.1, q2.2)
def f_X7_says (S : e_S) (l0 : Nat) (l1 : Int32) (l2 : Int32) (g : e_G) : Option (Int32 × e_G) :=
  if e_ob S 7 l0 = true then
    (e_gI S g 7 l0 8).bind fun v1 =>
    if v1 < 0 then
      some ((0 : Int32), g)
    else
      (e_gI S g 7 l0 8).bind fun v3 =>
      (e_gR S g 7 l0 11).bind fun v5 =>
      (e_aL S 2 v5).bind fun v7 =>
      if v3 < v7 then
        (f_X7_fillNames S l0 l2 g).bind fun q10 =>
        (e_gR S q10 7 l0 11).bind fun v11 =>
        (e_gI S q10 7 l0 8).bind fun v13 =>
        (e_aR S q10 2 v11 v13).bind fun v15 =>
        (e_gR S q10 7 l0 9).bind fun v17 =>
        (f_X9_value S v15 l1 v17 q10).bind fun q20 =>
        if l1 = (1 : Int32) then
          J_X7_says_56 S q20.1 (0 : Int32) q20.2
        else
          J_X7_says_56 S q20.1 (-99 : Int32) q20.2
      else
        some ((0 : Int32), g)
  else none
theorem x_J_X7_says_56 {l : Launch} {D : va_G} {S : e_S} {w : Int32} {k : e_G} {t0 : Int32} {t1 : Int32} {g : e_G} (hf : J_X7_says_56 S t0 t1 g = some (w, k)) : X l D (e_R 3) M_X7_says 0 0 56 [] [.int t1, .int t0] (S, g) (some (.int w)) (S, k) := by
  unfold J_X7_says_56 at hf
  refine X.bipush dX7_says_56 kB_99 ?_
  obtain ⟨q2, h1, hf⟩ := ob hf
  refine Y.callS (av := [.int t0, .int t1, .int (99 : Int32)]) dX7_says_58 (c_X7_bounded (l := l) (D := D) (w := q2.1) (k := q2.2) h1) cw_X7_97 mk_X7_bounded (e_R_ok (Nat.le_of_ble_eq_true rfl) (Nat.le_of_ble_eq_true rfl)) ⟨rfl, rfl⟩ (by simp [Value.category]) ?_
  obtain ⟨e1, e2⟩ := e_ret hf
  subst e1
  subst e2
  exact X.iret dX7_says_61 rfl rfl
theorem o_X7_says  {S : e_S} {w : Int32} {k : e_G} {l0 : Nat} {l1 : Int32} {l2 : Int32} {g : e_G} (hf : f_X7_says S l0 l1 l2 g = some (w, k)) : e_ob S 7 l0 = true := by
  unfold f_X7_says at hf
  by_cases hc : e_ob S 7 l0 = true
  · exact hc
  · rw [if_neg hc] at hf
    cases hf
theorem c_X7_says {l : Launch} {D : va_G}  {S : e_S} {w : Int32} {k : e_G} {l0 : Nat} {l1 : Int32} {l2 : Int32} {g : e_G} (hf : f_X7_says S l0 l1 l2 g = some (w, k)) : CT l D (e_R 3) M_X7_says [.ref l0, .int l1, .int l2] (S, g) (some (.int w)) (S, k) := by
  refine CT.of (by decide +kernel) (Nat.le_of_ble_eq_true rfl) ?_
  have ho := o_X7_says hf
  unfold f_X7_says at hf
  rw [if_pos ho] at hf
  show X l D (e_R 3) M_X7_says 0 0 0 [(0, .ref l0), (1, .int l1), (2, .int l2)] [] (S, g) (some (.int w)) (S, k)
  refine X.aload_n dX7_says_0 rfl (j := 0) rfl ?_
  obtain ⟨v1, h2, hf⟩ := ob hf
  refine Y.getI dX7_says_1 fl_X7_49 rfl h2 ?_
  refine X.if_lt dX7_says_4 (tgt := 19) rfl (fun hc => ?_) (fun hc => ?_)
  · rw [if_pos hc] at hf
    refine X.iconst dX7_says_19 kI_0 ?_
    obtain ⟨e1, e2⟩ := e_ret hf
    subst e1
    subst e2
    exact X.iret dX7_says_20 rfl rfl
  · rw [if_neg hc] at hf
    refine X.aload_n dX7_says_7 rfl (j := 0) rfl ?_
    obtain ⟨v3, h4, hf⟩ := ob hf
    refine Y.getI dX7_says_8 fl_X7_49 rfl h4 ?_
    refine X.aload_n dX7_says_11 rfl (j := 0) rfl ?_
    obtain ⟨v5, h6, hf⟩ := ob hf
    refine Y.getR dX7_says_12 fl_X7_38 rfl h6 ?_
    obtain ⟨v7, h8, hf⟩ := ob hf
    refine Y.alen dX7_says_15 (kd := 2) (by decide) h8 ?_
    refine X.icmp_lt dX7_says_16 (tgt := 21) rfl (fun hc => ?_) (fun hc => ?_)
    · rw [if_pos hc] at hf
      refine X.aload_n dX7_says_21 rfl (j := 0) rfl ?_
      refine X.iload_n dX7_says_22 rfl (j := 2) rfl ?_
      obtain ⟨q10, h9, hf⟩ := ob hf
      refine Y.callV (av := [.int l2]) (ci := 7) dX7_says_23 (c_X7_fillNames (l := l) (D := D) h9) cw_X7_87 (by decide) rfl mk_X7_fillNames (o_X7_fillNames (k := q10) h9) (e_R_ok (Nat.le_of_ble_eq_true rfl) (Nat.le_of_ble_eq_true rfl)) ⟨rfl, rfl⟩ (by simp [Value.category]) ?_
      refine X.aload_n dX7_says_26 rfl (j := 0) rfl ?_
      obtain ⟨v11, h12, hf⟩ := ob hf
      refine Y.getR dX7_says_27 fl_X7_38 rfl h12 ?_
      refine X.aload_n dX7_says_30 rfl (j := 0) rfl ?_
      obtain ⟨v13, h14, hf⟩ := ob hf
      refine Y.getI dX7_says_31 fl_X7_49 rfl h14 ?_
      obtain ⟨v15, h16, hf⟩ := ob hf
      refine Y.aald dX7_says_34 (kd := 2) (by decide) h16 ?_
      refine X.iload_n dX7_says_35 rfl (j := 1) rfl ?_
      refine X.aload_n dX7_says_36 rfl (j := 0) rfl ?_
      obtain ⟨v17, h18, hf⟩ := ob hf
      refine Y.getR dX7_says_37 fl_X7_31 rfl h18 ?_
      obtain ⟨q20, h19, hf⟩ := ob hf
      refine Y.callV (av := [.int l1, .ref v17]) (ci := 9) dX7_says_40 (c_X9_value (l := l) (D := D) (w := q20.1) (k := q20.2) h19) cw_X7_91 (by decide) rfl mk_X9_value (o_X9_value (w := q20.1) (k := q20.2) h19) (e_R_ok (Nat.le_of_ble_eq_true rfl) (Nat.le_of_ble_eq_true rfl)) ⟨rfl, rfl⟩ (by simp [Value.category]) ?_
      refine X.istore_n dX7_says_43 rfl (Nat.le_of_ble_eq_true rfl) (lc' := [(3, .int q20.1), (0, .ref l0), (1, .int l1), (2, .int l2)]) rfl ?_
      refine X.iload_n dX7_says_44 rfl (j := 0) rfl ?_
      refine X.iload_n dX7_says_45 rfl (j := 2) rfl ?_
      refine X.iconst dX7_says_46 kI_1 ?_
      refine X.icmp_ne dX7_says_47 (tgt := 54) rfl (fun hc => ?_) (fun hc => ?_)
      · rw [if_neg hc] at hf
        refine X.bipush dX7_says_54 kB_m99 ?_
        refine X.sub [] rfl ?_
        exact x_J_X7_says_56 hf
      · rw [if_pos hc] at hf
        refine X.iconst dX7_says_50 kI_0 ?_
        refine X.goto dX7_says_51 (tgt := 56) rfl ?_
        refine X.sub [] rfl ?_
        exact x_J_X7_says_56 hf
    · rw [if_neg hc] at hf
      refine X.iconst dX7_says_19 kI_0 ?_
      obtain ⟨e1, e2⟩ := e_ret hf
      subst e1
      subst e2
      exact X.iret dX7_says_20 rfl rfl
/-! LeanedOut$Street.kindOf(I)LLeanedOut$Person; -/
abbrev M_X7_kindOf : e_M := (yX7_kindOf, cX7_kindOf, 3, (some (.object "LeanedOut$Person")))
theorem mk_X7_kindOf : e_Mok M_X7_kindOf 1 := ⟨by decide +kernel, by decide +kernel, by decide +kernel⟩
theorem dX7_kindOf_0 : decode cX7_kindOf 0 = .ok (.aload_n 0, 1) := by decide +kernel
theorem dX7_kindOf_1 : decode cX7_kindOf 1 = .ok (.getfield 21, 3) := by decide +kernel
theorem dX7_kindOf_4 : decode cX7_kindOf 4 = .ok (.iload_n 1, 1) := by decide +kernel
theorem dX7_kindOf_5 : decode cX7_kindOf 5 = .ok (.iaload, 1) := by decide +kernel
theorem dX7_kindOf_6 : decode cX7_kindOf 6 = .ok (.istore_n 2, 1) := by decide +kernel
theorem dX7_kindOf_7 : decode cX7_kindOf 7 = .ok (.iload_n 2, 1) := by decide +kernel
theorem dX7_kindOf_8 : decode cX7_kindOf 8 = .ok (.ifCond .lt 21, 3) := by decide +kernel
theorem dX7_kindOf_11 : decode cX7_kindOf 11 = .ok (.iload_n 2, 1) := by decide +kernel
theorem dX7_kindOf_12 : decode cX7_kindOf 12 = .ok (.aload_n 0, 1) := by decide +kernel
theorem dX7_kindOf_13 : decode cX7_kindOf 13 = .ok (.getfield 34, 3) := by decide +kernel
theorem dX7_kindOf_16 : decode cX7_kindOf 16 = .ok (.arraylength, 1) := by decide +kernel
theorem dX7_kindOf_17 : decode cX7_kindOf 17 = .ok (.if_icmp .ge 12, 3) := by decide +kernel
theorem dX7_kindOf_20 : decode cX7_kindOf 20 = .ok (.aload_n 0, 1) := by decide +kernel
theorem dX7_kindOf_21 : decode cX7_kindOf 21 = .ok (.getfield 34, 3) := by decide +kernel
theorem dX7_kindOf_24 : decode cX7_kindOf 24 = .ok (.iload_n 2, 1) := by decide +kernel
theorem dX7_kindOf_25 : decode cX7_kindOf 25 = .ok (.aaload, 1) := by decide +kernel
theorem dX7_kindOf_26 : decode cX7_kindOf 26 = .ok (.goto 9, 3) := by decide +kernel
theorem dX7_kindOf_29 : decode cX7_kindOf 29 = .ok (.aload_n 0, 1) := by decide +kernel
theorem dX7_kindOf_30 : decode cX7_kindOf 30 = .ok (.getfield 34, 3) := by decide +kernel
theorem dX7_kindOf_33 : decode cX7_kindOf 33 = .ok (.iconst 0, 1) := by decide +kernel
theorem dX7_kindOf_34 : decode cX7_kindOf 34 = .ok (.aaload, 1) := by decide +kernel
theorem dX7_kindOf_35 : decode cX7_kindOf 35 = .ok (.areturn, 1) := by decide +kernel
def J_X7_kindOf_29 (S : e_S) (l0 : Nat) (g : e_G) : Option (Nat × e_G) :=
  (e_gR S g 7 l0 10).bind fun v1 =>
  (e_aR S g 3 v1 (0 : Int32)).bind fun v3 =>
  some (v3, g)
def f_X7_kindOf (S : e_S) (l0 : Nat) (l1 : Int32) (g : e_G) : Option (Nat × e_G) :=
  if e_ob S 7 l0 = true then
    (e_gR S g 7 l0 3).bind fun v1 =>
    (e_aI S g 0 v1 l1).bind fun v3 =>
    if v3 < 0 then
      J_X7_kindOf_29 S l0 g
    else
      (e_gR S g 7 l0 10).bind fun v5 =>
      (e_aL S 3 v5).bind fun v7 =>
      if v7 ≤ v3 then
        J_X7_kindOf_29 S l0 g
      else
        (e_gR S g 7 l0 10).bind fun v9 =>
        (e_aR S g 3 v9 v3).bind fun v11 =>
        some (v11, g)
  else none
theorem x_J_X7_kindOf_29 {l : Launch} {D : va_G} {S : e_S} {w : Nat} {k : e_G} {l0 : Nat} {g : e_G} (hf : J_X7_kindOf_29 S l0 g = some (w, k)) : X l D (e_R 1) M_X7_kindOf 0 0 29 [(0, .ref l0)] [] (S, g) (some (.ref w)) (S, k) := by
  unfold J_X7_kindOf_29 at hf
  refine X.aload_n dX7_kindOf_29 rfl (j := 0) rfl ?_
  obtain ⟨v1, h2, hf⟩ := ob hf
  refine Y.getR dX7_kindOf_30 fl_X7_34 rfl h2 ?_
  refine X.iconst dX7_kindOf_33 kI_0 ?_
  obtain ⟨v3, h4, hf⟩ := ob hf
  refine Y.aald dX7_kindOf_34 (kd := 3) (by decide) h4 ?_
  obtain ⟨e1, e2⟩ := e_ret hf
  subst e1
  subst e2
  exact X.aret dX7_kindOf_35 rfl (Or.inl ⟨_, rfl⟩)
theorem o_X7_kindOf  {S : e_S} {w : Nat} {k : e_G} {l0 : Nat} {l1 : Int32} {g : e_G} (hf : f_X7_kindOf S l0 l1 g = some (w, k)) : e_ob S 7 l0 = true := by
  unfold f_X7_kindOf at hf
  by_cases hc : e_ob S 7 l0 = true
  · exact hc
  · rw [if_neg hc] at hf
    cases hf
theorem c_X7_kindOf {l : Launch} {D : va_G}  {S : e_S} {w : Nat} {k : e_G} {l0 : Nat} {l1 : Int32} {g : e_G} (hf : f_X7_kindOf S l0 l1 g = some (w, k)) : CT l D (e_R 1) M_X7_kindOf [.ref l0, .int l1] (S, g) (some (.ref w)) (S, k) := by
  refine CT.of (by decide +kernel) (Nat.le_of_ble_eq_true rfl) ?_
  have ho := o_X7_kindOf hf
  unfold f_X7_kindOf at hf
  rw [if_pos ho] at hf
  show X l D (e_R 1) M_X7_kindOf 0 0 0 [(0, .ref l0), (1, .int l1)] [] (S, g) (some (.ref w)) (S, k)
  refine X.aload_n dX7_kindOf_0 rfl (j := 0) rfl ?_
  obtain ⟨v1, h2, hf⟩ := ob hf
  refine Y.getR dX7_kindOf_1 fl_X7_21 rfl h2 ?_
  refine X.iload_n dX7_kindOf_4 rfl (j := 1) rfl ?_
  obtain ⟨v3, h4, hf⟩ := ob hf
  refine Y.iald dX7_kindOf_5 h4 ?_
  refine X.istore_n dX7_kindOf_6 rfl (Nat.le_of_ble_eq_true rfl) (lc' := [(2, .int v3), (0, .ref l0), (1, .int l1)]) rfl ?_
  refine X.iload_n dX7_kindOf_7 rfl (j := 0) rfl ?_
  refine X.if_lt dX7_kindOf_8 (tgt := 29) rfl (fun hc => ?_) (fun hc => ?_)
  · rw [if_pos hc] at hf
    refine X.sub [1] rfl ?_
    exact x_J_X7_kindOf_29 hf
  · rw [if_neg hc] at hf
    refine X.iload_n dX7_kindOf_11 rfl (j := 0) rfl ?_
    refine X.aload_n dX7_kindOf_12 rfl (j := 1) rfl ?_
    obtain ⟨v5, h6, hf⟩ := ob hf
    refine Y.getR dX7_kindOf_13 fl_X7_34 rfl h6 ?_
    obtain ⟨v7, h8, hf⟩ := ob hf
    refine Y.alen dX7_kindOf_16 (kd := 3) (by decide) h8 ?_
    refine X.icmp_ge dX7_kindOf_17 (tgt := 29) rfl (fun hc => ?_) (fun hc => ?_)
    · rw [if_pos hc] at hf
      refine X.sub [1] rfl ?_
      exact x_J_X7_kindOf_29 hf
    · rw [if_neg hc] at hf
      refine X.aload_n dX7_kindOf_20 rfl (j := 1) rfl ?_
      obtain ⟨v9, h10, hf⟩ := ob hf
      refine Y.getR dX7_kindOf_21 fl_X7_34 rfl h10 ?_
      refine X.iload_n dX7_kindOf_24 rfl (j := 0) rfl ?_
      obtain ⟨v11, h12, hf⟩ := ob hf
      refine Y.aald dX7_kindOf_25 (kd := 3) (by decide) h12 ?_
      refine X.goto dX7_kindOf_26 (tgt := 35) rfl ?_
      obtain ⟨e1, e2⟩ := e_ret hf
      subst e1
      subst e2
      exact X.aret dX7_kindOf_35 rfl (Or.inl ⟨_, rfl⟩)
/-! LeanedOut$Street.leaning(I)I -/
abbrev M_X7_leaning : e_M := (yX7_leaning, cX7_leaning, 2, (some .int))
theorem mk_X7_leaning : e_Mok M_X7_leaning 1 := ⟨by decide +kernel, by decide +kernel, by decide +kernel⟩
theorem dX7_leaning_0 : decode cX7_leaning 0 = .ok (.aload_n 0, 1) := by decide +kernel
theorem dX7_leaning_1 : decode cX7_leaning 1 = .ok (.iload_n 1, 1) := by decide +kernel
theorem dX7_leaning_2 : decode cX7_leaning 2 = .ok (.invokevirtual 110, 3) := by decide +kernel
theorem dX7_leaning_5 : decode cX7_leaning 5 = .ok (.aload_n 0, 1) := by decide +kernel
theorem dX7_leaning_6 : decode cX7_leaning 6 = .ok (.iconst 0, 1) := by decide +kernel
theorem dX7_leaning_7 : decode cX7_leaning 7 = .ok (.iload_n 1, 1) := by decide +kernel
theorem dX7_leaning_8 : decode cX7_leaning 8 = .ok (.invokevirtual 114, 3) := by decide +kernel
theorem dX7_leaning_11 : decode cX7_leaning 11 = .ok (.aload_n 0, 1) := by decide +kernel
theorem dX7_leaning_12 : decode cX7_leaning 12 = .ok (.iload_n 1, 1) := by decide +kernel
theorem dX7_leaning_13 : decode cX7_leaning 13 = .ok (.invokevirtual 69, 3) := by decide +kernel
theorem dX7_leaning_16 : decode cX7_leaning 16 = .ok (.aload_n 0, 1) := by decide +kernel
theorem dX7_leaning_17 : decode cX7_leaning 17 = .ok (.getfield 46, 3) := by decide +kernel
theorem dX7_leaning_20 : decode cX7_leaning 20 = .ok (.aload_n 0, 1) := by decide +kernel
theorem dX7_leaning_21 : decode cX7_leaning 21 = .ok (.getfield 24, 3) := by decide +kernel
theorem dX7_leaning_24 : decode cX7_leaning 24 = .ok (.iload_n 1, 1) := by decide +kernel
theorem dX7_leaning_25 : decode cX7_leaning 25 = .ok (.iaload, 1) := by decide +kernel
theorem dX7_leaning_26 : decode cX7_leaning 26 = .ok (.invokevirtual 117, 3) := by decide +kernel
theorem dX7_leaning_29 : decode cX7_leaning 29 = .ok (.ireturn, 1) := by decide +kernel
def f_X7_leaning (S : e_S) (l0 : Nat) (l1 : Int32) (g : e_G) : Option (Int32 × e_G) :=
  if e_ob S 7 l0 = true then
    (f_X7_kindOf S l0 l1 g).bind fun q2 =>
    (f_X7_says S l0 (0 : Int32) l1 q2.2).bind fun q4 =>
    (f_X7_isMet S l0 l1 q4.2).bind fun q6 =>
    (e_gI S q6.2 7 l0 7).bind fun v7 =>
    (e_gR S q6.2 7 l0 4).bind fun v9 =>
    (e_aI S q6.2 0 v9 l1).bind fun v11 =>
    (dv_leaning S q2.1 q4.1 q6.1 v7 v11 q6.2).bind fun q14 =>
    some (q14.1, q14.2)
  else none
theorem o_X7_leaning  {S : e_S} {w : Int32} {k : e_G} {l0 : Nat} {l1 : Int32} {g : e_G} (hf : f_X7_leaning S l0 l1 g = some (w, k)) : e_ob S 7 l0 = true := by
  unfold f_X7_leaning at hf
  by_cases hc : e_ob S 7 l0 = true
  · exact hc
  · rw [if_neg hc] at hf
    cases hf
theorem c_X7_leaning {l : Launch} {D : va_G}  {S : e_S} {w : Int32} {k : e_G} {l0 : Nat} {l1 : Int32} {g : e_G} (hf : f_X7_leaning S l0 l1 g = some (w, k)) : CT l D (e_R 4) M_X7_leaning [.ref l0, .int l1] (S, g) (some (.int w)) (S, k) := by
  refine CT.of (by decide +kernel) (Nat.le_of_ble_eq_true rfl) ?_
  have ho := o_X7_leaning hf
  unfold f_X7_leaning at hf
  rw [if_pos ho] at hf
  show X l D (e_R 4) M_X7_leaning 0 0 0 [(0, .ref l0), (1, .int l1)] [] (S, g) (some (.int w)) (S, k)
  refine X.aload_n dX7_leaning_0 rfl (j := 0) rfl ?_
  refine X.iload_n dX7_leaning_1 rfl (j := 1) rfl ?_
  obtain ⟨q2, h1, hf⟩ := ob hf
  refine Y.callV (av := [.int l1]) (ci := 7) dX7_leaning_2 (c_X7_kindOf (l := l) (D := D) (w := q2.1) (k := q2.2) h1) cw_X7_110 (by decide) rfl mk_X7_kindOf (o_X7_kindOf (w := q2.1) (k := q2.2) h1) (e_R_ok (Nat.le_of_ble_eq_true rfl) (Nat.le_of_ble_eq_true rfl)) ⟨rfl, rfl⟩ (by simp [Value.category]) ?_
  refine X.aload_n dX7_leaning_5 rfl (j := 0) rfl ?_
  refine X.iconst dX7_leaning_6 kI_0 ?_
  refine X.iload_n dX7_leaning_7 rfl (j := 1) rfl ?_
  obtain ⟨q4, h3, hf⟩ := ob hf
  refine Y.callV (av := [.int (0 : Int32), .int l1]) (ci := 7) dX7_leaning_8 (c_X7_says (l := l) (D := D) (w := q4.1) (k := q4.2) h3) cw_X7_114 (by decide) rfl mk_X7_says (o_X7_says (w := q4.1) (k := q4.2) h3) (e_R_ok (Nat.le_of_ble_eq_true rfl) (Nat.le_of_ble_eq_true rfl)) ⟨rfl, rfl⟩ (by simp [Value.category]) ?_
  refine X.aload_n dX7_leaning_11 rfl (j := 0) rfl ?_
  refine X.iload_n dX7_leaning_12 rfl (j := 1) rfl ?_
  obtain ⟨q6, h5, hf⟩ := ob hf
  refine Y.callV (av := [.int l1]) (ci := 7) dX7_leaning_13 (c_X7_isMet (l := l) (D := D) (w := q6.1) (k := q6.2) h5) cw_X7_69 (by decide) rfl mk_X7_isMet (o_X7_isMet (w := q6.1) (k := q6.2) h5) (e_R_ok (Nat.le_of_ble_eq_true rfl) (Nat.le_of_ble_eq_true rfl)) ⟨rfl, rfl⟩ (by simp [Value.category]) ?_
  refine X.aload_n dX7_leaning_16 rfl (j := 0) rfl ?_
  obtain ⟨v7, h8, hf⟩ := ob hf
  refine Y.getI dX7_leaning_17 fl_X7_46 rfl h8 ?_
  refine X.aload_n dX7_leaning_20 rfl (j := 0) rfl ?_
  obtain ⟨v9, h10, hf⟩ := ob hf
  refine Y.getR dX7_leaning_21 fl_X7_24 rfl h10 ?_
  refine X.iload_n dX7_leaning_24 rfl (j := 1) rfl ?_
  obtain ⟨v11, h12, hf⟩ := ob hf
  refine Y.iald dX7_leaning_25 h12 ?_
  obtain ⟨q14, h13, hf⟩ := ob hf
  refine Y.v_leaning dX7_leaning_26 rfl (Nat.le_of_ble_eq_true rfl) (by simp [Value.category]) (w := q14.1) (g1 := q14.2) h13 ?_
  obtain ⟨e1, e2⟩ := e_ret hf
  subst e1
  subst e2
  exact X.iret dX7_leaning_29 rfl rfl
/-! LeanedOut$Street.holding(I)I -/
abbrev M_X7_holding : e_M := (yX7_holding, cX7_holding, 2, (some .int))
theorem mk_X7_holding : e_Mok M_X7_holding 1 := ⟨by decide +kernel, by decide +kernel, by decide +kernel⟩
theorem dX7_holding_0 : decode cX7_holding 0 = .ok (.iconst 0, 1) := by decide +kernel
theorem dX7_holding_1 : decode cX7_holding 1 = .ok (.aload_n 0, 1) := by decide +kernel
theorem dX7_holding_2 : decode cX7_holding 2 = .ok (.iload_n 1, 1) := by decide +kernel
theorem dX7_holding_3 : decode cX7_holding 3 = .ok (.invokevirtual 110, 3) := by decide +kernel
theorem dX7_holding_6 : decode cX7_holding 6 = .ok (.aload_n 0, 1) := by decide +kernel
theorem dX7_holding_7 : decode cX7_holding 7 = .ok (.iconst 1, 1) := by decide +kernel
theorem dX7_holding_8 : decode cX7_holding 8 = .ok (.iload_n 1, 1) := by decide +kernel
theorem dX7_holding_9 : decode cX7_holding 9 = .ok (.invokevirtual 114, 3) := by decide +kernel
theorem dX7_holding_12 : decode cX7_holding 12 = .ok (.aload_n 0, 1) := by decide +kernel
theorem dX7_holding_13 : decode cX7_holding 13 = .ok (.getfield 24, 3) := by decide +kernel
theorem dX7_holding_16 : decode cX7_holding 16 = .ok (.iload_n 1, 1) := by decide +kernel
theorem dX7_holding_17 : decode cX7_holding 17 = .ok (.iaload, 1) := by decide +kernel
theorem dX7_holding_18 : decode cX7_holding 18 = .ok (.invokevirtual 123, 3) := by decide +kernel
theorem dX7_holding_21 : decode cX7_holding 21 = .ok (.invokestatic 107, 3) := by decide +kernel
theorem dX7_holding_24 : decode cX7_holding 24 = .ok (.ireturn, 1) := by decide +kernel
def f_X7_holding (S : e_S) (l0 : Nat) (l1 : Int32) (g : e_G) : Option (Int32 × e_G) :=
  if e_ob S 7 l0 = true then
    (f_X7_kindOf S l0 l1 g).bind fun q2 =>
    (f_X7_says S l0 (1 : Int32) l1 q2.2).bind fun q4 =>
    (e_gR S q4.2 7 l0 4).bind fun v5 =>
    (e_aI S q4.2 0 v5 l1).bind fun v7 =>
    (dv_holding S q2.1 q4.1 v7 q4.2).bind fun q10 =>
    some (i_max (0 : Int32) q10.1, q10.2)
  else none
theorem o_X7_holding  {S : e_S} {w : Int32} {k : e_G} {l0 : Nat} {l1 : Int32} {g : e_G} (hf : f_X7_holding S l0 l1 g = some (w, k)) : e_ob S 7 l0 = true := by
  unfold f_X7_holding at hf
  by_cases hc : e_ob S 7 l0 = true
  · exact hc
  · rw [if_neg hc] at hf
    cases hf
theorem c_X7_holding {l : Launch} {D : va_G}  {S : e_S} {w : Int32} {k : e_G} {l0 : Nat} {l1 : Int32} {g : e_G} (hf : f_X7_holding S l0 l1 g = some (w, k)) : CT l D (e_R 4) M_X7_holding [.ref l0, .int l1] (S, g) (some (.int w)) (S, k) := by
  refine CT.of (by decide +kernel) (Nat.le_of_ble_eq_true rfl) ?_
  have ho := o_X7_holding hf
  unfold f_X7_holding at hf
  rw [if_pos ho] at hf
  show X l D (e_R 4) M_X7_holding 0 0 0 [(0, .ref l0), (1, .int l1)] [] (S, g) (some (.int w)) (S, k)
  refine X.iconst dX7_holding_0 kI_0 ?_
  refine X.aload_n dX7_holding_1 rfl (j := 0) rfl ?_
  refine X.iload_n dX7_holding_2 rfl (j := 1) rfl ?_
  obtain ⟨q2, h1, hf⟩ := ob hf
  refine Y.callV (av := [.int l1]) (ci := 7) dX7_holding_3 (c_X7_kindOf (l := l) (D := D) (w := q2.1) (k := q2.2) h1) cw_X7_110 (by decide) rfl mk_X7_kindOf (o_X7_kindOf (w := q2.1) (k := q2.2) h1) (e_R_ok (Nat.le_of_ble_eq_true rfl) (Nat.le_of_ble_eq_true rfl)) ⟨rfl, rfl⟩ (by simp [Value.category]) ?_
  refine X.aload_n dX7_holding_6 rfl (j := 0) rfl ?_
  refine X.iconst dX7_holding_7 kI_1 ?_
  refine X.iload_n dX7_holding_8 rfl (j := 1) rfl ?_
  obtain ⟨q4, h3, hf⟩ := ob hf
  refine Y.callV (av := [.int (1 : Int32), .int l1]) (ci := 7) dX7_holding_9 (c_X7_says (l := l) (D := D) (w := q4.1) (k := q4.2) h3) cw_X7_114 (by decide) rfl mk_X7_says (o_X7_says (w := q4.1) (k := q4.2) h3) (e_R_ok (Nat.le_of_ble_eq_true rfl) (Nat.le_of_ble_eq_true rfl)) ⟨rfl, rfl⟩ (by simp [Value.category]) ?_
  refine X.aload_n dX7_holding_12 rfl (j := 0) rfl ?_
  obtain ⟨v5, h6, hf⟩ := ob hf
  refine Y.getR dX7_holding_13 fl_X7_24 rfl h6 ?_
  refine X.iload_n dX7_holding_16 rfl (j := 1) rfl ?_
  obtain ⟨v7, h8, hf⟩ := ob hf
  refine Y.iald dX7_holding_17 h8 ?_
  obtain ⟨q10, h9, hf⟩ := ob hf
  refine Y.v_holding dX7_holding_18 rfl (Nat.le_of_ble_eq_true rfl) (by simp [Value.category]) (w := q10.1) (g1 := q10.2) h9 ?_
  refine Y.mmax dX7_holding_21 ww_537 ww_538 ww_88 ww_539 ⟨Nat.le_of_ble_eq_true rfl, Nat.le_of_ble_eq_true rfl⟩ (by simp [Value.category]) ?_
  obtain ⟨e1, e2⟩ := e_ret hf
  subst e1
  subst e2
  exact X.iret dX7_holding_24 rfl rfl
/-! LeanedOut$Street.minding(I)I -/
abbrev M_X7_minding : e_M := (yX7_minding, cX7_minding, 2, (some .int))
theorem mk_X7_minding : e_Mok M_X7_minding 1 := ⟨by decide +kernel, by decide +kernel, by decide +kernel⟩
theorem dX7_minding_0 : decode cX7_minding 0 = .ok (.aload_n 0, 1) := by decide +kernel
theorem dX7_minding_1 : decode cX7_minding 1 = .ok (.iload_n 1, 1) := by decide +kernel
theorem dX7_minding_2 : decode cX7_minding 2 = .ok (.invokevirtual 110, 3) := by decide +kernel
theorem dX7_minding_5 : decode cX7_minding 5 = .ok (.aload_n 0, 1) := by decide +kernel
theorem dX7_minding_6 : decode cX7_minding 6 = .ok (.iconst 2, 1) := by decide +kernel
theorem dX7_minding_7 : decode cX7_minding 7 = .ok (.iload_n 1, 1) := by decide +kernel
theorem dX7_minding_8 : decode cX7_minding 8 = .ok (.invokevirtual 114, 3) := by decide +kernel
theorem dX7_minding_11 : decode cX7_minding 11 = .ok (.aload_n 0, 1) := by decide +kernel
theorem dX7_minding_12 : decode cX7_minding 12 = .ok (.getfield 24, 3) := by decide +kernel
theorem dX7_minding_15 : decode cX7_minding 15 = .ok (.iload_n 1, 1) := by decide +kernel
theorem dX7_minding_16 : decode cX7_minding 16 = .ok (.iaload, 1) := by decide +kernel
theorem dX7_minding_17 : decode cX7_minding 17 = .ok (.invokevirtual 126, 3) := by decide +kernel
theorem dX7_minding_20 : decode cX7_minding 20 = .ok (.ireturn, 1) := by decide +kernel
def f_X7_minding (S : e_S) (l0 : Nat) (l1 : Int32) (g : e_G) : Option (Int32 × e_G) :=
  if e_ob S 7 l0 = true then
    (f_X7_kindOf S l0 l1 g).bind fun q2 =>
    (f_X7_says S l0 (2 : Int32) l1 q2.2).bind fun q4 =>
    (e_gR S q4.2 7 l0 4).bind fun v5 =>
    (e_aI S q4.2 0 v5 l1).bind fun v7 =>
    (dv_minding S q2.1 q4.1 v7 q4.2).bind fun q10 =>
    some (q10.1, q10.2)
  else none
theorem o_X7_minding  {S : e_S} {w : Int32} {k : e_G} {l0 : Nat} {l1 : Int32} {g : e_G} (hf : f_X7_minding S l0 l1 g = some (w, k)) : e_ob S 7 l0 = true := by
  unfold f_X7_minding at hf
  by_cases hc : e_ob S 7 l0 = true
  · exact hc
  · rw [if_neg hc] at hf
    cases hf
theorem c_X7_minding {l : Launch} {D : va_G}  {S : e_S} {w : Int32} {k : e_G} {l0 : Nat} {l1 : Int32} {g : e_G} (hf : f_X7_minding S l0 l1 g = some (w, k)) : CT l D (e_R 4) M_X7_minding [.ref l0, .int l1] (S, g) (some (.int w)) (S, k) := by
  refine CT.of (by decide +kernel) (Nat.le_of_ble_eq_true rfl) ?_
  have ho := o_X7_minding hf
  unfold f_X7_minding at hf
  rw [if_pos ho] at hf
  show X l D (e_R 4) M_X7_minding 0 0 0 [(0, .ref l0), (1, .int l1)] [] (S, g) (some (.int w)) (S, k)
  refine X.aload_n dX7_minding_0 rfl (j := 0) rfl ?_
  refine X.iload_n dX7_minding_1 rfl (j := 1) rfl ?_
  obtain ⟨q2, h1, hf⟩ := ob hf
  refine Y.callV (av := [.int l1]) (ci := 7) dX7_minding_2 (c_X7_kindOf (l := l) (D := D) (w := q2.1) (k := q2.2) h1) cw_X7_110 (by decide) rfl mk_X7_kindOf (o_X7_kindOf (w := q2.1) (k := q2.2) h1) (e_R_ok (Nat.le_of_ble_eq_true rfl) (Nat.le_of_ble_eq_true rfl)) ⟨rfl, rfl⟩ (by simp [Value.category]) ?_
  refine X.aload_n dX7_minding_5 rfl (j := 0) rfl ?_
  refine X.iconst dX7_minding_6 kI_2 ?_
  refine X.iload_n dX7_minding_7 rfl (j := 1) rfl ?_
  obtain ⟨q4, h3, hf⟩ := ob hf
  refine Y.callV (av := [.int (2 : Int32), .int l1]) (ci := 7) dX7_minding_8 (c_X7_says (l := l) (D := D) (w := q4.1) (k := q4.2) h3) cw_X7_114 (by decide) rfl mk_X7_says (o_X7_says (w := q4.1) (k := q4.2) h3) (e_R_ok (Nat.le_of_ble_eq_true rfl) (Nat.le_of_ble_eq_true rfl)) ⟨rfl, rfl⟩ (by simp [Value.category]) ?_
  refine X.aload_n dX7_minding_11 rfl (j := 0) rfl ?_
  obtain ⟨v5, h6, hf⟩ := ob hf
  refine Y.getR dX7_minding_12 fl_X7_24 rfl h6 ?_
  refine X.iload_n dX7_minding_15 rfl (j := 1) rfl ?_
  obtain ⟨v7, h8, hf⟩ := ob hf
  refine Y.iald dX7_minding_16 h8 ?_
  obtain ⟨q10, h9, hf⟩ := ob hf
  refine Y.v_minding dX7_minding_17 rfl (Nat.le_of_ble_eq_true rfl) (by simp [Value.category]) (w := q10.1) (g1 := q10.2) h9 ?_
  obtain ⟨e1, e2⟩ := e_ret hf
  subst e1
  subst e2
  exact X.iret dX7_minding_20 rfl rfl
/-! LeanedOut$Street.mindingOfTheRest()I -/
abbrev M_X7_mindingOfTheRest : e_M := (yX7_mindingOfTheRest, cX7_mindingOfTheRest, 3, (some .int))
theorem mk_X7_mindingOfTheRest : e_Mok M_X7_mindingOfTheRest 0 := ⟨by decide +kernel, by decide +kernel, by decide +kernel⟩
theorem dX7_mindingOfTheRest_0 : decode cX7_mindingOfTheRest 0 = .ok (.iconst 0, 1) := by decide +kernel
theorem dX7_mindingOfTheRest_1 : decode cX7_mindingOfTheRest 1 = .ok (.istore_n 1, 1) := by decide +kernel
theorem dX7_mindingOfTheRest_2 : decode cX7_mindingOfTheRest 2 = .ok (.iconst 0, 1) := by decide +kernel
theorem dX7_mindingOfTheRest_3 : decode cX7_mindingOfTheRest 3 = .ok (.istore_n 2, 1) := by decide +kernel
theorem dX7_mindingOfTheRest_4 : decode cX7_mindingOfTheRest 4 = .ok (.iload_n 2, 1) := by decide +kernel
theorem dX7_mindingOfTheRest_5 : decode cX7_mindingOfTheRest 5 = .ok (.aload_n 0, 1) := by decide +kernel
theorem dX7_mindingOfTheRest_6 : decode cX7_mindingOfTheRest 6 = .ok (.getfield 42, 3) := by decide +kernel
theorem dX7_mindingOfTheRest_9 : decode cX7_mindingOfTheRest 9 = .ok (.if_icmp .ge 26, 3) := by decide +kernel
theorem dX7_mindingOfTheRest_12 : decode cX7_mindingOfTheRest 12 = .ok (.aload_n 0, 1) := by decide +kernel
theorem dX7_mindingOfTheRest_13 : decode cX7_mindingOfTheRest 13 = .ok (.getfield 27, 3) := by decide +kernel
theorem dX7_mindingOfTheRest_16 : decode cX7_mindingOfTheRest 16 = .ok (.iload_n 2, 1) := by decide +kernel
theorem dX7_mindingOfTheRest_17 : decode cX7_mindingOfTheRest 17 = .ok (.baload, 1) := by decide +kernel
theorem dX7_mindingOfTheRest_18 : decode cX7_mindingOfTheRest 18 = .ok (.ifCond .ne 11, 3) := by decide +kernel
theorem dX7_mindingOfTheRest_21 : decode cX7_mindingOfTheRest 21 = .ok (.iload_n 1, 1) := by decide +kernel
theorem dX7_mindingOfTheRest_22 : decode cX7_mindingOfTheRest 22 = .ok (.aload_n 0, 1) := by decide +kernel
theorem dX7_mindingOfTheRest_23 : decode cX7_mindingOfTheRest 23 = .ok (.iload_n 2, 1) := by decide +kernel
theorem dX7_mindingOfTheRest_24 : decode cX7_mindingOfTheRest 24 = .ok (.invokevirtual 84, 3) := by decide +kernel
theorem dX7_mindingOfTheRest_27 : decode cX7_mindingOfTheRest 27 = .ok (.iadd, 1) := by decide +kernel
theorem dX7_mindingOfTheRest_28 : decode cX7_mindingOfTheRest 28 = .ok (.istore_n 1, 1) := by decide +kernel
theorem dX7_mindingOfTheRest_29 : decode cX7_mindingOfTheRest 29 = .ok (.iinc 2 1, 3) := by decide +kernel
theorem dX7_mindingOfTheRest_32 : decode cX7_mindingOfTheRest 32 = .ok (.goto (-28), 3) := by decide +kernel
theorem dX7_mindingOfTheRest_35 : decode cX7_mindingOfTheRest 35 = .ok (.iload_n 1, 1) := by decide +kernel
theorem dX7_mindingOfTheRest_36 : decode cX7_mindingOfTheRest 36 = .ok (.ireturn, 1) := by decide +kernel
def J_X7_mindingOfTheRest_29 (c4 : Nat → Int32 → Int32 → e_G → Option (Int32 × e_G)) (S : e_S) (l0 : Nat) (l1 : Int32) (l2 : Int32) (g : e_G) : Option (Int32 × e_G) :=
  c4 l0 l1 (l2 + (1 : Int32)) g
def L_X7_mindingOfTheRest_4 : Nat → e_S → Nat → Int32 → Int32 → e_G → Option (Int32 × e_G)
  | 0, _, _, _, _, _ => none
  | n + 1, S, l0, l1, l2, g =>
  (e_gI S g 7 l0 6).bind fun v1 =>
  if v1 ≤ l2 then
    some (l1, g)
  else
    (e_gR S g 7 l0 5).bind fun v3 =>
    (e_aI S g 1 v3 l2).bind fun v5 =>
    if v5 = 0 then
      (f_X7_minding S l0 l2 g).bind fun q8 =>
      J_X7_mindingOfTheRest_29 (L_X7_mindingOfTheRest_4 n S) S l0 (l1 + q8.1) l2 q8.2
    else
      J_X7_mindingOfTheRest_29 (L_X7_mindingOfTheRest_4 n S) S l0 l1 l2 g
def f_X7_mindingOfTheRest (S : e_S) (l0 : Nat) (g : e_G) : Option (Int32 × e_G) :=
  if e_ob S 7 l0 = true then
    L_X7_mindingOfTheRest_4 50000 S l0 (0 : Int32) (0 : Int32) g
  else none
theorem x_J_X7_mindingOfTheRest_29 {l : Launch} {D : va_G} {S : e_S} {w : Int32} {k : e_G} (c4 : Nat → Int32 → Int32 → e_G → Option (Int32 × e_G)) (hc4 : ∀ (l0 : Nat) (l1 : Int32) (l2 : Int32) (g : e_G), c4 l0 l1 l2 g = some (w, k) → X l D (e_R 5) M_X7_mindingOfTheRest 0 0 4 [(0, .ref l0), (1, .int l1), (2, .int l2)] [] (S, g) (some (.int w)) (S, k)) {l0 : Nat} {l1 : Int32} {l2 : Int32} {g : e_G} (hf : J_X7_mindingOfTheRest_29 c4 S l0 l1 l2 g = some (w, k)) : X l D (e_R 5) M_X7_mindingOfTheRest 0 0 29 [(0, .ref l0), (1, .int l1), (2, .int l2)] [] (S, g) (some (.int w)) (S, k) := by
  unfold J_X7_mindingOfTheRest_29 at hf
  refine X.iinc (j := 2) dX7_mindingOfTheRest_29 rfl (v := l2 + (1 : Int32)) (by rw [kI_1]) (Nat.le_of_ble_eq_true rfl) (lc' := [(2, .int (l2 + (1 : Int32))), (0, .ref l0), (1, .int l1)]) rfl ?_
  refine X.goto dX7_mindingOfTheRest_32 (tgt := 4) rfl ?_
  refine X.sub [1, 2, 0] rfl ?_
  exact hc4 _ _ _ _ hf
theorem x_L_X7_mindingOfTheRest_4 {l : Launch} {D : va_G} {S : e_S} {w : Int32} {k : e_G} : ∀ (n : Nat) (l0 : Nat) (l1 : Int32) (l2 : Int32) (g : e_G), L_X7_mindingOfTheRest_4 n S l0 l1 l2 g = some (w, k) → X l D (e_R 5) M_X7_mindingOfTheRest 0 0 4 [(0, .ref l0), (1, .int l1), (2, .int l2)] [] (S, g) (some (.int w)) (S, k) := by
  intro n
  induction n with
  | zero =>
    intro l0 l1 l2 g hf
    cases hf
  | succ n ih =>
    intro l0 l1 l2 g hf
    rw [L_X7_mindingOfTheRest_4] at hf
    refine X.iload_n dX7_mindingOfTheRest_4 rfl (j := 2) rfl ?_
    refine X.aload_n dX7_mindingOfTheRest_5 rfl (j := 0) rfl ?_
    obtain ⟨v1, h2, hf⟩ := ob hf
    refine Y.getI dX7_mindingOfTheRest_6 fl_X7_42 rfl h2 ?_
    refine X.icmp_ge dX7_mindingOfTheRest_9 (tgt := 35) rfl (fun hc => ?_) (fun hc => ?_)
    · rw [if_pos hc] at hf
      refine X.iload_n dX7_mindingOfTheRest_35 rfl (j := 1) rfl ?_
      obtain ⟨e1, e2⟩ := e_ret hf
      subst e1
      subst e2
      exact X.iret dX7_mindingOfTheRest_36 rfl rfl
    · rw [if_neg hc] at hf
      refine X.aload_n dX7_mindingOfTheRest_12 rfl (j := 0) rfl ?_
      obtain ⟨v3, h4, hf⟩ := ob hf
      refine Y.getR dX7_mindingOfTheRest_13 fl_X7_27 rfl h4 ?_
      refine X.iload_n dX7_mindingOfTheRest_16 rfl (j := 2) rfl ?_
      obtain ⟨v5, h6, hf⟩ := ob hf
      refine Y.zald dX7_mindingOfTheRest_17 h6 ?_
      refine X.if_ne dX7_mindingOfTheRest_18 (tgt := 29) rfl (fun hc => ?_) (fun hc => ?_)
      · rw [if_neg hc] at hf
        exact x_J_X7_mindingOfTheRest_29 _ ih hf
      · rw [if_pos hc] at hf
        refine X.iload_n dX7_mindingOfTheRest_21 rfl (j := 1) rfl ?_
        refine X.aload_n dX7_mindingOfTheRest_22 rfl (j := 0) rfl ?_
        refine X.iload_n dX7_mindingOfTheRest_23 rfl (j := 2) rfl ?_
        obtain ⟨q8, h7, hf⟩ := ob hf
        refine Y.callV (av := [.int l2]) (ci := 7) dX7_mindingOfTheRest_24 (c_X7_minding (l := l) (D := D) (w := q8.1) (k := q8.2) h7) cw_X7_84 (by decide) rfl mk_X7_minding (o_X7_minding (w := q8.1) (k := q8.2) h7) (e_R_ok (Nat.le_of_ble_eq_true rfl) (Nat.le_of_ble_eq_true rfl)) ⟨rfl, rfl⟩ (by simp [Value.category]) ?_
        refine X.iadd dX7_mindingOfTheRest_27 ?_
        refine X.istore_n dX7_mindingOfTheRest_28 rfl (Nat.le_of_ble_eq_true rfl) (lc' := [(1, .int (l1 + q8.1)), (0, .ref l0), (2, .int l2)]) rfl ?_
        refine X.sub [1, 0, 2] rfl ?_
        exact x_J_X7_mindingOfTheRest_29 _ ih hf
theorem o_X7_mindingOfTheRest  {S : e_S} {w : Int32} {k : e_G} {l0 : Nat} {g : e_G} (hf : f_X7_mindingOfTheRest S l0 g = some (w, k)) : e_ob S 7 l0 = true := by
  unfold f_X7_mindingOfTheRest at hf
  by_cases hc : e_ob S 7 l0 = true
  · exact hc
  · rw [if_neg hc] at hf
    cases hf
theorem c_X7_mindingOfTheRest {l : Launch} {D : va_G}  {S : e_S} {w : Int32} {k : e_G} {l0 : Nat} {g : e_G} (hf : f_X7_mindingOfTheRest S l0 g = some (w, k)) : CT l D (e_R 5) M_X7_mindingOfTheRest [.ref l0] (S, g) (some (.int w)) (S, k) := by
  refine CT.of (by decide +kernel) (Nat.le_of_ble_eq_true rfl) ?_
  have ho := o_X7_mindingOfTheRest hf
  unfold f_X7_mindingOfTheRest at hf
  rw [if_pos ho] at hf
  show X l D (e_R 5) M_X7_mindingOfTheRest 0 0 0 [(0, .ref l0)] [] (S, g) (some (.int w)) (S, k)
  refine X.iconst dX7_mindingOfTheRest_0 kI_0 ?_
  refine X.istore_n dX7_mindingOfTheRest_1 rfl (Nat.le_of_ble_eq_true rfl) (lc' := [(1, .int (0 : Int32)), (0, .ref l0)]) rfl ?_
  refine X.iconst dX7_mindingOfTheRest_2 kI_0 ?_
  refine X.istore_n dX7_mindingOfTheRest_3 rfl (Nat.le_of_ble_eq_true rfl) (lc' := [(2, .int (0 : Int32)), (1, .int (0 : Int32)), (0, .ref l0)]) rfl ?_
  refine X.sub [2, 1, 0] rfl ?_
  exact x_L_X7_mindingOfTheRest_4 50000 _ _ _ _ hf
/-! LeanedOut$Street.passDay()I -/
abbrev M_X7_passDay : e_M := (yX7_passDay, cX7_passDay, 3, (some .int))
theorem mk_X7_passDay : e_Mok M_X7_passDay 0 := ⟨by decide +kernel, by decide +kernel, by decide +kernel⟩
theorem dX7_passDay_0 : decode cX7_passDay 0 = .ok (.iconst 0, 1) := by decide +kernel
theorem dX7_passDay_1 : decode cX7_passDay 1 = .ok (.istore_n 1, 1) := by decide +kernel
theorem dX7_passDay_2 : decode cX7_passDay 2 = .ok (.iconst 0, 1) := by decide +kernel
theorem dX7_passDay_3 : decode cX7_passDay 3 = .ok (.istore_n 2, 1) := by decide +kernel
theorem dX7_passDay_4 : decode cX7_passDay 4 = .ok (.iload_n 2, 1) := by decide +kernel
theorem dX7_passDay_5 : decode cX7_passDay 5 = .ok (.aload_n 0, 1) := by decide +kernel
theorem dX7_passDay_6 : decode cX7_passDay 6 = .ok (.getfield 42, 3) := by decide +kernel
theorem dX7_passDay_9 : decode cX7_passDay 9 = .ok (.if_icmp .ge 72, 3) := by decide +kernel
theorem dX7_passDay_12 : decode cX7_passDay 12 = .ok (.aload_n 0, 1) := by decide +kernel
theorem dX7_passDay_13 : decode cX7_passDay 13 = .ok (.getfield 27, 3) := by decide +kernel
theorem dX7_passDay_16 : decode cX7_passDay 16 = .ok (.iload_n 2, 1) := by decide +kernel
theorem dX7_passDay_17 : decode cX7_passDay 17 = .ok (.baload, 1) := by decide +kernel
theorem dX7_passDay_18 : decode cX7_passDay 18 = .ok (.ifCond .eq 6, 3) := by decide +kernel
theorem dX7_passDay_21 : decode cX7_passDay 21 = .ok (.goto 54, 3) := by decide +kernel
theorem dX7_passDay_24 : decode cX7_passDay 24 = .ok (.aload_n 0, 1) := by decide +kernel
theorem dX7_passDay_25 : decode cX7_passDay 25 = .ok (.getfield 18, 3) := by decide +kernel
theorem dX7_passDay_28 : decode cX7_passDay 28 = .ok (.iload_n 2, 1) := by decide +kernel
theorem dX7_passDay_29 : decode cX7_passDay 29 = .ok (.aload_n 0, 1) := by decide +kernel
theorem dX7_passDay_30 : decode cX7_passDay 30 = .ok (.getfield 18, 3) := by decide +kernel
theorem dX7_passDay_33 : decode cX7_passDay 33 = .ok (.iload_n 2, 1) := by decide +kernel
theorem dX7_passDay_34 : decode cX7_passDay 34 = .ok (.iaload, 1) := by decide +kernel
theorem dX7_passDay_35 : decode cX7_passDay 35 = .ok (.aload_n 0, 1) := by decide +kernel
theorem dX7_passDay_36 : decode cX7_passDay 36 = .ok (.iload_n 2, 1) := by decide +kernel
theorem dX7_passDay_37 : decode cX7_passDay 37 = .ok (.invokevirtual 128, 3) := by decide +kernel
theorem dX7_passDay_40 : decode cX7_passDay 40 = .ok (.iadd, 1) := by decide +kernel
theorem dX7_passDay_41 : decode cX7_passDay 41 = .ok (.iconst 0, 1) := by decide +kernel
theorem dX7_passDay_42 : decode cX7_passDay 42 = .ok (.bipush 99, 2) := by decide +kernel
theorem dX7_passDay_44 : decode cX7_passDay 44 = .ok (.invokestatic 97, 3) := by decide +kernel
theorem dX7_passDay_47 : decode cX7_passDay 47 = .ok (.iastore, 1) := by decide +kernel
theorem dX7_passDay_48 : decode cX7_passDay 48 = .ok (.aload_n 0, 1) := by decide +kernel
theorem dX7_passDay_49 : decode cX7_passDay 49 = .ok (.getfield 18, 3) := by decide +kernel
theorem dX7_passDay_52 : decode cX7_passDay 52 = .ok (.iload_n 2, 1) := by decide +kernel
theorem dX7_passDay_53 : decode cX7_passDay 53 = .ok (.iaload, 1) := by decide +kernel
theorem dX7_passDay_54 : decode cX7_passDay 54 = .ok (.aload_n 0, 1) := by decide +kernel
theorem dX7_passDay_55 : decode cX7_passDay 55 = .ok (.iload_n 2, 1) := by decide +kernel
theorem dX7_passDay_56 : decode cX7_passDay 56 = .ok (.invokevirtual 130, 3) := by decide +kernel
theorem dX7_passDay_59 : decode cX7_passDay 59 = .ok (.if_icmp .le 16, 3) := by decide +kernel
theorem dX7_passDay_62 : decode cX7_passDay 62 = .ok (.aload_n 0, 1) := by decide +kernel
theorem dX7_passDay_63 : decode cX7_passDay 63 = .ok (.getfield 27, 3) := by decide +kernel
theorem dX7_passDay_66 : decode cX7_passDay 66 = .ok (.iload_n 2, 1) := by decide +kernel
theorem dX7_passDay_67 : decode cX7_passDay 67 = .ok (.iconst 1, 1) := by decide +kernel
theorem dX7_passDay_68 : decode cX7_passDay 68 = .ok (.bastore, 1) := by decide +kernel
theorem dX7_passDay_69 : decode cX7_passDay 69 = .ok (.iload_n 1, 1) := by decide +kernel
theorem dX7_passDay_70 : decode cX7_passDay 70 = .ok (.iconst 1, 1) := by decide +kernel
theorem dX7_passDay_71 : decode cX7_passDay 71 = .ok (.iload_n 2, 1) := by decide +kernel
theorem dX7_passDay_72 : decode cX7_passDay 72 = .ok (.ishl, 1) := by decide +kernel
theorem dX7_passDay_73 : decode cX7_passDay 73 = .ok (.ior, 1) := by decide +kernel
theorem dX7_passDay_74 : decode cX7_passDay 74 = .ok (.istore_n 1, 1) := by decide +kernel
theorem dX7_passDay_75 : decode cX7_passDay 75 = .ok (.iinc 2 1, 3) := by decide +kernel
theorem dX7_passDay_78 : decode cX7_passDay 78 = .ok (.goto (-74), 3) := by decide +kernel
theorem dX7_passDay_81 : decode cX7_passDay 81 = .ok (.aload_n 0, 1) := by decide +kernel
theorem dX7_passDay_82 : decode cX7_passDay 82 = .ok (.dup, 1) := by decide +kernel
theorem dX7_passDay_83 : decode cX7_passDay 83 = .ok (.getfield 46, 3) := by decide +kernel
theorem dX7_passDay_86 : decode cX7_passDay 86 = .ok (.iconst 1, 1) := by decide +kernel
theorem dX7_passDay_87 : decode cX7_passDay 87 = .ok (.iadd, 1) := by decide +kernel
theorem dX7_passDay_88 : decode cX7_passDay 88 = .ok (.putfield 46, 3) := by decide +kernel
theorem dX7_passDay_91 : decode cX7_passDay 91 = .ok (.iload_n 1, 1) := by decide +kernel
theorem dX7_passDay_92 : decode cX7_passDay 92 = .ok (.ireturn, 1) := by decide +kernel
def J_X7_passDay_75 (c4 : Nat → Int32 → Int32 → e_G → Option (Int32 × e_G)) (S : e_S) (l0 : Nat) (l1 : Int32) (l2 : Int32) (g : e_G) : Option (Int32 × e_G) :=
  c4 l0 l1 (l2 + (1 : Int32)) g
def L_X7_passDay_4 : Nat → e_S → Nat → Int32 → Int32 → e_G → Option (Int32 × e_G)
  | 0, _, _, _, _, _ => none
  | n + 1, S, l0, l1, l2, g =>
  (e_gI S g 7 l0 6).bind fun v1 =>
  if v1 ≤ l2 then
    (e_gI S g 7 l0 7).bind fun v3 =>
    (e_sI S g 7 l0 7 (v3 + (1 : Int32))).bind fun g5 =>
    some (l1, g5)
  else
    (e_gR S g 7 l0 5).bind fun v7 =>
    (e_aI S g 1 v7 l2).bind fun v9 =>
    if v9 = 0 then
      (e_gR S g 7 l0 2).bind fun v11 =>
      (e_gR S g 7 l0 2).bind fun v13 =>
      (e_aI S g 0 v13 l2).bind fun v15 =>
      (f_X7_leaning S l0 l2 g).bind fun q18 =>
      (f_X7_bounded S (v15 + q18.1) (0 : Int32) (99 : Int32) q18.2).bind fun q20 =>
      (e_aS S q20.2 0 v11 l2 q20.1).bind fun g21 =>
      (e_gR S g21 7 l0 2).bind fun v23 =>
      (e_aI S g21 0 v23 l2).bind fun v25 =>
      (f_X7_holding S l0 l2 g21).bind fun q28 =>
      if v25 ≤ q28.1 then
        J_X7_passDay_75 (L_X7_passDay_4 n S) S l0 l1 l2 q28.2
      else
        (e_gR S q28.2 7 l0 5).bind fun v29 =>
        (e_aS S q28.2 1 v29 l2 (1 : Int32)).bind fun g31 =>
        J_X7_passDay_75 (L_X7_passDay_4 n S) S l0 (l1 ||| ((1 : Int32) <<< (l2 &&& 31))) l2 g31
    else
      J_X7_passDay_75 (L_X7_passDay_4 n S) S l0 l1 l2 g
def f_X7_passDay (S : e_S) (l0 : Nat) (g : e_G) : Option (Int32 × e_G) :=
  if e_ob S 7 l0 = true then
    L_X7_passDay_4 50000 S l0 (0 : Int32) (0 : Int32) g
  else none
theorem x_J_X7_passDay_75 {l : Launch} {D : va_G} {S : e_S} {w : Int32} {k : e_G} (c4 : Nat → Int32 → Int32 → e_G → Option (Int32 × e_G)) (hc4 : ∀ (l0 : Nat) (l1 : Int32) (l2 : Int32) (g : e_G), c4 l0 l1 l2 g = some (w, k) → X l D (e_R 5) M_X7_passDay 0 0 4 [(0, .ref l0), (1, .int l1), (2, .int l2)] [] (S, g) (some (.int w)) (S, k)) {l0 : Nat} {l1 : Int32} {l2 : Int32} {g : e_G} (hf : J_X7_passDay_75 c4 S l0 l1 l2 g = some (w, k)) : X l D (e_R 5) M_X7_passDay 0 0 75 [(0, .ref l0), (1, .int l1), (2, .int l2)] [] (S, g) (some (.int w)) (S, k) := by
  unfold J_X7_passDay_75 at hf
  refine X.iinc (j := 2) dX7_passDay_75 rfl (v := l2 + (1 : Int32)) (by rw [kI_1]) (Nat.le_of_ble_eq_true rfl) (lc' := [(2, .int (l2 + (1 : Int32))), (0, .ref l0), (1, .int l1)]) rfl ?_
  refine X.goto dX7_passDay_78 (tgt := 4) rfl ?_
  refine X.sub [1, 2, 0] rfl ?_
  exact hc4 _ _ _ _ hf
theorem x_L_X7_passDay_4 {l : Launch} {D : va_G} {S : e_S} {w : Int32} {k : e_G} : ∀ (n : Nat) (l0 : Nat) (l1 : Int32) (l2 : Int32) (g : e_G), L_X7_passDay_4 n S l0 l1 l2 g = some (w, k) → X l D (e_R 5) M_X7_passDay 0 0 4 [(0, .ref l0), (1, .int l1), (2, .int l2)] [] (S, g) (some (.int w)) (S, k) := by
  intro n
  induction n with
  | zero =>
    intro l0 l1 l2 g hf
    cases hf
  | succ n ih =>
    intro l0 l1 l2 g hf
    rw [L_X7_passDay_4] at hf
    refine X.iload_n dX7_passDay_4 rfl (j := 2) rfl ?_
    refine X.aload_n dX7_passDay_5 rfl (j := 0) rfl ?_
    obtain ⟨v1, h2, hf⟩ := ob hf
    refine Y.getI dX7_passDay_6 fl_X7_42 rfl h2 ?_
    refine X.icmp_ge dX7_passDay_9 (tgt := 81) rfl (fun hc => ?_) (fun hc => ?_)
    · rw [if_pos hc] at hf
      refine X.aload_n dX7_passDay_81 rfl (j := 0) rfl ?_
      refine X.dup dX7_passDay_82 rfl ?_
      obtain ⟨v3, h4, hf⟩ := ob hf
      refine Y.getI dX7_passDay_83 fl_X7_46 rfl h4 ?_
      refine X.iconst dX7_passDay_86 kI_1 ?_
      refine X.iadd dX7_passDay_87 ?_
      obtain ⟨g5, h6, hf⟩ := ob hf
      refine Y.putI dX7_passDay_88 fl_X7_46 rfl rfl rfl rfl h6 ?_
      refine X.iload_n dX7_passDay_91 rfl (j := 1) rfl ?_
      obtain ⟨e1, e2⟩ := e_ret hf
      subst e1
      subst e2
      exact X.iret dX7_passDay_92 rfl rfl
    · rw [if_neg hc] at hf
      refine X.aload_n dX7_passDay_12 rfl (j := 0) rfl ?_
      obtain ⟨v7, h8, hf⟩ := ob hf
      refine Y.getR dX7_passDay_13 fl_X7_27 rfl h8 ?_
      refine X.iload_n dX7_passDay_16 rfl (j := 2) rfl ?_
      obtain ⟨v9, h10, hf⟩ := ob hf
      refine Y.zald dX7_passDay_17 h10 ?_
      refine X.if_eq dX7_passDay_18 (tgt := 24) rfl (fun hc => ?_) (fun hc => ?_)
      · rw [if_pos hc] at hf
        refine X.aload_n dX7_passDay_24 rfl (j := 0) rfl ?_
        obtain ⟨v11, h12, hf⟩ := ob hf
        refine Y.getR dX7_passDay_25 fl_X7_18 rfl h12 ?_
        refine X.iload_n dX7_passDay_28 rfl (j := 2) rfl ?_
        refine X.aload_n dX7_passDay_29 rfl (j := 0) rfl ?_
        obtain ⟨v13, h14, hf⟩ := ob hf
        refine Y.getR dX7_passDay_30 fl_X7_18 rfl h14 ?_
        refine X.iload_n dX7_passDay_33 rfl (j := 2) rfl ?_
        obtain ⟨v15, h16, hf⟩ := ob hf
        refine Y.iald dX7_passDay_34 h16 ?_
        refine X.aload_n dX7_passDay_35 rfl (j := 0) rfl ?_
        refine X.iload_n dX7_passDay_36 rfl (j := 2) rfl ?_
        obtain ⟨q18, h17, hf⟩ := ob hf
        refine Y.callV (av := [.int l2]) (ci := 7) dX7_passDay_37 (c_X7_leaning (l := l) (D := D) (w := q18.1) (k := q18.2) h17) cw_X7_128 (by decide) rfl mk_X7_leaning (o_X7_leaning (w := q18.1) (k := q18.2) h17) (e_R_ok (Nat.le_of_ble_eq_true rfl) (Nat.le_of_ble_eq_true rfl)) ⟨rfl, rfl⟩ (by simp [Value.category]) ?_
        refine X.iadd dX7_passDay_40 ?_
        refine X.iconst dX7_passDay_41 kI_0 ?_
        refine X.bipush dX7_passDay_42 kB_99 ?_
        obtain ⟨q20, h19, hf⟩ := ob hf
        refine Y.callS (av := [.int (v15 + q18.1), .int (0 : Int32), .int (99 : Int32)]) dX7_passDay_44 (c_X7_bounded (l := l) (D := D) (w := q20.1) (k := q20.2) h19) cw_X7_97 mk_X7_bounded (e_R_ok (Nat.le_of_ble_eq_true rfl) (Nat.le_of_ble_eq_true rfl)) ⟨rfl, rfl⟩ (by simp [Value.category]) ?_
        obtain ⟨g21, h22, hf⟩ := ob hf
        refine Y.iast dX7_passDay_47 h22 ?_
        refine X.aload_n dX7_passDay_48 rfl (j := 0) rfl ?_
        obtain ⟨v23, h24, hf⟩ := ob hf
        refine Y.getR dX7_passDay_49 fl_X7_18 rfl h24 ?_
        refine X.iload_n dX7_passDay_52 rfl (j := 2) rfl ?_
        obtain ⟨v25, h26, hf⟩ := ob hf
        refine Y.iald dX7_passDay_53 h26 ?_
        refine X.aload_n dX7_passDay_54 rfl (j := 0) rfl ?_
        refine X.iload_n dX7_passDay_55 rfl (j := 2) rfl ?_
        obtain ⟨q28, h27, hf⟩ := ob hf
        refine Y.callV (av := [.int l2]) (ci := 7) dX7_passDay_56 (c_X7_holding (l := l) (D := D) (w := q28.1) (k := q28.2) h27) cw_X7_130 (by decide) rfl mk_X7_holding (o_X7_holding (w := q28.1) (k := q28.2) h27) (e_R_ok (Nat.le_of_ble_eq_true rfl) (Nat.le_of_ble_eq_true rfl)) ⟨rfl, rfl⟩ (by simp [Value.category]) ?_
        refine X.icmp_le dX7_passDay_59 (tgt := 75) rfl (fun hc => ?_) (fun hc => ?_)
        · rw [if_pos hc] at hf
          exact x_J_X7_passDay_75 _ ih hf
        · rw [if_neg hc] at hf
          refine X.aload_n dX7_passDay_62 rfl (j := 0) rfl ?_
          obtain ⟨v29, h30, hf⟩ := ob hf
          refine Y.getR dX7_passDay_63 fl_X7_27 rfl h30 ?_
          refine X.iload_n dX7_passDay_66 rfl (j := 2) rfl ?_
          refine X.iconst dX7_passDay_67 kI_1 ?_
          obtain ⟨g31, h32, hf⟩ := ob hf
          refine Y.zast dX7_passDay_68 h32 ?_
          refine X.iload_n dX7_passDay_69 rfl (j := 1) rfl ?_
          refine X.iconst dX7_passDay_70 kI_1 ?_
          refine X.iload_n dX7_passDay_71 rfl (j := 2) rfl ?_
          refine X.ishl dX7_passDay_72 ?_
          refine X.ior dX7_passDay_73 ?_
          refine X.istore_n dX7_passDay_74 rfl (Nat.le_of_ble_eq_true rfl) (lc' := [(1, .int (l1 ||| ((1 : Int32) <<< (l2 &&& 31)))), (0, .ref l0), (2, .int l2)]) rfl ?_
          refine X.sub [1, 0, 2] rfl ?_
          exact x_J_X7_passDay_75 _ ih hf
      · rw [if_neg hc] at hf
        refine X.goto dX7_passDay_21 (tgt := 75) rfl ?_
        exact x_J_X7_passDay_75 _ ih hf
theorem o_X7_passDay  {S : e_S} {w : Int32} {k : e_G} {l0 : Nat} {g : e_G} (hf : f_X7_passDay S l0 g = some (w, k)) : e_ob S 7 l0 = true := by
  unfold f_X7_passDay at hf
  by_cases hc : e_ob S 7 l0 = true
  · exact hc
  · rw [if_neg hc] at hf
    cases hf
theorem c_X7_passDay {l : Launch} {D : va_G}  {S : e_S} {w : Int32} {k : e_G} {l0 : Nat} {g : e_G} (hf : f_X7_passDay S l0 g = some (w, k)) : CT l D (e_R 5) M_X7_passDay [.ref l0] (S, g) (some (.int w)) (S, k) := by
  refine CT.of (by decide +kernel) (Nat.le_of_ble_eq_true rfl) ?_
  have ho := o_X7_passDay hf
  unfold f_X7_passDay at hf
  rw [if_pos ho] at hf
  show X l D (e_R 5) M_X7_passDay 0 0 0 [(0, .ref l0)] [] (S, g) (some (.int w)) (S, k)
  refine X.iconst dX7_passDay_0 kI_0 ?_
  refine X.istore_n dX7_passDay_1 rfl (Nat.le_of_ble_eq_true rfl) (lc' := [(1, .int (0 : Int32)), (0, .ref l0)]) rfl ?_
  refine X.iconst dX7_passDay_2 kI_0 ?_
  refine X.istore_n dX7_passDay_3 rfl (Nat.le_of_ble_eq_true rfl) (lc' := [(2, .int (0 : Int32)), (1, .int (0 : Int32)), (0, .ref l0)]) rfl ?_
  refine X.sub [2, 1, 0] rfl ?_
  exact x_L_X7_passDay_4 50000 _ _ _ _ hf
/-! LeanedOut$Street.become(LLeanedOut$Street;)V -/
abbrev M_X7_become : e_M := (yX7_become, cX7_become, 3, none)
theorem mk_X7_become : e_Mok M_X7_become 1 := ⟨by decide +kernel, by decide +kernel, by decide +kernel⟩
theorem dX7_become_0 : decode cX7_become 0 = .ok (.aload_n 0, 1) := by decide +kernel
theorem dX7_become_1 : decode cX7_become 1 = .ok (.aload_n 1, 1) := by decide +kernel
theorem dX7_become_2 : decode cX7_become 2 = .ok (.getfield 42, 3) := by decide +kernel
theorem dX7_become_5 : decode cX7_become 5 = .ok (.putfield 42, 3) := by decide +kernel
theorem dX7_become_8 : decode cX7_become 8 = .ok (.aload_n 0, 1) := by decide +kernel
theorem dX7_become_9 : decode cX7_become 9 = .ok (.aload_n 1, 1) := by decide +kernel
theorem dX7_become_10 : decode cX7_become 10 = .ok (.getfield 46, 3) := by decide +kernel
theorem dX7_become_13 : decode cX7_become 13 = .ok (.putfield 46, 3) := by decide +kernel
theorem dX7_become_16 : decode cX7_become 16 = .ok (.aload_n 0, 1) := by decide +kernel
theorem dX7_become_17 : decode cX7_become 17 = .ok (.aload_n 1, 1) := by decide +kernel
theorem dX7_become_18 : decode cX7_become 18 = .ok (.getfield 49, 3) := by decide +kernel
theorem dX7_become_21 : decode cX7_become 21 = .ok (.putfield 49, 3) := by decide +kernel
theorem dX7_become_24 : decode cX7_become 24 = .ok (.iconst 0, 1) := by decide +kernel
theorem dX7_become_25 : decode cX7_become 25 = .ok (.istore_n 2, 1) := by decide +kernel
theorem dX7_become_26 : decode cX7_become 26 = .ok (.iload_n 2, 1) := by decide +kernel
theorem dX7_become_27 : decode cX7_become 27 = .ok (.aload_n 0, 1) := by decide +kernel
theorem dX7_become_28 : decode cX7_become 28 = .ok (.getfield 42, 3) := by decide +kernel
theorem dX7_become_31 : decode cX7_become 31 = .ok (.if_icmp .ge 81, 3) := by decide +kernel
theorem dX7_become_34 : decode cX7_become 34 = .ok (.aload_n 0, 1) := by decide +kernel
theorem dX7_become_35 : decode cX7_become 35 = .ok (.getfield 9, 3) := by decide +kernel
theorem dX7_become_38 : decode cX7_become 38 = .ok (.iload_n 2, 1) := by decide +kernel
theorem dX7_become_39 : decode cX7_become 39 = .ok (.aload_n 1, 1) := by decide +kernel
theorem dX7_become_40 : decode cX7_become 40 = .ok (.getfield 9, 3) := by decide +kernel
theorem dX7_become_43 : decode cX7_become 43 = .ok (.iload_n 2, 1) := by decide +kernel
theorem dX7_become_44 : decode cX7_become 44 = .ok (.iaload, 1) := by decide +kernel
theorem dX7_become_45 : decode cX7_become 45 = .ok (.iastore, 1) := by decide +kernel
theorem dX7_become_46 : decode cX7_become 46 = .ok (.aload_n 0, 1) := by decide +kernel
theorem dX7_become_47 : decode cX7_become 47 = .ok (.getfield 15, 3) := by decide +kernel
theorem dX7_become_50 : decode cX7_become 50 = .ok (.iload_n 2, 1) := by decide +kernel
theorem dX7_become_51 : decode cX7_become 51 = .ok (.aload_n 1, 1) := by decide +kernel
theorem dX7_become_52 : decode cX7_become 52 = .ok (.getfield 15, 3) := by decide +kernel
theorem dX7_become_55 : decode cX7_become 55 = .ok (.iload_n 2, 1) := by decide +kernel
theorem dX7_become_56 : decode cX7_become 56 = .ok (.iaload, 1) := by decide +kernel
theorem dX7_become_57 : decode cX7_become 57 = .ok (.iastore, 1) := by decide +kernel
theorem dX7_become_58 : decode cX7_become 58 = .ok (.aload_n 0, 1) := by decide +kernel
theorem dX7_become_59 : decode cX7_become 59 = .ok (.getfield 18, 3) := by decide +kernel
theorem dX7_become_62 : decode cX7_become 62 = .ok (.iload_n 2, 1) := by decide +kernel
theorem dX7_become_63 : decode cX7_become 63 = .ok (.aload_n 1, 1) := by decide +kernel
theorem dX7_become_64 : decode cX7_become 64 = .ok (.getfield 18, 3) := by decide +kernel
theorem dX7_become_67 : decode cX7_become 67 = .ok (.iload_n 2, 1) := by decide +kernel
theorem dX7_become_68 : decode cX7_become 68 = .ok (.iaload, 1) := by decide +kernel
theorem dX7_become_69 : decode cX7_become 69 = .ok (.iastore, 1) := by decide +kernel
theorem dX7_become_70 : decode cX7_become 70 = .ok (.aload_n 0, 1) := by decide +kernel
theorem dX7_become_71 : decode cX7_become 71 = .ok (.getfield 21, 3) := by decide +kernel
theorem dX7_become_74 : decode cX7_become 74 = .ok (.iload_n 2, 1) := by decide +kernel
theorem dX7_become_75 : decode cX7_become 75 = .ok (.aload_n 1, 1) := by decide +kernel
theorem dX7_become_76 : decode cX7_become 76 = .ok (.getfield 21, 3) := by decide +kernel
theorem dX7_become_79 : decode cX7_become 79 = .ok (.iload_n 2, 1) := by decide +kernel
theorem dX7_become_80 : decode cX7_become 80 = .ok (.iaload, 1) := by decide +kernel
theorem dX7_become_81 : decode cX7_become 81 = .ok (.iastore, 1) := by decide +kernel
theorem dX7_become_82 : decode cX7_become 82 = .ok (.aload_n 0, 1) := by decide +kernel
theorem dX7_become_83 : decode cX7_become 83 = .ok (.getfield 24, 3) := by decide +kernel
theorem dX7_become_86 : decode cX7_become 86 = .ok (.iload_n 2, 1) := by decide +kernel
theorem dX7_become_87 : decode cX7_become 87 = .ok (.aload_n 1, 1) := by decide +kernel
theorem dX7_become_88 : decode cX7_become 88 = .ok (.getfield 24, 3) := by decide +kernel
theorem dX7_become_91 : decode cX7_become 91 = .ok (.iload_n 2, 1) := by decide +kernel
theorem dX7_become_92 : decode cX7_become 92 = .ok (.iaload, 1) := by decide +kernel
theorem dX7_become_93 : decode cX7_become 93 = .ok (.iastore, 1) := by decide +kernel
theorem dX7_become_94 : decode cX7_become 94 = .ok (.aload_n 0, 1) := by decide +kernel
theorem dX7_become_95 : decode cX7_become 95 = .ok (.getfield 27, 3) := by decide +kernel
theorem dX7_become_98 : decode cX7_become 98 = .ok (.iload_n 2, 1) := by decide +kernel
theorem dX7_become_99 : decode cX7_become 99 = .ok (.aload_n 1, 1) := by decide +kernel
theorem dX7_become_100 : decode cX7_become 100 = .ok (.getfield 27, 3) := by decide +kernel
theorem dX7_become_103 : decode cX7_become 103 = .ok (.iload_n 2, 1) := by decide +kernel
theorem dX7_become_104 : decode cX7_become 104 = .ok (.baload, 1) := by decide +kernel
theorem dX7_become_105 : decode cX7_become 105 = .ok (.bastore, 1) := by decide +kernel
theorem dX7_become_106 : decode cX7_become 106 = .ok (.iinc 2 1, 3) := by decide +kernel
theorem dX7_become_109 : decode cX7_become 109 = .ok (.goto (-83), 3) := by decide +kernel
theorem dX7_become_112 : decode cX7_become 112 = .ok (.return_, 1) := by decide +kernel
def L_X7_become_26 : Nat → e_S → Nat → Nat → Int32 → e_G → Option (e_G)
  | 0, _, _, _, _, _ => none
  | n + 1, S, l0, l1, l2, g =>
  (e_gI S g 7 l0 6).bind fun v1 =>
  if v1 ≤ l2 then
    some g
  else
    (e_gR S g 7 l0 0).bind fun v3 =>
    (e_gR S g 7 l1 0).bind fun v5 =>
    (e_aI S g 0 v5 l2).bind fun v7 =>
    (e_aS S g 0 v3 l2 v7).bind fun g9 =>
    (e_gR S g9 7 l0 1).bind fun v11 =>
    (e_gR S g9 7 l1 1).bind fun v13 =>
    (e_aI S g9 0 v13 l2).bind fun v15 =>
    (e_aS S g9 0 v11 l2 v15).bind fun g17 =>
    (e_gR S g17 7 l0 2).bind fun v19 =>
    (e_gR S g17 7 l1 2).bind fun v21 =>
    (e_aI S g17 0 v21 l2).bind fun v23 =>
    (e_aS S g17 0 v19 l2 v23).bind fun g25 =>
    (e_gR S g25 7 l0 3).bind fun v27 =>
    (e_gR S g25 7 l1 3).bind fun v29 =>
    (e_aI S g25 0 v29 l2).bind fun v31 =>
    (e_aS S g25 0 v27 l2 v31).bind fun g33 =>
    (e_gR S g33 7 l0 4).bind fun v35 =>
    (e_gR S g33 7 l1 4).bind fun v37 =>
    (e_aI S g33 0 v37 l2).bind fun v39 =>
    (e_aS S g33 0 v35 l2 v39).bind fun g41 =>
    (e_gR S g41 7 l0 5).bind fun v43 =>
    (e_gR S g41 7 l1 5).bind fun v45 =>
    (e_aI S g41 1 v45 l2).bind fun v47 =>
    (e_aS S g41 1 v43 l2 v47).bind fun g49 =>
    L_X7_become_26 n S l0 l1 (l2 + (1 : Int32)) g49
def f_X7_become (S : e_S) (l0 : Nat) (l1 : Nat) (g : e_G) : Option (e_G) :=
  if e_ob S 7 l0 = true then
    (e_gI S g 7 l1 6).bind fun v1 =>
    (e_sI S g 7 l0 6 v1).bind fun g3 =>
    (e_gI S g3 7 l1 7).bind fun v5 =>
    (e_sI S g3 7 l0 7 v5).bind fun g7 =>
    (e_gI S g7 7 l1 8).bind fun v9 =>
    (e_sI S g7 7 l0 8 v9).bind fun g11 =>
    L_X7_become_26 50000 S l0 l1 (0 : Int32) g11
  else none
theorem x_L_X7_become_26 {l : Launch} {D : va_G} {S : e_S} {k : e_G} : ∀ (n : Nat) (l0 : Nat) (l1 : Nat) (l2 : Int32) (g : e_G), L_X7_become_26 n S l0 l1 l2 g = some k → X l D (e_R 1) M_X7_become 0 0 26 [(0, .ref l0), (1, .ref l1), (2, .int l2)] [] (S, g) none (S, k) := by
  intro n
  induction n with
  | zero =>
    intro l0 l1 l2 g hf
    cases hf
  | succ n ih =>
    intro l0 l1 l2 g hf
    rw [L_X7_become_26] at hf
    refine X.iload_n dX7_become_26 rfl (j := 2) rfl ?_
    refine X.aload_n dX7_become_27 rfl (j := 0) rfl ?_
    obtain ⟨v1, h2, hf⟩ := ob hf
    refine Y.getI dX7_become_28 fl_X7_42 rfl h2 ?_
    refine X.icmp_ge dX7_become_31 (tgt := 112) rfl (fun hc => ?_) (fun hc => ?_)
    · rw [if_pos hc] at hf
      have e1 := Option.some.inj hf
      subst e1
      exact X.vret dX7_become_112 rfl
    · rw [if_neg hc] at hf
      refine X.aload_n dX7_become_34 rfl (j := 0) rfl ?_
      obtain ⟨v3, h4, hf⟩ := ob hf
      refine Y.getR dX7_become_35 fl_X7_9 rfl h4 ?_
      refine X.iload_n dX7_become_38 rfl (j := 2) rfl ?_
      refine X.aload_n dX7_become_39 rfl (j := 1) rfl ?_
      obtain ⟨v5, h6, hf⟩ := ob hf
      refine Y.getR dX7_become_40 fl_X7_9 rfl h6 ?_
      refine X.iload_n dX7_become_43 rfl (j := 2) rfl ?_
      obtain ⟨v7, h8, hf⟩ := ob hf
      refine Y.iald dX7_become_44 h8 ?_
      obtain ⟨g9, h10, hf⟩ := ob hf
      refine Y.iast dX7_become_45 h10 ?_
      refine X.aload_n dX7_become_46 rfl (j := 0) rfl ?_
      obtain ⟨v11, h12, hf⟩ := ob hf
      refine Y.getR dX7_become_47 fl_X7_15 rfl h12 ?_
      refine X.iload_n dX7_become_50 rfl (j := 2) rfl ?_
      refine X.aload_n dX7_become_51 rfl (j := 1) rfl ?_
      obtain ⟨v13, h14, hf⟩ := ob hf
      refine Y.getR dX7_become_52 fl_X7_15 rfl h14 ?_
      refine X.iload_n dX7_become_55 rfl (j := 2) rfl ?_
      obtain ⟨v15, h16, hf⟩ := ob hf
      refine Y.iald dX7_become_56 h16 ?_
      obtain ⟨g17, h18, hf⟩ := ob hf
      refine Y.iast dX7_become_57 h18 ?_
      refine X.aload_n dX7_become_58 rfl (j := 0) rfl ?_
      obtain ⟨v19, h20, hf⟩ := ob hf
      refine Y.getR dX7_become_59 fl_X7_18 rfl h20 ?_
      refine X.iload_n dX7_become_62 rfl (j := 2) rfl ?_
      refine X.aload_n dX7_become_63 rfl (j := 1) rfl ?_
      obtain ⟨v21, h22, hf⟩ := ob hf
      refine Y.getR dX7_become_64 fl_X7_18 rfl h22 ?_
      refine X.iload_n dX7_become_67 rfl (j := 2) rfl ?_
      obtain ⟨v23, h24, hf⟩ := ob hf
      refine Y.iald dX7_become_68 h24 ?_
      obtain ⟨g25, h26, hf⟩ := ob hf
      refine Y.iast dX7_become_69 h26 ?_
      refine X.aload_n dX7_become_70 rfl (j := 0) rfl ?_
      obtain ⟨v27, h28, hf⟩ := ob hf
      refine Y.getR dX7_become_71 fl_X7_21 rfl h28 ?_
      refine X.iload_n dX7_become_74 rfl (j := 2) rfl ?_
      refine X.aload_n dX7_become_75 rfl (j := 1) rfl ?_
      obtain ⟨v29, h30, hf⟩ := ob hf
      refine Y.getR dX7_become_76 fl_X7_21 rfl h30 ?_
      refine X.iload_n dX7_become_79 rfl (j := 2) rfl ?_
      obtain ⟨v31, h32, hf⟩ := ob hf
      refine Y.iald dX7_become_80 h32 ?_
      obtain ⟨g33, h34, hf⟩ := ob hf
      refine Y.iast dX7_become_81 h34 ?_
      refine X.aload_n dX7_become_82 rfl (j := 0) rfl ?_
      obtain ⟨v35, h36, hf⟩ := ob hf
      refine Y.getR dX7_become_83 fl_X7_24 rfl h36 ?_
      refine X.iload_n dX7_become_86 rfl (j := 2) rfl ?_
      refine X.aload_n dX7_become_87 rfl (j := 1) rfl ?_
      obtain ⟨v37, h38, hf⟩ := ob hf
      refine Y.getR dX7_become_88 fl_X7_24 rfl h38 ?_
      refine X.iload_n dX7_become_91 rfl (j := 2) rfl ?_
      obtain ⟨v39, h40, hf⟩ := ob hf
      refine Y.iald dX7_become_92 h40 ?_
      obtain ⟨g41, h42, hf⟩ := ob hf
      refine Y.iast dX7_become_93 h42 ?_
      refine X.aload_n dX7_become_94 rfl (j := 0) rfl ?_
      obtain ⟨v43, h44, hf⟩ := ob hf
      refine Y.getR dX7_become_95 fl_X7_27 rfl h44 ?_
      refine X.iload_n dX7_become_98 rfl (j := 2) rfl ?_
      refine X.aload_n dX7_become_99 rfl (j := 1) rfl ?_
      obtain ⟨v45, h46, hf⟩ := ob hf
      refine Y.getR dX7_become_100 fl_X7_27 rfl h46 ?_
      refine X.iload_n dX7_become_103 rfl (j := 2) rfl ?_
      obtain ⟨v47, h48, hf⟩ := ob hf
      refine Y.zald dX7_become_104 h48 ?_
      obtain ⟨g49, h50, hf⟩ := ob hf
      refine Y.zast dX7_become_105 h50 ?_
      refine X.iinc (j := 2) dX7_become_106 rfl (v := l2 + (1 : Int32)) (by rw [kI_1]) (Nat.le_of_ble_eq_true rfl) (lc' := [(2, .int (l2 + (1 : Int32))), (0, .ref l0), (1, .ref l1)]) rfl ?_
      refine X.goto dX7_become_109 (tgt := 26) rfl ?_
      refine X.sub [1, 2, 0] rfl ?_
      exact ih _ _ _ _ hf
theorem o_X7_become  {S : e_S} {k : e_G} {l0 : Nat} {l1 : Nat} {g : e_G} (hf : f_X7_become S l0 l1 g = some k) : e_ob S 7 l0 = true := by
  unfold f_X7_become at hf
  by_cases hc : e_ob S 7 l0 = true
  · exact hc
  · rw [if_neg hc] at hf
    cases hf
theorem c_X7_become {l : Launch} {D : va_G}  {S : e_S} {k : e_G} {l0 : Nat} {l1 : Nat} {g : e_G} (hf : f_X7_become S l0 l1 g = some k) : CT l D (e_R 1) M_X7_become [.ref l0, .ref l1] (S, g) none (S, k) := by
  refine CT.of (by decide +kernel) (Nat.le_of_ble_eq_true rfl) ?_
  have ho := o_X7_become hf
  unfold f_X7_become at hf
  rw [if_pos ho] at hf
  show X l D (e_R 1) M_X7_become 0 0 0 [(0, .ref l0), (1, .ref l1)] [] (S, g) none (S, k)
  refine X.aload_n dX7_become_0 rfl (j := 0) rfl ?_
  refine X.aload_n dX7_become_1 rfl (j := 1) rfl ?_
  obtain ⟨v1, h2, hf⟩ := ob hf
  refine Y.getI dX7_become_2 fl_X7_42 rfl h2 ?_
  obtain ⟨g3, h4, hf⟩ := ob hf
  refine Y.putI dX7_become_5 fl_X7_42 rfl rfl rfl rfl h4 ?_
  refine X.aload_n dX7_become_8 rfl (j := 0) rfl ?_
  refine X.aload_n dX7_become_9 rfl (j := 1) rfl ?_
  obtain ⟨v5, h6, hf⟩ := ob hf
  refine Y.getI dX7_become_10 fl_X7_46 rfl h6 ?_
  obtain ⟨g7, h8, hf⟩ := ob hf
  refine Y.putI dX7_become_13 fl_X7_46 rfl rfl rfl rfl h8 ?_
  refine X.aload_n dX7_become_16 rfl (j := 0) rfl ?_
  refine X.aload_n dX7_become_17 rfl (j := 1) rfl ?_
  obtain ⟨v9, h10, hf⟩ := ob hf
  refine Y.getI dX7_become_18 fl_X7_49 rfl h10 ?_
  obtain ⟨g11, h12, hf⟩ := ob hf
  refine Y.putI dX7_become_21 fl_X7_49 rfl rfl rfl rfl h12 ?_
  refine X.iconst dX7_become_24 kI_0 ?_
  refine X.istore_n dX7_become_25 rfl (Nat.le_of_ble_eq_true rfl) (lc' := [(2, .int (0 : Int32)), (0, .ref l0), (1, .ref l1)]) rfl ?_
  refine X.sub [1, 2, 0] rfl ?_
  exact x_L_X7_become_26 50000 _ _ _ _ hf
/-! LeanedOut$Sheet.isMissing()Z -/
abbrev M_X6_isMissing : e_M := (yX6_isMissing, cX6_isMissing, 1, (some .boolean))
theorem mk_X6_isMissing : e_Mok M_X6_isMissing 0 := ⟨by decide +kernel, by decide +kernel, by decide +kernel⟩
theorem dX6_isMissing_0 : decode cX6_isMissing 0 = .ok (.aload_n 0, 1) := by decide +kernel
theorem dX6_isMissing_1 : decode cX6_isMissing 1 = .ok (.getfield 15, 3) := by decide +kernel
theorem dX6_isMissing_4 : decode cX6_isMissing 4 = .ok (.iconst (-1), 1) := by decide +kernel
theorem dX6_isMissing_5 : decode cX6_isMissing 5 = .ok (.if_icmp .ne 7, 3) := by decide +kernel
theorem dX6_isMissing_8 : decode cX6_isMissing 8 = .ok (.iconst 1, 1) := by decide +kernel
theorem dX6_isMissing_9 : decode cX6_isMissing 9 = .ok (.goto 4, 3) := by decide +kernel
theorem dX6_isMissing_12 : decode cX6_isMissing 12 = .ok (.iconst 0, 1) := by decide +kernel
theorem dX6_isMissing_13 : decode cX6_isMissing 13 = .ok (.ireturn, 1) := by decide +kernel
def f_X6_isMissing (S : e_S) (l0 : Nat) (g : e_G) : Option (Int32 × e_G) :=
  if e_ob S 6 l0 = true then
    (e_gI S g 6 l0 1).bind fun v1 =>
    if v1 = (-1 : Int32) then
      some ((1 : Int32), g)
    else
      some ((0 : Int32), g)
  else none
theorem o_X6_isMissing  {S : e_S} {w : Int32} {k : e_G} {l0 : Nat} {g : e_G} (hf : f_X6_isMissing S l0 g = some (w, k)) : e_ob S 6 l0 = true := by
  unfold f_X6_isMissing at hf
  by_cases hc : e_ob S 6 l0 = true
  · exact hc
  · rw [if_neg hc] at hf
    cases hf
theorem c_X6_isMissing {l : Launch} {D : va_G}  {S : e_S} {w : Int32} {k : e_G} {l0 : Nat} {g : e_G} (hf : f_X6_isMissing S l0 g = some (w, k)) : CT l D (e_R 1) M_X6_isMissing [.ref l0] (S, g) (some (.int w)) (S, k) := by
  refine CT.of (by decide +kernel) (Nat.le_of_ble_eq_true rfl) ?_
  have ho := o_X6_isMissing hf
  unfold f_X6_isMissing at hf
  rw [if_pos ho] at hf
  show X l D (e_R 1) M_X6_isMissing 0 0 0 [(0, .ref l0)] [] (S, g) (some (.int w)) (S, k)
  refine X.aload_n dX6_isMissing_0 rfl (j := 0) rfl ?_
  obtain ⟨v1, h2, hf⟩ := ob hf
  refine Y.getI dX6_isMissing_1 fl_X6_15 rfl h2 ?_
  refine X.iconst dX6_isMissing_4 kI_m1 ?_
  refine X.icmp_ne dX6_isMissing_5 (tgt := 12) rfl (fun hc => ?_) (fun hc => ?_)
  · rw [if_neg hc] at hf
    refine X.iconst dX6_isMissing_12 kI_0 ?_
    obtain ⟨e1, e2⟩ := e_ret hf
    subst e1
    subst e2
    exact X.iret dX6_isMissing_13 rfl rfl
  · rw [if_pos hc] at hf
    refine X.iconst dX6_isMissing_8 kI_1 ?_
    refine X.goto dX6_isMissing_9 (tgt := 13) rfl ?_
    obtain ⟨e1, e2⟩ := e_ret hf
    subst e1
    subst e2
    exact X.iret dX6_isMissing_13 rfl rfl
/-! LeanedOut$Sheet.become(II)V -/
abbrev M_X6_become : e_M := (yX6_become, cX6_become, 4, none)
theorem mk_X6_become : e_Mok M_X6_become 2 := ⟨by decide +kernel, by decide +kernel, by decide +kernel⟩
theorem dX6_become_0 : decode cX6_become 0 = .ok (.aload_n 0, 1) := by decide +kernel
theorem dX6_become_1 : decode cX6_become 1 = .ok (.iload_n 1, 1) := by decide +kernel
theorem dX6_become_2 : decode cX6_become 2 = .ok (.putfield 15, 3) := by decide +kernel
theorem dX6_become_5 : decode cX6_become 5 = .ok (.aload_n 0, 1) := by decide +kernel
theorem dX6_become_6 : decode cX6_become 6 = .ok (.iconst 0, 1) := by decide +kernel
theorem dX6_become_7 : decode cX6_become 7 = .ok (.bipush 40, 2) := by decide +kernel
theorem dX6_become_9 : decode cX6_become 9 = .ok (.iload_n 2, 1) := by decide +kernel
theorem dX6_become_10 : decode cX6_become 10 = .ok (.invokestatic 19, 3) := by decide +kernel
theorem dX6_become_13 : decode cX6_become 13 = .ok (.invokestatic 25, 3) := by decide +kernel
theorem dX6_become_16 : decode cX6_become 16 = .ok (.putfield 28, 3) := by decide +kernel
theorem dX6_become_19 : decode cX6_become 19 = .ok (.iconst 0, 1) := by decide +kernel
theorem dX6_become_20 : decode cX6_become 20 = .ok (.istore_n 3, 1) := by decide +kernel
theorem dX6_become_21 : decode cX6_become 21 = .ok (.iload_n 3, 1) := by decide +kernel
theorem dX6_become_22 : decode cX6_become 22 = .ok (.aload_n 0, 1) := by decide +kernel
theorem dX6_become_23 : decode cX6_become 23 = .ok (.getfield 28, 3) := by decide +kernel
theorem dX6_become_26 : decode cX6_become 26 = .ok (.if_icmp .ge 16, 3) := by decide +kernel
theorem dX6_become_29 : decode cX6_become 29 = .ok (.aload_n 0, 1) := by decide +kernel
theorem dX6_become_30 : decode cX6_become 30 = .ok (.getfield 9, 3) := by decide +kernel
theorem dX6_become_33 : decode cX6_become 33 = .ok (.iload_n 3, 1) := by decide +kernel
theorem dX6_become_34 : decode cX6_become 34 = .ok (.iconst 0, 1) := by decide +kernel
theorem dX6_become_35 : decode cX6_become 35 = .ok (.iastore, 1) := by decide +kernel
theorem dX6_become_36 : decode cX6_become 36 = .ok (.iinc 3 1, 3) := by decide +kernel
theorem dX6_become_39 : decode cX6_become 39 = .ok (.goto (-18), 3) := by decide +kernel
theorem dX6_become_42 : decode cX6_become 42 = .ok (.return_, 1) := by decide +kernel
def L_X6_become_21 : Nat → e_S → Nat → Int32 → e_G → Option (e_G)
  | 0, _, _, _, _ => none
  | n + 1, S, l0, l3, g =>
  (e_gI S g 6 l0 2).bind fun v1 =>
  if v1 ≤ l3 then
    some g
  else
    (e_gR S g 6 l0 0).bind fun v3 =>
    (e_aS S g 0 v3 l3 (0 : Int32)).bind fun g5 =>
    L_X6_become_21 n S l0 (l3 + (1 : Int32)) g5
def f_X6_become (S : e_S) (l0 : Nat) (l1 : Int32) (l2 : Int32) (g : e_G) : Option (e_G) :=
  if e_ob S 6 l0 = true then
    (e_sI S g 6 l0 1 l1).bind fun g1 =>
    (e_sI S g1 6 l0 2 (i_max (0 : Int32) (i_min (40 : Int32) l2))).bind fun g5 =>
    L_X6_become_21 50000 S l0 (0 : Int32) g5
  else none
theorem x_L_X6_become_21 {l : Launch} {D : va_G} {S : e_S} {k : e_G} : ∀ (n : Nat) (l0 : Nat) (l3 : Int32) (g : e_G), L_X6_become_21 n S l0 l3 g = some k → X l D (e_R 1) M_X6_become 0 0 21 [(0, .ref l0), (3, .int l3)] [] (S, g) none (S, k) := by
  intro n
  induction n with
  | zero =>
    intro l0 l3 g hf
    cases hf
  | succ n ih =>
    intro l0 l3 g hf
    rw [L_X6_become_21] at hf
    refine X.iload_n dX6_become_21 rfl (j := 1) rfl ?_
    refine X.aload_n dX6_become_22 rfl (j := 0) rfl ?_
    obtain ⟨v1, h2, hf⟩ := ob hf
    refine Y.getI dX6_become_23 fl_X6_28 rfl h2 ?_
    refine X.icmp_ge dX6_become_26 (tgt := 42) rfl (fun hc => ?_) (fun hc => ?_)
    · rw [if_pos hc] at hf
      have e1 := Option.some.inj hf
      subst e1
      exact X.vret dX6_become_42 rfl
    · rw [if_neg hc] at hf
      refine X.aload_n dX6_become_29 rfl (j := 0) rfl ?_
      obtain ⟨v3, h4, hf⟩ := ob hf
      refine Y.getR dX6_become_30 fl_X6_9 rfl h4 ?_
      refine X.iload_n dX6_become_33 rfl (j := 1) rfl ?_
      refine X.iconst dX6_become_34 kI_0 ?_
      obtain ⟨g5, h6, hf⟩ := ob hf
      refine Y.iast dX6_become_35 h6 ?_
      refine X.iinc (j := 1) dX6_become_36 rfl (v := l3 + (1 : Int32)) (by rw [kI_1]) (Nat.le_of_ble_eq_true rfl) (lc' := [(3, .int (l3 + (1 : Int32))), (0, .ref l0)]) rfl ?_
      refine X.goto dX6_become_39 (tgt := 21) rfl ?_
      refine X.sub [1, 0] rfl ?_
      exact ih _ _ _ hf
theorem o_X6_become  {S : e_S} {k : e_G} {l0 : Nat} {l1 : Int32} {l2 : Int32} {g : e_G} (hf : f_X6_become S l0 l1 l2 g = some k) : e_ob S 6 l0 = true := by
  unfold f_X6_become at hf
  by_cases hc : e_ob S 6 l0 = true
  · exact hc
  · rw [if_neg hc] at hf
    cases hf
theorem c_X6_become {l : Launch} {D : va_G}  {S : e_S} {k : e_G} {l0 : Nat} {l1 : Int32} {l2 : Int32} {g : e_G} (hf : f_X6_become S l0 l1 l2 g = some k) : CT l D (e_R 1) M_X6_become [.ref l0, .int l1, .int l2] (S, g) none (S, k) := by
  refine CT.of (by decide +kernel) (Nat.le_of_ble_eq_true rfl) ?_
  have ho := o_X6_become hf
  unfold f_X6_become at hf
  rw [if_pos ho] at hf
  show X l D (e_R 1) M_X6_become 0 0 0 [(0, .ref l0), (1, .int l1), (2, .int l2)] [] (S, g) none (S, k)
  refine X.aload_n dX6_become_0 rfl (j := 0) rfl ?_
  refine X.iload_n dX6_become_1 rfl (j := 1) rfl ?_
  obtain ⟨g1, h2, hf⟩ := ob hf
  refine Y.putI dX6_become_2 fl_X6_15 rfl rfl rfl rfl h2 ?_
  refine X.aload_n dX6_become_5 rfl (j := 0) rfl ?_
  refine X.iconst dX6_become_6 kI_0 ?_
  refine X.bipush dX6_become_7 kB_40 ?_
  refine X.iload_n dX6_become_9 rfl (j := 2) rfl ?_
  refine Y.mmin dX6_become_10 ww_845 ww_325 ww_88 ww_326 ⟨Nat.le_of_ble_eq_true rfl, Nat.le_of_ble_eq_true rfl⟩ (by simp [Value.category]) ?_
  refine Y.mmax dX6_become_13 ww_846 ww_538 ww_88 ww_539 ⟨Nat.le_of_ble_eq_true rfl, Nat.le_of_ble_eq_true rfl⟩ (by simp [Value.category]) ?_
  obtain ⟨g5, h6, hf⟩ := ob hf
  refine Y.putI dX6_become_16 fl_X6_28 rfl rfl rfl rfl h6 ?_
  refine X.iconst dX6_become_19 kI_0 ?_
  refine X.istore_n dX6_become_20 rfl (Nat.le_of_ble_eq_true rfl) (lc' := [(3, .int (0 : Int32)), (0, .ref l0), (1, .int l1), (2, .int l2)]) rfl ?_
  refine X.sub [1, 0] rfl ?_
  exact x_L_X6_become_21 50000 _ _ _ hf
/-! LeanedOut$Sheet.has(I)Z -/
abbrev M_X6_has : e_M := (yX6_has, cX6_has, 2, (some .boolean))
theorem mk_X6_has : e_Mok M_X6_has 1 := ⟨by decide +kernel, by decide +kernel, by decide +kernel⟩
theorem dX6_has_0 : decode cX6_has 0 = .ok (.iload_n 1, 1) := by decide +kernel
theorem dX6_has_1 : decode cX6_has 1 = .ok (.ifCond .lt 15, 3) := by decide +kernel
theorem dX6_has_4 : decode cX6_has 4 = .ok (.iload_n 1, 1) := by decide +kernel
theorem dX6_has_5 : decode cX6_has 5 = .ok (.aload_n 0, 1) := by decide +kernel
theorem dX6_has_6 : decode cX6_has 6 = .ok (.getfield 28, 3) := by decide +kernel
theorem dX6_has_9 : decode cX6_has 9 = .ok (.if_icmp .ge 7, 3) := by decide +kernel
theorem dX6_has_12 : decode cX6_has 12 = .ok (.iconst 1, 1) := by decide +kernel
theorem dX6_has_13 : decode cX6_has 13 = .ok (.goto 4, 3) := by decide +kernel
theorem dX6_has_16 : decode cX6_has 16 = .ok (.iconst 0, 1) := by decide +kernel
theorem dX6_has_17 : decode cX6_has 17 = .ok (.ireturn, 1) := by decide +kernel
def f_X6_has (S : e_S) (l0 : Nat) (l1 : Int32) (g : e_G) : Option (Int32 × e_G) :=
  if e_ob S 6 l0 = true then
    if l1 < 0 then
      some ((0 : Int32), g)
    else
      (e_gI S g 6 l0 2).bind fun v1 =>
      if v1 ≤ l1 then
        some ((0 : Int32), g)
      else
        some ((1 : Int32), g)
  else none
theorem o_X6_has  {S : e_S} {w : Int32} {k : e_G} {l0 : Nat} {l1 : Int32} {g : e_G} (hf : f_X6_has S l0 l1 g = some (w, k)) : e_ob S 6 l0 = true := by
  unfold f_X6_has at hf
  by_cases hc : e_ob S 6 l0 = true
  · exact hc
  · rw [if_neg hc] at hf
    cases hf
theorem c_X6_has {l : Launch} {D : va_G}  {S : e_S} {w : Int32} {k : e_G} {l0 : Nat} {l1 : Int32} {g : e_G} (hf : f_X6_has S l0 l1 g = some (w, k)) : CT l D (e_R 1) M_X6_has [.ref l0, .int l1] (S, g) (some (.int w)) (S, k) := by
  refine CT.of (by decide +kernel) (Nat.le_of_ble_eq_true rfl) ?_
  have ho := o_X6_has hf
  unfold f_X6_has at hf
  rw [if_pos ho] at hf
  show X l D (e_R 1) M_X6_has 0 0 0 [(0, .ref l0), (1, .int l1)] [] (S, g) (some (.int w)) (S, k)
  refine X.iload_n dX6_has_0 rfl (j := 1) rfl ?_
  refine X.if_lt dX6_has_1 (tgt := 16) rfl (fun hc => ?_) (fun hc => ?_)
  · rw [if_pos hc] at hf
    refine X.iconst dX6_has_16 kI_0 ?_
    obtain ⟨e1, e2⟩ := e_ret hf
    subst e1
    subst e2
    exact X.iret dX6_has_17 rfl rfl
  · rw [if_neg hc] at hf
    refine X.iload_n dX6_has_4 rfl (j := 1) rfl ?_
    refine X.aload_n dX6_has_5 rfl (j := 0) rfl ?_
    obtain ⟨v1, h2, hf⟩ := ob hf
    refine Y.getI dX6_has_6 fl_X6_28 rfl h2 ?_
    refine X.icmp_ge dX6_has_9 (tgt := 16) rfl (fun hc => ?_) (fun hc => ?_)
    · rw [if_pos hc] at hf
      refine X.iconst dX6_has_16 kI_0 ?_
      obtain ⟨e1, e2⟩ := e_ret hf
      subst e1
      subst e2
      exact X.iret dX6_has_17 rfl rfl
    · rw [if_neg hc] at hf
      refine X.iconst dX6_has_12 kI_1 ?_
      refine X.goto dX6_has_13 (tgt := 17) rfl ?_
      obtain ⟨e1, e2⟩ := e_ret hf
      subst e1
      subst e2
      exact X.iret dX6_has_17 rfl rfl
/-! LeanedOut$Sheet.hasRow(II)Z -/
abbrev M_X6_hasRow : e_M := (yX6_hasRow, cX6_hasRow, 3, (some .boolean))
theorem mk_X6_hasRow : e_Mok M_X6_hasRow 2 := ⟨by decide +kernel, by decide +kernel, by decide +kernel⟩
theorem dX6_hasRow_0 : decode cX6_hasRow 0 = .ok (.iload_n 2, 1) := by decide +kernel
theorem dX6_hasRow_1 : decode cX6_hasRow 1 = .ok (.ifCond .lt 29, 3) := by decide +kernel
theorem dX6_hasRow_4 : decode cX6_hasRow 4 = .ok (.iload_n 2, 1) := by decide +kernel
theorem dX6_hasRow_5 : decode cX6_hasRow 5 = .ok (.aload_n 0, 1) := by decide +kernel
theorem dX6_hasRow_6 : decode cX6_hasRow 6 = .ok (.getfield 28, 3) := by decide +kernel
theorem dX6_hasRow_9 : decode cX6_hasRow 9 = .ok (.if_icmp .gt 21, 3) := by decide +kernel
theorem dX6_hasRow_12 : decode cX6_hasRow 12 = .ok (.iload_n 1, 1) := by decide +kernel
theorem dX6_hasRow_13 : decode cX6_hasRow 13 = .ok (.ifCond .lt 17, 3) := by decide +kernel
theorem dX6_hasRow_16 : decode cX6_hasRow 16 = .ok (.iload_n 1, 1) := by decide +kernel
theorem dX6_hasRow_17 : decode cX6_hasRow 17 = .ok (.aload_n 0, 1) := by decide +kernel
theorem dX6_hasRow_18 : decode cX6_hasRow 18 = .ok (.getfield 28, 3) := by decide +kernel
theorem dX6_hasRow_21 : decode cX6_hasRow 21 = .ok (.iload_n 2, 1) := by decide +kernel
theorem dX6_hasRow_22 : decode cX6_hasRow 22 = .ok (.isub, 1) := by decide +kernel
theorem dX6_hasRow_23 : decode cX6_hasRow 23 = .ok (.if_icmp .gt 7, 3) := by decide +kernel
theorem dX6_hasRow_26 : decode cX6_hasRow 26 = .ok (.iconst 1, 1) := by decide +kernel
theorem dX6_hasRow_27 : decode cX6_hasRow 27 = .ok (.goto 4, 3) := by decide +kernel
theorem dX6_hasRow_30 : decode cX6_hasRow 30 = .ok (.iconst 0, 1) := by decide +kernel
theorem dX6_hasRow_31 : decode cX6_hasRow 31 = .ok (.ireturn, 1) := by decide +kernel
def f_X6_hasRow (S : e_S) (l0 : Nat) (l1 : Int32) (l2 : Int32) (g : e_G) : Option (Int32 × e_G) :=
  if e_ob S 6 l0 = true then
    if l2 < 0 then
      some ((0 : Int32), g)
    else
      (e_gI S g 6 l0 2).bind fun v1 =>
      if v1 < l2 then
        some ((0 : Int32), g)
      else
        if l1 < 0 then
          some ((0 : Int32), g)
        else
          (e_gI S g 6 l0 2).bind fun v3 =>
          if (v3 - l2) < l1 then
            some ((0 : Int32), g)
          else
            some ((1 : Int32), g)
  else none
theorem o_X6_hasRow  {S : e_S} {w : Int32} {k : e_G} {l0 : Nat} {l1 : Int32} {l2 : Int32} {g : e_G} (hf : f_X6_hasRow S l0 l1 l2 g = some (w, k)) : e_ob S 6 l0 = true := by
  unfold f_X6_hasRow at hf
  by_cases hc : e_ob S 6 l0 = true
  · exact hc
  · rw [if_neg hc] at hf
    cases hf
theorem c_X6_hasRow {l : Launch} {D : va_G}  {S : e_S} {w : Int32} {k : e_G} {l0 : Nat} {l1 : Int32} {l2 : Int32} {g : e_G} (hf : f_X6_hasRow S l0 l1 l2 g = some (w, k)) : CT l D (e_R 1) M_X6_hasRow [.ref l0, .int l1, .int l2] (S, g) (some (.int w)) (S, k) := by
  refine CT.of (by decide +kernel) (Nat.le_of_ble_eq_true rfl) ?_
  have ho := o_X6_hasRow hf
  unfold f_X6_hasRow at hf
  rw [if_pos ho] at hf
  show X l D (e_R 1) M_X6_hasRow 0 0 0 [(0, .ref l0), (1, .int l1), (2, .int l2)] [] (S, g) (some (.int w)) (S, k)
  refine X.iload_n dX6_hasRow_0 rfl (j := 2) rfl ?_
  refine X.if_lt dX6_hasRow_1 (tgt := 30) rfl (fun hc => ?_) (fun hc => ?_)
  · rw [if_pos hc] at hf
    refine X.iconst dX6_hasRow_30 kI_0 ?_
    obtain ⟨e1, e2⟩ := e_ret hf
    subst e1
    subst e2
    exact X.iret dX6_hasRow_31 rfl rfl
  · rw [if_neg hc] at hf
    refine X.iload_n dX6_hasRow_4 rfl (j := 2) rfl ?_
    refine X.aload_n dX6_hasRow_5 rfl (j := 0) rfl ?_
    obtain ⟨v1, h2, hf⟩ := ob hf
    refine Y.getI dX6_hasRow_6 fl_X6_28 rfl h2 ?_
    refine X.icmp_gt dX6_hasRow_9 (tgt := 30) rfl (fun hc => ?_) (fun hc => ?_)
    · rw [if_pos hc] at hf
      refine X.iconst dX6_hasRow_30 kI_0 ?_
      obtain ⟨e1, e2⟩ := e_ret hf
      subst e1
      subst e2
      exact X.iret dX6_hasRow_31 rfl rfl
    · rw [if_neg hc] at hf
      refine X.iload_n dX6_hasRow_12 rfl (j := 1) rfl ?_
      refine X.if_lt dX6_hasRow_13 (tgt := 30) rfl (fun hc => ?_) (fun hc => ?_)
      · rw [if_pos hc] at hf
        refine X.iconst dX6_hasRow_30 kI_0 ?_
        obtain ⟨e1, e2⟩ := e_ret hf
        subst e1
        subst e2
        exact X.iret dX6_hasRow_31 rfl rfl
      · rw [if_neg hc] at hf
        refine X.iload_n dX6_hasRow_16 rfl (j := 1) rfl ?_
        refine X.aload_n dX6_hasRow_17 rfl (j := 0) rfl ?_
        obtain ⟨v3, h4, hf⟩ := ob hf
        refine Y.getI dX6_hasRow_18 fl_X6_28 rfl h4 ?_
        refine X.iload_n dX6_hasRow_21 rfl (j := 2) rfl ?_
        refine X.isub dX6_hasRow_22 ?_
        refine X.icmp_gt dX6_hasRow_23 (tgt := 30) rfl (fun hc => ?_) (fun hc => ?_)
        · rw [if_pos hc] at hf
          refine X.iconst dX6_hasRow_30 kI_0 ?_
          obtain ⟨e1, e2⟩ := e_ret hf
          subst e1
          subst e2
          exact X.iret dX6_hasRow_31 rfl rfl
        · rw [if_neg hc] at hf
          refine X.iconst dX6_hasRow_26 kI_1 ?_
          refine X.goto dX6_hasRow_27 (tgt := 31) rfl ?_
          obtain ⟨e1, e2⟩ := e_ret hf
          subst e1
          subst e2
          exact X.iret dX6_hasRow_31 rfl rfl
/-! LeanedOut$Sheet.get(I)I -/
abbrev M_X6_get : e_M := (yX6_get, cX6_get, 2, (some .int))
theorem mk_X6_get : e_Mok M_X6_get 1 := ⟨by decide +kernel, by decide +kernel, by decide +kernel⟩
theorem dX6_get_0 : decode cX6_get 0 = .ok (.aload_n 0, 1) := by decide +kernel
theorem dX6_get_1 : decode cX6_get 1 = .ok (.iload_n 1, 1) := by decide +kernel
theorem dX6_get_2 : decode cX6_get 2 = .ok (.invokevirtual 31, 3) := by decide +kernel
theorem dX6_get_5 : decode cX6_get 5 = .ok (.ifCond .eq 12, 3) := by decide +kernel
theorem dX6_get_8 : decode cX6_get 8 = .ok (.aload_n 0, 1) := by decide +kernel
theorem dX6_get_9 : decode cX6_get 9 = .ok (.getfield 9, 3) := by decide +kernel
theorem dX6_get_12 : decode cX6_get 12 = .ok (.iload_n 1, 1) := by decide +kernel
theorem dX6_get_13 : decode cX6_get 13 = .ok (.iaload, 1) := by decide +kernel
theorem dX6_get_14 : decode cX6_get 14 = .ok (.goto 4, 3) := by decide +kernel
theorem dX6_get_17 : decode cX6_get 17 = .ok (.iconst 0, 1) := by decide +kernel
theorem dX6_get_18 : decode cX6_get 18 = .ok (.ireturn, 1) := by decide +kernel
def f_X6_get (S : e_S) (l0 : Nat) (l1 : Int32) (g : e_G) : Option (Int32 × e_G) :=
  if e_ob S 6 l0 = true then
    (f_X6_has S l0 l1 g).bind fun q2 =>
    if q2.1 = 0 then
      some ((0 : Int32), q2.2)
    else
      (e_gR S q2.2 6 l0 0).bind fun v3 =>
      (e_aI S q2.2 0 v3 l1).bind fun v5 =>
      some (v5, q2.2)
  else none
theorem o_X6_get  {S : e_S} {w : Int32} {k : e_G} {l0 : Nat} {l1 : Int32} {g : e_G} (hf : f_X6_get S l0 l1 g = some (w, k)) : e_ob S 6 l0 = true := by
  unfold f_X6_get at hf
  by_cases hc : e_ob S 6 l0 = true
  · exact hc
  · rw [if_neg hc] at hf
    cases hf
theorem c_X6_get {l : Launch} {D : va_G}  {S : e_S} {w : Int32} {k : e_G} {l0 : Nat} {l1 : Int32} {g : e_G} (hf : f_X6_get S l0 l1 g = some (w, k)) : CT l D (e_R 2) M_X6_get [.ref l0, .int l1] (S, g) (some (.int w)) (S, k) := by
  refine CT.of (by decide +kernel) (Nat.le_of_ble_eq_true rfl) ?_
  have ho := o_X6_get hf
  unfold f_X6_get at hf
  rw [if_pos ho] at hf
  show X l D (e_R 2) M_X6_get 0 0 0 [(0, .ref l0), (1, .int l1)] [] (S, g) (some (.int w)) (S, k)
  refine X.aload_n dX6_get_0 rfl (j := 0) rfl ?_
  refine X.iload_n dX6_get_1 rfl (j := 1) rfl ?_
  obtain ⟨q2, h1, hf⟩ := ob hf
  refine Y.callV (av := [.int l1]) (ci := 6) dX6_get_2 (c_X6_has (l := l) (D := D) (w := q2.1) (k := q2.2) h1) cw_X6_31 (by decide) rfl mk_X6_has (o_X6_has (w := q2.1) (k := q2.2) h1) (e_R_ok (Nat.le_of_ble_eq_true rfl) (Nat.le_of_ble_eq_true rfl)) ⟨rfl, rfl⟩ (by simp [Value.category]) ?_
  refine X.if_eq dX6_get_5 (tgt := 17) rfl (fun hc => ?_) (fun hc => ?_)
  · rw [if_pos hc] at hf
    refine X.iconst dX6_get_17 kI_0 ?_
    obtain ⟨e1, e2⟩ := e_ret hf
    subst e1
    subst e2
    exact X.iret dX6_get_18 rfl rfl
  · rw [if_neg hc] at hf
    refine X.aload_n dX6_get_8 rfl (j := 0) rfl ?_
    obtain ⟨v3, h4, hf⟩ := ob hf
    refine Y.getR dX6_get_9 fl_X6_9 rfl h4 ?_
    refine X.iload_n dX6_get_12 rfl (j := 1) rfl ?_
    obtain ⟨v5, h6, hf⟩ := ob hf
    refine Y.iald dX6_get_13 h6 ?_
    refine X.goto dX6_get_14 (tgt := 18) rfl ?_
    obtain ⟨e1, e2⟩ := e_ret hf
    subst e1
    subst e2
    exact X.iret dX6_get_18 rfl rfl
/-! LeanedOut$Sheet.set(II)V -/
abbrev M_X6_set : e_M := (yX6_set, cX6_set, 3, none)
theorem mk_X6_set : e_Mok M_X6_set 2 := ⟨by decide +kernel, by decide +kernel, by decide +kernel⟩
theorem dX6_set_0 : decode cX6_set 0 = .ok (.aload_n 0, 1) := by decide +kernel
theorem dX6_set_1 : decode cX6_set 1 = .ok (.iload_n 1, 1) := by decide +kernel
theorem dX6_set_2 : decode cX6_set 2 = .ok (.invokevirtual 31, 3) := by decide +kernel
theorem dX6_set_5 : decode cX6_set 5 = .ok (.ifCond .ne 4, 3) := by decide +kernel
theorem dX6_set_8 : decode cX6_set 8 = .ok (.return_, 1) := by decide +kernel
theorem dX6_set_9 : decode cX6_set 9 = .ok (.aload_n 0, 1) := by decide +kernel
theorem dX6_set_10 : decode cX6_set 10 = .ok (.getfield 9, 3) := by decide +kernel
theorem dX6_set_13 : decode cX6_set 13 = .ok (.iload_n 1, 1) := by decide +kernel
theorem dX6_set_14 : decode cX6_set 14 = .ok (.aload_n 0, 1) := by decide +kernel
theorem dX6_set_15 : decode cX6_set 15 = .ok (.getfield 15, 3) := by decide +kernel
theorem dX6_set_18 : decode cX6_set 18 = .ok (.ifCond .ne 8, 3) := by decide +kernel
theorem dX6_set_21 : decode cX6_set 21 = .ok (.iload_n 2, 1) := by decide +kernel
theorem dX6_set_22 : decode cX6_set 22 = .ok (.i2b, 1) := by decide +kernel
theorem dX6_set_23 : decode cX6_set 23 = .ok (.goto 17, 3) := by decide +kernel
theorem dX6_set_26 : decode cX6_set 26 = .ok (.aload_n 0, 1) := by decide +kernel
theorem dX6_set_27 : decode cX6_set 27 = .ok (.getfield 15, 3) := by decide +kernel
theorem dX6_set_30 : decode cX6_set 30 = .ok (.iconst 1, 1) := by decide +kernel
theorem dX6_set_31 : decode cX6_set 31 = .ok (.if_icmp .ne 8, 3) := by decide +kernel
theorem dX6_set_34 : decode cX6_set 34 = .ok (.iload_n 2, 1) := by decide +kernel
theorem dX6_set_35 : decode cX6_set 35 = .ok (.i2s, 1) := by decide +kernel
theorem dX6_set_36 : decode cX6_set 36 = .ok (.goto 4, 3) := by decide +kernel
theorem dX6_set_39 : decode cX6_set 39 = .ok (.iload_n 2, 1) := by decide +kernel
theorem dX6_set_40 : decode cX6_set 40 = .ok (.iastore, 1) := by decide +kernel
theorem dX6_set_41 : decode cX6_set 41 = .ok (.return_, 1) := by decide +kernel
def J_X6_set_40 (S : e_S) (t0 : Nat) (t1 : Int32) (t2 : Int32) (g : e_G) : Option (e_G) :=
  (e_aS S g 0 t0 t1 t2).bind fun g1 =>
  some g1
def f_X6_set (S : e_S) (l0 : Nat) (l1 : Int32) (l2 : Int32) (g : e_G) : Option (e_G) :=
  if e_ob S 6 l0 = true then
    (f_X6_has S l0 l1 g).bind fun q2 =>
    if q2.1 = 0 then
      some q2.2
    else
      (e_gR S q2.2 6 l0 0).bind fun v3 =>
      (e_gI S q2.2 6 l0 1).bind fun v5 =>
      if v5 = 0 then
        J_X6_set_40 S v3 l1 l2.toInt8.toInt32 q2.2
      else
        (e_gI S q2.2 6 l0 1).bind fun v7 =>
        if v7 = (1 : Int32) then
          J_X6_set_40 S v3 l1 l2.toInt16.toInt32 q2.2
        else
          J_X6_set_40 S v3 l1 l2 q2.2
  else none
theorem x_J_X6_set_40 {l : Launch} {D : va_G} {S : e_S} {k : e_G} {t0 : Nat} {t1 : Int32} {t2 : Int32} {g : e_G} (hf : J_X6_set_40 S t0 t1 t2 g = some k) : X l D (e_R 2) M_X6_set 0 0 40 [] [.int t2, .int t1, .ref t0] (S, g) none (S, k) := by
  unfold J_X6_set_40 at hf
  obtain ⟨g1, h2, hf⟩ := ob hf
  refine Y.iast dX6_set_40 h2 ?_
  have e1 := Option.some.inj hf
  subst e1
  exact X.vret dX6_set_41 rfl
theorem o_X6_set  {S : e_S} {k : e_G} {l0 : Nat} {l1 : Int32} {l2 : Int32} {g : e_G} (hf : f_X6_set S l0 l1 l2 g = some k) : e_ob S 6 l0 = true := by
  unfold f_X6_set at hf
  by_cases hc : e_ob S 6 l0 = true
  · exact hc
  · rw [if_neg hc] at hf
    cases hf
theorem c_X6_set {l : Launch} {D : va_G}  {S : e_S} {k : e_G} {l0 : Nat} {l1 : Int32} {l2 : Int32} {g : e_G} (hf : f_X6_set S l0 l1 l2 g = some k) : CT l D (e_R 2) M_X6_set [.ref l0, .int l1, .int l2] (S, g) none (S, k) := by
  refine CT.of (by decide +kernel) (Nat.le_of_ble_eq_true rfl) ?_
  have ho := o_X6_set hf
  unfold f_X6_set at hf
  rw [if_pos ho] at hf
  show X l D (e_R 2) M_X6_set 0 0 0 [(0, .ref l0), (1, .int l1), (2, .int l2)] [] (S, g) none (S, k)
  refine X.aload_n dX6_set_0 rfl (j := 0) rfl ?_
  refine X.iload_n dX6_set_1 rfl (j := 1) rfl ?_
  obtain ⟨q2, h1, hf⟩ := ob hf
  refine Y.callV (av := [.int l1]) (ci := 6) dX6_set_2 (c_X6_has (l := l) (D := D) (w := q2.1) (k := q2.2) h1) cw_X6_31 (by decide) rfl mk_X6_has (o_X6_has (w := q2.1) (k := q2.2) h1) (e_R_ok (Nat.le_of_ble_eq_true rfl) (Nat.le_of_ble_eq_true rfl)) ⟨rfl, rfl⟩ (by simp [Value.category]) ?_
  refine X.if_ne dX6_set_5 (tgt := 9) rfl (fun hc => ?_) (fun hc => ?_)
  · rw [if_neg hc] at hf
    refine X.aload_n dX6_set_9 rfl (j := 0) rfl ?_
    obtain ⟨v3, h4, hf⟩ := ob hf
    refine Y.getR dX6_set_10 fl_X6_9 rfl h4 ?_
    refine X.iload_n dX6_set_13 rfl (j := 1) rfl ?_
    refine X.aload_n dX6_set_14 rfl (j := 0) rfl ?_
    obtain ⟨v5, h6, hf⟩ := ob hf
    refine Y.getI dX6_set_15 fl_X6_15 rfl h6 ?_
    refine X.if_ne dX6_set_18 (tgt := 26) rfl (fun hc => ?_) (fun hc => ?_)
    · rw [if_neg hc] at hf
      refine X.aload_n dX6_set_26 rfl (j := 0) rfl ?_
      obtain ⟨v7, h8, hf⟩ := ob hf
      refine Y.getI dX6_set_27 fl_X6_15 rfl h8 ?_
      refine X.iconst dX6_set_30 kI_1 ?_
      refine X.icmp_ne dX6_set_31 (tgt := 39) rfl (fun hc => ?_) (fun hc => ?_)
      · rw [if_neg hc] at hf
        refine X.iload_n dX6_set_39 rfl (j := 2) rfl ?_
        refine X.sub [] rfl ?_
        exact x_J_X6_set_40 hf
      · rw [if_pos hc] at hf
        refine X.iload_n dX6_set_34 rfl (j := 2) rfl ?_
        refine X.i2s dX6_set_35 ?_
        refine X.goto dX6_set_36 (tgt := 40) rfl ?_
        refine X.sub [] rfl ?_
        exact x_J_X6_set_40 hf
    · rw [if_pos hc] at hf
      refine X.iload_n dX6_set_21 rfl (j := 2) rfl ?_
      refine X.i2b dX6_set_22 ?_
      refine X.goto dX6_set_23 (tgt := 40) rfl ?_
      refine X.sub [] rfl ?_
      exact x_J_X6_set_40 hf
  · rw [if_pos hc] at hf
    have e1 := Option.some.inj hf
    subst e1
    exact X.vret dX6_set_8 rfl
