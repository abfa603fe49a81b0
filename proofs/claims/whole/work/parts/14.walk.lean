theorem kB_6 : (Int8.ofInt (6)).toInt32 = (6 : Int32) := by decide +kernel
theorem kB_7 : (Int8.ofInt (7)).toInt32 = (7 : Int32) := by decide +kernel
theorem kB_9 : (Int8.ofInt (9)).toInt32 = (9 : Int32) := by decide +kernel
theorem ww_398 : Cond.methodLink RX5 65 yX9_add ∈ e_big := bw (i := 398) (by decide +kernel) rfl
theorem ww_399 : Cond.instanceMethod yX9_add ∈ e_big := bw (i := 399) (by decide +kernel) rfl
theorem ww_400 : Cond.selects RX9 yX9_add yX9_add ∈ e_big := bw (i := 400) (by decide +kernel) rfl
theorem ww_401 : Cond.code yX9_add cX9_add 3 none ∈ e_big := bw (i := 401) (by decide +kernel) rfl
theorem cw_X5_65 : ∀ w ∈ wsV RX5 65 RX9 yX9_add [Cond.code yX9_add cX9_add 3 none], w ∈ e_big := e_all5 ww_398 ww_399 ww_400 ww_75 ww_401
theorem fl_X5_25 : e_FL RX5 25 5 1 := ⟨⟨by decide, by decide⟩, bw (i := 111) (by decide +kernel) rfl⟩
theorem ww_386 : Cond.methodLink RX5 47 yX5_readOr ∈ e_big := bw (i := 386) (by decide +kernel) rfl
theorem ww_388 : Cond.instanceMethod yX5_readOr ∈ e_big := bw (i := 388) (by decide +kernel) rfl
theorem ww_8 : Cond.selects RX5 yX5_readOr yX5_readOr ∈ e_big := bw (i := 8) (by decide +kernel) rfl
theorem ww_389 : Cond.code yX5_readOr cX5_readOr 3 none ∈ e_big := bw (i := 389) (by decide +kernel) rfl
theorem cw_X5_47 : ∀ w ∈ wsV RX5 47 RX5 yX5_readOr [Cond.code yX5_readOr cX5_readOr 3 none], w ∈ e_big := e_all5 ww_386 ww_388 ww_8 ww_74 ww_389
theorem ww_378 : Cond.methodLink RX5 43 yX5_expect ∈ e_big := bw (i := 378) (by decide +kernel) rfl
theorem ww_380 : Cond.instanceMethod yX5_expect ∈ e_big := bw (i := 380) (by decide +kernel) rfl
theorem ww_6 : Cond.selects RX5 yX5_expect yX5_expect ∈ e_big := bw (i := 6) (by decide +kernel) rfl
theorem ww_381 : Cond.code yX5_expect cX5_expect 2 none ∈ e_big := bw (i := 381) (by decide +kernel) rfl
theorem cw_X5_43 : ∀ w ∈ wsV RX5 43 RX5 yX5_expect [Cond.code yX5_expect cX5_expect 2 none], w ∈ e_big := e_all5 ww_378 ww_380 ww_6 ww_74 ww_381
theorem ww_410 : Cond.methodLink RX5 78 yX5_readOne ∈ e_big := bw (i := 410) (by decide +kernel) rfl
theorem ww_412 : Cond.instanceMethod yX5_readOne ∈ e_big := bw (i := 412) (by decide +kernel) rfl
theorem ww_13 : Cond.selects RX5 yX5_readOne yX5_readOne ∈ e_big := bw (i := 13) (by decide +kernel) rfl
theorem ww_413 : Cond.code yX5_readOne cX5_readOne 2 none ∈ e_big := bw (i := 413) (by decide +kernel) rfl
theorem cw_X5_78 : ∀ w ∈ wsV RX5 78 RX5 yX5_readOne [Cond.code yX5_readOne cX5_readOne 2 none], w ∈ e_big := e_all5 ww_410 ww_412 ww_13 ww_74 ww_413
theorem ww_406 : Cond.methodLink RX5 75 yX5_readTerm ∈ e_big := bw (i := 406) (by decide +kernel) rfl
theorem ww_408 : Cond.instanceMethod yX5_readTerm ∈ e_big := bw (i := 408) (by decide +kernel) rfl
theorem ww_12 : Cond.selects RX5 yX5_readTerm yX5_readTerm ∈ e_big := bw (i := 12) (by decide +kernel) rfl
theorem ww_409 : Cond.code yX5_readTerm cX5_readTerm 3 none ∈ e_big := bw (i := 409) (by decide +kernel) rfl
theorem cw_X5_75 : ∀ w ∈ wsV RX5 75 RX5 yX5_readTerm [Cond.code yX5_readTerm cX5_readTerm 3 none], w ∈ e_big := e_all5 ww_406 ww_408 ww_12 ww_74 ww_409
theorem ww_402 : Cond.methodLink RX5 72 yX5_readSum ∈ e_big := bw (i := 402) (by decide +kernel) rfl
theorem ww_404 : Cond.instanceMethod yX5_readSum ∈ e_big := bw (i := 404) (by decide +kernel) rfl
theorem ww_11 : Cond.selects RX5 yX5_readSum yX5_readSum ∈ e_big := bw (i := 11) (by decide +kernel) rfl
theorem ww_405 : Cond.code yX5_readSum cX5_readSum 4 none ∈ e_big := bw (i := 405) (by decide +kernel) rfl
theorem cw_X5_72 : ∀ w ∈ wsV RX5 72 RX5 yX5_readSum [Cond.code yX5_readSum cX5_readSum 4 none], w ∈ e_big := e_all5 ww_402 ww_404 ww_11 ww_74 ww_405
theorem ww_394 : Cond.methodLink RX5 69 yX5_readNot ∈ e_big := bw (i := 394) (by decide +kernel) rfl
theorem ww_396 : Cond.instanceMethod yX5_readNot ∈ e_big := bw (i := 396) (by decide +kernel) rfl
theorem ww_10 : Cond.selects RX5 yX5_readNot yX5_readNot ∈ e_big := bw (i := 10) (by decide +kernel) rfl
theorem ww_397 : Cond.code yX5_readNot cX5_readNot 3 none ∈ e_big := bw (i := 397) (by decide +kernel) rfl
theorem cw_X5_69 : ∀ w ∈ wsV RX5 69 RX5 yX5_readNot [Cond.code yX5_readNot cX5_readNot 3 none], w ∈ e_big := e_all5 ww_394 ww_396 ww_10 ww_74 ww_397
theorem ww_390 : Cond.methodLink RX5 62 yX5_readAnd ∈ e_big := bw (i := 390) (by decide +kernel) rfl
theorem ww_392 : Cond.instanceMethod yX5_readAnd ∈ e_big := bw (i := 392) (by decide +kernel) rfl
theorem ww_9 : Cond.selects RX5 yX5_readAnd yX5_readAnd ∈ e_big := bw (i := 9) (by decide +kernel) rfl
theorem ww_393 : Cond.code yX5_readAnd cX5_readAnd 3 none ∈ e_big := bw (i := 393) (by decide +kernel) rfl
theorem cw_X5_62 : ∀ w ∈ wsV RX5 62 RX5 yX5_readAnd [Cond.code yX5_readAnd cX5_readAnd 3 none], w ∈ e_big := e_all5 ww_390 ww_392 ww_9 ww_74 ww_393
abbrev M_X5_readOne : e_M := (yX5_readOne, cX5_readOne, 2, none)
theorem mk_X5_readOne : e_Mok M_X5_readOne 1 := ⟨by decide +kernel, by decide +kernel, by decide +kernel⟩
abbrev M_X5_readTerm : e_M := (yX5_readTerm, cX5_readTerm, 3, none)
theorem mk_X5_readTerm : e_Mok M_X5_readTerm 1 := ⟨by decide +kernel, by decide +kernel, by decide +kernel⟩
abbrev M_X5_readSum : e_M := (yX5_readSum, cX5_readSum, 4, none)
theorem mk_X5_readSum : e_Mok M_X5_readSum 1 := ⟨by decide +kernel, by decide +kernel, by decide +kernel⟩
abbrev M_X5_readNot : e_M := (yX5_readNot, cX5_readNot, 3, none)
theorem mk_X5_readNot : e_Mok M_X5_readNot 1 := ⟨by decide +kernel, by decide +kernel, by decide +kernel⟩
abbrev M_X5_readAnd : e_M := (yX5_readAnd, cX5_readAnd, 3, none)
theorem mk_X5_readAnd : e_Mok M_X5_readAnd 1 := ⟨by decide +kernel, by decide +kernel, by decide +kernel⟩
abbrev M_X5_readOr : e_M := (yX5_readOr, cX5_readOr, 3, none)
theorem mk_X5_readOr : e_Mok M_X5_readOr 1 := ⟨by decide +kernel, by decide +kernel, by decide +kernel⟩
/-! LeanedOut$Reader.readOne(I)V -/
theorem dX5_readOne_0 : decode cX5_readOne 0 = .ok (.aload_n 0, 1) := by decide +kernel
theorem dX5_readOne_1 : decode cX5_readOne 1 = .ok (.getfield 56, 3) := by decide +kernel
theorem dX5_readOne_4 : decode cX5_readOne 4 = .ok (.sipush 1002, 3) := by decide +kernel
theorem dX5_readOne_7 : decode cX5_readOne 7 = .ok (.if_icmp .eq 13, 3) := by decide +kernel
theorem dX5_readOne_10 : decode cX5_readOne 10 = .ok (.aload_n 0, 1) := by decide +kernel
theorem dX5_readOne_11 : decode cX5_readOne 11 = .ok (.getfield 56, 3) := by decide +kernel
theorem dX5_readOne_14 : decode cX5_readOne 14 = .ok (.sipush 1003, 3) := by decide +kernel
theorem dX5_readOne_17 : decode cX5_readOne 17 = .ok (.if_icmp .ne 36, 3) := by decide +kernel
theorem dX5_readOne_20 : decode cX5_readOne 20 = .ok (.aload_n 0, 1) := by decide +kernel
theorem dX5_readOne_21 : decode cX5_readOne 21 = .ok (.getfield 25, 3) := by decide +kernel
theorem dX5_readOne_24 : decode cX5_readOne 24 = .ok (.aload_n 0, 1) := by decide +kernel
theorem dX5_readOne_25 : decode cX5_readOne 25 = .ok (.getfield 56, 3) := by decide +kernel
theorem dX5_readOne_28 : decode cX5_readOne 28 = .ok (.sipush 1002, 3) := by decide +kernel
theorem dX5_readOne_31 : decode cX5_readOne 31 = .ok (.if_icmp .ne 7, 3) := by decide +kernel
theorem dX5_readOne_34 : decode cX5_readOne 34 = .ok (.iconst 0, 1) := by decide +kernel
theorem dX5_readOne_35 : decode cX5_readOne 35 = .ok (.goto 4, 3) := by decide +kernel
theorem dX5_readOne_38 : decode cX5_readOne 38 = .ok (.iconst 1, 1) := by decide +kernel
theorem dX5_readOne_39 : decode cX5_readOne 39 = .ok (.aload_n 0, 1) := by decide +kernel
theorem dX5_readOne_40 : decode cX5_readOne 40 = .ok (.getfield 81, 3) := by decide +kernel
theorem dX5_readOne_43 : decode cX5_readOne 43 = .ok (.invokevirtual 65, 3) := by decide +kernel
theorem dX5_readOne_46 : decode cX5_readOne 46 = .ok (.aload_n 0, 1) := by decide +kernel
theorem dX5_readOne_47 : decode cX5_readOne 47 = .ok (.invokevirtual 40, 3) := by decide +kernel
theorem dX5_readOne_50 : decode cX5_readOne 50 = .ok (.goto 80, 3) := by decide +kernel
theorem dX5_readOne_53 : decode cX5_readOne 53 = .ok (.iload_n 1, 1) := by decide +kernel
theorem dX5_readOne_54 : decode cX5_readOne 54 = .ok (.iconst 5, 1) := by decide +kernel
theorem dX5_readOne_55 : decode cX5_readOne 55 = .ok (.if_icmp .lt 10, 3) := by decide +kernel
theorem dX5_readOne_58 : decode cX5_readOne 58 = .ok (.aload_n 0, 1) := by decide +kernel
theorem dX5_readOne_59 : decode cX5_readOne 59 = .ok (.invokevirtual 59, 3) := by decide +kernel
theorem dX5_readOne_62 : decode cX5_readOne 62 = .ok (.goto 68, 3) := by decide +kernel
theorem dX5_readOne_65 : decode cX5_readOne 65 = .ok (.aload_n 0, 1) := by decide +kernel
theorem dX5_readOne_66 : decode cX5_readOne 66 = .ok (.getfield 56, 3) := by decide +kernel
theorem dX5_readOne_69 : decode cX5_readOne 69 = .ok (.bipush 45, 2) := by decide +kernel
theorem dX5_readOne_71 : decode cX5_readOne 71 = .ok (.if_icmp .ne 26, 3) := by decide +kernel
theorem dX5_readOne_74 : decode cX5_readOne 74 = .ok (.aload_n 0, 1) := by decide +kernel
theorem dX5_readOne_75 : decode cX5_readOne 75 = .ok (.invokevirtual 40, 3) := by decide +kernel
theorem dX5_readOne_78 : decode cX5_readOne 78 = .ok (.aload_n 0, 1) := by decide +kernel
theorem dX5_readOne_79 : decode cX5_readOne 79 = .ok (.iload_n 1, 1) := by decide +kernel
theorem dX5_readOne_80 : decode cX5_readOne 80 = .ok (.iconst 1, 1) := by decide +kernel
theorem dX5_readOne_81 : decode cX5_readOne 81 = .ok (.iadd, 1) := by decide +kernel
theorem dX5_readOne_82 : decode cX5_readOne 82 = .ok (.invokevirtual 78, 3) := by decide +kernel
theorem dX5_readOne_85 : decode cX5_readOne 85 = .ok (.aload_n 0, 1) := by decide +kernel
theorem dX5_readOne_86 : decode cX5_readOne 86 = .ok (.getfield 25, 3) := by decide +kernel
theorem dX5_readOne_89 : decode cX5_readOne 89 = .ok (.iconst 2, 1) := by decide +kernel
theorem dX5_readOne_90 : decode cX5_readOne 90 = .ok (.iconst 0, 1) := by decide +kernel
theorem dX5_readOne_91 : decode cX5_readOne 91 = .ok (.invokevirtual 65, 3) := by decide +kernel
theorem dX5_readOne_94 : decode cX5_readOne 94 = .ok (.goto 36, 3) := by decide +kernel
theorem dX5_readOne_97 : decode cX5_readOne 97 = .ok (.aload_n 0, 1) := by decide +kernel
theorem dX5_readOne_98 : decode cX5_readOne 98 = .ok (.getfield 56, 3) := by decide +kernel
theorem dX5_readOne_101 : decode cX5_readOne 101 = .ok (.bipush 40, 2) := by decide +kernel
theorem dX5_readOne_103 : decode cX5_readOne 103 = .ok (.if_icmp .ne 23, 3) := by decide +kernel
theorem dX5_readOne_106 : decode cX5_readOne 106 = .ok (.aload_n 0, 1) := by decide +kernel
theorem dX5_readOne_107 : decode cX5_readOne 107 = .ok (.invokevirtual 40, 3) := by decide +kernel
theorem dX5_readOne_110 : decode cX5_readOne 110 = .ok (.aload_n 0, 1) := by decide +kernel
theorem dX5_readOne_111 : decode cX5_readOne 111 = .ok (.iload_n 1, 1) := by decide +kernel
theorem dX5_readOne_112 : decode cX5_readOne 112 = .ok (.iconst 1, 1) := by decide +kernel
theorem dX5_readOne_113 : decode cX5_readOne 113 = .ok (.iadd, 1) := by decide +kernel
theorem dX5_readOne_114 : decode cX5_readOne 114 = .ok (.invokevirtual 47, 3) := by decide +kernel
theorem dX5_readOne_117 : decode cX5_readOne 117 = .ok (.aload_n 0, 1) := by decide +kernel
theorem dX5_readOne_118 : decode cX5_readOne 118 = .ok (.bipush 41, 2) := by decide +kernel
theorem dX5_readOne_120 : decode cX5_readOne 120 = .ok (.invokevirtual 43, 3) := by decide +kernel
theorem dX5_readOne_123 : decode cX5_readOne 123 = .ok (.goto 7, 3) := by decide +kernel
theorem dX5_readOne_126 : decode cX5_readOne 126 = .ok (.aload_n 0, 1) := by decide +kernel
theorem dX5_readOne_127 : decode cX5_readOne 127 = .ok (.invokevirtual 59, 3) := by decide +kernel
theorem dX5_readOne_130 : decode cX5_readOne 130 = .ok (.return_, 1) := by decide +kernel
def J_X5_readOne_39 (r_X5_readOne : e_S → Nat → Int32 → e_G → Option (e_G)) (r_X5_readOr : e_S → Nat → Int32 → e_G → Option (e_G)) (S : e_S) (l0 : Nat) (t0 : Nat) (t1 : Int32) (g : e_G) : Option (e_G) :=
  (e_gI S g 5 l0 6).bind fun v1 =>
  (f_X9_add S t0 t1 v1 g).bind fun q4 =>
  (f_X5_step S l0 q4).bind fun q6 =>
  some q6
def J_X5_readOne_20 (r_X5_readOne : e_S → Nat → Int32 → e_G → Option (e_G)) (r_X5_readOr : e_S → Nat → Int32 → e_G → Option (e_G)) (S : e_S) (l0 : Nat) (g : e_G) : Option (e_G) :=
  (e_gR S g 5 l0 1).bind fun v1 =>
  (e_gI S g 5 l0 4).bind fun v3 =>
  if v3 = (1002 : Int32) then
    J_X5_readOne_39 r_X5_readOne r_X5_readOr S l0 v1 (0 : Int32) g
  else
    J_X5_readOne_39 r_X5_readOne r_X5_readOr S l0 v1 (1 : Int32) g
def fr_X5_readOne (r_X5_readOne : e_S → Nat → Int32 → e_G → Option (e_G)) (r_X5_readOr : e_S → Nat → Int32 → e_G → Option (e_G)) (S : e_S) (l0 : Nat) (l1 : Int32) (g : e_G) : Option (e_G) :=
  if e_ob S 5 l0 = true then
    (e_gI S g 5 l0 4).bind fun v1 =>
    if v1 = (1002 : Int32) then
      J_X5_readOne_20 r_X5_readOne r_X5_readOr S l0 g
    else
      (e_gI S g 5 l0 4).bind fun v3 =>
      if v3 = (1003 : Int32) then
        J_X5_readOne_20 r_X5_readOne r_X5_readOr S l0 g
      else
        if l1 < (5 : Int32) then
          (e_gI S g 5 l0 4).bind fun v5 =>
          if v5 = (45 : Int32) then
            (f_X5_step S l0 g).bind fun q18 =>
            (r_X5_readOne S l0 (l1 + (1 : Int32)) q18).bind fun q20 =>
            (e_gR S q20 5 l0 1).bind fun v21 =>
            (f_X9_add S v21 (2 : Int32) (0 : Int32) q20).bind fun q24 =>
            some q24
          else
            (e_gI S g 5 l0 4).bind fun v7 =>
            if v7 = (40 : Int32) then
              (f_X5_step S l0 g).bind fun q12 =>
              (r_X5_readOr S l0 (l1 + (1 : Int32)) q12).bind fun q14 =>
              (f_X5_expect S l0 (41 : Int32) q14).bind fun q16 =>
              some q16
            else
              (f_X5_fail S l0 g).bind fun q10 =>
              some q10
        else
          (f_X5_fail S l0 g).bind fun q26 =>
          some q26
  else none
theorem x_J_X5_readOne_39 {l : Launch} {D : va_G} {S : e_S} {k : e_G} {nR : Nat} (hn0 : 11 ≤ nR) {dq0 : Nat} (hq0 : dq0 + 1 ≤ nR) (r_X5_readOne : e_S → Nat → Int32 → e_G → Option (e_G)) (hr_X5_readOne : ∀ (l0 : Nat) (l1 : Int32) (g k : e_G), r_X5_readOne S l0 l1 g = some k → e_ob S 5 l0 = true ∧ CT l D (e_R dq0) M_X5_readOne [.ref l0, .int l1] (S, g) none (S, k)) {dq1 : Nat} (hq1 : dq1 + 1 ≤ nR) (r_X5_readOr : e_S → Nat → Int32 → e_G → Option (e_G)) (hr_X5_readOr : ∀ (l0 : Nat) (l1 : Int32) (g k : e_G), r_X5_readOr S l0 l1 g = some k → e_ob S 5 l0 = true ∧ CT l D (e_R dq1) M_X5_readOr [.ref l0, .int l1] (S, g) none (S, k)) {l0 : Nat} {t0 : Nat} {t1 : Int32} {g : e_G} (hf : J_X5_readOne_39 r_X5_readOne r_X5_readOr S l0 t0 t1 g = some k) : X l D (e_R nR) M_X5_readOne 0 0 39 [(0, .ref l0)] [.int t1, .ref t0] (S, g) none (S, k) := by
  unfold J_X5_readOne_39 at hf
  refine X.aload_n dX5_readOne_39 rfl (j := 0) rfl ?_
  obtain ⟨v1, h2, hf⟩ := ob hf
  refine Y.getI dX5_readOne_40 fl_X5_81 rfl h2 ?_
  obtain ⟨q4, h3, hf⟩ := ob hf
  refine Y.callV (av := [.int t1, .int v1]) (ci := 9) dX5_readOne_43 (c_X9_add (l := l) (D := D) h3) cw_X5_65 (by decide) rfl mk_X9_add (o_X9_add (k := q4) h3) (e_R_ok (by omega) (Nat.le_of_ble_eq_true rfl)) ⟨rfl, rfl⟩ (by simp [Value.category]) ?_
  refine X.aload_n dX5_readOne_46 rfl (j := 0) rfl ?_
  obtain ⟨q6, h5, hf⟩ := ob hf
  refine Y.callV (av := []) (ci := 5) dX5_readOne_47 (c_X5_step (l := l) (D := D) h5) cw_X5_40 (by decide) rfl mk_X5_step (o_X5_step (k := q6) h5) (e_R_ok (by omega) (Nat.le_of_ble_eq_true rfl)) ⟨rfl, rfl⟩ (by simp [Value.category]) ?_
  refine X.goto dX5_readOne_50 (tgt := 130) rfl ?_
  have e1 := Option.some.inj hf
  subst e1
  exact X.vret dX5_readOne_130 rfl
theorem x_J_X5_readOne_20 {l : Launch} {D : va_G} {S : e_S} {k : e_G} {nR : Nat} (hn0 : 11 ≤ nR) {dq0 : Nat} (hq0 : dq0 + 1 ≤ nR) (r_X5_readOne : e_S → Nat → Int32 → e_G → Option (e_G)) (hr_X5_readOne : ∀ (l0 : Nat) (l1 : Int32) (g k : e_G), r_X5_readOne S l0 l1 g = some k → e_ob S 5 l0 = true ∧ CT l D (e_R dq0) M_X5_readOne [.ref l0, .int l1] (S, g) none (S, k)) {dq1 : Nat} (hq1 : dq1 + 1 ≤ nR) (r_X5_readOr : e_S → Nat → Int32 → e_G → Option (e_G)) (hr_X5_readOr : ∀ (l0 : Nat) (l1 : Int32) (g k : e_G), r_X5_readOr S l0 l1 g = some k → e_ob S 5 l0 = true ∧ CT l D (e_R dq1) M_X5_readOr [.ref l0, .int l1] (S, g) none (S, k)) {l0 : Nat} {g : e_G} (hf : J_X5_readOne_20 r_X5_readOne r_X5_readOr S l0 g = some k) : X l D (e_R nR) M_X5_readOne 0 0 20 [(0, .ref l0)] [] (S, g) none (S, k) := by
  unfold J_X5_readOne_20 at hf
  refine X.aload_n dX5_readOne_20 rfl (j := 0) rfl ?_
  obtain ⟨v1, h2, hf⟩ := ob hf
  refine Y.getR dX5_readOne_21 fl_X5_25 rfl h2 ?_
  refine X.aload_n dX5_readOne_24 rfl (j := 0) rfl ?_
  obtain ⟨v3, h4, hf⟩ := ob hf
  refine Y.getI dX5_readOne_25 fl_X5_56 rfl h4 ?_
  refine X.sipush dX5_readOne_28 kS_1002 ?_
  refine X.icmp_ne dX5_readOne_31 (tgt := 38) rfl (fun hc => ?_) (fun hc => ?_)
  · rw [if_neg hc] at hf
    refine X.iconst dX5_readOne_38 kI_1 ?_
    exact x_J_X5_readOne_39 hn0 hq0 r_X5_readOne hr_X5_readOne hq1 r_X5_readOr hr_X5_readOr hf
  · rw [if_pos hc] at hf
    refine X.iconst dX5_readOne_34 kI_0 ?_
    refine X.goto dX5_readOne_35 (tgt := 39) rfl ?_
    exact x_J_X5_readOne_39 hn0 hq0 r_X5_readOne hr_X5_readOne hq1 r_X5_readOr hr_X5_readOr hf
theorem or_X5_readOne  {r_X5_readOne : e_S → Nat → Int32 → e_G → Option (e_G)} {r_X5_readOr : e_S → Nat → Int32 → e_G → Option (e_G)} {S : e_S} {k : e_G} {l0 : Nat} {l1 : Int32} {g : e_G} (hf : fr_X5_readOne r_X5_readOne r_X5_readOr S l0 l1 g = some k) : e_ob S 5 l0 = true := by
  unfold fr_X5_readOne at hf
  by_cases hc : e_ob S 5 l0 = true
  · exact hc
  · rw [if_neg hc] at hf
    cases hf
theorem cr_X5_readOne {l : Launch} {D : va_G}  {S : e_S} {k : e_G} {nR : Nat} (hn0 : 11 ≤ nR) {dq0 : Nat} (hq0 : dq0 + 1 ≤ nR) (r_X5_readOne : e_S → Nat → Int32 → e_G → Option (e_G)) (hr_X5_readOne : ∀ (l0 : Nat) (l1 : Int32) (g k : e_G), r_X5_readOne S l0 l1 g = some k → e_ob S 5 l0 = true ∧ CT l D (e_R dq0) M_X5_readOne [.ref l0, .int l1] (S, g) none (S, k)) {dq1 : Nat} (hq1 : dq1 + 1 ≤ nR) (r_X5_readOr : e_S → Nat → Int32 → e_G → Option (e_G)) (hr_X5_readOr : ∀ (l0 : Nat) (l1 : Int32) (g k : e_G), r_X5_readOr S l0 l1 g = some k → e_ob S 5 l0 = true ∧ CT l D (e_R dq1) M_X5_readOr [.ref l0, .int l1] (S, g) none (S, k)) {l0 : Nat} {l1 : Int32} {g : e_G} (hf : fr_X5_readOne r_X5_readOne r_X5_readOr S l0 l1 g = some k) : CT l D (e_R nR) M_X5_readOne [.ref l0, .int l1] (S, g) none (S, k) := by
  refine CT.of (by decide +kernel) (Nat.le_of_ble_eq_true rfl) ?_
  have ho := or_X5_readOne hf
  unfold fr_X5_readOne at hf
  rw [if_pos ho] at hf
  show X l D (e_R nR) M_X5_readOne 0 0 0 [(0, .ref l0), (1, .int l1)] [] (S, g) none (S, k)
  refine X.aload_n dX5_readOne_0 rfl (j := 0) rfl ?_
  obtain ⟨v1, h2, hf⟩ := ob hf
  refine Y.getI dX5_readOne_1 fl_X5_56 rfl h2 ?_
  refine X.sipush dX5_readOne_4 kS_1002 ?_
  refine X.icmp_eq dX5_readOne_7 (tgt := 20) rfl (fun hc => ?_) (fun hc => ?_)
  · rw [if_pos hc] at hf
    refine X.sub [0] rfl ?_
    exact x_J_X5_readOne_20 hn0 hq0 r_X5_readOne hr_X5_readOne hq1 r_X5_readOr hr_X5_readOr hf
  · rw [if_neg hc] at hf
    refine X.aload_n dX5_readOne_10 rfl (j := 0) rfl ?_
    obtain ⟨v3, h4, hf⟩ := ob hf
    refine Y.getI dX5_readOne_11 fl_X5_56 rfl h4 ?_
    refine X.sipush dX5_readOne_14 kS_1003 ?_
    refine X.icmp_ne dX5_readOne_17 (tgt := 53) rfl (fun hc => ?_) (fun hc => ?_)
    · rw [if_neg hc] at hf
      refine X.iload_n dX5_readOne_53 rfl (j := 1) rfl ?_
      refine X.iconst dX5_readOne_54 kI_5 ?_
      refine X.icmp_lt dX5_readOne_55 (tgt := 65) rfl (fun hc => ?_) (fun hc => ?_)
      · rw [if_pos hc] at hf
        refine X.aload_n dX5_readOne_65 rfl (j := 0) rfl ?_
        obtain ⟨v5, h6, hf⟩ := ob hf
        refine Y.getI dX5_readOne_66 fl_X5_56 rfl h6 ?_
        refine X.bipush dX5_readOne_69 kB_45 ?_
        refine X.icmp_ne dX5_readOne_71 (tgt := 97) rfl (fun hc => ?_) (fun hc => ?_)
        · rw [if_neg hc] at hf
          refine X.aload_n dX5_readOne_97 rfl (j := 0) rfl ?_
          obtain ⟨v7, h8, hf⟩ := ob hf
          refine Y.getI dX5_readOne_98 fl_X5_56 rfl h8 ?_
          refine X.bipush dX5_readOne_101 kB_40 ?_
          refine X.icmp_ne dX5_readOne_103 (tgt := 126) rfl (fun hc => ?_) (fun hc => ?_)
          · rw [if_neg hc] at hf
            refine X.aload_n dX5_readOne_126 rfl (j := 0) rfl ?_
            obtain ⟨q10, h9, hf⟩ := ob hf
            refine Y.callV (av := []) (ci := 5) dX5_readOne_127 (c_X5_fail (l := l) (D := D) h9) cw_X5_59 (by decide) rfl mk_X5_fail (o_X5_fail (k := q10) h9) (e_R_ok (by omega) (Nat.le_of_ble_eq_true rfl)) ⟨rfl, rfl⟩ (by simp [Value.category]) ?_
            have e1 := Option.some.inj hf
            subst e1
            exact X.vret dX5_readOne_130 rfl
          · rw [if_pos hc] at hf
            refine X.aload_n dX5_readOne_106 rfl (j := 0) rfl ?_
            obtain ⟨q12, h11, hf⟩ := ob hf
            refine Y.callV (av := []) (ci := 5) dX5_readOne_107 (c_X5_step (l := l) (D := D) h11) cw_X5_40 (by decide) rfl mk_X5_step (o_X5_step (k := q12) h11) (e_R_ok (by omega) (Nat.le_of_ble_eq_true rfl)) ⟨rfl, rfl⟩ (by simp [Value.category]) ?_
            refine X.aload_n dX5_readOne_110 rfl (j := 0) rfl ?_
            refine X.iload_n dX5_readOne_111 rfl (j := 1) rfl ?_
            refine X.iconst dX5_readOne_112 kI_1 ?_
            refine X.iadd dX5_readOne_113 ?_
            obtain ⟨q14, h13, hf⟩ := ob hf
            refine Y.callV (av := [.int (l1 + (1 : Int32))]) (ci := 5) dX5_readOne_114 ((hr_X5_readOr _ _ _ q14 h13).2) cw_X5_47 (by decide) rfl mk_X5_readOr ((hr_X5_readOr _ _ _ q14 h13).1) (e_R_ok (by omega) (Nat.le_of_ble_eq_true rfl)) ⟨rfl, rfl⟩ (by simp [Value.category]) ?_
            refine X.aload_n dX5_readOne_117 rfl (j := 0) rfl ?_
            refine X.bipush dX5_readOne_118 kB_41 ?_
            obtain ⟨q16, h15, hf⟩ := ob hf
            refine Y.callV (av := [.int (41 : Int32)]) (ci := 5) dX5_readOne_120 (c_X5_expect (l := l) (D := D) h15) cw_X5_43 (by decide) rfl mk_X5_expect (o_X5_expect (k := q16) h15) (e_R_ok (by omega) (Nat.le_of_ble_eq_true rfl)) ⟨rfl, rfl⟩ (by simp [Value.category]) ?_
            refine X.goto dX5_readOne_123 (tgt := 130) rfl ?_
            have e1 := Option.some.inj hf
            subst e1
            exact X.vret dX5_readOne_130 rfl
        · rw [if_pos hc] at hf
          refine X.aload_n dX5_readOne_74 rfl (j := 0) rfl ?_
          obtain ⟨q18, h17, hf⟩ := ob hf
          refine Y.callV (av := []) (ci := 5) dX5_readOne_75 (c_X5_step (l := l) (D := D) h17) cw_X5_40 (by decide) rfl mk_X5_step (o_X5_step (k := q18) h17) (e_R_ok (by omega) (Nat.le_of_ble_eq_true rfl)) ⟨rfl, rfl⟩ (by simp [Value.category]) ?_
          refine X.aload_n dX5_readOne_78 rfl (j := 0) rfl ?_
          refine X.iload_n dX5_readOne_79 rfl (j := 1) rfl ?_
          refine X.iconst dX5_readOne_80 kI_1 ?_
          refine X.iadd dX5_readOne_81 ?_
          obtain ⟨q20, h19, hf⟩ := ob hf
          refine Y.callV (av := [.int (l1 + (1 : Int32))]) (ci := 5) dX5_readOne_82 ((hr_X5_readOne _ _ _ q20 h19).2) cw_X5_78 (by decide) rfl mk_X5_readOne ((hr_X5_readOne _ _ _ q20 h19).1) (e_R_ok (by omega) (Nat.le_of_ble_eq_true rfl)) ⟨rfl, rfl⟩ (by simp [Value.category]) ?_
          refine X.aload_n dX5_readOne_85 rfl (j := 0) rfl ?_
          obtain ⟨v21, h22, hf⟩ := ob hf
          refine Y.getR dX5_readOne_86 fl_X5_25 rfl h22 ?_
          refine X.iconst dX5_readOne_89 kI_2 ?_
          refine X.iconst dX5_readOne_90 kI_0 ?_
          obtain ⟨q24, h23, hf⟩ := ob hf
          refine Y.callV (av := [.int (2 : Int32), .int (0 : Int32)]) (ci := 9) dX5_readOne_91 (c_X9_add (l := l) (D := D) h23) cw_X5_65 (by decide) rfl mk_X9_add (o_X9_add (k := q24) h23) (e_R_ok (by omega) (Nat.le_of_ble_eq_true rfl)) ⟨rfl, rfl⟩ (by simp [Value.category]) ?_
          refine X.goto dX5_readOne_94 (tgt := 130) rfl ?_
          have e1 := Option.some.inj hf
          subst e1
          exact X.vret dX5_readOne_130 rfl
      · rw [if_neg hc] at hf
        refine X.aload_n dX5_readOne_58 rfl (j := 0) rfl ?_
        obtain ⟨q26, h25, hf⟩ := ob hf
        refine Y.callV (av := []) (ci := 5) dX5_readOne_59 (c_X5_fail (l := l) (D := D) h25) cw_X5_59 (by decide) rfl mk_X5_fail (o_X5_fail (k := q26) h25) (e_R_ok (by omega) (Nat.le_of_ble_eq_true rfl)) ⟨rfl, rfl⟩ (by simp [Value.category]) ?_
        refine X.goto dX5_readOne_62 (tgt := 130) rfl ?_
        have e1 := Option.some.inj hf
        subst e1
        exact X.vret dX5_readOne_130 rfl
    · rw [if_pos hc] at hf
      refine X.sub [0] rfl ?_
      exact x_J_X5_readOne_20 hn0 hq0 r_X5_readOne hr_X5_readOne hq1 r_X5_readOr hr_X5_readOr hf
/-! LeanedOut$Reader.readTerm(I)V -/
theorem dX5_readTerm_0 : decode cX5_readTerm 0 = .ok (.aload_n 0, 1) := by decide +kernel
theorem dX5_readTerm_1 : decode cX5_readTerm 1 = .ok (.iload_n 1, 1) := by decide +kernel
theorem dX5_readTerm_2 : decode cX5_readTerm 2 = .ok (.invokevirtual 78, 3) := by decide +kernel
theorem dX5_readTerm_5 : decode cX5_readTerm 5 = .ok (.iconst 0, 1) := by decide +kernel
theorem dX5_readTerm_6 : decode cX5_readTerm 6 = .ok (.istore_n 2, 1) := by decide +kernel
theorem dX5_readTerm_7 : decode cX5_readTerm 7 = .ok (.iload_n 2, 1) := by decide +kernel
theorem dX5_readTerm_8 : decode cX5_readTerm 8 = .ok (.sipush 160, 3) := by decide +kernel
theorem dX5_readTerm_11 : decode cX5_readTerm 11 = .ok (.if_icmp .ge 36, 3) := by decide +kernel
theorem dX5_readTerm_14 : decode cX5_readTerm 14 = .ok (.aload_n 0, 1) := by decide +kernel
theorem dX5_readTerm_15 : decode cX5_readTerm 15 = .ok (.getfield 56, 3) := by decide +kernel
theorem dX5_readTerm_18 : decode cX5_readTerm 18 = .ok (.bipush 42, 2) := by decide +kernel
theorem dX5_readTerm_20 : decode cX5_readTerm 20 = .ok (.if_icmp .ne 27, 3) := by decide +kernel
theorem dX5_readTerm_23 : decode cX5_readTerm 23 = .ok (.aload_n 0, 1) := by decide +kernel
theorem dX5_readTerm_24 : decode cX5_readTerm 24 = .ok (.invokevirtual 40, 3) := by decide +kernel
theorem dX5_readTerm_27 : decode cX5_readTerm 27 = .ok (.aload_n 0, 1) := by decide +kernel
theorem dX5_readTerm_28 : decode cX5_readTerm 28 = .ok (.iload_n 1, 1) := by decide +kernel
theorem dX5_readTerm_29 : decode cX5_readTerm 29 = .ok (.invokevirtual 78, 3) := by decide +kernel
theorem dX5_readTerm_32 : decode cX5_readTerm 32 = .ok (.aload_n 0, 1) := by decide +kernel
theorem dX5_readTerm_33 : decode cX5_readTerm 33 = .ok (.getfield 25, 3) := by decide +kernel
theorem dX5_readTerm_36 : decode cX5_readTerm 36 = .ok (.iconst 4, 1) := by decide +kernel
theorem dX5_readTerm_37 : decode cX5_readTerm 37 = .ok (.iconst 0, 1) := by decide +kernel
theorem dX5_readTerm_38 : decode cX5_readTerm 38 = .ok (.invokevirtual 65, 3) := by decide +kernel
theorem dX5_readTerm_41 : decode cX5_readTerm 41 = .ok (.iinc 2 1, 3) := by decide +kernel
theorem dX5_readTerm_44 : decode cX5_readTerm 44 = .ok (.goto (-37), 3) := by decide +kernel
theorem dX5_readTerm_47 : decode cX5_readTerm 47 = .ok (.return_, 1) := by decide +kernel
def L_X5_readTerm_7 (r_X5_readOne : e_S → Nat → Int32 → e_G → Option (e_G)) : Nat → e_S → Nat → Int32 → Int32 → e_G → Option (e_G)
  | 0, _, _, _, _, _ => none
  | n + 1, S, l0, l1, l2, g =>
  if (160 : Int32) ≤ l2 then
    some g
  else
    (e_gI S g 5 l0 4).bind fun v1 =>
    if v1 = (42 : Int32) then
      (f_X5_step S l0 g).bind fun q4 =>
      (r_X5_readOne S l0 l1 q4).bind fun q6 =>
      (e_gR S q6 5 l0 1).bind fun v7 =>
      (f_X9_add S v7 (4 : Int32) (0 : Int32) q6).bind fun q10 =>
      L_X5_readTerm_7 r_X5_readOne n S l0 l1 (l2 + (1 : Int32)) q10
    else
      some g
def fr_X5_readTerm (r_X5_readOne : e_S → Nat → Int32 → e_G → Option (e_G)) (S : e_S) (l0 : Nat) (l1 : Int32) (g : e_G) : Option (e_G) :=
  if e_ob S 5 l0 = true then
    (r_X5_readOne S l0 l1 g).bind fun q2 =>
    L_X5_readTerm_7 r_X5_readOne 50000 S l0 l1 (0 : Int32) q2
  else none
theorem x_L_X5_readTerm_7 {l : Launch} {D : va_G} {S : e_S} {k : e_G} {nR : Nat} (hn0 : 11 ≤ nR) {dq0 : Nat} (hq0 : dq0 + 1 ≤ nR) (r_X5_readOne : e_S → Nat → Int32 → e_G → Option (e_G)) (hr_X5_readOne : ∀ (l0 : Nat) (l1 : Int32) (g k : e_G), r_X5_readOne S l0 l1 g = some k → e_ob S 5 l0 = true ∧ CT l D (e_R dq0) M_X5_readOne [.ref l0, .int l1] (S, g) none (S, k)) : ∀ (n : Nat) (l0 : Nat) (l1 : Int32) (l2 : Int32) (g : e_G), L_X5_readTerm_7 r_X5_readOne n S l0 l1 l2 g = some k → X l D (e_R nR) M_X5_readTerm 0 0 7 [(0, .ref l0), (1, .int l1), (2, .int l2)] [] (S, g) none (S, k) := by
  intro n
  induction n with
  | zero =>
    intro l0 l1 l2 g hf
    cases hf
  | succ n ih =>
    intro l0 l1 l2 g hf
    rw [L_X5_readTerm_7] at hf
    refine X.iload_n dX5_readTerm_7 rfl (j := 2) rfl ?_
    refine X.sipush dX5_readTerm_8 kS_160 ?_
    refine X.icmp_ge dX5_readTerm_11 (tgt := 47) rfl (fun hc => ?_) (fun hc => ?_)
    · rw [if_pos hc] at hf
      have e1 := Option.some.inj hf
      subst e1
      exact X.vret dX5_readTerm_47 rfl
    · rw [if_neg hc] at hf
      refine X.aload_n dX5_readTerm_14 rfl (j := 0) rfl ?_
      obtain ⟨v1, h2, hf⟩ := ob hf
      refine Y.getI dX5_readTerm_15 fl_X5_56 rfl h2 ?_
      refine X.bipush dX5_readTerm_18 kB_42 ?_
      refine X.icmp_ne dX5_readTerm_20 (tgt := 47) rfl (fun hc => ?_) (fun hc => ?_)
      · rw [if_neg hc] at hf
        have e1 := Option.some.inj hf
        subst e1
        exact X.vret dX5_readTerm_47 rfl
      · rw [if_pos hc] at hf
        refine X.aload_n dX5_readTerm_23 rfl (j := 0) rfl ?_
        obtain ⟨q4, h3, hf⟩ := ob hf
        refine Y.callV (av := []) (ci := 5) dX5_readTerm_24 (c_X5_step (l := l) (D := D) h3) cw_X5_40 (by decide) rfl mk_X5_step (o_X5_step (k := q4) h3) (e_R_ok (by omega) (Nat.le_of_ble_eq_true rfl)) ⟨rfl, rfl⟩ (by simp [Value.category]) ?_
        refine X.aload_n dX5_readTerm_27 rfl (j := 0) rfl ?_
        refine X.iload_n dX5_readTerm_28 rfl (j := 1) rfl ?_
        obtain ⟨q6, h5, hf⟩ := ob hf
        refine Y.callV (av := [.int l1]) (ci := 5) dX5_readTerm_29 ((hr_X5_readOne _ _ _ q6 h5).2) cw_X5_78 (by decide) rfl mk_X5_readOne ((hr_X5_readOne _ _ _ q6 h5).1) (e_R_ok (by omega) (Nat.le_of_ble_eq_true rfl)) ⟨rfl, rfl⟩ (by simp [Value.category]) ?_
        refine X.aload_n dX5_readTerm_32 rfl (j := 0) rfl ?_
        obtain ⟨v7, h8, hf⟩ := ob hf
        refine Y.getR dX5_readTerm_33 fl_X5_25 rfl h8 ?_
        refine X.iconst dX5_readTerm_36 kI_4 ?_
        refine X.iconst dX5_readTerm_37 kI_0 ?_
        obtain ⟨q10, h9, hf⟩ := ob hf
        refine Y.callV (av := [.int (4 : Int32), .int (0 : Int32)]) (ci := 9) dX5_readTerm_38 (c_X9_add (l := l) (D := D) h9) cw_X5_65 (by decide) rfl mk_X9_add (o_X9_add (k := q10) h9) (e_R_ok (by omega) (Nat.le_of_ble_eq_true rfl)) ⟨rfl, rfl⟩ (by simp [Value.category]) ?_
        refine X.iinc (j := 2) dX5_readTerm_41 rfl (v := l2 + (1 : Int32)) (by rw [kI_1]) (Nat.le_of_ble_eq_true rfl) (lc' := [(2, .int (l2 + (1 : Int32))), (0, .ref l0), (1, .int l1)]) rfl ?_
        refine X.goto dX5_readTerm_44 (tgt := 7) rfl ?_
        refine X.sub [1, 2, 0] rfl ?_
        exact ih _ _ _ _ hf
theorem or_X5_readTerm  {r_X5_readOne : e_S → Nat → Int32 → e_G → Option (e_G)} {S : e_S} {k : e_G} {l0 : Nat} {l1 : Int32} {g : e_G} (hf : fr_X5_readTerm r_X5_readOne S l0 l1 g = some k) : e_ob S 5 l0 = true := by
  unfold fr_X5_readTerm at hf
  by_cases hc : e_ob S 5 l0 = true
  · exact hc
  · rw [if_neg hc] at hf
    cases hf
theorem cr_X5_readTerm {l : Launch} {D : va_G}  {S : e_S} {k : e_G} {nR : Nat} (hn0 : 11 ≤ nR) {dq0 : Nat} (hq0 : dq0 + 1 ≤ nR) (r_X5_readOne : e_S → Nat → Int32 → e_G → Option (e_G)) (hr_X5_readOne : ∀ (l0 : Nat) (l1 : Int32) (g k : e_G), r_X5_readOne S l0 l1 g = some k → e_ob S 5 l0 = true ∧ CT l D (e_R dq0) M_X5_readOne [.ref l0, .int l1] (S, g) none (S, k)) {l0 : Nat} {l1 : Int32} {g : e_G} (hf : fr_X5_readTerm r_X5_readOne S l0 l1 g = some k) : CT l D (e_R nR) M_X5_readTerm [.ref l0, .int l1] (S, g) none (S, k) := by
  refine CT.of (by decide +kernel) (Nat.le_of_ble_eq_true rfl) ?_
  have ho := or_X5_readTerm hf
  unfold fr_X5_readTerm at hf
  rw [if_pos ho] at hf
  show X l D (e_R nR) M_X5_readTerm 0 0 0 [(0, .ref l0), (1, .int l1)] [] (S, g) none (S, k)
  refine X.aload_n dX5_readTerm_0 rfl (j := 0) rfl ?_
  refine X.iload_n dX5_readTerm_1 rfl (j := 1) rfl ?_
  obtain ⟨q2, h1, hf⟩ := ob hf
  refine Y.callV (av := [.int l1]) (ci := 5) dX5_readTerm_2 ((hr_X5_readOne _ _ _ q2 h1).2) cw_X5_78 (by decide) rfl mk_X5_readOne ((hr_X5_readOne _ _ _ q2 h1).1) (e_R_ok (by omega) (Nat.le_of_ble_eq_true rfl)) ⟨rfl, rfl⟩ (by simp [Value.category]) ?_
  refine X.iconst dX5_readTerm_5 kI_0 ?_
  refine X.istore_n dX5_readTerm_6 rfl (Nat.le_of_ble_eq_true rfl) (lc' := [(2, .int (0 : Int32)), (0, .ref l0), (1, .int l1)]) rfl ?_
  refine X.sub [1, 2, 0] rfl ?_
  exact x_L_X5_readTerm_7 hn0 hq0 r_X5_readOne hr_X5_readOne 50000 _ _ _ _ hf
/-! LeanedOut$Reader.readSum(I)V -/
theorem dX5_readSum_0 : decode cX5_readSum 0 = .ok (.aload_n 0, 1) := by decide +kernel
theorem dX5_readSum_1 : decode cX5_readSum 1 = .ok (.iload_n 1, 1) := by decide +kernel
theorem dX5_readSum_2 : decode cX5_readSum 2 = .ok (.invokevirtual 75, 3) := by decide +kernel
theorem dX5_readSum_5 : decode cX5_readSum 5 = .ok (.iconst 0, 1) := by decide +kernel
theorem dX5_readSum_6 : decode cX5_readSum 6 = .ok (.istore_n 2, 1) := by decide +kernel
theorem dX5_readSum_7 : decode cX5_readSum 7 = .ok (.iload_n 2, 1) := by decide +kernel
theorem dX5_readSum_8 : decode cX5_readSum 8 = .ok (.sipush 160, 3) := by decide +kernel
theorem dX5_readSum_11 : decode cX5_readSum 11 = .ok (.if_icmp .ge 61, 3) := by decide +kernel
theorem dX5_readSum_14 : decode cX5_readSum 14 = .ok (.aload_n 0, 1) := by decide +kernel
theorem dX5_readSum_15 : decode cX5_readSum 15 = .ok (.getfield 56, 3) := by decide +kernel
theorem dX5_readSum_18 : decode cX5_readSum 18 = .ok (.bipush 43, 2) := by decide +kernel
theorem dX5_readSum_20 : decode cX5_readSum 20 = .ok (.if_icmp .eq 12, 3) := by decide +kernel
theorem dX5_readSum_23 : decode cX5_readSum 23 = .ok (.aload_n 0, 1) := by decide +kernel
theorem dX5_readSum_24 : decode cX5_readSum 24 = .ok (.getfield 56, 3) := by decide +kernel
theorem dX5_readSum_27 : decode cX5_readSum 27 = .ok (.bipush 45, 2) := by decide +kernel
theorem dX5_readSum_29 : decode cX5_readSum 29 = .ok (.if_icmp .ne 43, 3) := by decide +kernel
theorem dX5_readSum_32 : decode cX5_readSum 32 = .ok (.aload_n 0, 1) := by decide +kernel
theorem dX5_readSum_33 : decode cX5_readSum 33 = .ok (.getfield 56, 3) := by decide +kernel
theorem dX5_readSum_36 : decode cX5_readSum 36 = .ok (.bipush 43, 2) := by decide +kernel
theorem dX5_readSum_38 : decode cX5_readSum 38 = .ok (.if_icmp .ne 7, 3) := by decide +kernel
theorem dX5_readSum_41 : decode cX5_readSum 41 = .ok (.iconst 5, 1) := by decide +kernel
theorem dX5_readSum_42 : decode cX5_readSum 42 = .ok (.goto 5, 3) := by decide +kernel
theorem dX5_readSum_45 : decode cX5_readSum 45 = .ok (.bipush 6, 2) := by decide +kernel
theorem dX5_readSum_47 : decode cX5_readSum 47 = .ok (.istore_n 3, 1) := by decide +kernel
theorem dX5_readSum_48 : decode cX5_readSum 48 = .ok (.aload_n 0, 1) := by decide +kernel
theorem dX5_readSum_49 : decode cX5_readSum 49 = .ok (.invokevirtual 40, 3) := by decide +kernel
theorem dX5_readSum_52 : decode cX5_readSum 52 = .ok (.aload_n 0, 1) := by decide +kernel
theorem dX5_readSum_53 : decode cX5_readSum 53 = .ok (.iload_n 1, 1) := by decide +kernel
theorem dX5_readSum_54 : decode cX5_readSum 54 = .ok (.invokevirtual 75, 3) := by decide +kernel
theorem dX5_readSum_57 : decode cX5_readSum 57 = .ok (.aload_n 0, 1) := by decide +kernel
theorem dX5_readSum_58 : decode cX5_readSum 58 = .ok (.getfield 25, 3) := by decide +kernel
theorem dX5_readSum_61 : decode cX5_readSum 61 = .ok (.iload_n 3, 1) := by decide +kernel
theorem dX5_readSum_62 : decode cX5_readSum 62 = .ok (.iconst 0, 1) := by decide +kernel
theorem dX5_readSum_63 : decode cX5_readSum 63 = .ok (.invokevirtual 65, 3) := by decide +kernel
theorem dX5_readSum_66 : decode cX5_readSum 66 = .ok (.iinc 2 1, 3) := by decide +kernel
theorem dX5_readSum_69 : decode cX5_readSum 69 = .ok (.goto (-62), 3) := by decide +kernel
theorem dX5_readSum_72 : decode cX5_readSum 72 = .ok (.return_, 1) := by decide +kernel
def J_X5_readSum_47 (r_X5_readTerm : e_S → Nat → Int32 → e_G → Option (e_G)) (c7 : Nat → Int32 → Int32 → e_G → Option (e_G)) (S : e_S) (l0 : Nat) (l1 : Int32) (l2 : Int32) (t0 : Int32) (g : e_G) : Option (e_G) :=
  (f_X5_step S l0 g).bind fun q2 =>
  (r_X5_readTerm S l0 l1 q2).bind fun q4 =>
  (e_gR S q4 5 l0 1).bind fun v5 =>
  (f_X9_add S v5 t0 (0 : Int32) q4).bind fun q8 =>
  c7 l0 l1 (l2 + (1 : Int32)) q8
def J_X5_readSum_32 (r_X5_readTerm : e_S → Nat → Int32 → e_G → Option (e_G)) (c7 : Nat → Int32 → Int32 → e_G → Option (e_G)) (S : e_S) (l0 : Nat) (l1 : Int32) (l2 : Int32) (g : e_G) : Option (e_G) :=
  (e_gI S g 5 l0 4).bind fun v1 =>
  if v1 = (43 : Int32) then
    J_X5_readSum_47 r_X5_readTerm c7 S l0 l1 l2 (5 : Int32) g
  else
    J_X5_readSum_47 r_X5_readTerm c7 S l0 l1 l2 (6 : Int32) g
def L_X5_readSum_7 (r_X5_readTerm : e_S → Nat → Int32 → e_G → Option (e_G)) : Nat → e_S → Nat → Int32 → Int32 → e_G → Option (e_G)
  | 0, _, _, _, _, _ => none
  | n + 1, S, l0, l1, l2, g =>
  if (160 : Int32) ≤ l2 then
    some g
  else
    (e_gI S g 5 l0 4).bind fun v1 =>
    if v1 = (43 : Int32) then
      J_X5_readSum_32 r_X5_readTerm (L_X5_readSum_7 r_X5_readTerm n S) S l0 l1 l2 g
    else
      (e_gI S g 5 l0 4).bind fun v3 =>
      if v3 = (45 : Int32) then
        J_X5_readSum_32 r_X5_readTerm (L_X5_readSum_7 r_X5_readTerm n S) S l0 l1 l2 g
      else
        some g
def fr_X5_readSum (r_X5_readTerm : e_S → Nat → Int32 → e_G → Option (e_G)) (S : e_S) (l0 : Nat) (l1 : Int32) (g : e_G) : Option (e_G) :=
  if e_ob S 5 l0 = true then
    (r_X5_readTerm S l0 l1 g).bind fun q2 =>
    L_X5_readSum_7 r_X5_readTerm 50000 S l0 l1 (0 : Int32) q2
  else none
theorem x_J_X5_readSum_47 {l : Launch} {D : va_G} {S : e_S} {k : e_G} {nR : Nat} (hn0 : 11 ≤ nR) {dq0 : Nat} (hq0 : dq0 + 1 ≤ nR) (r_X5_readTerm : e_S → Nat → Int32 → e_G → Option (e_G)) (hr_X5_readTerm : ∀ (l0 : Nat) (l1 : Int32) (g k : e_G), r_X5_readTerm S l0 l1 g = some k → e_ob S 5 l0 = true ∧ CT l D (e_R dq0) M_X5_readTerm [.ref l0, .int l1] (S, g) none (S, k)) (c7 : Nat → Int32 → Int32 → e_G → Option (e_G)) (hc7 : ∀ (l0 : Nat) (l1 : Int32) (l2 : Int32) (g : e_G), c7 l0 l1 l2 g = some k → X l D (e_R nR) M_X5_readSum 0 0 7 [(0, .ref l0), (1, .int l1), (2, .int l2)] [] (S, g) none (S, k)) {l0 : Nat} {l1 : Int32} {l2 : Int32} {t0 : Int32} {g : e_G} (hf : J_X5_readSum_47 r_X5_readTerm c7 S l0 l1 l2 t0 g = some k) : X l D (e_R nR) M_X5_readSum 0 0 47 [(0, .ref l0), (1, .int l1), (2, .int l2)] [.int t0] (S, g) none (S, k) := by
  unfold J_X5_readSum_47 at hf
  refine X.istore_n dX5_readSum_47 rfl (Nat.le_of_ble_eq_true rfl) (lc' := [(3, .int t0), (0, .ref l0), (1, .int l1), (2, .int l2)]) rfl ?_
  refine X.aload_n dX5_readSum_48 rfl (j := 1) rfl ?_
  obtain ⟨q2, h1, hf⟩ := ob hf
  refine Y.callV (av := []) (ci := 5) dX5_readSum_49 (c_X5_step (l := l) (D := D) h1) cw_X5_40 (by decide) rfl mk_X5_step (o_X5_step (k := q2) h1) (e_R_ok (by omega) (Nat.le_of_ble_eq_true rfl)) ⟨rfl, rfl⟩ (by simp [Value.category]) ?_
  refine X.aload_n dX5_readSum_52 rfl (j := 1) rfl ?_
  refine X.iload_n dX5_readSum_53 rfl (j := 2) rfl ?_
  obtain ⟨q4, h3, hf⟩ := ob hf
  refine Y.callV (av := [.int l1]) (ci := 5) dX5_readSum_54 ((hr_X5_readTerm _ _ _ q4 h3).2) cw_X5_75 (by decide) rfl mk_X5_readTerm ((hr_X5_readTerm _ _ _ q4 h3).1) (e_R_ok (by omega) (Nat.le_of_ble_eq_true rfl)) ⟨rfl, rfl⟩ (by simp [Value.category]) ?_
  refine X.aload_n dX5_readSum_57 rfl (j := 1) rfl ?_
  obtain ⟨v5, h6, hf⟩ := ob hf
  refine Y.getR dX5_readSum_58 fl_X5_25 rfl h6 ?_
  refine X.iload_n dX5_readSum_61 rfl (j := 0) rfl ?_
  refine X.iconst dX5_readSum_62 kI_0 ?_
  obtain ⟨q8, h7, hf⟩ := ob hf
  refine Y.callV (av := [.int t0, .int (0 : Int32)]) (ci := 9) dX5_readSum_63 (c_X9_add (l := l) (D := D) h7) cw_X5_65 (by decide) rfl mk_X9_add (o_X9_add (k := q8) h7) (e_R_ok (by omega) (Nat.le_of_ble_eq_true rfl)) ⟨rfl, rfl⟩ (by simp [Value.category]) ?_
  refine X.iinc (j := 3) dX5_readSum_66 rfl (v := l2 + (1 : Int32)) (by rw [kI_1]) (Nat.le_of_ble_eq_true rfl) (lc' := [(2, .int (l2 + (1 : Int32))), (3, .int t0), (0, .ref l0), (1, .int l1)]) rfl ?_
  refine X.goto dX5_readSum_69 (tgt := 7) rfl ?_
  refine X.sub [2, 3, 0] rfl ?_
  exact hc7 _ _ _ _ hf
theorem x_J_X5_readSum_32 {l : Launch} {D : va_G} {S : e_S} {k : e_G} {nR : Nat} (hn0 : 11 ≤ nR) {dq0 : Nat} (hq0 : dq0 + 1 ≤ nR) (r_X5_readTerm : e_S → Nat → Int32 → e_G → Option (e_G)) (hr_X5_readTerm : ∀ (l0 : Nat) (l1 : Int32) (g k : e_G), r_X5_readTerm S l0 l1 g = some k → e_ob S 5 l0 = true ∧ CT l D (e_R dq0) M_X5_readTerm [.ref l0, .int l1] (S, g) none (S, k)) (c7 : Nat → Int32 → Int32 → e_G → Option (e_G)) (hc7 : ∀ (l0 : Nat) (l1 : Int32) (l2 : Int32) (g : e_G), c7 l0 l1 l2 g = some k → X l D (e_R nR) M_X5_readSum 0 0 7 [(0, .ref l0), (1, .int l1), (2, .int l2)] [] (S, g) none (S, k)) {l0 : Nat} {l1 : Int32} {l2 : Int32} {g : e_G} (hf : J_X5_readSum_32 r_X5_readTerm c7 S l0 l1 l2 g = some k) : X l D (e_R nR) M_X5_readSum 0 0 32 [(0, .ref l0), (1, .int l1), (2, .int l2)] [] (S, g) none (S, k) := by
  unfold J_X5_readSum_32 at hf
  refine X.aload_n dX5_readSum_32 rfl (j := 0) rfl ?_
  obtain ⟨v1, h2, hf⟩ := ob hf
  refine Y.getI dX5_readSum_33 fl_X5_56 rfl h2 ?_
  refine X.bipush dX5_readSum_36 kB_43 ?_
  refine X.icmp_ne dX5_readSum_38 (tgt := 45) rfl (fun hc => ?_) (fun hc => ?_)
  · rw [if_neg hc] at hf
    refine X.bipush dX5_readSum_45 kB_6 ?_
    exact x_J_X5_readSum_47 hn0 hq0 r_X5_readTerm hr_X5_readTerm _ hc7 hf
  · rw [if_pos hc] at hf
    refine X.iconst dX5_readSum_41 kI_5 ?_
    refine X.goto dX5_readSum_42 (tgt := 47) rfl ?_
    exact x_J_X5_readSum_47 hn0 hq0 r_X5_readTerm hr_X5_readTerm _ hc7 hf
theorem x_L_X5_readSum_7 {l : Launch} {D : va_G} {S : e_S} {k : e_G} {nR : Nat} (hn0 : 11 ≤ nR) {dq0 : Nat} (hq0 : dq0 + 1 ≤ nR) (r_X5_readTerm : e_S → Nat → Int32 → e_G → Option (e_G)) (hr_X5_readTerm : ∀ (l0 : Nat) (l1 : Int32) (g k : e_G), r_X5_readTerm S l0 l1 g = some k → e_ob S 5 l0 = true ∧ CT l D (e_R dq0) M_X5_readTerm [.ref l0, .int l1] (S, g) none (S, k)) : ∀ (n : Nat) (l0 : Nat) (l1 : Int32) (l2 : Int32) (g : e_G), L_X5_readSum_7 r_X5_readTerm n S l0 l1 l2 g = some k → X l D (e_R nR) M_X5_readSum 0 0 7 [(0, .ref l0), (1, .int l1), (2, .int l2)] [] (S, g) none (S, k) := by
  intro n
  induction n with
  | zero =>
    intro l0 l1 l2 g hf
    cases hf
  | succ n ih =>
    intro l0 l1 l2 g hf
    rw [L_X5_readSum_7] at hf
    refine X.iload_n dX5_readSum_7 rfl (j := 2) rfl ?_
    refine X.sipush dX5_readSum_8 kS_160 ?_
    refine X.icmp_ge dX5_readSum_11 (tgt := 72) rfl (fun hc => ?_) (fun hc => ?_)
    · rw [if_pos hc] at hf
      have e1 := Option.some.inj hf
      subst e1
      exact X.vret dX5_readSum_72 rfl
    · rw [if_neg hc] at hf
      refine X.aload_n dX5_readSum_14 rfl (j := 0) rfl ?_
      obtain ⟨v1, h2, hf⟩ := ob hf
      refine Y.getI dX5_readSum_15 fl_X5_56 rfl h2 ?_
      refine X.bipush dX5_readSum_18 kB_43 ?_
      refine X.icmp_eq dX5_readSum_20 (tgt := 32) rfl (fun hc => ?_) (fun hc => ?_)
      · rw [if_pos hc] at hf
        exact x_J_X5_readSum_32 hn0 hq0 r_X5_readTerm hr_X5_readTerm _ ih hf
      · rw [if_neg hc] at hf
        refine X.aload_n dX5_readSum_23 rfl (j := 0) rfl ?_
        obtain ⟨v3, h4, hf⟩ := ob hf
        refine Y.getI dX5_readSum_24 fl_X5_56 rfl h4 ?_
        refine X.bipush dX5_readSum_27 kB_45 ?_
        refine X.icmp_ne dX5_readSum_29 (tgt := 72) rfl (fun hc => ?_) (fun hc => ?_)
        · rw [if_neg hc] at hf
          have e1 := Option.some.inj hf
          subst e1
          exact X.vret dX5_readSum_72 rfl
        · rw [if_pos hc] at hf
          exact x_J_X5_readSum_32 hn0 hq0 r_X5_readTerm hr_X5_readTerm _ ih hf
theorem or_X5_readSum  {r_X5_readTerm : e_S → Nat → Int32 → e_G → Option (e_G)} {S : e_S} {k : e_G} {l0 : Nat} {l1 : Int32} {g : e_G} (hf : fr_X5_readSum r_X5_readTerm S l0 l1 g = some k) : e_ob S 5 l0 = true := by
  unfold fr_X5_readSum at hf
  by_cases hc : e_ob S 5 l0 = true
  · exact hc
  · rw [if_neg hc] at hf
    cases hf
theorem cr_X5_readSum {l : Launch} {D : va_G}  {S : e_S} {k : e_G} {nR : Nat} (hn0 : 11 ≤ nR) {dq0 : Nat} (hq0 : dq0 + 1 ≤ nR) (r_X5_readTerm : e_S → Nat → Int32 → e_G → Option (e_G)) (hr_X5_readTerm : ∀ (l0 : Nat) (l1 : Int32) (g k : e_G), r_X5_readTerm S l0 l1 g = some k → e_ob S 5 l0 = true ∧ CT l D (e_R dq0) M_X5_readTerm [.ref l0, .int l1] (S, g) none (S, k)) {l0 : Nat} {l1 : Int32} {g : e_G} (hf : fr_X5_readSum r_X5_readTerm S l0 l1 g = some k) : CT l D (e_R nR) M_X5_readSum [.ref l0, .int l1] (S, g) none (S, k) := by
  refine CT.of (by decide +kernel) (Nat.le_of_ble_eq_true rfl) ?_
  have ho := or_X5_readSum hf
  unfold fr_X5_readSum at hf
  rw [if_pos ho] at hf
  show X l D (e_R nR) M_X5_readSum 0 0 0 [(0, .ref l0), (1, .int l1)] [] (S, g) none (S, k)
  refine X.aload_n dX5_readSum_0 rfl (j := 0) rfl ?_
  refine X.iload_n dX5_readSum_1 rfl (j := 1) rfl ?_
  obtain ⟨q2, h1, hf⟩ := ob hf
  refine Y.callV (av := [.int l1]) (ci := 5) dX5_readSum_2 ((hr_X5_readTerm _ _ _ q2 h1).2) cw_X5_75 (by decide) rfl mk_X5_readTerm ((hr_X5_readTerm _ _ _ q2 h1).1) (e_R_ok (by omega) (Nat.le_of_ble_eq_true rfl)) ⟨rfl, rfl⟩ (by simp [Value.category]) ?_
  refine X.iconst dX5_readSum_5 kI_0 ?_
  refine X.istore_n dX5_readSum_6 rfl (Nat.le_of_ble_eq_true rfl) (lc' := [(2, .int (0 : Int32)), (0, .ref l0), (1, .int l1)]) rfl ?_
  refine X.sub [1, 2, 0] rfl ?_
  exact x_L_X5_readSum_7 hn0 hq0 r_X5_readTerm hr_X5_readTerm 50000 _ _ _ _ hf
/-! LeanedOut$Reader.readNot(I)V -/
theorem dX5_readNot_0 : decode cX5_readNot 0 = .ok (.aload_n 0, 1) := by decide +kernel
theorem dX5_readNot_1 : decode cX5_readNot 1 = .ok (.getfield 56, 3) := by decide +kernel
theorem dX5_readNot_4 : decode cX5_readNot 4 = .ok (.sipush 1012, 3) := by decide +kernel
theorem dX5_readNot_7 : decode cX5_readNot 7 = .ok (.if_icmp .ne 34, 3) := by decide +kernel
theorem dX5_readNot_10 : decode cX5_readNot 10 = .ok (.iload_n 1, 1) := by decide +kernel
theorem dX5_readNot_11 : decode cX5_readNot 11 = .ok (.iconst 5, 1) := by decide +kernel
theorem dX5_readNot_12 : decode cX5_readNot 12 = .ok (.if_icmp .lt 8, 3) := by decide +kernel
theorem dX5_readNot_15 : decode cX5_readNot 15 = .ok (.aload_n 0, 1) := by decide +kernel
theorem dX5_readNot_16 : decode cX5_readNot 16 = .ok (.invokevirtual 59, 3) := by decide +kernel
theorem dX5_readNot_19 : decode cX5_readNot 19 = .ok (.return_, 1) := by decide +kernel
theorem dX5_readNot_20 : decode cX5_readNot 20 = .ok (.aload_n 0, 1) := by decide +kernel
theorem dX5_readNot_21 : decode cX5_readNot 21 = .ok (.invokevirtual 40, 3) := by decide +kernel
theorem dX5_readNot_24 : decode cX5_readNot 24 = .ok (.aload_n 0, 1) := by decide +kernel
theorem dX5_readNot_25 : decode cX5_readNot 25 = .ok (.iload_n 1, 1) := by decide +kernel
theorem dX5_readNot_26 : decode cX5_readNot 26 = .ok (.iconst 1, 1) := by decide +kernel
theorem dX5_readNot_27 : decode cX5_readNot 27 = .ok (.iadd, 1) := by decide +kernel
theorem dX5_readNot_28 : decode cX5_readNot 28 = .ok (.invokevirtual 69, 3) := by decide +kernel
theorem dX5_readNot_31 : decode cX5_readNot 31 = .ok (.aload_n 0, 1) := by decide +kernel
theorem dX5_readNot_32 : decode cX5_readNot 32 = .ok (.getfield 25, 3) := by decide +kernel
theorem dX5_readNot_35 : decode cX5_readNot 35 = .ok (.iconst 3, 1) := by decide +kernel
theorem dX5_readNot_36 : decode cX5_readNot 36 = .ok (.iconst 0, 1) := by decide +kernel
theorem dX5_readNot_37 : decode cX5_readNot 37 = .ok (.invokevirtual 65, 3) := by decide +kernel
theorem dX5_readNot_40 : decode cX5_readNot 40 = .ok (.return_, 1) := by decide +kernel
theorem dX5_readNot_41 : decode cX5_readNot 41 = .ok (.aload_n 0, 1) := by decide +kernel
theorem dX5_readNot_42 : decode cX5_readNot 42 = .ok (.iload_n 1, 1) := by decide +kernel
theorem dX5_readNot_43 : decode cX5_readNot 43 = .ok (.invokevirtual 72, 3) := by decide +kernel
theorem dX5_readNot_46 : decode cX5_readNot 46 = .ok (.aload_n 0, 1) := by decide +kernel
theorem dX5_readNot_47 : decode cX5_readNot 47 = .ok (.getfield 56, 3) := by decide +kernel
theorem dX5_readNot_50 : decode cX5_readNot 50 = .ok (.bipush 60, 2) := by decide +kernel
theorem dX5_readNot_52 : decode cX5_readNot 52 = .ok (.if_icmp .eq 12, 3) := by decide +kernel
theorem dX5_readNot_55 : decode cX5_readNot 55 = .ok (.aload_n 0, 1) := by decide +kernel
theorem dX5_readNot_56 : decode cX5_readNot 56 = .ok (.getfield 56, 3) := by decide +kernel
theorem dX5_readNot_59 : decode cX5_readNot 59 = .ok (.bipush 61, 2) := by decide +kernel
theorem dX5_readNot_61 : decode cX5_readNot 61 = .ok (.if_icmp .ne 38, 3) := by decide +kernel
theorem dX5_readNot_64 : decode cX5_readNot 64 = .ok (.aload_n 0, 1) := by decide +kernel
theorem dX5_readNot_65 : decode cX5_readNot 65 = .ok (.getfield 56, 3) := by decide +kernel
theorem dX5_readNot_68 : decode cX5_readNot 68 = .ok (.bipush 60, 2) := by decide +kernel
theorem dX5_readNot_70 : decode cX5_readNot 70 = .ok (.if_icmp .ne 8, 3) := by decide +kernel
theorem dX5_readNot_73 : decode cX5_readNot 73 = .ok (.bipush 7, 2) := by decide +kernel
theorem dX5_readNot_75 : decode cX5_readNot 75 = .ok (.goto 5, 3) := by decide +kernel
theorem dX5_readNot_78 : decode cX5_readNot 78 = .ok (.bipush 8, 2) := by decide +kernel
theorem dX5_readNot_80 : decode cX5_readNot 80 = .ok (.istore_n 2, 1) := by decide +kernel
theorem dX5_readNot_81 : decode cX5_readNot 81 = .ok (.aload_n 0, 1) := by decide +kernel
theorem dX5_readNot_82 : decode cX5_readNot 82 = .ok (.invokevirtual 40, 3) := by decide +kernel
theorem dX5_readNot_85 : decode cX5_readNot 85 = .ok (.aload_n 0, 1) := by decide +kernel
theorem dX5_readNot_86 : decode cX5_readNot 86 = .ok (.iload_n 1, 1) := by decide +kernel
theorem dX5_readNot_87 : decode cX5_readNot 87 = .ok (.invokevirtual 72, 3) := by decide +kernel
theorem dX5_readNot_90 : decode cX5_readNot 90 = .ok (.aload_n 0, 1) := by decide +kernel
theorem dX5_readNot_91 : decode cX5_readNot 91 = .ok (.getfield 25, 3) := by decide +kernel
theorem dX5_readNot_94 : decode cX5_readNot 94 = .ok (.iload_n 2, 1) := by decide +kernel
theorem dX5_readNot_95 : decode cX5_readNot 95 = .ok (.iconst 0, 1) := by decide +kernel
theorem dX5_readNot_96 : decode cX5_readNot 96 = .ok (.invokevirtual 65, 3) := by decide +kernel
theorem dX5_readNot_99 : decode cX5_readNot 99 = .ok (.return_, 1) := by decide +kernel
def J_X5_readNot_80 (r_X5_readNot : e_S → Nat → Int32 → e_G → Option (e_G)) (r_X5_readSum : e_S → Nat → Int32 → e_G → Option (e_G)) (S : e_S) (l0 : Nat) (l1 : Int32) (t0 : Int32) (g : e_G) : Option (e_G) :=
  (f_X5_step S l0 g).bind fun q2 =>
  (r_X5_readSum S l0 l1 q2).bind fun q4 =>
  (e_gR S q4 5 l0 1).bind fun v5 =>
  (f_X9_add S v5 t0 (0 : Int32) q4).bind fun q8 =>
  some q8
def J_X5_readNot_64 (r_X5_readNot : e_S → Nat → Int32 → e_G → Option (e_G)) (r_X5_readSum : e_S → Nat → Int32 → e_G → Option (e_G)) (S : e_S) (l0 : Nat) (l1 : Int32) (g : e_G) : Option (e_G) :=
  (e_gI S g 5 l0 4).bind fun v1 =>
  if v1 = (60 : Int32) then
    J_X5_readNot_80 r_X5_readNot r_X5_readSum S l0 l1 (7 : Int32) g
  else
    J_X5_readNot_80 r_X5_readNot r_X5_readSum S l0 l1 (8 : Int32) g
def fr_X5_readNot (r_X5_readNot : e_S → Nat → Int32 → e_G → Option (e_G)) (r_X5_readSum : e_S → Nat → Int32 → e_G → Option (e_G)) (S : e_S) (l0 : Nat) (l1 : Int32) (g : e_G) : Option (e_G) :=
  if e_ob S 5 l0 = true then
    (e_gI S g 5 l0 4).bind fun v1 =>
    if v1 = (1012 : Int32) then
      if l1 < (5 : Int32) then
        (f_X5_step S l0 g).bind fun q10 =>
        (r_X5_readNot S l0 (l1 + (1 : Int32)) q10).bind fun q12 =>
        (e_gR S q12 5 l0 1).bind fun v13 =>
        (f_X9_add S v13 (3 : Int32) (0 : Int32) q12).bind fun q16 =>
        some q16
      else
        (f_X5_fail S l0 g).bind fun q18 =>
        some q18
    else
      (r_X5_readSum S l0 l1 g).bind fun q4 =>
      (e_gI S q4 5 l0 4).bind fun v5 =>
      if v5 = (60 : Int32) then
        J_X5_readNot_64 r_X5_readNot r_X5_readSum S l0 l1 q4
      else
        (e_gI S q4 5 l0 4).bind fun v7 =>
        if v7 = (61 : Int32) then
          J_X5_readNot_64 r_X5_readNot r_X5_readSum S l0 l1 q4
        else
          some q4
  else none
theorem x_J_X5_readNot_80 {l : Launch} {D : va_G} {S : e_S} {k : e_G} {nR : Nat} (hn0 : 11 ≤ nR) {dq0 : Nat} (hq0 : dq0 + 1 ≤ nR) (r_X5_readNot : e_S → Nat → Int32 → e_G → Option (e_G)) (hr_X5_readNot : ∀ (l0 : Nat) (l1 : Int32) (g k : e_G), r_X5_readNot S l0 l1 g = some k → e_ob S 5 l0 = true ∧ CT l D (e_R dq0) M_X5_readNot [.ref l0, .int l1] (S, g) none (S, k)) {dq1 : Nat} (hq1 : dq1 + 1 ≤ nR) (r_X5_readSum : e_S → Nat → Int32 → e_G → Option (e_G)) (hr_X5_readSum : ∀ (l0 : Nat) (l1 : Int32) (g k : e_G), r_X5_readSum S l0 l1 g = some k → e_ob S 5 l0 = true ∧ CT l D (e_R dq1) M_X5_readSum [.ref l0, .int l1] (S, g) none (S, k)) {l0 : Nat} {l1 : Int32} {t0 : Int32} {g : e_G} (hf : J_X5_readNot_80 r_X5_readNot r_X5_readSum S l0 l1 t0 g = some k) : X l D (e_R nR) M_X5_readNot 0 0 80 [(0, .ref l0), (1, .int l1)] [.int t0] (S, g) none (S, k) := by
  unfold J_X5_readNot_80 at hf
  refine X.istore_n dX5_readNot_80 rfl (Nat.le_of_ble_eq_true rfl) (lc' := [(2, .int t0), (0, .ref l0), (1, .int l1)]) rfl ?_
  refine X.aload_n dX5_readNot_81 rfl (j := 1) rfl ?_
  obtain ⟨q2, h1, hf⟩ := ob hf
  refine Y.callV (av := []) (ci := 5) dX5_readNot_82 (c_X5_step (l := l) (D := D) h1) cw_X5_40 (by decide) rfl mk_X5_step (o_X5_step (k := q2) h1) (e_R_ok (by omega) (Nat.le_of_ble_eq_true rfl)) ⟨rfl, rfl⟩ (by simp [Value.category]) ?_
  refine X.aload_n dX5_readNot_85 rfl (j := 1) rfl ?_
  refine X.iload_n dX5_readNot_86 rfl (j := 2) rfl ?_
  obtain ⟨q4, h3, hf⟩ := ob hf
  refine Y.callV (av := [.int l1]) (ci := 5) dX5_readNot_87 ((hr_X5_readSum _ _ _ q4 h3).2) cw_X5_72 (by decide) rfl mk_X5_readSum ((hr_X5_readSum _ _ _ q4 h3).1) (e_R_ok (by omega) (Nat.le_of_ble_eq_true rfl)) ⟨rfl, rfl⟩ (by simp [Value.category]) ?_
  refine X.aload_n dX5_readNot_90 rfl (j := 1) rfl ?_
  obtain ⟨v5, h6, hf⟩ := ob hf
  refine Y.getR dX5_readNot_91 fl_X5_25 rfl h6 ?_
  refine X.iload_n dX5_readNot_94 rfl (j := 0) rfl ?_
  refine X.iconst dX5_readNot_95 kI_0 ?_
  obtain ⟨q8, h7, hf⟩ := ob hf
  refine Y.callV (av := [.int t0, .int (0 : Int32)]) (ci := 9) dX5_readNot_96 (c_X9_add (l := l) (D := D) h7) cw_X5_65 (by decide) rfl mk_X9_add (o_X9_add (k := q8) h7) (e_R_ok (by omega) (Nat.le_of_ble_eq_true rfl)) ⟨rfl, rfl⟩ (by simp [Value.category]) ?_
  have e1 := Option.some.inj hf
  subst e1
  exact X.vret dX5_readNot_99 rfl
theorem x_J_X5_readNot_64 {l : Launch} {D : va_G} {S : e_S} {k : e_G} {nR : Nat} (hn0 : 11 ≤ nR) {dq0 : Nat} (hq0 : dq0 + 1 ≤ nR) (r_X5_readNot : e_S → Nat → Int32 → e_G → Option (e_G)) (hr_X5_readNot : ∀ (l0 : Nat) (l1 : Int32) (g k : e_G), r_X5_readNot S l0 l1 g = some k → e_ob S 5 l0 = true ∧ CT l D (e_R dq0) M_X5_readNot [.ref l0, .int l1] (S, g) none (S, k)) {dq1 : Nat} (hq1 : dq1 + 1 ≤ nR) (r_X5_readSum : e_S → Nat → Int32 → e_G → Option (e_G)) (hr_X5_readSum : ∀ (l0 : Nat) (l1 : Int32) (g k : e_G), r_X5_readSum S l0 l1 g = some k → e_ob S 5 l0 = true ∧ CT l D (e_R dq1) M_X5_readSum [.ref l0, .int l1] (S, g) none (S, k)) {l0 : Nat} {l1 : Int32} {g : e_G} (hf : J_X5_readNot_64 r_X5_readNot r_X5_readSum S l0 l1 g = some k) : X l D (e_R nR) M_X5_readNot 0 0 64 [(0, .ref l0), (1, .int l1)] [] (S, g) none (S, k) := by
  unfold J_X5_readNot_64 at hf
  refine X.aload_n dX5_readNot_64 rfl (j := 0) rfl ?_
  obtain ⟨v1, h2, hf⟩ := ob hf
  refine Y.getI dX5_readNot_65 fl_X5_56 rfl h2 ?_
  refine X.bipush dX5_readNot_68 kB_60 ?_
  refine X.icmp_ne dX5_readNot_70 (tgt := 78) rfl (fun hc => ?_) (fun hc => ?_)
  · rw [if_neg hc] at hf
    refine X.bipush dX5_readNot_78 kB_8 ?_
    exact x_J_X5_readNot_80 hn0 hq0 r_X5_readNot hr_X5_readNot hq1 r_X5_readSum hr_X5_readSum hf
  · rw [if_pos hc] at hf
    refine X.bipush dX5_readNot_73 kB_7 ?_
    refine X.goto dX5_readNot_75 (tgt := 80) rfl ?_
    exact x_J_X5_readNot_80 hn0 hq0 r_X5_readNot hr_X5_readNot hq1 r_X5_readSum hr_X5_readSum hf
theorem or_X5_readNot  {r_X5_readNot : e_S → Nat → Int32 → e_G → Option (e_G)} {r_X5_readSum : e_S → Nat → Int32 → e_G → Option (e_G)} {S : e_S} {k : e_G} {l0 : Nat} {l1 : Int32} {g : e_G} (hf : fr_X5_readNot r_X5_readNot r_X5_readSum S l0 l1 g = some k) : e_ob S 5 l0 = true := by
  unfold fr_X5_readNot at hf
  by_cases hc : e_ob S 5 l0 = true
  · exact hc
  · rw [if_neg hc] at hf
    cases hf
theorem cr_X5_readNot {l : Launch} {D : va_G}  {S : e_S} {k : e_G} {nR : Nat} (hn0 : 11 ≤ nR) {dq0 : Nat} (hq0 : dq0 + 1 ≤ nR) (r_X5_readNot : e_S → Nat → Int32 → e_G → Option (e_G)) (hr_X5_readNot : ∀ (l0 : Nat) (l1 : Int32) (g k : e_G), r_X5_readNot S l0 l1 g = some k → e_ob S 5 l0 = true ∧ CT l D (e_R dq0) M_X5_readNot [.ref l0, .int l1] (S, g) none (S, k)) {dq1 : Nat} (hq1 : dq1 + 1 ≤ nR) (r_X5_readSum : e_S → Nat → Int32 → e_G → Option (e_G)) (hr_X5_readSum : ∀ (l0 : Nat) (l1 : Int32) (g k : e_G), r_X5_readSum S l0 l1 g = some k → e_ob S 5 l0 = true ∧ CT l D (e_R dq1) M_X5_readSum [.ref l0, .int l1] (S, g) none (S, k)) {l0 : Nat} {l1 : Int32} {g : e_G} (hf : fr_X5_readNot r_X5_readNot r_X5_readSum S l0 l1 g = some k) : CT l D (e_R nR) M_X5_readNot [.ref l0, .int l1] (S, g) none (S, k) := by
  refine CT.of (by decide +kernel) (Nat.le_of_ble_eq_true rfl) ?_
  have ho := or_X5_readNot hf
  unfold fr_X5_readNot at hf
  rw [if_pos ho] at hf
  show X l D (e_R nR) M_X5_readNot 0 0 0 [(0, .ref l0), (1, .int l1)] [] (S, g) none (S, k)
  refine X.aload_n dX5_readNot_0 rfl (j := 0) rfl ?_
  obtain ⟨v1, h2, hf⟩ := ob hf
  refine Y.getI dX5_readNot_1 fl_X5_56 rfl h2 ?_
  refine X.sipush dX5_readNot_4 kS_1012 ?_
  refine X.icmp_ne dX5_readNot_7 (tgt := 41) rfl (fun hc => ?_) (fun hc => ?_)
  · rw [if_neg hc] at hf
    refine X.aload_n dX5_readNot_41 rfl (j := 0) rfl ?_
    refine X.iload_n dX5_readNot_42 rfl (j := 1) rfl ?_
    obtain ⟨q4, h3, hf⟩ := ob hf
    refine Y.callV (av := [.int l1]) (ci := 5) dX5_readNot_43 ((hr_X5_readSum _ _ _ q4 h3).2) cw_X5_72 (by decide) rfl mk_X5_readSum ((hr_X5_readSum _ _ _ q4 h3).1) (e_R_ok (by omega) (Nat.le_of_ble_eq_true rfl)) ⟨rfl, rfl⟩ (by simp [Value.category]) ?_
    refine X.aload_n dX5_readNot_46 rfl (j := 0) rfl ?_
    obtain ⟨v5, h6, hf⟩ := ob hf
    refine Y.getI dX5_readNot_47 fl_X5_56 rfl h6 ?_
    refine X.bipush dX5_readNot_50 kB_60 ?_
    refine X.icmp_eq dX5_readNot_52 (tgt := 64) rfl (fun hc => ?_) (fun hc => ?_)
    · rw [if_pos hc] at hf
      exact x_J_X5_readNot_64 hn0 hq0 r_X5_readNot hr_X5_readNot hq1 r_X5_readSum hr_X5_readSum hf
    · rw [if_neg hc] at hf
      refine X.aload_n dX5_readNot_55 rfl (j := 0) rfl ?_
      obtain ⟨v7, h8, hf⟩ := ob hf
      refine Y.getI dX5_readNot_56 fl_X5_56 rfl h8 ?_
      refine X.bipush dX5_readNot_59 kB_61 ?_
      refine X.icmp_ne dX5_readNot_61 (tgt := 99) rfl (fun hc => ?_) (fun hc => ?_)
      · rw [if_neg hc] at hf
        have e1 := Option.some.inj hf
        subst e1
        exact X.vret dX5_readNot_99 rfl
      · rw [if_pos hc] at hf
        exact x_J_X5_readNot_64 hn0 hq0 r_X5_readNot hr_X5_readNot hq1 r_X5_readSum hr_X5_readSum hf
  · rw [if_pos hc] at hf
    refine X.iload_n dX5_readNot_10 rfl (j := 1) rfl ?_
    refine X.iconst dX5_readNot_11 kI_5 ?_
    refine X.icmp_lt dX5_readNot_12 (tgt := 20) rfl (fun hc => ?_) (fun hc => ?_)
    · rw [if_pos hc] at hf
      refine X.aload_n dX5_readNot_20 rfl (j := 0) rfl ?_
      obtain ⟨q10, h9, hf⟩ := ob hf
      refine Y.callV (av := []) (ci := 5) dX5_readNot_21 (c_X5_step (l := l) (D := D) h9) cw_X5_40 (by decide) rfl mk_X5_step (o_X5_step (k := q10) h9) (e_R_ok (by omega) (Nat.le_of_ble_eq_true rfl)) ⟨rfl, rfl⟩ (by simp [Value.category]) ?_
      refine X.aload_n dX5_readNot_24 rfl (j := 0) rfl ?_
      refine X.iload_n dX5_readNot_25 rfl (j := 1) rfl ?_
      refine X.iconst dX5_readNot_26 kI_1 ?_
      refine X.iadd dX5_readNot_27 ?_
      obtain ⟨q12, h11, hf⟩ := ob hf
      refine Y.callV (av := [.int (l1 + (1 : Int32))]) (ci := 5) dX5_readNot_28 ((hr_X5_readNot _ _ _ q12 h11).2) cw_X5_69 (by decide) rfl mk_X5_readNot ((hr_X5_readNot _ _ _ q12 h11).1) (e_R_ok (by omega) (Nat.le_of_ble_eq_true rfl)) ⟨rfl, rfl⟩ (by simp [Value.category]) ?_
      refine X.aload_n dX5_readNot_31 rfl (j := 0) rfl ?_
      obtain ⟨v13, h14, hf⟩ := ob hf
      refine Y.getR dX5_readNot_32 fl_X5_25 rfl h14 ?_
      refine X.iconst dX5_readNot_35 kI_3 ?_
      refine X.iconst dX5_readNot_36 kI_0 ?_
      obtain ⟨q16, h15, hf⟩ := ob hf
      refine Y.callV (av := [.int (3 : Int32), .int (0 : Int32)]) (ci := 9) dX5_readNot_37 (c_X9_add (l := l) (D := D) h15) cw_X5_65 (by decide) rfl mk_X9_add (o_X9_add (k := q16) h15) (e_R_ok (by omega) (Nat.le_of_ble_eq_true rfl)) ⟨rfl, rfl⟩ (by simp [Value.category]) ?_
      have e1 := Option.some.inj hf
      subst e1
      exact X.vret dX5_readNot_40 rfl
    · rw [if_neg hc] at hf
      refine X.aload_n dX5_readNot_15 rfl (j := 0) rfl ?_
      obtain ⟨q18, h17, hf⟩ := ob hf
      refine Y.callV (av := []) (ci := 5) dX5_readNot_16 (c_X5_fail (l := l) (D := D) h17) cw_X5_59 (by decide) rfl mk_X5_fail (o_X5_fail (k := q18) h17) (e_R_ok (by omega) (Nat.le_of_ble_eq_true rfl)) ⟨rfl, rfl⟩ (by simp [Value.category]) ?_
      have e1 := Option.some.inj hf
      subst e1
      exact X.vret dX5_readNot_19 rfl
/-! LeanedOut$Reader.readAnd(I)V -/
theorem dX5_readAnd_0 : decode cX5_readAnd 0 = .ok (.aload_n 0, 1) := by decide +kernel
theorem dX5_readAnd_1 : decode cX5_readAnd 1 = .ok (.iload_n 1, 1) := by decide +kernel
theorem dX5_readAnd_2 : decode cX5_readAnd 2 = .ok (.invokevirtual 69, 3) := by decide +kernel
theorem dX5_readAnd_5 : decode cX5_readAnd 5 = .ok (.iconst 0, 1) := by decide +kernel
theorem dX5_readAnd_6 : decode cX5_readAnd 6 = .ok (.istore_n 2, 1) := by decide +kernel
theorem dX5_readAnd_7 : decode cX5_readAnd 7 = .ok (.iload_n 2, 1) := by decide +kernel
theorem dX5_readAnd_8 : decode cX5_readAnd 8 = .ok (.sipush 160, 3) := by decide +kernel
theorem dX5_readAnd_11 : decode cX5_readAnd 11 = .ok (.if_icmp .ge 38, 3) := by decide +kernel
theorem dX5_readAnd_14 : decode cX5_readAnd 14 = .ok (.aload_n 0, 1) := by decide +kernel
theorem dX5_readAnd_15 : decode cX5_readAnd 15 = .ok (.getfield 56, 3) := by decide +kernel
theorem dX5_readAnd_18 : decode cX5_readAnd 18 = .ok (.sipush 1010, 3) := by decide +kernel
theorem dX5_readAnd_21 : decode cX5_readAnd 21 = .ok (.if_icmp .ne 28, 3) := by decide +kernel
theorem dX5_readAnd_24 : decode cX5_readAnd 24 = .ok (.aload_n 0, 1) := by decide +kernel
theorem dX5_readAnd_25 : decode cX5_readAnd 25 = .ok (.invokevirtual 40, 3) := by decide +kernel
theorem dX5_readAnd_28 : decode cX5_readAnd 28 = .ok (.aload_n 0, 1) := by decide +kernel
theorem dX5_readAnd_29 : decode cX5_readAnd 29 = .ok (.iload_n 1, 1) := by decide +kernel
theorem dX5_readAnd_30 : decode cX5_readAnd 30 = .ok (.invokevirtual 69, 3) := by decide +kernel
theorem dX5_readAnd_33 : decode cX5_readAnd 33 = .ok (.aload_n 0, 1) := by decide +kernel
theorem dX5_readAnd_34 : decode cX5_readAnd 34 = .ok (.getfield 25, 3) := by decide +kernel
theorem dX5_readAnd_37 : decode cX5_readAnd 37 = .ok (.bipush 9, 2) := by decide +kernel
theorem dX5_readAnd_39 : decode cX5_readAnd 39 = .ok (.iconst 0, 1) := by decide +kernel
theorem dX5_readAnd_40 : decode cX5_readAnd 40 = .ok (.invokevirtual 65, 3) := by decide +kernel
theorem dX5_readAnd_43 : decode cX5_readAnd 43 = .ok (.iinc 2 1, 3) := by decide +kernel
theorem dX5_readAnd_46 : decode cX5_readAnd 46 = .ok (.goto (-39), 3) := by decide +kernel
theorem dX5_readAnd_49 : decode cX5_readAnd 49 = .ok (.return_, 1) := by decide +kernel
def L_X5_readAnd_7 (r_X5_readNot : e_S → Nat → Int32 → e_G → Option (e_G)) : Nat → e_S → Nat → Int32 → Int32 → e_G → Option (e_G)
  | 0, _, _, _, _, _ => none
  | n + 1, S, l0, l1, l2, g =>
  if (160 : Int32) ≤ l2 then
    some g
  else
    (e_gI S g 5 l0 4).bind fun v1 =>
    if v1 = (1010 : Int32) then
      (f_X5_step S l0 g).bind fun q4 =>
      (r_X5_readNot S l0 l1 q4).bind fun q6 =>
      (e_gR S q6 5 l0 1).bind fun v7 =>
      (f_X9_add S v7 (9 : Int32) (0 : Int32) q6).bind fun q10 =>
      L_X5_readAnd_7 r_X5_readNot n S l0 l1 (l2 + (1 : Int32)) q10
    else
      some g
def fr_X5_readAnd (r_X5_readNot : e_S → Nat → Int32 → e_G → Option (e_G)) (S : e_S) (l0 : Nat) (l1 : Int32) (g : e_G) : Option (e_G) :=
  if e_ob S 5 l0 = true then
    (r_X5_readNot S l0 l1 g).bind fun q2 =>
    L_X5_readAnd_7 r_X5_readNot 50000 S l0 l1 (0 : Int32) q2
  else none
theorem x_L_X5_readAnd_7 {l : Launch} {D : va_G} {S : e_S} {k : e_G} {nR : Nat} (hn0 : 11 ≤ nR) {dq0 : Nat} (hq0 : dq0 + 1 ≤ nR) (r_X5_readNot : e_S → Nat → Int32 → e_G → Option (e_G)) (hr_X5_readNot : ∀ (l0 : Nat) (l1 : Int32) (g k : e_G), r_X5_readNot S l0 l1 g = some k → e_ob S 5 l0 = true ∧ CT l D (e_R dq0) M_X5_readNot [.ref l0, .int l1] (S, g) none (S, k)) : ∀ (n : Nat) (l0 : Nat) (l1 : Int32) (l2 : Int32) (g : e_G), L_X5_readAnd_7 r_X5_readNot n S l0 l1 l2 g = some k → X l D (e_R nR) M_X5_readAnd 0 0 7 [(0, .ref l0), (1, .int l1), (2, .int l2)] [] (S, g) none (S, k) := by
  intro n
  induction n with
  | zero =>
    intro l0 l1 l2 g hf
    cases hf
  | succ n ih =>
    intro l0 l1 l2 g hf
    rw [L_X5_readAnd_7] at hf
    refine X.iload_n dX5_readAnd_7 rfl (j := 2) rfl ?_
    refine X.sipush dX5_readAnd_8 kS_160 ?_
    refine X.icmp_ge dX5_readAnd_11 (tgt := 49) rfl (fun hc => ?_) (fun hc => ?_)
    · rw [if_pos hc] at hf
      have e1 := Option.some.inj hf
      subst e1
      exact X.vret dX5_readAnd_49 rfl
    · rw [if_neg hc] at hf
      refine X.aload_n dX5_readAnd_14 rfl (j := 0) rfl ?_
      obtain ⟨v1, h2, hf⟩ := ob hf
      refine Y.getI dX5_readAnd_15 fl_X5_56 rfl h2 ?_
      refine X.sipush dX5_readAnd_18 kS_1010 ?_
      refine X.icmp_ne dX5_readAnd_21 (tgt := 49) rfl (fun hc => ?_) (fun hc => ?_)
      · rw [if_neg hc] at hf
        have e1 := Option.some.inj hf
        subst e1
        exact X.vret dX5_readAnd_49 rfl
      · rw [if_pos hc] at hf
        refine X.aload_n dX5_readAnd_24 rfl (j := 0) rfl ?_
        obtain ⟨q4, h3, hf⟩ := ob hf
        refine Y.callV (av := []) (ci := 5) dX5_readAnd_25 (c_X5_step (l := l) (D := D) h3) cw_X5_40 (by decide) rfl mk_X5_step (o_X5_step (k := q4) h3) (e_R_ok (by omega) (Nat.le_of_ble_eq_true rfl)) ⟨rfl, rfl⟩ (by simp [Value.category]) ?_
        refine X.aload_n dX5_readAnd_28 rfl (j := 0) rfl ?_
        refine X.iload_n dX5_readAnd_29 rfl (j := 1) rfl ?_
        obtain ⟨q6, h5, hf⟩ := ob hf
        refine Y.callV (av := [.int l1]) (ci := 5) dX5_readAnd_30 ((hr_X5_readNot _ _ _ q6 h5).2) cw_X5_69 (by decide) rfl mk_X5_readNot ((hr_X5_readNot _ _ _ q6 h5).1) (e_R_ok (by omega) (Nat.le_of_ble_eq_true rfl)) ⟨rfl, rfl⟩ (by simp [Value.category]) ?_
        refine X.aload_n dX5_readAnd_33 rfl (j := 0) rfl ?_
        obtain ⟨v7, h8, hf⟩ := ob hf
        refine Y.getR dX5_readAnd_34 fl_X5_25 rfl h8 ?_
        refine X.bipush dX5_readAnd_37 kB_9 ?_
        refine X.iconst dX5_readAnd_39 kI_0 ?_
        obtain ⟨q10, h9, hf⟩ := ob hf
        refine Y.callV (av := [.int (9 : Int32), .int (0 : Int32)]) (ci := 9) dX5_readAnd_40 (c_X9_add (l := l) (D := D) h9) cw_X5_65 (by decide) rfl mk_X9_add (o_X9_add (k := q10) h9) (e_R_ok (by omega) (Nat.le_of_ble_eq_true rfl)) ⟨rfl, rfl⟩ (by simp [Value.category]) ?_
        refine X.iinc (j := 2) dX5_readAnd_43 rfl (v := l2 + (1 : Int32)) (by rw [kI_1]) (Nat.le_of_ble_eq_true rfl) (lc' := [(2, .int (l2 + (1 : Int32))), (0, .ref l0), (1, .int l1)]) rfl ?_
        refine X.goto dX5_readAnd_46 (tgt := 7) rfl ?_
        refine X.sub [1, 2, 0] rfl ?_
        exact ih _ _ _ _ hf
theorem or_X5_readAnd  {r_X5_readNot : e_S → Nat → Int32 → e_G → Option (e_G)} {S : e_S} {k : e_G} {l0 : Nat} {l1 : Int32} {g : e_G} (hf : fr_X5_readAnd r_X5_readNot S l0 l1 g = some k) : e_ob S 5 l0 = true := by
  unfold fr_X5_readAnd at hf
  by_cases hc : e_ob S 5 l0 = true
  · exact hc
  · rw [if_neg hc] at hf
    cases hf
theorem cr_X5_readAnd {l : Launch} {D : va_G}  {S : e_S} {k : e_G} {nR : Nat} (hn0 : 11 ≤ nR) {dq0 : Nat} (hq0 : dq0 + 1 ≤ nR) (r_X5_readNot : e_S → Nat → Int32 → e_G → Option (e_G)) (hr_X5_readNot : ∀ (l0 : Nat) (l1 : Int32) (g k : e_G), r_X5_readNot S l0 l1 g = some k → e_ob S 5 l0 = true ∧ CT l D (e_R dq0) M_X5_readNot [.ref l0, .int l1] (S, g) none (S, k)) {l0 : Nat} {l1 : Int32} {g : e_G} (hf : fr_X5_readAnd r_X5_readNot S l0 l1 g = some k) : CT l D (e_R nR) M_X5_readAnd [.ref l0, .int l1] (S, g) none (S, k) := by
  refine CT.of (by decide +kernel) (Nat.le_of_ble_eq_true rfl) ?_
  have ho := or_X5_readAnd hf
  unfold fr_X5_readAnd at hf
  rw [if_pos ho] at hf
  show X l D (e_R nR) M_X5_readAnd 0 0 0 [(0, .ref l0), (1, .int l1)] [] (S, g) none (S, k)
  refine X.aload_n dX5_readAnd_0 rfl (j := 0) rfl ?_
  refine X.iload_n dX5_readAnd_1 rfl (j := 1) rfl ?_
  obtain ⟨q2, h1, hf⟩ := ob hf
  refine Y.callV (av := [.int l1]) (ci := 5) dX5_readAnd_2 ((hr_X5_readNot _ _ _ q2 h1).2) cw_X5_69 (by decide) rfl mk_X5_readNot ((hr_X5_readNot _ _ _ q2 h1).1) (e_R_ok (by omega) (Nat.le_of_ble_eq_true rfl)) ⟨rfl, rfl⟩ (by simp [Value.category]) ?_
  refine X.iconst dX5_readAnd_5 kI_0 ?_
  refine X.istore_n dX5_readAnd_6 rfl (Nat.le_of_ble_eq_true rfl) (lc' := [(2, .int (0 : Int32)), (0, .ref l0), (1, .int l1)]) rfl ?_
  refine X.sub [1, 2, 0] rfl ?_
  exact x_L_X5_readAnd_7 hn0 hq0 r_X5_readNot hr_X5_readNot 50000 _ _ _ _ hf
/-! LeanedOut$Reader.readOr(I)V -/
theorem dX5_readOr_0 : decode cX5_readOr 0 = .ok (.aload_n 0, 1) := by decide +kernel
theorem dX5_readOr_1 : decode cX5_readOr 1 = .ok (.iload_n 1, 1) := by decide +kernel
theorem dX5_readOr_2 : decode cX5_readOr 2 = .ok (.invokevirtual 62, 3) := by decide +kernel
theorem dX5_readOr_5 : decode cX5_readOr 5 = .ok (.iconst 0, 1) := by decide +kernel
theorem dX5_readOr_6 : decode cX5_readOr 6 = .ok (.istore_n 2, 1) := by decide +kernel
theorem dX5_readOr_7 : decode cX5_readOr 7 = .ok (.iload_n 2, 1) := by decide +kernel
theorem dX5_readOr_8 : decode cX5_readOr 8 = .ok (.sipush 160, 3) := by decide +kernel
theorem dX5_readOr_11 : decode cX5_readOr 11 = .ok (.if_icmp .ge 38, 3) := by decide +kernel
theorem dX5_readOr_14 : decode cX5_readOr 14 = .ok (.aload_n 0, 1) := by decide +kernel
theorem dX5_readOr_15 : decode cX5_readOr 15 = .ok (.getfield 56, 3) := by decide +kernel
theorem dX5_readOr_18 : decode cX5_readOr 18 = .ok (.sipush 1011, 3) := by decide +kernel
theorem dX5_readOr_21 : decode cX5_readOr 21 = .ok (.if_icmp .ne 28, 3) := by decide +kernel
theorem dX5_readOr_24 : decode cX5_readOr 24 = .ok (.aload_n 0, 1) := by decide +kernel
theorem dX5_readOr_25 : decode cX5_readOr 25 = .ok (.invokevirtual 40, 3) := by decide +kernel
theorem dX5_readOr_28 : decode cX5_readOr 28 = .ok (.aload_n 0, 1) := by decide +kernel
theorem dX5_readOr_29 : decode cX5_readOr 29 = .ok (.iload_n 1, 1) := by decide +kernel
theorem dX5_readOr_30 : decode cX5_readOr 30 = .ok (.invokevirtual 62, 3) := by decide +kernel
theorem dX5_readOr_33 : decode cX5_readOr 33 = .ok (.aload_n 0, 1) := by decide +kernel
theorem dX5_readOr_34 : decode cX5_readOr 34 = .ok (.getfield 25, 3) := by decide +kernel
theorem dX5_readOr_37 : decode cX5_readOr 37 = .ok (.bipush 10, 2) := by decide +kernel
theorem dX5_readOr_39 : decode cX5_readOr 39 = .ok (.iconst 0, 1) := by decide +kernel
theorem dX5_readOr_40 : decode cX5_readOr 40 = .ok (.invokevirtual 65, 3) := by decide +kernel
theorem dX5_readOr_43 : decode cX5_readOr 43 = .ok (.iinc 2 1, 3) := by decide +kernel
theorem dX5_readOr_46 : decode cX5_readOr 46 = .ok (.goto (-39), 3) := by decide +kernel
theorem dX5_readOr_49 : decode cX5_readOr 49 = .ok (.return_, 1) := by decide +kernel
def L_X5_readOr_7 (r_X5_readAnd : e_S → Nat → Int32 → e_G → Option (e_G)) : Nat → e_S → Nat → Int32 → Int32 → e_G → Option (e_G)
  | 0, _, _, _, _, _ => none
  | n + 1, S, l0, l1, l2, g =>
  if (160 : Int32) ≤ l2 then
    some g
  else
    (e_gI S g 5 l0 4).bind fun v1 =>
    if v1 = (1011 : Int32) then
      (f_X5_step S l0 g).bind fun q4 =>
      (r_X5_readAnd S l0 l1 q4).bind fun q6 =>
      (e_gR S q6 5 l0 1).bind fun v7 =>
      (f_X9_add S v7 (10 : Int32) (0 : Int32) q6).bind fun q10 =>
      L_X5_readOr_7 r_X5_readAnd n S l0 l1 (l2 + (1 : Int32)) q10
    else
      some g
def fr_X5_readOr (r_X5_readAnd : e_S → Nat → Int32 → e_G → Option (e_G)) (S : e_S) (l0 : Nat) (l1 : Int32) (g : e_G) : Option (e_G) :=
  if e_ob S 5 l0 = true then
    (r_X5_readAnd S l0 l1 g).bind fun q2 =>
    L_X5_readOr_7 r_X5_readAnd 50000 S l0 l1 (0 : Int32) q2
  else none
theorem x_L_X5_readOr_7 {l : Launch} {D : va_G} {S : e_S} {k : e_G} {nR : Nat} (hn0 : 11 ≤ nR) {dq0 : Nat} (hq0 : dq0 + 1 ≤ nR) (r_X5_readAnd : e_S → Nat → Int32 → e_G → Option (e_G)) (hr_X5_readAnd : ∀ (l0 : Nat) (l1 : Int32) (g k : e_G), r_X5_readAnd S l0 l1 g = some k → e_ob S 5 l0 = true ∧ CT l D (e_R dq0) M_X5_readAnd [.ref l0, .int l1] (S, g) none (S, k)) : ∀ (n : Nat) (l0 : Nat) (l1 : Int32) (l2 : Int32) (g : e_G), L_X5_readOr_7 r_X5_readAnd n S l0 l1 l2 g = some k → X l D (e_R nR) M_X5_readOr 0 0 7 [(0, .ref l0), (1, .int l1), (2, .int l2)] [] (S, g) none (S, k) := by
  intro n
  induction n with
  | zero =>
    intro l0 l1 l2 g hf
    cases hf
  | succ n ih =>
    intro l0 l1 l2 g hf
    rw [L_X5_readOr_7] at hf
    refine X.iload_n dX5_readOr_7 rfl (j := 2) rfl ?_
    refine X.sipush dX5_readOr_8 kS_160 ?_
    refine X.icmp_ge dX5_readOr_11 (tgt := 49) rfl (fun hc => ?_) (fun hc => ?_)
    · rw [if_pos hc] at hf
      have e1 := Option.some.inj hf
      subst e1
      exact X.vret dX5_readOr_49 rfl
    · rw [if_neg hc] at hf
      refine X.aload_n dX5_readOr_14 rfl (j := 0) rfl ?_
      obtain ⟨v1, h2, hf⟩ := ob hf
      refine Y.getI dX5_readOr_15 fl_X5_56 rfl h2 ?_
      refine X.sipush dX5_readOr_18 kS_1011 ?_
      refine X.icmp_ne dX5_readOr_21 (tgt := 49) rfl (fun hc => ?_) (fun hc => ?_)
      · rw [if_neg hc] at hf
        have e1 := Option.some.inj hf
        subst e1
        exact X.vret dX5_readOr_49 rfl
      · rw [if_pos hc] at hf
        refine X.aload_n dX5_readOr_24 rfl (j := 0) rfl ?_
        obtain ⟨q4, h3, hf⟩ := ob hf
        refine Y.callV (av := []) (ci := 5) dX5_readOr_25 (c_X5_step (l := l) (D := D) h3) cw_X5_40 (by decide) rfl mk_X5_step (o_X5_step (k := q4) h3) (e_R_ok (by omega) (Nat.le_of_ble_eq_true rfl)) ⟨rfl, rfl⟩ (by simp [Value.category]) ?_
        refine X.aload_n dX5_readOr_28 rfl (j := 0) rfl ?_
        refine X.iload_n dX5_readOr_29 rfl (j := 1) rfl ?_
        obtain ⟨q6, h5, hf⟩ := ob hf
        refine Y.callV (av := [.int l1]) (ci := 5) dX5_readOr_30 ((hr_X5_readAnd _ _ _ q6 h5).2) cw_X5_62 (by decide) rfl mk_X5_readAnd ((hr_X5_readAnd _ _ _ q6 h5).1) (e_R_ok (by omega) (Nat.le_of_ble_eq_true rfl)) ⟨rfl, rfl⟩ (by simp [Value.category]) ?_
        refine X.aload_n dX5_readOr_33 rfl (j := 0) rfl ?_
        obtain ⟨v7, h8, hf⟩ := ob hf
        refine Y.getR dX5_readOr_34 fl_X5_25 rfl h8 ?_
        refine X.bipush dX5_readOr_37 kB_10 ?_
        refine X.iconst dX5_readOr_39 kI_0 ?_
        obtain ⟨q10, h9, hf⟩ := ob hf
        refine Y.callV (av := [.int (10 : Int32), .int (0 : Int32)]) (ci := 9) dX5_readOr_40 (c_X9_add (l := l) (D := D) h9) cw_X5_65 (by decide) rfl mk_X9_add (o_X9_add (k := q10) h9) (e_R_ok (by omega) (Nat.le_of_ble_eq_true rfl)) ⟨rfl, rfl⟩ (by simp [Value.category]) ?_
        refine X.iinc (j := 2) dX5_readOr_43 rfl (v := l2 + (1 : Int32)) (by rw [kI_1]) (Nat.le_of_ble_eq_true rfl) (lc' := [(2, .int (l2 + (1 : Int32))), (0, .ref l0), (1, .int l1)]) rfl ?_
        refine X.goto dX5_readOr_46 (tgt := 7) rfl ?_
        refine X.sub [1, 2, 0] rfl ?_
        exact ih _ _ _ _ hf
theorem or_X5_readOr  {r_X5_readAnd : e_S → Nat → Int32 → e_G → Option (e_G)} {S : e_S} {k : e_G} {l0 : Nat} {l1 : Int32} {g : e_G} (hf : fr_X5_readOr r_X5_readAnd S l0 l1 g = some k) : e_ob S 5 l0 = true := by
  unfold fr_X5_readOr at hf
  by_cases hc : e_ob S 5 l0 = true
  · exact hc
  · rw [if_neg hc] at hf
    cases hf
theorem cr_X5_readOr {l : Launch} {D : va_G}  {S : e_S} {k : e_G} {nR : Nat} (hn0 : 11 ≤ nR) {dq0 : Nat} (hq0 : dq0 + 1 ≤ nR) (r_X5_readAnd : e_S → Nat → Int32 → e_G → Option (e_G)) (hr_X5_readAnd : ∀ (l0 : Nat) (l1 : Int32) (g k : e_G), r_X5_readAnd S l0 l1 g = some k → e_ob S 5 l0 = true ∧ CT l D (e_R dq0) M_X5_readAnd [.ref l0, .int l1] (S, g) none (S, k)) {l0 : Nat} {l1 : Int32} {g : e_G} (hf : fr_X5_readOr r_X5_readAnd S l0 l1 g = some k) : CT l D (e_R nR) M_X5_readOr [.ref l0, .int l1] (S, g) none (S, k) := by
  refine CT.of (by decide +kernel) (Nat.le_of_ble_eq_true rfl) ?_
  have ho := or_X5_readOr hf
  unfold fr_X5_readOr at hf
  rw [if_pos ho] at hf
  show X l D (e_R nR) M_X5_readOr 0 0 0 [(0, .ref l0), (1, .int l1)] [] (S, g) none (S, k)
  refine X.aload_n dX5_readOr_0 rfl (j := 0) rfl ?_
  refine X.iload_n dX5_readOr_1 rfl (j := 1) rfl ?_
  obtain ⟨q2, h1, hf⟩ := ob hf
  refine Y.callV (av := [.int l1]) (ci := 5) dX5_readOr_2 ((hr_X5_readAnd _ _ _ q2 h1).2) cw_X5_62 (by decide) rfl mk_X5_readAnd ((hr_X5_readAnd _ _ _ q2 h1).1) (e_R_ok (by omega) (Nat.le_of_ble_eq_true rfl)) ⟨rfl, rfl⟩ (by simp [Value.category]) ?_
  refine X.iconst dX5_readOr_5 kI_0 ?_
  refine X.istore_n dX5_readOr_6 rfl (Nat.le_of_ble_eq_true rfl) (lc' := [(2, .int (0 : Int32)), (0, .ref l0), (1, .int l1)]) rfl ?_
  refine X.sub [1, 2, 0] rfl ?_
  exact x_L_X5_readOr_7 hn0 hq0 r_X5_readAnd hr_X5_readAnd 50000 _ _ _ _ hf
abbrev rd_T : Type := e_S → Nat → Int32 → e_G → Option e_G
/-- the six that call one another, so many levels deep -/
def rd : Nat → rd_T × rd_T × rd_T
  | 0 => (fun _ _ _ _ => none, fun _ _ _ _ => none, fun _ _ _ _ => none)
  | L + 1 =>
    (fr_X5_readOne (rd L).1 (rd L).2.2, fr_X5_readNot (rd L).2.1 (fr_X5_readSum (fr_X5_readTerm (fr_X5_readOne (rd L).1 (rd L).2.2))), fr_X5_readOr (fr_X5_readAnd (fr_X5_readNot (rd L).2.1 (fr_X5_readSum (fr_X5_readTerm (fr_X5_readOne (rd L).1 (rd L).2.2))))))
theorem rd_ok {l : Launch} {D : va_G} {S : e_S} : ∀ L : Nat,
    (∀ (l0 : Nat) (l1 : Int32) (g k : e_G), (rd L).1 S l0 l1 g = some k → e_ob S 5 l0 = true ∧ CT l D (e_R (11 + 7 * L)) M_X5_readOne [.ref l0, .int l1] (S, g) none (S, k)) ∧
    (∀ (l0 : Nat) (l1 : Int32) (g k : e_G), (rd L).2.1 S l0 l1 g = some k → e_ob S 5 l0 = true ∧ CT l D (e_R (14 + 7 * L)) M_X5_readNot [.ref l0, .int l1] (S, g) none (S, k)) ∧
    (∀ (l0 : Nat) (l1 : Int32) (g k : e_G), (rd L).2.2 S l0 l1 g = some k → e_ob S 5 l0 = true ∧ CT l D (e_R (16 + 7 * L)) M_X5_readOr [.ref l0, .int l1] (S, g) none (S, k)) := by
  intro L
  induction L with
  | zero => exact ⟨fun _ _ _ _ h => (by cases h), fun _ _ _ _ h => (by cases h), fun _ _ _ _ h => (by cases h)⟩
  | succ L ih =>
    obtain ⟨i1, i2, i3⟩ := ih
    have k1 : ∀ (l0 : Nat) (l1 : Int32) (g k : e_G), fr_X5_readOne (rd L).1 (rd L).2.2 S l0 l1 g = some k → e_ob S 5 l0 = true ∧ CT l D (e_R (11 + 7 * (L + 1))) M_X5_readOne [.ref l0, .int l1] (S, g) none (S, k) := fun l0 l1 g k h => ⟨or_X5_readOne h, cr_X5_readOne (by omega) (by omega) _ i1 (by omega) _ i3 h⟩
    have k2 : ∀ (l0 : Nat) (l1 : Int32) (g k : e_G), fr_X5_readTerm (fr_X5_readOne (rd L).1 (rd L).2.2) S l0 l1 g = some k → e_ob S 5 l0 = true ∧ CT l D (e_R (12 + 7 * (L + 1))) M_X5_readTerm [.ref l0, .int l1] (S, g) none (S, k) := fun l0 l1 g k h => ⟨or_X5_readTerm h, cr_X5_readTerm (by omega) (by omega) _ k1 h⟩
    have k3 : ∀ (l0 : Nat) (l1 : Int32) (g k : e_G), fr_X5_readSum (fr_X5_readTerm (fr_X5_readOne (rd L).1 (rd L).2.2)) S l0 l1 g = some k → e_ob S 5 l0 = true ∧ CT l D (e_R (13 + 7 * (L + 1))) M_X5_readSum [.ref l0, .int l1] (S, g) none (S, k) := fun l0 l1 g k h => ⟨or_X5_readSum h, cr_X5_readSum (by omega) (by omega) _ k2 h⟩
    have k4 : ∀ (l0 : Nat) (l1 : Int32) (g k : e_G), fr_X5_readNot (rd L).2.1 (fr_X5_readSum (fr_X5_readTerm (fr_X5_readOne (rd L).1 (rd L).2.2))) S l0 l1 g = some k → e_ob S 5 l0 = true ∧ CT l D (e_R (14 + 7 * (L + 1))) M_X5_readNot [.ref l0, .int l1] (S, g) none (S, k) := fun l0 l1 g k h => ⟨or_X5_readNot h, cr_X5_readNot (by omega) (by omega) _ i2 (by omega) _ k3 h⟩
    have k5 : ∀ (l0 : Nat) (l1 : Int32) (g k : e_G), fr_X5_readAnd (fr_X5_readNot (rd L).2.1 (fr_X5_readSum (fr_X5_readTerm (fr_X5_readOne (rd L).1 (rd L).2.2)))) S l0 l1 g = some k → e_ob S 5 l0 = true ∧ CT l D (e_R (15 + 7 * (L + 1))) M_X5_readAnd [.ref l0, .int l1] (S, g) none (S, k) := fun l0 l1 g k h => ⟨or_X5_readAnd h, cr_X5_readAnd (by omega) (by omega) _ k4 h⟩
    exact ⟨k1, k4, fun l0 l1 g k h => ⟨or_X5_readOr h, cr_X5_readOr (by omega) (by omega) _ k5 h⟩⟩
def f_X5_readOr (S : e_S) (l0 : Nat) (l1 : Int32) (g : e_G) : Option e_G := (rd 8).2.2 S l0 l1 g
theorem o_X5_readOr {S : e_S} {k : e_G} {l0 : Nat} {l1 : Int32} {g : e_G} (hf : f_X5_readOr S l0 l1 g = some k) : e_ob S 5 l0 = true := or_X5_readOr hf
theorem c_X5_readOr {l : Launch} {D : va_G} {S : e_S} {k : e_G} {l0 : Nat} {l1 : Int32} {g : e_G} (hf : f_X5_readOr S l0 l1 g = some k) : CT l D (e_R 72) M_X5_readOr [.ref l0, .int l1] (S, g) none (S, k) := ((rd_ok 8).2.2 l0 l1 g k hf).2

