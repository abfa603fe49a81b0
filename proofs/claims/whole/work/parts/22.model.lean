theorem kB_24 : (Int8.ofInt (24)).toInt32 = (24 : Int32) := by decide +kernel
theorem ww_1198 : Cond.methodLink RX11 219 yX11_dayOf ∈ e_big := bw (i := 1198) (by decide +kernel) rfl
theorem ww_1200 : Cond.instanceMethod yX11_dayOf ∈ e_big := bw (i := 1200) (by decide +kernel) rfl
theorem ww_58 : Cond.selects RX11 yX11_dayOf yX11_dayOf ∈ e_big := bw (i := 58) (by decide +kernel) rfl
theorem ww_1201 : Cond.code yX11_dayOf cX11_dayOf 3 (some .int) ∈ e_big := bw (i := 1201) (by decide +kernel) rfl
theorem cw_X11_219 : ∀ w ∈ wsV RX11 219 RX11 yX11_dayOf [Cond.code yX11_dayOf cX11_dayOf 3 (some .int)], w ∈ e_big := e_all5 ww_1198 ww_1200 ww_58 ww_89 ww_1201
theorem fl_X11_58 : e_FL RX11 58 11 29 := ⟨⟨by decide, by decide⟩, bw (i := 990) (by decide +kernel) rfl⟩
theorem ww_1231 : Cond.methodLink RX11 235 yX11_lays ∈ e_big := bw (i := 1231) (by decide +kernel) rfl
theorem ww_1233 : Cond.instanceMethod yX11_lays ∈ e_big := bw (i := 1233) (by decide +kernel) rfl
theorem ww_63 : Cond.selects RX11 yX11_lays yX11_lays ∈ e_big := bw (i := 63) (by decide +kernel) rfl
theorem ww_1234 : Cond.code yX11_lays cX11_lays 2 none ∈ e_big := bw (i := 1234) (by decide +kernel) rfl
theorem cw_X11_235 : ∀ w ∈ wsV RX11 235 RX11 yX11_lays [Cond.code yX11_lays cX11_lays 2 none], w ∈ e_big := e_all5 ww_1231 ww_1233 ww_63 ww_89 ww_1234
theorem ww_1214 : Cond.constant RX11 222 (-100000) ∈ e_big := bw (i := 1214) (by decide +kernel) rfl
theorem ww_1215 : Cond.methodLink RX11 223 yX11_keepsAll ∈ e_big := bw (i := 1215) (by decide +kernel) rfl
theorem ww_1217 : Cond.instanceMethod yX11_keepsAll ∈ e_big := bw (i := 1217) (by decide +kernel) rfl
theorem ww_59 : Cond.selects RX11 yX11_keepsAll yX11_keepsAll ∈ e_big := bw (i := 59) (by decide +kernel) rfl
theorem ww_1218 : Cond.code yX11_keepsAll cX11_keepsAll 2 none ∈ e_big := bw (i := 1218) (by decide +kernel) rfl
theorem cw_X11_223 : ∀ w ∈ wsV RX11 223 RX11 yX11_keepsAll [Cond.code yX11_keepsAll cX11_keepsAll 2 none], w ∈ e_big := e_all5 ww_1215 ww_1217 ww_59 ww_89 ww_1218
theorem ww_1219 : Cond.methodLink RX11 226 yX11_goes ∈ e_big := bw (i := 1219) (by decide +kernel) rfl
theorem ww_1221 : Cond.instanceMethod yX11_goes ∈ e_big := bw (i := 1221) (by decide +kernel) rfl
theorem ww_60 : Cond.selects RX11 yX11_goes yX11_goes ∈ e_big := bw (i := 60) (by decide +kernel) rfl
theorem ww_1222 : Cond.code yX11_goes cX11_goes 3 none ∈ e_big := bw (i := 1222) (by decide +kernel) rfl
theorem cw_X11_226 : ∀ w ∈ wsV RX11 226 RX11 yX11_goes [Cond.code yX11_goes cX11_goes 3 none], w ∈ e_big := e_all5 ww_1219 ww_1221 ww_60 ww_89 ww_1222
theorem ww_1223 : Cond.methodLink RX11 229 yX11_mindsAll ∈ e_big := bw (i := 1223) (by decide +kernel) rfl
theorem ww_1225 : Cond.instanceMethod yX11_mindsAll ∈ e_big := bw (i := 1225) (by decide +kernel) rfl
theorem ww_61 : Cond.selects RX11 yX11_mindsAll yX11_mindsAll ∈ e_big := bw (i := 61) (by decide +kernel) rfl
theorem ww_1226 : Cond.code yX11_mindsAll cX11_mindsAll 3 (some .int) ∈ e_big := bw (i := 1226) (by decide +kernel) rfl
theorem cw_X11_229 : ∀ w ∈ wsV RX11 229 RX11 yX11_mindsAll [Cond.code yX11_mindsAll cX11_mindsAll 3 (some .int)], w ∈ e_big := e_all5 ww_1223 ww_1225 ww_61 ww_89 ww_1226
theorem ww_1227 : Cond.methodLink RX11 232 yX11_leanAll ∈ e_big := bw (i := 1227) (by decide +kernel) rfl
theorem ww_1229 : Cond.instanceMethod yX11_leanAll ∈ e_big := bw (i := 1229) (by decide +kernel) rfl
theorem ww_62 : Cond.selects RX11 yX11_leanAll yX11_leanAll ∈ e_big := bw (i := 62) (by decide +kernel) rfl
theorem ww_1230 : Cond.code yX11_leanAll cX11_leanAll 3 (some .int) ∈ e_big := bw (i := 1230) (by decide +kernel) rfl
theorem cw_X11_232 : ∀ w ∈ wsV RX11 232 RX11 yX11_leanAll [Cond.code yX11_leanAll cX11_leanAll 3 (some .int)], w ∈ e_big := e_all5 ww_1227 ww_1229 ww_62 ww_89 ww_1230
theorem ww_1239 : Cond.methodLink RX11 238 yX11_keepsOf ∈ e_big := bw (i := 1239) (by decide +kernel) rfl
theorem ww_1241 : Cond.instanceMethod yX11_keepsOf ∈ e_big := bw (i := 1241) (by decide +kernel) rfl
theorem ww_64 : Cond.selects RX11 yX11_keepsOf yX11_keepsOf ∈ e_big := bw (i := 64) (by decide +kernel) rfl
theorem ww_1242 : Cond.code yX11_keepsOf cX11_keepsOf 4 (some .int) ∈ e_big := bw (i := 1242) (by decide +kernel) rfl
theorem cw_X11_238 : ∀ w ∈ wsV RX11 238 RX11 yX11_keepsOf [Cond.code yX11_keepsOf cX11_keepsOf 4 (some .int)], w ∈ e_big := e_all5 ww_1239 ww_1241 ww_64 ww_89 ww_1242
theorem ww_1255 : Cond.methodLink RX11 241 yX11_keptBehind ∈ e_big := bw (i := 1255) (by decide +kernel) rfl
theorem ww_1257 : Cond.instanceMethod yX11_keptBehind ∈ e_big := bw (i := 1257) (by decide +kernel) rfl
theorem ww_65 : Cond.selects RX11 yX11_keptBehind yX11_keptBehind ∈ e_big := bw (i := 65) (by decide +kernel) rfl
theorem ww_1258 : Cond.code yX11_keptBehind cX11_keptBehind 3 (some .int) ∈ e_big := bw (i := 1258) (by decide +kernel) rfl
theorem cw_X11_241 : ∀ w ∈ wsV RX11 241 RX11 yX11_keptBehind [Cond.code yX11_keptBehind cX11_keptBehind 3 (some .int)], w ∈ e_big := e_all5 ww_1255 ww_1257 ww_65 ww_89 ww_1258
theorem fl_X11_61 : e_FL RX11 61 11 30 := ⟨⟨by decide, by decide⟩, bw (i := 991) (by decide +kernel) rfl⟩
theorem fl_X11_244 : e_FL RX11 244 11 32 := ⟨⟨by decide, by decide⟩, bw (i := 993) (by decide +kernel) rfl⟩
theorem fl_X11_64 : e_FL RX11 64 11 31 := ⟨⟨by decide, by decide⟩, bw (i := 992) (by decide +kernel) rfl⟩
theorem fl_X11_247 : e_FL RX11 247 11 33 := ⟨⟨by decide, by decide⟩, bw (i := 994) (by decide +kernel) rfl⟩
theorem ww_1267 : Cond.methodLink RX11 253 yX11_gives ∈ e_big := bw (i := 1267) (by decide +kernel) rfl
theorem ww_1269 : Cond.instanceMethod yX11_gives ∈ e_big := bw (i := 1269) (by decide +kernel) rfl
theorem ww_67 : Cond.selects RX11 yX11_gives yX11_gives ∈ e_big := bw (i := 67) (by decide +kernel) rfl
theorem ww_1270 : Cond.code yX11_gives cX11_gives 7 (some .boolean) ∈ e_big := bw (i := 1270) (by decide +kernel) rfl
theorem cw_X11_253 : ∀ w ∈ wsV RX11 253 RX11 yX11_gives [Cond.code yX11_gives cX11_gives 7 (some .boolean)], w ∈ e_big := e_all5 ww_1267 ww_1269 ww_67 ww_89 ww_1270
theorem ww_1263 : Cond.methodLink RX11 250 yX11_tellsSide ∈ e_big := bw (i := 1263) (by decide +kernel) rfl
theorem ww_1265 : Cond.instanceMethod yX11_tellsSide ∈ e_big := bw (i := 1265) (by decide +kernel) rfl
theorem ww_66 : Cond.selects RX11 yX11_tellsSide yX11_tellsSide ∈ e_big := bw (i := 66) (by decide +kernel) rfl
theorem ww_1266 : Cond.code yX11_tellsSide cX11_tellsSide 3 none ∈ e_big := bw (i := 1266) (by decide +kernel) rfl
theorem cw_X11_250 : ∀ w ∈ wsV RX11 250 RX11 yX11_tellsSide [Cond.code yX11_tellsSide cX11_tellsSide 3 none], w ∈ e_big := e_all5 ww_1263 ww_1265 ww_66 ww_89 ww_1266
theorem ww_1275 : Cond.constantLong RX11 256 (-4611686018427387904) ∈ e_big := bw (i := 1275) (by decide +kernel) rfl
theorem ww_1276 : Cond.methodLink RX11 258 yX11_lowest ∈ e_big := bw (i := 1276) (by decide +kernel) rfl
theorem ww_1277 : Cond.static yX11_lowest ∈ e_big := bw (i := 1277) (by decide +kernel) rfl
theorem ww_1278 : Cond.code yX11_lowest cX11_lowest 11 (some .long) ∈ e_big := bw (i := 1278) (by decide +kernel) rfl
theorem cw_X11_258 : ∀ w ∈ va_wsS RX11 258 yX11_lowest [Cond.code yX11_lowest cX11_lowest 11 (some .long)], w ∈ e_big := e_all4 ww_1276 ww_1277 ww_89 ww_1278
/-! LeanedOutModel.dayOf()I -/
abbrev M_X11_dayOf : e_M := (yX11_dayOf, cX11_dayOf, 3, (some .int))
theorem mk_X11_dayOf : e_Mok M_X11_dayOf 0 := ⟨by decide +kernel, by decide +kernel, by decide +kernel⟩
theorem dX11_dayOf_0 : decode cX11_dayOf 0 = .ok (.iconst 0, 1) := by decide +kernel
theorem dX11_dayOf_1 : decode cX11_dayOf 1 = .ok (.istore_n 1, 1) := by decide +kernel
theorem dX11_dayOf_2 : decode cX11_dayOf 2 = .ok (.iconst 0, 1) := by decide +kernel
theorem dX11_dayOf_3 : decode cX11_dayOf 3 = .ok (.istore_n 2, 1) := by decide +kernel
theorem dX11_dayOf_4 : decode cX11_dayOf 4 = .ok (.iload_n 2, 1) := by decide +kernel
theorem dX11_dayOf_5 : decode cX11_dayOf 5 = .ok (.aload_n 0, 1) := by decide +kernel
theorem dX11_dayOf_6 : decode cX11_dayOf 6 = .ok (.getfield 75, 3) := by decide +kernel
theorem dX11_dayOf_9 : decode cX11_dayOf 9 = .ok (.if_icmp .ge 89, 3) := by decide +kernel
theorem dX11_dayOf_12 : decode cX11_dayOf 12 = .ok (.aload_n 0, 1) := by decide +kernel
theorem dX11_dayOf_13 : decode cX11_dayOf 13 = .ok (.getfield 16, 3) := by decide +kernel
theorem dX11_dayOf_16 : decode cX11_dayOf 16 = .ok (.iconst 4, 1) := by decide +kernel
theorem dX11_dayOf_17 : decode cX11_dayOf 17 = .ok (.iload_n 2, 1) := by decide +kernel
theorem dX11_dayOf_18 : decode cX11_dayOf 18 = .ok (.imul, 1) := by decide +kernel
theorem dX11_dayOf_19 : decode cX11_dayOf 19 = .ok (.iconst 3, 1) := by decide +kernel
theorem dX11_dayOf_20 : decode cX11_dayOf 20 = .ok (.iadd, 1) := by decide +kernel
theorem dX11_dayOf_21 : decode cX11_dayOf 21 = .ok (.iaload, 1) := by decide +kernel
theorem dX11_dayOf_22 : decode cX11_dayOf 22 = .ok (.ifCond .ne 70, 3) := by decide +kernel
theorem dX11_dayOf_25 : decode cX11_dayOf 25 = .ok (.aload_n 0, 1) := by decide +kernel
theorem dX11_dayOf_26 : decode cX11_dayOf 26 = .ok (.getfield 16, 3) := by decide +kernel
theorem dX11_dayOf_29 : decode cX11_dayOf 29 = .ok (.iconst 4, 1) := by decide +kernel
theorem dX11_dayOf_30 : decode cX11_dayOf 30 = .ok (.iload_n 2, 1) := by decide +kernel
theorem dX11_dayOf_31 : decode cX11_dayOf 31 = .ok (.imul, 1) := by decide +kernel
theorem dX11_dayOf_32 : decode cX11_dayOf 32 = .ok (.iconst 2, 1) := by decide +kernel
theorem dX11_dayOf_33 : decode cX11_dayOf 33 = .ok (.iadd, 1) := by decide +kernel
theorem dX11_dayOf_34 : decode cX11_dayOf 34 = .ok (.aload_n 0, 1) := by decide +kernel
theorem dX11_dayOf_35 : decode cX11_dayOf 35 = .ok (.getfield 16, 3) := by decide +kernel
theorem dX11_dayOf_38 : decode cX11_dayOf 38 = .ok (.iconst 4, 1) := by decide +kernel
theorem dX11_dayOf_39 : decode cX11_dayOf 39 = .ok (.iload_n 2, 1) := by decide +kernel
theorem dX11_dayOf_40 : decode cX11_dayOf 40 = .ok (.imul, 1) := by decide +kernel
theorem dX11_dayOf_41 : decode cX11_dayOf 41 = .ok (.iconst 2, 1) := by decide +kernel
theorem dX11_dayOf_42 : decode cX11_dayOf 42 = .ok (.iadd, 1) := by decide +kernel
theorem dX11_dayOf_43 : decode cX11_dayOf 43 = .ok (.iaload, 1) := by decide +kernel
theorem dX11_dayOf_44 : decode cX11_dayOf 44 = .ok (.aload_n 0, 1) := by decide +kernel
theorem dX11_dayOf_45 : decode cX11_dayOf 45 = .ok (.iload_n 2, 1) := by decide +kernel
theorem dX11_dayOf_46 : decode cX11_dayOf 46 = .ok (.invokevirtual 195, 3) := by decide +kernel
theorem dX11_dayOf_49 : decode cX11_dayOf 49 = .ok (.iadd, 1) := by decide +kernel
theorem dX11_dayOf_50 : decode cX11_dayOf 50 = .ok (.iconst 0, 1) := by decide +kernel
theorem dX11_dayOf_51 : decode cX11_dayOf 51 = .ok (.bipush 99, 2) := by decide +kernel
theorem dX11_dayOf_53 : decode cX11_dayOf 53 = .ok (.invokestatic 167, 3) := by decide +kernel
theorem dX11_dayOf_56 : decode cX11_dayOf 56 = .ok (.iastore, 1) := by decide +kernel
theorem dX11_dayOf_57 : decode cX11_dayOf 57 = .ok (.aload_n 0, 1) := by decide +kernel
theorem dX11_dayOf_58 : decode cX11_dayOf 58 = .ok (.getfield 16, 3) := by decide +kernel
theorem dX11_dayOf_61 : decode cX11_dayOf 61 = .ok (.iconst 4, 1) := by decide +kernel
theorem dX11_dayOf_62 : decode cX11_dayOf 62 = .ok (.iload_n 2, 1) := by decide +kernel
theorem dX11_dayOf_63 : decode cX11_dayOf 63 = .ok (.imul, 1) := by decide +kernel
theorem dX11_dayOf_64 : decode cX11_dayOf 64 = .ok (.iconst 2, 1) := by decide +kernel
theorem dX11_dayOf_65 : decode cX11_dayOf 65 = .ok (.iadd, 1) := by decide +kernel
theorem dX11_dayOf_66 : decode cX11_dayOf 66 = .ok (.iaload, 1) := by decide +kernel
theorem dX11_dayOf_67 : decode cX11_dayOf 67 = .ok (.aload_n 0, 1) := by decide +kernel
theorem dX11_dayOf_68 : decode cX11_dayOf 68 = .ok (.iload_n 2, 1) := by decide +kernel
theorem dX11_dayOf_69 : decode cX11_dayOf 69 = .ok (.invokevirtual 198, 3) := by decide +kernel
theorem dX11_dayOf_72 : decode cX11_dayOf 72 = .ok (.if_icmp .le 20, 3) := by decide +kernel
theorem dX11_dayOf_75 : decode cX11_dayOf 75 = .ok (.aload_n 0, 1) := by decide +kernel
theorem dX11_dayOf_76 : decode cX11_dayOf 76 = .ok (.getfield 16, 3) := by decide +kernel
theorem dX11_dayOf_79 : decode cX11_dayOf 79 = .ok (.iconst 4, 1) := by decide +kernel
theorem dX11_dayOf_80 : decode cX11_dayOf 80 = .ok (.iload_n 2, 1) := by decide +kernel
theorem dX11_dayOf_81 : decode cX11_dayOf 81 = .ok (.imul, 1) := by decide +kernel
theorem dX11_dayOf_82 : decode cX11_dayOf 82 = .ok (.iconst 3, 1) := by decide +kernel
theorem dX11_dayOf_83 : decode cX11_dayOf 83 = .ok (.iadd, 1) := by decide +kernel
theorem dX11_dayOf_84 : decode cX11_dayOf 84 = .ok (.iconst 1, 1) := by decide +kernel
theorem dX11_dayOf_85 : decode cX11_dayOf 85 = .ok (.iastore, 1) := by decide +kernel
theorem dX11_dayOf_86 : decode cX11_dayOf 86 = .ok (.iload_n 1, 1) := by decide +kernel
theorem dX11_dayOf_87 : decode cX11_dayOf 87 = .ok (.iconst 1, 1) := by decide +kernel
theorem dX11_dayOf_88 : decode cX11_dayOf 88 = .ok (.iload_n 2, 1) := by decide +kernel
theorem dX11_dayOf_89 : decode cX11_dayOf 89 = .ok (.ishl, 1) := by decide +kernel
theorem dX11_dayOf_90 : decode cX11_dayOf 90 = .ok (.ior, 1) := by decide +kernel
theorem dX11_dayOf_91 : decode cX11_dayOf 91 = .ok (.istore_n 1, 1) := by decide +kernel
theorem dX11_dayOf_92 : decode cX11_dayOf 92 = .ok (.iinc 2 1, 3) := by decide +kernel
theorem dX11_dayOf_95 : decode cX11_dayOf 95 = .ok (.goto (-91), 3) := by decide +kernel
theorem dX11_dayOf_98 : decode cX11_dayOf 98 = .ok (.aload_n 0, 1) := by decide +kernel
theorem dX11_dayOf_99 : decode cX11_dayOf 99 = .ok (.dup, 1) := by decide +kernel
theorem dX11_dayOf_100 : decode cX11_dayOf 100 = .ok (.getfield 89, 3) := by decide +kernel
theorem dX11_dayOf_103 : decode cX11_dayOf 103 = .ok (.iconst 1, 1) := by decide +kernel
theorem dX11_dayOf_104 : decode cX11_dayOf 104 = .ok (.iadd, 1) := by decide +kernel
theorem dX11_dayOf_105 : decode cX11_dayOf 105 = .ok (.putfield 89, 3) := by decide +kernel
theorem dX11_dayOf_108 : decode cX11_dayOf 108 = .ok (.iload_n 1, 1) := by decide +kernel
theorem dX11_dayOf_109 : decode cX11_dayOf 109 = .ok (.ireturn, 1) := by decide +kernel
def J_X11_dayOf_92 (c4 : Nat → Int32 → Int32 → e_G → Option (Int32 × e_G)) (S : e_S) (l0 : Nat) (l1 : Int32) (l2 : Int32) (g : e_G) : Option (Int32 × e_G) :=
  c4 l0 l1 (l2 + (1 : Int32)) g
def L_X11_dayOf_4 : Nat → e_S → Nat → Int32 → Int32 → e_G → Option (Int32 × e_G)
  | 0, _, _, _, _, _ => none
  | n + 1, S, l0, l1, l2, g =>
  (e_gI S g 11 l0 0).bind fun v1 =>
  if v1 ≤ l2 then
    (e_gI S g 11 l0 4).bind fun v3 =>
    (e_sI S g 11 l0 4 (v3 + (1 : Int32))).bind fun g5 =>
    some (l1, g5)
  else
    (e_gR S g 11 l0 3).bind fun v7 =>
    (e_aI S g 0 v7 (((4 : Int32) * l2) + (3 : Int32))).bind fun v9 =>
    if v9 = 0 then
      (e_gR S g 11 l0 3).bind fun v11 =>
      (e_gR S g 11 l0 3).bind fun v13 =>
      (e_aI S g 0 v13 (((4 : Int32) * l2) + (2 : Int32))).bind fun v15 =>
      (f_X11_leansOf S l0 l2 g).bind fun q18 =>
      (f_X11_within S (v15 + q18.1) (0 : Int32) (99 : Int32) q18.2).bind fun q20 =>
      (e_aS S q20.2 0 v11 (((4 : Int32) * l2) + (2 : Int32)) q20.1).bind fun g21 =>
      (e_gR S g21 11 l0 3).bind fun v23 =>
      (e_aI S g21 0 v23 (((4 : Int32) * l2) + (2 : Int32))).bind fun v25 =>
      (f_X11_holdsOf S l0 l2 g21).bind fun q28 =>
      if v25 ≤ q28.1 then
        J_X11_dayOf_92 (L_X11_dayOf_4 n S) S l0 l1 l2 q28.2
      else
        (e_gR S q28.2 11 l0 3).bind fun v29 =>
        (e_aS S q28.2 0 v29 (((4 : Int32) * l2) + (3 : Int32)) (1 : Int32)).bind fun g31 =>
        J_X11_dayOf_92 (L_X11_dayOf_4 n S) S l0 (l1 ||| ((1 : Int32) <<< (l2 &&& 31))) l2 g31
    else
      J_X11_dayOf_92 (L_X11_dayOf_4 n S) S l0 l1 l2 g
def f_X11_dayOf (S : e_S) (l0 : Nat) (g : e_G) : Option (Int32 × e_G) :=
  if e_ob S 11 l0 = true then
    L_X11_dayOf_4 50000 S l0 (0 : Int32) (0 : Int32) g
  else none
theorem x_J_X11_dayOf_92 {l : Launch} {D : va_G} {S : e_S} {w : Int32} {k : e_G} (c4 : Nat → Int32 → Int32 → e_G → Option (Int32 × e_G)) (hc4 : ∀ (l0 : Nat) (l1 : Int32) (l2 : Int32) (g : e_G), c4 l0 l1 l2 g = some (w, k) → X l D (e_R 5) M_X11_dayOf 0 0 4 [(0, .ref l0), (1, .int l1), (2, .int l2)] [] (S, g) (some (.int w)) (S, k)) {l0 : Nat} {l1 : Int32} {l2 : Int32} {g : e_G} (hf : J_X11_dayOf_92 c4 S l0 l1 l2 g = some (w, k)) : X l D (e_R 5) M_X11_dayOf 0 0 92 [(0, .ref l0), (1, .int l1), (2, .int l2)] [] (S, g) (some (.int w)) (S, k) := by
  unfold J_X11_dayOf_92 at hf
  refine X.iinc (j := 2) dX11_dayOf_92 rfl (v := l2 + (1 : Int32)) (by rw [kI_1]) (Nat.le_of_ble_eq_true rfl) (lc' := [(2, .int (l2 + (1 : Int32))), (0, .ref l0), (1, .int l1)]) rfl ?_
  refine X.goto dX11_dayOf_95 (tgt := 4) rfl ?_
  refine X.sub [1, 2, 0] rfl ?_
  exact hc4 _ _ _ _ hf
theorem x_L_X11_dayOf_4 {l : Launch} {D : va_G} {S : e_S} {w : Int32} {k : e_G} : ∀ (n : Nat) (l0 : Nat) (l1 : Int32) (l2 : Int32) (g : e_G), L_X11_dayOf_4 n S l0 l1 l2 g = some (w, k) → X l D (e_R 5) M_X11_dayOf 0 0 4 [(0, .ref l0), (1, .int l1), (2, .int l2)] [] (S, g) (some (.int w)) (S, k) := by
  intro n
  induction n with
  | zero =>
    intro l0 l1 l2 g hf
    cases hf
  | succ n ih =>
    intro l0 l1 l2 g hf
    rw [L_X11_dayOf_4] at hf
    refine X.iload_n dX11_dayOf_4 rfl (j := 2) rfl ?_
    refine X.aload_n dX11_dayOf_5 rfl (j := 0) rfl ?_
    obtain ⟨v1, h2, hf⟩ := ob hf
    refine Y.getI dX11_dayOf_6 fl_X11_75 rfl h2 ?_
    refine X.icmp_ge dX11_dayOf_9 (tgt := 98) rfl (fun hc => ?_) (fun hc => ?_)
    · rw [if_pos hc] at hf
      refine X.aload_n dX11_dayOf_98 rfl (j := 0) rfl ?_
      refine X.dup dX11_dayOf_99 rfl ?_
      obtain ⟨v3, h4, hf⟩ := ob hf
      refine Y.getI dX11_dayOf_100 fl_X11_89 rfl h4 ?_
      refine X.iconst dX11_dayOf_103 kI_1 ?_
      refine X.iadd dX11_dayOf_104 ?_
      obtain ⟨g5, h6, hf⟩ := ob hf
      refine Y.putI dX11_dayOf_105 fl_X11_89 rfl rfl rfl rfl h6 ?_
      refine X.iload_n dX11_dayOf_108 rfl (j := 1) rfl ?_
      obtain ⟨e1, e2⟩ := e_ret hf
      subst e1
      subst e2
      exact X.iret dX11_dayOf_109 rfl rfl
    · rw [if_neg hc] at hf
      refine X.aload_n dX11_dayOf_12 rfl (j := 0) rfl ?_
      obtain ⟨v7, h8, hf⟩ := ob hf
      refine Y.getR dX11_dayOf_13 fl_X11_16 rfl h8 ?_
      refine X.iconst dX11_dayOf_16 kI_4 ?_
      refine X.iload_n dX11_dayOf_17 rfl (j := 2) rfl ?_
      refine X.imul dX11_dayOf_18 ?_
      refine X.iconst dX11_dayOf_19 kI_3 ?_
      refine X.iadd dX11_dayOf_20 ?_
      obtain ⟨v9, h10, hf⟩ := ob hf
      refine Y.iald dX11_dayOf_21 h10 ?_
      refine X.if_ne dX11_dayOf_22 (tgt := 92) rfl (fun hc => ?_) (fun hc => ?_)
      · rw [if_neg hc] at hf
        exact x_J_X11_dayOf_92 _ ih hf
      · rw [if_pos hc] at hf
        refine X.aload_n dX11_dayOf_25 rfl (j := 0) rfl ?_
        obtain ⟨v11, h12, hf⟩ := ob hf
        refine Y.getR dX11_dayOf_26 fl_X11_16 rfl h12 ?_
        refine X.iconst dX11_dayOf_29 kI_4 ?_
        refine X.iload_n dX11_dayOf_30 rfl (j := 2) rfl ?_
        refine X.imul dX11_dayOf_31 ?_
        refine X.iconst dX11_dayOf_32 kI_2 ?_
        refine X.iadd dX11_dayOf_33 ?_
        refine X.aload_n dX11_dayOf_34 rfl (j := 0) rfl ?_
        obtain ⟨v13, h14, hf⟩ := ob hf
        refine Y.getR dX11_dayOf_35 fl_X11_16 rfl h14 ?_
        refine X.iconst dX11_dayOf_38 kI_4 ?_
        refine X.iload_n dX11_dayOf_39 rfl (j := 2) rfl ?_
        refine X.imul dX11_dayOf_40 ?_
        refine X.iconst dX11_dayOf_41 kI_2 ?_
        refine X.iadd dX11_dayOf_42 ?_
        obtain ⟨v15, h16, hf⟩ := ob hf
        refine Y.iald dX11_dayOf_43 h16 ?_
        refine X.aload_n dX11_dayOf_44 rfl (j := 0) rfl ?_
        refine X.iload_n dX11_dayOf_45 rfl (j := 2) rfl ?_
        obtain ⟨q18, h17, hf⟩ := ob hf
        refine Y.callV (av := [.int l2]) (ci := 11) dX11_dayOf_46 (c_X11_leansOf (l := l) (D := D) (w := q18.1) (k := q18.2) h17) cw_X11_195 (by decide) rfl mk_X11_leansOf (o_X11_leansOf (w := q18.1) (k := q18.2) h17) (e_R_ok (Nat.le_of_ble_eq_true rfl) (Nat.le_of_ble_eq_true rfl)) ⟨rfl, rfl⟩ (by simp [Value.category]) ?_
        refine X.iadd dX11_dayOf_49 ?_
        refine X.iconst dX11_dayOf_50 kI_0 ?_
        refine X.bipush dX11_dayOf_51 kB_99 ?_
        obtain ⟨q20, h19, hf⟩ := ob hf
        refine Y.callS (av := [.int (v15 + q18.1), .int (0 : Int32), .int (99 : Int32)]) dX11_dayOf_53 (c_X11_within (l := l) (D := D) (w := q20.1) (k := q20.2) h19) cw_X11_167 mk_X11_within (e_R_ok (Nat.le_of_ble_eq_true rfl) (Nat.le_of_ble_eq_true rfl)) ⟨rfl, rfl⟩ (by simp [Value.category]) ?_
        obtain ⟨g21, h22, hf⟩ := ob hf
        refine Y.iast dX11_dayOf_56 h22 ?_
        refine X.aload_n dX11_dayOf_57 rfl (j := 0) rfl ?_
        obtain ⟨v23, h24, hf⟩ := ob hf
        refine Y.getR dX11_dayOf_58 fl_X11_16 rfl h24 ?_
        refine X.iconst dX11_dayOf_61 kI_4 ?_
        refine X.iload_n dX11_dayOf_62 rfl (j := 2) rfl ?_
        refine X.imul dX11_dayOf_63 ?_
        refine X.iconst dX11_dayOf_64 kI_2 ?_
        refine X.iadd dX11_dayOf_65 ?_
        obtain ⟨v25, h26, hf⟩ := ob hf
        refine Y.iald dX11_dayOf_66 h26 ?_
        refine X.aload_n dX11_dayOf_67 rfl (j := 0) rfl ?_
        refine X.iload_n dX11_dayOf_68 rfl (j := 2) rfl ?_
        obtain ⟨q28, h27, hf⟩ := ob hf
        refine Y.callV (av := [.int l2]) (ci := 11) dX11_dayOf_69 (c_X11_holdsOf (l := l) (D := D) (w := q28.1) (k := q28.2) h27) cw_X11_198 (by decide) rfl mk_X11_holdsOf (o_X11_holdsOf (w := q28.1) (k := q28.2) h27) (e_R_ok (Nat.le_of_ble_eq_true rfl) (Nat.le_of_ble_eq_true rfl)) ⟨rfl, rfl⟩ (by simp [Value.category]) ?_
        refine X.icmp_le dX11_dayOf_72 (tgt := 92) rfl (fun hc => ?_) (fun hc => ?_)
        · rw [if_pos hc] at hf
          exact x_J_X11_dayOf_92 _ ih hf
        · rw [if_neg hc] at hf
          refine X.aload_n dX11_dayOf_75 rfl (j := 0) rfl ?_
          obtain ⟨v29, h30, hf⟩ := ob hf
          refine Y.getR dX11_dayOf_76 fl_X11_16 rfl h30 ?_
          refine X.iconst dX11_dayOf_79 kI_4 ?_
          refine X.iload_n dX11_dayOf_80 rfl (j := 2) rfl ?_
          refine X.imul dX11_dayOf_81 ?_
          refine X.iconst dX11_dayOf_82 kI_3 ?_
          refine X.iadd dX11_dayOf_83 ?_
          refine X.iconst dX11_dayOf_84 kI_1 ?_
          obtain ⟨g31, h32, hf⟩ := ob hf
          refine Y.iast dX11_dayOf_85 h32 ?_
          refine X.iload_n dX11_dayOf_86 rfl (j := 1) rfl ?_
          refine X.iconst dX11_dayOf_87 kI_1 ?_
          refine X.iload_n dX11_dayOf_88 rfl (j := 2) rfl ?_
          refine X.ishl dX11_dayOf_89 ?_
          refine X.ior dX11_dayOf_90 ?_
          refine X.istore_n dX11_dayOf_91 rfl (Nat.le_of_ble_eq_true rfl) (lc' := [(1, .int (l1 ||| ((1 : Int32) <<< (l2 &&& 31)))), (0, .ref l0), (2, .int l2)]) rfl ?_
          refine X.sub [1, 0, 2] rfl ?_
          exact x_J_X11_dayOf_92 _ ih hf
theorem o_X11_dayOf  {S : e_S} {w : Int32} {k : e_G} {l0 : Nat} {g : e_G} (hf : f_X11_dayOf S l0 g = some (w, k)) : e_ob S 11 l0 = true := by
  unfold f_X11_dayOf at hf
  by_cases hc : e_ob S 11 l0 = true
  · exact hc
  · rw [if_neg hc] at hf
    cases hf
theorem c_X11_dayOf {l : Launch} {D : va_G}  {S : e_S} {w : Int32} {k : e_G} {l0 : Nat} {g : e_G} (hf : f_X11_dayOf S l0 g = some (w, k)) : CT l D (e_R 5) M_X11_dayOf [.ref l0] (S, g) (some (.int w)) (S, k) := by
  refine CT.of (by decide +kernel) (Nat.le_of_ble_eq_true rfl) ?_
  have ho := o_X11_dayOf hf
  unfold f_X11_dayOf at hf
  rw [if_pos ho] at hf
  show X l D (e_R 5) M_X11_dayOf 0 0 0 [(0, .ref l0)] [] (S, g) (some (.int w)) (S, k)
  refine X.iconst dX11_dayOf_0 kI_0 ?_
  refine X.istore_n dX11_dayOf_1 rfl (Nat.le_of_ble_eq_true rfl) (lc' := [(1, .int (0 : Int32)), (0, .ref l0)]) rfl ?_
  refine X.iconst dX11_dayOf_2 kI_0 ?_
  refine X.istore_n dX11_dayOf_3 rfl (Nat.le_of_ble_eq_true rfl) (lc' := [(2, .int (0 : Int32)), (1, .int (0 : Int32)), (0, .ref l0)]) rfl ?_
  refine X.sub [2, 1, 0] rfl ?_
  exact x_L_X11_dayOf_4 50000 _ _ _ _ hf
/-! LeanedOutModel.day()I -/
abbrev M_X11_day : e_M := (yX11_day, cX11_day, 1, (some .int))
theorem mk_X11_day : e_Mok M_X11_day 0 := ⟨by decide +kernel, by decide +kernel, by decide +kernel⟩
theorem dX11_day_0 : decode cX11_day 0 = .ok (.aload_n 0, 1) := by decide +kernel
theorem dX11_day_1 : decode cX11_day 1 = .ok (.getfield 89, 3) := by decide +kernel
theorem dX11_day_4 : decode cX11_day 4 = .ok (.sipush 999, 3) := by decide +kernel
theorem dX11_day_7 : decode cX11_day 7 = .ok (.if_icmp .ne 8, 3) := by decide +kernel
theorem dX11_day_10 : decode cX11_day 10 = .ok (.bipush (-3), 2) := by decide +kernel
theorem dX11_day_12 : decode cX11_day 12 = .ok (.goto 7, 3) := by decide +kernel
theorem dX11_day_15 : decode cX11_day 15 = .ok (.aload_n 0, 1) := by decide +kernel
theorem dX11_day_16 : decode cX11_day 16 = .ok (.invokevirtual 219, 3) := by decide +kernel
theorem dX11_day_19 : decode cX11_day 19 = .ok (.ireturn, 1) := by decide +kernel
def f_X11_day (S : e_S) (l0 : Nat) (g : e_G) : Option (Int32 × e_G) :=
  if e_ob S 11 l0 = true then
    (e_gI S g 11 l0 4).bind fun v1 =>
    if v1 = (999 : Int32) then
      some ((-3 : Int32), g)
    else
      (f_X11_dayOf S l0 g).bind fun q4 =>
      some (q4.1, q4.2)
  else none
theorem o_X11_day  {S : e_S} {w : Int32} {k : e_G} {l0 : Nat} {g : e_G} (hf : f_X11_day S l0 g = some (w, k)) : e_ob S 11 l0 = true := by
  unfold f_X11_day at hf
  by_cases hc : e_ob S 11 l0 = true
  · exact hc
  · rw [if_neg hc] at hf
    cases hf
theorem c_X11_day {l : Launch} {D : va_G}  {S : e_S} {w : Int32} {k : e_G} {l0 : Nat} {g : e_G} (hf : f_X11_day S l0 g = some (w, k)) : CT l D (e_R 6) M_X11_day [.ref l0] (S, g) (some (.int w)) (S, k) := by
  refine CT.of (by decide +kernel) (Nat.le_of_ble_eq_true rfl) ?_
  have ho := o_X11_day hf
  unfold f_X11_day at hf
  rw [if_pos ho] at hf
  show X l D (e_R 6) M_X11_day 0 0 0 [(0, .ref l0)] [] (S, g) (some (.int w)) (S, k)
  refine X.aload_n dX11_day_0 rfl (j := 0) rfl ?_
  obtain ⟨v1, h2, hf⟩ := ob hf
  refine Y.getI dX11_day_1 fl_X11_89 rfl h2 ?_
  refine X.sipush dX11_day_4 kS_999 ?_
  refine X.icmp_ne dX11_day_7 (tgt := 15) rfl (fun hc => ?_) (fun hc => ?_)
  · rw [if_neg hc] at hf
    refine X.aload_n dX11_day_15 rfl (j := 0) rfl ?_
    obtain ⟨q4, h3, hf⟩ := ob hf
    refine Y.callV (av := []) (ci := 11) dX11_day_16 (c_X11_dayOf (l := l) (D := D) (w := q4.1) (k := q4.2) h3) cw_X11_219 (by decide) rfl mk_X11_dayOf (o_X11_dayOf (w := q4.1) (k := q4.2) h3) (e_R_ok (Nat.le_of_ble_eq_true rfl) (Nat.le_of_ble_eq_true rfl)) ⟨rfl, rfl⟩ (by simp [Value.category]) ?_
    obtain ⟨e1, e2⟩ := e_ret hf
    subst e1
    subst e2
    exact X.iret dX11_day_19 rfl rfl
  · rw [if_pos hc] at hf
    refine X.bipush dX11_day_10 kB_m3 ?_
    refine X.goto dX11_day_12 (tgt := 19) rfl ?_
    obtain ⟨e1, e2⟩ := e_ret hf
    subst e1
    subst e2
    exact X.iret dX11_day_19 rfl rfl
/-! LeanedOutModel.callIn(I)I -/
abbrev M_X11_callIn : e_M := (yX11_callIn, cX11_callIn, 3, (some .int))
theorem mk_X11_callIn : e_Mok M_X11_callIn 1 := ⟨by decide +kernel, by decide +kernel, by decide +kernel⟩
theorem dX11_callIn_0 : decode cX11_callIn 0 = .ok (.aload_n 0, 1) := by decide +kernel
theorem dX11_callIn_1 : decode cX11_callIn 1 = .ok (.iload_n 1, 1) := by decide +kernel
theorem dX11_callIn_2 : decode cX11_callIn 2 = .ok (.invokevirtual 179, 3) := by decide +kernel
theorem dX11_callIn_5 : decode cX11_callIn 5 = .ok (.ifCond .ne 6, 3) := by decide +kernel
theorem dX11_callIn_8 : decode cX11_callIn 8 = .ok (.bipush (-5), 2) := by decide +kernel
theorem dX11_callIn_10 : decode cX11_callIn 10 = .ok (.ireturn, 1) := by decide +kernel
theorem dX11_callIn_11 : decode cX11_callIn 11 = .ok (.aload_n 0, 1) := by decide +kernel
theorem dX11_callIn_12 : decode cX11_callIn 12 = .ok (.getfield 16, 3) := by decide +kernel
theorem dX11_callIn_15 : decode cX11_callIn 15 = .ok (.iconst 4, 1) := by decide +kernel
theorem dX11_callIn_16 : decode cX11_callIn 16 = .ok (.iload_n 1, 1) := by decide +kernel
theorem dX11_callIn_17 : decode cX11_callIn 17 = .ok (.imul, 1) := by decide +kernel
theorem dX11_callIn_18 : decode cX11_callIn 18 = .ok (.iconst 3, 1) := by decide +kernel
theorem dX11_callIn_19 : decode cX11_callIn 19 = .ok (.iadd, 1) := by decide +kernel
theorem dX11_callIn_20 : decode cX11_callIn 20 = .ok (.iaload, 1) := by decide +kernel
theorem dX11_callIn_21 : decode cX11_callIn 21 = .ok (.iconst 1, 1) := by decide +kernel
theorem dX11_callIn_22 : decode cX11_callIn 22 = .ok (.if_icmp .ne 6, 3) := by decide +kernel
theorem dX11_callIn_25 : decode cX11_callIn 25 = .ok (.bipush (-3), 2) := by decide +kernel
theorem dX11_callIn_27 : decode cX11_callIn 27 = .ok (.ireturn, 1) := by decide +kernel
theorem dX11_callIn_28 : decode cX11_callIn 28 = .ok (.aload_n 0, 1) := by decide +kernel
theorem dX11_callIn_29 : decode cX11_callIn 29 = .ok (.getfield 16, 3) := by decide +kernel
theorem dX11_callIn_32 : decode cX11_callIn 32 = .ok (.iconst 4, 1) := by decide +kernel
theorem dX11_callIn_33 : decode cX11_callIn 33 = .ok (.iload_n 1, 1) := by decide +kernel
theorem dX11_callIn_34 : decode cX11_callIn 34 = .ok (.imul, 1) := by decide +kernel
theorem dX11_callIn_35 : decode cX11_callIn 35 = .ok (.iconst 2, 1) := by decide +kernel
theorem dX11_callIn_36 : decode cX11_callIn 36 = .ok (.iadd, 1) := by decide +kernel
theorem dX11_callIn_37 : decode cX11_callIn 37 = .ok (.iaload, 1) := by decide +kernel
theorem dX11_callIn_38 : decode cX11_callIn 38 = .ok (.istore_n 2, 1) := by decide +kernel
theorem dX11_callIn_39 : decode cX11_callIn 39 = .ok (.aload_n 0, 1) := by decide +kernel
theorem dX11_callIn_40 : decode cX11_callIn 40 = .ok (.getfield 16, 3) := by decide +kernel
theorem dX11_callIn_43 : decode cX11_callIn 43 = .ok (.iconst 4, 1) := by decide +kernel
theorem dX11_callIn_44 : decode cX11_callIn 44 = .ok (.iload_n 1, 1) := by decide +kernel
theorem dX11_callIn_45 : decode cX11_callIn 45 = .ok (.imul, 1) := by decide +kernel
theorem dX11_callIn_46 : decode cX11_callIn 46 = .ok (.iconst 2, 1) := by decide +kernel
theorem dX11_callIn_47 : decode cX11_callIn 47 = .ok (.iadd, 1) := by decide +kernel
theorem dX11_callIn_48 : decode cX11_callIn 48 = .ok (.iconst 0, 1) := by decide +kernel
theorem dX11_callIn_49 : decode cX11_callIn 49 = .ok (.iastore, 1) := by decide +kernel
theorem dX11_callIn_50 : decode cX11_callIn 50 = .ok (.iload_n 2, 1) := by decide +kernel
theorem dX11_callIn_51 : decode cX11_callIn 51 = .ok (.ireturn, 1) := by decide +kernel
def f_X11_callIn (S : e_S) (l0 : Nat) (l1 : Int32) (g : e_G) : Option (Int32 × e_G) :=
  if e_ob S 11 l0 = true then
    (f_X11_isOne S l0 l1 g).bind fun q2 =>
    if q2.1 = 0 then
      some ((-5 : Int32), q2.2)
    else
      (e_gR S q2.2 11 l0 3).bind fun v3 =>
      (e_aI S q2.2 0 v3 (((4 : Int32) * l1) + (3 : Int32))).bind fun v5 =>
      if v5 = (1 : Int32) then
        some ((-3 : Int32), q2.2)
      else
        (e_gR S q2.2 11 l0 3).bind fun v7 =>
        (e_aI S q2.2 0 v7 (((4 : Int32) * l1) + (2 : Int32))).bind fun v9 =>
        (e_gR S q2.2 11 l0 3).bind fun v11 =>
        (e_aS S q2.2 0 v11 (((4 : Int32) * l1) + (2 : Int32)) (0 : Int32)).bind fun g13 =>
        some (v9, g13)
  else none
theorem o_X11_callIn  {S : e_S} {w : Int32} {k : e_G} {l0 : Nat} {l1 : Int32} {g : e_G} (hf : f_X11_callIn S l0 l1 g = some (w, k)) : e_ob S 11 l0 = true := by
  unfold f_X11_callIn at hf
  by_cases hc : e_ob S 11 l0 = true
  · exact hc
  · rw [if_neg hc] at hf
    cases hf
theorem c_X11_callIn {l : Launch} {D : va_G}  {S : e_S} {w : Int32} {k : e_G} {l0 : Nat} {l1 : Int32} {g : e_G} (hf : f_X11_callIn S l0 l1 g = some (w, k)) : CT l D (e_R 3) M_X11_callIn [.ref l0, .int l1] (S, g) (some (.int w)) (S, k) := by
  refine CT.of (by decide +kernel) (Nat.le_of_ble_eq_true rfl) ?_
  have ho := o_X11_callIn hf
  unfold f_X11_callIn at hf
  rw [if_pos ho] at hf
  show X l D (e_R 3) M_X11_callIn 0 0 0 [(0, .ref l0), (1, .int l1)] [] (S, g) (some (.int w)) (S, k)
  refine X.aload_n dX11_callIn_0 rfl (j := 0) rfl ?_
  refine X.iload_n dX11_callIn_1 rfl (j := 1) rfl ?_
  obtain ⟨q2, h1, hf⟩ := ob hf
  refine Y.callV (av := [.int l1]) (ci := 11) dX11_callIn_2 (c_X11_isOne (l := l) (D := D) (w := q2.1) (k := q2.2) h1) cw_X11_179 (by decide) rfl mk_X11_isOne (o_X11_isOne (w := q2.1) (k := q2.2) h1) (e_R_ok (Nat.le_of_ble_eq_true rfl) (Nat.le_of_ble_eq_true rfl)) ⟨rfl, rfl⟩ (by simp [Value.category]) ?_
  refine X.if_ne dX11_callIn_5 (tgt := 11) rfl (fun hc => ?_) (fun hc => ?_)
  · rw [if_neg hc] at hf
    refine X.aload_n dX11_callIn_11 rfl (j := 0) rfl ?_
    obtain ⟨v3, h4, hf⟩ := ob hf
    refine Y.getR dX11_callIn_12 fl_X11_16 rfl h4 ?_
    refine X.iconst dX11_callIn_15 kI_4 ?_
    refine X.iload_n dX11_callIn_16 rfl (j := 1) rfl ?_
    refine X.imul dX11_callIn_17 ?_
    refine X.iconst dX11_callIn_18 kI_3 ?_
    refine X.iadd dX11_callIn_19 ?_
    obtain ⟨v5, h6, hf⟩ := ob hf
    refine Y.iald dX11_callIn_20 h6 ?_
    refine X.iconst dX11_callIn_21 kI_1 ?_
    refine X.icmp_ne dX11_callIn_22 (tgt := 28) rfl (fun hc => ?_) (fun hc => ?_)
    · rw [if_neg hc] at hf
      refine X.aload_n dX11_callIn_28 rfl (j := 0) rfl ?_
      obtain ⟨v7, h8, hf⟩ := ob hf
      refine Y.getR dX11_callIn_29 fl_X11_16 rfl h8 ?_
      refine X.iconst dX11_callIn_32 kI_4 ?_
      refine X.iload_n dX11_callIn_33 rfl (j := 1) rfl ?_
      refine X.imul dX11_callIn_34 ?_
      refine X.iconst dX11_callIn_35 kI_2 ?_
      refine X.iadd dX11_callIn_36 ?_
      obtain ⟨v9, h10, hf⟩ := ob hf
      refine Y.iald dX11_callIn_37 h10 ?_
      refine X.istore_n dX11_callIn_38 rfl (Nat.le_of_ble_eq_true rfl) (lc' := [(2, .int v9), (0, .ref l0), (1, .int l1)]) rfl ?_
      refine X.aload_n dX11_callIn_39 rfl (j := 1) rfl ?_
      obtain ⟨v11, h12, hf⟩ := ob hf
      refine Y.getR dX11_callIn_40 fl_X11_16 rfl h12 ?_
      refine X.iconst dX11_callIn_43 kI_4 ?_
      refine X.iload_n dX11_callIn_44 rfl (j := 2) rfl ?_
      refine X.imul dX11_callIn_45 ?_
      refine X.iconst dX11_callIn_46 kI_2 ?_
      refine X.iadd dX11_callIn_47 ?_
      refine X.iconst dX11_callIn_48 kI_0 ?_
      obtain ⟨g13, h14, hf⟩ := ob hf
      refine Y.iast dX11_callIn_49 h14 ?_
      refine X.iload_n dX11_callIn_50 rfl (j := 0) rfl ?_
      obtain ⟨e1, e2⟩ := e_ret hf
      subst e1
      subst e2
      exact X.iret dX11_callIn_51 rfl rfl
    · rw [if_pos hc] at hf
      refine X.bipush dX11_callIn_25 kB_m3 ?_
      obtain ⟨e1, e2⟩ := e_ret hf
      subst e1
      subst e2
      exact X.iret dX11_callIn_27 rfl rfl
  · rw [if_pos hc] at hf
    refine X.bipush dX11_callIn_8 kB_m5 ?_
    obtain ⟨e1, e2⟩ := e_ret hf
    subst e1
    subst e2
    exact X.iret dX11_callIn_10 rfl rfl
/-! LeanedOutModel.crane(II)I -/
abbrev M_X11_crane : e_M := (yX11_crane, cX11_crane, 4, (some .int))
theorem mk_X11_crane : e_Mok M_X11_crane 2 := ⟨by decide +kernel, by decide +kernel, by decide +kernel⟩
theorem dX11_crane_0 : decode cX11_crane 0 = .ok (.aload_n 0, 1) := by decide +kernel
theorem dX11_crane_1 : decode cX11_crane 1 = .ok (.iload_n 1, 1) := by decide +kernel
theorem dX11_crane_2 : decode cX11_crane 2 = .ok (.invokevirtual 179, 3) := by decide +kernel
theorem dX11_crane_5 : decode cX11_crane 5 = .ok (.ifCond .ne 6, 3) := by decide +kernel
theorem dX11_crane_8 : decode cX11_crane 8 = .ok (.bipush (-5), 2) := by decide +kernel
theorem dX11_crane_10 : decode cX11_crane 10 = .ok (.ireturn, 1) := by decide +kernel
theorem dX11_crane_11 : decode cX11_crane 11 = .ok (.aload_n 0, 1) := by decide +kernel
theorem dX11_crane_12 : decode cX11_crane 12 = .ok (.getfield 16, 3) := by decide +kernel
theorem dX11_crane_15 : decode cX11_crane 15 = .ok (.iconst 4, 1) := by decide +kernel
theorem dX11_crane_16 : decode cX11_crane 16 = .ok (.iload_n 1, 1) := by decide +kernel
theorem dX11_crane_17 : decode cX11_crane 17 = .ok (.imul, 1) := by decide +kernel
theorem dX11_crane_18 : decode cX11_crane 18 = .ok (.iaload, 1) := by decide +kernel
theorem dX11_crane_19 : decode cX11_crane 19 = .ok (.iload_n 2, 1) := by decide +kernel
theorem dX11_crane_20 : decode cX11_crane 20 = .ok (.invokestatic 185, 3) := by decide +kernel
theorem dX11_crane_23 : decode cX11_crane 23 = .ok (.ifCond .ne 6, 3) := by decide +kernel
theorem dX11_crane_26 : decode cX11_crane 26 = .ok (.bipush (-7), 2) := by decide +kernel
theorem dX11_crane_28 : decode cX11_crane 28 = .ok (.ireturn, 1) := by decide +kernel
theorem dX11_crane_29 : decode cX11_crane 29 = .ok (.aload_n 0, 1) := by decide +kernel
theorem dX11_crane_30 : decode cX11_crane 30 = .ok (.getfield 16, 3) := by decide +kernel
theorem dX11_crane_33 : decode cX11_crane 33 = .ok (.iconst 4, 1) := by decide +kernel
theorem dX11_crane_34 : decode cX11_crane 34 = .ok (.iload_n 1, 1) := by decide +kernel
theorem dX11_crane_35 : decode cX11_crane 35 = .ok (.imul, 1) := by decide +kernel
theorem dX11_crane_36 : decode cX11_crane 36 = .ok (.iconst 1, 1) := by decide +kernel
theorem dX11_crane_37 : decode cX11_crane 37 = .ok (.iadd, 1) := by decide +kernel
theorem dX11_crane_38 : decode cX11_crane 38 = .ok (.iaload, 1) := by decide +kernel
theorem dX11_crane_39 : decode cX11_crane 39 = .ok (.istore_n 3, 1) := by decide +kernel
theorem dX11_crane_40 : decode cX11_crane 40 = .ok (.aload_n 0, 1) := by decide +kernel
theorem dX11_crane_41 : decode cX11_crane 41 = .ok (.getfield 16, 3) := by decide +kernel
theorem dX11_crane_44 : decode cX11_crane 44 = .ok (.iconst 4, 1) := by decide +kernel
theorem dX11_crane_45 : decode cX11_crane 45 = .ok (.iload_n 1, 1) := by decide +kernel
theorem dX11_crane_46 : decode cX11_crane 46 = .ok (.imul, 1) := by decide +kernel
theorem dX11_crane_47 : decode cX11_crane 47 = .ok (.iconst 1, 1) := by decide +kernel
theorem dX11_crane_48 : decode cX11_crane 48 = .ok (.iadd, 1) := by decide +kernel
theorem dX11_crane_49 : decode cX11_crane 49 = .ok (.iload_n 2, 1) := by decide +kernel
theorem dX11_crane_50 : decode cX11_crane 50 = .ok (.iastore, 1) := by decide +kernel
theorem dX11_crane_51 : decode cX11_crane 51 = .ok (.iload_n 3, 1) := by decide +kernel
theorem dX11_crane_52 : decode cX11_crane 52 = .ok (.ireturn, 1) := by decide +kernel
def f_X11_crane (S : e_S) (l0 : Nat) (l1 : Int32) (l2 : Int32) (g : e_G) : Option (Int32 × e_G) :=
  if e_ob S 11 l0 = true then
    (f_X11_isOne S l0 l1 g).bind fun q2 =>
    if q2.1 = 0 then
      some ((-5 : Int32), q2.2)
    else
      (e_gR S q2.2 11 l0 3).bind fun v3 =>
      (e_aI S q2.2 0 v3 ((4 : Int32) * l1)).bind fun v5 =>
      (f_X11_areAcross S v5 l2 q2.2).bind fun q8 =>
      if q8.1 = 0 then
        some ((-7 : Int32), q8.2)
      else
        (e_gR S q8.2 11 l0 3).bind fun v9 =>
        (e_aI S q8.2 0 v9 (((4 : Int32) * l1) + (1 : Int32))).bind fun v11 =>
        (e_gR S q8.2 11 l0 3).bind fun v13 =>
        (e_aS S q8.2 0 v13 (((4 : Int32) * l1) + (1 : Int32)) l2).bind fun g15 =>
        some (v11, g15)
  else none
theorem o_X11_crane  {S : e_S} {w : Int32} {k : e_G} {l0 : Nat} {l1 : Int32} {l2 : Int32} {g : e_G} (hf : f_X11_crane S l0 l1 l2 g = some (w, k)) : e_ob S 11 l0 = true := by
  unfold f_X11_crane at hf
  by_cases hc : e_ob S 11 l0 = true
  · exact hc
  · rw [if_neg hc] at hf
    cases hf
theorem c_X11_crane {l : Launch} {D : va_G}  {S : e_S} {w : Int32} {k : e_G} {l0 : Nat} {l1 : Int32} {l2 : Int32} {g : e_G} (hf : f_X11_crane S l0 l1 l2 g = some (w, k)) : CT l D (e_R 3) M_X11_crane [.ref l0, .int l1, .int l2] (S, g) (some (.int w)) (S, k) := by
  refine CT.of (by decide +kernel) (Nat.le_of_ble_eq_true rfl) ?_
  have ho := o_X11_crane hf
  unfold f_X11_crane at hf
  rw [if_pos ho] at hf
  show X l D (e_R 3) M_X11_crane 0 0 0 [(0, .ref l0), (1, .int l1), (2, .int l2)] [] (S, g) (some (.int w)) (S, k)
  refine X.aload_n dX11_crane_0 rfl (j := 0) rfl ?_
  refine X.iload_n dX11_crane_1 rfl (j := 1) rfl ?_
  obtain ⟨q2, h1, hf⟩ := ob hf
  refine Y.callV (av := [.int l1]) (ci := 11) dX11_crane_2 (c_X11_isOne (l := l) (D := D) (w := q2.1) (k := q2.2) h1) cw_X11_179 (by decide) rfl mk_X11_isOne (o_X11_isOne (w := q2.1) (k := q2.2) h1) (e_R_ok (Nat.le_of_ble_eq_true rfl) (Nat.le_of_ble_eq_true rfl)) ⟨rfl, rfl⟩ (by simp [Value.category]) ?_
  refine X.if_ne dX11_crane_5 (tgt := 11) rfl (fun hc => ?_) (fun hc => ?_)
  · rw [if_neg hc] at hf
    refine X.aload_n dX11_crane_11 rfl (j := 0) rfl ?_
    obtain ⟨v3, h4, hf⟩ := ob hf
    refine Y.getR dX11_crane_12 fl_X11_16 rfl h4 ?_
    refine X.iconst dX11_crane_15 kI_4 ?_
    refine X.iload_n dX11_crane_16 rfl (j := 1) rfl ?_
    refine X.imul dX11_crane_17 ?_
    obtain ⟨v5, h6, hf⟩ := ob hf
    refine Y.iald dX11_crane_18 h6 ?_
    refine X.iload_n dX11_crane_19 rfl (j := 2) rfl ?_
    obtain ⟨q8, h7, hf⟩ := ob hf
    refine Y.callS (av := [.int v5, .int l2]) dX11_crane_20 (c_X11_areAcross (l := l) (D := D) (w := q8.1) (k := q8.2) h7) cw_X11_185 mk_X11_areAcross (e_R_ok (Nat.le_of_ble_eq_true rfl) (Nat.le_of_ble_eq_true rfl)) ⟨rfl, rfl⟩ (by simp [Value.category]) ?_
    refine X.if_ne dX11_crane_23 (tgt := 29) rfl (fun hc => ?_) (fun hc => ?_)
    · rw [if_neg hc] at hf
      refine X.aload_n dX11_crane_29 rfl (j := 0) rfl ?_
      obtain ⟨v9, h10, hf⟩ := ob hf
      refine Y.getR dX11_crane_30 fl_X11_16 rfl h10 ?_
      refine X.iconst dX11_crane_33 kI_4 ?_
      refine X.iload_n dX11_crane_34 rfl (j := 1) rfl ?_
      refine X.imul dX11_crane_35 ?_
      refine X.iconst dX11_crane_36 kI_1 ?_
      refine X.iadd dX11_crane_37 ?_
      obtain ⟨v11, h12, hf⟩ := ob hf
      refine Y.iald dX11_crane_38 h12 ?_
      refine X.istore_n dX11_crane_39 rfl (Nat.le_of_ble_eq_true rfl) (lc' := [(3, .int v11), (0, .ref l0), (1, .int l1), (2, .int l2)]) rfl ?_
      refine X.aload_n dX11_crane_40 rfl (j := 1) rfl ?_
      obtain ⟨v13, h14, hf⟩ := ob hf
      refine Y.getR dX11_crane_41 fl_X11_16 rfl h14 ?_
      refine X.iconst dX11_crane_44 kI_4 ?_
      refine X.iload_n dX11_crane_45 rfl (j := 2) rfl ?_
      refine X.imul dX11_crane_46 ?_
      refine X.iconst dX11_crane_47 kI_1 ?_
      refine X.iadd dX11_crane_48 ?_
      refine X.iload_n dX11_crane_49 rfl (j := 3) rfl ?_
      obtain ⟨g15, h16, hf⟩ := ob hf
      refine Y.iast dX11_crane_50 h16 ?_
      refine X.iload_n dX11_crane_51 rfl (j := 0) rfl ?_
      obtain ⟨e1, e2⟩ := e_ret hf
      subst e1
      subst e2
      exact X.iret dX11_crane_52 rfl rfl
    · rw [if_pos hc] at hf
      refine X.bipush dX11_crane_26 kB_m7 ?_
      obtain ⟨e1, e2⟩ := e_ret hf
      subst e1
      subst e2
      exact X.iret dX11_crane_28 rfl rfl
  · rw [if_pos hc] at hf
    refine X.bipush dX11_crane_8 kB_m5 ?_
    obtain ⟨e1, e2⟩ := e_ret hf
    subst e1
    subst e2
    exact X.iret dX11_crane_10 rfl rfl
/-! LeanedOutModel.keepsAll()V -/
abbrev M_X11_keepsAll : e_M := (yX11_keepsAll, cX11_keepsAll, 2, none)
theorem mk_X11_keepsAll : e_Mok M_X11_keepsAll 0 := ⟨by decide +kernel, by decide +kernel, by decide +kernel⟩
theorem dX11_keepsAll_0 : decode cX11_keepsAll 0 = .ok (.iconst 0, 1) := by decide +kernel
theorem dX11_keepsAll_1 : decode cX11_keepsAll 1 = .ok (.istore_n 1, 1) := by decide +kernel
theorem dX11_keepsAll_2 : decode cX11_keepsAll 2 = .ok (.iload_n 1, 1) := by decide +kernel
theorem dX11_keepsAll_3 : decode cX11_keepsAll 3 = .ok (.bipush 24, 2) := by decide +kernel
theorem dX11_keepsAll_5 : decode cX11_keepsAll 5 = .ok (.if_icmp .ge 21, 3) := by decide +kernel
theorem dX11_keepsAll_8 : decode cX11_keepsAll 8 = .ok (.aload_n 0, 1) := by decide +kernel
theorem dX11_keepsAll_9 : decode cX11_keepsAll 9 = .ok (.getfield 58, 3) := by decide +kernel
theorem dX11_keepsAll_12 : decode cX11_keepsAll 12 = .ok (.iload_n 1, 1) := by decide +kernel
theorem dX11_keepsAll_13 : decode cX11_keepsAll 13 = .ok (.aload_n 0, 1) := by decide +kernel
theorem dX11_keepsAll_14 : decode cX11_keepsAll 14 = .ok (.getfield 16, 3) := by decide +kernel
theorem dX11_keepsAll_17 : decode cX11_keepsAll 17 = .ok (.iload_n 1, 1) := by decide +kernel
theorem dX11_keepsAll_18 : decode cX11_keepsAll 18 = .ok (.iaload, 1) := by decide +kernel
theorem dX11_keepsAll_19 : decode cX11_keepsAll 19 = .ok (.iastore, 1) := by decide +kernel
theorem dX11_keepsAll_20 : decode cX11_keepsAll 20 = .ok (.iinc 1 1, 3) := by decide +kernel
theorem dX11_keepsAll_23 : decode cX11_keepsAll 23 = .ok (.goto (-21), 3) := by decide +kernel
theorem dX11_keepsAll_26 : decode cX11_keepsAll 26 = .ok (.aload_n 0, 1) := by decide +kernel
theorem dX11_keepsAll_27 : decode cX11_keepsAll 27 = .ok (.getfield 58, 3) := by decide +kernel
theorem dX11_keepsAll_30 : decode cX11_keepsAll 30 = .ok (.bipush 24, 2) := by decide +kernel
theorem dX11_keepsAll_32 : decode cX11_keepsAll 32 = .ok (.aload_n 0, 1) := by decide +kernel
theorem dX11_keepsAll_33 : decode cX11_keepsAll 33 = .ok (.getfield 89, 3) := by decide +kernel
theorem dX11_keepsAll_36 : decode cX11_keepsAll 36 = .ok (.iastore, 1) := by decide +kernel
theorem dX11_keepsAll_37 : decode cX11_keepsAll 37 = .ok (.return_, 1) := by decide +kernel
def L_X11_keepsAll_2 : Nat → e_S → Nat → Int32 → e_G → Option (e_G)
  | 0, _, _, _, _ => none
  | n + 1, S, l0, l1, g =>
  if (24 : Int32) ≤ l1 then
    (e_gR S g 11 l0 29).bind fun v1 =>
    (e_gI S g 11 l0 4).bind fun v3 =>
    (e_aS S g 0 v1 (24 : Int32) v3).bind fun g5 =>
    some g5
  else
    (e_gR S g 11 l0 29).bind fun v7 =>
    (e_gR S g 11 l0 3).bind fun v9 =>
    (e_aI S g 0 v9 l1).bind fun v11 =>
    (e_aS S g 0 v7 l1 v11).bind fun g13 =>
    L_X11_keepsAll_2 n S l0 (l1 + (1 : Int32)) g13
def f_X11_keepsAll (S : e_S) (l0 : Nat) (g : e_G) : Option (e_G) :=
  if e_ob S 11 l0 = true then
    L_X11_keepsAll_2 50000 S l0 (0 : Int32) g
  else none
theorem x_L_X11_keepsAll_2 {l : Launch} {D : va_G} {S : e_S} {k : e_G} : ∀ (n : Nat) (l0 : Nat) (l1 : Int32) (g : e_G), L_X11_keepsAll_2 n S l0 l1 g = some k → X l D (e_R 1) M_X11_keepsAll 0 0 2 [(0, .ref l0), (1, .int l1)] [] (S, g) none (S, k) := by
  intro n
  induction n with
  | zero =>
    intro l0 l1 g hf
    cases hf
  | succ n ih =>
    intro l0 l1 g hf
    rw [L_X11_keepsAll_2] at hf
    refine X.iload_n dX11_keepsAll_2 rfl (j := 1) rfl ?_
    refine X.bipush dX11_keepsAll_3 kB_24 ?_
    refine X.icmp_ge dX11_keepsAll_5 (tgt := 26) rfl (fun hc => ?_) (fun hc => ?_)
    · rw [if_pos hc] at hf
      refine X.aload_n dX11_keepsAll_26 rfl (j := 0) rfl ?_
      obtain ⟨v1, h2, hf⟩ := ob hf
      refine Y.getR dX11_keepsAll_27 fl_X11_58 rfl h2 ?_
      refine X.bipush dX11_keepsAll_30 kB_24 ?_
      refine X.aload_n dX11_keepsAll_32 rfl (j := 0) rfl ?_
      obtain ⟨v3, h4, hf⟩ := ob hf
      refine Y.getI dX11_keepsAll_33 fl_X11_89 rfl h4 ?_
      obtain ⟨g5, h6, hf⟩ := ob hf
      refine Y.iast dX11_keepsAll_36 h6 ?_
      have e1 := Option.some.inj hf
      subst e1
      exact X.vret dX11_keepsAll_37 rfl
    · rw [if_neg hc] at hf
      refine X.aload_n dX11_keepsAll_8 rfl (j := 0) rfl ?_
      obtain ⟨v7, h8, hf⟩ := ob hf
      refine Y.getR dX11_keepsAll_9 fl_X11_58 rfl h8 ?_
      refine X.iload_n dX11_keepsAll_12 rfl (j := 1) rfl ?_
      refine X.aload_n dX11_keepsAll_13 rfl (j := 0) rfl ?_
      obtain ⟨v9, h10, hf⟩ := ob hf
      refine Y.getR dX11_keepsAll_14 fl_X11_16 rfl h10 ?_
      refine X.iload_n dX11_keepsAll_17 rfl (j := 1) rfl ?_
      obtain ⟨v11, h12, hf⟩ := ob hf
      refine Y.iald dX11_keepsAll_18 h12 ?_
      obtain ⟨g13, h14, hf⟩ := ob hf
      refine Y.iast dX11_keepsAll_19 h14 ?_
      refine X.iinc (j := 1) dX11_keepsAll_20 rfl (v := l1 + (1 : Int32)) (by rw [kI_1]) (Nat.le_of_ble_eq_true rfl) (lc' := [(1, .int (l1 + (1 : Int32))), (0, .ref l0)]) rfl ?_
      refine X.goto dX11_keepsAll_23 (tgt := 2) rfl ?_
      refine X.sub [1, 0] rfl ?_
      exact ih _ _ _ hf
theorem o_X11_keepsAll  {S : e_S} {k : e_G} {l0 : Nat} {g : e_G} (hf : f_X11_keepsAll S l0 g = some k) : e_ob S 11 l0 = true := by
  unfold f_X11_keepsAll at hf
  by_cases hc : e_ob S 11 l0 = true
  · exact hc
  · rw [if_neg hc] at hf
    cases hf
theorem c_X11_keepsAll {l : Launch} {D : va_G}  {S : e_S} {k : e_G} {l0 : Nat} {g : e_G} (hf : f_X11_keepsAll S l0 g = some k) : CT l D (e_R 1) M_X11_keepsAll [.ref l0] (S, g) none (S, k) := by
  refine CT.of (by decide +kernel) (Nat.le_of_ble_eq_true rfl) ?_
  have ho := o_X11_keepsAll hf
  unfold f_X11_keepsAll at hf
  rw [if_pos ho] at hf
  show X l D (e_R 1) M_X11_keepsAll 0 0 0 [(0, .ref l0)] [] (S, g) none (S, k)
  refine X.iconst dX11_keepsAll_0 kI_0 ?_
  refine X.istore_n dX11_keepsAll_1 rfl (Nat.le_of_ble_eq_true rfl) (lc' := [(1, .int (0 : Int32)), (0, .ref l0)]) rfl ?_
  refine X.sub [1, 0] rfl ?_
  exact x_L_X11_keepsAll_2 50000 _ _ _ hf
/-! LeanedOutModel.lays()V -/
abbrev M_X11_lays : e_M := (yX11_lays, cX11_lays, 2, none)
theorem mk_X11_lays : e_Mok M_X11_lays 0 := ⟨by decide +kernel, by decide +kernel, by decide +kernel⟩
theorem dX11_lays_0 : decode cX11_lays 0 = .ok (.iconst 0, 1) := by decide +kernel
theorem dX11_lays_1 : decode cX11_lays 1 = .ok (.istore_n 1, 1) := by decide +kernel
theorem dX11_lays_2 : decode cX11_lays 2 = .ok (.iload_n 1, 1) := by decide +kernel
theorem dX11_lays_3 : decode cX11_lays 3 = .ok (.bipush 24, 2) := by decide +kernel
theorem dX11_lays_5 : decode cX11_lays 5 = .ok (.if_icmp .ge 21, 3) := by decide +kernel
theorem dX11_lays_8 : decode cX11_lays 8 = .ok (.aload_n 0, 1) := by decide +kernel
theorem dX11_lays_9 : decode cX11_lays 9 = .ok (.getfield 16, 3) := by decide +kernel
theorem dX11_lays_12 : decode cX11_lays 12 = .ok (.iload_n 1, 1) := by decide +kernel
theorem dX11_lays_13 : decode cX11_lays 13 = .ok (.aload_n 0, 1) := by decide +kernel
theorem dX11_lays_14 : decode cX11_lays 14 = .ok (.getfield 58, 3) := by decide +kernel
theorem dX11_lays_17 : decode cX11_lays 17 = .ok (.iload_n 1, 1) := by decide +kernel
theorem dX11_lays_18 : decode cX11_lays 18 = .ok (.iaload, 1) := by decide +kernel
theorem dX11_lays_19 : decode cX11_lays 19 = .ok (.iastore, 1) := by decide +kernel
theorem dX11_lays_20 : decode cX11_lays 20 = .ok (.iinc 1 1, 3) := by decide +kernel
theorem dX11_lays_23 : decode cX11_lays 23 = .ok (.goto (-21), 3) := by decide +kernel
theorem dX11_lays_26 : decode cX11_lays 26 = .ok (.aload_n 0, 1) := by decide +kernel
theorem dX11_lays_27 : decode cX11_lays 27 = .ok (.aload_n 0, 1) := by decide +kernel
theorem dX11_lays_28 : decode cX11_lays 28 = .ok (.getfield 58, 3) := by decide +kernel
theorem dX11_lays_31 : decode cX11_lays 31 = .ok (.bipush 24, 2) := by decide +kernel
theorem dX11_lays_33 : decode cX11_lays 33 = .ok (.iaload, 1) := by decide +kernel
theorem dX11_lays_34 : decode cX11_lays 34 = .ok (.putfield 89, 3) := by decide +kernel
theorem dX11_lays_37 : decode cX11_lays 37 = .ok (.return_, 1) := by decide +kernel
def L_X11_lays_2 : Nat → e_S → Nat → Int32 → e_G → Option (e_G)
  | 0, _, _, _, _ => none
  | n + 1, S, l0, l1, g =>
  if (24 : Int32) ≤ l1 then
    (e_gR S g 11 l0 29).bind fun v1 =>
    (e_aI S g 0 v1 (24 : Int32)).bind fun v3 =>
    (e_sI S g 11 l0 4 v3).bind fun g5 =>
    some g5
  else
    (e_gR S g 11 l0 3).bind fun v7 =>
    (e_gR S g 11 l0 29).bind fun v9 =>
    (e_aI S g 0 v9 l1).bind fun v11 =>
    (e_aS S g 0 v7 l1 v11).bind fun g13 =>
    L_X11_lays_2 n S l0 (l1 + (1 : Int32)) g13
def f_X11_lays (S : e_S) (l0 : Nat) (g : e_G) : Option (e_G) :=
  if e_ob S 11 l0 = true then
    L_X11_lays_2 50000 S l0 (0 : Int32) g
  else none
theorem x_L_X11_lays_2 {l : Launch} {D : va_G} {S : e_S} {k : e_G} : ∀ (n : Nat) (l0 : Nat) (l1 : Int32) (g : e_G), L_X11_lays_2 n S l0 l1 g = some k → X l D (e_R 1) M_X11_lays 0 0 2 [(0, .ref l0), (1, .int l1)] [] (S, g) none (S, k) := by
  intro n
  induction n with
  | zero =>
    intro l0 l1 g hf
    cases hf
  | succ n ih =>
    intro l0 l1 g hf
    rw [L_X11_lays_2] at hf
    refine X.iload_n dX11_lays_2 rfl (j := 1) rfl ?_
    refine X.bipush dX11_lays_3 kB_24 ?_
    refine X.icmp_ge dX11_lays_5 (tgt := 26) rfl (fun hc => ?_) (fun hc => ?_)
    · rw [if_pos hc] at hf
      refine X.aload_n dX11_lays_26 rfl (j := 0) rfl ?_
      refine X.aload_n dX11_lays_27 rfl (j := 0) rfl ?_
      obtain ⟨v1, h2, hf⟩ := ob hf
      refine Y.getR dX11_lays_28 fl_X11_58 rfl h2 ?_
      refine X.bipush dX11_lays_31 kB_24 ?_
      obtain ⟨v3, h4, hf⟩ := ob hf
      refine Y.iald dX11_lays_33 h4 ?_
      obtain ⟨g5, h6, hf⟩ := ob hf
      refine Y.putI dX11_lays_34 fl_X11_89 rfl rfl rfl rfl h6 ?_
      have e1 := Option.some.inj hf
      subst e1
      exact X.vret dX11_lays_37 rfl
    · rw [if_neg hc] at hf
      refine X.aload_n dX11_lays_8 rfl (j := 0) rfl ?_
      obtain ⟨v7, h8, hf⟩ := ob hf
      refine Y.getR dX11_lays_9 fl_X11_16 rfl h8 ?_
      refine X.iload_n dX11_lays_12 rfl (j := 1) rfl ?_
      refine X.aload_n dX11_lays_13 rfl (j := 0) rfl ?_
      obtain ⟨v9, h10, hf⟩ := ob hf
      refine Y.getR dX11_lays_14 fl_X11_58 rfl h10 ?_
      refine X.iload_n dX11_lays_17 rfl (j := 1) rfl ?_
      obtain ⟨v11, h12, hf⟩ := ob hf
      refine Y.iald dX11_lays_18 h12 ?_
      obtain ⟨g13, h14, hf⟩ := ob hf
      refine Y.iast dX11_lays_19 h14 ?_
      refine X.iinc (j := 1) dX11_lays_20 rfl (v := l1 + (1 : Int32)) (by rw [kI_1]) (Nat.le_of_ble_eq_true rfl) (lc' := [(1, .int (l1 + (1 : Int32))), (0, .ref l0)]) rfl ?_
      refine X.goto dX11_lays_23 (tgt := 2) rfl ?_
      refine X.sub [1, 0] rfl ?_
      exact ih _ _ _ hf
theorem o_X11_lays  {S : e_S} {k : e_G} {l0 : Nat} {g : e_G} (hf : f_X11_lays S l0 g = some k) : e_ob S 11 l0 = true := by
  unfold f_X11_lays at hf
  by_cases hc : e_ob S 11 l0 = true
  · exact hc
  · rw [if_neg hc] at hf
    cases hf
theorem c_X11_lays {l : Launch} {D : va_G}  {S : e_S} {k : e_G} {l0 : Nat} {g : e_G} (hf : f_X11_lays S l0 g = some k) : CT l D (e_R 1) M_X11_lays [.ref l0] (S, g) none (S, k) := by
  refine CT.of (by decide +kernel) (Nat.le_of_ble_eq_true rfl) ?_
  have ho := o_X11_lays hf
  unfold f_X11_lays at hf
  rw [if_pos ho] at hf
  show X l D (e_R 1) M_X11_lays 0 0 0 [(0, .ref l0)] [] (S, g) none (S, k)
  refine X.iconst dX11_lays_0 kI_0 ?_
  refine X.istore_n dX11_lays_1 rfl (Nat.le_of_ble_eq_true rfl) (lc' := [(1, .int (0 : Int32)), (0, .ref l0)]) rfl ?_
  refine X.sub [1, 0] rfl ?_
  exact x_L_X11_lays_2 50000 _ _ _ hf
/-! LeanedOutModel.goes(I)V -/
abbrev M_X11_goes : e_M := (yX11_goes, cX11_goes, 3, none)
theorem mk_X11_goes : e_Mok M_X11_goes 1 := ⟨by decide +kernel, by decide +kernel, by decide +kernel⟩
theorem dX11_goes_0 : decode cX11_goes 0 = .ok (.iconst 0, 1) := by decide +kernel
theorem dX11_goes_1 : decode cX11_goes 1 = .ok (.istore_n 2, 1) := by decide +kernel
theorem dX11_goes_2 : decode cX11_goes 2 = .ok (.iload_n 2, 1) := by decide +kernel
theorem dX11_goes_3 : decode cX11_goes 3 = .ok (.iload_n 1, 1) := by decide +kernel
theorem dX11_goes_4 : decode cX11_goes 4 = .ok (.if_icmp .ge 14, 3) := by decide +kernel
theorem dX11_goes_7 : decode cX11_goes 7 = .ok (.aload_n 0, 1) := by decide +kernel
theorem dX11_goes_8 : decode cX11_goes 8 = .ok (.invokevirtual 219, 3) := by decide +kernel
theorem dX11_goes_11 : decode cX11_goes 11 = .ok (.pop, 1) := by decide +kernel
theorem dX11_goes_12 : decode cX11_goes 12 = .ok (.iinc 2 1, 3) := by decide +kernel
theorem dX11_goes_15 : decode cX11_goes 15 = .ok (.goto (-13), 3) := by decide +kernel
theorem dX11_goes_18 : decode cX11_goes 18 = .ok (.return_, 1) := by decide +kernel
def L_X11_goes_2 : Nat → e_S → Nat → Int32 → Int32 → e_G → Option (e_G)
  | 0, _, _, _, _, _ => none
  | n + 1, S, l0, l1, l2, g =>
  if l1 ≤ l2 then
    some g
  else
    (f_X11_dayOf S l0 g).bind fun q2 =>
    L_X11_goes_2 n S l0 l1 (l2 + (1 : Int32)) q2.2
def f_X11_goes (S : e_S) (l0 : Nat) (l1 : Int32) (g : e_G) : Option (e_G) :=
  if e_ob S 11 l0 = true then
    L_X11_goes_2 50000 S l0 l1 (0 : Int32) g
  else none
theorem x_L_X11_goes_2 {l : Launch} {D : va_G} {S : e_S} {k : e_G} : ∀ (n : Nat) (l0 : Nat) (l1 : Int32) (l2 : Int32) (g : e_G), L_X11_goes_2 n S l0 l1 l2 g = some k → X l D (e_R 6) M_X11_goes 0 0 2 [(0, .ref l0), (1, .int l1), (2, .int l2)] [] (S, g) none (S, k) := by
  intro n
  induction n with
  | zero =>
    intro l0 l1 l2 g hf
    cases hf
  | succ n ih =>
    intro l0 l1 l2 g hf
    rw [L_X11_goes_2] at hf
    refine X.iload_n dX11_goes_2 rfl (j := 2) rfl ?_
    refine X.iload_n dX11_goes_3 rfl (j := 1) rfl ?_
    refine X.icmp_ge dX11_goes_4 (tgt := 18) rfl (fun hc => ?_) (fun hc => ?_)
    · rw [if_pos hc] at hf
      have e1 := Option.some.inj hf
      subst e1
      exact X.vret dX11_goes_18 rfl
    · rw [if_neg hc] at hf
      refine X.aload_n dX11_goes_7 rfl (j := 0) rfl ?_
      obtain ⟨q2, h1, hf⟩ := ob hf
      refine Y.callV (av := []) (ci := 11) dX11_goes_8 (c_X11_dayOf (l := l) (D := D) (w := q2.1) (k := q2.2) h1) cw_X11_219 (by decide) rfl mk_X11_dayOf (o_X11_dayOf (w := q2.1) (k := q2.2) h1) (e_R_ok (Nat.le_of_ble_eq_true rfl) (Nat.le_of_ble_eq_true rfl)) ⟨rfl, rfl⟩ (by simp [Value.category]) ?_
      refine X.pop dX11_goes_11 rfl ?_
      refine X.iinc (j := 2) dX11_goes_12 rfl (v := l2 + (1 : Int32)) (by rw [kI_1]) (Nat.le_of_ble_eq_true rfl) (lc' := [(2, .int (l2 + (1 : Int32))), (0, .ref l0), (1, .int l1)]) rfl ?_
      refine X.goto dX11_goes_15 (tgt := 2) rfl ?_
      refine X.sub [1, 2, 0] rfl ?_
      exact ih _ _ _ _ hf
theorem o_X11_goes  {S : e_S} {k : e_G} {l0 : Nat} {l1 : Int32} {g : e_G} (hf : f_X11_goes S l0 l1 g = some k) : e_ob S 11 l0 = true := by
  unfold f_X11_goes at hf
  by_cases hc : e_ob S 11 l0 = true
  · exact hc
  · rw [if_neg hc] at hf
    cases hf
theorem c_X11_goes {l : Launch} {D : va_G}  {S : e_S} {k : e_G} {l0 : Nat} {l1 : Int32} {g : e_G} (hf : f_X11_goes S l0 l1 g = some k) : CT l D (e_R 6) M_X11_goes [.ref l0, .int l1] (S, g) none (S, k) := by
  refine CT.of (by decide +kernel) (Nat.le_of_ble_eq_true rfl) ?_
  have ho := o_X11_goes hf
  unfold f_X11_goes at hf
  rw [if_pos ho] at hf
  show X l D (e_R 6) M_X11_goes 0 0 0 [(0, .ref l0), (1, .int l1)] [] (S, g) none (S, k)
  refine X.iconst dX11_goes_0 kI_0 ?_
  refine X.istore_n dX11_goes_1 rfl (Nat.le_of_ble_eq_true rfl) (lc' := [(2, .int (0 : Int32)), (0, .ref l0), (1, .int l1)]) rfl ?_
  refine X.sub [1, 2, 0] rfl ?_
  exact x_L_X11_goes_2 50000 _ _ _ _ hf
/-! LeanedOutModel.mindsAll()I -/
abbrev M_X11_mindsAll : e_M := (yX11_mindsAll, cX11_mindsAll, 3, (some .int))
theorem mk_X11_mindsAll : e_Mok M_X11_mindsAll 0 := ⟨by decide +kernel, by decide +kernel, by decide +kernel⟩
theorem dX11_mindsAll_0 : decode cX11_mindsAll 0 = .ok (.iconst 0, 1) := by decide +kernel
theorem dX11_mindsAll_1 : decode cX11_mindsAll 1 = .ok (.istore_n 1, 1) := by decide +kernel
theorem dX11_mindsAll_2 : decode cX11_mindsAll 2 = .ok (.iconst 0, 1) := by decide +kernel
theorem dX11_mindsAll_3 : decode cX11_mindsAll 3 = .ok (.istore_n 2, 1) := by decide +kernel
theorem dX11_mindsAll_4 : decode cX11_mindsAll 4 = .ok (.iload_n 2, 1) := by decide +kernel
theorem dX11_mindsAll_5 : decode cX11_mindsAll 5 = .ok (.aload_n 0, 1) := by decide +kernel
theorem dX11_mindsAll_6 : decode cX11_mindsAll 6 = .ok (.getfield 75, 3) := by decide +kernel
theorem dX11_mindsAll_9 : decode cX11_mindsAll 9 = .ok (.if_icmp .ge 34, 3) := by decide +kernel
theorem dX11_mindsAll_12 : decode cX11_mindsAll 12 = .ok (.iload_n 1, 1) := by decide +kernel
theorem dX11_mindsAll_13 : decode cX11_mindsAll 13 = .ok (.aload_n 0, 1) := by decide +kernel
theorem dX11_mindsAll_14 : decode cX11_mindsAll 14 = .ok (.getfield 16, 3) := by decide +kernel
theorem dX11_mindsAll_17 : decode cX11_mindsAll 17 = .ok (.iconst 4, 1) := by decide +kernel
theorem dX11_mindsAll_18 : decode cX11_mindsAll 18 = .ok (.iload_n 2, 1) := by decide +kernel
theorem dX11_mindsAll_19 : decode cX11_mindsAll 19 = .ok (.imul, 1) := by decide +kernel
theorem dX11_mindsAll_20 : decode cX11_mindsAll 20 = .ok (.iconst 3, 1) := by decide +kernel
theorem dX11_mindsAll_21 : decode cX11_mindsAll 21 = .ok (.iadd, 1) := by decide +kernel
theorem dX11_mindsAll_22 : decode cX11_mindsAll 22 = .ok (.iaload, 1) := by decide +kernel
theorem dX11_mindsAll_23 : decode cX11_mindsAll 23 = .ok (.ifCond .ne 11, 3) := by decide +kernel
theorem dX11_mindsAll_26 : decode cX11_mindsAll 26 = .ok (.aload_n 0, 1) := by decide +kernel
theorem dX11_mindsAll_27 : decode cX11_mindsAll 27 = .ok (.iload_n 2, 1) := by decide +kernel
theorem dX11_mindsAll_28 : decode cX11_mindsAll 28 = .ok (.invokevirtual 201, 3) := by decide +kernel
theorem dX11_mindsAll_31 : decode cX11_mindsAll 31 = .ok (.goto 4, 3) := by decide +kernel
theorem dX11_mindsAll_34 : decode cX11_mindsAll 34 = .ok (.iconst 0, 1) := by decide +kernel
theorem dX11_mindsAll_35 : decode cX11_mindsAll 35 = .ok (.iadd, 1) := by decide +kernel
theorem dX11_mindsAll_36 : decode cX11_mindsAll 36 = .ok (.istore_n 1, 1) := by decide +kernel
theorem dX11_mindsAll_37 : decode cX11_mindsAll 37 = .ok (.iinc 2 1, 3) := by decide +kernel
theorem dX11_mindsAll_40 : decode cX11_mindsAll 40 = .ok (.goto (-36), 3) := by decide +kernel
theorem dX11_mindsAll_43 : decode cX11_mindsAll 43 = .ok (.iload_n 1, 1) := by decide +kernel
theorem dX11_mindsAll_44 : decode cX11_mindsAll 44 = .ok (.ireturn, 1) := by decide +kernel
def J_X11_mindsAll_35 (c4 : Nat → Int32 → Int32 → e_G → Option (Int32 × e_G)) (S : e_S) (l0 : Nat) (l2 : Int32) (t0 : Int32) (t1 : Int32) (g : e_G) : Option (Int32 × e_G) :=
  c4 l0 (t0 + t1) (l2 + (1 : Int32)) g
def L_X11_mindsAll_4 : Nat → e_S → Nat → Int32 → Int32 → e_G → Option (Int32 × e_G)
  | 0, _, _, _, _, _ => none
  | n + 1, S, l0, l1, l2, g =>
  (e_gI S g 11 l0 0).bind fun v1 =>
  if v1 ≤ l2 then
    some (l1, g)
  else
    (e_gR S g 11 l0 3).bind fun v3 =>
    (e_aI S g 0 v3 (((4 : Int32) * l2) + (3 : Int32))).bind fun v5 =>
    if v5 = 0 then
      (f_X11_mindsOf S l0 l2 g).bind fun q8 =>
      J_X11_mindsAll_35 (L_X11_mindsAll_4 n S) S l0 l2 l1 q8.1 q8.2
    else
      J_X11_mindsAll_35 (L_X11_mindsAll_4 n S) S l0 l2 l1 (0 : Int32) g
def f_X11_mindsAll (S : e_S) (l0 : Nat) (g : e_G) : Option (Int32 × e_G) :=
  if e_ob S 11 l0 = true then
    L_X11_mindsAll_4 50000 S l0 (0 : Int32) (0 : Int32) g
  else none
theorem x_J_X11_mindsAll_35 {l : Launch} {D : va_G} {S : e_S} {w : Int32} {k : e_G} (c4 : Nat → Int32 → Int32 → e_G → Option (Int32 × e_G)) (hc4 : ∀ (l0 : Nat) (l1 : Int32) (l2 : Int32) (g : e_G), c4 l0 l1 l2 g = some (w, k) → X l D (e_R 5) M_X11_mindsAll 0 0 4 [(0, .ref l0), (1, .int l1), (2, .int l2)] [] (S, g) (some (.int w)) (S, k)) {l0 : Nat} {l2 : Int32} {t0 : Int32} {t1 : Int32} {g : e_G} (hf : J_X11_mindsAll_35 c4 S l0 l2 t0 t1 g = some (w, k)) : X l D (e_R 5) M_X11_mindsAll 0 0 35 [(0, .ref l0), (2, .int l2)] [.int t1, .int t0] (S, g) (some (.int w)) (S, k) := by
  unfold J_X11_mindsAll_35 at hf
  refine X.iadd dX11_mindsAll_35 ?_
  refine X.istore_n dX11_mindsAll_36 rfl (Nat.le_of_ble_eq_true rfl) (lc' := [(1, .int (t0 + t1)), (0, .ref l0), (2, .int l2)]) rfl ?_
  refine X.iinc (j := 2) dX11_mindsAll_37 rfl (v := l2 + (1 : Int32)) (by rw [kI_1]) (Nat.le_of_ble_eq_true rfl) (lc' := [(2, .int (l2 + (1 : Int32))), (1, .int (t0 + t1)), (0, .ref l0)]) rfl ?_
  refine X.goto dX11_mindsAll_40 (tgt := 4) rfl ?_
  refine X.sub [2, 1, 0] rfl ?_
  exact hc4 _ _ _ _ hf
theorem x_L_X11_mindsAll_4 {l : Launch} {D : va_G} {S : e_S} {w : Int32} {k : e_G} : ∀ (n : Nat) (l0 : Nat) (l1 : Int32) (l2 : Int32) (g : e_G), L_X11_mindsAll_4 n S l0 l1 l2 g = some (w, k) → X l D (e_R 5) M_X11_mindsAll 0 0 4 [(0, .ref l0), (1, .int l1), (2, .int l2)] [] (S, g) (some (.int w)) (S, k) := by
  intro n
  induction n with
  | zero =>
    intro l0 l1 l2 g hf
    cases hf
  | succ n ih =>
    intro l0 l1 l2 g hf
    rw [L_X11_mindsAll_4] at hf
    refine X.iload_n dX11_mindsAll_4 rfl (j := 2) rfl ?_
    refine X.aload_n dX11_mindsAll_5 rfl (j := 0) rfl ?_
    obtain ⟨v1, h2, hf⟩ := ob hf
    refine Y.getI dX11_mindsAll_6 fl_X11_75 rfl h2 ?_
    refine X.icmp_ge dX11_mindsAll_9 (tgt := 43) rfl (fun hc => ?_) (fun hc => ?_)
    · rw [if_pos hc] at hf
      refine X.iload_n dX11_mindsAll_43 rfl (j := 1) rfl ?_
      obtain ⟨e1, e2⟩ := e_ret hf
      subst e1
      subst e2
      exact X.iret dX11_mindsAll_44 rfl rfl
    · rw [if_neg hc] at hf
      refine X.iload_n dX11_mindsAll_12 rfl (j := 1) rfl ?_
      refine X.aload_n dX11_mindsAll_13 rfl (j := 0) rfl ?_
      obtain ⟨v3, h4, hf⟩ := ob hf
      refine Y.getR dX11_mindsAll_14 fl_X11_16 rfl h4 ?_
      refine X.iconst dX11_mindsAll_17 kI_4 ?_
      refine X.iload_n dX11_mindsAll_18 rfl (j := 2) rfl ?_
      refine X.imul dX11_mindsAll_19 ?_
      refine X.iconst dX11_mindsAll_20 kI_3 ?_
      refine X.iadd dX11_mindsAll_21 ?_
      obtain ⟨v5, h6, hf⟩ := ob hf
      refine Y.iald dX11_mindsAll_22 h6 ?_
      refine X.if_ne dX11_mindsAll_23 (tgt := 34) rfl (fun hc => ?_) (fun hc => ?_)
      · rw [if_neg hc] at hf
        refine X.iconst dX11_mindsAll_34 kI_0 ?_
        refine X.sub [0, 2] rfl ?_
        exact x_J_X11_mindsAll_35 _ ih hf
      · rw [if_pos hc] at hf
        refine X.aload_n dX11_mindsAll_26 rfl (j := 0) rfl ?_
        refine X.iload_n dX11_mindsAll_27 rfl (j := 2) rfl ?_
        obtain ⟨q8, h7, hf⟩ := ob hf
        refine Y.callV (av := [.int l2]) (ci := 11) dX11_mindsAll_28 (c_X11_mindsOf (l := l) (D := D) (w := q8.1) (k := q8.2) h7) cw_X11_201 (by decide) rfl mk_X11_mindsOf (o_X11_mindsOf (w := q8.1) (k := q8.2) h7) (e_R_ok (Nat.le_of_ble_eq_true rfl) (Nat.le_of_ble_eq_true rfl)) ⟨rfl, rfl⟩ (by simp [Value.category]) ?_
        refine X.goto dX11_mindsAll_31 (tgt := 35) rfl ?_
        refine X.sub [0, 2] rfl ?_
        exact x_J_X11_mindsAll_35 _ ih hf
theorem o_X11_mindsAll  {S : e_S} {w : Int32} {k : e_G} {l0 : Nat} {g : e_G} (hf : f_X11_mindsAll S l0 g = some (w, k)) : e_ob S 11 l0 = true := by
  unfold f_X11_mindsAll at hf
  by_cases hc : e_ob S 11 l0 = true
  · exact hc
  · rw [if_neg hc] at hf
    cases hf
theorem c_X11_mindsAll {l : Launch} {D : va_G}  {S : e_S} {w : Int32} {k : e_G} {l0 : Nat} {g : e_G} (hf : f_X11_mindsAll S l0 g = some (w, k)) : CT l D (e_R 5) M_X11_mindsAll [.ref l0] (S, g) (some (.int w)) (S, k) := by
  refine CT.of (by decide +kernel) (Nat.le_of_ble_eq_true rfl) ?_
  have ho := o_X11_mindsAll hf
  unfold f_X11_mindsAll at hf
  rw [if_pos ho] at hf
  show X l D (e_R 5) M_X11_mindsAll 0 0 0 [(0, .ref l0)] [] (S, g) (some (.int w)) (S, k)
  refine X.iconst dX11_mindsAll_0 kI_0 ?_
  refine X.istore_n dX11_mindsAll_1 rfl (Nat.le_of_ble_eq_true rfl) (lc' := [(1, .int (0 : Int32)), (0, .ref l0)]) rfl ?_
  refine X.iconst dX11_mindsAll_2 kI_0 ?_
  refine X.istore_n dX11_mindsAll_3 rfl (Nat.le_of_ble_eq_true rfl) (lc' := [(2, .int (0 : Int32)), (1, .int (0 : Int32)), (0, .ref l0)]) rfl ?_
  refine X.sub [2, 1, 0] rfl ?_
  exact x_L_X11_mindsAll_4 50000 _ _ _ _ hf
/-! LeanedOutModel.leanAll()I -/
abbrev M_X11_leanAll : e_M := (yX11_leanAll, cX11_leanAll, 3, (some .int))
theorem mk_X11_leanAll : e_Mok M_X11_leanAll 0 := ⟨by decide +kernel, by decide +kernel, by decide +kernel⟩
theorem dX11_leanAll_0 : decode cX11_leanAll 0 = .ok (.iconst 0, 1) := by decide +kernel
theorem dX11_leanAll_1 : decode cX11_leanAll 1 = .ok (.istore_n 1, 1) := by decide +kernel
theorem dX11_leanAll_2 : decode cX11_leanAll 2 = .ok (.iconst 0, 1) := by decide +kernel
theorem dX11_leanAll_3 : decode cX11_leanAll 3 = .ok (.istore_n 2, 1) := by decide +kernel
theorem dX11_leanAll_4 : decode cX11_leanAll 4 = .ok (.iload_n 2, 1) := by decide +kernel
theorem dX11_leanAll_5 : decode cX11_leanAll 5 = .ok (.aload_n 0, 1) := by decide +kernel
theorem dX11_leanAll_6 : decode cX11_leanAll 6 = .ok (.getfield 75, 3) := by decide +kernel
theorem dX11_leanAll_9 : decode cX11_leanAll 9 = .ok (.if_icmp .ge 22, 3) := by decide +kernel
theorem dX11_leanAll_12 : decode cX11_leanAll 12 = .ok (.iload_n 1, 1) := by decide +kernel
theorem dX11_leanAll_13 : decode cX11_leanAll 13 = .ok (.aload_n 0, 1) := by decide +kernel
theorem dX11_leanAll_14 : decode cX11_leanAll 14 = .ok (.getfield 16, 3) := by decide +kernel
theorem dX11_leanAll_17 : decode cX11_leanAll 17 = .ok (.iconst 4, 1) := by decide +kernel
theorem dX11_leanAll_18 : decode cX11_leanAll 18 = .ok (.iload_n 2, 1) := by decide +kernel
theorem dX11_leanAll_19 : decode cX11_leanAll 19 = .ok (.imul, 1) := by decide +kernel
theorem dX11_leanAll_20 : decode cX11_leanAll 20 = .ok (.iconst 2, 1) := by decide +kernel
theorem dX11_leanAll_21 : decode cX11_leanAll 21 = .ok (.iadd, 1) := by decide +kernel
theorem dX11_leanAll_22 : decode cX11_leanAll 22 = .ok (.iaload, 1) := by decide +kernel
theorem dX11_leanAll_23 : decode cX11_leanAll 23 = .ok (.iadd, 1) := by decide +kernel
theorem dX11_leanAll_24 : decode cX11_leanAll 24 = .ok (.istore_n 1, 1) := by decide +kernel
theorem dX11_leanAll_25 : decode cX11_leanAll 25 = .ok (.iinc 2 1, 3) := by decide +kernel
theorem dX11_leanAll_28 : decode cX11_leanAll 28 = .ok (.goto (-24), 3) := by decide +kernel
theorem dX11_leanAll_31 : decode cX11_leanAll 31 = .ok (.iload_n 1, 1) := by decide +kernel
theorem dX11_leanAll_32 : decode cX11_leanAll 32 = .ok (.ireturn, 1) := by decide +kernel
def L_X11_leanAll_4 : Nat → e_S → Nat → Int32 → Int32 → e_G → Option (Int32 × e_G)
  | 0, _, _, _, _, _ => none
  | n + 1, S, l0, l1, l2, g =>
  (e_gI S g 11 l0 0).bind fun v1 =>
  if v1 ≤ l2 then
    some (l1, g)
  else
    (e_gR S g 11 l0 3).bind fun v3 =>
    (e_aI S g 0 v3 (((4 : Int32) * l2) + (2 : Int32))).bind fun v5 =>
    L_X11_leanAll_4 n S l0 (l1 + v5) (l2 + (1 : Int32)) g
def f_X11_leanAll (S : e_S) (l0 : Nat) (g : e_G) : Option (Int32 × e_G) :=
  if e_ob S 11 l0 = true then
    L_X11_leanAll_4 50000 S l0 (0 : Int32) (0 : Int32) g
  else none
theorem x_L_X11_leanAll_4 {l : Launch} {D : va_G} {S : e_S} {w : Int32} {k : e_G} : ∀ (n : Nat) (l0 : Nat) (l1 : Int32) (l2 : Int32) (g : e_G), L_X11_leanAll_4 n S l0 l1 l2 g = some (w, k) → X l D (e_R 1) M_X11_leanAll 0 0 4 [(0, .ref l0), (1, .int l1), (2, .int l2)] [] (S, g) (some (.int w)) (S, k) := by
  intro n
  induction n with
  | zero =>
    intro l0 l1 l2 g hf
    cases hf
  | succ n ih =>
    intro l0 l1 l2 g hf
    rw [L_X11_leanAll_4] at hf
    refine X.iload_n dX11_leanAll_4 rfl (j := 2) rfl ?_
    refine X.aload_n dX11_leanAll_5 rfl (j := 0) rfl ?_
    obtain ⟨v1, h2, hf⟩ := ob hf
    refine Y.getI dX11_leanAll_6 fl_X11_75 rfl h2 ?_
    refine X.icmp_ge dX11_leanAll_9 (tgt := 31) rfl (fun hc => ?_) (fun hc => ?_)
    · rw [if_pos hc] at hf
      refine X.iload_n dX11_leanAll_31 rfl (j := 1) rfl ?_
      obtain ⟨e1, e2⟩ := e_ret hf
      subst e1
      subst e2
      exact X.iret dX11_leanAll_32 rfl rfl
    · rw [if_neg hc] at hf
      refine X.iload_n dX11_leanAll_12 rfl (j := 1) rfl ?_
      refine X.aload_n dX11_leanAll_13 rfl (j := 0) rfl ?_
      obtain ⟨v3, h4, hf⟩ := ob hf
      refine Y.getR dX11_leanAll_14 fl_X11_16 rfl h4 ?_
      refine X.iconst dX11_leanAll_17 kI_4 ?_
      refine X.iload_n dX11_leanAll_18 rfl (j := 2) rfl ?_
      refine X.imul dX11_leanAll_19 ?_
      refine X.iconst dX11_leanAll_20 kI_2 ?_
      refine X.iadd dX11_leanAll_21 ?_
      obtain ⟨v5, h6, hf⟩ := ob hf
      refine Y.iald dX11_leanAll_22 h6 ?_
      refine X.iadd dX11_leanAll_23 ?_
      refine X.istore_n dX11_leanAll_24 rfl (Nat.le_of_ble_eq_true rfl) (lc' := [(1, .int (l1 + v5)), (0, .ref l0), (2, .int l2)]) rfl ?_
      refine X.iinc (j := 2) dX11_leanAll_25 rfl (v := l2 + (1 : Int32)) (by rw [kI_1]) (Nat.le_of_ble_eq_true rfl) (lc' := [(2, .int (l2 + (1 : Int32))), (1, .int (l1 + v5)), (0, .ref l0)]) rfl ?_
      refine X.goto dX11_leanAll_28 (tgt := 4) rfl ?_
      refine X.sub [2, 1, 0] rfl ?_
      exact ih _ _ _ _ hf
theorem o_X11_leanAll  {S : e_S} {w : Int32} {k : e_G} {l0 : Nat} {g : e_G} (hf : f_X11_leanAll S l0 g = some (w, k)) : e_ob S 11 l0 = true := by
  unfold f_X11_leanAll at hf
  by_cases hc : e_ob S 11 l0 = true
  · exact hc
  · rw [if_neg hc] at hf
    cases hf
theorem c_X11_leanAll {l : Launch} {D : va_G}  {S : e_S} {w : Int32} {k : e_G} {l0 : Nat} {g : e_G} (hf : f_X11_leanAll S l0 g = some (w, k)) : CT l D (e_R 1) M_X11_leanAll [.ref l0] (S, g) (some (.int w)) (S, k) := by
  refine CT.of (by decide +kernel) (Nat.le_of_ble_eq_true rfl) ?_
  have ho := o_X11_leanAll hf
  unfold f_X11_leanAll at hf
  rw [if_pos ho] at hf
  show X l D (e_R 1) M_X11_leanAll 0 0 0 [(0, .ref l0)] [] (S, g) (some (.int w)) (S, k)
  refine X.iconst dX11_leanAll_0 kI_0 ?_
  refine X.istore_n dX11_leanAll_1 rfl (Nat.le_of_ble_eq_true rfl) (lc' := [(1, .int (0 : Int32)), (0, .ref l0)]) rfl ?_
  refine X.iconst dX11_leanAll_2 kI_0 ?_
  refine X.istore_n dX11_leanAll_3 rfl (Nat.le_of_ble_eq_true rfl) (lc' := [(2, .int (0 : Int32)), (1, .int (0 : Int32)), (0, .ref l0)]) rfl ?_
  refine X.sub [2, 1, 0] rfl ?_
  exact x_L_X11_leanAll_4 50000 _ _ _ _ hf
/-! LeanedOutModel.run(II)I -/
abbrev M_X11_run : e_M := (yX11_run, cX11_run, 5, (some .int))
theorem mk_X11_run : e_Mok M_X11_run 2 := ⟨by decide +kernel, by decide +kernel, by decide +kernel⟩
theorem dX11_run_0 : decode cX11_run 0 = .ok (.iload_n 2, 1) := by decide +kernel
theorem dX11_run_1 : decode cX11_run 1 = .ok (.iconst 0, 1) := by decide +kernel
theorem dX11_run_2 : decode cX11_run 2 = .ok (.iconst 2, 1) := by decide +kernel
theorem dX11_run_3 : decode cX11_run 3 = .ok (.invokestatic 78, 3) := by decide +kernel
theorem dX11_run_6 : decode cX11_run 6 = .ok (.ifCond .ne 19, 3) := by decide +kernel
theorem dX11_run_9 : decode cX11_run 9 = .ok (.iload_n 2, 1) := by decide +kernel
theorem dX11_run_10 : decode cX11_run 10 = .ok (.bipush 10, 2) := by decide +kernel
theorem dX11_run_12 : decode cX11_run 12 = .ok (.bipush 9, 2) := by decide +kernel
theorem dX11_run_14 : decode cX11_run 14 = .ok (.aload_n 0, 1) := by decide +kernel
theorem dX11_run_15 : decode cX11_run 15 = .ok (.getfield 75, 3) := by decide +kernel
theorem dX11_run_18 : decode cX11_run 18 = .ok (.iadd, 1) := by decide +kernel
theorem dX11_run_19 : decode cX11_run 19 = .ok (.invokestatic 78, 3) := by decide +kernel
theorem dX11_run_22 : decode cX11_run 22 = .ok (.ifCond .eq 7, 3) := by decide +kernel
theorem dX11_run_25 : decode cX11_run 25 = .ok (.iconst 1, 1) := by decide +kernel
theorem dX11_run_26 : decode cX11_run 26 = .ok (.goto 4, 3) := by decide +kernel
theorem dX11_run_29 : decode cX11_run 29 = .ok (.iconst 0, 1) := by decide +kernel
theorem dX11_run_30 : decode cX11_run 30 = .ok (.istore_n 3, 1) := by decide +kernel
theorem dX11_run_31 : decode cX11_run 31 = .ok (.iload_n 1, 1) := by decide +kernel
theorem dX11_run_32 : decode cX11_run 32 = .ok (.iconst 0, 1) := by decide +kernel
theorem dX11_run_33 : decode cX11_run 33 = .ok (.bipush 40, 2) := by decide +kernel
theorem dX11_run_35 : decode cX11_run 35 = .ok (.invokestatic 78, 3) := by decide +kernel
theorem dX11_run_38 : decode cX11_run 38 = .ok (.ifCond .eq 7, 3) := by decide +kernel
theorem dX11_run_41 : decode cX11_run 41 = .ok (.iload_n 3, 1) := by decide +kernel
theorem dX11_run_42 : decode cX11_run 42 = .ok (.ifCond .ne 6, 3) := by decide +kernel
theorem dX11_run_45 : decode cX11_run 45 = .ok (.ldc 222, 2) := by decide +kernel
theorem dX11_run_47 : decode cX11_run 47 = .ok (.ireturn, 1) := by decide +kernel
theorem dX11_run_48 : decode cX11_run 48 = .ok (.aload_n 0, 1) := by decide +kernel
theorem dX11_run_49 : decode cX11_run 49 = .ok (.invokevirtual 223, 3) := by decide +kernel
theorem dX11_run_52 : decode cX11_run 52 = .ok (.aload_n 0, 1) := by decide +kernel
theorem dX11_run_53 : decode cX11_run 53 = .ok (.iload_n 1, 1) := by decide +kernel
theorem dX11_run_54 : decode cX11_run 54 = .ok (.invokevirtual 226, 3) := by decide +kernel
theorem dX11_run_57 : decode cX11_run 57 = .ok (.iconst 0, 1) := by decide +kernel
theorem dX11_run_58 : decode cX11_run 58 = .ok (.istore 4, 2) := by decide +kernel
theorem dX11_run_60 : decode cX11_run 60 = .ok (.iload_n 2, 1) := by decide +kernel
theorem dX11_run_61 : decode cX11_run 61 = .ok (.tableswitch 54 0 2 #[27, 36, 45], 27) := by decide +kernel
theorem dX11_run_88 : decode cX11_run 88 = .ok (.aload_n 0, 1) := by decide +kernel
theorem dX11_run_89 : decode cX11_run 89 = .ok (.invokevirtual 82, 3) := by decide +kernel
theorem dX11_run_92 : decode cX11_run 92 = .ok (.istore 4, 2) := by decide +kernel
theorem dX11_run_94 : decode cX11_run 94 = .ok (.goto 36, 3) := by decide +kernel
theorem dX11_run_97 : decode cX11_run 97 = .ok (.aload_n 0, 1) := by decide +kernel
theorem dX11_run_98 : decode cX11_run 98 = .ok (.invokevirtual 229, 3) := by decide +kernel
theorem dX11_run_101 : decode cX11_run 101 = .ok (.istore 4, 2) := by decide +kernel
theorem dX11_run_103 : decode cX11_run 103 = .ok (.goto 27, 3) := by decide +kernel
theorem dX11_run_106 : decode cX11_run 106 = .ok (.aload_n 0, 1) := by decide +kernel
theorem dX11_run_107 : decode cX11_run 107 = .ok (.invokevirtual 232, 3) := by decide +kernel
theorem dX11_run_110 : decode cX11_run 110 = .ok (.istore 4, 2) := by decide +kernel
theorem dX11_run_112 : decode cX11_run 112 = .ok (.goto 18, 3) := by decide +kernel
theorem dX11_run_115 : decode cX11_run 115 = .ok (.aload_n 0, 1) := by decide +kernel
theorem dX11_run_116 : decode cX11_run 116 = .ok (.getfield 16, 3) := by decide +kernel
theorem dX11_run_119 : decode cX11_run 119 = .ok (.iconst 4, 1) := by decide +kernel
theorem dX11_run_120 : decode cX11_run 120 = .ok (.iload_n 2, 1) := by decide +kernel
theorem dX11_run_121 : decode cX11_run 121 = .ok (.bipush 10, 2) := by decide +kernel
theorem dX11_run_123 : decode cX11_run 123 = .ok (.isub, 1) := by decide +kernel
theorem dX11_run_124 : decode cX11_run 124 = .ok (.imul, 1) := by decide +kernel
theorem dX11_run_125 : decode cX11_run 125 = .ok (.iconst 2, 1) := by decide +kernel
theorem dX11_run_126 : decode cX11_run 126 = .ok (.iadd, 1) := by decide +kernel
theorem dX11_run_127 : decode cX11_run 127 = .ok (.iaload, 1) := by decide +kernel
theorem dX11_run_128 : decode cX11_run 128 = .ok (.istore 4, 2) := by decide +kernel
theorem dX11_run_130 : decode cX11_run 130 = .ok (.aload_n 0, 1) := by decide +kernel
theorem dX11_run_131 : decode cX11_run 131 = .ok (.invokevirtual 235, 3) := by decide +kernel
theorem dX11_run_134 : decode cX11_run 134 = .ok (.iload 4, 2) := by decide +kernel
theorem dX11_run_136 : decode cX11_run 136 = .ok (.ireturn, 1) := by decide +kernel
def J_X11_run_130 (S : e_S) (l0 : Nat) (l4 : Int32) (g : e_G) : Option (Int32 × e_G) :=
  (f_X11_lays S l0 g).bind fun q2 =>
  some (l4, q2)
def J_X11_run_30 (S : e_S) (l0 : Nat) (l1 : Int32) (l2 : Int32) (t0 : Int32) (g : e_G) : Option (Int32 × e_G) :=
  (f_X11_in S l1 (0 : Int32) (40 : Int32) g).bind fun q2 =>
  if q2.1 = 0 then
    some ((-100000 : Int32), q2.2)
  else
    if t0 = 0 then
      some ((-100000 : Int32), q2.2)
    else
      (f_X11_keepsAll S l0 q2.2).bind fun q4 =>
      (f_X11_goes S l0 l1 q4).bind fun q6 =>
      if l2 = 0 then
        (f_X11_keptSet S l0 q6).bind fun q9 =>
        J_X11_run_130 S l0 q9.1 q9.2
      else
      if l2 = 1 then
        (f_X11_mindsAll S l0 q6).bind fun q12 =>
        J_X11_run_130 S l0 q12.1 q12.2
      else
      if l2 = 2 then
        (f_X11_leanAll S l0 q6).bind fun q15 =>
        J_X11_run_130 S l0 q15.1 q15.2
      else
      (e_gR S q6 11 l0 3).bind fun v16 =>
      (e_aI S q6 0 v16 (((4 : Int32) * (l2 - (10 : Int32))) + (2 : Int32))).bind fun v18 =>
      J_X11_run_130 S l0 v18 q6
def J_X11_run_25 (S : e_S) (l0 : Nat) (l1 : Int32) (l2 : Int32) (g : e_G) : Option (Int32 × e_G) :=
  J_X11_run_30 S l0 l1 l2 (1 : Int32) g
def f_X11_run (S : e_S) (l0 : Nat) (l1 : Int32) (l2 : Int32) (g : e_G) : Option (Int32 × e_G) :=
  if e_ob S 11 l0 = true then
    (f_X11_in S l2 (0 : Int32) (2 : Int32) g).bind fun q2 =>
    if q2.1 = 0 then
      (e_gI S q2.2 11 l0 0).bind fun v3 =>
      (f_X11_in S l2 (10 : Int32) ((9 : Int32) + v3) q2.2).bind fun q6 =>
      if q6.1 = 0 then
        J_X11_run_30 S l0 l1 l2 (0 : Int32) q6.2
      else
        J_X11_run_25 S l0 l1 l2 q6.2
    else
      J_X11_run_25 S l0 l1 l2 q2.2
  else none
theorem x_J_X11_run_130 {l : Launch} {D : va_G} {S : e_S} {w : Int32} {k : e_G} {l0 : Nat} {l4 : Int32} {g : e_G} (hf : J_X11_run_130 S l0 l4 g = some (w, k)) : X l D (e_R 7) M_X11_run 0 0 130 [(0, .ref l0), (4, .int l4)] [] (S, g) (some (.int w)) (S, k) := by
  unfold J_X11_run_130 at hf
  refine X.aload_n dX11_run_130 rfl (j := 0) rfl ?_
  obtain ⟨q2, h1, hf⟩ := ob hf
  refine Y.callV (av := []) (ci := 11) dX11_run_131 (c_X11_lays (l := l) (D := D) h1) cw_X11_235 (by decide) rfl mk_X11_lays (o_X11_lays (k := q2) h1) (e_R_ok (Nat.le_of_ble_eq_true rfl) (Nat.le_of_ble_eq_true rfl)) ⟨rfl, rfl⟩ (by simp [Value.category]) ?_
  refine X.iload dX11_run_134 (j := 1) rfl ?_
  obtain ⟨e1, e2⟩ := e_ret hf
  subst e1
  subst e2
  exact X.iret dX11_run_136 rfl rfl
theorem x_J_X11_run_30 {l : Launch} {D : va_G} {S : e_S} {w : Int32} {k : e_G} {l0 : Nat} {l1 : Int32} {l2 : Int32} {t0 : Int32} {g : e_G} (hf : J_X11_run_30 S l0 l1 l2 t0 g = some (w, k)) : X l D (e_R 7) M_X11_run 0 0 30 [(0, .ref l0), (1, .int l1), (2, .int l2)] [.int t0] (S, g) (some (.int w)) (S, k) := by
  unfold J_X11_run_30 at hf
  refine X.istore_n dX11_run_30 rfl (Nat.le_of_ble_eq_true rfl) (lc' := [(3, .int t0), (0, .ref l0), (1, .int l1), (2, .int l2)]) rfl ?_
  refine X.iload_n dX11_run_31 rfl (j := 2) rfl ?_
  refine X.iconst dX11_run_32 kI_0 ?_
  refine X.bipush dX11_run_33 kB_40 ?_
  obtain ⟨q2, h1, hf⟩ := ob hf
  refine Y.callS (av := [.int l1, .int (0 : Int32), .int (40 : Int32)]) dX11_run_35 (c_X11_in (l := l) (D := D) (w := q2.1) (k := q2.2) h1) cw_X11_78 mk_X11_in (e_R_ok (Nat.le_of_ble_eq_true rfl) (Nat.le_of_ble_eq_true rfl)) ⟨rfl, rfl⟩ (by simp [Value.category]) ?_
  refine X.if_eq dX11_run_38 (tgt := 45) rfl (fun hc => ?_) (fun hc => ?_)
  · rw [if_pos hc] at hf
    refine X.ldc dX11_run_45 ww_1214 ?_
    obtain ⟨e1, e2⟩ := e_ret hf
    subst e1
    subst e2
    exact X.iret dX11_run_47 rfl rfl
  · rw [if_neg hc] at hf
    refine X.iload_n dX11_run_41 rfl (j := 0) rfl ?_
    refine X.if_ne dX11_run_42 (tgt := 48) rfl (fun hc => ?_) (fun hc => ?_)
    · rw [if_neg hc] at hf
      refine X.aload_n dX11_run_48 rfl (j := 1) rfl ?_
      obtain ⟨q4, h3, hf⟩ := ob hf
      refine Y.callV (av := []) (ci := 11) dX11_run_49 (c_X11_keepsAll (l := l) (D := D) h3) cw_X11_223 (by decide) rfl mk_X11_keepsAll (o_X11_keepsAll (k := q4) h3) (e_R_ok (Nat.le_of_ble_eq_true rfl) (Nat.le_of_ble_eq_true rfl)) ⟨rfl, rfl⟩ (by simp [Value.category]) ?_
      refine X.aload_n dX11_run_52 rfl (j := 1) rfl ?_
      refine X.iload_n dX11_run_53 rfl (j := 2) rfl ?_
      obtain ⟨q6, h5, hf⟩ := ob hf
      refine Y.callV (av := [.int l1]) (ci := 11) dX11_run_54 (c_X11_goes (l := l) (D := D) h5) cw_X11_226 (by decide) rfl mk_X11_goes (o_X11_goes (k := q6) h5) (e_R_ok (Nat.le_of_ble_eq_true rfl) (Nat.le_of_ble_eq_true rfl)) ⟨rfl, rfl⟩ (by simp [Value.category]) ?_
      refine X.iconst dX11_run_57 kI_0 ?_
      refine X.istore dX11_run_58 (Nat.le_of_ble_eq_true rfl) (lc' := [(4, .int (0 : Int32)), (3, .int t0), (0, .ref l0), (1, .int l1), (2, .int l2)]) rfl ?_
      refine X.iload_n dX11_run_60 rfl (j := 4) rfl ?_
      by_cases h7 : l2 = (0 : Int32)
      · rw [if_pos h7] at hf
        refine X.tableIn dX11_run_61 (by rw [h7]; decide) (by rw [h7]; decide) (off := 27) (tgt := 88) (by rw [h7]; rfl) rfl ?_
        refine X.aload_n dX11_run_88 rfl (j := 2) rfl ?_
        obtain ⟨q9, h8, hf⟩ := ob hf
        refine Y.callV (av := []) (ci := 11) dX11_run_89 (c_X11_keptSet (l := l) (D := D) (w := q9.1) (k := q9.2) h8) cw_X11_82 (by decide) rfl mk_X11_keptSet (o_X11_keptSet (w := q9.1) (k := q9.2) h8) (e_R_ok (Nat.le_of_ble_eq_true rfl) (Nat.le_of_ble_eq_true rfl)) ⟨rfl, rfl⟩ (by simp [Value.category]) ?_
        refine X.istore dX11_run_92 (Nat.le_of_ble_eq_true rfl) (lc' := [(4, .int q9.1), (3, .int t0), (0, .ref l0), (1, .int l1), (2, .int l2)]) rfl ?_
        refine X.goto dX11_run_94 (tgt := 130) rfl ?_
        refine X.sub [2, 0] rfl ?_
        exact x_J_X11_run_130 hf
      rw [if_neg h7] at hf
      by_cases h10 : l2 = (1 : Int32)
      · rw [if_pos h10] at hf
        refine X.tableIn dX11_run_61 (by rw [h10]; decide) (by rw [h10]; decide) (off := 36) (tgt := 97) (by rw [h10]; rfl) rfl ?_
        refine X.aload_n dX11_run_97 rfl (j := 2) rfl ?_
        obtain ⟨q12, h11, hf⟩ := ob hf
        refine Y.callV (av := []) (ci := 11) dX11_run_98 (c_X11_mindsAll (l := l) (D := D) (w := q12.1) (k := q12.2) h11) cw_X11_229 (by decide) rfl mk_X11_mindsAll (o_X11_mindsAll (w := q12.1) (k := q12.2) h11) (e_R_ok (Nat.le_of_ble_eq_true rfl) (Nat.le_of_ble_eq_true rfl)) ⟨rfl, rfl⟩ (by simp [Value.category]) ?_
        refine X.istore dX11_run_101 (Nat.le_of_ble_eq_true rfl) (lc' := [(4, .int q12.1), (3, .int t0), (0, .ref l0), (1, .int l1), (2, .int l2)]) rfl ?_
        refine X.goto dX11_run_103 (tgt := 130) rfl ?_
        refine X.sub [2, 0] rfl ?_
        exact x_J_X11_run_130 hf
      rw [if_neg h10] at hf
      by_cases h13 : l2 = (2 : Int32)
      · rw [if_pos h13] at hf
        refine X.tableIn dX11_run_61 (by rw [h13]; decide) (by rw [h13]; decide) (off := 45) (tgt := 106) (by rw [h13]; rfl) rfl ?_
        refine X.aload_n dX11_run_106 rfl (j := 2) rfl ?_
        obtain ⟨q15, h14, hf⟩ := ob hf
        refine Y.callV (av := []) (ci := 11) dX11_run_107 (c_X11_leanAll (l := l) (D := D) (w := q15.1) (k := q15.2) h14) cw_X11_232 (by decide) rfl mk_X11_leanAll (o_X11_leanAll (w := q15.1) (k := q15.2) h14) (e_R_ok (Nat.le_of_ble_eq_true rfl) (Nat.le_of_ble_eq_true rfl)) ⟨rfl, rfl⟩ (by simp [Value.category]) ?_
        refine X.istore dX11_run_110 (Nat.le_of_ble_eq_true rfl) (lc' := [(4, .int q15.1), (3, .int t0), (0, .ref l0), (1, .int l1), (2, .int l2)]) rfl ?_
        refine X.goto dX11_run_112 (tgt := 130) rfl ?_
        refine X.sub [2, 0] rfl ?_
        exact x_J_X11_run_130 hf
      rw [if_neg h13] at hf
      refine X.tableOut dX11_run_61 (tgt := 115) (by have qh7 := e_ne (z := 0) (by decide) h7; have qh10 := e_ne (z := 1) (by decide) h10; have qh13 := e_ne (z := 2) (by decide) h13; omega) rfl ?_
      refine X.aload_n dX11_run_115 rfl (j := 2) rfl ?_
      obtain ⟨v16, h17, hf⟩ := ob hf
      refine Y.getR dX11_run_116 fl_X11_16 rfl h17 ?_
      refine X.iconst dX11_run_119 kI_4 ?_
      refine X.iload_n dX11_run_120 rfl (j := 4) rfl ?_
      refine X.bipush dX11_run_121 kB_10 ?_
      refine X.isub dX11_run_123 ?_
      refine X.imul dX11_run_124 ?_
      refine X.iconst dX11_run_125 kI_2 ?_
      refine X.iadd dX11_run_126 ?_
      obtain ⟨v18, h19, hf⟩ := ob hf
      refine Y.iald dX11_run_127 h19 ?_
      refine X.istore dX11_run_128 (Nat.le_of_ble_eq_true rfl) (lc' := [(4, .int v18), (3, .int t0), (0, .ref l0), (1, .int l1), (2, .int l2)]) rfl ?_
      refine X.sub [2, 0] rfl ?_
      exact x_J_X11_run_130 hf
    · rw [if_pos hc] at hf
      refine X.ldc dX11_run_45 ww_1214 ?_
      obtain ⟨e1, e2⟩ := e_ret hf
      subst e1
      subst e2
      exact X.iret dX11_run_47 rfl rfl
theorem x_J_X11_run_25 {l : Launch} {D : va_G} {S : e_S} {w : Int32} {k : e_G} {l0 : Nat} {l1 : Int32} {l2 : Int32} {g : e_G} (hf : J_X11_run_25 S l0 l1 l2 g = some (w, k)) : X l D (e_R 7) M_X11_run 0 0 25 [(0, .ref l0), (1, .int l1), (2, .int l2)] [] (S, g) (some (.int w)) (S, k) := by
  unfold J_X11_run_25 at hf
  refine X.iconst dX11_run_25 kI_1 ?_
  refine X.goto dX11_run_26 (tgt := 30) rfl ?_
  exact x_J_X11_run_30 hf
theorem o_X11_run  {S : e_S} {w : Int32} {k : e_G} {l0 : Nat} {l1 : Int32} {l2 : Int32} {g : e_G} (hf : f_X11_run S l0 l1 l2 g = some (w, k)) : e_ob S 11 l0 = true := by
  unfold f_X11_run at hf
  by_cases hc : e_ob S 11 l0 = true
  · exact hc
  · rw [if_neg hc] at hf
    cases hf
theorem c_X11_run {l : Launch} {D : va_G}  {S : e_S} {w : Int32} {k : e_G} {l0 : Nat} {l1 : Int32} {l2 : Int32} {g : e_G} (hf : f_X11_run S l0 l1 l2 g = some (w, k)) : CT l D (e_R 7) M_X11_run [.ref l0, .int l1, .int l2] (S, g) (some (.int w)) (S, k) := by
  refine CT.of (by decide +kernel) (Nat.le_of_ble_eq_true rfl) ?_
  have ho := o_X11_run hf
  unfold f_X11_run at hf
  rw [if_pos ho] at hf
  show X l D (e_R 7) M_X11_run 0 0 0 [(0, .ref l0), (1, .int l1), (2, .int l2)] [] (S, g) (some (.int w)) (S, k)
  refine X.iload_n dX11_run_0 rfl (j := 2) rfl ?_
  refine X.iconst dX11_run_1 kI_0 ?_
  refine X.iconst dX11_run_2 kI_2 ?_
  obtain ⟨q2, h1, hf⟩ := ob hf
  refine Y.callS (av := [.int l2, .int (0 : Int32), .int (2 : Int32)]) dX11_run_3 (c_X11_in (l := l) (D := D) (w := q2.1) (k := q2.2) h1) cw_X11_78 mk_X11_in (e_R_ok (Nat.le_of_ble_eq_true rfl) (Nat.le_of_ble_eq_true rfl)) ⟨rfl, rfl⟩ (by simp [Value.category]) ?_
  refine X.if_ne dX11_run_6 (tgt := 25) rfl (fun hc => ?_) (fun hc => ?_)
  · rw [if_neg hc] at hf
    exact x_J_X11_run_25 hf
  · rw [if_pos hc] at hf
    refine X.iload_n dX11_run_9 rfl (j := 2) rfl ?_
    refine X.bipush dX11_run_10 kB_10 ?_
    refine X.bipush dX11_run_12 kB_9 ?_
    refine X.aload_n dX11_run_14 rfl (j := 0) rfl ?_
    obtain ⟨v3, h4, hf⟩ := ob hf
    refine Y.getI dX11_run_15 fl_X11_75 rfl h4 ?_
    refine X.iadd dX11_run_18 ?_
    obtain ⟨q6, h5, hf⟩ := ob hf
    refine Y.callS (av := [.int l2, .int (10 : Int32), .int ((9 : Int32) + v3)]) dX11_run_19 (c_X11_in (l := l) (D := D) (w := q6.1) (k := q6.2) h5) cw_X11_78 mk_X11_in (e_R_ok (Nat.le_of_ble_eq_true rfl) (Nat.le_of_ble_eq_true rfl)) ⟨rfl, rfl⟩ (by simp [Value.category]) ?_
    refine X.if_eq dX11_run_22 (tgt := 29) rfl (fun hc => ?_) (fun hc => ?_)
    · rw [if_pos hc] at hf
      refine X.iconst dX11_run_29 kI_0 ?_
      exact x_J_X11_run_30 hf
    · rw [if_neg hc] at hf
      exact x_J_X11_run_25 hf
/-! LeanedOutModel.keepsOf(I)I -/
abbrev M_X11_keepsOf : e_M := (yX11_keepsOf, cX11_keepsOf, 4, (some .int))
theorem mk_X11_keepsOf : e_Mok M_X11_keepsOf 1 := ⟨by decide +kernel, by decide +kernel, by decide +kernel⟩
theorem dX11_keepsOf_0 : decode cX11_keepsOf 0 = .ok (.iconst (-1), 1) := by decide +kernel
theorem dX11_keepsOf_1 : decode cX11_keepsOf 1 = .ok (.istore_n 2, 1) := by decide +kernel
theorem dX11_keepsOf_2 : decode cX11_keepsOf 2 = .ok (.aload_n 0, 1) := by decide +kernel
theorem dX11_keepsOf_3 : decode cX11_keepsOf 3 = .ok (.invokevirtual 223, 3) := by decide +kernel
theorem dX11_keepsOf_6 : decode cX11_keepsOf 6 = .ok (.iconst 0, 1) := by decide +kernel
theorem dX11_keepsOf_7 : decode cX11_keepsOf 7 = .ok (.istore_n 3, 1) := by decide +kernel
theorem dX11_keepsOf_8 : decode cX11_keepsOf 8 = .ok (.iload_n 3, 1) := by decide +kernel
theorem dX11_keepsOf_9 : decode cX11_keepsOf 9 = .ok (.bipush 60, 2) := by decide +kernel
theorem dX11_keepsOf_11 : decode cX11_keepsOf 11 = .ok (.if_icmp .gt 39, 3) := by decide +kernel
theorem dX11_keepsOf_14 : decode cX11_keepsOf 14 = .ok (.iload_n 2, 1) := by decide +kernel
theorem dX11_keepsOf_15 : decode cX11_keepsOf 15 = .ok (.iconst (-1), 1) := by decide +kernel
theorem dX11_keepsOf_16 : decode cX11_keepsOf 16 = .ok (.if_icmp .ne 34, 3) := by decide +kernel
theorem dX11_keepsOf_19 : decode cX11_keepsOf 19 = .ok (.aload_n 0, 1) := by decide +kernel
theorem dX11_keepsOf_20 : decode cX11_keepsOf 20 = .ok (.getfield 16, 3) := by decide +kernel
theorem dX11_keepsOf_23 : decode cX11_keepsOf 23 = .ok (.iconst 4, 1) := by decide +kernel
theorem dX11_keepsOf_24 : decode cX11_keepsOf 24 = .ok (.iload_n 1, 1) := by decide +kernel
theorem dX11_keepsOf_25 : decode cX11_keepsOf 25 = .ok (.imul, 1) := by decide +kernel
theorem dX11_keepsOf_26 : decode cX11_keepsOf 26 = .ok (.iconst 3, 1) := by decide +kernel
theorem dX11_keepsOf_27 : decode cX11_keepsOf 27 = .ok (.iadd, 1) := by decide +kernel
theorem dX11_keepsOf_28 : decode cX11_keepsOf 28 = .ok (.iaload, 1) := by decide +kernel
theorem dX11_keepsOf_29 : decode cX11_keepsOf 29 = .ok (.iconst 1, 1) := by decide +kernel
theorem dX11_keepsOf_30 : decode cX11_keepsOf 30 = .ok (.if_icmp .ne 7, 3) := by decide +kernel
theorem dX11_keepsOf_33 : decode cX11_keepsOf 33 = .ok (.iload_n 3, 1) := by decide +kernel
theorem dX11_keepsOf_34 : decode cX11_keepsOf 34 = .ok (.goto 4, 3) := by decide +kernel
theorem dX11_keepsOf_37 : decode cX11_keepsOf 37 = .ok (.iconst (-1), 1) := by decide +kernel
theorem dX11_keepsOf_38 : decode cX11_keepsOf 38 = .ok (.istore_n 2, 1) := by decide +kernel
theorem dX11_keepsOf_39 : decode cX11_keepsOf 39 = .ok (.aload_n 0, 1) := by decide +kernel
theorem dX11_keepsOf_40 : decode cX11_keepsOf 40 = .ok (.invokevirtual 219, 3) := by decide +kernel
theorem dX11_keepsOf_43 : decode cX11_keepsOf 43 = .ok (.pop, 1) := by decide +kernel
theorem dX11_keepsOf_44 : decode cX11_keepsOf 44 = .ok (.iinc 3 1, 3) := by decide +kernel
theorem dX11_keepsOf_47 : decode cX11_keepsOf 47 = .ok (.goto (-39), 3) := by decide +kernel
theorem dX11_keepsOf_50 : decode cX11_keepsOf 50 = .ok (.aload_n 0, 1) := by decide +kernel
theorem dX11_keepsOf_51 : decode cX11_keepsOf 51 = .ok (.invokevirtual 235, 3) := by decide +kernel
theorem dX11_keepsOf_54 : decode cX11_keepsOf 54 = .ok (.iload_n 2, 1) := by decide +kernel
theorem dX11_keepsOf_55 : decode cX11_keepsOf 55 = .ok (.ireturn, 1) := by decide +kernel
def J_X11_keepsOf_50 (S : e_S) (l0 : Nat) (l2 : Int32) (g : e_G) : Option (Int32 × e_G) :=
  (f_X11_lays S l0 g).bind fun q2 =>
  some (l2, q2)
def J_X11_keepsOf_38 (c8 : Nat → Int32 → Int32 → Int32 → e_G → Option (Int32 × e_G)) (S : e_S) (l0 : Nat) (l1 : Int32) (l3 : Int32) (t0 : Int32) (g : e_G) : Option (Int32 × e_G) :=
  (f_X11_dayOf S l0 g).bind fun q2 =>
  c8 l0 l1 t0 (l3 + (1 : Int32)) q2.2
def L_X11_keepsOf_8 : Nat → e_S → Nat → Int32 → Int32 → Int32 → e_G → Option (Int32 × e_G)
  | 0, _, _, _, _, _, _ => none
  | n + 1, S, l0, l1, l2, l3, g =>
  if (60 : Int32) < l3 then
    J_X11_keepsOf_50 S l0 l2 g
  else
    if l2 = (-1 : Int32) then
      (e_gR S g 11 l0 3).bind fun v1 =>
      (e_aI S g 0 v1 (((4 : Int32) * l1) + (3 : Int32))).bind fun v3 =>
      if v3 = (1 : Int32) then
        J_X11_keepsOf_38 (L_X11_keepsOf_8 n S) S l0 l1 l3 l3 g
      else
        J_X11_keepsOf_38 (L_X11_keepsOf_8 n S) S l0 l1 l3 (-1 : Int32) g
    else
      J_X11_keepsOf_50 S l0 l2 g
def f_X11_keepsOf (S : e_S) (l0 : Nat) (l1 : Int32) (g : e_G) : Option (Int32 × e_G) :=
  if e_ob S 11 l0 = true then
    (f_X11_keepsAll S l0 g).bind fun q2 =>
    L_X11_keepsOf_8 50000 S l0 l1 (-1 : Int32) (0 : Int32) q2
  else none
theorem x_J_X11_keepsOf_50 {l : Launch} {D : va_G} {S : e_S} {w : Int32} {k : e_G} {l0 : Nat} {l2 : Int32} {g : e_G} (hf : J_X11_keepsOf_50 S l0 l2 g = some (w, k)) : X l D (e_R 6) M_X11_keepsOf 0 0 50 [(0, .ref l0), (2, .int l2)] [] (S, g) (some (.int w)) (S, k) := by
  unfold J_X11_keepsOf_50 at hf
  refine X.aload_n dX11_keepsOf_50 rfl (j := 0) rfl ?_
  obtain ⟨q2, h1, hf⟩ := ob hf
  refine Y.callV (av := []) (ci := 11) dX11_keepsOf_51 (c_X11_lays (l := l) (D := D) h1) cw_X11_235 (by decide) rfl mk_X11_lays (o_X11_lays (k := q2) h1) (e_R_ok (Nat.le_of_ble_eq_true rfl) (Nat.le_of_ble_eq_true rfl)) ⟨rfl, rfl⟩ (by simp [Value.category]) ?_
  refine X.iload_n dX11_keepsOf_54 rfl (j := 1) rfl ?_
  obtain ⟨e1, e2⟩ := e_ret hf
  subst e1
  subst e2
  exact X.iret dX11_keepsOf_55 rfl rfl
theorem x_J_X11_keepsOf_38 {l : Launch} {D : va_G} {S : e_S} {w : Int32} {k : e_G} (c8 : Nat → Int32 → Int32 → Int32 → e_G → Option (Int32 × e_G)) (hc8 : ∀ (l0 : Nat) (l1 : Int32) (l2 : Int32) (l3 : Int32) (g : e_G), c8 l0 l1 l2 l3 g = some (w, k) → X l D (e_R 6) M_X11_keepsOf 0 0 8 [(0, .ref l0), (1, .int l1), (2, .int l2), (3, .int l3)] [] (S, g) (some (.int w)) (S, k)) {l0 : Nat} {l1 : Int32} {l3 : Int32} {t0 : Int32} {g : e_G} (hf : J_X11_keepsOf_38 c8 S l0 l1 l3 t0 g = some (w, k)) : X l D (e_R 6) M_X11_keepsOf 0 0 38 [(0, .ref l0), (1, .int l1), (3, .int l3)] [.int t0] (S, g) (some (.int w)) (S, k) := by
  unfold J_X11_keepsOf_38 at hf
  refine X.istore_n dX11_keepsOf_38 rfl (Nat.le_of_ble_eq_true rfl) (lc' := [(2, .int t0), (0, .ref l0), (1, .int l1), (3, .int l3)]) rfl ?_
  refine X.aload_n dX11_keepsOf_39 rfl (j := 1) rfl ?_
  obtain ⟨q2, h1, hf⟩ := ob hf
  refine Y.callV (av := []) (ci := 11) dX11_keepsOf_40 (c_X11_dayOf (l := l) (D := D) (w := q2.1) (k := q2.2) h1) cw_X11_219 (by decide) rfl mk_X11_dayOf (o_X11_dayOf (w := q2.1) (k := q2.2) h1) (e_R_ok (Nat.le_of_ble_eq_true rfl) (Nat.le_of_ble_eq_true rfl)) ⟨rfl, rfl⟩ (by simp [Value.category]) ?_
  refine X.pop dX11_keepsOf_43 rfl ?_
  refine X.iinc (j := 3) dX11_keepsOf_44 rfl (v := l3 + (1 : Int32)) (by rw [kI_1]) (Nat.le_of_ble_eq_true rfl) (lc' := [(3, .int (l3 + (1 : Int32))), (2, .int t0), (0, .ref l0), (1, .int l1)]) rfl ?_
  refine X.goto dX11_keepsOf_47 (tgt := 8) rfl ?_
  refine X.sub [2, 3, 1, 0] rfl ?_
  exact hc8 _ _ _ _ _ hf
theorem x_L_X11_keepsOf_8 {l : Launch} {D : va_G} {S : e_S} {w : Int32} {k : e_G} : ∀ (n : Nat) (l0 : Nat) (l1 : Int32) (l2 : Int32) (l3 : Int32) (g : e_G), L_X11_keepsOf_8 n S l0 l1 l2 l3 g = some (w, k) → X l D (e_R 6) M_X11_keepsOf 0 0 8 [(0, .ref l0), (1, .int l1), (2, .int l2), (3, .int l3)] [] (S, g) (some (.int w)) (S, k) := by
  intro n
  induction n with
  | zero =>
    intro l0 l1 l2 l3 g hf
    cases hf
  | succ n ih =>
    intro l0 l1 l2 l3 g hf
    rw [L_X11_keepsOf_8] at hf
    refine X.iload_n dX11_keepsOf_8 rfl (j := 3) rfl ?_
    refine X.bipush dX11_keepsOf_9 kB_60 ?_
    refine X.icmp_gt dX11_keepsOf_11 (tgt := 50) rfl (fun hc => ?_) (fun hc => ?_)
    · rw [if_pos hc] at hf
      refine X.sub [0, 2] rfl ?_
      exact x_J_X11_keepsOf_50 hf
    · rw [if_neg hc] at hf
      refine X.iload_n dX11_keepsOf_14 rfl (j := 2) rfl ?_
      refine X.iconst dX11_keepsOf_15 kI_m1 ?_
      refine X.icmp_ne dX11_keepsOf_16 (tgt := 50) rfl (fun hc => ?_) (fun hc => ?_)
      · rw [if_neg hc] at hf
        refine X.sub [0, 2] rfl ?_
        exact x_J_X11_keepsOf_50 hf
      · rw [if_pos hc] at hf
        refine X.aload_n dX11_keepsOf_19 rfl (j := 0) rfl ?_
        obtain ⟨v1, h2, hf⟩ := ob hf
        refine Y.getR dX11_keepsOf_20 fl_X11_16 rfl h2 ?_
        refine X.iconst dX11_keepsOf_23 kI_4 ?_
        refine X.iload_n dX11_keepsOf_24 rfl (j := 1) rfl ?_
        refine X.imul dX11_keepsOf_25 ?_
        refine X.iconst dX11_keepsOf_26 kI_3 ?_
        refine X.iadd dX11_keepsOf_27 ?_
        obtain ⟨v3, h4, hf⟩ := ob hf
        refine Y.iald dX11_keepsOf_28 h4 ?_
        refine X.iconst dX11_keepsOf_29 kI_1 ?_
        refine X.icmp_ne dX11_keepsOf_30 (tgt := 37) rfl (fun hc => ?_) (fun hc => ?_)
        · rw [if_neg hc] at hf
          refine X.iconst dX11_keepsOf_37 kI_m1 ?_
          refine X.sub [0, 1, 3] rfl ?_
          exact x_J_X11_keepsOf_38 _ ih hf
        · rw [if_pos hc] at hf
          refine X.iload_n dX11_keepsOf_33 rfl (j := 3) rfl ?_
          refine X.goto dX11_keepsOf_34 (tgt := 38) rfl ?_
          refine X.sub [0, 1, 3] rfl ?_
          exact x_J_X11_keepsOf_38 _ ih hf
theorem o_X11_keepsOf  {S : e_S} {w : Int32} {k : e_G} {l0 : Nat} {l1 : Int32} {g : e_G} (hf : f_X11_keepsOf S l0 l1 g = some (w, k)) : e_ob S 11 l0 = true := by
  unfold f_X11_keepsOf at hf
  by_cases hc : e_ob S 11 l0 = true
  · exact hc
  · rw [if_neg hc] at hf
    cases hf
theorem c_X11_keepsOf {l : Launch} {D : va_G}  {S : e_S} {w : Int32} {k : e_G} {l0 : Nat} {l1 : Int32} {g : e_G} (hf : f_X11_keepsOf S l0 l1 g = some (w, k)) : CT l D (e_R 6) M_X11_keepsOf [.ref l0, .int l1] (S, g) (some (.int w)) (S, k) := by
  refine CT.of (by decide +kernel) (Nat.le_of_ble_eq_true rfl) ?_
  have ho := o_X11_keepsOf hf
  unfold f_X11_keepsOf at hf
  rw [if_pos ho] at hf
  show X l D (e_R 6) M_X11_keepsOf 0 0 0 [(0, .ref l0), (1, .int l1)] [] (S, g) (some (.int w)) (S, k)
  refine X.iconst dX11_keepsOf_0 kI_m1 ?_
  refine X.istore_n dX11_keepsOf_1 rfl (Nat.le_of_ble_eq_true rfl) (lc' := [(2, .int (-1 : Int32)), (0, .ref l0), (1, .int l1)]) rfl ?_
  refine X.aload_n dX11_keepsOf_2 rfl (j := 1) rfl ?_
  obtain ⟨q2, h1, hf⟩ := ob hf
  refine Y.callV (av := []) (ci := 11) dX11_keepsOf_3 (c_X11_keepsAll (l := l) (D := D) h1) cw_X11_223 (by decide) rfl mk_X11_keepsAll (o_X11_keepsAll (k := q2) h1) (e_R_ok (Nat.le_of_ble_eq_true rfl) (Nat.le_of_ble_eq_true rfl)) ⟨rfl, rfl⟩ (by simp [Value.category]) ?_
  refine X.iconst dX11_keepsOf_6 kI_0 ?_
  refine X.istore_n dX11_keepsOf_7 rfl (Nat.le_of_ble_eq_true rfl) (lc' := [(3, .int (0 : Int32)), (2, .int (-1 : Int32)), (0, .ref l0), (1, .int l1)]) rfl ?_
  refine X.sub [2, 3, 1, 0] rfl ?_
  exact x_L_X11_keepsOf_8 50000 _ _ _ _ _ hf
/-! LeanedOutModel.keeps(I)I -/
abbrev M_X11_keeps : e_M := (yX11_keeps, cX11_keeps, 2, (some .int))
theorem mk_X11_keeps : e_Mok M_X11_keeps 1 := ⟨by decide +kernel, by decide +kernel, by decide +kernel⟩
theorem dX11_keeps_0 : decode cX11_keeps 0 = .ok (.aload_n 0, 1) := by decide +kernel
theorem dX11_keeps_1 : decode cX11_keeps 1 = .ok (.iload_n 1, 1) := by decide +kernel
theorem dX11_keeps_2 : decode cX11_keeps 2 = .ok (.invokevirtual 179, 3) := by decide +kernel
theorem dX11_keeps_5 : decode cX11_keeps 5 = .ok (.ifCond .eq 11, 3) := by decide +kernel
theorem dX11_keeps_8 : decode cX11_keeps 8 = .ok (.aload_n 0, 1) := by decide +kernel
theorem dX11_keeps_9 : decode cX11_keeps 9 = .ok (.iload_n 1, 1) := by decide +kernel
theorem dX11_keeps_10 : decode cX11_keeps 10 = .ok (.invokevirtual 238, 3) := by decide +kernel
theorem dX11_keeps_13 : decode cX11_keeps 13 = .ok (.goto 5, 3) := by decide +kernel
theorem dX11_keeps_16 : decode cX11_keeps 16 = .ok (.bipush (-5), 2) := by decide +kernel
theorem dX11_keeps_18 : decode cX11_keeps 18 = .ok (.ireturn, 1) := by decide +kernel
def f_X11_keeps (S : e_S) (l0 : Nat) (l1 : Int32) (g : e_G) : Option (Int32 × e_G) :=
  if e_ob S 11 l0 = true then
    (f_X11_isOne S l0 l1 g).bind fun q2 =>
    if q2.1 = 0 then
      some ((-5 : Int32), q2.2)
    else
      (f_X11_keepsOf S l0 l1 q2.2).bind fun q4 =>
      some (q4.1, q4.2)
  else none
theorem o_X11_keeps  {S : e_S} {w : Int32} {k : e_G} {l0 : Nat} {l1 : Int32} {g : e_G} (hf : f_X11_keeps S l0 l1 g = some (w, k)) : e_ob S 11 l0 = true := by
  unfold f_X11_keeps at hf
  by_cases hc : e_ob S 11 l0 = true
  · exact hc
  · rw [if_neg hc] at hf
    cases hf
theorem c_X11_keeps {l : Launch} {D : va_G}  {S : e_S} {w : Int32} {k : e_G} {l0 : Nat} {l1 : Int32} {g : e_G} (hf : f_X11_keeps S l0 l1 g = some (w, k)) : CT l D (e_R 7) M_X11_keeps [.ref l0, .int l1] (S, g) (some (.int w)) (S, k) := by
  refine CT.of (by decide +kernel) (Nat.le_of_ble_eq_true rfl) ?_
  have ho := o_X11_keeps hf
  unfold f_X11_keeps at hf
  rw [if_pos ho] at hf
  show X l D (e_R 7) M_X11_keeps 0 0 0 [(0, .ref l0), (1, .int l1)] [] (S, g) (some (.int w)) (S, k)
  refine X.aload_n dX11_keeps_0 rfl (j := 0) rfl ?_
  refine X.iload_n dX11_keeps_1 rfl (j := 1) rfl ?_
  obtain ⟨q2, h1, hf⟩ := ob hf
  refine Y.callV (av := [.int l1]) (ci := 11) dX11_keeps_2 (c_X11_isOne (l := l) (D := D) (w := q2.1) (k := q2.2) h1) cw_X11_179 (by decide) rfl mk_X11_isOne (o_X11_isOne (w := q2.1) (k := q2.2) h1) (e_R_ok (Nat.le_of_ble_eq_true rfl) (Nat.le_of_ble_eq_true rfl)) ⟨rfl, rfl⟩ (by simp [Value.category]) ?_
  refine X.if_eq dX11_keeps_5 (tgt := 16) rfl (fun hc => ?_) (fun hc => ?_)
  · rw [if_pos hc] at hf
    refine X.bipush dX11_keeps_16 kB_m5 ?_
    obtain ⟨e1, e2⟩ := e_ret hf
    subst e1
    subst e2
    exact X.iret dX11_keeps_18 rfl rfl
  · rw [if_neg hc] at hf
    refine X.aload_n dX11_keeps_8 rfl (j := 0) rfl ?_
    refine X.iload_n dX11_keeps_9 rfl (j := 1) rfl ?_
    obtain ⟨q4, h3, hf⟩ := ob hf
    refine Y.callV (av := [.int l1]) (ci := 11) dX11_keeps_10 (c_X11_keepsOf (l := l) (D := D) (w := q4.1) (k := q4.2) h3) cw_X11_238 (by decide) rfl mk_X11_keepsOf (o_X11_keepsOf (w := q4.1) (k := q4.2) h3) (e_R_ok (Nat.le_of_ble_eq_true rfl) (Nat.le_of_ble_eq_true rfl)) ⟨rfl, rfl⟩ (by simp [Value.category]) ?_
    refine X.goto dX11_keeps_13 (tgt := 18) rfl ?_
    obtain ⟨e1, e2⟩ := e_ret hf
    subst e1
    subst e2
    exact X.iret dX11_keeps_18 rfl rfl
/-! LeanedOutModel.turn(I)I -/
abbrev M_X11_turn : e_M := (yX11_turn, cX11_turn, 8, (some .int))
theorem mk_X11_turn : e_Mok M_X11_turn 1 := ⟨by decide +kernel, by decide +kernel, by decide +kernel⟩
theorem dX11_turn_0 : decode cX11_turn 0 = .ok (.iload_n 1, 1) := by decide +kernel
theorem dX11_turn_1 : decode cX11_turn 1 = .ok (.iconst 0, 1) := by decide +kernel
theorem dX11_turn_2 : decode cX11_turn 2 = .ok (.iconst 1, 1) := by decide +kernel
theorem dX11_turn_3 : decode cX11_turn 3 = .ok (.invokestatic 78, 3) := by decide +kernel
theorem dX11_turn_6 : decode cX11_turn 6 = .ok (.ifCond .ne 6, 3) := by decide +kernel
theorem dX11_turn_9 : decode cX11_turn 9 = .ok (.bipush (-2), 2) := by decide +kernel
theorem dX11_turn_11 : decode cX11_turn 11 = .ok (.ireturn, 1) := by decide +kernel
theorem dX11_turn_12 : decode cX11_turn 12 = .ok (.iconst (-1), 1) := by decide +kernel
theorem dX11_turn_13 : decode cX11_turn 13 = .ok (.istore_n 2, 1) := by decide +kernel
theorem dX11_turn_14 : decode cX11_turn 14 = .ok (.aload_n 0, 1) := by decide +kernel
theorem dX11_turn_15 : decode cX11_turn 15 = .ok (.invokevirtual 207, 3) := by decide +kernel
theorem dX11_turn_18 : decode cX11_turn 18 = .ok (.istore_n 3, 1) := by decide +kernel
theorem dX11_turn_19 : decode cX11_turn 19 = .ok (.iconst 0, 1) := by decide +kernel
theorem dX11_turn_20 : decode cX11_turn 20 = .ok (.istore 4, 2) := by decide +kernel
theorem dX11_turn_22 : decode cX11_turn 22 = .ok (.iload 4, 2) := by decide +kernel
theorem dX11_turn_24 : decode cX11_turn 24 = .ok (.aload_n 0, 1) := by decide +kernel
theorem dX11_turn_25 : decode cX11_turn 25 = .ok (.getfield 75, 3) := by decide +kernel
theorem dX11_turn_28 : decode cX11_turn 28 = .ok (.if_icmp .ge 119, 3) := by decide +kernel
theorem dX11_turn_31 : decode cX11_turn 31 = .ok (.aload_n 0, 1) := by decide +kernel
theorem dX11_turn_32 : decode cX11_turn 32 = .ok (.getfield 16, 3) := by decide +kernel
theorem dX11_turn_35 : decode cX11_turn 35 = .ok (.iconst 4, 1) := by decide +kernel
theorem dX11_turn_36 : decode cX11_turn 36 = .ok (.iload 4, 2) := by decide +kernel
theorem dX11_turn_38 : decode cX11_turn 38 = .ok (.imul, 1) := by decide +kernel
theorem dX11_turn_39 : decode cX11_turn 39 = .ok (.iconst 1, 1) := by decide +kernel
theorem dX11_turn_40 : decode cX11_turn 40 = .ok (.iadd, 1) := by decide +kernel
theorem dX11_turn_41 : decode cX11_turn 41 = .ok (.iaload, 1) := by decide +kernel
theorem dX11_turn_42 : decode cX11_turn 42 = .ok (.istore 5, 2) := by decide +kernel
theorem dX11_turn_44 : decode cX11_turn 44 = .ok (.iconst 0, 1) := by decide +kernel
theorem dX11_turn_45 : decode cX11_turn 45 = .ok (.istore 6, 2) := by decide +kernel
theorem dX11_turn_47 : decode cX11_turn 47 = .ok (.iload 6, 2) := by decide +kernel
theorem dX11_turn_49 : decode cX11_turn 49 = .ok (.bipush 20, 2) := by decide +kernel
theorem dX11_turn_51 : decode cX11_turn 51 = .ok (.if_icmp .ge 77, 3) := by decide +kernel
theorem dX11_turn_54 : decode cX11_turn 54 = .ok (.aload_n 0, 1) := by decide +kernel
theorem dX11_turn_55 : decode cX11_turn 55 = .ok (.getfield 16, 3) := by decide +kernel
theorem dX11_turn_58 : decode cX11_turn 58 = .ok (.iconst 4, 1) := by decide +kernel
theorem dX11_turn_59 : decode cX11_turn 59 = .ok (.iload 4, 2) := by decide +kernel
theorem dX11_turn_61 : decode cX11_turn 61 = .ok (.imul, 1) := by decide +kernel
theorem dX11_turn_62 : decode cX11_turn 62 = .ok (.iaload, 1) := by decide +kernel
theorem dX11_turn_63 : decode cX11_turn 63 = .ok (.iload 6, 2) := by decide +kernel
theorem dX11_turn_65 : decode cX11_turn 65 = .ok (.invokestatic 185, 3) := by decide +kernel
theorem dX11_turn_68 : decode cX11_turn 68 = .ok (.ifCond .eq 54, 3) := by decide +kernel
theorem dX11_turn_71 : decode cX11_turn 71 = .ok (.aload_n 0, 1) := by decide +kernel
theorem dX11_turn_72 : decode cX11_turn 72 = .ok (.getfield 16, 3) := by decide +kernel
theorem dX11_turn_75 : decode cX11_turn 75 = .ok (.iconst 4, 1) := by decide +kernel
theorem dX11_turn_76 : decode cX11_turn 76 = .ok (.iload 4, 2) := by decide +kernel
theorem dX11_turn_78 : decode cX11_turn 78 = .ok (.imul, 1) := by decide +kernel
theorem dX11_turn_79 : decode cX11_turn 79 = .ok (.iconst 1, 1) := by decide +kernel
theorem dX11_turn_80 : decode cX11_turn 80 = .ok (.iadd, 1) := by decide +kernel
theorem dX11_turn_81 : decode cX11_turn 81 = .ok (.iload 6, 2) := by decide +kernel
theorem dX11_turn_83 : decode cX11_turn 83 = .ok (.iastore, 1) := by decide +kernel
theorem dX11_turn_84 : decode cX11_turn 84 = .ok (.aload_n 0, 1) := by decide +kernel
theorem dX11_turn_85 : decode cX11_turn 85 = .ok (.invokevirtual 207, 3) := by decide +kernel
theorem dX11_turn_88 : decode cX11_turn 88 = .ok (.istore 7, 2) := by decide +kernel
theorem dX11_turn_90 : decode cX11_turn 90 = .ok (.iload 7, 2) := by decide +kernel
theorem dX11_turn_92 : decode cX11_turn 92 = .ok (.iload_n 3, 1) := by decide +kernel
theorem dX11_turn_93 : decode cX11_turn 93 = .ok (.if_icmp .le 14, 3) := by decide +kernel
theorem dX11_turn_96 : decode cX11_turn 96 = .ok (.bipush 100, 2) := by decide +kernel
theorem dX11_turn_98 : decode cX11_turn 98 = .ok (.iload 4, 2) := by decide +kernel
theorem dX11_turn_100 : decode cX11_turn 100 = .ok (.imul, 1) := by decide +kernel
theorem dX11_turn_101 : decode cX11_turn 101 = .ok (.iload 6, 2) := by decide +kernel
theorem dX11_turn_103 : decode cX11_turn 103 = .ok (.iadd, 1) := by decide +kernel
theorem dX11_turn_104 : decode cX11_turn 104 = .ok (.goto 4, 3) := by decide +kernel
theorem dX11_turn_107 : decode cX11_turn 107 = .ok (.iload_n 2, 1) := by decide +kernel
theorem dX11_turn_108 : decode cX11_turn 108 = .ok (.istore_n 2, 1) := by decide +kernel
theorem dX11_turn_109 : decode cX11_turn 109 = .ok (.iload 7, 2) := by decide +kernel
theorem dX11_turn_111 : decode cX11_turn 111 = .ok (.iload_n 3, 1) := by decide +kernel
theorem dX11_turn_112 : decode cX11_turn 112 = .ok (.if_icmp .le 8, 3) := by decide +kernel
theorem dX11_turn_115 : decode cX11_turn 115 = .ok (.iload 7, 2) := by decide +kernel
theorem dX11_turn_117 : decode cX11_turn 117 = .ok (.goto 4, 3) := by decide +kernel
theorem dX11_turn_120 : decode cX11_turn 120 = .ok (.iload_n 3, 1) := by decide +kernel
theorem dX11_turn_121 : decode cX11_turn 121 = .ok (.istore_n 3, 1) := by decide +kernel
theorem dX11_turn_122 : decode cX11_turn 122 = .ok (.iinc 6 1, 3) := by decide +kernel
theorem dX11_turn_125 : decode cX11_turn 125 = .ok (.goto (-78), 3) := by decide +kernel
theorem dX11_turn_128 : decode cX11_turn 128 = .ok (.aload_n 0, 1) := by decide +kernel
theorem dX11_turn_129 : decode cX11_turn 129 = .ok (.getfield 16, 3) := by decide +kernel
theorem dX11_turn_132 : decode cX11_turn 132 = .ok (.iconst 4, 1) := by decide +kernel
theorem dX11_turn_133 : decode cX11_turn 133 = .ok (.iload 4, 2) := by decide +kernel
theorem dX11_turn_135 : decode cX11_turn 135 = .ok (.imul, 1) := by decide +kernel
theorem dX11_turn_136 : decode cX11_turn 136 = .ok (.iconst 1, 1) := by decide +kernel
theorem dX11_turn_137 : decode cX11_turn 137 = .ok (.iadd, 1) := by decide +kernel
theorem dX11_turn_138 : decode cX11_turn 138 = .ok (.iload 5, 2) := by decide +kernel
theorem dX11_turn_140 : decode cX11_turn 140 = .ok (.iastore, 1) := by decide +kernel
theorem dX11_turn_141 : decode cX11_turn 141 = .ok (.iinc 4 1, 3) := by decide +kernel
theorem dX11_turn_144 : decode cX11_turn 144 = .ok (.goto (-122), 3) := by decide +kernel
theorem dX11_turn_147 : decode cX11_turn 147 = .ok (.iload_n 1, 1) := by decide +kernel
theorem dX11_turn_148 : decode cX11_turn 148 = .ok (.ifCond .ne 7, 3) := by decide +kernel
theorem dX11_turn_151 : decode cX11_turn 151 = .ok (.iload_n 2, 1) := by decide +kernel
theorem dX11_turn_152 : decode cX11_turn 152 = .ok (.goto 4, 3) := by decide +kernel
theorem dX11_turn_155 : decode cX11_turn 155 = .ok (.iload_n 3, 1) := by decide +kernel
theorem dX11_turn_156 : decode cX11_turn 156 = .ok (.ireturn, 1) := by decide +kernel
def J_X11_turn_122 (c47 : Nat → Int32 → Int32 → Int32 → Int32 → Int32 → Int32 → e_G → Option (Int32 × e_G)) (S : e_S) (l0 : Nat) (l1 : Int32) (l2 : Int32) (l3 : Int32) (l4 : Int32) (l5 : Int32) (l6 : Int32) (g : e_G) : Option (Int32 × e_G) :=
  c47 l0 l1 l2 l3 l4 l5 (l6 + (1 : Int32)) g
def J_X11_turn_121 (c47 : Nat → Int32 → Int32 → Int32 → Int32 → Int32 → Int32 → e_G → Option (Int32 × e_G)) (S : e_S) (l0 : Nat) (l1 : Int32) (l2 : Int32) (l4 : Int32) (l5 : Int32) (l6 : Int32) (t0 : Int32) (g : e_G) : Option (Int32 × e_G) :=
  J_X11_turn_122 c47 S l0 l1 l2 t0 l4 l5 l6 g
def J_X11_turn_108 (c47 : Nat → Int32 → Int32 → Int32 → Int32 → Int32 → Int32 → e_G → Option (Int32 × e_G)) (S : e_S) (l0 : Nat) (l1 : Int32) (l3 : Int32) (l4 : Int32) (l5 : Int32) (l6 : Int32) (l7 : Int32) (t0 : Int32) (g : e_G) : Option (Int32 × e_G) :=
  if l7 ≤ l3 then
    J_X11_turn_121 c47 S l0 l1 t0 l4 l5 l6 l3 g
  else
    J_X11_turn_121 c47 S l0 l1 t0 l4 l5 l6 l7 g
def L_X11_turn_47 (c22 : Nat → Int32 → Int32 → Int32 → Int32 → e_G → Option (Int32 × e_G)) : Nat → e_S → Nat → Int32 → Int32 → Int32 → Int32 → Int32 → Int32 → e_G → Option (Int32 × e_G)
  | 0, _, _, _, _, _, _, _, _, _ => none
  | n + 1, S, l0, l1, l2, l3, l4, l5, l6, g =>
  if (20 : Int32) ≤ l6 then
    (e_gR S g 11 l0 3).bind fun v1 =>
    (e_aS S g 0 v1 (((4 : Int32) * l4) + (1 : Int32)) l5).bind fun g3 =>
    c22 l0 l1 l2 l3 (l4 + (1 : Int32)) g3
  else
    (e_gR S g 11 l0 3).bind fun v5 =>
    (e_aI S g 0 v5 ((4 : Int32) * l4)).bind fun v7 =>
    (f_X11_areAcross S v7 l6 g).bind fun q10 =>
    if q10.1 = 0 then
      J_X11_turn_122 (L_X11_turn_47 c22 n S) S l0 l1 l2 l3 l4 l5 l6 q10.2
    else
      (e_gR S q10.2 11 l0 3).bind fun v11 =>
      (e_aS S q10.2 0 v11 (((4 : Int32) * l4) + (1 : Int32)) l6).bind fun g13 =>
      (f_X11_metTwos S l0 g13).bind fun q16 =>
      if q16.1 ≤ l3 then
        J_X11_turn_108 (L_X11_turn_47 c22 n S) S l0 l1 l3 l4 l5 l6 q16.1 l2 q16.2
      else
        J_X11_turn_108 (L_X11_turn_47 c22 n S) S l0 l1 l3 l4 l5 l6 q16.1 (((100 : Int32) * l4) + l6) q16.2
def L_X11_turn_22 : Nat → e_S → Nat → Int32 → Int32 → Int32 → Int32 → e_G → Option (Int32 × e_G)
  | 0, _, _, _, _, _, _, _ => none
  | n + 1, S, l0, l1, l2, l3, l4, g =>
  (e_gI S g 11 l0 0).bind fun v1 =>
  if v1 ≤ l4 then
    if l1 = 0 then
      some (l2, g)
    else
      some (l3, g)
  else
    (e_gR S g 11 l0 3).bind fun v3 =>
    (e_aI S g 0 v3 (((4 : Int32) * l4) + (1 : Int32))).bind fun v5 =>
    L_X11_turn_47 (L_X11_turn_22 n S) 50000 S l0 l1 l2 l3 l4 v5 (0 : Int32) g
def f_X11_turn (S : e_S) (l0 : Nat) (l1 : Int32) (g : e_G) : Option (Int32 × e_G) :=
  if e_ob S 11 l0 = true then
    (f_X11_in S l1 (0 : Int32) (1 : Int32) g).bind fun q2 =>
    if q2.1 = 0 then
      some ((-2 : Int32), q2.2)
    else
      (f_X11_metTwos S l0 q2.2).bind fun q4 =>
      L_X11_turn_22 50000 S l0 l1 (-1 : Int32) q4.1 (0 : Int32) q4.2
  else none
theorem x_J_X11_turn_122 {l : Launch} {D : va_G} {S : e_S} {w : Int32} {k : e_G} (c47 : Nat → Int32 → Int32 → Int32 → Int32 → Int32 → Int32 → e_G → Option (Int32 × e_G)) (hc47 : ∀ (l0 : Nat) (l1 : Int32) (l2 : Int32) (l3 : Int32) (l4 : Int32) (l5 : Int32) (l6 : Int32) (g : e_G), c47 l0 l1 l2 l3 l4 l5 l6 g = some (w, k) → X l D (e_R 4) M_X11_turn 0 0 47 [(0, .ref l0), (1, .int l1), (2, .int l2), (3, .int l3), (4, .int l4), (5, .int l5), (6, .int l6)] [] (S, g) (some (.int w)) (S, k)) {l0 : Nat} {l1 : Int32} {l2 : Int32} {l3 : Int32} {l4 : Int32} {l5 : Int32} {l6 : Int32} {g : e_G} (hf : J_X11_turn_122 c47 S l0 l1 l2 l3 l4 l5 l6 g = some (w, k)) : X l D (e_R 4) M_X11_turn 0 0 122 [(0, .ref l0), (1, .int l1), (2, .int l2), (3, .int l3), (4, .int l4), (5, .int l5), (6, .int l6)] [] (S, g) (some (.int w)) (S, k) := by
  unfold J_X11_turn_122 at hf
  refine X.iinc (j := 6) dX11_turn_122 rfl (v := l6 + (1 : Int32)) (by rw [kI_1]) (Nat.le_of_ble_eq_true rfl) (lc' := [(6, .int (l6 + (1 : Int32))), (0, .ref l0), (1, .int l1), (2, .int l2), (3, .int l3), (4, .int l4), (5, .int l5)]) rfl ?_
  refine X.goto dX11_turn_125 (tgt := 47) rfl ?_
  refine X.sub [1, 2, 3, 4, 5, 6, 0] rfl ?_
  exact hc47 _ _ _ _ _ _ _ _ hf
theorem x_J_X11_turn_121 {l : Launch} {D : va_G} {S : e_S} {w : Int32} {k : e_G} (c47 : Nat → Int32 → Int32 → Int32 → Int32 → Int32 → Int32 → e_G → Option (Int32 × e_G)) (hc47 : ∀ (l0 : Nat) (l1 : Int32) (l2 : Int32) (l3 : Int32) (l4 : Int32) (l5 : Int32) (l6 : Int32) (g : e_G), c47 l0 l1 l2 l3 l4 l5 l6 g = some (w, k) → X l D (e_R 4) M_X11_turn 0 0 47 [(0, .ref l0), (1, .int l1), (2, .int l2), (3, .int l3), (4, .int l4), (5, .int l5), (6, .int l6)] [] (S, g) (some (.int w)) (S, k)) {l0 : Nat} {l1 : Int32} {l2 : Int32} {l4 : Int32} {l5 : Int32} {l6 : Int32} {t0 : Int32} {g : e_G} (hf : J_X11_turn_121 c47 S l0 l1 l2 l4 l5 l6 t0 g = some (w, k)) : X l D (e_R 4) M_X11_turn 0 0 121 [(0, .ref l0), (1, .int l1), (2, .int l2), (4, .int l4), (5, .int l5), (6, .int l6)] [.int t0] (S, g) (some (.int w)) (S, k) := by
  unfold J_X11_turn_121 at hf
  refine X.istore_n dX11_turn_121 rfl (Nat.le_of_ble_eq_true rfl) (lc' := [(3, .int t0), (0, .ref l0), (1, .int l1), (2, .int l2), (4, .int l4), (5, .int l5), (6, .int l6)]) rfl ?_
  refine X.sub [1, 2, 3, 0, 4, 5, 6] rfl ?_
  exact x_J_X11_turn_122 _ hc47 hf
theorem x_J_X11_turn_108 {l : Launch} {D : va_G} {S : e_S} {w : Int32} {k : e_G} (c47 : Nat → Int32 → Int32 → Int32 → Int32 → Int32 → Int32 → e_G → Option (Int32 × e_G)) (hc47 : ∀ (l0 : Nat) (l1 : Int32) (l2 : Int32) (l3 : Int32) (l4 : Int32) (l5 : Int32) (l6 : Int32) (g : e_G), c47 l0 l1 l2 l3 l4 l5 l6 g = some (w, k) → X l D (e_R 4) M_X11_turn 0 0 47 [(0, .ref l0), (1, .int l1), (2, .int l2), (3, .int l3), (4, .int l4), (5, .int l5), (6, .int l6)] [] (S, g) (some (.int w)) (S, k)) {l0 : Nat} {l1 : Int32} {l3 : Int32} {l4 : Int32} {l5 : Int32} {l6 : Int32} {l7 : Int32} {t0 : Int32} {g : e_G} (hf : J_X11_turn_108 c47 S l0 l1 l3 l4 l5 l6 l7 t0 g = some (w, k)) : X l D (e_R 4) M_X11_turn 0 0 108 [(0, .ref l0), (1, .int l1), (3, .int l3), (4, .int l4), (5, .int l5), (6, .int l6), (7, .int l7)] [.int t0] (S, g) (some (.int w)) (S, k) := by
  unfold J_X11_turn_108 at hf
  refine X.istore_n dX11_turn_108 rfl (Nat.le_of_ble_eq_true rfl) (lc' := [(2, .int t0), (0, .ref l0), (1, .int l1), (3, .int l3), (4, .int l4), (5, .int l5), (6, .int l6), (7, .int l7)]) rfl ?_
  refine X.iload dX11_turn_109 (j := 7) rfl ?_
  refine X.iload_n dX11_turn_111 rfl (j := 3) rfl ?_
  refine X.icmp_le dX11_turn_112 (tgt := 120) rfl (fun hc => ?_) (fun hc => ?_)
  · rw [if_pos hc] at hf
    refine X.iload_n dX11_turn_120 rfl (j := 3) rfl ?_
    refine X.sub [1, 2, 0, 4, 5, 6] rfl ?_
    exact x_J_X11_turn_121 _ hc47 hf
  · rw [if_neg hc] at hf
    refine X.iload dX11_turn_115 (j := 7) rfl ?_
    refine X.goto dX11_turn_117 (tgt := 121) rfl ?_
    refine X.sub [1, 2, 0, 4, 5, 6] rfl ?_
    exact x_J_X11_turn_121 _ hc47 hf
theorem x_L_X11_turn_47 {l : Launch} {D : va_G} {S : e_S} {w : Int32} {k : e_G} (c22 : Nat → Int32 → Int32 → Int32 → Int32 → e_G → Option (Int32 × e_G)) (hc22 : ∀ (l0 : Nat) (l1 : Int32) (l2 : Int32) (l3 : Int32) (l4 : Int32) (g : e_G), c22 l0 l1 l2 l3 l4 g = some (w, k) → X l D (e_R 4) M_X11_turn 0 0 22 [(0, .ref l0), (1, .int l1), (2, .int l2), (3, .int l3), (4, .int l4)] [] (S, g) (some (.int w)) (S, k)) : ∀ (n : Nat) (l0 : Nat) (l1 : Int32) (l2 : Int32) (l3 : Int32) (l4 : Int32) (l5 : Int32) (l6 : Int32) (g : e_G), L_X11_turn_47 c22 n S l0 l1 l2 l3 l4 l5 l6 g = some (w, k) → X l D (e_R 4) M_X11_turn 0 0 47 [(0, .ref l0), (1, .int l1), (2, .int l2), (3, .int l3), (4, .int l4), (5, .int l5), (6, .int l6)] [] (S, g) (some (.int w)) (S, k) := by
  intro n
  induction n with
  | zero =>
    intro l0 l1 l2 l3 l4 l5 l6 g hf
    cases hf
  | succ n ih =>
    intro l0 l1 l2 l3 l4 l5 l6 g hf
    rw [L_X11_turn_47] at hf
    refine X.iload dX11_turn_47 (j := 6) rfl ?_
    refine X.bipush dX11_turn_49 kB_20 ?_
    refine X.icmp_ge dX11_turn_51 (tgt := 128) rfl (fun hc => ?_) (fun hc => ?_)
    · rw [if_pos hc] at hf
      refine X.aload_n dX11_turn_128 rfl (j := 0) rfl ?_
      obtain ⟨v1, h2, hf⟩ := ob hf
      refine Y.getR dX11_turn_129 fl_X11_16 rfl h2 ?_
      refine X.iconst dX11_turn_132 kI_4 ?_
      refine X.iload dX11_turn_133 (j := 4) rfl ?_
      refine X.imul dX11_turn_135 ?_
      refine X.iconst dX11_turn_136 kI_1 ?_
      refine X.iadd dX11_turn_137 ?_
      refine X.iload dX11_turn_138 (j := 5) rfl ?_
      obtain ⟨g3, h4, hf⟩ := ob hf
      refine Y.iast dX11_turn_140 h4 ?_
      refine X.iinc (j := 4) dX11_turn_141 rfl (v := l4 + (1 : Int32)) (by rw [kI_1]) (Nat.le_of_ble_eq_true rfl) (lc' := [(4, .int (l4 + (1 : Int32))), (0, .ref l0), (1, .int l1), (2, .int l2), (3, .int l3), (5, .int l5), (6, .int l6)]) rfl ?_
      refine X.goto dX11_turn_144 (tgt := 22) rfl ?_
      refine X.sub [1, 2, 3, 4, 0] rfl ?_
      exact hc22 _ _ _ _ _ _ hf
    · rw [if_neg hc] at hf
      refine X.aload_n dX11_turn_54 rfl (j := 0) rfl ?_
      obtain ⟨v5, h6, hf⟩ := ob hf
      refine Y.getR dX11_turn_55 fl_X11_16 rfl h6 ?_
      refine X.iconst dX11_turn_58 kI_4 ?_
      refine X.iload dX11_turn_59 (j := 4) rfl ?_
      refine X.imul dX11_turn_61 ?_
      obtain ⟨v7, h8, hf⟩ := ob hf
      refine Y.iald dX11_turn_62 h8 ?_
      refine X.iload dX11_turn_63 (j := 6) rfl ?_
      obtain ⟨q10, h9, hf⟩ := ob hf
      refine Y.callS (av := [.int v7, .int l6]) dX11_turn_65 (c_X11_areAcross (l := l) (D := D) (w := q10.1) (k := q10.2) h9) cw_X11_185 mk_X11_areAcross (e_R_ok (Nat.le_of_ble_eq_true rfl) (Nat.le_of_ble_eq_true rfl)) ⟨rfl, rfl⟩ (by simp [Value.category]) ?_
      refine X.if_eq dX11_turn_68 (tgt := 122) rfl (fun hc => ?_) (fun hc => ?_)
      · rw [if_pos hc] at hf
        exact x_J_X11_turn_122 _ ih hf
      · rw [if_neg hc] at hf
        refine X.aload_n dX11_turn_71 rfl (j := 0) rfl ?_
        obtain ⟨v11, h12, hf⟩ := ob hf
        refine Y.getR dX11_turn_72 fl_X11_16 rfl h12 ?_
        refine X.iconst dX11_turn_75 kI_4 ?_
        refine X.iload dX11_turn_76 (j := 4) rfl ?_
        refine X.imul dX11_turn_78 ?_
        refine X.iconst dX11_turn_79 kI_1 ?_
        refine X.iadd dX11_turn_80 ?_
        refine X.iload dX11_turn_81 (j := 6) rfl ?_
        obtain ⟨g13, h14, hf⟩ := ob hf
        refine Y.iast dX11_turn_83 h14 ?_
        refine X.aload_n dX11_turn_84 rfl (j := 0) rfl ?_
        obtain ⟨q16, h15, hf⟩ := ob hf
        refine Y.callV (av := []) (ci := 11) dX11_turn_85 (c_X11_metTwos (l := l) (D := D) (w := q16.1) (k := q16.2) h15) cw_X11_207 (by decide) rfl mk_X11_metTwos (o_X11_metTwos (w := q16.1) (k := q16.2) h15) (e_R_ok (Nat.le_of_ble_eq_true rfl) (Nat.le_of_ble_eq_true rfl)) ⟨rfl, rfl⟩ (by simp [Value.category]) ?_
        refine X.istore dX11_turn_88 (Nat.le_of_ble_eq_true rfl) (lc' := [(7, .int q16.1), (0, .ref l0), (1, .int l1), (2, .int l2), (3, .int l3), (4, .int l4), (5, .int l5), (6, .int l6)]) rfl ?_
        refine X.iload dX11_turn_90 (j := 0) rfl ?_
        refine X.iload_n dX11_turn_92 rfl (j := 4) rfl ?_
        refine X.icmp_le dX11_turn_93 (tgt := 107) rfl (fun hc => ?_) (fun hc => ?_)
        · rw [if_pos hc] at hf
          refine X.iload_n dX11_turn_107 rfl (j := 3) rfl ?_
          refine X.sub [1, 2, 4, 5, 6, 7, 0] rfl ?_
          exact x_J_X11_turn_108 _ ih hf
        · rw [if_neg hc] at hf
          refine X.bipush dX11_turn_96 kB_100 ?_
          refine X.iload dX11_turn_98 (j := 5) rfl ?_
          refine X.imul dX11_turn_100 ?_
          refine X.iload dX11_turn_101 (j := 7) rfl ?_
          refine X.iadd dX11_turn_103 ?_
          refine X.goto dX11_turn_104 (tgt := 108) rfl ?_
          refine X.sub [1, 2, 4, 5, 6, 7, 0] rfl ?_
          exact x_J_X11_turn_108 _ ih hf
theorem x_L_X11_turn_22 {l : Launch} {D : va_G} {S : e_S} {w : Int32} {k : e_G} : ∀ (n : Nat) (l0 : Nat) (l1 : Int32) (l2 : Int32) (l3 : Int32) (l4 : Int32) (g : e_G), L_X11_turn_22 n S l0 l1 l2 l3 l4 g = some (w, k) → X l D (e_R 4) M_X11_turn 0 0 22 [(0, .ref l0), (1, .int l1), (2, .int l2), (3, .int l3), (4, .int l4)] [] (S, g) (some (.int w)) (S, k) := by
  intro n
  induction n with
  | zero =>
    intro l0 l1 l2 l3 l4 g hf
    cases hf
  | succ n ih =>
    intro l0 l1 l2 l3 l4 g hf
    rw [L_X11_turn_22] at hf
    refine X.iload dX11_turn_22 (j := 4) rfl ?_
    refine X.aload_n dX11_turn_24 rfl (j := 0) rfl ?_
    obtain ⟨v1, h2, hf⟩ := ob hf
    refine Y.getI dX11_turn_25 fl_X11_75 rfl h2 ?_
    refine X.icmp_ge dX11_turn_28 (tgt := 147) rfl (fun hc => ?_) (fun hc => ?_)
    · rw [if_pos hc] at hf
      refine X.iload_n dX11_turn_147 rfl (j := 1) rfl ?_
      refine X.if_ne dX11_turn_148 (tgt := 155) rfl (fun hc => ?_) (fun hc => ?_)
      · rw [if_neg hc] at hf
        refine X.iload_n dX11_turn_155 rfl (j := 3) rfl ?_
        obtain ⟨e1, e2⟩ := e_ret hf
        subst e1
        subst e2
        exact X.iret dX11_turn_156 rfl rfl
      · rw [if_pos hc] at hf
        refine X.iload_n dX11_turn_151 rfl (j := 2) rfl ?_
        refine X.goto dX11_turn_152 (tgt := 156) rfl ?_
        obtain ⟨e1, e2⟩ := e_ret hf
        subst e1
        subst e2
        exact X.iret dX11_turn_156 rfl rfl
    · rw [if_neg hc] at hf
      refine X.aload_n dX11_turn_31 rfl (j := 0) rfl ?_
      obtain ⟨v3, h4, hf⟩ := ob hf
      refine Y.getR dX11_turn_32 fl_X11_16 rfl h4 ?_
      refine X.iconst dX11_turn_35 kI_4 ?_
      refine X.iload dX11_turn_36 (j := 4) rfl ?_
      refine X.imul dX11_turn_38 ?_
      refine X.iconst dX11_turn_39 kI_1 ?_
      refine X.iadd dX11_turn_40 ?_
      obtain ⟨v5, h6, hf⟩ := ob hf
      refine Y.iald dX11_turn_41 h6 ?_
      refine X.istore dX11_turn_42 (Nat.le_of_ble_eq_true rfl) (lc' := [(5, .int v5), (0, .ref l0), (1, .int l1), (2, .int l2), (3, .int l3), (4, .int l4)]) rfl ?_
      refine X.iconst dX11_turn_44 kI_0 ?_
      refine X.istore dX11_turn_45 (Nat.le_of_ble_eq_true rfl) (lc' := [(6, .int (0 : Int32)), (5, .int v5), (0, .ref l0), (1, .int l1), (2, .int l2), (3, .int l3), (4, .int l4)]) rfl ?_
      refine X.sub [2, 3, 4, 5, 6, 1, 0] rfl ?_
      exact x_L_X11_turn_47 _ ih 50000 _ _ _ _ _ _ _ _ hf
theorem o_X11_turn  {S : e_S} {w : Int32} {k : e_G} {l0 : Nat} {l1 : Int32} {g : e_G} (hf : f_X11_turn S l0 l1 g = some (w, k)) : e_ob S 11 l0 = true := by
  unfold f_X11_turn at hf
  by_cases hc : e_ob S 11 l0 = true
  · exact hc
  · rw [if_neg hc] at hf
    cases hf
theorem c_X11_turn {l : Launch} {D : va_G}  {S : e_S} {w : Int32} {k : e_G} {l0 : Nat} {l1 : Int32} {g : e_G} (hf : f_X11_turn S l0 l1 g = some (w, k)) : CT l D (e_R 4) M_X11_turn [.ref l0, .int l1] (S, g) (some (.int w)) (S, k) := by
  refine CT.of (by decide +kernel) (Nat.le_of_ble_eq_true rfl) ?_
  have ho := o_X11_turn hf
  unfold f_X11_turn at hf
  rw [if_pos ho] at hf
  show X l D (e_R 4) M_X11_turn 0 0 0 [(0, .ref l0), (1, .int l1)] [] (S, g) (some (.int w)) (S, k)
  refine X.iload_n dX11_turn_0 rfl (j := 1) rfl ?_
  refine X.iconst dX11_turn_1 kI_0 ?_
  refine X.iconst dX11_turn_2 kI_1 ?_
  obtain ⟨q2, h1, hf⟩ := ob hf
  refine Y.callS (av := [.int l1, .int (0 : Int32), .int (1 : Int32)]) dX11_turn_3 (c_X11_in (l := l) (D := D) (w := q2.1) (k := q2.2) h1) cw_X11_78 mk_X11_in (e_R_ok (Nat.le_of_ble_eq_true rfl) (Nat.le_of_ble_eq_true rfl)) ⟨rfl, rfl⟩ (by simp [Value.category]) ?_
  refine X.if_ne dX11_turn_6 (tgt := 12) rfl (fun hc => ?_) (fun hc => ?_)
  · rw [if_neg hc] at hf
    refine X.iconst dX11_turn_12 kI_m1 ?_
    refine X.istore_n dX11_turn_13 rfl (Nat.le_of_ble_eq_true rfl) (lc' := [(2, .int (-1 : Int32)), (0, .ref l0), (1, .int l1)]) rfl ?_
    refine X.aload_n dX11_turn_14 rfl (j := 1) rfl ?_
    obtain ⟨q4, h3, hf⟩ := ob hf
    refine Y.callV (av := []) (ci := 11) dX11_turn_15 (c_X11_metTwos (l := l) (D := D) (w := q4.1) (k := q4.2) h3) cw_X11_207 (by decide) rfl mk_X11_metTwos (o_X11_metTwos (w := q4.1) (k := q4.2) h3) (e_R_ok (Nat.le_of_ble_eq_true rfl) (Nat.le_of_ble_eq_true rfl)) ⟨rfl, rfl⟩ (by simp [Value.category]) ?_
    refine X.istore_n dX11_turn_18 rfl (Nat.le_of_ble_eq_true rfl) (lc' := [(3, .int q4.1), (2, .int (-1 : Int32)), (0, .ref l0), (1, .int l1)]) rfl ?_
    refine X.iconst dX11_turn_19 kI_0 ?_
    refine X.istore dX11_turn_20 (Nat.le_of_ble_eq_true rfl) (lc' := [(4, .int (0 : Int32)), (3, .int q4.1), (2, .int (-1 : Int32)), (0, .ref l0), (1, .int l1)]) rfl ?_
    refine X.sub [3, 4, 2, 1, 0] rfl ?_
    exact x_L_X11_turn_22 50000 _ _ _ _ _ _ hf
  · rw [if_pos hc] at hf
    refine X.bipush dX11_turn_9 kB_m2 ?_
    obtain ⟨e1, e2⟩ := e_ret hf
    subst e1
    subst e2
    exact X.iret dX11_turn_11 rfl rfl
/-! LeanedOutModel.safe(II)I -/
abbrev M_X11_safe : e_M := (yX11_safe, cX11_safe, 9, (some .int))
theorem mk_X11_safe : e_Mok M_X11_safe 2 := ⟨by decide +kernel, by decide +kernel, by decide +kernel⟩
theorem dX11_safe_0 : decode cX11_safe 0 = .ok (.aload_n 0, 1) := by decide +kernel
theorem dX11_safe_1 : decode cX11_safe 1 = .ok (.iload_n 1, 1) := by decide +kernel
theorem dX11_safe_2 : decode cX11_safe 2 = .ok (.invokevirtual 179, 3) := by decide +kernel
theorem dX11_safe_5 : decode cX11_safe 5 = .ok (.ifCond .ne 6, 3) := by decide +kernel
theorem dX11_safe_8 : decode cX11_safe 8 = .ok (.bipush (-5), 2) := by decide +kernel
theorem dX11_safe_10 : decode cX11_safe 10 = .ok (.ireturn, 1) := by decide +kernel
theorem dX11_safe_11 : decode cX11_safe 11 = .ok (.iload_n 2, 1) := by decide +kernel
theorem dX11_safe_12 : decode cX11_safe 12 = .ok (.iconst 0, 1) := by decide +kernel
theorem dX11_safe_13 : decode cX11_safe 13 = .ok (.iconst 1, 1) := by decide +kernel
theorem dX11_safe_14 : decode cX11_safe 14 = .ok (.invokestatic 78, 3) := by decide +kernel
theorem dX11_safe_17 : decode cX11_safe 17 = .ok (.ifCond .ne 6, 3) := by decide +kernel
theorem dX11_safe_20 : decode cX11_safe 20 = .ok (.bipush (-7), 2) := by decide +kernel
theorem dX11_safe_22 : decode cX11_safe 22 = .ok (.ireturn, 1) := by decide +kernel
theorem dX11_safe_23 : decode cX11_safe 23 = .ok (.aload_n 0, 1) := by decide +kernel
theorem dX11_safe_24 : decode cX11_safe 24 = .ok (.getfield 16, 3) := by decide +kernel
theorem dX11_safe_27 : decode cX11_safe 27 = .ok (.iconst 4, 1) := by decide +kernel
theorem dX11_safe_28 : decode cX11_safe 28 = .ok (.iload_n 1, 1) := by decide +kernel
theorem dX11_safe_29 : decode cX11_safe 29 = .ok (.imul, 1) := by decide +kernel
theorem dX11_safe_30 : decode cX11_safe 30 = .ok (.iaload, 1) := by decide +kernel
theorem dX11_safe_31 : decode cX11_safe 31 = .ok (.istore_n 3, 1) := by decide +kernel
theorem dX11_safe_32 : decode cX11_safe 32 = .ok (.iconst (-1), 1) := by decide +kernel
theorem dX11_safe_33 : decode cX11_safe 33 = .ok (.istore 4, 2) := by decide +kernel
theorem dX11_safe_35 : decode cX11_safe 35 = .ok (.iconst (-1), 1) := by decide +kernel
theorem dX11_safe_36 : decode cX11_safe 36 = .ok (.istore 5, 2) := by decide +kernel
theorem dX11_safe_38 : decode cX11_safe 38 = .ok (.iconst 0, 1) := by decide +kernel
theorem dX11_safe_39 : decode cX11_safe 39 = .ok (.istore 6, 2) := by decide +kernel
theorem dX11_safe_41 : decode cX11_safe 41 = .ok (.iload 6, 2) := by decide +kernel
theorem dX11_safe_43 : decode cX11_safe 43 = .ok (.bipush 20, 2) := by decide +kernel
theorem dX11_safe_45 : decode cX11_safe 45 = .ok (.if_icmp .ge 96, 3) := by decide +kernel
theorem dX11_safe_48 : decode cX11_safe 48 = .ok (.aload_n 0, 1) := by decide +kernel
theorem dX11_safe_49 : decode cX11_safe 49 = .ok (.iload_n 1, 1) := by decide +kernel
theorem dX11_safe_50 : decode cX11_safe 50 = .ok (.iload 6, 2) := by decide +kernel
theorem dX11_safe_52 : decode cX11_safe 52 = .ok (.invokevirtual 189, 3) := by decide +kernel
theorem dX11_safe_55 : decode cX11_safe 55 = .ok (.istore 7, 2) := by decide +kernel
theorem dX11_safe_57 : decode cX11_safe 57 = .ok (.iload 7, 2) := by decide +kernel
theorem dX11_safe_59 : decode cX11_safe 59 = .ok (.ifCond .eq 76, 3) := by decide +kernel
theorem dX11_safe_62 : decode cX11_safe 62 = .ok (.aload_n 0, 1) := by decide +kernel
theorem dX11_safe_63 : decode cX11_safe 63 = .ok (.getfield 16, 3) := by decide +kernel
theorem dX11_safe_66 : decode cX11_safe 66 = .ok (.iconst 4, 1) := by decide +kernel
theorem dX11_safe_67 : decode cX11_safe 67 = .ok (.iload_n 1, 1) := by decide +kernel
theorem dX11_safe_68 : decode cX11_safe 68 = .ok (.imul, 1) := by decide +kernel
theorem dX11_safe_69 : decode cX11_safe 69 = .ok (.iload 6, 2) := by decide +kernel
theorem dX11_safe_71 : decode cX11_safe 71 = .ok (.iastore, 1) := by decide +kernel
theorem dX11_safe_72 : decode cX11_safe 72 = .ok (.aload_n 0, 1) := by decide +kernel
theorem dX11_safe_73 : decode cX11_safe 73 = .ok (.iload_n 1, 1) := by decide +kernel
theorem dX11_safe_74 : decode cX11_safe 74 = .ok (.invokevirtual 238, 3) := by decide +kernel
theorem dX11_safe_77 : decode cX11_safe 77 = .ok (.istore 8, 2) := by decide +kernel
theorem dX11_safe_79 : decode cX11_safe 79 = .ok (.aload_n 0, 1) := by decide +kernel
theorem dX11_safe_80 : decode cX11_safe 80 = .ok (.getfield 16, 3) := by decide +kernel
theorem dX11_safe_83 : decode cX11_safe 83 = .ok (.iconst 4, 1) := by decide +kernel
theorem dX11_safe_84 : decode cX11_safe 84 = .ok (.iload_n 1, 1) := by decide +kernel
theorem dX11_safe_85 : decode cX11_safe 85 = .ok (.imul, 1) := by decide +kernel
theorem dX11_safe_86 : decode cX11_safe 86 = .ok (.iload_n 3, 1) := by decide +kernel
theorem dX11_safe_87 : decode cX11_safe 87 = .ok (.iastore, 1) := by decide +kernel
theorem dX11_safe_88 : decode cX11_safe 88 = .ok (.iload 8, 2) := by decide +kernel
theorem dX11_safe_90 : decode cX11_safe 90 = .ok (.iconst (-1), 1) := by decide +kernel
theorem dX11_safe_91 : decode cX11_safe 91 = .ok (.if_icmp .ne 8, 3) := by decide +kernel
theorem dX11_safe_94 : decode cX11_safe 94 = .ok (.bipush 61, 2) := by decide +kernel
theorem dX11_safe_96 : decode cX11_safe 96 = .ok (.goto 5, 3) := by decide +kernel
theorem dX11_safe_99 : decode cX11_safe 99 = .ok (.iload 8, 2) := by decide +kernel
theorem dX11_safe_101 : decode cX11_safe 101 = .ok (.istore 8, 2) := by decide +kernel
theorem dX11_safe_103 : decode cX11_safe 103 = .ok (.iload 8, 2) := by decide +kernel
theorem dX11_safe_105 : decode cX11_safe 105 = .ok (.iload 5, 2) := by decide +kernel
theorem dX11_safe_107 : decode cX11_safe 107 = .ok (.if_icmp .le 8, 3) := by decide +kernel
theorem dX11_safe_110 : decode cX11_safe 110 = .ok (.iload 6, 2) := by decide +kernel
theorem dX11_safe_112 : decode cX11_safe 112 = .ok (.goto 5, 3) := by decide +kernel
theorem dX11_safe_115 : decode cX11_safe 115 = .ok (.iload 4, 2) := by decide +kernel
theorem dX11_safe_117 : decode cX11_safe 117 = .ok (.istore 4, 2) := by decide +kernel
theorem dX11_safe_119 : decode cX11_safe 119 = .ok (.iload 8, 2) := by decide +kernel
theorem dX11_safe_121 : decode cX11_safe 121 = .ok (.iload 5, 2) := by decide +kernel
theorem dX11_safe_123 : decode cX11_safe 123 = .ok (.if_icmp .le 8, 3) := by decide +kernel
theorem dX11_safe_126 : decode cX11_safe 126 = .ok (.iload 8, 2) := by decide +kernel
theorem dX11_safe_128 : decode cX11_safe 128 = .ok (.goto 5, 3) := by decide +kernel
theorem dX11_safe_131 : decode cX11_safe 131 = .ok (.iload 5, 2) := by decide +kernel
theorem dX11_safe_133 : decode cX11_safe 133 = .ok (.istore 5, 2) := by decide +kernel
theorem dX11_safe_135 : decode cX11_safe 135 = .ok (.iinc 6 1, 3) := by decide +kernel
theorem dX11_safe_138 : decode cX11_safe 138 = .ok (.goto (-97), 3) := by decide +kernel
theorem dX11_safe_141 : decode cX11_safe 141 = .ok (.iload_n 2, 1) := by decide +kernel
theorem dX11_safe_142 : decode cX11_safe 142 = .ok (.ifCond .ne 8, 3) := by decide +kernel
theorem dX11_safe_145 : decode cX11_safe 145 = .ok (.iload 4, 2) := by decide +kernel
theorem dX11_safe_147 : decode cX11_safe 147 = .ok (.goto 5, 3) := by decide +kernel
theorem dX11_safe_150 : decode cX11_safe 150 = .ok (.iload 5, 2) := by decide +kernel
theorem dX11_safe_152 : decode cX11_safe 152 = .ok (.ireturn, 1) := by decide +kernel
def J_X11_safe_135 (c41 : Nat → Int32 → Int32 → Int32 → Int32 → Int32 → Int32 → e_G → Option (Int32 × e_G)) (S : e_S) (l0 : Nat) (l1 : Int32) (l2 : Int32) (l3 : Int32) (l4 : Int32) (l5 : Int32) (l6 : Int32) (g : e_G) : Option (Int32 × e_G) :=
  c41 l0 l1 l2 l3 l4 l5 (l6 + (1 : Int32)) g
def J_X11_safe_133 (c41 : Nat → Int32 → Int32 → Int32 → Int32 → Int32 → Int32 → e_G → Option (Int32 × e_G)) (S : e_S) (l0 : Nat) (l1 : Int32) (l2 : Int32) (l3 : Int32) (l4 : Int32) (l6 : Int32) (t0 : Int32) (g : e_G) : Option (Int32 × e_G) :=
  J_X11_safe_135 c41 S l0 l1 l2 l3 l4 t0 l6 g
def J_X11_safe_117 (c41 : Nat → Int32 → Int32 → Int32 → Int32 → Int32 → Int32 → e_G → Option (Int32 × e_G)) (S : e_S) (l0 : Nat) (l1 : Int32) (l2 : Int32) (l3 : Int32) (l5 : Int32) (l6 : Int32) (l8 : Int32) (t0 : Int32) (g : e_G) : Option (Int32 × e_G) :=
  if l8 ≤ l5 then
    J_X11_safe_133 c41 S l0 l1 l2 l3 t0 l6 l5 g
  else
    J_X11_safe_133 c41 S l0 l1 l2 l3 t0 l6 l8 g
def J_X11_safe_101 (c41 : Nat → Int32 → Int32 → Int32 → Int32 → Int32 → Int32 → e_G → Option (Int32 × e_G)) (S : e_S) (l0 : Nat) (l1 : Int32) (l2 : Int32) (l3 : Int32) (l4 : Int32) (l5 : Int32) (l6 : Int32) (t0 : Int32) (g : e_G) : Option (Int32 × e_G) :=
  if t0 ≤ l5 then
    J_X11_safe_117 c41 S l0 l1 l2 l3 l5 l6 t0 l4 g
  else
    J_X11_safe_117 c41 S l0 l1 l2 l3 l5 l6 t0 l6 g
def L_X11_safe_41 : Nat → e_S → Nat → Int32 → Int32 → Int32 → Int32 → Int32 → Int32 → e_G → Option (Int32 × e_G)
  | 0, _, _, _, _, _, _, _, _, _ => none
  | n + 1, S, l0, l1, l2, l3, l4, l5, l6, g =>
  if (20 : Int32) ≤ l6 then
    if l2 = 0 then
      some (l4, g)
    else
      some (l5, g)
  else
    (f_X11_mayBeAt S l0 l1 l6 g).bind fun q2 =>
    if q2.1 = 0 then
      J_X11_safe_135 (L_X11_safe_41 n S) S l0 l1 l2 l3 l4 l5 l6 q2.2
    else
      (e_gR S q2.2 11 l0 3).bind fun v3 =>
      (e_aS S q2.2 0 v3 ((4 : Int32) * l1) l6).bind fun g5 =>
      (f_X11_keepsOf S l0 l1 g5).bind fun q8 =>
      (e_gR S q8.2 11 l0 3).bind fun v9 =>
      (e_aS S q8.2 0 v9 ((4 : Int32) * l1) l3).bind fun g11 =>
      if q8.1 = (-1 : Int32) then
        J_X11_safe_101 (L_X11_safe_41 n S) S l0 l1 l2 l3 l4 l5 l6 (61 : Int32) g11
      else
        J_X11_safe_101 (L_X11_safe_41 n S) S l0 l1 l2 l3 l4 l5 l6 q8.1 g11
def f_X11_safe (S : e_S) (l0 : Nat) (l1 : Int32) (l2 : Int32) (g : e_G) : Option (Int32 × e_G) :=
  if e_ob S 11 l0 = true then
    (f_X11_isOne S l0 l1 g).bind fun q2 =>
    if q2.1 = 0 then
      some ((-5 : Int32), q2.2)
    else
      (f_X11_in S l2 (0 : Int32) (1 : Int32) q2.2).bind fun q4 =>
      if q4.1 = 0 then
        some ((-7 : Int32), q4.2)
      else
        (e_gR S q4.2 11 l0 3).bind fun v5 =>
        (e_aI S q4.2 0 v5 ((4 : Int32) * l1)).bind fun v7 =>
        L_X11_safe_41 50000 S l0 l1 l2 v7 (-1 : Int32) (-1 : Int32) (0 : Int32) q4.2
  else none
theorem x_J_X11_safe_135 {l : Launch} {D : va_G} {S : e_S} {w : Int32} {k : e_G} (c41 : Nat → Int32 → Int32 → Int32 → Int32 → Int32 → Int32 → e_G → Option (Int32 × e_G)) (hc41 : ∀ (l0 : Nat) (l1 : Int32) (l2 : Int32) (l3 : Int32) (l4 : Int32) (l5 : Int32) (l6 : Int32) (g : e_G), c41 l0 l1 l2 l3 l4 l5 l6 g = some (w, k) → X l D (e_R 7) M_X11_safe 0 0 41 [(0, .ref l0), (1, .int l1), (2, .int l2), (3, .int l3), (4, .int l4), (5, .int l5), (6, .int l6)] [] (S, g) (some (.int w)) (S, k)) {l0 : Nat} {l1 : Int32} {l2 : Int32} {l3 : Int32} {l4 : Int32} {l5 : Int32} {l6 : Int32} {g : e_G} (hf : J_X11_safe_135 c41 S l0 l1 l2 l3 l4 l5 l6 g = some (w, k)) : X l D (e_R 7) M_X11_safe 0 0 135 [(0, .ref l0), (1, .int l1), (2, .int l2), (3, .int l3), (4, .int l4), (5, .int l5), (6, .int l6)] [] (S, g) (some (.int w)) (S, k) := by
  unfold J_X11_safe_135 at hf
  refine X.iinc (j := 6) dX11_safe_135 rfl (v := l6 + (1 : Int32)) (by rw [kI_1]) (Nat.le_of_ble_eq_true rfl) (lc' := [(6, .int (l6 + (1 : Int32))), (0, .ref l0), (1, .int l1), (2, .int l2), (3, .int l3), (4, .int l4), (5, .int l5)]) rfl ?_
  refine X.goto dX11_safe_138 (tgt := 41) rfl ?_
  refine X.sub [1, 2, 3, 4, 5, 6, 0] rfl ?_
  exact hc41 _ _ _ _ _ _ _ _ hf
theorem x_J_X11_safe_133 {l : Launch} {D : va_G} {S : e_S} {w : Int32} {k : e_G} (c41 : Nat → Int32 → Int32 → Int32 → Int32 → Int32 → Int32 → e_G → Option (Int32 × e_G)) (hc41 : ∀ (l0 : Nat) (l1 : Int32) (l2 : Int32) (l3 : Int32) (l4 : Int32) (l5 : Int32) (l6 : Int32) (g : e_G), c41 l0 l1 l2 l3 l4 l5 l6 g = some (w, k) → X l D (e_R 7) M_X11_safe 0 0 41 [(0, .ref l0), (1, .int l1), (2, .int l2), (3, .int l3), (4, .int l4), (5, .int l5), (6, .int l6)] [] (S, g) (some (.int w)) (S, k)) {l0 : Nat} {l1 : Int32} {l2 : Int32} {l3 : Int32} {l4 : Int32} {l6 : Int32} {t0 : Int32} {g : e_G} (hf : J_X11_safe_133 c41 S l0 l1 l2 l3 l4 l6 t0 g = some (w, k)) : X l D (e_R 7) M_X11_safe 0 0 133 [(0, .ref l0), (1, .int l1), (2, .int l2), (3, .int l3), (4, .int l4), (6, .int l6)] [.int t0] (S, g) (some (.int w)) (S, k) := by
  unfold J_X11_safe_133 at hf
  refine X.istore dX11_safe_133 (Nat.le_of_ble_eq_true rfl) (lc' := [(5, .int t0), (0, .ref l0), (1, .int l1), (2, .int l2), (3, .int l3), (4, .int l4), (6, .int l6)]) rfl ?_
  refine X.sub [1, 2, 3, 4, 5, 0, 6] rfl ?_
  exact x_J_X11_safe_135 _ hc41 hf
theorem x_J_X11_safe_117 {l : Launch} {D : va_G} {S : e_S} {w : Int32} {k : e_G} (c41 : Nat → Int32 → Int32 → Int32 → Int32 → Int32 → Int32 → e_G → Option (Int32 × e_G)) (hc41 : ∀ (l0 : Nat) (l1 : Int32) (l2 : Int32) (l3 : Int32) (l4 : Int32) (l5 : Int32) (l6 : Int32) (g : e_G), c41 l0 l1 l2 l3 l4 l5 l6 g = some (w, k) → X l D (e_R 7) M_X11_safe 0 0 41 [(0, .ref l0), (1, .int l1), (2, .int l2), (3, .int l3), (4, .int l4), (5, .int l5), (6, .int l6)] [] (S, g) (some (.int w)) (S, k)) {l0 : Nat} {l1 : Int32} {l2 : Int32} {l3 : Int32} {l5 : Int32} {l6 : Int32} {l8 : Int32} {t0 : Int32} {g : e_G} (hf : J_X11_safe_117 c41 S l0 l1 l2 l3 l5 l6 l8 t0 g = some (w, k)) : X l D (e_R 7) M_X11_safe 0 0 117 [(0, .ref l0), (1, .int l1), (2, .int l2), (3, .int l3), (5, .int l5), (6, .int l6), (8, .int l8)] [.int t0] (S, g) (some (.int w)) (S, k) := by
  unfold J_X11_safe_117 at hf
  refine X.istore dX11_safe_117 (Nat.le_of_ble_eq_true rfl) (lc' := [(4, .int t0), (0, .ref l0), (1, .int l1), (2, .int l2), (3, .int l3), (5, .int l5), (6, .int l6), (8, .int l8)]) rfl ?_
  refine X.iload dX11_safe_119 (j := 7) rfl ?_
  refine X.iload dX11_safe_121 (j := 5) rfl ?_
  refine X.icmp_le dX11_safe_123 (tgt := 131) rfl (fun hc => ?_) (fun hc => ?_)
  · rw [if_pos hc] at hf
    refine X.iload dX11_safe_131 (j := 5) rfl ?_
    refine X.sub [1, 2, 3, 4, 0, 6] rfl ?_
    exact x_J_X11_safe_133 _ hc41 hf
  · rw [if_neg hc] at hf
    refine X.iload dX11_safe_126 (j := 7) rfl ?_
    refine X.goto dX11_safe_128 (tgt := 133) rfl ?_
    refine X.sub [1, 2, 3, 4, 0, 6] rfl ?_
    exact x_J_X11_safe_133 _ hc41 hf
theorem x_J_X11_safe_101 {l : Launch} {D : va_G} {S : e_S} {w : Int32} {k : e_G} (c41 : Nat → Int32 → Int32 → Int32 → Int32 → Int32 → Int32 → e_G → Option (Int32 × e_G)) (hc41 : ∀ (l0 : Nat) (l1 : Int32) (l2 : Int32) (l3 : Int32) (l4 : Int32) (l5 : Int32) (l6 : Int32) (g : e_G), c41 l0 l1 l2 l3 l4 l5 l6 g = some (w, k) → X l D (e_R 7) M_X11_safe 0 0 41 [(0, .ref l0), (1, .int l1), (2, .int l2), (3, .int l3), (4, .int l4), (5, .int l5), (6, .int l6)] [] (S, g) (some (.int w)) (S, k)) {l0 : Nat} {l1 : Int32} {l2 : Int32} {l3 : Int32} {l4 : Int32} {l5 : Int32} {l6 : Int32} {t0 : Int32} {g : e_G} (hf : J_X11_safe_101 c41 S l0 l1 l2 l3 l4 l5 l6 t0 g = some (w, k)) : X l D (e_R 7) M_X11_safe 0 0 101 [(0, .ref l0), (1, .int l1), (2, .int l2), (3, .int l3), (4, .int l4), (5, .int l5), (6, .int l6)] [.int t0] (S, g) (some (.int w)) (S, k) := by
  unfold J_X11_safe_101 at hf
  refine X.istore dX11_safe_101 (Nat.le_of_ble_eq_true rfl) (lc' := [(8, .int t0), (0, .ref l0), (1, .int l1), (2, .int l2), (3, .int l3), (4, .int l4), (5, .int l5), (6, .int l6)]) rfl ?_
  refine X.iload dX11_safe_103 (j := 0) rfl ?_
  refine X.iload dX11_safe_105 (j := 6) rfl ?_
  refine X.icmp_le dX11_safe_107 (tgt := 115) rfl (fun hc => ?_) (fun hc => ?_)
  · rw [if_pos hc] at hf
    refine X.iload dX11_safe_115 (j := 5) rfl ?_
    refine X.sub [1, 2, 3, 4, 6, 7, 0] rfl ?_
    exact x_J_X11_safe_117 _ hc41 hf
  · rw [if_neg hc] at hf
    refine X.iload dX11_safe_110 (j := 7) rfl ?_
    refine X.goto dX11_safe_112 (tgt := 117) rfl ?_
    refine X.sub [1, 2, 3, 4, 6, 7, 0] rfl ?_
    exact x_J_X11_safe_117 _ hc41 hf
theorem x_L_X11_safe_41 {l : Launch} {D : va_G} {S : e_S} {w : Int32} {k : e_G} : ∀ (n : Nat) (l0 : Nat) (l1 : Int32) (l2 : Int32) (l3 : Int32) (l4 : Int32) (l5 : Int32) (l6 : Int32) (g : e_G), L_X11_safe_41 n S l0 l1 l2 l3 l4 l5 l6 g = some (w, k) → X l D (e_R 7) M_X11_safe 0 0 41 [(0, .ref l0), (1, .int l1), (2, .int l2), (3, .int l3), (4, .int l4), (5, .int l5), (6, .int l6)] [] (S, g) (some (.int w)) (S, k) := by
  intro n
  induction n with
  | zero =>
    intro l0 l1 l2 l3 l4 l5 l6 g hf
    cases hf
  | succ n ih =>
    intro l0 l1 l2 l3 l4 l5 l6 g hf
    rw [L_X11_safe_41] at hf
    refine X.iload dX11_safe_41 (j := 6) rfl ?_
    refine X.bipush dX11_safe_43 kB_20 ?_
    refine X.icmp_ge dX11_safe_45 (tgt := 141) rfl (fun hc => ?_) (fun hc => ?_)
    · rw [if_pos hc] at hf
      refine X.iload_n dX11_safe_141 rfl (j := 2) rfl ?_
      refine X.if_ne dX11_safe_142 (tgt := 150) rfl (fun hc => ?_) (fun hc => ?_)
      · rw [if_neg hc] at hf
        refine X.iload dX11_safe_150 (j := 5) rfl ?_
        obtain ⟨e1, e2⟩ := e_ret hf
        subst e1
        subst e2
        exact X.iret dX11_safe_152 rfl rfl
      · rw [if_pos hc] at hf
        refine X.iload dX11_safe_145 (j := 4) rfl ?_
        refine X.goto dX11_safe_147 (tgt := 152) rfl ?_
        obtain ⟨e1, e2⟩ := e_ret hf
        subst e1
        subst e2
        exact X.iret dX11_safe_152 rfl rfl
    · rw [if_neg hc] at hf
      refine X.aload_n dX11_safe_48 rfl (j := 0) rfl ?_
      refine X.iload_n dX11_safe_49 rfl (j := 1) rfl ?_
      refine X.iload dX11_safe_50 (j := 6) rfl ?_
      obtain ⟨q2, h1, hf⟩ := ob hf
      refine Y.callV (av := [.int l1, .int l6]) (ci := 11) dX11_safe_52 (c_X11_mayBeAt (l := l) (D := D) (w := q2.1) (k := q2.2) h1) cw_X11_189 (by decide) rfl mk_X11_mayBeAt (o_X11_mayBeAt (w := q2.1) (k := q2.2) h1) (e_R_ok (Nat.le_of_ble_eq_true rfl) (Nat.le_of_ble_eq_true rfl)) ⟨rfl, rfl⟩ (by simp [Value.category]) ?_
      refine X.istore dX11_safe_55 (Nat.le_of_ble_eq_true rfl) (lc' := [(7, .int q2.1), (0, .ref l0), (1, .int l1), (2, .int l2), (3, .int l3), (4, .int l4), (5, .int l5), (6, .int l6)]) rfl ?_
      refine X.iload dX11_safe_57 (j := 0) rfl ?_
      refine X.if_eq dX11_safe_59 (tgt := 135) rfl (fun hc => ?_) (fun hc => ?_)
      · rw [if_pos hc] at hf
        refine X.sub [1, 2, 3, 4, 5, 6, 7] rfl ?_
        exact x_J_X11_safe_135 _ ih hf
      · rw [if_neg hc] at hf
        refine X.aload_n dX11_safe_62 rfl (j := 1) rfl ?_
        obtain ⟨v3, h4, hf⟩ := ob hf
        refine Y.getR dX11_safe_63 fl_X11_16 rfl h4 ?_
        refine X.iconst dX11_safe_66 kI_4 ?_
        refine X.iload_n dX11_safe_67 rfl (j := 2) rfl ?_
        refine X.imul dX11_safe_68 ?_
        refine X.iload dX11_safe_69 (j := 7) rfl ?_
        obtain ⟨g5, h6, hf⟩ := ob hf
        refine Y.iast dX11_safe_71 h6 ?_
        refine X.aload_n dX11_safe_72 rfl (j := 1) rfl ?_
        refine X.iload_n dX11_safe_73 rfl (j := 2) rfl ?_
        obtain ⟨q8, h7, hf⟩ := ob hf
        refine Y.callV (av := [.int l1]) (ci := 11) dX11_safe_74 (c_X11_keepsOf (l := l) (D := D) (w := q8.1) (k := q8.2) h7) cw_X11_238 (by decide) rfl mk_X11_keepsOf (o_X11_keepsOf (w := q8.1) (k := q8.2) h7) (e_R_ok (Nat.le_of_ble_eq_true rfl) (Nat.le_of_ble_eq_true rfl)) ⟨rfl, rfl⟩ (by simp [Value.category]) ?_
        refine X.istore dX11_safe_77 (Nat.le_of_ble_eq_true rfl) (lc' := [(8, .int q8.1), (7, .int q2.1), (0, .ref l0), (1, .int l1), (2, .int l2), (3, .int l3), (4, .int l4), (5, .int l5), (6, .int l6)]) rfl ?_
        refine X.aload_n dX11_safe_79 rfl (j := 2) rfl ?_
        obtain ⟨v9, h10, hf⟩ := ob hf
        refine Y.getR dX11_safe_80 fl_X11_16 rfl h10 ?_
        refine X.iconst dX11_safe_83 kI_4 ?_
        refine X.iload_n dX11_safe_84 rfl (j := 3) rfl ?_
        refine X.imul dX11_safe_85 ?_
        refine X.iload_n dX11_safe_86 rfl (j := 5) rfl ?_
        obtain ⟨g11, h12, hf⟩ := ob hf
        refine Y.iast dX11_safe_87 h12 ?_
        refine X.iload dX11_safe_88 (j := 0) rfl ?_
        refine X.iconst dX11_safe_90 kI_m1 ?_
        refine X.icmp_ne dX11_safe_91 (tgt := 99) rfl (fun hc => ?_) (fun hc => ?_)
        · rw [if_neg hc] at hf
          refine X.iload dX11_safe_99 (j := 0) rfl ?_
          refine X.sub [2, 3, 4, 5, 6, 7, 8] rfl ?_
          exact x_J_X11_safe_101 _ ih hf
        · rw [if_pos hc] at hf
          refine X.bipush dX11_safe_94 kB_61 ?_
          refine X.goto dX11_safe_96 (tgt := 101) rfl ?_
          refine X.sub [2, 3, 4, 5, 6, 7, 8] rfl ?_
          exact x_J_X11_safe_101 _ ih hf
theorem o_X11_safe  {S : e_S} {w : Int32} {k : e_G} {l0 : Nat} {l1 : Int32} {l2 : Int32} {g : e_G} (hf : f_X11_safe S l0 l1 l2 g = some (w, k)) : e_ob S 11 l0 = true := by
  unfold f_X11_safe at hf
  by_cases hc : e_ob S 11 l0 = true
  · exact hc
  · rw [if_neg hc] at hf
    cases hf
theorem c_X11_safe {l : Launch} {D : va_G}  {S : e_S} {w : Int32} {k : e_G} {l0 : Nat} {l1 : Int32} {l2 : Int32} {g : e_G} (hf : f_X11_safe S l0 l1 l2 g = some (w, k)) : CT l D (e_R 7) M_X11_safe [.ref l0, .int l1, .int l2] (S, g) (some (.int w)) (S, k) := by
  refine CT.of (by decide +kernel) (Nat.le_of_ble_eq_true rfl) ?_
  have ho := o_X11_safe hf
  unfold f_X11_safe at hf
  rw [if_pos ho] at hf
  show X l D (e_R 7) M_X11_safe 0 0 0 [(0, .ref l0), (1, .int l1), (2, .int l2)] [] (S, g) (some (.int w)) (S, k)
  refine X.aload_n dX11_safe_0 rfl (j := 0) rfl ?_
  refine X.iload_n dX11_safe_1 rfl (j := 1) rfl ?_
  obtain ⟨q2, h1, hf⟩ := ob hf
  refine Y.callV (av := [.int l1]) (ci := 11) dX11_safe_2 (c_X11_isOne (l := l) (D := D) (w := q2.1) (k := q2.2) h1) cw_X11_179 (by decide) rfl mk_X11_isOne (o_X11_isOne (w := q2.1) (k := q2.2) h1) (e_R_ok (Nat.le_of_ble_eq_true rfl) (Nat.le_of_ble_eq_true rfl)) ⟨rfl, rfl⟩ (by simp [Value.category]) ?_
  refine X.if_ne dX11_safe_5 (tgt := 11) rfl (fun hc => ?_) (fun hc => ?_)
  · rw [if_neg hc] at hf
    refine X.iload_n dX11_safe_11 rfl (j := 2) rfl ?_
    refine X.iconst dX11_safe_12 kI_0 ?_
    refine X.iconst dX11_safe_13 kI_1 ?_
    obtain ⟨q4, h3, hf⟩ := ob hf
    refine Y.callS (av := [.int l2, .int (0 : Int32), .int (1 : Int32)]) dX11_safe_14 (c_X11_in (l := l) (D := D) (w := q4.1) (k := q4.2) h3) cw_X11_78 mk_X11_in (e_R_ok (Nat.le_of_ble_eq_true rfl) (Nat.le_of_ble_eq_true rfl)) ⟨rfl, rfl⟩ (by simp [Value.category]) ?_
    refine X.if_ne dX11_safe_17 (tgt := 23) rfl (fun hc => ?_) (fun hc => ?_)
    · rw [if_neg hc] at hf
      refine X.aload_n dX11_safe_23 rfl (j := 0) rfl ?_
      obtain ⟨v5, h6, hf⟩ := ob hf
      refine Y.getR dX11_safe_24 fl_X11_16 rfl h6 ?_
      refine X.iconst dX11_safe_27 kI_4 ?_
      refine X.iload_n dX11_safe_28 rfl (j := 1) rfl ?_
      refine X.imul dX11_safe_29 ?_
      obtain ⟨v7, h8, hf⟩ := ob hf
      refine Y.iald dX11_safe_30 h8 ?_
      refine X.istore_n dX11_safe_31 rfl (Nat.le_of_ble_eq_true rfl) (lc' := [(3, .int v7), (0, .ref l0), (1, .int l1), (2, .int l2)]) rfl ?_
      refine X.iconst dX11_safe_32 kI_m1 ?_
      refine X.istore dX11_safe_33 (Nat.le_of_ble_eq_true rfl) (lc' := [(4, .int (-1 : Int32)), (3, .int v7), (0, .ref l0), (1, .int l1), (2, .int l2)]) rfl ?_
      refine X.iconst dX11_safe_35 kI_m1 ?_
      refine X.istore dX11_safe_36 (Nat.le_of_ble_eq_true rfl) (lc' := [(5, .int (-1 : Int32)), (4, .int (-1 : Int32)), (3, .int v7), (0, .ref l0), (1, .int l1), (2, .int l2)]) rfl ?_
      refine X.iconst dX11_safe_38 kI_0 ?_
      refine X.istore dX11_safe_39 (Nat.le_of_ble_eq_true rfl) (lc' := [(6, .int (0 : Int32)), (5, .int (-1 : Int32)), (4, .int (-1 : Int32)), (3, .int v7), (0, .ref l0), (1, .int l1), (2, .int l2)]) rfl ?_
      refine X.sub [4, 5, 6, 3, 2, 1, 0] rfl ?_
      exact x_L_X11_safe_41 50000 _ _ _ _ _ _ _ _ hf
    · rw [if_pos hc] at hf
      refine X.bipush dX11_safe_20 kB_m7 ?_
      obtain ⟨e1, e2⟩ := e_ret hf
      subst e1
      subst e2
      exact X.iret dX11_safe_22 rfl rfl
  · rw [if_pos hc] at hf
    refine X.bipush dX11_safe_8 kB_m5 ?_
    obtain ⟨e1, e2⟩ := e_ret hf
    subst e1
    subst e2
    exact X.iret dX11_safe_10 rfl rfl
/-! LeanedOutModel.keptBehind(I)I -/
abbrev M_X11_keptBehind : e_M := (yX11_keptBehind, cX11_keptBehind, 3, (some .int))
theorem mk_X11_keptBehind : e_Mok M_X11_keptBehind 1 := ⟨by decide +kernel, by decide +kernel, by decide +kernel⟩
theorem dX11_keptBehind_0 : decode cX11_keptBehind 0 = .ok (.aload_n 0, 1) := by decide +kernel
theorem dX11_keptBehind_1 : decode cX11_keptBehind 1 = .ok (.invokevirtual 223, 3) := by decide +kernel
theorem dX11_keptBehind_4 : decode cX11_keptBehind 4 = .ok (.aload_n 0, 1) := by decide +kernel
theorem dX11_keptBehind_5 : decode cX11_keptBehind 5 = .ok (.iload_n 1, 1) := by decide +kernel
theorem dX11_keptBehind_6 : decode cX11_keptBehind 6 = .ok (.invokevirtual 226, 3) := by decide +kernel
theorem dX11_keptBehind_9 : decode cX11_keptBehind 9 = .ok (.aload_n 0, 1) := by decide +kernel
theorem dX11_keptBehind_10 : decode cX11_keptBehind 10 = .ok (.invokevirtual 82, 3) := by decide +kernel
theorem dX11_keptBehind_13 : decode cX11_keptBehind 13 = .ok (.invokestatic 85, 3) := by decide +kernel
theorem dX11_keptBehind_16 : decode cX11_keptBehind 16 = .ok (.istore_n 2, 1) := by decide +kernel
theorem dX11_keptBehind_17 : decode cX11_keptBehind 17 = .ok (.aload_n 0, 1) := by decide +kernel
theorem dX11_keptBehind_18 : decode cX11_keptBehind 18 = .ok (.invokevirtual 235, 3) := by decide +kernel
theorem dX11_keptBehind_21 : decode cX11_keptBehind 21 = .ok (.iload_n 2, 1) := by decide +kernel
theorem dX11_keptBehind_22 : decode cX11_keptBehind 22 = .ok (.ireturn, 1) := by decide +kernel
def f_X11_keptBehind (S : e_S) (l0 : Nat) (l1 : Int32) (g : e_G) : Option (Int32 × e_G) :=
  if e_ob S 11 l0 = true then
    (f_X11_keepsAll S l0 g).bind fun q2 =>
    (f_X11_goes S l0 l1 q2).bind fun q4 =>
    (f_X11_keptSet S l0 q4).bind fun q6 =>
    (f_X11_ones S q6.1 q6.2).bind fun q8 =>
    (f_X11_lays S l0 q8.2).bind fun q10 =>
    some (q8.1, q10)
  else none
theorem o_X11_keptBehind  {S : e_S} {w : Int32} {k : e_G} {l0 : Nat} {l1 : Int32} {g : e_G} (hf : f_X11_keptBehind S l0 l1 g = some (w, k)) : e_ob S 11 l0 = true := by
  unfold f_X11_keptBehind at hf
  by_cases hc : e_ob S 11 l0 = true
  · exact hc
  · rw [if_neg hc] at hf
    cases hf
theorem c_X11_keptBehind {l : Launch} {D : va_G}  {S : e_S} {w : Int32} {k : e_G} {l0 : Nat} {l1 : Int32} {g : e_G} (hf : f_X11_keptBehind S l0 l1 g = some (w, k)) : CT l D (e_R 7) M_X11_keptBehind [.ref l0, .int l1] (S, g) (some (.int w)) (S, k) := by
  refine CT.of (by decide +kernel) (Nat.le_of_ble_eq_true rfl) ?_
  have ho := o_X11_keptBehind hf
  unfold f_X11_keptBehind at hf
  rw [if_pos ho] at hf
  show X l D (e_R 7) M_X11_keptBehind 0 0 0 [(0, .ref l0), (1, .int l1)] [] (S, g) (some (.int w)) (S, k)
  refine X.aload_n dX11_keptBehind_0 rfl (j := 0) rfl ?_
  obtain ⟨q2, h1, hf⟩ := ob hf
  refine Y.callV (av := []) (ci := 11) dX11_keptBehind_1 (c_X11_keepsAll (l := l) (D := D) h1) cw_X11_223 (by decide) rfl mk_X11_keepsAll (o_X11_keepsAll (k := q2) h1) (e_R_ok (Nat.le_of_ble_eq_true rfl) (Nat.le_of_ble_eq_true rfl)) ⟨rfl, rfl⟩ (by simp [Value.category]) ?_
  refine X.aload_n dX11_keptBehind_4 rfl (j := 0) rfl ?_
  refine X.iload_n dX11_keptBehind_5 rfl (j := 1) rfl ?_
  obtain ⟨q4, h3, hf⟩ := ob hf
  refine Y.callV (av := [.int l1]) (ci := 11) dX11_keptBehind_6 (c_X11_goes (l := l) (D := D) h3) cw_X11_226 (by decide) rfl mk_X11_goes (o_X11_goes (k := q4) h3) (e_R_ok (Nat.le_of_ble_eq_true rfl) (Nat.le_of_ble_eq_true rfl)) ⟨rfl, rfl⟩ (by simp [Value.category]) ?_
  refine X.aload_n dX11_keptBehind_9 rfl (j := 0) rfl ?_
  obtain ⟨q6, h5, hf⟩ := ob hf
  refine Y.callV (av := []) (ci := 11) dX11_keptBehind_10 (c_X11_keptSet (l := l) (D := D) (w := q6.1) (k := q6.2) h5) cw_X11_82 (by decide) rfl mk_X11_keptSet (o_X11_keptSet (w := q6.1) (k := q6.2) h5) (e_R_ok (Nat.le_of_ble_eq_true rfl) (Nat.le_of_ble_eq_true rfl)) ⟨rfl, rfl⟩ (by simp [Value.category]) ?_
  obtain ⟨q8, h7, hf⟩ := ob hf
  refine Y.callS (av := [.int q6.1]) dX11_keptBehind_13 (c_X11_ones (l := l) (D := D) (w := q8.1) (k := q8.2) h7) cw_X11_85 mk_X11_ones (e_R_ok (Nat.le_of_ble_eq_true rfl) (Nat.le_of_ble_eq_true rfl)) ⟨rfl, rfl⟩ (by simp [Value.category]) ?_
  refine X.istore_n dX11_keptBehind_16 rfl (Nat.le_of_ble_eq_true rfl) (lc' := [(2, .int q8.1), (0, .ref l0), (1, .int l1)]) rfl ?_
  refine X.aload_n dX11_keptBehind_17 rfl (j := 1) rfl ?_
  obtain ⟨q10, h9, hf⟩ := ob hf
  refine Y.callV (av := []) (ci := 11) dX11_keptBehind_18 (c_X11_lays (l := l) (D := D) h9) cw_X11_235 (by decide) rfl mk_X11_lays (o_X11_lays (k := q10) h9) (e_R_ok (Nat.le_of_ble_eq_true rfl) (Nat.le_of_ble_eq_true rfl)) ⟨rfl, rfl⟩ (by simp [Value.category]) ?_
  refine X.iload_n dX11_keptBehind_21 rfl (j := 0) rfl ?_
  obtain ⟨e1, e2⟩ := e_ret hf
  subst e1
  subst e2
  exact X.iret dX11_keptBehind_22 rfl rfl
/-! LeanedOutModel.warn(II)I -/
abbrev M_X11_warn : e_M := (yX11_warn, cX11_warn, 8, (some .int))
theorem mk_X11_warn : e_Mok M_X11_warn 2 := ⟨by decide +kernel, by decide +kernel, by decide +kernel⟩
theorem dX11_warn_0 : decode cX11_warn 0 = .ok (.iload_n 1, 1) := by decide +kernel
theorem dX11_warn_1 : decode cX11_warn 1 = .ok (.iconst 0, 1) := by decide +kernel
theorem dX11_warn_2 : decode cX11_warn 2 = .ok (.bipush 40, 2) := by decide +kernel
theorem dX11_warn_4 : decode cX11_warn 4 = .ok (.invokestatic 78, 3) := by decide +kernel
theorem dX11_warn_7 : decode cX11_warn 7 = .ok (.ifCond .eq 12, 3) := by decide +kernel
theorem dX11_warn_10 : decode cX11_warn 10 = .ok (.iload_n 2, 1) := by decide +kernel
theorem dX11_warn_11 : decode cX11_warn 11 = .ok (.iconst 0, 1) := by decide +kernel
theorem dX11_warn_12 : decode cX11_warn 12 = .ok (.iconst 1, 1) := by decide +kernel
theorem dX11_warn_13 : decode cX11_warn 13 = .ok (.invokestatic 78, 3) := by decide +kernel
theorem dX11_warn_16 : decode cX11_warn 16 = .ok (.ifCond .ne 6, 3) := by decide +kernel
theorem dX11_warn_19 : decode cX11_warn 19 = .ok (.bipush (-2), 2) := by decide +kernel
theorem dX11_warn_21 : decode cX11_warn 21 = .ok (.ireturn, 1) := by decide +kernel
theorem dX11_warn_22 : decode cX11_warn 22 = .ok (.iconst (-1), 1) := by decide +kernel
theorem dX11_warn_23 : decode cX11_warn 23 = .ok (.istore_n 3, 1) := by decide +kernel
theorem dX11_warn_24 : decode cX11_warn 24 = .ok (.aload_n 0, 1) := by decide +kernel
theorem dX11_warn_25 : decode cX11_warn 25 = .ok (.iload_n 1, 1) := by decide +kernel
theorem dX11_warn_26 : decode cX11_warn 26 = .ok (.invokevirtual 241, 3) := by decide +kernel
theorem dX11_warn_29 : decode cX11_warn 29 = .ok (.istore 4, 2) := by decide +kernel
theorem dX11_warn_31 : decode cX11_warn 31 = .ok (.iconst 0, 1) := by decide +kernel
theorem dX11_warn_32 : decode cX11_warn 32 = .ok (.istore 5, 2) := by decide +kernel
theorem dX11_warn_34 : decode cX11_warn 34 = .ok (.iload 5, 2) := by decide +kernel
theorem dX11_warn_36 : decode cX11_warn 36 = .ok (.aload_n 0, 1) := by decide +kernel
theorem dX11_warn_37 : decode cX11_warn 37 = .ok (.getfield 75, 3) := by decide +kernel
theorem dX11_warn_40 : decode cX11_warn 40 = .ok (.if_icmp .ge 98, 3) := by decide +kernel
theorem dX11_warn_43 : decode cX11_warn 43 = .ok (.aload_n 0, 1) := by decide +kernel
theorem dX11_warn_44 : decode cX11_warn 44 = .ok (.getfield 16, 3) := by decide +kernel
theorem dX11_warn_47 : decode cX11_warn 47 = .ok (.iconst 4, 1) := by decide +kernel
theorem dX11_warn_48 : decode cX11_warn 48 = .ok (.iload 5, 2) := by decide +kernel
theorem dX11_warn_50 : decode cX11_warn 50 = .ok (.imul, 1) := by decide +kernel
theorem dX11_warn_51 : decode cX11_warn 51 = .ok (.iconst 3, 1) := by decide +kernel
theorem dX11_warn_52 : decode cX11_warn 52 = .ok (.iadd, 1) := by decide +kernel
theorem dX11_warn_53 : decode cX11_warn 53 = .ok (.iaload, 1) := by decide +kernel
theorem dX11_warn_54 : decode cX11_warn 54 = .ok (.ifCond .ne 78, 3) := by decide +kernel
theorem dX11_warn_57 : decode cX11_warn 57 = .ok (.aload_n 0, 1) := by decide +kernel
theorem dX11_warn_58 : decode cX11_warn 58 = .ok (.getfield 16, 3) := by decide +kernel
theorem dX11_warn_61 : decode cX11_warn 61 = .ok (.iconst 4, 1) := by decide +kernel
theorem dX11_warn_62 : decode cX11_warn 62 = .ok (.iload 5, 2) := by decide +kernel
theorem dX11_warn_64 : decode cX11_warn 64 = .ok (.imul, 1) := by decide +kernel
theorem dX11_warn_65 : decode cX11_warn 65 = .ok (.iconst 2, 1) := by decide +kernel
theorem dX11_warn_66 : decode cX11_warn 66 = .ok (.iadd, 1) := by decide +kernel
theorem dX11_warn_67 : decode cX11_warn 67 = .ok (.iaload, 1) := by decide +kernel
theorem dX11_warn_68 : decode cX11_warn 68 = .ok (.istore 6, 2) := by decide +kernel
theorem dX11_warn_70 : decode cX11_warn 70 = .ok (.aload_n 0, 1) := by decide +kernel
theorem dX11_warn_71 : decode cX11_warn 71 = .ok (.getfield 16, 3) := by decide +kernel
theorem dX11_warn_74 : decode cX11_warn 74 = .ok (.iconst 4, 1) := by decide +kernel
theorem dX11_warn_75 : decode cX11_warn 75 = .ok (.iload 5, 2) := by decide +kernel
theorem dX11_warn_77 : decode cX11_warn 77 = .ok (.imul, 1) := by decide +kernel
theorem dX11_warn_78 : decode cX11_warn 78 = .ok (.iconst 2, 1) := by decide +kernel
theorem dX11_warn_79 : decode cX11_warn 79 = .ok (.iadd, 1) := by decide +kernel
theorem dX11_warn_80 : decode cX11_warn 80 = .ok (.iconst 0, 1) := by decide +kernel
theorem dX11_warn_81 : decode cX11_warn 81 = .ok (.iastore, 1) := by decide +kernel
theorem dX11_warn_82 : decode cX11_warn 82 = .ok (.aload_n 0, 1) := by decide +kernel
theorem dX11_warn_83 : decode cX11_warn 83 = .ok (.iload_n 1, 1) := by decide +kernel
theorem dX11_warn_84 : decode cX11_warn 84 = .ok (.invokevirtual 241, 3) := by decide +kernel
theorem dX11_warn_87 : decode cX11_warn 87 = .ok (.istore 7, 2) := by decide +kernel
theorem dX11_warn_89 : decode cX11_warn 89 = .ok (.aload_n 0, 1) := by decide +kernel
theorem dX11_warn_90 : decode cX11_warn 90 = .ok (.getfield 16, 3) := by decide +kernel
theorem dX11_warn_93 : decode cX11_warn 93 = .ok (.iconst 4, 1) := by decide +kernel
theorem dX11_warn_94 : decode cX11_warn 94 = .ok (.iload 5, 2) := by decide +kernel
theorem dX11_warn_96 : decode cX11_warn 96 = .ok (.imul, 1) := by decide +kernel
theorem dX11_warn_97 : decode cX11_warn 97 = .ok (.iconst 2, 1) := by decide +kernel
theorem dX11_warn_98 : decode cX11_warn 98 = .ok (.iadd, 1) := by decide +kernel
theorem dX11_warn_99 : decode cX11_warn 99 = .ok (.iload 6, 2) := by decide +kernel
theorem dX11_warn_101 : decode cX11_warn 101 = .ok (.iastore, 1) := by decide +kernel
theorem dX11_warn_102 : decode cX11_warn 102 = .ok (.iload 7, 2) := by decide +kernel
theorem dX11_warn_104 : decode cX11_warn 104 = .ok (.iload 4, 2) := by decide +kernel
theorem dX11_warn_106 : decode cX11_warn 106 = .ok (.if_icmp .ge 8, 3) := by decide +kernel
theorem dX11_warn_109 : decode cX11_warn 109 = .ok (.iload 5, 2) := by decide +kernel
theorem dX11_warn_111 : decode cX11_warn 111 = .ok (.goto 4, 3) := by decide +kernel
theorem dX11_warn_114 : decode cX11_warn 114 = .ok (.iload_n 3, 1) := by decide +kernel
theorem dX11_warn_115 : decode cX11_warn 115 = .ok (.istore_n 3, 1) := by decide +kernel
theorem dX11_warn_116 : decode cX11_warn 116 = .ok (.iload 7, 2) := by decide +kernel
theorem dX11_warn_118 : decode cX11_warn 118 = .ok (.iload 4, 2) := by decide +kernel
theorem dX11_warn_120 : decode cX11_warn 120 = .ok (.if_icmp .ge 8, 3) := by decide +kernel
theorem dX11_warn_123 : decode cX11_warn 123 = .ok (.iload 7, 2) := by decide +kernel
theorem dX11_warn_125 : decode cX11_warn 125 = .ok (.goto 5, 3) := by decide +kernel
theorem dX11_warn_128 : decode cX11_warn 128 = .ok (.iload 4, 2) := by decide +kernel
theorem dX11_warn_130 : decode cX11_warn 130 = .ok (.istore 4, 2) := by decide +kernel
theorem dX11_warn_132 : decode cX11_warn 132 = .ok (.iinc 5 1, 3) := by decide +kernel
theorem dX11_warn_135 : decode cX11_warn 135 = .ok (.goto (-101), 3) := by decide +kernel
theorem dX11_warn_138 : decode cX11_warn 138 = .ok (.iload_n 2, 1) := by decide +kernel
theorem dX11_warn_139 : decode cX11_warn 139 = .ok (.ifCond .ne 7, 3) := by decide +kernel
theorem dX11_warn_142 : decode cX11_warn 142 = .ok (.iload_n 3, 1) := by decide +kernel
theorem dX11_warn_143 : decode cX11_warn 143 = .ok (.goto 5, 3) := by decide +kernel
theorem dX11_warn_146 : decode cX11_warn 146 = .ok (.iload 4, 2) := by decide +kernel
theorem dX11_warn_148 : decode cX11_warn 148 = .ok (.ireturn, 1) := by decide +kernel
def J_X11_warn_132 (c34 : Nat → Int32 → Int32 → Int32 → Int32 → Int32 → e_G → Option (Int32 × e_G)) (S : e_S) (l0 : Nat) (l1 : Int32) (l2 : Int32) (l3 : Int32) (l4 : Int32) (l5 : Int32) (g : e_G) : Option (Int32 × e_G) :=
  c34 l0 l1 l2 l3 l4 (l5 + (1 : Int32)) g
def J_X11_warn_130 (c34 : Nat → Int32 → Int32 → Int32 → Int32 → Int32 → e_G → Option (Int32 × e_G)) (S : e_S) (l0 : Nat) (l1 : Int32) (l2 : Int32) (l3 : Int32) (l5 : Int32) (t0 : Int32) (g : e_G) : Option (Int32 × e_G) :=
  J_X11_warn_132 c34 S l0 l1 l2 l3 t0 l5 g
def J_X11_warn_115 (c34 : Nat → Int32 → Int32 → Int32 → Int32 → Int32 → e_G → Option (Int32 × e_G)) (S : e_S) (l0 : Nat) (l1 : Int32) (l2 : Int32) (l4 : Int32) (l5 : Int32) (l7 : Int32) (t0 : Int32) (g : e_G) : Option (Int32 × e_G) :=
  if l4 ≤ l7 then
    J_X11_warn_130 c34 S l0 l1 l2 t0 l5 l4 g
  else
    J_X11_warn_130 c34 S l0 l1 l2 t0 l5 l7 g
def L_X11_warn_34 : Nat → e_S → Nat → Int32 → Int32 → Int32 → Int32 → Int32 → e_G → Option (Int32 × e_G)
  | 0, _, _, _, _, _, _, _, _ => none
  | n + 1, S, l0, l1, l2, l3, l4, l5, g =>
  (e_gI S g 11 l0 0).bind fun v1 =>
  if v1 ≤ l5 then
    if l2 = 0 then
      some (l3, g)
    else
      some (l4, g)
  else
    (e_gR S g 11 l0 3).bind fun v3 =>
    (e_aI S g 0 v3 (((4 : Int32) * l5) + (3 : Int32))).bind fun v5 =>
    if v5 = 0 then
      (e_gR S g 11 l0 3).bind fun v7 =>
      (e_aI S g 0 v7 (((4 : Int32) * l5) + (2 : Int32))).bind fun v9 =>
      (e_gR S g 11 l0 3).bind fun v11 =>
      (e_aS S g 0 v11 (((4 : Int32) * l5) + (2 : Int32)) (0 : Int32)).bind fun g13 =>
      (f_X11_keptBehind S l0 l1 g13).bind fun q16 =>
      (e_gR S q16.2 11 l0 3).bind fun v17 =>
      (e_aS S q16.2 0 v17 (((4 : Int32) * l5) + (2 : Int32)) v9).bind fun g19 =>
      if l4 ≤ q16.1 then
        J_X11_warn_115 (L_X11_warn_34 n S) S l0 l1 l2 l4 l5 q16.1 l3 g19
      else
        J_X11_warn_115 (L_X11_warn_34 n S) S l0 l1 l2 l4 l5 q16.1 l5 g19
    else
      J_X11_warn_132 (L_X11_warn_34 n S) S l0 l1 l2 l3 l4 l5 g
def f_X11_warn (S : e_S) (l0 : Nat) (l1 : Int32) (l2 : Int32) (g : e_G) : Option (Int32 × e_G) :=
  if e_ob S 11 l0 = true then
    (f_X11_in S l1 (0 : Int32) (40 : Int32) g).bind fun q2 =>
    if q2.1 = 0 then
      some ((-2 : Int32), q2.2)
    else
      (f_X11_in S l2 (0 : Int32) (1 : Int32) q2.2).bind fun q4 =>
      if q4.1 = 0 then
        some ((-2 : Int32), q4.2)
      else
        (f_X11_keptBehind S l0 l1 q4.2).bind fun q6 =>
        L_X11_warn_34 50000 S l0 l1 l2 (-1 : Int32) q6.1 (0 : Int32) q6.2
  else none
theorem x_J_X11_warn_132 {l : Launch} {D : va_G} {S : e_S} {w : Int32} {k : e_G} (c34 : Nat → Int32 → Int32 → Int32 → Int32 → Int32 → e_G → Option (Int32 × e_G)) (hc34 : ∀ (l0 : Nat) (l1 : Int32) (l2 : Int32) (l3 : Int32) (l4 : Int32) (l5 : Int32) (g : e_G), c34 l0 l1 l2 l3 l4 l5 g = some (w, k) → X l D (e_R 8) M_X11_warn 0 0 34 [(0, .ref l0), (1, .int l1), (2, .int l2), (3, .int l3), (4, .int l4), (5, .int l5)] [] (S, g) (some (.int w)) (S, k)) {l0 : Nat} {l1 : Int32} {l2 : Int32} {l3 : Int32} {l4 : Int32} {l5 : Int32} {g : e_G} (hf : J_X11_warn_132 c34 S l0 l1 l2 l3 l4 l5 g = some (w, k)) : X l D (e_R 8) M_X11_warn 0 0 132 [(0, .ref l0), (1, .int l1), (2, .int l2), (3, .int l3), (4, .int l4), (5, .int l5)] [] (S, g) (some (.int w)) (S, k) := by
  unfold J_X11_warn_132 at hf
  refine X.iinc (j := 5) dX11_warn_132 rfl (v := l5 + (1 : Int32)) (by rw [kI_1]) (Nat.le_of_ble_eq_true rfl) (lc' := [(5, .int (l5 + (1 : Int32))), (0, .ref l0), (1, .int l1), (2, .int l2), (3, .int l3), (4, .int l4)]) rfl ?_
  refine X.goto dX11_warn_135 (tgt := 34) rfl ?_
  refine X.sub [1, 2, 3, 4, 5, 0] rfl ?_
  exact hc34 _ _ _ _ _ _ _ hf
theorem x_J_X11_warn_130 {l : Launch} {D : va_G} {S : e_S} {w : Int32} {k : e_G} (c34 : Nat → Int32 → Int32 → Int32 → Int32 → Int32 → e_G → Option (Int32 × e_G)) (hc34 : ∀ (l0 : Nat) (l1 : Int32) (l2 : Int32) (l3 : Int32) (l4 : Int32) (l5 : Int32) (g : e_G), c34 l0 l1 l2 l3 l4 l5 g = some (w, k) → X l D (e_R 8) M_X11_warn 0 0 34 [(0, .ref l0), (1, .int l1), (2, .int l2), (3, .int l3), (4, .int l4), (5, .int l5)] [] (S, g) (some (.int w)) (S, k)) {l0 : Nat} {l1 : Int32} {l2 : Int32} {l3 : Int32} {l5 : Int32} {t0 : Int32} {g : e_G} (hf : J_X11_warn_130 c34 S l0 l1 l2 l3 l5 t0 g = some (w, k)) : X l D (e_R 8) M_X11_warn 0 0 130 [(0, .ref l0), (1, .int l1), (2, .int l2), (3, .int l3), (5, .int l5)] [.int t0] (S, g) (some (.int w)) (S, k) := by
  unfold J_X11_warn_130 at hf
  refine X.istore dX11_warn_130 (Nat.le_of_ble_eq_true rfl) (lc' := [(4, .int t0), (0, .ref l0), (1, .int l1), (2, .int l2), (3, .int l3), (5, .int l5)]) rfl ?_
  refine X.sub [1, 2, 3, 4, 0, 5] rfl ?_
  exact x_J_X11_warn_132 _ hc34 hf
theorem x_J_X11_warn_115 {l : Launch} {D : va_G} {S : e_S} {w : Int32} {k : e_G} (c34 : Nat → Int32 → Int32 → Int32 → Int32 → Int32 → e_G → Option (Int32 × e_G)) (hc34 : ∀ (l0 : Nat) (l1 : Int32) (l2 : Int32) (l3 : Int32) (l4 : Int32) (l5 : Int32) (g : e_G), c34 l0 l1 l2 l3 l4 l5 g = some (w, k) → X l D (e_R 8) M_X11_warn 0 0 34 [(0, .ref l0), (1, .int l1), (2, .int l2), (3, .int l3), (4, .int l4), (5, .int l5)] [] (S, g) (some (.int w)) (S, k)) {l0 : Nat} {l1 : Int32} {l2 : Int32} {l4 : Int32} {l5 : Int32} {l7 : Int32} {t0 : Int32} {g : e_G} (hf : J_X11_warn_115 c34 S l0 l1 l2 l4 l5 l7 t0 g = some (w, k)) : X l D (e_R 8) M_X11_warn 0 0 115 [(0, .ref l0), (1, .int l1), (2, .int l2), (4, .int l4), (5, .int l5), (7, .int l7)] [.int t0] (S, g) (some (.int w)) (S, k) := by
  unfold J_X11_warn_115 at hf
  refine X.istore_n dX11_warn_115 rfl (Nat.le_of_ble_eq_true rfl) (lc' := [(3, .int t0), (0, .ref l0), (1, .int l1), (2, .int l2), (4, .int l4), (5, .int l5), (7, .int l7)]) rfl ?_
  refine X.iload dX11_warn_116 (j := 6) rfl ?_
  refine X.iload dX11_warn_118 (j := 4) rfl ?_
  refine X.icmp_ge dX11_warn_120 (tgt := 128) rfl (fun hc => ?_) (fun hc => ?_)
  · rw [if_pos hc] at hf
    refine X.iload dX11_warn_128 (j := 4) rfl ?_
    refine X.sub [1, 2, 3, 0, 5] rfl ?_
    exact x_J_X11_warn_130 _ hc34 hf
  · rw [if_neg hc] at hf
    refine X.iload dX11_warn_123 (j := 6) rfl ?_
    refine X.goto dX11_warn_125 (tgt := 130) rfl ?_
    refine X.sub [1, 2, 3, 0, 5] rfl ?_
    exact x_J_X11_warn_130 _ hc34 hf
theorem x_L_X11_warn_34 {l : Launch} {D : va_G} {S : e_S} {w : Int32} {k : e_G} : ∀ (n : Nat) (l0 : Nat) (l1 : Int32) (l2 : Int32) (l3 : Int32) (l4 : Int32) (l5 : Int32) (g : e_G), L_X11_warn_34 n S l0 l1 l2 l3 l4 l5 g = some (w, k) → X l D (e_R 8) M_X11_warn 0 0 34 [(0, .ref l0), (1, .int l1), (2, .int l2), (3, .int l3), (4, .int l4), (5, .int l5)] [] (S, g) (some (.int w)) (S, k) := by
  intro n
  induction n with
  | zero =>
    intro l0 l1 l2 l3 l4 l5 g hf
    cases hf
  | succ n ih =>
    intro l0 l1 l2 l3 l4 l5 g hf
    rw [L_X11_warn_34] at hf
    refine X.iload dX11_warn_34 (j := 5) rfl ?_
    refine X.aload_n dX11_warn_36 rfl (j := 0) rfl ?_
    obtain ⟨v1, h2, hf⟩ := ob hf
    refine Y.getI dX11_warn_37 fl_X11_75 rfl h2 ?_
    refine X.icmp_ge dX11_warn_40 (tgt := 138) rfl (fun hc => ?_) (fun hc => ?_)
    · rw [if_pos hc] at hf
      refine X.iload_n dX11_warn_138 rfl (j := 2) rfl ?_
      refine X.if_ne dX11_warn_139 (tgt := 146) rfl (fun hc => ?_) (fun hc => ?_)
      · rw [if_neg hc] at hf
        refine X.iload dX11_warn_146 (j := 4) rfl ?_
        obtain ⟨e1, e2⟩ := e_ret hf
        subst e1
        subst e2
        exact X.iret dX11_warn_148 rfl rfl
      · rw [if_pos hc] at hf
        refine X.iload_n dX11_warn_142 rfl (j := 3) rfl ?_
        refine X.goto dX11_warn_143 (tgt := 148) rfl ?_
        obtain ⟨e1, e2⟩ := e_ret hf
        subst e1
        subst e2
        exact X.iret dX11_warn_148 rfl rfl
    · rw [if_neg hc] at hf
      refine X.aload_n dX11_warn_43 rfl (j := 0) rfl ?_
      obtain ⟨v3, h4, hf⟩ := ob hf
      refine Y.getR dX11_warn_44 fl_X11_16 rfl h4 ?_
      refine X.iconst dX11_warn_47 kI_4 ?_
      refine X.iload dX11_warn_48 (j := 5) rfl ?_
      refine X.imul dX11_warn_50 ?_
      refine X.iconst dX11_warn_51 kI_3 ?_
      refine X.iadd dX11_warn_52 ?_
      obtain ⟨v5, h6, hf⟩ := ob hf
      refine Y.iald dX11_warn_53 h6 ?_
      refine X.if_ne dX11_warn_54 (tgt := 132) rfl (fun hc => ?_) (fun hc => ?_)
      · rw [if_neg hc] at hf
        exact x_J_X11_warn_132 _ ih hf
      · rw [if_pos hc] at hf
        refine X.aload_n dX11_warn_57 rfl (j := 0) rfl ?_
        obtain ⟨v7, h8, hf⟩ := ob hf
        refine Y.getR dX11_warn_58 fl_X11_16 rfl h8 ?_
        refine X.iconst dX11_warn_61 kI_4 ?_
        refine X.iload dX11_warn_62 (j := 5) rfl ?_
        refine X.imul dX11_warn_64 ?_
        refine X.iconst dX11_warn_65 kI_2 ?_
        refine X.iadd dX11_warn_66 ?_
        obtain ⟨v9, h10, hf⟩ := ob hf
        refine Y.iald dX11_warn_67 h10 ?_
        refine X.istore dX11_warn_68 (Nat.le_of_ble_eq_true rfl) (lc' := [(6, .int v9), (0, .ref l0), (1, .int l1), (2, .int l2), (3, .int l3), (4, .int l4), (5, .int l5)]) rfl ?_
        refine X.aload_n dX11_warn_70 rfl (j := 1) rfl ?_
        obtain ⟨v11, h12, hf⟩ := ob hf
        refine Y.getR dX11_warn_71 fl_X11_16 rfl h12 ?_
        refine X.iconst dX11_warn_74 kI_4 ?_
        refine X.iload dX11_warn_75 (j := 6) rfl ?_
        refine X.imul dX11_warn_77 ?_
        refine X.iconst dX11_warn_78 kI_2 ?_
        refine X.iadd dX11_warn_79 ?_
        refine X.iconst dX11_warn_80 kI_0 ?_
        obtain ⟨g13, h14, hf⟩ := ob hf
        refine Y.iast dX11_warn_81 h14 ?_
        refine X.aload_n dX11_warn_82 rfl (j := 1) rfl ?_
        refine X.iload_n dX11_warn_83 rfl (j := 2) rfl ?_
        obtain ⟨q16, h15, hf⟩ := ob hf
        refine Y.callV (av := [.int l1]) (ci := 11) dX11_warn_84 (c_X11_keptBehind (l := l) (D := D) (w := q16.1) (k := q16.2) h15) cw_X11_241 (by decide) rfl mk_X11_keptBehind (o_X11_keptBehind (w := q16.1) (k := q16.2) h15) (e_R_ok (Nat.le_of_ble_eq_true rfl) (Nat.le_of_ble_eq_true rfl)) ⟨rfl, rfl⟩ (by simp [Value.category]) ?_
        refine X.istore dX11_warn_87 (Nat.le_of_ble_eq_true rfl) (lc' := [(7, .int q16.1), (6, .int v9), (0, .ref l0), (1, .int l1), (2, .int l2), (3, .int l3), (4, .int l4), (5, .int l5)]) rfl ?_
        refine X.aload_n dX11_warn_89 rfl (j := 2) rfl ?_
        obtain ⟨v17, h18, hf⟩ := ob hf
        refine Y.getR dX11_warn_90 fl_X11_16 rfl h18 ?_
        refine X.iconst dX11_warn_93 kI_4 ?_
        refine X.iload dX11_warn_94 (j := 7) rfl ?_
        refine X.imul dX11_warn_96 ?_
        refine X.iconst dX11_warn_97 kI_2 ?_
        refine X.iadd dX11_warn_98 ?_
        refine X.iload dX11_warn_99 (j := 1) rfl ?_
        obtain ⟨g19, h20, hf⟩ := ob hf
        refine Y.iast dX11_warn_101 h20 ?_
        refine X.iload dX11_warn_102 (j := 0) rfl ?_
        refine X.iload dX11_warn_104 (j := 6) rfl ?_
        refine X.icmp_ge dX11_warn_106 (tgt := 114) rfl (fun hc => ?_) (fun hc => ?_)
        · rw [if_pos hc] at hf
          refine X.iload_n dX11_warn_114 rfl (j := 5) rfl ?_
          refine X.sub [2, 3, 4, 6, 7, 0] rfl ?_
          exact x_J_X11_warn_115 _ ih hf
        · rw [if_neg hc] at hf
          refine X.iload dX11_warn_109 (j := 7) rfl ?_
          refine X.goto dX11_warn_111 (tgt := 115) rfl ?_
          refine X.sub [2, 3, 4, 6, 7, 0] rfl ?_
          exact x_J_X11_warn_115 _ ih hf
theorem o_X11_warn  {S : e_S} {w : Int32} {k : e_G} {l0 : Nat} {l1 : Int32} {l2 : Int32} {g : e_G} (hf : f_X11_warn S l0 l1 l2 g = some (w, k)) : e_ob S 11 l0 = true := by
  unfold f_X11_warn at hf
  by_cases hc : e_ob S 11 l0 = true
  · exact hc
  · rw [if_neg hc] at hf
    cases hf
theorem c_X11_warn {l : Launch} {D : va_G}  {S : e_S} {w : Int32} {k : e_G} {l0 : Nat} {l1 : Int32} {l2 : Int32} {g : e_G} (hf : f_X11_warn S l0 l1 l2 g = some (w, k)) : CT l D (e_R 8) M_X11_warn [.ref l0, .int l1, .int l2] (S, g) (some (.int w)) (S, k) := by
  refine CT.of (by decide +kernel) (Nat.le_of_ble_eq_true rfl) ?_
  have ho := o_X11_warn hf
  unfold f_X11_warn at hf
  rw [if_pos ho] at hf
  show X l D (e_R 8) M_X11_warn 0 0 0 [(0, .ref l0), (1, .int l1), (2, .int l2)] [] (S, g) (some (.int w)) (S, k)
  refine X.iload_n dX11_warn_0 rfl (j := 1) rfl ?_
  refine X.iconst dX11_warn_1 kI_0 ?_
  refine X.bipush dX11_warn_2 kB_40 ?_
  obtain ⟨q2, h1, hf⟩ := ob hf
  refine Y.callS (av := [.int l1, .int (0 : Int32), .int (40 : Int32)]) dX11_warn_4 (c_X11_in (l := l) (D := D) (w := q2.1) (k := q2.2) h1) cw_X11_78 mk_X11_in (e_R_ok (Nat.le_of_ble_eq_true rfl) (Nat.le_of_ble_eq_true rfl)) ⟨rfl, rfl⟩ (by simp [Value.category]) ?_
  refine X.if_eq dX11_warn_7 (tgt := 19) rfl (fun hc => ?_) (fun hc => ?_)
  · rw [if_pos hc] at hf
    refine X.bipush dX11_warn_19 kB_m2 ?_
    obtain ⟨e1, e2⟩ := e_ret hf
    subst e1
    subst e2
    exact X.iret dX11_warn_21 rfl rfl
  · rw [if_neg hc] at hf
    refine X.iload_n dX11_warn_10 rfl (j := 2) rfl ?_
    refine X.iconst dX11_warn_11 kI_0 ?_
    refine X.iconst dX11_warn_12 kI_1 ?_
    obtain ⟨q4, h3, hf⟩ := ob hf
    refine Y.callS (av := [.int l2, .int (0 : Int32), .int (1 : Int32)]) dX11_warn_13 (c_X11_in (l := l) (D := D) (w := q4.1) (k := q4.2) h3) cw_X11_78 mk_X11_in (e_R_ok (Nat.le_of_ble_eq_true rfl) (Nat.le_of_ble_eq_true rfl)) ⟨rfl, rfl⟩ (by simp [Value.category]) ?_
    refine X.if_ne dX11_warn_16 (tgt := 22) rfl (fun hc => ?_) (fun hc => ?_)
    · rw [if_neg hc] at hf
      refine X.iconst dX11_warn_22 kI_m1 ?_
      refine X.istore_n dX11_warn_23 rfl (Nat.le_of_ble_eq_true rfl) (lc' := [(3, .int (-1 : Int32)), (0, .ref l0), (1, .int l1), (2, .int l2)]) rfl ?_
      refine X.aload_n dX11_warn_24 rfl (j := 1) rfl ?_
      refine X.iload_n dX11_warn_25 rfl (j := 2) rfl ?_
      obtain ⟨q6, h5, hf⟩ := ob hf
      refine Y.callV (av := [.int l1]) (ci := 11) dX11_warn_26 (c_X11_keptBehind (l := l) (D := D) (w := q6.1) (k := q6.2) h5) cw_X11_241 (by decide) rfl mk_X11_keptBehind (o_X11_keptBehind (w := q6.1) (k := q6.2) h5) (e_R_ok (Nat.le_of_ble_eq_true rfl) (Nat.le_of_ble_eq_true rfl)) ⟨rfl, rfl⟩ (by simp [Value.category]) ?_
      refine X.istore dX11_warn_29 (Nat.le_of_ble_eq_true rfl) (lc' := [(4, .int q6.1), (3, .int (-1 : Int32)), (0, .ref l0), (1, .int l1), (2, .int l2)]) rfl ?_
      refine X.iconst dX11_warn_31 kI_0 ?_
      refine X.istore dX11_warn_32 (Nat.le_of_ble_eq_true rfl) (lc' := [(5, .int (0 : Int32)), (4, .int q6.1), (3, .int (-1 : Int32)), (0, .ref l0), (1, .int l1), (2, .int l2)]) rfl ?_
      refine X.sub [3, 4, 5, 2, 1, 0] rfl ?_
      exact x_L_X11_warn_34 50000 _ _ _ _ _ _ _ hf
    · rw [if_pos hc] at hf
      refine X.bipush dX11_warn_19 kB_m2 ?_
      obtain ⟨e1, e2⟩ := e_ret hf
      subst e1
      subst e2
      exact X.iret dX11_warn_21 rfl rfl
/-! LeanedOutModel.tellsSide(I)V -/
abbrev M_X11_tellsSide : e_M := (yX11_tellsSide, cX11_tellsSide, 3, none)
theorem mk_X11_tellsSide : e_Mok M_X11_tellsSide 1 := ⟨by decide +kernel, by decide +kernel, by decide +kernel⟩
theorem dX11_tellsSide_0 : decode cX11_tellsSide 0 = .ok (.aload_n 0, 1) := by decide +kernel
theorem dX11_tellsSide_1 : decode cX11_tellsSide 1 = .ok (.iconst 0, 1) := by decide +kernel
theorem dX11_tellsSide_2 : decode cX11_tellsSide 2 = .ok (.putfield 244, 3) := by decide +kernel
theorem dX11_tellsSide_5 : decode cX11_tellsSide 5 = .ok (.iconst 0, 1) := by decide +kernel
theorem dX11_tellsSide_6 : decode cX11_tellsSide 6 = .ok (.istore_n 2, 1) := by decide +kernel
theorem dX11_tellsSide_7 : decode cX11_tellsSide 7 = .ok (.iload_n 2, 1) := by decide +kernel
theorem dX11_tellsSide_8 : decode cX11_tellsSide 8 = .ok (.aload_n 0, 1) := by decide +kernel
theorem dX11_tellsSide_9 : decode cX11_tellsSide 9 = .ok (.getfield 75, 3) := by decide +kernel
theorem dX11_tellsSide_12 : decode cX11_tellsSide 12 = .ok (.if_icmp .ge 63, 3) := by decide +kernel
theorem dX11_tellsSide_15 : decode cX11_tellsSide 15 = .ok (.aload_n 0, 1) := by decide +kernel
theorem dX11_tellsSide_16 : decode cX11_tellsSide 16 = .ok (.getfield 16, 3) := by decide +kernel
theorem dX11_tellsSide_19 : decode cX11_tellsSide 19 = .ok (.iconst 4, 1) := by decide +kernel
theorem dX11_tellsSide_20 : decode cX11_tellsSide 20 = .ok (.iload_n 2, 1) := by decide +kernel
theorem dX11_tellsSide_21 : decode cX11_tellsSide 21 = .ok (.imul, 1) := by decide +kernel
theorem dX11_tellsSide_22 : decode cX11_tellsSide 22 = .ok (.iaload, 1) := by decide +kernel
theorem dX11_tellsSide_23 : decode cX11_tellsSide 23 = .ok (.bipush 10, 2) := by decide +kernel
theorem dX11_tellsSide_25 : decode cX11_tellsSide 25 = .ok (.idiv, 1) := by decide +kernel
theorem dX11_tellsSide_26 : decode cX11_tellsSide 26 = .ok (.iload_n 1, 1) := by decide +kernel
theorem dX11_tellsSide_27 : decode cX11_tellsSide 27 = .ok (.if_icmp .ne 42, 3) := by decide +kernel
theorem dX11_tellsSide_30 : decode cX11_tellsSide 30 = .ok (.aload_n 0, 1) := by decide +kernel
theorem dX11_tellsSide_31 : decode cX11_tellsSide 31 = .ok (.getfield 61, 3) := by decide +kernel
theorem dX11_tellsSide_34 : decode cX11_tellsSide 34 = .ok (.aload_n 0, 1) := by decide +kernel
theorem dX11_tellsSide_35 : decode cX11_tellsSide 35 = .ok (.getfield 244, 3) := by decide +kernel
theorem dX11_tellsSide_38 : decode cX11_tellsSide 38 = .ok (.iload_n 2, 1) := by decide +kernel
theorem dX11_tellsSide_39 : decode cX11_tellsSide 39 = .ok (.iastore, 1) := by decide +kernel
theorem dX11_tellsSide_40 : decode cX11_tellsSide 40 = .ok (.aload_n 0, 1) := by decide +kernel
theorem dX11_tellsSide_41 : decode cX11_tellsSide 41 = .ok (.getfield 64, 3) := by decide +kernel
theorem dX11_tellsSide_44 : decode cX11_tellsSide 44 = .ok (.aload_n 0, 1) := by decide +kernel
theorem dX11_tellsSide_45 : decode cX11_tellsSide 45 = .ok (.getfield 244, 3) := by decide +kernel
theorem dX11_tellsSide_48 : decode cX11_tellsSide 48 = .ok (.aload_n 0, 1) := by decide +kernel
theorem dX11_tellsSide_49 : decode cX11_tellsSide 49 = .ok (.getfield 16, 3) := by decide +kernel
theorem dX11_tellsSide_52 : decode cX11_tellsSide 52 = .ok (.iconst 4, 1) := by decide +kernel
theorem dX11_tellsSide_53 : decode cX11_tellsSide 53 = .ok (.iload_n 2, 1) := by decide +kernel
theorem dX11_tellsSide_54 : decode cX11_tellsSide 54 = .ok (.imul, 1) := by decide +kernel
theorem dX11_tellsSide_55 : decode cX11_tellsSide 55 = .ok (.iconst 1, 1) := by decide +kernel
theorem dX11_tellsSide_56 : decode cX11_tellsSide 56 = .ok (.iadd, 1) := by decide +kernel
theorem dX11_tellsSide_57 : decode cX11_tellsSide 57 = .ok (.iaload, 1) := by decide +kernel
theorem dX11_tellsSide_58 : decode cX11_tellsSide 58 = .ok (.iastore, 1) := by decide +kernel
theorem dX11_tellsSide_59 : decode cX11_tellsSide 59 = .ok (.aload_n 0, 1) := by decide +kernel
theorem dX11_tellsSide_60 : decode cX11_tellsSide 60 = .ok (.dup, 1) := by decide +kernel
theorem dX11_tellsSide_61 : decode cX11_tellsSide 61 = .ok (.getfield 244, 3) := by decide +kernel
theorem dX11_tellsSide_64 : decode cX11_tellsSide 64 = .ok (.iconst 1, 1) := by decide +kernel
theorem dX11_tellsSide_65 : decode cX11_tellsSide 65 = .ok (.iadd, 1) := by decide +kernel
theorem dX11_tellsSide_66 : decode cX11_tellsSide 66 = .ok (.putfield 244, 3) := by decide +kernel
theorem dX11_tellsSide_69 : decode cX11_tellsSide 69 = .ok (.iinc 2 1, 3) := by decide +kernel
theorem dX11_tellsSide_72 : decode cX11_tellsSide 72 = .ok (.goto (-65), 3) := by decide +kernel
theorem dX11_tellsSide_75 : decode cX11_tellsSide 75 = .ok (.return_, 1) := by decide +kernel
def J_X11_tellsSide_69 (c7 : Nat → Int32 → Int32 → e_G → Option (e_G)) (S : e_S) (l0 : Nat) (l1 : Int32) (l2 : Int32) (g : e_G) : Option (e_G) :=
  c7 l0 l1 (l2 + (1 : Int32)) g
def L_X11_tellsSide_7 : Nat → e_S → Nat → Int32 → Int32 → e_G → Option (e_G)
  | 0, _, _, _, _, _ => none
  | n + 1, S, l0, l1, l2, g =>
  (e_gI S g 11 l0 0).bind fun v1 =>
  if v1 ≤ l2 then
    some g
  else
    (e_gR S g 11 l0 3).bind fun v3 =>
    (e_aI S g 0 v3 ((4 : Int32) * l2)).bind fun v5 =>
    if (v5 / (10 : Int32)) = l1 then
      (e_gR S g 11 l0 30).bind fun v7 =>
      (e_gI S g 11 l0 32).bind fun v9 =>
      (e_aS S g 0 v7 v9 l2).bind fun g11 =>
      (e_gR S g11 11 l0 31).bind fun v13 =>
      (e_gI S g11 11 l0 32).bind fun v15 =>
      (e_gR S g11 11 l0 3).bind fun v17 =>
      (e_aI S g11 0 v17 (((4 : Int32) * l2) + (1 : Int32))).bind fun v19 =>
      (e_aS S g11 0 v13 v15 v19).bind fun g21 =>
      (e_gI S g21 11 l0 32).bind fun v23 =>
      (e_sI S g21 11 l0 32 (v23 + (1 : Int32))).bind fun g25 =>
      J_X11_tellsSide_69 (L_X11_tellsSide_7 n S) S l0 l1 l2 g25
    else
      J_X11_tellsSide_69 (L_X11_tellsSide_7 n S) S l0 l1 l2 g
def f_X11_tellsSide (S : e_S) (l0 : Nat) (l1 : Int32) (g : e_G) : Option (e_G) :=
  if e_ob S 11 l0 = true then
    (e_sI S g 11 l0 32 (0 : Int32)).bind fun g1 =>
    L_X11_tellsSide_7 50000 S l0 l1 (0 : Int32) g1
  else none
theorem x_J_X11_tellsSide_69 {l : Launch} {D : va_G} {S : e_S} {k : e_G} (c7 : Nat → Int32 → Int32 → e_G → Option (e_G)) (hc7 : ∀ (l0 : Nat) (l1 : Int32) (l2 : Int32) (g : e_G), c7 l0 l1 l2 g = some k → X l D (e_R 1) M_X11_tellsSide 0 0 7 [(0, .ref l0), (1, .int l1), (2, .int l2)] [] (S, g) none (S, k)) {l0 : Nat} {l1 : Int32} {l2 : Int32} {g : e_G} (hf : J_X11_tellsSide_69 c7 S l0 l1 l2 g = some k) : X l D (e_R 1) M_X11_tellsSide 0 0 69 [(0, .ref l0), (1, .int l1), (2, .int l2)] [] (S, g) none (S, k) := by
  unfold J_X11_tellsSide_69 at hf
  refine X.iinc (j := 2) dX11_tellsSide_69 rfl (v := l2 + (1 : Int32)) (by rw [kI_1]) (Nat.le_of_ble_eq_true rfl) (lc' := [(2, .int (l2 + (1 : Int32))), (0, .ref l0), (1, .int l1)]) rfl ?_
  refine X.goto dX11_tellsSide_72 (tgt := 7) rfl ?_
  refine X.sub [1, 2, 0] rfl ?_
  exact hc7 _ _ _ _ hf
theorem x_L_X11_tellsSide_7 {l : Launch} {D : va_G} {S : e_S} {k : e_G} : ∀ (n : Nat) (l0 : Nat) (l1 : Int32) (l2 : Int32) (g : e_G), L_X11_tellsSide_7 n S l0 l1 l2 g = some k → X l D (e_R 1) M_X11_tellsSide 0 0 7 [(0, .ref l0), (1, .int l1), (2, .int l2)] [] (S, g) none (S, k) := by
  intro n
  induction n with
  | zero =>
    intro l0 l1 l2 g hf
    cases hf
  | succ n ih =>
    intro l0 l1 l2 g hf
    rw [L_X11_tellsSide_7] at hf
    refine X.iload_n dX11_tellsSide_7 rfl (j := 2) rfl ?_
    refine X.aload_n dX11_tellsSide_8 rfl (j := 0) rfl ?_
    obtain ⟨v1, h2, hf⟩ := ob hf
    refine Y.getI dX11_tellsSide_9 fl_X11_75 rfl h2 ?_
    refine X.icmp_ge dX11_tellsSide_12 (tgt := 75) rfl (fun hc => ?_) (fun hc => ?_)
    · rw [if_pos hc] at hf
      have e1 := Option.some.inj hf
      subst e1
      exact X.vret dX11_tellsSide_75 rfl
    · rw [if_neg hc] at hf
      refine X.aload_n dX11_tellsSide_15 rfl (j := 0) rfl ?_
      obtain ⟨v3, h4, hf⟩ := ob hf
      refine Y.getR dX11_tellsSide_16 fl_X11_16 rfl h4 ?_
      refine X.iconst dX11_tellsSide_19 kI_4 ?_
      refine X.iload_n dX11_tellsSide_20 rfl (j := 2) rfl ?_
      refine X.imul dX11_tellsSide_21 ?_
      obtain ⟨v5, h6, hf⟩ := ob hf
      refine Y.iald dX11_tellsSide_22 h6 ?_
      refine X.bipush dX11_tellsSide_23 kB_10 ?_
      refine X.idiv dX11_tellsSide_25 (by decide) ?_
      refine X.iload_n dX11_tellsSide_26 rfl (j := 1) rfl ?_
      refine X.icmp_ne dX11_tellsSide_27 (tgt := 69) rfl (fun hc => ?_) (fun hc => ?_)
      · rw [if_neg hc] at hf
        exact x_J_X11_tellsSide_69 _ ih hf
      · rw [if_pos hc] at hf
        refine X.aload_n dX11_tellsSide_30 rfl (j := 0) rfl ?_
        obtain ⟨v7, h8, hf⟩ := ob hf
        refine Y.getR dX11_tellsSide_31 fl_X11_61 rfl h8 ?_
        refine X.aload_n dX11_tellsSide_34 rfl (j := 0) rfl ?_
        obtain ⟨v9, h10, hf⟩ := ob hf
        refine Y.getI dX11_tellsSide_35 fl_X11_244 rfl h10 ?_
        refine X.iload_n dX11_tellsSide_38 rfl (j := 2) rfl ?_
        obtain ⟨g11, h12, hf⟩ := ob hf
        refine Y.iast dX11_tellsSide_39 h12 ?_
        refine X.aload_n dX11_tellsSide_40 rfl (j := 0) rfl ?_
        obtain ⟨v13, h14, hf⟩ := ob hf
        refine Y.getR dX11_tellsSide_41 fl_X11_64 rfl h14 ?_
        refine X.aload_n dX11_tellsSide_44 rfl (j := 0) rfl ?_
        obtain ⟨v15, h16, hf⟩ := ob hf
        refine Y.getI dX11_tellsSide_45 fl_X11_244 rfl h16 ?_
        refine X.aload_n dX11_tellsSide_48 rfl (j := 0) rfl ?_
        obtain ⟨v17, h18, hf⟩ := ob hf
        refine Y.getR dX11_tellsSide_49 fl_X11_16 rfl h18 ?_
        refine X.iconst dX11_tellsSide_52 kI_4 ?_
        refine X.iload_n dX11_tellsSide_53 rfl (j := 2) rfl ?_
        refine X.imul dX11_tellsSide_54 ?_
        refine X.iconst dX11_tellsSide_55 kI_1 ?_
        refine X.iadd dX11_tellsSide_56 ?_
        obtain ⟨v19, h20, hf⟩ := ob hf
        refine Y.iald dX11_tellsSide_57 h20 ?_
        obtain ⟨g21, h22, hf⟩ := ob hf
        refine Y.iast dX11_tellsSide_58 h22 ?_
        refine X.aload_n dX11_tellsSide_59 rfl (j := 0) rfl ?_
        refine X.dup dX11_tellsSide_60 rfl ?_
        obtain ⟨v23, h24, hf⟩ := ob hf
        refine Y.getI dX11_tellsSide_61 fl_X11_244 rfl h24 ?_
        refine X.iconst dX11_tellsSide_64 kI_1 ?_
        refine X.iadd dX11_tellsSide_65 ?_
        obtain ⟨g25, h26, hf⟩ := ob hf
        refine Y.putI dX11_tellsSide_66 fl_X11_244 rfl rfl rfl rfl h26 ?_
        exact x_J_X11_tellsSide_69 _ ih hf
theorem o_X11_tellsSide  {S : e_S} {k : e_G} {l0 : Nat} {l1 : Int32} {g : e_G} (hf : f_X11_tellsSide S l0 l1 g = some k) : e_ob S 11 l0 = true := by
  unfold f_X11_tellsSide at hf
  by_cases hc : e_ob S 11 l0 = true
  · exact hc
  · rw [if_neg hc] at hf
    cases hf
theorem c_X11_tellsSide {l : Launch} {D : va_G}  {S : e_S} {k : e_G} {l0 : Nat} {l1 : Int32} {g : e_G} (hf : f_X11_tellsSide S l0 l1 g = some k) : CT l D (e_R 1) M_X11_tellsSide [.ref l0, .int l1] (S, g) none (S, k) := by
  refine CT.of (by decide +kernel) (Nat.le_of_ble_eq_true rfl) ?_
  have ho := o_X11_tellsSide hf
  unfold f_X11_tellsSide at hf
  rw [if_pos ho] at hf
  show X l D (e_R 1) M_X11_tellsSide 0 0 0 [(0, .ref l0), (1, .int l1)] [] (S, g) none (S, k)
  refine X.aload_n dX11_tellsSide_0 rfl (j := 0) rfl ?_
  refine X.iconst dX11_tellsSide_1 kI_0 ?_
  obtain ⟨g1, h2, hf⟩ := ob hf
  refine Y.putI dX11_tellsSide_2 fl_X11_244 rfl rfl rfl rfl h2 ?_
  refine X.iconst dX11_tellsSide_5 kI_0 ?_
  refine X.istore_n dX11_tellsSide_6 rfl (Nat.le_of_ble_eq_true rfl) (lc' := [(2, .int (0 : Int32)), (0, .ref l0), (1, .int l1)]) rfl ?_
  refine X.sub [1, 2, 0] rfl ?_
  exact x_L_X11_tellsSide_7 50000 _ _ _ _ hf
/-! LeanedOutModel.gives(I)Z -/
abbrev M_X11_gives : e_M := (yX11_gives, cX11_gives, 7, (some .boolean))
theorem mk_X11_gives : e_Mok M_X11_gives 1 := ⟨by decide +kernel, by decide +kernel, by decide +kernel⟩
theorem dX11_gives_0 : decode cX11_gives 0 = .ok (.iload_n 1, 1) := by decide +kernel
theorem dX11_gives_1 : decode cX11_gives 1 = .ok (.istore_n 2, 1) := by decide +kernel
theorem dX11_gives_2 : decode cX11_gives 2 = .ok (.iconst 0, 1) := by decide +kernel
theorem dX11_gives_3 : decode cX11_gives 3 = .ok (.istore_n 3, 1) := by decide +kernel
theorem dX11_gives_4 : decode cX11_gives 4 = .ok (.iconst 1, 1) := by decide +kernel
theorem dX11_gives_5 : decode cX11_gives 5 = .ok (.istore 4, 2) := by decide +kernel
theorem dX11_gives_7 : decode cX11_gives 7 = .ok (.aload_n 0, 1) := by decide +kernel
theorem dX11_gives_8 : decode cX11_gives 8 = .ok (.iconst 0, 1) := by decide +kernel
theorem dX11_gives_9 : decode cX11_gives 9 = .ok (.putfield 247, 3) := by decide +kernel
theorem dX11_gives_12 : decode cX11_gives 12 = .ok (.aload_n 0, 1) := by decide +kernel
theorem dX11_gives_13 : decode cX11_gives 13 = .ok (.getfield 244, 3) := by decide +kernel
theorem dX11_gives_16 : decode cX11_gives 16 = .ok (.iconst 1, 1) := by decide +kernel
theorem dX11_gives_17 : decode cX11_gives 17 = .ok (.isub, 1) := by decide +kernel
theorem dX11_gives_18 : decode cX11_gives 18 = .ok (.istore 5, 2) := by decide +kernel
theorem dX11_gives_20 : decode cX11_gives 20 = .ok (.iload 5, 2) := by decide +kernel
theorem dX11_gives_22 : decode cX11_gives 22 = .ok (.ifCond .lt 82, 3) := by decide +kernel
theorem dX11_gives_25 : decode cX11_gives 25 = .ok (.iload_n 2, 1) := by decide +kernel
theorem dX11_gives_26 : decode cX11_gives 26 = .ok (.aload_n 0, 1) := by decide +kernel
theorem dX11_gives_27 : decode cX11_gives 27 = .ok (.getfield 244, 3) := by decide +kernel
theorem dX11_gives_30 : decode cX11_gives 30 = .ok (.irem, 1) := by decide +kernel
theorem dX11_gives_31 : decode cX11_gives 31 = .ok (.iconst 0, 1) := by decide +kernel
theorem dX11_gives_32 : decode cX11_gives 32 = .ok (.iconst 5, 1) := by decide +kernel
theorem dX11_gives_33 : decode cX11_gives 33 = .ok (.invokestatic 167, 3) := by decide +kernel
theorem dX11_gives_36 : decode cX11_gives 36 = .ok (.istore 6, 2) := by decide +kernel
theorem dX11_gives_38 : decode cX11_gives 38 = .ok (.iload_n 2, 1) := by decide +kernel
theorem dX11_gives_39 : decode cX11_gives 39 = .ok (.aload_n 0, 1) := by decide +kernel
theorem dX11_gives_40 : decode cX11_gives 40 = .ok (.getfield 244, 3) := by decide +kernel
theorem dX11_gives_43 : decode cX11_gives 43 = .ok (.idiv, 1) := by decide +kernel
theorem dX11_gives_44 : decode cX11_gives 44 = .ok (.istore_n 2, 1) := by decide +kernel
theorem dX11_gives_45 : decode cX11_gives 45 = .ok (.iload_n 3, 1) := by decide +kernel
theorem dX11_gives_46 : decode cX11_gives 46 = .ok (.iconst 1, 1) := by decide +kernel
theorem dX11_gives_47 : decode cX11_gives 47 = .ok (.iload 6, 2) := by decide +kernel
theorem dX11_gives_49 : decode cX11_gives 49 = .ok (.ishl, 1) := by decide +kernel
theorem dX11_gives_50 : decode cX11_gives 50 = .ok (.ior, 1) := by decide +kernel
theorem dX11_gives_51 : decode cX11_gives 51 = .ok (.istore_n 3, 1) := by decide +kernel
theorem dX11_gives_52 : decode cX11_gives 52 = .ok (.aload_n 0, 1) := by decide +kernel
theorem dX11_gives_53 : decode cX11_gives 53 = .ok (.getfield 16, 3) := by decide +kernel
theorem dX11_gives_56 : decode cX11_gives 56 = .ok (.iconst 4, 1) := by decide +kernel
theorem dX11_gives_57 : decode cX11_gives 57 = .ok (.aload_n 0, 1) := by decide +kernel
theorem dX11_gives_58 : decode cX11_gives 58 = .ok (.getfield 61, 3) := by decide +kernel
theorem dX11_gives_61 : decode cX11_gives 61 = .ok (.iload 5, 2) := by decide +kernel
theorem dX11_gives_63 : decode cX11_gives 63 = .ok (.iaload, 1) := by decide +kernel
theorem dX11_gives_64 : decode cX11_gives 64 = .ok (.imul, 1) := by decide +kernel
theorem dX11_gives_65 : decode cX11_gives 65 = .ok (.iconst 1, 1) := by decide +kernel
theorem dX11_gives_66 : decode cX11_gives 66 = .ok (.iadd, 1) := by decide +kernel
theorem dX11_gives_67 : decode cX11_gives 67 = .ok (.aload_n 0, 1) := by decide +kernel
theorem dX11_gives_68 : decode cX11_gives 68 = .ok (.getfield 64, 3) := by decide +kernel
theorem dX11_gives_71 : decode cX11_gives 71 = .ok (.iload 6, 2) := by decide +kernel
theorem dX11_gives_73 : decode cX11_gives 73 = .ok (.iaload, 1) := by decide +kernel
theorem dX11_gives_74 : decode cX11_gives 74 = .ok (.iastore, 1) := by decide +kernel
theorem dX11_gives_75 : decode cX11_gives 75 = .ok (.aload_n 0, 1) := by decide +kernel
theorem dX11_gives_76 : decode cX11_gives 76 = .ok (.dup, 1) := by decide +kernel
theorem dX11_gives_77 : decode cX11_gives 77 = .ok (.getfield 247, 3) := by decide +kernel
theorem dX11_gives_80 : decode cX11_gives 80 = .ok (.iload 4, 2) := by decide +kernel
theorem dX11_gives_82 : decode cX11_gives 82 = .ok (.iload 6, 2) := by decide +kernel
theorem dX11_gives_84 : decode cX11_gives 84 = .ok (.iconst 1, 1) := by decide +kernel
theorem dX11_gives_85 : decode cX11_gives 85 = .ok (.iadd, 1) := by decide +kernel
theorem dX11_gives_86 : decode cX11_gives 86 = .ok (.imul, 1) := by decide +kernel
theorem dX11_gives_87 : decode cX11_gives 87 = .ok (.iadd, 1) := by decide +kernel
theorem dX11_gives_88 : decode cX11_gives 88 = .ok (.putfield 247, 3) := by decide +kernel
theorem dX11_gives_91 : decode cX11_gives 91 = .ok (.iload 4, 2) := by decide +kernel
theorem dX11_gives_93 : decode cX11_gives 93 = .ok (.bipush 10, 2) := by decide +kernel
theorem dX11_gives_95 : decode cX11_gives 95 = .ok (.imul, 1) := by decide +kernel
theorem dX11_gives_96 : decode cX11_gives 96 = .ok (.istore 4, 2) := by decide +kernel
theorem dX11_gives_98 : decode cX11_gives 98 = .ok (.iinc 5 (-1), 3) := by decide +kernel
theorem dX11_gives_101 : decode cX11_gives 101 = .ok (.goto (-81), 3) := by decide +kernel
theorem dX11_gives_104 : decode cX11_gives 104 = .ok (.iload_n 3, 1) := by decide +kernel
theorem dX11_gives_105 : decode cX11_gives 105 = .ok (.iconst 1, 1) := by decide +kernel
theorem dX11_gives_106 : decode cX11_gives 106 = .ok (.aload_n 0, 1) := by decide +kernel
theorem dX11_gives_107 : decode cX11_gives 107 = .ok (.getfield 244, 3) := by decide +kernel
theorem dX11_gives_110 : decode cX11_gives 110 = .ok (.ishl, 1) := by decide +kernel
theorem dX11_gives_111 : decode cX11_gives 111 = .ok (.iconst 1, 1) := by decide +kernel
theorem dX11_gives_112 : decode cX11_gives 112 = .ok (.isub, 1) := by decide +kernel
theorem dX11_gives_113 : decode cX11_gives 113 = .ok (.if_icmp .ne 7, 3) := by decide +kernel
theorem dX11_gives_116 : decode cX11_gives 116 = .ok (.iconst 1, 1) := by decide +kernel
theorem dX11_gives_117 : decode cX11_gives 117 = .ok (.goto 4, 3) := by decide +kernel
theorem dX11_gives_120 : decode cX11_gives 120 = .ok (.iconst 0, 1) := by decide +kernel
theorem dX11_gives_121 : decode cX11_gives 121 = .ok (.ireturn, 1) := by decide +kernel
def L_X11_gives_20 : Nat → e_S → Nat → Int32 → Int32 → Int32 → Int32 → e_G → Option (Int32 × e_G)
  | 0, _, _, _, _, _, _, _ => none
  | n + 1, S, l0, l2, l3, l4, l5, g =>
  if l5 < 0 then
    (e_gI S g 11 l0 32).bind fun v1 =>
    if l3 = (((1 : Int32) <<< (v1 &&& 31)) - (1 : Int32)) then
      some ((1 : Int32), g)
    else
      some ((0 : Int32), g)
  else
    (e_gI S g 11 l0 32).bind fun v3 =>
    if v3 = 0 then none else
    (f_X11_within S (i_rem l2 v3) (0 : Int32) (5 : Int32) g).bind fun q7 =>
    (e_gI S q7.2 11 l0 32).bind fun v8 =>
    if v8 = 0 then none else
    (e_gR S q7.2 11 l0 3).bind fun v11 =>
    (e_gR S q7.2 11 l0 30).bind fun v13 =>
    (e_aI S q7.2 0 v13 l5).bind fun v15 =>
    (e_gR S q7.2 11 l0 31).bind fun v17 =>
    (e_aI S q7.2 0 v17 q7.1).bind fun v19 =>
    (e_aS S q7.2 0 v11 (((4 : Int32) * v15) + (1 : Int32)) v19).bind fun g21 =>
    (e_gI S g21 11 l0 33).bind fun v23 =>
    (e_sI S g21 11 l0 33 (v23 + (l4 * (q7.1 + (1 : Int32))))).bind fun g25 =>
    L_X11_gives_20 n S l0 (l2 / v8) (l3 ||| ((1 : Int32) <<< (q7.1 &&& 31))) (l4 * (10 : Int32)) (l5 + (-1 : Int32)) g25
def f_X11_gives (S : e_S) (l0 : Nat) (l1 : Int32) (g : e_G) : Option (Int32 × e_G) :=
  if e_ob S 11 l0 = true then
    (e_sI S g 11 l0 33 (0 : Int32)).bind fun g1 =>
    (e_gI S g1 11 l0 32).bind fun v3 =>
    L_X11_gives_20 50000 S l0 l1 (0 : Int32) (1 : Int32) (v3 - (1 : Int32)) g1
  else none
theorem x_L_X11_gives_20 {l : Launch} {D : va_G} {S : e_S} {w : Int32} {k : e_G} : ∀ (n : Nat) (l0 : Nat) (l2 : Int32) (l3 : Int32) (l4 : Int32) (l5 : Int32) (g : e_G), L_X11_gives_20 n S l0 l2 l3 l4 l5 g = some (w, k) → X l D (e_R 2) M_X11_gives 0 0 20 [(0, .ref l0), (2, .int l2), (3, .int l3), (4, .int l4), (5, .int l5)] [] (S, g) (some (.int w)) (S, k) := by
  intro n
  induction n with
  | zero =>
    intro l0 l2 l3 l4 l5 g hf
    cases hf
  | succ n ih =>
    intro l0 l2 l3 l4 l5 g hf
    rw [L_X11_gives_20] at hf
    refine X.iload dX11_gives_20 (j := 4) rfl ?_
    refine X.if_lt dX11_gives_22 (tgt := 104) rfl (fun hc => ?_) (fun hc => ?_)
    · rw [if_pos hc] at hf
      refine X.iload_n dX11_gives_104 rfl (j := 2) rfl ?_
      refine X.iconst dX11_gives_105 kI_1 ?_
      refine X.aload_n dX11_gives_106 rfl (j := 0) rfl ?_
      obtain ⟨v1, h2, hf⟩ := ob hf
      refine Y.getI dX11_gives_107 fl_X11_244 rfl h2 ?_
      refine X.ishl dX11_gives_110 ?_
      refine X.iconst dX11_gives_111 kI_1 ?_
      refine X.isub dX11_gives_112 ?_
      refine X.icmp_ne dX11_gives_113 (tgt := 120) rfl (fun hc => ?_) (fun hc => ?_)
      · rw [if_neg hc] at hf
        refine X.iconst dX11_gives_120 kI_0 ?_
        obtain ⟨e1, e2⟩ := e_ret hf
        subst e1
        subst e2
        exact X.iret dX11_gives_121 rfl rfl
      · rw [if_pos hc] at hf
        refine X.iconst dX11_gives_116 kI_1 ?_
        refine X.goto dX11_gives_117 (tgt := 121) rfl ?_
        obtain ⟨e1, e2⟩ := e_ret hf
        subst e1
        subst e2
        exact X.iret dX11_gives_121 rfl rfl
    · rw [if_neg hc] at hf
      refine X.iload_n dX11_gives_25 rfl (j := 1) rfl ?_
      refine X.aload_n dX11_gives_26 rfl (j := 0) rfl ?_
      obtain ⟨v3, h4, hf⟩ := ob hf
      refine Y.getI dX11_gives_27 fl_X11_244 rfl h4 ?_
      by_cases h5 : v3 = 0
      · rw [if_pos h5] at hf
        cases hf
      rw [if_neg h5] at hf
      refine Y.irem dX11_gives_30 h5 ?_
      refine X.iconst dX11_gives_31 kI_0 ?_
      refine X.iconst dX11_gives_32 kI_5 ?_
      obtain ⟨q7, h6, hf⟩ := ob hf
      refine Y.callS (av := [.int (i_rem l2 v3), .int (0 : Int32), .int (5 : Int32)]) dX11_gives_33 (c_X11_within (l := l) (D := D) (w := q7.1) (k := q7.2) h6) cw_X11_167 mk_X11_within (e_R_ok (Nat.le_of_ble_eq_true rfl) (Nat.le_of_ble_eq_true rfl)) ⟨rfl, rfl⟩ (by simp [Value.category]) ?_
      refine X.istore dX11_gives_36 (Nat.le_of_ble_eq_true rfl) (lc' := [(6, .int q7.1), (0, .ref l0), (2, .int l2), (3, .int l3), (4, .int l4), (5, .int l5)]) rfl ?_
      refine X.iload_n dX11_gives_38 rfl (j := 2) rfl ?_
      refine X.aload_n dX11_gives_39 rfl (j := 1) rfl ?_
      obtain ⟨v8, h9, hf⟩ := ob hf
      refine Y.getI dX11_gives_40 fl_X11_244 rfl h9 ?_
      by_cases h10 : v8 = 0
      · rw [if_pos h10] at hf
        cases hf
      rw [if_neg h10] at hf
      refine X.idiv dX11_gives_43 h10 ?_
      refine X.istore_n dX11_gives_44 rfl (Nat.le_of_ble_eq_true rfl) (lc' := [(2, .int (l2 / v8)), (6, .int q7.1), (0, .ref l0), (3, .int l3), (4, .int l4), (5, .int l5)]) rfl ?_
      refine X.iload_n dX11_gives_45 rfl (j := 3) rfl ?_
      refine X.iconst dX11_gives_46 kI_1 ?_
      refine X.iload dX11_gives_47 (j := 1) rfl ?_
      refine X.ishl dX11_gives_49 ?_
      refine X.ior dX11_gives_50 ?_
      refine X.istore_n dX11_gives_51 rfl (Nat.le_of_ble_eq_true rfl) (lc' := [(3, .int (l3 ||| ((1 : Int32) <<< (q7.1 &&& 31)))), (2, .int (l2 / v8)), (6, .int q7.1), (0, .ref l0), (4, .int l4), (5, .int l5)]) rfl ?_
      refine X.aload_n dX11_gives_52 rfl (j := 3) rfl ?_
      obtain ⟨v11, h12, hf⟩ := ob hf
      refine Y.getR dX11_gives_53 fl_X11_16 rfl h12 ?_
      refine X.iconst dX11_gives_56 kI_4 ?_
      refine X.aload_n dX11_gives_57 rfl (j := 3) rfl ?_
      obtain ⟨v13, h14, hf⟩ := ob hf
      refine Y.getR dX11_gives_58 fl_X11_61 rfl h14 ?_
      refine X.iload dX11_gives_61 (j := 5) rfl ?_
      obtain ⟨v15, h16, hf⟩ := ob hf
      refine Y.iald dX11_gives_63 h16 ?_
      refine X.imul dX11_gives_64 ?_
      refine X.iconst dX11_gives_65 kI_1 ?_
      refine X.iadd dX11_gives_66 ?_
      refine X.aload_n dX11_gives_67 rfl (j := 3) rfl ?_
      obtain ⟨v17, h18, hf⟩ := ob hf
      refine Y.getR dX11_gives_68 fl_X11_64 rfl h18 ?_
      refine X.iload dX11_gives_71 (j := 2) rfl ?_
      obtain ⟨v19, h20, hf⟩ := ob hf
      refine Y.iald dX11_gives_73 h20 ?_
      obtain ⟨g21, h22, hf⟩ := ob hf
      refine Y.iast dX11_gives_74 h22 ?_
      refine X.aload_n dX11_gives_75 rfl (j := 3) rfl ?_
      refine X.dup dX11_gives_76 rfl ?_
      obtain ⟨v23, h24, hf⟩ := ob hf
      refine Y.getI dX11_gives_77 fl_X11_247 rfl h24 ?_
      refine X.iload dX11_gives_80 (j := 4) rfl ?_
      refine X.iload dX11_gives_82 (j := 2) rfl ?_
      refine X.iconst dX11_gives_84 kI_1 ?_
      refine X.iadd dX11_gives_85 ?_
      refine X.imul dX11_gives_86 ?_
      refine X.iadd dX11_gives_87 ?_
      obtain ⟨g25, h26, hf⟩ := ob hf
      refine Y.putI dX11_gives_88 fl_X11_247 rfl rfl rfl rfl h26 ?_
      refine X.iload dX11_gives_91 (j := 4) rfl ?_
      refine X.bipush dX11_gives_93 kB_10 ?_
      refine X.imul dX11_gives_95 ?_
      refine X.istore dX11_gives_96 (Nat.le_of_ble_eq_true rfl) (lc' := [(4, .int (l4 * (10 : Int32))), (3, .int (l3 ||| ((1 : Int32) <<< (q7.1 &&& 31)))), (2, .int (l2 / v8)), (6, .int q7.1), (0, .ref l0), (5, .int l5)]) rfl ?_
      refine X.iinc (j := 5) dX11_gives_98 rfl (v := l5 + (-1 : Int32)) (by rw [kI_m1]) (Nat.le_of_ble_eq_true rfl) (lc' := [(5, .int (l5 + (-1 : Int32))), (4, .int (l4 * (10 : Int32))), (3, .int (l3 ||| ((1 : Int32) <<< (q7.1 &&& 31)))), (2, .int (l2 / v8)), (6, .int q7.1), (0, .ref l0)]) rfl ?_
      refine X.goto dX11_gives_101 (tgt := 20) rfl ?_
      refine X.sub [5, 3, 2, 1, 0] rfl ?_
      exact ih _ _ _ _ _ _ hf
theorem o_X11_gives  {S : e_S} {w : Int32} {k : e_G} {l0 : Nat} {l1 : Int32} {g : e_G} (hf : f_X11_gives S l0 l1 g = some (w, k)) : e_ob S 11 l0 = true := by
  unfold f_X11_gives at hf
  by_cases hc : e_ob S 11 l0 = true
  · exact hc
  · rw [if_neg hc] at hf
    cases hf
theorem c_X11_gives {l : Launch} {D : va_G}  {S : e_S} {w : Int32} {k : e_G} {l0 : Nat} {l1 : Int32} {g : e_G} (hf : f_X11_gives S l0 l1 g = some (w, k)) : CT l D (e_R 2) M_X11_gives [.ref l0, .int l1] (S, g) (some (.int w)) (S, k) := by
  refine CT.of (by decide +kernel) (Nat.le_of_ble_eq_true rfl) ?_
  have ho := o_X11_gives hf
  unfold f_X11_gives at hf
  rw [if_pos ho] at hf
  show X l D (e_R 2) M_X11_gives 0 0 0 [(0, .ref l0), (1, .int l1)] [] (S, g) (some (.int w)) (S, k)
  refine X.iload_n dX11_gives_0 rfl (j := 1) rfl ?_
  refine X.istore_n dX11_gives_1 rfl (Nat.le_of_ble_eq_true rfl) (lc' := [(2, .int l1), (0, .ref l0), (1, .int l1)]) rfl ?_
  refine X.iconst dX11_gives_2 kI_0 ?_
  refine X.istore_n dX11_gives_3 rfl (Nat.le_of_ble_eq_true rfl) (lc' := [(3, .int (0 : Int32)), (2, .int l1), (0, .ref l0), (1, .int l1)]) rfl ?_
  refine X.iconst dX11_gives_4 kI_1 ?_
  refine X.istore dX11_gives_5 (Nat.le_of_ble_eq_true rfl) (lc' := [(4, .int (1 : Int32)), (3, .int (0 : Int32)), (2, .int l1), (0, .ref l0), (1, .int l1)]) rfl ?_
  refine X.aload_n dX11_gives_7 rfl (j := 3) rfl ?_
  refine X.iconst dX11_gives_8 kI_0 ?_
  obtain ⟨g1, h2, hf⟩ := ob hf
  refine Y.putI dX11_gives_9 fl_X11_247 rfl rfl rfl rfl h2 ?_
  refine X.aload_n dX11_gives_12 rfl (j := 3) rfl ?_
  obtain ⟨v3, h4, hf⟩ := ob hf
  refine Y.getI dX11_gives_13 fl_X11_244 rfl h4 ?_
  refine X.iconst dX11_gives_16 kI_1 ?_
  refine X.isub dX11_gives_17 ?_
  refine X.istore dX11_gives_18 (Nat.le_of_ble_eq_true rfl) (lc' := [(5, .int (v3 - (1 : Int32))), (4, .int (1 : Int32)), (3, .int (0 : Int32)), (2, .int l1), (0, .ref l0), (1, .int l1)]) rfl ?_
  refine X.sub [4, 3, 2, 1, 0] rfl ?_
  exact x_L_X11_gives_20 50000 _ _ _ _ _ _ hf
/-! LeanedOutModel.untangle(II)I -/
abbrev M_X11_untangle : e_M := (yX11_untangle, cX11_untangle, 9, (some .int))
theorem mk_X11_untangle : e_Mok M_X11_untangle 2 := ⟨by decide +kernel, by decide +kernel, by decide +kernel⟩
theorem dX11_untangle_0 : decode cX11_untangle 0 = .ok (.iload_n 1, 1) := by decide +kernel
theorem dX11_untangle_1 : decode cX11_untangle 1 = .ok (.iconst 0, 1) := by decide +kernel
theorem dX11_untangle_2 : decode cX11_untangle 2 = .ok (.iconst 1, 1) := by decide +kernel
theorem dX11_untangle_3 : decode cX11_untangle 3 = .ok (.invokestatic 78, 3) := by decide +kernel
theorem dX11_untangle_6 : decode cX11_untangle 6 = .ok (.ifCond .eq 12, 3) := by decide +kernel
theorem dX11_untangle_9 : decode cX11_untangle 9 = .ok (.iload_n 2, 1) := by decide +kernel
theorem dX11_untangle_10 : decode cX11_untangle 10 = .ok (.iconst 0, 1) := by decide +kernel
theorem dX11_untangle_11 : decode cX11_untangle 11 = .ok (.iconst 1, 1) := by decide +kernel
theorem dX11_untangle_12 : decode cX11_untangle 12 = .ok (.invokestatic 78, 3) := by decide +kernel
theorem dX11_untangle_15 : decode cX11_untangle 15 = .ok (.ifCond .ne 6, 3) := by decide +kernel
theorem dX11_untangle_18 : decode cX11_untangle 18 = .ok (.bipush (-2), 2) := by decide +kernel
theorem dX11_untangle_20 : decode cX11_untangle 20 = .ok (.ireturn, 1) := by decide +kernel
theorem dX11_untangle_21 : decode cX11_untangle 21 = .ok (.aload_n 0, 1) := by decide +kernel
theorem dX11_untangle_22 : decode cX11_untangle 22 = .ok (.iload_n 1, 1) := by decide +kernel
theorem dX11_untangle_23 : decode cX11_untangle 23 = .ok (.invokevirtual 250, 3) := by decide +kernel
theorem dX11_untangle_26 : decode cX11_untangle 26 = .ok (.aload_n 0, 1) := by decide +kernel
theorem dX11_untangle_27 : decode cX11_untangle 27 = .ok (.getfield 244, 3) := by decide +kernel
theorem dX11_untangle_30 : decode cX11_untangle 30 = .ok (.ifCond .ne 16, 3) := by decide +kernel
theorem dX11_untangle_33 : decode cX11_untangle 33 = .ok (.iload_n 2, 1) := by decide +kernel
theorem dX11_untangle_34 : decode cX11_untangle 34 = .ok (.ifCond .ne 7, 3) := by decide +kernel
theorem dX11_untangle_37 : decode cX11_untangle 37 = .ok (.iconst 0, 1) := by decide +kernel
theorem dX11_untangle_38 : decode cX11_untangle 38 = .ok (.goto 7, 3) := by decide +kernel
theorem dX11_untangle_41 : decode cX11_untangle 41 = .ok (.aload_n 0, 1) := by decide +kernel
theorem dX11_untangle_42 : decode cX11_untangle 42 = .ok (.invokevirtual 210, 3) := by decide +kernel
theorem dX11_untangle_45 : decode cX11_untangle 45 = .ok (.ireturn, 1) := by decide +kernel
theorem dX11_untangle_46 : decode cX11_untangle 46 = .ok (.iconst 1, 1) := by decide +kernel
theorem dX11_untangle_47 : decode cX11_untangle 47 = .ok (.istore_n 3, 1) := by decide +kernel
theorem dX11_untangle_48 : decode cX11_untangle 48 = .ok (.iconst 0, 1) := by decide +kernel
theorem dX11_untangle_49 : decode cX11_untangle 49 = .ok (.istore 4, 2) := by decide +kernel
theorem dX11_untangle_51 : decode cX11_untangle 51 = .ok (.iload 4, 2) := by decide +kernel
theorem dX11_untangle_53 : decode cX11_untangle 53 = .ok (.aload_n 0, 1) := by decide +kernel
theorem dX11_untangle_54 : decode cX11_untangle 54 = .ok (.getfield 244, 3) := by decide +kernel
theorem dX11_untangle_57 : decode cX11_untangle 57 = .ok (.if_icmp .ge 16, 3) := by decide +kernel
theorem dX11_untangle_60 : decode cX11_untangle 60 = .ok (.iload_n 3, 1) := by decide +kernel
theorem dX11_untangle_61 : decode cX11_untangle 61 = .ok (.aload_n 0, 1) := by decide +kernel
theorem dX11_untangle_62 : decode cX11_untangle 62 = .ok (.getfield 244, 3) := by decide +kernel
theorem dX11_untangle_65 : decode cX11_untangle 65 = .ok (.imul, 1) := by decide +kernel
theorem dX11_untangle_66 : decode cX11_untangle 66 = .ok (.istore_n 3, 1) := by decide +kernel
theorem dX11_untangle_67 : decode cX11_untangle 67 = .ok (.iinc 4 1, 3) := by decide +kernel
theorem dX11_untangle_70 : decode cX11_untangle 70 = .ok (.goto (-19), 3) := by decide +kernel
theorem dX11_untangle_73 : decode cX11_untangle 73 = .ok (.iconst (-1), 1) := by decide +kernel
theorem dX11_untangle_74 : decode cX11_untangle 74 = .ok (.istore 4, 2) := by decide +kernel
theorem dX11_untangle_76 : decode cX11_untangle 76 = .ok (.iconst 0, 1) := by decide +kernel
theorem dX11_untangle_77 : decode cX11_untangle 77 = .ok (.istore 5, 2) := by decide +kernel
theorem dX11_untangle_79 : decode cX11_untangle 79 = .ok (.aload_n 0, 1) := by decide +kernel
theorem dX11_untangle_80 : decode cX11_untangle 80 = .ok (.invokevirtual 223, 3) := by decide +kernel
theorem dX11_untangle_83 : decode cX11_untangle 83 = .ok (.iconst 0, 1) := by decide +kernel
theorem dX11_untangle_84 : decode cX11_untangle 84 = .ok (.istore 6, 2) := by decide +kernel
theorem dX11_untangle_86 : decode cX11_untangle 86 = .ok (.iload 6, 2) := by decide +kernel
theorem dX11_untangle_88 : decode cX11_untangle 88 = .ok (.iload_n 3, 1) := by decide +kernel
theorem dX11_untangle_89 : decode cX11_untangle 89 = .ok (.if_icmp .ge 74, 3) := by decide +kernel
theorem dX11_untangle_92 : decode cX11_untangle 92 = .ok (.aload_n 0, 1) := by decide +kernel
theorem dX11_untangle_93 : decode cX11_untangle 93 = .ok (.iload 6, 2) := by decide +kernel
theorem dX11_untangle_95 : decode cX11_untangle 95 = .ok (.invokevirtual 253, 3) := by decide +kernel
theorem dX11_untangle_98 : decode cX11_untangle 98 = .ok (.ifCond .eq 59, 3) := by decide +kernel
theorem dX11_untangle_101 : decode cX11_untangle 101 = .ok (.aload_n 0, 1) := by decide +kernel
theorem dX11_untangle_102 : decode cX11_untangle 102 = .ok (.invokevirtual 210, 3) := by decide +kernel
theorem dX11_untangle_105 : decode cX11_untangle 105 = .ok (.istore 7, 2) := by decide +kernel
theorem dX11_untangle_107 : decode cX11_untangle 107 = .ok (.iload 4, 2) := by decide +kernel
theorem dX11_untangle_109 : decode cX11_untangle 109 = .ok (.iconst (-1), 1) := by decide +kernel
theorem dX11_untangle_110 : decode cX11_untangle 110 = .ok (.if_icmp .eq 10, 3) := by decide +kernel
theorem dX11_untangle_113 : decode cX11_untangle 113 = .ok (.iload 7, 2) := by decide +kernel
theorem dX11_untangle_115 : decode cX11_untangle 115 = .ok (.iload 5, 2) := by decide +kernel
theorem dX11_untangle_117 : decode cX11_untangle 117 = .ok (.if_icmp .ge 7, 3) := by decide +kernel
theorem dX11_untangle_120 : decode cX11_untangle 120 = .ok (.iconst 1, 1) := by decide +kernel
theorem dX11_untangle_121 : decode cX11_untangle 121 = .ok (.goto 4, 3) := by decide +kernel
theorem dX11_untangle_124 : decode cX11_untangle 124 = .ok (.iconst 0, 1) := by decide +kernel
theorem dX11_untangle_125 : decode cX11_untangle 125 = .ok (.istore 8, 2) := by decide +kernel
theorem dX11_untangle_127 : decode cX11_untangle 127 = .ok (.iload 8, 2) := by decide +kernel
theorem dX11_untangle_129 : decode cX11_untangle 129 = .ok (.ifCond .eq 10, 3) := by decide +kernel
theorem dX11_untangle_132 : decode cX11_untangle 132 = .ok (.aload_n 0, 1) := by decide +kernel
theorem dX11_untangle_133 : decode cX11_untangle 133 = .ok (.getfield 247, 3) := by decide +kernel
theorem dX11_untangle_136 : decode cX11_untangle 136 = .ok (.goto 5, 3) := by decide +kernel
theorem dX11_untangle_139 : decode cX11_untangle 139 = .ok (.iload 4, 2) := by decide +kernel
theorem dX11_untangle_141 : decode cX11_untangle 141 = .ok (.istore 4, 2) := by decide +kernel
theorem dX11_untangle_143 : decode cX11_untangle 143 = .ok (.iload 8, 2) := by decide +kernel
theorem dX11_untangle_145 : decode cX11_untangle 145 = .ok (.ifCond .eq 8, 3) := by decide +kernel
theorem dX11_untangle_148 : decode cX11_untangle 148 = .ok (.iload 7, 2) := by decide +kernel
theorem dX11_untangle_150 : decode cX11_untangle 150 = .ok (.goto 5, 3) := by decide +kernel
theorem dX11_untangle_153 : decode cX11_untangle 153 = .ok (.iload 5, 2) := by decide +kernel
theorem dX11_untangle_155 : decode cX11_untangle 155 = .ok (.istore 5, 2) := by decide +kernel
theorem dX11_untangle_157 : decode cX11_untangle 157 = .ok (.iinc 6 1, 3) := by decide +kernel
theorem dX11_untangle_160 : decode cX11_untangle 160 = .ok (.goto (-74), 3) := by decide +kernel
theorem dX11_untangle_163 : decode cX11_untangle 163 = .ok (.aload_n 0, 1) := by decide +kernel
theorem dX11_untangle_164 : decode cX11_untangle 164 = .ok (.invokevirtual 235, 3) := by decide +kernel
theorem dX11_untangle_167 : decode cX11_untangle 167 = .ok (.iload_n 2, 1) := by decide +kernel
theorem dX11_untangle_168 : decode cX11_untangle 168 = .ok (.ifCond .ne 8, 3) := by decide +kernel
theorem dX11_untangle_171 : decode cX11_untangle 171 = .ok (.iload 4, 2) := by decide +kernel
theorem dX11_untangle_173 : decode cX11_untangle 173 = .ok (.goto 5, 3) := by decide +kernel
theorem dX11_untangle_176 : decode cX11_untangle 176 = .ok (.iload 5, 2) := by decide +kernel
theorem dX11_untangle_178 : decode cX11_untangle 178 = .ok (.ireturn, 1) := by decide +kernel
def J_X11_untangle_157 (c86 : Nat → Int32 → Int32 → Int32 → Int32 → Int32 → e_G → Option (Int32 × e_G)) (S : e_S) (l0 : Nat) (l2 : Int32) (l3 : Int32) (l4 : Int32) (l5 : Int32) (l6 : Int32) (g : e_G) : Option (Int32 × e_G) :=
  c86 l0 l2 l3 l4 l5 (l6 + (1 : Int32)) g
def J_X11_untangle_155 (c86 : Nat → Int32 → Int32 → Int32 → Int32 → Int32 → e_G → Option (Int32 × e_G)) (S : e_S) (l0 : Nat) (l2 : Int32) (l3 : Int32) (l4 : Int32) (l6 : Int32) (t0 : Int32) (g : e_G) : Option (Int32 × e_G) :=
  J_X11_untangle_157 c86 S l0 l2 l3 l4 t0 l6 g
def J_X11_untangle_141 (c86 : Nat → Int32 → Int32 → Int32 → Int32 → Int32 → e_G → Option (Int32 × e_G)) (S : e_S) (l0 : Nat) (l2 : Int32) (l3 : Int32) (l5 : Int32) (l6 : Int32) (l7 : Int32) (l8 : Int32) (t0 : Int32) (g : e_G) : Option (Int32 × e_G) :=
  if l8 = 0 then
    J_X11_untangle_155 c86 S l0 l2 l3 t0 l6 l5 g
  else
    J_X11_untangle_155 c86 S l0 l2 l3 t0 l6 l7 g
def J_X11_untangle_125 (c86 : Nat → Int32 → Int32 → Int32 → Int32 → Int32 → e_G → Option (Int32 × e_G)) (S : e_S) (l0 : Nat) (l2 : Int32) (l3 : Int32) (l4 : Int32) (l5 : Int32) (l6 : Int32) (l7 : Int32) (t0 : Int32) (g : e_G) : Option (Int32 × e_G) :=
  if t0 = 0 then
    J_X11_untangle_141 c86 S l0 l2 l3 l5 l6 l7 t0 l4 g
  else
    (e_gI S g 11 l0 33).bind fun v1 =>
    J_X11_untangle_141 c86 S l0 l2 l3 l5 l6 l7 t0 v1 g
def J_X11_untangle_120 (c86 : Nat → Int32 → Int32 → Int32 → Int32 → Int32 → e_G → Option (Int32 × e_G)) (S : e_S) (l0 : Nat) (l2 : Int32) (l3 : Int32) (l4 : Int32) (l5 : Int32) (l6 : Int32) (l7 : Int32) (g : e_G) : Option (Int32 × e_G) :=
  J_X11_untangle_125 c86 S l0 l2 l3 l4 l5 l6 l7 (1 : Int32) g
def L_X11_untangle_86 : Nat → e_S → Nat → Int32 → Int32 → Int32 → Int32 → Int32 → e_G → Option (Int32 × e_G)
  | 0, _, _, _, _, _, _, _, _ => none
  | n + 1, S, l0, l2, l3, l4, l5, l6, g =>
  if l3 ≤ l6 then
    (f_X11_lays S l0 g).bind fun q2 =>
    if l2 = 0 then
      some (l4, q2)
    else
      some (l5, q2)
  else
    (f_X11_gives S l0 l6 g).bind fun q4 =>
    if q4.1 = 0 then
      J_X11_untangle_157 (L_X11_untangle_86 n S) S l0 l2 l3 l4 l5 l6 q4.2
    else
      (f_X11_crossing S l0 q4.2).bind fun q6 =>
      if l4 = (-1 : Int32) then
        J_X11_untangle_120 (L_X11_untangle_86 n S) S l0 l2 l3 l4 l5 l6 q6.1 q6.2
      else
        if l5 ≤ q6.1 then
          J_X11_untangle_125 (L_X11_untangle_86 n S) S l0 l2 l3 l4 l5 l6 q6.1 (0 : Int32) q6.2
        else
          J_X11_untangle_120 (L_X11_untangle_86 n S) S l0 l2 l3 l4 l5 l6 q6.1 q6.2
def L_X11_untangle_51 : Nat → e_S → Nat → Int32 → Int32 → Int32 → e_G → Option (Int32 × e_G)
  | 0, _, _, _, _, _, _ => none
  | n + 1, S, l0, l2, l3, l4, g =>
  (e_gI S g 11 l0 32).bind fun v1 =>
  if v1 ≤ l4 then
    (f_X11_keepsAll S l0 g).bind fun q4 =>
    L_X11_untangle_86 50000 S l0 l2 l3 (-1 : Int32) (0 : Int32) (0 : Int32) q4
  else
    (e_gI S g 11 l0 32).bind fun v5 =>
    L_X11_untangle_51 n S l0 l2 (l3 * v5) (l4 + (1 : Int32)) g
def f_X11_untangle (S : e_S) (l0 : Nat) (l1 : Int32) (l2 : Int32) (g : e_G) : Option (Int32 × e_G) :=
  if e_ob S 11 l0 = true then
    (f_X11_in S l1 (0 : Int32) (1 : Int32) g).bind fun q2 =>
    if q2.1 = 0 then
      some ((-2 : Int32), q2.2)
    else
      (f_X11_in S l2 (0 : Int32) (1 : Int32) q2.2).bind fun q4 =>
      if q4.1 = 0 then
        some ((-2 : Int32), q4.2)
      else
        (f_X11_tellsSide S l0 l1 q4.2).bind fun q6 =>
        (e_gI S q6 11 l0 32).bind fun v7 =>
        if v7 = 0 then
          if l2 = 0 then
            some ((0 : Int32), q6)
          else
            (f_X11_crossing S l0 q6).bind fun q10 =>
            some (q10.1, q10.2)
        else
          L_X11_untangle_51 50000 S l0 l2 (1 : Int32) (0 : Int32) q6
  else none
theorem x_J_X11_untangle_157 {l : Launch} {D : va_G} {S : e_S} {w : Int32} {k : e_G} (c86 : Nat → Int32 → Int32 → Int32 → Int32 → Int32 → e_G → Option (Int32 × e_G)) (hc86 : ∀ (l0 : Nat) (l2 : Int32) (l3 : Int32) (l4 : Int32) (l5 : Int32) (l6 : Int32) (g : e_G), c86 l0 l2 l3 l4 l5 l6 g = some (w, k) → X l D (e_R 3) M_X11_untangle 0 0 86 [(0, .ref l0), (2, .int l2), (3, .int l3), (4, .int l4), (5, .int l5), (6, .int l6)] [] (S, g) (some (.int w)) (S, k)) {l0 : Nat} {l2 : Int32} {l3 : Int32} {l4 : Int32} {l5 : Int32} {l6 : Int32} {g : e_G} (hf : J_X11_untangle_157 c86 S l0 l2 l3 l4 l5 l6 g = some (w, k)) : X l D (e_R 3) M_X11_untangle 0 0 157 [(0, .ref l0), (2, .int l2), (3, .int l3), (4, .int l4), (5, .int l5), (6, .int l6)] [] (S, g) (some (.int w)) (S, k) := by
  unfold J_X11_untangle_157 at hf
  refine X.iinc (j := 5) dX11_untangle_157 rfl (v := l6 + (1 : Int32)) (by rw [kI_1]) (Nat.le_of_ble_eq_true rfl) (lc' := [(6, .int (l6 + (1 : Int32))), (0, .ref l0), (2, .int l2), (3, .int l3), (4, .int l4), (5, .int l5)]) rfl ?_
  refine X.goto dX11_untangle_160 (tgt := 86) rfl ?_
  refine X.sub [1, 2, 3, 4, 5, 0] rfl ?_
  exact hc86 _ _ _ _ _ _ _ hf
theorem x_J_X11_untangle_155 {l : Launch} {D : va_G} {S : e_S} {w : Int32} {k : e_G} (c86 : Nat → Int32 → Int32 → Int32 → Int32 → Int32 → e_G → Option (Int32 × e_G)) (hc86 : ∀ (l0 : Nat) (l2 : Int32) (l3 : Int32) (l4 : Int32) (l5 : Int32) (l6 : Int32) (g : e_G), c86 l0 l2 l3 l4 l5 l6 g = some (w, k) → X l D (e_R 3) M_X11_untangle 0 0 86 [(0, .ref l0), (2, .int l2), (3, .int l3), (4, .int l4), (5, .int l5), (6, .int l6)] [] (S, g) (some (.int w)) (S, k)) {l0 : Nat} {l2 : Int32} {l3 : Int32} {l4 : Int32} {l6 : Int32} {t0 : Int32} {g : e_G} (hf : J_X11_untangle_155 c86 S l0 l2 l3 l4 l6 t0 g = some (w, k)) : X l D (e_R 3) M_X11_untangle 0 0 155 [(0, .ref l0), (2, .int l2), (3, .int l3), (4, .int l4), (6, .int l6)] [.int t0] (S, g) (some (.int w)) (S, k) := by
  unfold J_X11_untangle_155 at hf
  refine X.istore dX11_untangle_155 (Nat.le_of_ble_eq_true rfl) (lc' := [(5, .int t0), (0, .ref l0), (2, .int l2), (3, .int l3), (4, .int l4), (6, .int l6)]) rfl ?_
  refine X.sub [1, 2, 3, 4, 0, 5] rfl ?_
  exact x_J_X11_untangle_157 _ hc86 hf
theorem x_J_X11_untangle_141 {l : Launch} {D : va_G} {S : e_S} {w : Int32} {k : e_G} (c86 : Nat → Int32 → Int32 → Int32 → Int32 → Int32 → e_G → Option (Int32 × e_G)) (hc86 : ∀ (l0 : Nat) (l2 : Int32) (l3 : Int32) (l4 : Int32) (l5 : Int32) (l6 : Int32) (g : e_G), c86 l0 l2 l3 l4 l5 l6 g = some (w, k) → X l D (e_R 3) M_X11_untangle 0 0 86 [(0, .ref l0), (2, .int l2), (3, .int l3), (4, .int l4), (5, .int l5), (6, .int l6)] [] (S, g) (some (.int w)) (S, k)) {l0 : Nat} {l2 : Int32} {l3 : Int32} {l5 : Int32} {l6 : Int32} {l7 : Int32} {l8 : Int32} {t0 : Int32} {g : e_G} (hf : J_X11_untangle_141 c86 S l0 l2 l3 l5 l6 l7 l8 t0 g = some (w, k)) : X l D (e_R 3) M_X11_untangle 0 0 141 [(0, .ref l0), (2, .int l2), (3, .int l3), (5, .int l5), (6, .int l6), (7, .int l7), (8, .int l8)] [.int t0] (S, g) (some (.int w)) (S, k) := by
  unfold J_X11_untangle_141 at hf
  refine X.istore dX11_untangle_141 (Nat.le_of_ble_eq_true rfl) (lc' := [(4, .int t0), (0, .ref l0), (2, .int l2), (3, .int l3), (5, .int l5), (6, .int l6), (7, .int l7), (8, .int l8)]) rfl ?_
  refine X.iload dX11_untangle_143 (j := 7) rfl ?_
  refine X.if_eq dX11_untangle_145 (tgt := 153) rfl (fun hc => ?_) (fun hc => ?_)
  · rw [if_pos hc] at hf
    refine X.iload dX11_untangle_153 (j := 4) rfl ?_
    refine X.sub [1, 2, 3, 0, 5] rfl ?_
    exact x_J_X11_untangle_155 _ hc86 hf
  · rw [if_neg hc] at hf
    refine X.iload dX11_untangle_148 (j := 6) rfl ?_
    refine X.goto dX11_untangle_150 (tgt := 155) rfl ?_
    refine X.sub [1, 2, 3, 0, 5] rfl ?_
    exact x_J_X11_untangle_155 _ hc86 hf
theorem x_J_X11_untangle_125 {l : Launch} {D : va_G} {S : e_S} {w : Int32} {k : e_G} (c86 : Nat → Int32 → Int32 → Int32 → Int32 → Int32 → e_G → Option (Int32 × e_G)) (hc86 : ∀ (l0 : Nat) (l2 : Int32) (l3 : Int32) (l4 : Int32) (l5 : Int32) (l6 : Int32) (g : e_G), c86 l0 l2 l3 l4 l5 l6 g = some (w, k) → X l D (e_R 3) M_X11_untangle 0 0 86 [(0, .ref l0), (2, .int l2), (3, .int l3), (4, .int l4), (5, .int l5), (6, .int l6)] [] (S, g) (some (.int w)) (S, k)) {l0 : Nat} {l2 : Int32} {l3 : Int32} {l4 : Int32} {l5 : Int32} {l6 : Int32} {l7 : Int32} {t0 : Int32} {g : e_G} (hf : J_X11_untangle_125 c86 S l0 l2 l3 l4 l5 l6 l7 t0 g = some (w, k)) : X l D (e_R 3) M_X11_untangle 0 0 125 [(0, .ref l0), (2, .int l2), (3, .int l3), (4, .int l4), (5, .int l5), (6, .int l6), (7, .int l7)] [.int t0] (S, g) (some (.int w)) (S, k) := by
  unfold J_X11_untangle_125 at hf
  refine X.istore dX11_untangle_125 (Nat.le_of_ble_eq_true rfl) (lc' := [(8, .int t0), (0, .ref l0), (2, .int l2), (3, .int l3), (4, .int l4), (5, .int l5), (6, .int l6), (7, .int l7)]) rfl ?_
  refine X.iload dX11_untangle_127 (j := 0) rfl ?_
  refine X.if_eq dX11_untangle_129 (tgt := 139) rfl (fun hc => ?_) (fun hc => ?_)
  · rw [if_pos hc] at hf
    refine X.iload dX11_untangle_139 (j := 4) rfl ?_
    refine X.sub [1, 2, 3, 5, 6, 7, 0] rfl ?_
    exact x_J_X11_untangle_141 _ hc86 hf
  · rw [if_neg hc] at hf
    refine X.aload_n dX11_untangle_132 rfl (j := 1) rfl ?_
    obtain ⟨v1, h2, hf⟩ := ob hf
    refine Y.getI dX11_untangle_133 fl_X11_247 rfl h2 ?_
    refine X.goto dX11_untangle_136 (tgt := 141) rfl ?_
    refine X.sub [1, 2, 3, 5, 6, 7, 0] rfl ?_
    exact x_J_X11_untangle_141 _ hc86 hf
theorem x_J_X11_untangle_120 {l : Launch} {D : va_G} {S : e_S} {w : Int32} {k : e_G} (c86 : Nat → Int32 → Int32 → Int32 → Int32 → Int32 → e_G → Option (Int32 × e_G)) (hc86 : ∀ (l0 : Nat) (l2 : Int32) (l3 : Int32) (l4 : Int32) (l5 : Int32) (l6 : Int32) (g : e_G), c86 l0 l2 l3 l4 l5 l6 g = some (w, k) → X l D (e_R 3) M_X11_untangle 0 0 86 [(0, .ref l0), (2, .int l2), (3, .int l3), (4, .int l4), (5, .int l5), (6, .int l6)] [] (S, g) (some (.int w)) (S, k)) {l0 : Nat} {l2 : Int32} {l3 : Int32} {l4 : Int32} {l5 : Int32} {l6 : Int32} {l7 : Int32} {g : e_G} (hf : J_X11_untangle_120 c86 S l0 l2 l3 l4 l5 l6 l7 g = some (w, k)) : X l D (e_R 3) M_X11_untangle 0 0 120 [(0, .ref l0), (2, .int l2), (3, .int l3), (4, .int l4), (5, .int l5), (6, .int l6), (7, .int l7)] [] (S, g) (some (.int w)) (S, k) := by
  unfold J_X11_untangle_120 at hf
  refine X.iconst dX11_untangle_120 kI_1 ?_
  refine X.goto dX11_untangle_121 (tgt := 125) rfl ?_
  exact x_J_X11_untangle_125 _ hc86 hf
theorem x_L_X11_untangle_86 {l : Launch} {D : va_G} {S : e_S} {w : Int32} {k : e_G} : ∀ (n : Nat) (l0 : Nat) (l2 : Int32) (l3 : Int32) (l4 : Int32) (l5 : Int32) (l6 : Int32) (g : e_G), L_X11_untangle_86 n S l0 l2 l3 l4 l5 l6 g = some (w, k) → X l D (e_R 3) M_X11_untangle 0 0 86 [(0, .ref l0), (2, .int l2), (3, .int l3), (4, .int l4), (5, .int l5), (6, .int l6)] [] (S, g) (some (.int w)) (S, k) := by
  intro n
  induction n with
  | zero =>
    intro l0 l2 l3 l4 l5 l6 g hf
    cases hf
  | succ n ih =>
    intro l0 l2 l3 l4 l5 l6 g hf
    rw [L_X11_untangle_86] at hf
    refine X.iload dX11_untangle_86 (j := 5) rfl ?_
    refine X.iload_n dX11_untangle_88 rfl (j := 2) rfl ?_
    refine X.icmp_ge dX11_untangle_89 (tgt := 163) rfl (fun hc => ?_) (fun hc => ?_)
    · rw [if_pos hc] at hf
      refine X.aload_n dX11_untangle_163 rfl (j := 0) rfl ?_
      obtain ⟨q2, h1, hf⟩ := ob hf
      refine Y.callV (av := []) (ci := 11) dX11_untangle_164 (c_X11_lays (l := l) (D := D) h1) cw_X11_235 (by decide) rfl mk_X11_lays (o_X11_lays (k := q2) h1) (e_R_ok (Nat.le_of_ble_eq_true rfl) (Nat.le_of_ble_eq_true rfl)) ⟨rfl, rfl⟩ (by simp [Value.category]) ?_
      refine X.iload_n dX11_untangle_167 rfl (j := 1) rfl ?_
      refine X.if_ne dX11_untangle_168 (tgt := 176) rfl (fun hc => ?_) (fun hc => ?_)
      · rw [if_neg hc] at hf
        refine X.iload dX11_untangle_176 (j := 4) rfl ?_
        obtain ⟨e1, e2⟩ := e_ret hf
        subst e1
        subst e2
        exact X.iret dX11_untangle_178 rfl rfl
      · rw [if_pos hc] at hf
        refine X.iload dX11_untangle_171 (j := 3) rfl ?_
        refine X.goto dX11_untangle_173 (tgt := 178) rfl ?_
        obtain ⟨e1, e2⟩ := e_ret hf
        subst e1
        subst e2
        exact X.iret dX11_untangle_178 rfl rfl
    · rw [if_neg hc] at hf
      refine X.aload_n dX11_untangle_92 rfl (j := 0) rfl ?_
      refine X.iload dX11_untangle_93 (j := 5) rfl ?_
      obtain ⟨q4, h3, hf⟩ := ob hf
      refine Y.callV (av := [.int l6]) (ci := 11) dX11_untangle_95 (c_X11_gives (l := l) (D := D) (w := q4.1) (k := q4.2) h3) cw_X11_253 (by decide) rfl mk_X11_gives (o_X11_gives (w := q4.1) (k := q4.2) h3) (e_R_ok (Nat.le_of_ble_eq_true rfl) (Nat.le_of_ble_eq_true rfl)) ⟨rfl, rfl⟩ (by simp [Value.category]) ?_
      refine X.if_eq dX11_untangle_98 (tgt := 157) rfl (fun hc => ?_) (fun hc => ?_)
      · rw [if_pos hc] at hf
        exact x_J_X11_untangle_157 _ ih hf
      · rw [if_neg hc] at hf
        refine X.aload_n dX11_untangle_101 rfl (j := 0) rfl ?_
        obtain ⟨q6, h5, hf⟩ := ob hf
        refine Y.callV (av := []) (ci := 11) dX11_untangle_102 (c_X11_crossing (l := l) (D := D) (w := q6.1) (k := q6.2) h5) cw_X11_210 (by decide) rfl mk_X11_crossing (o_X11_crossing (w := q6.1) (k := q6.2) h5) (e_R_ok (Nat.le_of_ble_eq_true rfl) (Nat.le_of_ble_eq_true rfl)) ⟨rfl, rfl⟩ (by simp [Value.category]) ?_
        refine X.istore dX11_untangle_105 (Nat.le_of_ble_eq_true rfl) (lc' := [(7, .int q6.1), (0, .ref l0), (2, .int l2), (3, .int l3), (4, .int l4), (5, .int l5), (6, .int l6)]) rfl ?_
        refine X.iload dX11_untangle_107 (j := 4) rfl ?_
        refine X.iconst dX11_untangle_109 kI_m1 ?_
        refine X.icmp_eq dX11_untangle_110 (tgt := 120) rfl (fun hc => ?_) (fun hc => ?_)
        · rw [if_pos hc] at hf
          refine X.sub [1, 2, 3, 4, 5, 6, 0] rfl ?_
          exact x_J_X11_untangle_120 _ ih hf
        · rw [if_neg hc] at hf
          refine X.iload dX11_untangle_113 (j := 0) rfl ?_
          refine X.iload dX11_untangle_115 (j := 5) rfl ?_
          refine X.icmp_ge dX11_untangle_117 (tgt := 124) rfl (fun hc => ?_) (fun hc => ?_)
          · rw [if_pos hc] at hf
            refine X.iconst dX11_untangle_124 kI_0 ?_
            refine X.sub [1, 2, 3, 4, 5, 6, 0] rfl ?_
            exact x_J_X11_untangle_125 _ ih hf
          · rw [if_neg hc] at hf
            refine X.sub [1, 2, 3, 4, 5, 6, 0] rfl ?_
            exact x_J_X11_untangle_120 _ ih hf
theorem x_L_X11_untangle_51 {l : Launch} {D : va_G} {S : e_S} {w : Int32} {k : e_G} : ∀ (n : Nat) (l0 : Nat) (l2 : Int32) (l3 : Int32) (l4 : Int32) (g : e_G), L_X11_untangle_51 n S l0 l2 l3 l4 g = some (w, k) → X l D (e_R 3) M_X11_untangle 0 0 51 [(0, .ref l0), (2, .int l2), (3, .int l3), (4, .int l4)] [] (S, g) (some (.int w)) (S, k) := by
  intro n
  induction n with
  | zero =>
    intro l0 l2 l3 l4 g hf
    cases hf
  | succ n ih =>
    intro l0 l2 l3 l4 g hf
    rw [L_X11_untangle_51] at hf
    refine X.iload dX11_untangle_51 (j := 3) rfl ?_
    refine X.aload_n dX11_untangle_53 rfl (j := 0) rfl ?_
    obtain ⟨v1, h2, hf⟩ := ob hf
    refine Y.getI dX11_untangle_54 fl_X11_244 rfl h2 ?_
    refine X.icmp_ge dX11_untangle_57 (tgt := 73) rfl (fun hc => ?_) (fun hc => ?_)
    · rw [if_pos hc] at hf
      refine X.iconst dX11_untangle_73 kI_m1 ?_
      refine X.istore dX11_untangle_74 (Nat.le_of_ble_eq_true rfl) (lc' := [(4, .int (-1 : Int32)), (0, .ref l0), (2, .int l2), (3, .int l3)]) rfl ?_
      refine X.iconst dX11_untangle_76 kI_0 ?_
      refine X.istore dX11_untangle_77 (Nat.le_of_ble_eq_true rfl) (lc' := [(5, .int (0 : Int32)), (4, .int (-1 : Int32)), (0, .ref l0), (2, .int l2), (3, .int l3)]) rfl ?_
      refine X.aload_n dX11_untangle_79 rfl (j := 2) rfl ?_
      obtain ⟨q4, h3, hf⟩ := ob hf
      refine Y.callV (av := []) (ci := 11) dX11_untangle_80 (c_X11_keepsAll (l := l) (D := D) h3) cw_X11_223 (by decide) rfl mk_X11_keepsAll (o_X11_keepsAll (k := q4) h3) (e_R_ok (Nat.le_of_ble_eq_true rfl) (Nat.le_of_ble_eq_true rfl)) ⟨rfl, rfl⟩ (by simp [Value.category]) ?_
      refine X.iconst dX11_untangle_83 kI_0 ?_
      refine X.istore dX11_untangle_84 (Nat.le_of_ble_eq_true rfl) (lc' := [(6, .int (0 : Int32)), (5, .int (0 : Int32)), (4, .int (-1 : Int32)), (0, .ref l0), (2, .int l2), (3, .int l3)]) rfl ?_
      refine X.sub [3, 4, 5, 2, 1, 0] rfl ?_
      exact x_L_X11_untangle_86 50000 _ _ _ _ _ _ _ hf
    · rw [if_neg hc] at hf
      refine X.iload_n dX11_untangle_60 rfl (j := 2) rfl ?_
      refine X.aload_n dX11_untangle_61 rfl (j := 0) rfl ?_
      obtain ⟨v5, h6, hf⟩ := ob hf
      refine Y.getI dX11_untangle_62 fl_X11_244 rfl h6 ?_
      refine X.imul dX11_untangle_65 ?_
      refine X.istore_n dX11_untangle_66 rfl (Nat.le_of_ble_eq_true rfl) (lc' := [(3, .int (l3 * v5)), (0, .ref l0), (2, .int l2), (4, .int l4)]) rfl ?_
      refine X.iinc (j := 3) dX11_untangle_67 rfl (v := l4 + (1 : Int32)) (by rw [kI_1]) (Nat.le_of_ble_eq_true rfl) (lc' := [(4, .int (l4 + (1 : Int32))), (3, .int (l3 * v5)), (0, .ref l0), (2, .int l2)]) rfl ?_
      refine X.goto dX11_untangle_70 (tgt := 51) rfl ?_
      refine X.sub [2, 3, 1, 0] rfl ?_
      exact ih _ _ _ _ _ hf
theorem o_X11_untangle  {S : e_S} {w : Int32} {k : e_G} {l0 : Nat} {l1 : Int32} {l2 : Int32} {g : e_G} (hf : f_X11_untangle S l0 l1 l2 g = some (w, k)) : e_ob S 11 l0 = true := by
  unfold f_X11_untangle at hf
  by_cases hc : e_ob S 11 l0 = true
  · exact hc
  · rw [if_neg hc] at hf
    cases hf
theorem c_X11_untangle {l : Launch} {D : va_G}  {S : e_S} {w : Int32} {k : e_G} {l0 : Nat} {l1 : Int32} {l2 : Int32} {g : e_G} (hf : f_X11_untangle S l0 l1 l2 g = some (w, k)) : CT l D (e_R 3) M_X11_untangle [.ref l0, .int l1, .int l2] (S, g) (some (.int w)) (S, k) := by
  refine CT.of (by decide +kernel) (Nat.le_of_ble_eq_true rfl) ?_
  have ho := o_X11_untangle hf
  unfold f_X11_untangle at hf
  rw [if_pos ho] at hf
  show X l D (e_R 3) M_X11_untangle 0 0 0 [(0, .ref l0), (1, .int l1), (2, .int l2)] [] (S, g) (some (.int w)) (S, k)
  refine X.iload_n dX11_untangle_0 rfl (j := 1) rfl ?_
  refine X.iconst dX11_untangle_1 kI_0 ?_
  refine X.iconst dX11_untangle_2 kI_1 ?_
  obtain ⟨q2, h1, hf⟩ := ob hf
  refine Y.callS (av := [.int l1, .int (0 : Int32), .int (1 : Int32)]) dX11_untangle_3 (c_X11_in (l := l) (D := D) (w := q2.1) (k := q2.2) h1) cw_X11_78 mk_X11_in (e_R_ok (Nat.le_of_ble_eq_true rfl) (Nat.le_of_ble_eq_true rfl)) ⟨rfl, rfl⟩ (by simp [Value.category]) ?_
  refine X.if_eq dX11_untangle_6 (tgt := 18) rfl (fun hc => ?_) (fun hc => ?_)
  · rw [if_pos hc] at hf
    refine X.bipush dX11_untangle_18 kB_m2 ?_
    obtain ⟨e1, e2⟩ := e_ret hf
    subst e1
    subst e2
    exact X.iret dX11_untangle_20 rfl rfl
  · rw [if_neg hc] at hf
    refine X.iload_n dX11_untangle_9 rfl (j := 2) rfl ?_
    refine X.iconst dX11_untangle_10 kI_0 ?_
    refine X.iconst dX11_untangle_11 kI_1 ?_
    obtain ⟨q4, h3, hf⟩ := ob hf
    refine Y.callS (av := [.int l2, .int (0 : Int32), .int (1 : Int32)]) dX11_untangle_12 (c_X11_in (l := l) (D := D) (w := q4.1) (k := q4.2) h3) cw_X11_78 mk_X11_in (e_R_ok (Nat.le_of_ble_eq_true rfl) (Nat.le_of_ble_eq_true rfl)) ⟨rfl, rfl⟩ (by simp [Value.category]) ?_
    refine X.if_ne dX11_untangle_15 (tgt := 21) rfl (fun hc => ?_) (fun hc => ?_)
    · rw [if_neg hc] at hf
      refine X.aload_n dX11_untangle_21 rfl (j := 0) rfl ?_
      refine X.iload_n dX11_untangle_22 rfl (j := 1) rfl ?_
      obtain ⟨q6, h5, hf⟩ := ob hf
      refine Y.callV (av := [.int l1]) (ci := 11) dX11_untangle_23 (c_X11_tellsSide (l := l) (D := D) h5) cw_X11_250 (by decide) rfl mk_X11_tellsSide (o_X11_tellsSide (k := q6) h5) (e_R_ok (Nat.le_of_ble_eq_true rfl) (Nat.le_of_ble_eq_true rfl)) ⟨rfl, rfl⟩ (by simp [Value.category]) ?_
      refine X.aload_n dX11_untangle_26 rfl (j := 0) rfl ?_
      obtain ⟨v7, h8, hf⟩ := ob hf
      refine Y.getI dX11_untangle_27 fl_X11_244 rfl h8 ?_
      refine X.if_ne dX11_untangle_30 (tgt := 46) rfl (fun hc => ?_) (fun hc => ?_)
      · rw [if_neg hc] at hf
        refine X.iconst dX11_untangle_46 kI_1 ?_
        refine X.istore_n dX11_untangle_47 rfl (Nat.le_of_ble_eq_true rfl) (lc' := [(3, .int (1 : Int32)), (0, .ref l0), (1, .int l1), (2, .int l2)]) rfl ?_
        refine X.iconst dX11_untangle_48 kI_0 ?_
        refine X.istore dX11_untangle_49 (Nat.le_of_ble_eq_true rfl) (lc' := [(4, .int (0 : Int32)), (3, .int (1 : Int32)), (0, .ref l0), (1, .int l1), (2, .int l2)]) rfl ?_
        refine X.sub [2, 4, 1, 0] rfl ?_
        exact x_L_X11_untangle_51 50000 _ _ _ _ _ hf
      · rw [if_pos hc] at hf
        refine X.iload_n dX11_untangle_33 rfl (j := 2) rfl ?_
        refine X.if_ne dX11_untangle_34 (tgt := 41) rfl (fun hc => ?_) (fun hc => ?_)
        · rw [if_neg hc] at hf
          refine X.aload_n dX11_untangle_41 rfl (j := 0) rfl ?_
          obtain ⟨q10, h9, hf⟩ := ob hf
          refine Y.callV (av := []) (ci := 11) dX11_untangle_42 (c_X11_crossing (l := l) (D := D) (w := q10.1) (k := q10.2) h9) cw_X11_210 (by decide) rfl mk_X11_crossing (o_X11_crossing (w := q10.1) (k := q10.2) h9) (e_R_ok (Nat.le_of_ble_eq_true rfl) (Nat.le_of_ble_eq_true rfl)) ⟨rfl, rfl⟩ (by simp [Value.category]) ?_
          obtain ⟨e1, e2⟩ := e_ret hf
          subst e1
          subst e2
          exact X.iret dX11_untangle_45 rfl rfl
        · rw [if_pos hc] at hf
          refine X.iconst dX11_untangle_37 kI_0 ?_
          refine X.goto dX11_untangle_38 (tgt := 45) rfl ?_
          obtain ⟨e1, e2⟩ := e_ret hf
          subst e1
          subst e2
          exact X.iret dX11_untangle_45 rfl rfl
    · rw [if_pos hc] at hf
      refine X.bipush dX11_untangle_18 kB_m2 ?_
      obtain ⟨e1, e2⟩ := e_ret hf
      subst e1
      subst e2
      exact X.iret dX11_untangle_20 rfl rfl
/-! LeanedOutModel.lowest(JJI)J -/
abbrev M_X11_lowest : e_M := (yX11_lowest, cX11_lowest, 11, (some .long))
theorem mk_X11_lowest : e_Mok M_X11_lowest 3 := ⟨by decide +kernel, by decide +kernel, by decide +kernel⟩
theorem dX11_lowest_0 : decode cX11_lowest 0 = .ok (.lload_n 0, 1) := by decide +kernel
theorem dX11_lowest_1 : decode cX11_lowest 1 = .ok (.lconst 0, 1) := by decide +kernel
theorem dX11_lowest_2 : decode cX11_lowest 2 = .ok (.lcmp, 1) := by decide +kernel
theorem dX11_lowest_3 : decode cX11_lowest 3 = .ok (.ifCond .ne 7, 3) := by decide +kernel
theorem dX11_lowest_6 : decode cX11_lowest 6 = .ok (.iload 4, 2) := by decide +kernel
theorem dX11_lowest_8 : decode cX11_lowest 8 = .ok (.i2l, 1) := by decide +kernel
theorem dX11_lowest_9 : decode cX11_lowest 9 = .ok (.lreturn, 1) := by decide +kernel
theorem dX11_lowest_10 : decode cX11_lowest 10 = .ok (.lload_n 0, 1) := by decide +kernel
theorem dX11_lowest_11 : decode cX11_lowest 11 = .ok (.lstore 5, 2) := by decide +kernel
theorem dX11_lowest_13 : decode cX11_lowest 13 = .ok (.lload_n 2, 1) := by decide +kernel
theorem dX11_lowest_14 : decode cX11_lowest 14 = .ok (.lstore 7, 2) := by decide +kernel
theorem dX11_lowest_16 : decode cX11_lowest 16 = .ok (.lload 7, 2) := by decide +kernel
theorem dX11_lowest_18 : decode cX11_lowest 18 = .ok (.lconst 0, 1) := by decide +kernel
theorem dX11_lowest_19 : decode cX11_lowest 19 = .ok (.lcmp, 1) := by decide +kernel
theorem dX11_lowest_20 : decode cX11_lowest 20 = .ok (.ifCond .eq 21, 3) := by decide +kernel
theorem dX11_lowest_23 : decode cX11_lowest 23 = .ok (.lload 5, 2) := by decide +kernel
theorem dX11_lowest_25 : decode cX11_lowest 25 = .ok (.lload 7, 2) := by decide +kernel
theorem dX11_lowest_27 : decode cX11_lowest 27 = .ok (.lrem, 1) := by decide +kernel
theorem dX11_lowest_28 : decode cX11_lowest 28 = .ok (.lstore 9, 2) := by decide +kernel
theorem dX11_lowest_30 : decode cX11_lowest 30 = .ok (.lload 7, 2) := by decide +kernel
theorem dX11_lowest_32 : decode cX11_lowest 32 = .ok (.lstore 5, 2) := by decide +kernel
theorem dX11_lowest_34 : decode cX11_lowest 34 = .ok (.lload 9, 2) := by decide +kernel
theorem dX11_lowest_36 : decode cX11_lowest 36 = .ok (.lstore 7, 2) := by decide +kernel
theorem dX11_lowest_38 : decode cX11_lowest 38 = .ok (.goto (-22), 3) := by decide +kernel
theorem dX11_lowest_41 : decode cX11_lowest 41 = .ok (.iload 4, 2) := by decide +kernel
theorem dX11_lowest_43 : decode cX11_lowest 43 = .ok (.ifCond .ne 7, 3) := by decide +kernel
theorem dX11_lowest_46 : decode cX11_lowest 46 = .ok (.lload_n 0, 1) := by decide +kernel
theorem dX11_lowest_47 : decode cX11_lowest 47 = .ok (.goto 4, 3) := by decide +kernel
theorem dX11_lowest_50 : decode cX11_lowest 50 = .ok (.lload_n 2, 1) := by decide +kernel
theorem dX11_lowest_51 : decode cX11_lowest 51 = .ok (.lload 5, 2) := by decide +kernel
theorem dX11_lowest_53 : decode cX11_lowest 53 = .ok (.ldiv, 1) := by decide +kernel
theorem dX11_lowest_54 : decode cX11_lowest 54 = .ok (.lreturn, 1) := by decide +kernel
def L_X11_lowest_16 : Nat → e_S → Int64 → Int64 → Int32 → Int64 → Int64 → e_G → Option (Int64 × e_G)
  | 0, _, _, _, _, _, _, _ => none
  | n + 1, S, l0, l2, l4, l5, l7, g =>
  if (lg_cmp l7 (0 : Int64)) = 0 then
    if l4 = 0 then
      if l5 = 0 then none else
      some (l0 / l5, g)
    else
      if l5 = 0 then none else
      some (l2 / l5, g)
  else
    if l7 = 0 then none else
    L_X11_lowest_16 n S l0 l2 l4 l7 (l_rem l5 l7) g
def f_X11_lowest (S : e_S) (l0 : Int64) (l2 : Int64) (l4 : Int32) (g : e_G) : Option (Int64 × e_G) :=
  if (lg_cmp l0 (0 : Int64)) = 0 then
    some (l4.toInt64, g)
  else
    L_X11_lowest_16 50000 S l0 l2 l4 l0 l2 g
theorem x_L_X11_lowest_16 {l : Launch} {D : va_G} {S : e_S} {w : Int64} {k : e_G} : ∀ (n : Nat) (l0 : Int64) (l2 : Int64) (l4 : Int32) (l5 : Int64) (l7 : Int64) (g : e_G), L_X11_lowest_16 n S l0 l2 l4 l5 l7 g = some (w, k) → X l D (e_R 1) M_X11_lowest 0 0 16 [(0, .long l0), (2, .long l2), (4, .int l4), (5, .long l5), (7, .long l7)] [] (S, g) (some (.long w)) (S, k) := by
  intro n
  induction n with
  | zero =>
    intro l0 l2 l4 l5 l7 g hf
    cases hf
  | succ n ih =>
    intro l0 l2 l4 l5 l7 g hf
    rw [L_X11_lowest_16] at hf
    refine X.lload dX11_lowest_16 (j := 4) rfl ?_
    refine X.lconst dX11_lowest_18 (v := (0 : Int64)) rfl ?_
    refine X.lcmp dX11_lowest_19 ?_
    refine X.if_eq dX11_lowest_20 (tgt := 41) rfl (fun hc => ?_) (fun hc => ?_)
    · rw [if_pos hc] at hf
      refine X.iload dX11_lowest_41 (j := 2) rfl ?_
      refine X.if_ne dX11_lowest_43 (tgt := 50) rfl (fun hc => ?_) (fun hc => ?_)
      · rw [if_neg hc] at hf
        refine X.lload_n dX11_lowest_50 rfl (j := 1) rfl ?_
        refine X.lload dX11_lowest_51 (j := 3) rfl ?_
        by_cases h1 : l5 = 0
        · rw [if_pos h1] at hf
          cases hf
        rw [if_neg h1] at hf
        refine X.ldiv dX11_lowest_53 h1 ?_
        obtain ⟨e1, e2⟩ := e_ret hf
        subst e1
        subst e2
        exact X.lret dX11_lowest_54 rfl
      · rw [if_pos hc] at hf
        refine X.lload_n dX11_lowest_46 rfl (j := 0) rfl ?_
        refine X.goto dX11_lowest_47 (tgt := 51) rfl ?_
        refine X.lload dX11_lowest_51 (j := 3) rfl ?_
        by_cases h2 : l5 = 0
        · rw [if_pos h2] at hf
          cases hf
        rw [if_neg h2] at hf
        refine X.ldiv dX11_lowest_53 h2 ?_
        obtain ⟨e1, e2⟩ := e_ret hf
        subst e1
        subst e2
        exact X.lret dX11_lowest_54 rfl
    · rw [if_neg hc] at hf
      refine X.lload dX11_lowest_23 (j := 3) rfl ?_
      refine X.lload dX11_lowest_25 (j := 4) rfl ?_
      by_cases h3 : l7 = 0
      · rw [if_pos h3] at hf
        cases hf
      rw [if_neg h3] at hf
      refine Y.lrem dX11_lowest_27 h3 ?_
      refine X.lstore dX11_lowest_28 (Nat.le_of_ble_eq_true rfl) (lc' := [(9, .long (l_rem l5 l7)), (0, .long l0), (2, .long l2), (4, .int l4), (5, .long l5), (7, .long l7)]) rfl ?_
      refine X.lload dX11_lowest_30 (j := 5) rfl ?_
      refine X.lstore dX11_lowest_32 (Nat.le_of_ble_eq_true rfl) (lc' := [(5, .long l7), (9, .long (l_rem l5 l7)), (0, .long l0), (2, .long l2), (4, .int l4), (7, .long l7)]) rfl ?_
      refine X.lload dX11_lowest_34 (j := 1) rfl ?_
      refine X.lstore dX11_lowest_36 (Nat.le_of_ble_eq_true rfl) (lc' := [(7, .long (l_rem l5 l7)), (5, .long l7), (9, .long (l_rem l5 l7)), (0, .long l0), (2, .long l2), (4, .int l4)]) rfl ?_
      refine X.goto dX11_lowest_38 (tgt := 16) rfl ?_
      refine X.sub [3, 4, 5, 1, 0] rfl ?_
      exact ih _ _ _ _ _ _ hf
theorem c_X11_lowest {l : Launch} {D : va_G}  {S : e_S} {w : Int64} {k : e_G} {l0 : Int64} {l2 : Int64} {l4 : Int32} {g : e_G} (hf : f_X11_lowest S l0 l2 l4 g = some (w, k)) : CT l D (e_R 1) M_X11_lowest [.long l0, .long l2, .int l4] (S, g) (some (.long w)) (S, k) := by
  refine CT.of (by decide +kernel) (Nat.le_of_ble_eq_true rfl) ?_
  unfold f_X11_lowest at hf
  show X l D (e_R 1) M_X11_lowest 0 0 0 [(0, .long l0), (2, .long l2), (4, .int l4)] [] (S, g) (some (.long w)) (S, k)
  refine X.lload_n dX11_lowest_0 rfl (j := 0) rfl ?_
  refine X.lconst dX11_lowest_1 (v := (0 : Int64)) rfl ?_
  refine X.lcmp dX11_lowest_2 ?_
  refine X.if_ne dX11_lowest_3 (tgt := 10) rfl (fun hc => ?_) (fun hc => ?_)
  · rw [if_neg hc] at hf
    refine X.lload_n dX11_lowest_10 rfl (j := 0) rfl ?_
    refine X.lstore dX11_lowest_11 (Nat.le_of_ble_eq_true rfl) (lc' := [(5, .long l0), (0, .long l0), (2, .long l2), (4, .int l4)]) rfl ?_
    refine X.lload_n dX11_lowest_13 rfl (j := 2) rfl ?_
    refine X.lstore dX11_lowest_14 (Nat.le_of_ble_eq_true rfl) (lc' := [(7, .long l2), (5, .long l0), (0, .long l0), (2, .long l2), (4, .int l4)]) rfl ?_
    refine X.sub [2, 3, 4, 1, 0] rfl ?_
    exact x_L_X11_lowest_16 50000 _ _ _ _ _ _ hf
  · rw [if_pos hc] at hf
    refine X.iload dX11_lowest_6 (j := 2) rfl ?_
    refine X.i2l dX11_lowest_8 ?_
    obtain ⟨e1, e2⟩ := e_ret hf
    subst e1
    subst e2
    exact X.lret dX11_lowest_9 rfl
/-! LeanedOutModel.strain(II)J -/
abbrev M_X11_strain : e_M := (yX11_strain, cX11_strain, 4, (some .long))
theorem mk_X11_strain : e_Mok M_X11_strain 2 := ⟨by decide +kernel, by decide +kernel, by decide +kernel⟩
theorem dX11_strain_0 : decode cX11_strain 0 = .ok (.aload_n 0, 1) := by decide +kernel
theorem dX11_strain_1 : decode cX11_strain 1 = .ok (.iload_n 1, 1) := by decide +kernel
theorem dX11_strain_2 : decode cX11_strain 2 = .ok (.invokevirtual 179, 3) := by decide +kernel
theorem dX11_strain_5 : decode cX11_strain 5 = .ok (.ifCond .eq 12, 3) := by decide +kernel
theorem dX11_strain_8 : decode cX11_strain 8 = .ok (.iload_n 2, 1) := by decide +kernel
theorem dX11_strain_9 : decode cX11_strain 9 = .ok (.iconst 0, 1) := by decide +kernel
theorem dX11_strain_10 : decode cX11_strain 10 = .ok (.iconst 1, 1) := by decide +kernel
theorem dX11_strain_11 : decode cX11_strain 11 = .ok (.invokestatic 78, 3) := by decide +kernel
theorem dX11_strain_14 : decode cX11_strain 14 = .ok (.ifCond .ne 7, 3) := by decide +kernel
theorem dX11_strain_17 : decode cX11_strain 17 = .ok (.ldc2_w 256, 3) := by decide +kernel
theorem dX11_strain_20 : decode cX11_strain 20 = .ok (.lreturn, 1) := by decide +kernel
theorem dX11_strain_21 : decode cX11_strain 21 = .ok (.aload_n 0, 1) := by decide +kernel
theorem dX11_strain_22 : decode cX11_strain 22 = .ok (.iload_n 1, 1) := by decide +kernel
theorem dX11_strain_23 : decode cX11_strain 23 = .ok (.invokevirtual 198, 3) := by decide +kernel
theorem dX11_strain_26 : decode cX11_strain 26 = .ok (.istore_n 3, 1) := by decide +kernel
theorem dX11_strain_27 : decode cX11_strain 27 = .ok (.iload_n 3, 1) := by decide +kernel
theorem dX11_strain_28 : decode cX11_strain 28 = .ok (.ifCond .ne 9, 3) := by decide +kernel
theorem dX11_strain_31 : decode cX11_strain 31 = .ok (.ldc2_w 256, 3) := by decide +kernel
theorem dX11_strain_34 : decode cX11_strain 34 = .ok (.goto 20, 3) := by decide +kernel
theorem dX11_strain_37 : decode cX11_strain 37 = .ok (.aload_n 0, 1) := by decide +kernel
theorem dX11_strain_38 : decode cX11_strain 38 = .ok (.getfield 16, 3) := by decide +kernel
theorem dX11_strain_41 : decode cX11_strain 41 = .ok (.iconst 4, 1) := by decide +kernel
theorem dX11_strain_42 : decode cX11_strain 42 = .ok (.iload_n 1, 1) := by decide +kernel
theorem dX11_strain_43 : decode cX11_strain 43 = .ok (.imul, 1) := by decide +kernel
theorem dX11_strain_44 : decode cX11_strain 44 = .ok (.iconst 2, 1) := by decide +kernel
theorem dX11_strain_45 : decode cX11_strain 45 = .ok (.iadd, 1) := by decide +kernel
theorem dX11_strain_46 : decode cX11_strain 46 = .ok (.iaload, 1) := by decide +kernel
theorem dX11_strain_47 : decode cX11_strain 47 = .ok (.i2l, 1) := by decide +kernel
theorem dX11_strain_48 : decode cX11_strain 48 = .ok (.iload_n 3, 1) := by decide +kernel
theorem dX11_strain_49 : decode cX11_strain 49 = .ok (.i2l, 1) := by decide +kernel
theorem dX11_strain_50 : decode cX11_strain 50 = .ok (.iload_n 2, 1) := by decide +kernel
theorem dX11_strain_51 : decode cX11_strain 51 = .ok (.invokestatic 258, 3) := by decide +kernel
theorem dX11_strain_54 : decode cX11_strain 54 = .ok (.lreturn, 1) := by decide +kernel
def f_X11_strain (S : e_S) (l0 : Nat) (l1 : Int32) (l2 : Int32) (g : e_G) : Option (Int64 × e_G) :=
  if e_ob S 11 l0 = true then
    (f_X11_isOne S l0 l1 g).bind fun q2 =>
    if q2.1 = 0 then
      some ((-4611686018427387904 : Int64), q2.2)
    else
      (f_X11_in S l2 (0 : Int32) (1 : Int32) q2.2).bind fun q4 =>
      if q4.1 = 0 then
        some ((-4611686018427387904 : Int64), q4.2)
      else
        (f_X11_holdsOf S l0 l1 q4.2).bind fun q6 =>
        if q6.1 = 0 then
          some ((-4611686018427387904 : Int64), q6.2)
        else
          (e_gR S q6.2 11 l0 3).bind fun v7 =>
          (e_aI S q6.2 0 v7 (((4 : Int32) * l1) + (2 : Int32))).bind fun v9 =>
          (f_X11_lowest S v9.toInt64 q6.1.toInt64 l2 q6.2).bind fun q12 =>
          some (q12.1, q12.2)
  else none
theorem o_X11_strain  {S : e_S} {w : Int64} {k : e_G} {l0 : Nat} {l1 : Int32} {l2 : Int32} {g : e_G} (hf : f_X11_strain S l0 l1 l2 g = some (w, k)) : e_ob S 11 l0 = true := by
  unfold f_X11_strain at hf
  by_cases hc : e_ob S 11 l0 = true
  · exact hc
  · rw [if_neg hc] at hf
    cases hf
theorem c_X11_strain {l : Launch} {D : va_G}  {S : e_S} {w : Int64} {k : e_G} {l0 : Nat} {l1 : Int32} {l2 : Int32} {g : e_G} (hf : f_X11_strain S l0 l1 l2 g = some (w, k)) : CT l D (e_R 5) M_X11_strain [.ref l0, .int l1, .int l2] (S, g) (some (.long w)) (S, k) := by
  refine CT.of (by decide +kernel) (Nat.le_of_ble_eq_true rfl) ?_
  have ho := o_X11_strain hf
  unfold f_X11_strain at hf
  rw [if_pos ho] at hf
  show X l D (e_R 5) M_X11_strain 0 0 0 [(0, .ref l0), (1, .int l1), (2, .int l2)] [] (S, g) (some (.long w)) (S, k)
  refine X.aload_n dX11_strain_0 rfl (j := 0) rfl ?_
  refine X.iload_n dX11_strain_1 rfl (j := 1) rfl ?_
  obtain ⟨q2, h1, hf⟩ := ob hf
  refine Y.callV (av := [.int l1]) (ci := 11) dX11_strain_2 (c_X11_isOne (l := l) (D := D) (w := q2.1) (k := q2.2) h1) cw_X11_179 (by decide) rfl mk_X11_isOne (o_X11_isOne (w := q2.1) (k := q2.2) h1) (e_R_ok (Nat.le_of_ble_eq_true rfl) (Nat.le_of_ble_eq_true rfl)) ⟨rfl, rfl⟩ (by simp [Value.category]) ?_
  refine X.if_eq dX11_strain_5 (tgt := 17) rfl (fun hc => ?_) (fun hc => ?_)
  · rw [if_pos hc] at hf
    refine X.ldc2 dX11_strain_17 ww_1275 ?_
    obtain ⟨e1, e2⟩ := e_ret hf
    subst e1
    subst e2
    exact X.lret dX11_strain_20 rfl
  · rw [if_neg hc] at hf
    refine X.iload_n dX11_strain_8 rfl (j := 2) rfl ?_
    refine X.iconst dX11_strain_9 kI_0 ?_
    refine X.iconst dX11_strain_10 kI_1 ?_
    obtain ⟨q4, h3, hf⟩ := ob hf
    refine Y.callS (av := [.int l2, .int (0 : Int32), .int (1 : Int32)]) dX11_strain_11 (c_X11_in (l := l) (D := D) (w := q4.1) (k := q4.2) h3) cw_X11_78 mk_X11_in (e_R_ok (Nat.le_of_ble_eq_true rfl) (Nat.le_of_ble_eq_true rfl)) ⟨rfl, rfl⟩ (by simp [Value.category]) ?_
    refine X.if_ne dX11_strain_14 (tgt := 21) rfl (fun hc => ?_) (fun hc => ?_)
    · rw [if_neg hc] at hf
      refine X.aload_n dX11_strain_21 rfl (j := 0) rfl ?_
      refine X.iload_n dX11_strain_22 rfl (j := 1) rfl ?_
      obtain ⟨q6, h5, hf⟩ := ob hf
      refine Y.callV (av := [.int l1]) (ci := 11) dX11_strain_23 (c_X11_holdsOf (l := l) (D := D) (w := q6.1) (k := q6.2) h5) cw_X11_198 (by decide) rfl mk_X11_holdsOf (o_X11_holdsOf (w := q6.1) (k := q6.2) h5) (e_R_ok (Nat.le_of_ble_eq_true rfl) (Nat.le_of_ble_eq_true rfl)) ⟨rfl, rfl⟩ (by simp [Value.category]) ?_
      refine X.istore_n dX11_strain_26 rfl (Nat.le_of_ble_eq_true rfl) (lc' := [(3, .int q6.1), (0, .ref l0), (1, .int l1), (2, .int l2)]) rfl ?_
      refine X.iload_n dX11_strain_27 rfl (j := 0) rfl ?_
      refine X.if_ne dX11_strain_28 (tgt := 37) rfl (fun hc => ?_) (fun hc => ?_)
      · rw [if_neg hc] at hf
        refine X.aload_n dX11_strain_37 rfl (j := 1) rfl ?_
        obtain ⟨v7, h8, hf⟩ := ob hf
        refine Y.getR dX11_strain_38 fl_X11_16 rfl h8 ?_
        refine X.iconst dX11_strain_41 kI_4 ?_
        refine X.iload_n dX11_strain_42 rfl (j := 2) rfl ?_
        refine X.imul dX11_strain_43 ?_
        refine X.iconst dX11_strain_44 kI_2 ?_
        refine X.iadd dX11_strain_45 ?_
        obtain ⟨v9, h10, hf⟩ := ob hf
        refine Y.iald dX11_strain_46 h10 ?_
        refine X.i2l dX11_strain_47 ?_
        refine X.iload_n dX11_strain_48 rfl (j := 0) rfl ?_
        refine X.i2l dX11_strain_49 ?_
        refine X.iload_n dX11_strain_50 rfl (j := 3) rfl ?_
        obtain ⟨q12, h11, hf⟩ := ob hf
        refine Y.callS (av := [.long v9.toInt64, .long q6.1.toInt64, .int l2]) dX11_strain_51 (c_X11_lowest (l := l) (D := D) (w := q12.1) (k := q12.2) h11) cw_X11_258 mk_X11_lowest (e_R_ok (Nat.le_of_ble_eq_true rfl) (Nat.le_of_ble_eq_true rfl)) ⟨rfl, rfl⟩ (by simp [Value.category]) ?_
        obtain ⟨e1, e2⟩ := e_ret hf
        subst e1
        subst e2
        exact X.lret dX11_strain_54 rfl
      · rw [if_pos hc] at hf
        refine X.ldc2 dX11_strain_31 ww_1275 ?_
        refine X.goto dX11_strain_34 (tgt := 54) rfl ?_
        obtain ⟨e1, e2⟩ := e_ret hf
        subst e1
        subst e2
        exact X.lret dX11_strain_54 rfl
    · rw [if_pos hc] at hf
      refine X.ldc2 dX11_strain_17 ww_1275 ?_
      obtain ⟨e1, e2⟩ := e_ret hf
      subst e1
      subst e2
      exact X.lret dX11_strain_20 rfl
