theorem kS_1999 : (Int16.ofInt (1999)).toInt32 = (1999 : Int32) := by decide +kernel
theorem fl_X11_52 : e_FL RX11 52 11 27 := ⟨⟨by decide, by decide⟩, bw (i := 988) (by decide +kernel) rfl⟩
theorem fl_X11_55 : e_FL RX11 55 11 28 := ⟨⟨by decide, by decide⟩, bw (i := 989) (by decide +kernel) rfl⟩
theorem ww_1121 : Cond.methodLink RX11 157 yX11_two ∈ e_big := bw (i := 1121) (by decide +kernel) rfl
theorem ww_1122 : Cond.static yX11_two ∈ e_big := bw (i := 1122) (by decide +kernel) rfl
theorem ww_1123 : Cond.code yX11_two cX11_two 3 (some .int) ∈ e_big := bw (i := 1123) (by decide +kernel) rfl
theorem cw_X11_157 : ∀ w ∈ va_wsS RX11 157 yX11_two [Cond.code yX11_two cX11_two 3 (some .int)], w ∈ e_big := e_all4 ww_1121 ww_1122 ww_89 ww_1123
theorem ww_1106 : Cond.methodLink RX11 161 yX11_farOf ∈ e_big := bw (i := 1106) (by decide +kernel) rfl
theorem ww_1107 : Cond.static yX11_farOf ∈ e_big := bw (i := 1107) (by decide +kernel) rfl
theorem ww_1108 : Cond.code yX11_farOf cX11_farOf 3 (some .int) ∈ e_big := bw (i := 1108) (by decide +kernel) rfl
theorem cw_X11_161 : ∀ w ∈ va_wsS RX11 161 yX11_farOf [Cond.code yX11_farOf cX11_farOf 3 (some .int)], w ∈ e_big := e_all4 ww_1106 ww_1107 ww_89 ww_1108
theorem ww_1134 : Cond.methodLink RX11 164 yX11_whoAt ∈ e_big := bw (i := 1134) (by decide +kernel) rfl
theorem ww_1136 : Cond.instanceMethod yX11_whoAt ∈ e_big := bw (i := 1136) (by decide +kernel) rfl
theorem ww_47 : Cond.selects RX11 yX11_whoAt yX11_whoAt ∈ e_big := bw (i := 47) (by decide +kernel) rfl
theorem ww_1137 : Cond.code yX11_whoAt cX11_whoAt 3 (some .int) ∈ e_big := bw (i := 1137) (by decide +kernel) rfl
theorem cw_X11_164 : ∀ w ∈ wsV RX11 164 RX11 yX11_whoAt [Cond.code yX11_whoAt cX11_whoAt 3 (some .int)], w ∈ e_big := e_all5 ww_1134 ww_1136 ww_47 ww_89 ww_1137
theorem ww_1124 : Cond.methodLink RX11 167 yX11_within ∈ e_big := bw (i := 1124) (by decide +kernel) rfl
theorem ww_1125 : Cond.static yX11_within ∈ e_big := bw (i := 1125) (by decide +kernel) rfl
theorem ww_1126 : Cond.code yX11_within cX11_within 3 (some .int) ∈ e_big := bw (i := 1126) (by decide +kernel) rfl
theorem cw_X11_167 : ∀ w ∈ va_wsS RX11 167 yX11_within [Cond.code yX11_within cX11_within 3 (some .int)], w ∈ e_big := e_all4 ww_1124 ww_1125 ww_89 ww_1126
theorem ww_1109 : Cond.methodLink RX11 170 yX11_besideOf ∈ e_big := bw (i := 1109) (by decide +kernel) rfl
theorem ww_1111 : Cond.instanceMethod yX11_besideOf ∈ e_big := bw (i := 1111) (by decide +kernel) rfl
theorem ww_44 : Cond.selects RX11 yX11_besideOf yX11_besideOf ∈ e_big := bw (i := 44) (by decide +kernel) rfl
theorem ww_1112 : Cond.code yX11_besideOf cX11_besideOf 6 (some .int) ∈ e_big := bw (i := 1112) (by decide +kernel) rfl
theorem cw_X11_170 : ∀ w ∈ wsV RX11 170 RX11 yX11_besideOf [Cond.code yX11_besideOf cX11_besideOf 6 (some .int)], w ∈ e_big := e_all5 ww_1109 ww_1111 ww_44 ww_89 ww_1112
theorem ww_1113 : Cond.methodLink RX11 173 yX11_lookersOf ∈ e_big := bw (i := 1113) (by decide +kernel) rfl
theorem ww_1115 : Cond.instanceMethod yX11_lookersOf ∈ e_big := bw (i := 1115) (by decide +kernel) rfl
theorem ww_45 : Cond.selects RX11 yX11_lookersOf yX11_lookersOf ∈ e_big := bw (i := 45) (by decide +kernel) rfl
theorem ww_1116 : Cond.code yX11_lookersOf cX11_lookersOf 4 (some .int) ∈ e_big := bw (i := 1116) (by decide +kernel) rfl
theorem cw_X11_173 : ∀ w ∈ wsV RX11 173 RX11 yX11_lookersOf [Cond.code yX11_lookersOf cX11_lookersOf 4 (some .int)], w ∈ e_big := e_all5 ww_1113 ww_1115 ww_45 ww_89 ww_1116
theorem fl_X11_13 : e_FL RX11 13 11 2 := ⟨⟨by decide, by decide⟩, bw (i := 963) (by decide +kernel) rfl⟩
theorem ww_1117 : Cond.methodLink RX11 176 yX11_says ∈ e_big := bw (i := 1117) (by decide +kernel) rfl
theorem ww_1119 : Cond.instanceMethod yX11_says ∈ e_big := bw (i := 1119) (by decide +kernel) rfl
theorem ww_46 : Cond.selects RX11 yX11_says yX11_says ∈ e_big := bw (i := 46) (by decide +kernel) rfl
theorem ww_1120 : Cond.code yX11_says cX11_says 5 (some .int) ∈ e_big := bw (i := 1120) (by decide +kernel) rfl
theorem cw_X11_176 : ∀ w ∈ wsV RX11 176 RX11 yX11_says [Cond.code yX11_says cX11_says 5 (some .int)], w ∈ e_big := e_all5 ww_1117 ww_1119 ww_46 ww_89 ww_1120
theorem ww_1098 : Cond.methodLink RX11 179 yX11_isOne ∈ e_big := bw (i := 1098) (by decide +kernel) rfl
theorem ww_1100 : Cond.instanceMethod yX11_isOne ∈ e_big := bw (i := 1100) (by decide +kernel) rfl
theorem ww_42 : Cond.selects RX11 yX11_isOne yX11_isOne ∈ e_big := bw (i := 42) (by decide +kernel) rfl
theorem ww_1101 : Cond.code yX11_isOne cX11_isOne 2 (some .boolean) ∈ e_big := bw (i := 1101) (by decide +kernel) rfl
theorem cw_X11_179 : ∀ w ∈ wsV RX11 179 RX11 yX11_isOne [Cond.code yX11_isOne cX11_isOne 2 (some .boolean)], w ∈ e_big := e_all5 ww_1098 ww_1100 ww_42 ww_89 ww_1101
theorem ww_1102 : Cond.methodLink RX11 182 yX11_asksOf ∈ e_big := bw (i := 1102) (by decide +kernel) rfl
theorem ww_1104 : Cond.instanceMethod yX11_asksOf ∈ e_big := bw (i := 1104) (by decide +kernel) rfl
theorem ww_43 : Cond.selects RX11 yX11_asksOf yX11_asksOf ∈ e_big := bw (i := 43) (by decide +kernel) rfl
theorem ww_1105 : Cond.code yX11_asksOf cX11_asksOf 3 (some .int) ∈ e_big := bw (i := 1105) (by decide +kernel) rfl
theorem cw_X11_182 : ∀ w ∈ wsV RX11 182 RX11 yX11_asksOf [Cond.code yX11_asksOf cX11_asksOf 3 (some .int)], w ∈ e_big := e_all5 ww_1102 ww_1104 ww_43 ww_89 ww_1105
theorem fl_X11_7 : e_FL RX11 7 11 1 := ⟨⟨by decide, by decide⟩, bw (i := 962) (by decide +kernel) rfl⟩
theorem ww_1131 : Cond.methodLink RX11 185 yX11_areAcross ∈ e_big := bw (i := 1131) (by decide +kernel) rfl
theorem ww_1132 : Cond.static yX11_areAcross ∈ e_big := bw (i := 1132) (by decide +kernel) rfl
theorem ww_1133 : Cond.code yX11_areAcross cX11_areAcross 2 (some .boolean) ∈ e_big := bw (i := 1133) (by decide +kernel) rfl
theorem cw_X11_185 : ∀ w ∈ va_wsS RX11 185 yX11_areAcross [Cond.code yX11_areAcross cX11_areAcross 2 (some .boolean)], w ∈ e_big := e_all4 ww_1131 ww_1132 ww_89 ww_1133
theorem ww_1142 : Cond.methodLink RX11 189 yX11_mayBeAt ∈ e_big := bw (i := 1142) (by decide +kernel) rfl
theorem ww_1144 : Cond.instanceMethod yX11_mayBeAt ∈ e_big := bw (i := 1144) (by decide +kernel) rfl
theorem ww_48 : Cond.selects RX11 yX11_mayBeAt yX11_mayBeAt ∈ e_big := bw (i := 48) (by decide +kernel) rfl
theorem ww_1145 : Cond.code yX11_mayBeAt cX11_mayBeAt 4 (some .boolean) ∈ e_big := bw (i := 1145) (by decide +kernel) rfl
theorem cw_X11_189 : ∀ w ∈ wsV RX11 189 RX11 yX11_mayBeAt [Cond.code yX11_mayBeAt cX11_mayBeAt 4 (some .boolean)], w ∈ e_big := e_all5 ww_1142 ww_1144 ww_48 ww_89 ww_1145
theorem ww_1154 : Cond.methodLink RX11 192 yX11_isMet ∈ e_big := bw (i := 1154) (by decide +kernel) rfl
theorem ww_1156 : Cond.instanceMethod yX11_isMet ∈ e_big := bw (i := 1156) (by decide +kernel) rfl
theorem ww_50 : Cond.selects RX11 yX11_isMet yX11_isMet ∈ e_big := bw (i := 50) (by decide +kernel) rfl
theorem ww_1157 : Cond.code yX11_isMet cX11_isMet 3 (some .boolean) ∈ e_big := bw (i := 1157) (by decide +kernel) rfl
theorem cw_X11_192 : ∀ w ∈ wsV RX11 192 RX11 yX11_isMet [Cond.code yX11_isMet cX11_isMet 3 (some .boolean)], w ∈ e_big := e_all5 ww_1154 ww_1156 ww_50 ww_89 ww_1157
theorem ww_1150 : Cond.methodLink RX11 195 yX11_leansOf ∈ e_big := bw (i := 1150) (by decide +kernel) rfl
theorem ww_1152 : Cond.instanceMethod yX11_leansOf ∈ e_big := bw (i := 1152) (by decide +kernel) rfl
theorem ww_49 : Cond.selects RX11 yX11_leansOf yX11_leansOf ∈ e_big := bw (i := 49) (by decide +kernel) rfl
theorem ww_1153 : Cond.code yX11_leansOf cX11_leansOf 5 (some .int) ∈ e_big := bw (i := 1153) (by decide +kernel) rfl
theorem cw_X11_195 : ∀ w ∈ wsV RX11 195 RX11 yX11_leansOf [Cond.code yX11_leansOf cX11_leansOf 5 (some .int)], w ∈ e_big := e_all5 ww_1150 ww_1152 ww_49 ww_89 ww_1153
theorem ww_1158 : Cond.methodLink RX11 198 yX11_holdsOf ∈ e_big := bw (i := 1158) (by decide +kernel) rfl
theorem ww_1160 : Cond.instanceMethod yX11_holdsOf ∈ e_big := bw (i := 1160) (by decide +kernel) rfl
theorem ww_51 : Cond.selects RX11 yX11_holdsOf yX11_holdsOf ∈ e_big := bw (i := 51) (by decide +kernel) rfl
theorem ww_1161 : Cond.code yX11_holdsOf cX11_holdsOf 3 (some .int) ∈ e_big := bw (i := 1161) (by decide +kernel) rfl
theorem cw_X11_198 : ∀ w ∈ wsV RX11 198 RX11 yX11_holdsOf [Cond.code yX11_holdsOf cX11_holdsOf 3 (some .int)], w ∈ e_big := e_all5 ww_1158 ww_1160 ww_51 ww_89 ww_1161
theorem ww_1162 : Cond.methodLink RX11 201 yX11_mindsOf ∈ e_big := bw (i := 1162) (by decide +kernel) rfl
theorem ww_1164 : Cond.instanceMethod yX11_mindsOf ∈ e_big := bw (i := 1164) (by decide +kernel) rfl
theorem ww_52 : Cond.selects RX11 yX11_mindsOf yX11_mindsOf ∈ e_big := bw (i := 52) (by decide +kernel) rfl
theorem ww_1165 : Cond.code yX11_mindsOf cX11_mindsOf 4 (some .int) ∈ e_big := bw (i := 1165) (by decide +kernel) rfl
theorem cw_X11_201 : ∀ w ∈ wsV RX11 201 RX11 yX11_mindsOf [Cond.code yX11_mindsOf cX11_mindsOf 4 (some .int)], w ∈ e_big := e_all5 ww_1162 ww_1164 ww_52 ww_89 ww_1165
theorem ww_1178 : Cond.methodLink RX11 204 yX11_endOn ∈ e_big := bw (i := 1178) (by decide +kernel) rfl
theorem ww_1180 : Cond.instanceMethod yX11_endOn ∈ e_big := bw (i := 1180) (by decide +kernel) rfl
theorem ww_55 : Cond.selects RX11 yX11_endOn yX11_endOn ∈ e_big := bw (i := 55) (by decide +kernel) rfl
theorem ww_1181 : Cond.code yX11_endOn cX11_endOn 3 (some .int) ∈ e_big := bw (i := 1181) (by decide +kernel) rfl
theorem cw_X11_204 : ∀ w ∈ wsV RX11 204 RX11 yX11_endOn [Cond.code yX11_endOn cX11_endOn 3 (some .int)], w ∈ e_big := e_all5 ww_1178 ww_1180 ww_55 ww_89 ww_1181
theorem ww_1170 : Cond.methodLink RX11 207 yX11_metTwos ∈ e_big := bw (i := 1170) (by decide +kernel) rfl
theorem ww_1172 : Cond.instanceMethod yX11_metTwos ∈ e_big := bw (i := 1172) (by decide +kernel) rfl
theorem ww_53 : Cond.selects RX11 yX11_metTwos yX11_metTwos ∈ e_big := bw (i := 53) (by decide +kernel) rfl
theorem ww_1173 : Cond.code yX11_metTwos cX11_metTwos 3 (some .int) ∈ e_big := bw (i := 1173) (by decide +kernel) rfl
theorem cw_X11_207 : ∀ w ∈ wsV RX11 207 RX11 yX11_metTwos [Cond.code yX11_metTwos cX11_metTwos 3 (some .int)], w ∈ e_big := e_all5 ww_1170 ww_1172 ww_53 ww_89 ww_1173
theorem ww_1174 : Cond.methodLink RX11 210 yX11_crossing ∈ e_big := bw (i := 1174) (by decide +kernel) rfl
theorem ww_1176 : Cond.instanceMethod yX11_crossing ∈ e_big := bw (i := 1176) (by decide +kernel) rfl
theorem ww_54 : Cond.selects RX11 yX11_crossing yX11_crossing ∈ e_big := bw (i := 54) (by decide +kernel) rfl
theorem ww_1177 : Cond.code yX11_crossing cX11_crossing 4 (some .int) ∈ e_big := bw (i := 1177) (by decide +kernel) rfl
theorem cw_X11_210 : ∀ w ∈ wsV RX11 210 RX11 yX11_crossing [Cond.code yX11_crossing cX11_crossing 4 (some .int)], w ∈ e_big := e_all5 ww_1174 ww_1176 ww_54 ww_89 ww_1177
theorem ww_1182 : Cond.methodLink RX11 213 yX11_mostLooked ∈ e_big := bw (i := 1182) (by decide +kernel) rfl
theorem ww_1184 : Cond.instanceMethod yX11_mostLooked ∈ e_big := bw (i := 1184) (by decide +kernel) rfl
theorem ww_56 : Cond.selects RX11 yX11_mostLooked yX11_mostLooked ∈ e_big := bw (i := 56) (by decide +kernel) rfl
theorem ww_1185 : Cond.code yX11_mostLooked cX11_mostLooked 5 (some .int) ∈ e_big := bw (i := 1185) (by decide +kernel) rfl
theorem cw_X11_213 : ∀ w ∈ wsV RX11 213 RX11 yX11_mostLooked [Cond.code yX11_mostLooked cX11_mostLooked 5 (some .int)], w ∈ e_big := e_all5 ww_1182 ww_1184 ww_56 ww_89 ww_1185
theorem ww_1186 : Cond.methodLink RX11 216 yX11_unseen ∈ e_big := bw (i := 1186) (by decide +kernel) rfl
theorem ww_1188 : Cond.instanceMethod yX11_unseen ∈ e_big := bw (i := 1188) (by decide +kernel) rfl
theorem ww_57 : Cond.selects RX11 yX11_unseen yX11_unseen ∈ e_big := bw (i := 57) (by decide +kernel) rfl
theorem ww_1189 : Cond.code yX11_unseen cX11_unseen 3 (some .int) ∈ e_big := bw (i := 1189) (by decide +kernel) rfl
theorem cw_X11_216 : ∀ w ∈ wsV RX11 216 RX11 yX11_unseen [Cond.code yX11_unseen cX11_unseen 3 (some .int)], w ∈ e_big := e_all5 ww_1186 ww_1188 ww_57 ww_89 ww_1189
/-! LeanedOutModel.says(I)I -/
abbrev M_X11_says : e_M := (yX11_says, cX11_says, 5, (some .int))
theorem mk_X11_says : e_Mok M_X11_says 1 := ⟨by decide +kernel, by decide +kernel, by decide +kernel⟩
theorem dX11_says_0 : decode cX11_says 0 = .ok (.iconst 0, 1) := by decide +kernel
theorem dX11_says_1 : decode cX11_says 1 = .ok (.istore_n 2, 1) := by decide +kernel
theorem dX11_says_2 : decode cX11_says 2 = .ok (.aload_n 0, 1) := by decide +kernel
theorem dX11_says_3 : decode cX11_says 3 = .ok (.getfield 25, 3) := by decide +kernel
theorem dX11_says_6 : decode cX11_says 6 = .ok (.iconst 4, 1) := by decide +kernel
theorem dX11_says_7 : decode cX11_says 7 = .ok (.aload_n 0, 1) := by decide +kernel
theorem dX11_says_8 : decode cX11_says 8 = .ok (.getfield 95, 3) := by decide +kernel
theorem dX11_says_11 : decode cX11_says 11 = .ok (.imul, 1) := by decide +kernel
theorem dX11_says_12 : decode cX11_says 12 = .ok (.iload_n 1, 1) := by decide +kernel
theorem dX11_says_13 : decode cX11_says 13 = .ok (.iadd, 1) := by decide +kernel
theorem dX11_says_14 : decode cX11_says 14 = .ok (.iaload, 1) := by decide +kernel
theorem dX11_says_15 : decode cX11_says 15 = .ok (.istore_n 3, 1) := by decide +kernel
theorem dX11_says_16 : decode cX11_says 16 = .ok (.iload_n 3, 1) := by decide +kernel
theorem dX11_says_17 : decode cX11_says 17 = .ok (.aload_n 0, 1) := by decide +kernel
theorem dX11_says_18 : decode cX11_says 18 = .ok (.getfield 25, 3) := by decide +kernel
theorem dX11_says_21 : decode cX11_says 21 = .ok (.iconst 4, 1) := by decide +kernel
theorem dX11_says_22 : decode cX11_says 22 = .ok (.aload_n 0, 1) := by decide +kernel
theorem dX11_says_23 : decode cX11_says 23 = .ok (.getfield 95, 3) := by decide +kernel
theorem dX11_says_26 : decode cX11_says 26 = .ok (.imul, 1) := by decide +kernel
theorem dX11_says_27 : decode cX11_says 27 = .ok (.iload_n 1, 1) := by decide +kernel
theorem dX11_says_28 : decode cX11_says 28 = .ok (.iadd, 1) := by decide +kernel
theorem dX11_says_29 : decode cX11_says 29 = .ok (.iconst 1, 1) := by decide +kernel
theorem dX11_says_30 : decode cX11_says 30 = .ok (.iadd, 1) := by decide +kernel
theorem dX11_says_31 : decode cX11_says 31 = .ok (.iaload, 1) := by decide +kernel
theorem dX11_says_32 : decode cX11_says 32 = .ok (.if_icmp .ge 165, 3) := by decide +kernel
theorem dX11_says_35 : decode cX11_says 35 = .ok (.aload_n 0, 1) := by decide +kernel
theorem dX11_says_36 : decode cX11_says 36 = .ok (.getfield 22, 3) := by decide +kernel
theorem dX11_says_39 : decode cX11_says 39 = .ok (.sipush 200, 3) := by decide +kernel
theorem dX11_says_42 : decode cX11_says 42 = .ok (.aload_n 0, 1) := by decide +kernel
theorem dX11_says_43 : decode cX11_says 43 = .ok (.getfield 95, 3) := by decide +kernel
theorem dX11_says_46 : decode cX11_says 46 = .ok (.imul, 1) := by decide +kernel
theorem dX11_says_47 : decode cX11_says 47 = .ok (.iload_n 3, 1) := by decide +kernel
theorem dX11_says_48 : decode cX11_says 48 = .ok (.iadd, 1) := by decide +kernel
theorem dX11_says_49 : decode cX11_says 49 = .ok (.iaload, 1) := by decide +kernel
theorem dX11_says_50 : decode cX11_says 50 = .ok (.istore 4, 2) := by decide +kernel
theorem dX11_says_52 : decode cX11_says 52 = .ok (.iload 4, 2) := by decide +kernel
theorem dX11_says_54 : decode cX11_says 54 = .ok (.ldc 143, 2) := by decide +kernel
theorem dX11_says_56 : decode cX11_says 56 = .ok (.if_icmp .ge 10, 3) := by decide +kernel
theorem dX11_says_59 : decode cX11_says 59 = .ok (.iload 4, 2) := by decide +kernel
theorem dX11_says_61 : decode cX11_says 61 = .ok (.bipush 11, 2) := by decide +kernel
theorem dX11_says_63 : decode cX11_says 63 = .ok (.if_icmp .ge 37, 3) := by decide +kernel
theorem dX11_says_66 : decode cX11_says 66 = .ok (.aload_n 0, 1) := by decide +kernel
theorem dX11_says_67 : decode cX11_says 67 = .ok (.getfield 52, 3) := by decide +kernel
theorem dX11_says_70 : decode cX11_says 70 = .ok (.iload_n 2, 1) := by decide +kernel
theorem dX11_says_71 : decode cX11_says 71 = .ok (.iload 4, 2) := by decide +kernel
theorem dX11_says_73 : decode cX11_says 73 = .ok (.bipush 11, 2) := by decide +kernel
theorem dX11_says_75 : decode cX11_says 75 = .ok (.if_icmp .ge 13, 3) := by decide +kernel
theorem dX11_says_78 : decode cX11_says 78 = .ok (.aload_n 0, 1) := by decide +kernel
theorem dX11_says_79 : decode cX11_says 79 = .ok (.getfield 55, 3) := by decide +kernel
theorem dX11_says_82 : decode cX11_says 82 = .ok (.iload 4, 2) := by decide +kernel
theorem dX11_says_84 : decode cX11_says 84 = .ok (.iaload, 1) := by decide +kernel
theorem dX11_says_85 : decode cX11_says 85 = .ok (.goto 8, 3) := by decide +kernel
theorem dX11_says_88 : decode cX11_says 88 = .ok (.iload 4, 2) := by decide +kernel
theorem dX11_says_90 : decode cX11_says 90 = .ok (.ldc 143, 2) := by decide +kernel
theorem dX11_says_92 : decode cX11_says 92 = .ok (.isub, 1) := by decide +kernel
theorem dX11_says_93 : decode cX11_says 93 = .ok (.iastore, 1) := by decide +kernel
theorem dX11_says_94 : decode cX11_says 94 = .ok (.iinc 2 1, 3) := by decide +kernel
theorem dX11_says_97 : decode cX11_says 97 = .ok (.goto 94, 3) := by decide +kernel
theorem dX11_says_100 : decode cX11_says 100 = .ok (.iload 4, 2) := by decide +kernel
theorem dX11_says_102 : decode cX11_says 102 = .ok (.bipush 13, 2) := by decide +kernel
theorem dX11_says_104 : decode cX11_says 104 = .ok (.if_icmp .ne 30, 3) := by decide +kernel
theorem dX11_says_107 : decode cX11_says 107 = .ok (.aload_n 0, 1) := by decide +kernel
theorem dX11_says_108 : decode cX11_says 108 = .ok (.getfield 52, 3) := by decide +kernel
theorem dX11_says_111 : decode cX11_says 111 = .ok (.iload_n 2, 1) := by decide +kernel
theorem dX11_says_112 : decode cX11_says 112 = .ok (.iconst 1, 1) := by decide +kernel
theorem dX11_says_113 : decode cX11_says 113 = .ok (.isub, 1) := by decide +kernel
theorem dX11_says_114 : decode cX11_says 114 = .ok (.aload_n 0, 1) := by decide +kernel
theorem dX11_says_115 : decode cX11_says 115 = .ok (.getfield 52, 3) := by decide +kernel
theorem dX11_says_118 : decode cX11_says 118 = .ok (.iload_n 2, 1) := by decide +kernel
theorem dX11_says_119 : decode cX11_says 119 = .ok (.iconst 1, 1) := by decide +kernel
theorem dX11_says_120 : decode cX11_says 120 = .ok (.isub, 1) := by decide +kernel
theorem dX11_says_121 : decode cX11_says 121 = .ok (.iaload, 1) := by decide +kernel
theorem dX11_says_122 : decode cX11_says 122 = .ok (.ifCond .ne 7, 3) := by decide +kernel
theorem dX11_says_125 : decode cX11_says 125 = .ok (.iconst 1, 1) := by decide +kernel
theorem dX11_says_126 : decode cX11_says 126 = .ok (.goto 4, 3) := by decide +kernel
theorem dX11_says_129 : decode cX11_says 129 = .ok (.iconst 0, 1) := by decide +kernel
theorem dX11_says_130 : decode cX11_says 130 = .ok (.iastore, 1) := by decide +kernel
theorem dX11_says_131 : decode cX11_says 131 = .ok (.goto 60, 3) := by decide +kernel
theorem dX11_says_134 : decode cX11_says 134 = .ok (.iload 4, 2) := by decide +kernel
theorem dX11_says_136 : decode cX11_says 136 = .ok (.bipush 19, 2) := by decide +kernel
theorem dX11_says_138 : decode cX11_says 138 = .ok (.if_icmp .ne 23, 3) := by decide +kernel
theorem dX11_says_141 : decode cX11_says 141 = .ok (.aload_n 0, 1) := by decide +kernel
theorem dX11_says_142 : decode cX11_says 142 = .ok (.getfield 52, 3) := by decide +kernel
theorem dX11_says_145 : decode cX11_says 145 = .ok (.iload_n 2, 1) := by decide +kernel
theorem dX11_says_146 : decode cX11_says 146 = .ok (.iconst 1, 1) := by decide +kernel
theorem dX11_says_147 : decode cX11_says 147 = .ok (.isub, 1) := by decide +kernel
theorem dX11_says_148 : decode cX11_says 148 = .ok (.aload_n 0, 1) := by decide +kernel
theorem dX11_says_149 : decode cX11_says 149 = .ok (.getfield 52, 3) := by decide +kernel
theorem dX11_says_152 : decode cX11_says 152 = .ok (.iload_n 2, 1) := by decide +kernel
theorem dX11_says_153 : decode cX11_says 153 = .ok (.iconst 1, 1) := by decide +kernel
theorem dX11_says_154 : decode cX11_says 154 = .ok (.isub, 1) := by decide +kernel
theorem dX11_says_155 : decode cX11_says 155 = .ok (.iaload, 1) := by decide +kernel
theorem dX11_says_156 : decode cX11_says 156 = .ok (.ineg, 1) := by decide +kernel
theorem dX11_says_157 : decode cX11_says 157 = .ok (.iastore, 1) := by decide +kernel
theorem dX11_says_158 : decode cX11_says 158 = .ok (.goto 33, 3) := by decide +kernel
theorem dX11_says_161 : decode cX11_says 161 = .ok (.iinc 2 (-1), 3) := by decide +kernel
theorem dX11_says_164 : decode cX11_says 164 = .ok (.aload_n 0, 1) := by decide +kernel
theorem dX11_says_165 : decode cX11_says 165 = .ok (.getfield 52, 3) := by decide +kernel
theorem dX11_says_168 : decode cX11_says 168 = .ok (.iload_n 2, 1) := by decide +kernel
theorem dX11_says_169 : decode cX11_says 169 = .ok (.iconst 1, 1) := by decide +kernel
theorem dX11_says_170 : decode cX11_says 170 = .ok (.isub, 1) := by decide +kernel
theorem dX11_says_171 : decode cX11_says 171 = .ok (.iload 4, 2) := by decide +kernel
theorem dX11_says_173 : decode cX11_says 173 = .ok (.aload_n 0, 1) := by decide +kernel
theorem dX11_says_174 : decode cX11_says 174 = .ok (.getfield 52, 3) := by decide +kernel
theorem dX11_says_177 : decode cX11_says 177 = .ok (.iload_n 2, 1) := by decide +kernel
theorem dX11_says_178 : decode cX11_says 178 = .ok (.iconst 1, 1) := by decide +kernel
theorem dX11_says_179 : decode cX11_says 179 = .ok (.isub, 1) := by decide +kernel
theorem dX11_says_180 : decode cX11_says 180 = .ok (.iaload, 1) := by decide +kernel
theorem dX11_says_181 : decode cX11_says 181 = .ok (.aload_n 0, 1) := by decide +kernel
theorem dX11_says_182 : decode cX11_says 182 = .ok (.getfield 52, 3) := by decide +kernel
theorem dX11_says_185 : decode cX11_says 185 = .ok (.iload_n 2, 1) := by decide +kernel
theorem dX11_says_186 : decode cX11_says 186 = .ok (.iaload, 1) := by decide +kernel
theorem dX11_says_187 : decode cX11_says 187 = .ok (.invokestatic 157, 3) := by decide +kernel
theorem dX11_says_190 : decode cX11_says 190 = .ok (.iastore, 1) := by decide +kernel
theorem dX11_says_191 : decode cX11_says 191 = .ok (.iinc 3 1, 3) := by decide +kernel
theorem dX11_says_194 : decode cX11_says 194 = .ok (.goto (-178), 3) := by decide +kernel
theorem dX11_says_197 : decode cX11_says 197 = .ok (.aload_n 0, 1) := by decide +kernel
theorem dX11_says_198 : decode cX11_says 198 = .ok (.getfield 52, 3) := by decide +kernel
theorem dX11_says_201 : decode cX11_says 201 = .ok (.iconst 0, 1) := by decide +kernel
theorem dX11_says_202 : decode cX11_says 202 = .ok (.iaload, 1) := by decide +kernel
theorem dX11_says_203 : decode cX11_says 203 = .ok (.ireturn, 1) := by decide +kernel
def J_X11_says_191 (c16 : Nat → Int32 → Int32 → Int32 → e_G → Option (Int32 × e_G)) (S : e_S) (l0 : Nat) (l1 : Int32) (l2 : Int32) (l3 : Int32) (g : e_G) : Option (Int32 × e_G) :=
  c16 l0 l1 l2 (l3 + (1 : Int32)) g
def J_X11_says_93 (c16 : Nat → Int32 → Int32 → Int32 → e_G → Option (Int32 × e_G)) (S : e_S) (l0 : Nat) (l1 : Int32) (l2 : Int32) (l3 : Int32) (t0 : Nat) (t1 : Int32) (t2 : Int32) (g : e_G) : Option (Int32 × e_G) :=
  (e_aS S g 0 t0 t1 t2).bind fun g1 =>
  J_X11_says_191 c16 S l0 l1 (l2 + (1 : Int32)) l3 g1
def J_X11_says_66 (c16 : Nat → Int32 → Int32 → Int32 → e_G → Option (Int32 × e_G)) (S : e_S) (l0 : Nat) (l1 : Int32) (l2 : Int32) (l3 : Int32) (l4 : Int32) (g : e_G) : Option (Int32 × e_G) :=
  (e_gR S g 11 l0 27).bind fun v1 =>
  if (11 : Int32) ≤ l4 then
    J_X11_says_93 c16 S l0 l1 l2 l3 v1 l2 (l4 - (100000 : Int32)) g
  else
    (e_gR S g 11 l0 28).bind fun v3 =>
    (e_aI S g 0 v3 l4).bind fun v5 =>
    J_X11_says_93 c16 S l0 l1 l2 l3 v1 l2 v5 g
def J_X11_says_130 (c16 : Nat → Int32 → Int32 → Int32 → e_G → Option (Int32 × e_G)) (S : e_S) (l0 : Nat) (l1 : Int32) (l2 : Int32) (l3 : Int32) (t0 : Nat) (t1 : Int32) (t2 : Int32) (g : e_G) : Option (Int32 × e_G) :=
  (e_aS S g 0 t0 t1 t2).bind fun g1 =>
  J_X11_says_191 c16 S l0 l1 l2 l3 g1
def L_X11_says_16 : Nat → e_S → Nat → Int32 → Int32 → Int32 → e_G → Option (Int32 × e_G)
  | 0, _, _, _, _, _, _ => none
  | n + 1, S, l0, l1, l2, l3, g =>
  (e_gR S g 11 l0 8).bind fun v1 =>
  (e_gI S g 11 l0 10).bind fun v3 =>
  (e_aI S g 0 v1 ((((4 : Int32) * v3) + l1) + (1 : Int32))).bind fun v5 =>
  if v5 ≤ l3 then
    (e_gR S g 11 l0 27).bind fun v7 =>
    (e_aI S g 0 v7 (0 : Int32)).bind fun v9 =>
    some (v9, g)
  else
    (e_gR S g 11 l0 7).bind fun v11 =>
    (e_gI S g 11 l0 10).bind fun v13 =>
    (e_aI S g 0 v11 (((200 : Int32) * v13) + l3)).bind fun v15 =>
    if (100000 : Int32) ≤ v15 then
      J_X11_says_66 (L_X11_says_16 n S) S l0 l1 l2 l3 v15 g
    else
      if (11 : Int32) ≤ v15 then
        if v15 = (13 : Int32) then
          (e_gR S g 11 l0 27).bind fun v39 =>
          (e_gR S g 11 l0 27).bind fun v41 =>
          (e_aI S g 0 v41 (l2 - (1 : Int32))).bind fun v43 =>
          if v43 = 0 then
            J_X11_says_130 (L_X11_says_16 n S) S l0 l1 l2 l3 v39 (l2 - (1 : Int32)) (1 : Int32) g
          else
            J_X11_says_130 (L_X11_says_16 n S) S l0 l1 l2 l3 v39 (l2 - (1 : Int32)) (0 : Int32) g
        else
          if v15 = (19 : Int32) then
            (e_gR S g 11 l0 27).bind fun v31 =>
            (e_gR S g 11 l0 27).bind fun v33 =>
            (e_aI S g 0 v33 (l2 - (1 : Int32))).bind fun v35 =>
            (e_aS S g 0 v31 (l2 - (1 : Int32)) (-v35)).bind fun g37 =>
            J_X11_says_191 (L_X11_says_16 n S) S l0 l1 l2 l3 g37
          else
            (e_gR S g 11 l0 27).bind fun v17 =>
            (e_gR S g 11 l0 27).bind fun v19 =>
            (e_aI S g 0 v19 ((l2 + (-1 : Int32)) - (1 : Int32))).bind fun v21 =>
            (e_gR S g 11 l0 27).bind fun v23 =>
            (e_aI S g 0 v23 (l2 + (-1 : Int32))).bind fun v25 =>
            (f_X11_two S v15 v21 v25 g).bind fun q28 =>
            (e_aS S q28.2 0 v17 ((l2 + (-1 : Int32)) - (1 : Int32)) q28.1).bind fun g29 =>
            J_X11_says_191 (L_X11_says_16 n S) S l0 l1 (l2 + (-1 : Int32)) l3 g29
      else
        J_X11_says_66 (L_X11_says_16 n S) S l0 l1 l2 l3 v15 g
def f_X11_says (S : e_S) (l0 : Nat) (l1 : Int32) (g : e_G) : Option (Int32 × e_G) :=
  if e_ob S 11 l0 = true then
    (e_gR S g 11 l0 8).bind fun v1 =>
    (e_gI S g 11 l0 10).bind fun v3 =>
    (e_aI S g 0 v1 (((4 : Int32) * v3) + l1)).bind fun v5 =>
    L_X11_says_16 50000 S l0 l1 (0 : Int32) v5 g
  else none
theorem x_J_X11_says_191 {l : Launch} {D : va_G} {S : e_S} {w : Int32} {k : e_G} (c16 : Nat → Int32 → Int32 → Int32 → e_G → Option (Int32 × e_G)) (hc16 : ∀ (l0 : Nat) (l1 : Int32) (l2 : Int32) (l3 : Int32) (g : e_G), c16 l0 l1 l2 l3 g = some (w, k) → X l D (e_R 2) M_X11_says 0 0 16 [(0, .ref l0), (1, .int l1), (2, .int l2), (3, .int l3)] [] (S, g) (some (.int w)) (S, k)) {l0 : Nat} {l1 : Int32} {l2 : Int32} {l3 : Int32} {g : e_G} (hf : J_X11_says_191 c16 S l0 l1 l2 l3 g = some (w, k)) : X l D (e_R 2) M_X11_says 0 0 191 [(0, .ref l0), (1, .int l1), (2, .int l2), (3, .int l3)] [] (S, g) (some (.int w)) (S, k) := by
  unfold J_X11_says_191 at hf
  refine X.iinc (j := 3) dX11_says_191 rfl (v := l3 + (1 : Int32)) (by rw [kI_1]) (Nat.le_of_ble_eq_true rfl) (lc' := [(3, .int (l3 + (1 : Int32))), (0, .ref l0), (1, .int l1), (2, .int l2)]) rfl ?_
  refine X.goto dX11_says_194 (tgt := 16) rfl ?_
  refine X.sub [1, 2, 3, 0] rfl ?_
  exact hc16 _ _ _ _ _ hf
theorem x_J_X11_says_93 {l : Launch} {D : va_G} {S : e_S} {w : Int32} {k : e_G} (c16 : Nat → Int32 → Int32 → Int32 → e_G → Option (Int32 × e_G)) (hc16 : ∀ (l0 : Nat) (l1 : Int32) (l2 : Int32) (l3 : Int32) (g : e_G), c16 l0 l1 l2 l3 g = some (w, k) → X l D (e_R 2) M_X11_says 0 0 16 [(0, .ref l0), (1, .int l1), (2, .int l2), (3, .int l3)] [] (S, g) (some (.int w)) (S, k)) {l0 : Nat} {l1 : Int32} {l2 : Int32} {l3 : Int32} {t0 : Nat} {t1 : Int32} {t2 : Int32} {g : e_G} (hf : J_X11_says_93 c16 S l0 l1 l2 l3 t0 t1 t2 g = some (w, k)) : X l D (e_R 2) M_X11_says 0 0 93 [(0, .ref l0), (1, .int l1), (2, .int l2), (3, .int l3)] [.int t2, .int t1, .ref t0] (S, g) (some (.int w)) (S, k) := by
  unfold J_X11_says_93 at hf
  obtain ⟨g1, h2, hf⟩ := ob hf
  refine Y.iast dX11_says_93 h2 ?_
  refine X.iinc (j := 2) dX11_says_94 rfl (v := l2 + (1 : Int32)) (by rw [kI_1]) (Nat.le_of_ble_eq_true rfl) (lc' := [(2, .int (l2 + (1 : Int32))), (0, .ref l0), (1, .int l1), (3, .int l3)]) rfl ?_
  refine X.goto dX11_says_97 (tgt := 191) rfl ?_
  refine X.sub [1, 2, 0, 3] rfl ?_
  exact x_J_X11_says_191 _ hc16 hf
theorem x_J_X11_says_66 {l : Launch} {D : va_G} {S : e_S} {w : Int32} {k : e_G} (c16 : Nat → Int32 → Int32 → Int32 → e_G → Option (Int32 × e_G)) (hc16 : ∀ (l0 : Nat) (l1 : Int32) (l2 : Int32) (l3 : Int32) (g : e_G), c16 l0 l1 l2 l3 g = some (w, k) → X l D (e_R 2) M_X11_says 0 0 16 [(0, .ref l0), (1, .int l1), (2, .int l2), (3, .int l3)] [] (S, g) (some (.int w)) (S, k)) {l0 : Nat} {l1 : Int32} {l2 : Int32} {l3 : Int32} {l4 : Int32} {g : e_G} (hf : J_X11_says_66 c16 S l0 l1 l2 l3 l4 g = some (w, k)) : X l D (e_R 2) M_X11_says 0 0 66 [(0, .ref l0), (1, .int l1), (2, .int l2), (3, .int l3), (4, .int l4)] [] (S, g) (some (.int w)) (S, k) := by
  unfold J_X11_says_66 at hf
  refine X.aload_n dX11_says_66 rfl (j := 0) rfl ?_
  obtain ⟨v1, h2, hf⟩ := ob hf
  refine Y.getR dX11_says_67 fl_X11_52 rfl h2 ?_
  refine X.iload_n dX11_says_70 rfl (j := 2) rfl ?_
  refine X.iload dX11_says_71 (j := 4) rfl ?_
  refine X.bipush dX11_says_73 kB_11 ?_
  refine X.icmp_ge dX11_says_75 (tgt := 88) rfl (fun hc => ?_) (fun hc => ?_)
  · rw [if_pos hc] at hf
    refine X.iload dX11_says_88 (j := 4) rfl ?_
    refine X.ldc dX11_says_90 ww_933 ?_
    refine X.isub dX11_says_92 ?_
    refine X.sub [0, 1, 2, 3] rfl ?_
    exact x_J_X11_says_93 _ hc16 hf
  · rw [if_neg hc] at hf
    refine X.aload_n dX11_says_78 rfl (j := 0) rfl ?_
    obtain ⟨v3, h4, hf⟩ := ob hf
    refine Y.getR dX11_says_79 fl_X11_55 rfl h4 ?_
    refine X.iload dX11_says_82 (j := 4) rfl ?_
    obtain ⟨v5, h6, hf⟩ := ob hf
    refine Y.iald dX11_says_84 h6 ?_
    refine X.goto dX11_says_85 (tgt := 93) rfl ?_
    refine X.sub [0, 1, 2, 3] rfl ?_
    exact x_J_X11_says_93 _ hc16 hf
theorem x_J_X11_says_130 {l : Launch} {D : va_G} {S : e_S} {w : Int32} {k : e_G} (c16 : Nat → Int32 → Int32 → Int32 → e_G → Option (Int32 × e_G)) (hc16 : ∀ (l0 : Nat) (l1 : Int32) (l2 : Int32) (l3 : Int32) (g : e_G), c16 l0 l1 l2 l3 g = some (w, k) → X l D (e_R 2) M_X11_says 0 0 16 [(0, .ref l0), (1, .int l1), (2, .int l2), (3, .int l3)] [] (S, g) (some (.int w)) (S, k)) {l0 : Nat} {l1 : Int32} {l2 : Int32} {l3 : Int32} {t0 : Nat} {t1 : Int32} {t2 : Int32} {g : e_G} (hf : J_X11_says_130 c16 S l0 l1 l2 l3 t0 t1 t2 g = some (w, k)) : X l D (e_R 2) M_X11_says 0 0 130 [(0, .ref l0), (1, .int l1), (2, .int l2), (3, .int l3)] [.int t2, .int t1, .ref t0] (S, g) (some (.int w)) (S, k) := by
  unfold J_X11_says_130 at hf
  obtain ⟨g1, h2, hf⟩ := ob hf
  refine Y.iast dX11_says_130 h2 ?_
  refine X.goto dX11_says_131 (tgt := 191) rfl ?_
  exact x_J_X11_says_191 _ hc16 hf
theorem x_L_X11_says_16 {l : Launch} {D : va_G} {S : e_S} {w : Int32} {k : e_G} : ∀ (n : Nat) (l0 : Nat) (l1 : Int32) (l2 : Int32) (l3 : Int32) (g : e_G), L_X11_says_16 n S l0 l1 l2 l3 g = some (w, k) → X l D (e_R 2) M_X11_says 0 0 16 [(0, .ref l0), (1, .int l1), (2, .int l2), (3, .int l3)] [] (S, g) (some (.int w)) (S, k) := by
  intro n
  induction n with
  | zero =>
    intro l0 l1 l2 l3 g hf
    cases hf
  | succ n ih =>
    intro l0 l1 l2 l3 g hf
    rw [L_X11_says_16] at hf
    refine X.iload_n dX11_says_16 rfl (j := 3) rfl ?_
    refine X.aload_n dX11_says_17 rfl (j := 0) rfl ?_
    obtain ⟨v1, h2, hf⟩ := ob hf
    refine Y.getR dX11_says_18 fl_X11_25 rfl h2 ?_
    refine X.iconst dX11_says_21 kI_4 ?_
    refine X.aload_n dX11_says_22 rfl (j := 0) rfl ?_
    obtain ⟨v3, h4, hf⟩ := ob hf
    refine Y.getI dX11_says_23 fl_X11_95 rfl h4 ?_
    refine X.imul dX11_says_26 ?_
    refine X.iload_n dX11_says_27 rfl (j := 1) rfl ?_
    refine X.iadd dX11_says_28 ?_
    refine X.iconst dX11_says_29 kI_1 ?_
    refine X.iadd dX11_says_30 ?_
    obtain ⟨v5, h6, hf⟩ := ob hf
    refine Y.iald dX11_says_31 h6 ?_
    refine X.icmp_ge dX11_says_32 (tgt := 197) rfl (fun hc => ?_) (fun hc => ?_)
    · rw [if_pos hc] at hf
      refine X.aload_n dX11_says_197 rfl (j := 0) rfl ?_
      obtain ⟨v7, h8, hf⟩ := ob hf
      refine Y.getR dX11_says_198 fl_X11_52 rfl h8 ?_
      refine X.iconst dX11_says_201 kI_0 ?_
      obtain ⟨v9, h10, hf⟩ := ob hf
      refine Y.iald dX11_says_202 h10 ?_
      obtain ⟨e1, e2⟩ := e_ret hf
      subst e1
      subst e2
      exact X.iret dX11_says_203 rfl rfl
    · rw [if_neg hc] at hf
      refine X.aload_n dX11_says_35 rfl (j := 0) rfl ?_
      obtain ⟨v11, h12, hf⟩ := ob hf
      refine Y.getR dX11_says_36 fl_X11_22 rfl h12 ?_
      refine X.sipush dX11_says_39 kS_200 ?_
      refine X.aload_n dX11_says_42 rfl (j := 0) rfl ?_
      obtain ⟨v13, h14, hf⟩ := ob hf
      refine Y.getI dX11_says_43 fl_X11_95 rfl h14 ?_
      refine X.imul dX11_says_46 ?_
      refine X.iload_n dX11_says_47 rfl (j := 3) rfl ?_
      refine X.iadd dX11_says_48 ?_
      obtain ⟨v15, h16, hf⟩ := ob hf
      refine Y.iald dX11_says_49 h16 ?_
      refine X.istore dX11_says_50 (Nat.le_of_ble_eq_true rfl) (lc' := [(4, .int v15), (0, .ref l0), (1, .int l1), (2, .int l2), (3, .int l3)]) rfl ?_
      refine X.iload dX11_says_52 (j := 0) rfl ?_
      refine X.ldc dX11_says_54 ww_933 ?_
      refine X.icmp_ge dX11_says_56 (tgt := 66) rfl (fun hc => ?_) (fun hc => ?_)
      · rw [if_pos hc] at hf
        refine X.sub [1, 2, 3, 4, 0] rfl ?_
        exact x_J_X11_says_66 _ ih hf
      · rw [if_neg hc] at hf
        refine X.iload dX11_says_59 (j := 0) rfl ?_
        refine X.bipush dX11_says_61 kB_11 ?_
        refine X.icmp_ge dX11_says_63 (tgt := 100) rfl (fun hc => ?_) (fun hc => ?_)
        · rw [if_pos hc] at hf
          refine X.iload dX11_says_100 (j := 0) rfl ?_
          refine X.bipush dX11_says_102 kB_13 ?_
          refine X.icmp_ne dX11_says_104 (tgt := 134) rfl (fun hc => ?_) (fun hc => ?_)
          · rw [if_neg hc] at hf
            refine X.iload dX11_says_134 (j := 0) rfl ?_
            refine X.bipush dX11_says_136 kB_19 ?_
            refine X.icmp_ne dX11_says_138 (tgt := 161) rfl (fun hc => ?_) (fun hc => ?_)
            · rw [if_neg hc] at hf
              refine X.iinc (j := 3) dX11_says_161 rfl (v := l2 + (-1 : Int32)) (by rw [kI_m1]) (Nat.le_of_ble_eq_true rfl) (lc' := [(2, .int (l2 + (-1 : Int32))), (4, .int v15), (0, .ref l0), (1, .int l1), (3, .int l3)]) rfl ?_
              refine X.aload_n dX11_says_164 rfl (j := 2) rfl ?_
              obtain ⟨v17, h18, hf⟩ := ob hf
              refine Y.getR dX11_says_165 fl_X11_52 rfl h18 ?_
              refine X.iload_n dX11_says_168 rfl (j := 0) rfl ?_
              refine X.iconst dX11_says_169 kI_1 ?_
              refine X.isub dX11_says_170 ?_
              refine X.iload dX11_says_171 (j := 1) rfl ?_
              refine X.aload_n dX11_says_173 rfl (j := 2) rfl ?_
              obtain ⟨v19, h20, hf⟩ := ob hf
              refine Y.getR dX11_says_174 fl_X11_52 rfl h20 ?_
              refine X.iload_n dX11_says_177 rfl (j := 0) rfl ?_
              refine X.iconst dX11_says_178 kI_1 ?_
              refine X.isub dX11_says_179 ?_
              obtain ⟨v21, h22, hf⟩ := ob hf
              refine Y.iald dX11_says_180 h22 ?_
              refine X.aload_n dX11_says_181 rfl (j := 2) rfl ?_
              obtain ⟨v23, h24, hf⟩ := ob hf
              refine Y.getR dX11_says_182 fl_X11_52 rfl h24 ?_
              refine X.iload_n dX11_says_185 rfl (j := 0) rfl ?_
              obtain ⟨v25, h26, hf⟩ := ob hf
              refine Y.iald dX11_says_186 h26 ?_
              obtain ⟨q28, h27, hf⟩ := ob hf
              refine Y.callS (av := [.int v15, .int v21, .int v25]) dX11_says_187 (c_X11_two (l := l) (D := D) (w := q28.1) (k := q28.2) h27) cw_X11_157 mk_X11_two (e_R_ok (Nat.le_of_ble_eq_true rfl) (Nat.le_of_ble_eq_true rfl)) ⟨rfl, rfl⟩ (by simp [Value.category]) ?_
              obtain ⟨g29, h30, hf⟩ := ob hf
              refine Y.iast dX11_says_190 h30 ?_
              refine X.sub [2, 3, 0, 4] rfl ?_
              exact x_J_X11_says_191 _ ih hf
            · rw [if_pos hc] at hf
              refine X.aload_n dX11_says_141 rfl (j := 1) rfl ?_
              obtain ⟨v31, h32, hf⟩ := ob hf
              refine Y.getR dX11_says_142 fl_X11_52 rfl h32 ?_
              refine X.iload_n dX11_says_145 rfl (j := 3) rfl ?_
              refine X.iconst dX11_says_146 kI_1 ?_
              refine X.isub dX11_says_147 ?_
              refine X.aload_n dX11_says_148 rfl (j := 1) rfl ?_
              obtain ⟨v33, h34, hf⟩ := ob hf
              refine Y.getR dX11_says_149 fl_X11_52 rfl h34 ?_
              refine X.iload_n dX11_says_152 rfl (j := 3) rfl ?_
              refine X.iconst dX11_says_153 kI_1 ?_
              refine X.isub dX11_says_154 ?_
              obtain ⟨v35, h36, hf⟩ := ob hf
              refine Y.iald dX11_says_155 h36 ?_
              refine X.ineg dX11_says_156 ?_
              obtain ⟨g37, h38, hf⟩ := ob hf
              refine Y.iast dX11_says_157 h38 ?_
              refine X.goto dX11_says_158 (tgt := 191) rfl ?_
              refine X.sub [1, 2, 3, 4] rfl ?_
              exact x_J_X11_says_191 _ ih hf
          · rw [if_pos hc] at hf
            refine X.aload_n dX11_says_107 rfl (j := 1) rfl ?_
            obtain ⟨v39, h40, hf⟩ := ob hf
            refine Y.getR dX11_says_108 fl_X11_52 rfl h40 ?_
            refine X.iload_n dX11_says_111 rfl (j := 3) rfl ?_
            refine X.iconst dX11_says_112 kI_1 ?_
            refine X.isub dX11_says_113 ?_
            refine X.aload_n dX11_says_114 rfl (j := 1) rfl ?_
            obtain ⟨v41, h42, hf⟩ := ob hf
            refine Y.getR dX11_says_115 fl_X11_52 rfl h42 ?_
            refine X.iload_n dX11_says_118 rfl (j := 3) rfl ?_
            refine X.iconst dX11_says_119 kI_1 ?_
            refine X.isub dX11_says_120 ?_
            obtain ⟨v43, h44, hf⟩ := ob hf
            refine Y.iald dX11_says_121 h44 ?_
            refine X.if_ne dX11_says_122 (tgt := 129) rfl (fun hc => ?_) (fun hc => ?_)
            · rw [if_neg hc] at hf
              refine X.iconst dX11_says_129 kI_0 ?_
              refine X.sub [1, 2, 3, 4] rfl ?_
              exact x_J_X11_says_130 _ ih hf
            · rw [if_pos hc] at hf
              refine X.iconst dX11_says_125 kI_1 ?_
              refine X.goto dX11_says_126 (tgt := 130) rfl ?_
              refine X.sub [1, 2, 3, 4] rfl ?_
              exact x_J_X11_says_130 _ ih hf
        · rw [if_neg hc] at hf
          refine X.sub [1, 2, 3, 4, 0] rfl ?_
          exact x_J_X11_says_66 _ ih hf
theorem o_X11_says  {S : e_S} {w : Int32} {k : e_G} {l0 : Nat} {l1 : Int32} {g : e_G} (hf : f_X11_says S l0 l1 g = some (w, k)) : e_ob S 11 l0 = true := by
  unfold f_X11_says at hf
  by_cases hc : e_ob S 11 l0 = true
  · exact hc
  · rw [if_neg hc] at hf
    cases hf
theorem c_X11_says {l : Launch} {D : va_G}  {S : e_S} {w : Int32} {k : e_G} {l0 : Nat} {l1 : Int32} {g : e_G} (hf : f_X11_says S l0 l1 g = some (w, k)) : CT l D (e_R 2) M_X11_says [.ref l0, .int l1] (S, g) (some (.int w)) (S, k) := by
  refine CT.of (by decide +kernel) (Nat.le_of_ble_eq_true rfl) ?_
  have ho := o_X11_says hf
  unfold f_X11_says at hf
  rw [if_pos ho] at hf
  show X l D (e_R 2) M_X11_says 0 0 0 [(0, .ref l0), (1, .int l1)] [] (S, g) (some (.int w)) (S, k)
  refine X.iconst dX11_says_0 kI_0 ?_
  refine X.istore_n dX11_says_1 rfl (Nat.le_of_ble_eq_true rfl) (lc' := [(2, .int (0 : Int32)), (0, .ref l0), (1, .int l1)]) rfl ?_
  refine X.aload_n dX11_says_2 rfl (j := 1) rfl ?_
  obtain ⟨v1, h2, hf⟩ := ob hf
  refine Y.getR dX11_says_3 fl_X11_25 rfl h2 ?_
  refine X.iconst dX11_says_6 kI_4 ?_
  refine X.aload_n dX11_says_7 rfl (j := 1) rfl ?_
  obtain ⟨v3, h4, hf⟩ := ob hf
  refine Y.getI dX11_says_8 fl_X11_95 rfl h4 ?_
  refine X.imul dX11_says_11 ?_
  refine X.iload_n dX11_says_12 rfl (j := 2) rfl ?_
  refine X.iadd dX11_says_13 ?_
  obtain ⟨v5, h6, hf⟩ := ob hf
  refine Y.iald dX11_says_14 h6 ?_
  refine X.istore_n dX11_says_15 rfl (Nat.le_of_ble_eq_true rfl) (lc' := [(3, .int v5), (2, .int (0 : Int32)), (0, .ref l0), (1, .int l1)]) rfl ?_
  refine X.sub [2, 3, 1, 0] rfl ?_
  exact x_L_X11_says_16 50000 _ _ _ _ _ hf
/-! LeanedOutModel.force(I)I -/
abbrev M_X11_force : e_M := (yX11_force, cX11_force, 3, (some .int))
theorem mk_X11_force : e_Mok M_X11_force 1 := ⟨by decide +kernel, by decide +kernel, by decide +kernel⟩
theorem dX11_force_0 : decode cX11_force 0 = .ok (.iload_n 1, 1) := by decide +kernel
theorem dX11_force_1 : decode cX11_force 1 = .ok (.iconst 0, 1) := by decide +kernel
theorem dX11_force_2 : decode cX11_force 2 = .ok (.aload_n 0, 1) := by decide +kernel
theorem dX11_force_3 : decode cX11_force 3 = .ok (.getfield 92, 3) := by decide +kernel
theorem dX11_force_6 : decode cX11_force 6 = .ok (.iconst 1, 1) := by decide +kernel
theorem dX11_force_7 : decode cX11_force 7 = .ok (.isub, 1) := by decide +kernel
theorem dX11_force_8 : decode cX11_force 8 = .ok (.invokestatic 78, 3) := by decide +kernel
theorem dX11_force_11 : decode cX11_force 11 = .ok (.ifCond .ne 6, 3) := by decide +kernel
theorem dX11_force_14 : decode cX11_force 14 = .ok (.bipush (-2), 2) := by decide +kernel
theorem dX11_force_16 : decode cX11_force 16 = .ok (.ireturn, 1) := by decide +kernel
theorem dX11_force_17 : decode cX11_force 17 = .ok (.aload_n 0, 1) := by decide +kernel
theorem dX11_force_18 : decode cX11_force 18 = .ok (.getfield 95, 3) := by decide +kernel
theorem dX11_force_21 : decode cX11_force 21 = .ok (.istore_n 2, 1) := by decide +kernel
theorem dX11_force_22 : decode cX11_force 22 = .ok (.aload_n 0, 1) := by decide +kernel
theorem dX11_force_23 : decode cX11_force 23 = .ok (.iload_n 1, 1) := by decide +kernel
theorem dX11_force_24 : decode cX11_force 24 = .ok (.putfield 95, 3) := by decide +kernel
theorem dX11_force_27 : decode cX11_force 27 = .ok (.iload_n 2, 1) := by decide +kernel
theorem dX11_force_28 : decode cX11_force 28 = .ok (.ireturn, 1) := by decide +kernel
def f_X11_force (S : e_S) (l0 : Nat) (l1 : Int32) (g : e_G) : Option (Int32 × e_G) :=
  if e_ob S 11 l0 = true then
    (e_gI S g 11 l0 9).bind fun v1 =>
    (f_X11_in S l1 (0 : Int32) (v1 - (1 : Int32)) g).bind fun q4 =>
    if q4.1 = 0 then
      some ((-2 : Int32), q4.2)
    else
      (e_gI S q4.2 11 l0 10).bind fun v5 =>
      (e_sI S q4.2 11 l0 10 l1).bind fun g7 =>
      some (v5, g7)
  else none
theorem o_X11_force  {S : e_S} {w : Int32} {k : e_G} {l0 : Nat} {l1 : Int32} {g : e_G} (hf : f_X11_force S l0 l1 g = some (w, k)) : e_ob S 11 l0 = true := by
  unfold f_X11_force at hf
  by_cases hc : e_ob S 11 l0 = true
  · exact hc
  · rw [if_neg hc] at hf
    cases hf
theorem c_X11_force {l : Launch} {D : va_G}  {S : e_S} {w : Int32} {k : e_G} {l0 : Nat} {l1 : Int32} {g : e_G} (hf : f_X11_force S l0 l1 g = some (w, k)) : CT l D (e_R 2) M_X11_force [.ref l0, .int l1] (S, g) (some (.int w)) (S, k) := by
  refine CT.of (by decide +kernel) (Nat.le_of_ble_eq_true rfl) ?_
  have ho := o_X11_force hf
  unfold f_X11_force at hf
  rw [if_pos ho] at hf
  show X l D (e_R 2) M_X11_force 0 0 0 [(0, .ref l0), (1, .int l1)] [] (S, g) (some (.int w)) (S, k)
  refine X.iload_n dX11_force_0 rfl (j := 1) rfl ?_
  refine X.iconst dX11_force_1 kI_0 ?_
  refine X.aload_n dX11_force_2 rfl (j := 0) rfl ?_
  obtain ⟨v1, h2, hf⟩ := ob hf
  refine Y.getI dX11_force_3 fl_X11_92 rfl h2 ?_
  refine X.iconst dX11_force_6 kI_1 ?_
  refine X.isub dX11_force_7 ?_
  obtain ⟨q4, h3, hf⟩ := ob hf
  refine Y.callS (av := [.int l1, .int (0 : Int32), .int (v1 - (1 : Int32))]) dX11_force_8 (c_X11_in (l := l) (D := D) (w := q4.1) (k := q4.2) h3) cw_X11_78 mk_X11_in (e_R_ok (Nat.le_of_ble_eq_true rfl) (Nat.le_of_ble_eq_true rfl)) ⟨rfl, rfl⟩ (by simp [Value.category]) ?_
  refine X.if_ne dX11_force_11 (tgt := 17) rfl (fun hc => ?_) (fun hc => ?_)
  · rw [if_neg hc] at hf
    refine X.aload_n dX11_force_17 rfl (j := 0) rfl ?_
    obtain ⟨v5, h6, hf⟩ := ob hf
    refine Y.getI dX11_force_18 fl_X11_95 rfl h6 ?_
    refine X.istore_n dX11_force_21 rfl (Nat.le_of_ble_eq_true rfl) (lc' := [(2, .int v5), (0, .ref l0), (1, .int l1)]) rfl ?_
    refine X.aload_n dX11_force_22 rfl (j := 1) rfl ?_
    refine X.iload_n dX11_force_23 rfl (j := 2) rfl ?_
    obtain ⟨g7, h8, hf⟩ := ob hf
    refine Y.putI dX11_force_24 fl_X11_95 rfl rfl rfl rfl h8 ?_
    refine X.iload_n dX11_force_27 rfl (j := 0) rfl ?_
    obtain ⟨e1, e2⟩ := e_ret hf
    subst e1
    subst e2
    exact X.iret dX11_force_28 rfl rfl
  · rw [if_pos hc] at hf
    refine X.bipush dX11_force_14 kB_m2 ?_
    obtain ⟨e1, e2⟩ := e_ret hf
    subst e1
    subst e2
    exact X.iret dX11_force_16 rfl rfl
/-! LeanedOutModel.farOf(II)I -/
abbrev M_X11_farOf : e_M := (yX11_farOf, cX11_farOf, 3, (some .int))
theorem mk_X11_farOf : e_Mok M_X11_farOf 2 := ⟨by decide +kernel, by decide +kernel, by decide +kernel⟩
theorem dX11_farOf_0 : decode cX11_farOf 0 = .ok (.iload_n 0, 1) := by decide +kernel
theorem dX11_farOf_1 : decode cX11_farOf 1 = .ok (.bipush 10, 2) := by decide +kernel
theorem dX11_farOf_3 : decode cX11_farOf 3 = .ok (.irem, 1) := by decide +kernel
theorem dX11_farOf_4 : decode cX11_farOf 4 = .ok (.iload_n 1, 1) := by decide +kernel
theorem dX11_farOf_5 : decode cX11_farOf 5 = .ok (.bipush 10, 2) := by decide +kernel
theorem dX11_farOf_7 : decode cX11_farOf 7 = .ok (.irem, 1) := by decide +kernel
theorem dX11_farOf_8 : decode cX11_farOf 8 = .ok (.isub, 1) := by decide +kernel
theorem dX11_farOf_9 : decode cX11_farOf 9 = .ok (.istore_n 2, 1) := by decide +kernel
theorem dX11_farOf_10 : decode cX11_farOf 10 = .ok (.iload_n 2, 1) := by decide +kernel
theorem dX11_farOf_11 : decode cX11_farOf 11 = .ok (.ifCond .ge 8, 3) := by decide +kernel
theorem dX11_farOf_14 : decode cX11_farOf 14 = .ok (.iload_n 2, 1) := by decide +kernel
theorem dX11_farOf_15 : decode cX11_farOf 15 = .ok (.ineg, 1) := by decide +kernel
theorem dX11_farOf_16 : decode cX11_farOf 16 = .ok (.goto 4, 3) := by decide +kernel
theorem dX11_farOf_19 : decode cX11_farOf 19 = .ok (.iload_n 2, 1) := by decide +kernel
theorem dX11_farOf_20 : decode cX11_farOf 20 = .ok (.ireturn, 1) := by decide +kernel
def f_X11_farOf (S : e_S) (l0 : Int32) (l1 : Int32) (g : e_G) : Option (Int32 × e_G) :=
  if 0 ≤ ((i_rem l0 (10 : Int32)) - (i_rem l1 (10 : Int32))) then
    some ((i_rem l0 (10 : Int32)) - (i_rem l1 (10 : Int32)), g)
  else
    some (-((i_rem l0 (10 : Int32)) - (i_rem l1 (10 : Int32))), g)
theorem c_X11_farOf {l : Launch} {D : va_G}  {S : e_S} {w : Int32} {k : e_G} {l0 : Int32} {l1 : Int32} {g : e_G} (hf : f_X11_farOf S l0 l1 g = some (w, k)) : CT l D (e_R 1) M_X11_farOf [.int l0, .int l1] (S, g) (some (.int w)) (S, k) := by
  refine CT.of (by decide +kernel) (Nat.le_of_ble_eq_true rfl) ?_
  unfold f_X11_farOf at hf
  show X l D (e_R 1) M_X11_farOf 0 0 0 [(0, .int l0), (1, .int l1)] [] (S, g) (some (.int w)) (S, k)
  refine X.iload_n dX11_farOf_0 rfl (j := 0) rfl ?_
  refine X.bipush dX11_farOf_1 kB_10 ?_
  refine Y.irem dX11_farOf_3 (by decide) ?_
  refine X.iload_n dX11_farOf_4 rfl (j := 1) rfl ?_
  refine X.bipush dX11_farOf_5 kB_10 ?_
  refine Y.irem dX11_farOf_7 (by decide) ?_
  refine X.isub dX11_farOf_8 ?_
  refine X.istore_n dX11_farOf_9 rfl (Nat.le_of_ble_eq_true rfl) (lc' := [(2, .int ((i_rem l0 (10 : Int32)) - (i_rem l1 (10 : Int32)))), (0, .int l0), (1, .int l1)]) rfl ?_
  refine X.iload_n dX11_farOf_10 rfl (j := 0) rfl ?_
  refine X.if_ge dX11_farOf_11 (tgt := 19) rfl (fun hc => ?_) (fun hc => ?_)
  · rw [if_pos hc] at hf
    refine X.iload_n dX11_farOf_19 rfl (j := 0) rfl ?_
    obtain ⟨e1, e2⟩ := e_ret hf
    subst e1
    subst e2
    exact X.iret dX11_farOf_20 rfl rfl
  · rw [if_neg hc] at hf
    refine X.iload_n dX11_farOf_14 rfl (j := 0) rfl ?_
    refine X.ineg dX11_farOf_15 ?_
    refine X.goto dX11_farOf_16 (tgt := 20) rfl ?_
    obtain ⟨e1, e2⟩ := e_ret hf
    subst e1
    subst e2
    exact X.iret dX11_farOf_20 rfl rfl
/-! LeanedOutModel.besideOf(I)I -/
abbrev M_X11_besideOf : e_M := (yX11_besideOf, cX11_besideOf, 6, (some .int))
theorem mk_X11_besideOf : e_Mok M_X11_besideOf 1 := ⟨by decide +kernel, by decide +kernel, by decide +kernel⟩
theorem dX11_besideOf_0 : decode cX11_besideOf 0 = .ok (.iconst 0, 1) := by decide +kernel
theorem dX11_besideOf_1 : decode cX11_besideOf 1 = .ok (.istore_n 2, 1) := by decide +kernel
theorem dX11_besideOf_2 : decode cX11_besideOf 2 = .ok (.aload_n 0, 1) := by decide +kernel
theorem dX11_besideOf_3 : decode cX11_besideOf 3 = .ok (.getfield 16, 3) := by decide +kernel
theorem dX11_besideOf_6 : decode cX11_besideOf 6 = .ok (.iconst 4, 1) := by decide +kernel
theorem dX11_besideOf_7 : decode cX11_besideOf 7 = .ok (.iload_n 1, 1) := by decide +kernel
theorem dX11_besideOf_8 : decode cX11_besideOf 8 = .ok (.imul, 1) := by decide +kernel
theorem dX11_besideOf_9 : decode cX11_besideOf 9 = .ok (.iaload, 1) := by decide +kernel
theorem dX11_besideOf_10 : decode cX11_besideOf 10 = .ok (.istore_n 3, 1) := by decide +kernel
theorem dX11_besideOf_11 : decode cX11_besideOf 11 = .ok (.iconst 0, 1) := by decide +kernel
theorem dX11_besideOf_12 : decode cX11_besideOf 12 = .ok (.istore 4, 2) := by decide +kernel
theorem dX11_besideOf_14 : decode cX11_besideOf 14 = .ok (.iload 4, 2) := by decide +kernel
theorem dX11_besideOf_16 : decode cX11_besideOf 16 = .ok (.aload_n 0, 1) := by decide +kernel
theorem dX11_besideOf_17 : decode cX11_besideOf 17 = .ok (.getfield 75, 3) := by decide +kernel
theorem dX11_besideOf_20 : decode cX11_besideOf 20 = .ok (.if_icmp .ge 81, 3) := by decide +kernel
theorem dX11_besideOf_23 : decode cX11_besideOf 23 = .ok (.aload_n 0, 1) := by decide +kernel
theorem dX11_besideOf_24 : decode cX11_besideOf 24 = .ok (.getfield 16, 3) := by decide +kernel
theorem dX11_besideOf_27 : decode cX11_besideOf 27 = .ok (.iconst 4, 1) := by decide +kernel
theorem dX11_besideOf_28 : decode cX11_besideOf 28 = .ok (.iload 4, 2) := by decide +kernel
theorem dX11_besideOf_30 : decode cX11_besideOf 30 = .ok (.imul, 1) := by decide +kernel
theorem dX11_besideOf_31 : decode cX11_besideOf 31 = .ok (.iaload, 1) := by decide +kernel
theorem dX11_besideOf_32 : decode cX11_besideOf 32 = .ok (.bipush 10, 2) := by decide +kernel
theorem dX11_besideOf_34 : decode cX11_besideOf 34 = .ok (.idiv, 1) := by decide +kernel
theorem dX11_besideOf_35 : decode cX11_besideOf 35 = .ok (.iload_n 3, 1) := by decide +kernel
theorem dX11_besideOf_36 : decode cX11_besideOf 36 = .ok (.bipush 10, 2) := by decide +kernel
theorem dX11_besideOf_38 : decode cX11_besideOf 38 = .ok (.idiv, 1) := by decide +kernel
theorem dX11_besideOf_39 : decode cX11_besideOf 39 = .ok (.if_icmp .ne 24, 3) := by decide +kernel
theorem dX11_besideOf_42 : decode cX11_besideOf 42 = .ok (.aload_n 0, 1) := by decide +kernel
theorem dX11_besideOf_43 : decode cX11_besideOf 43 = .ok (.getfield 16, 3) := by decide +kernel
theorem dX11_besideOf_46 : decode cX11_besideOf 46 = .ok (.iconst 4, 1) := by decide +kernel
theorem dX11_besideOf_47 : decode cX11_besideOf 47 = .ok (.iload 4, 2) := by decide +kernel
theorem dX11_besideOf_49 : decode cX11_besideOf 49 = .ok (.imul, 1) := by decide +kernel
theorem dX11_besideOf_50 : decode cX11_besideOf 50 = .ok (.iaload, 1) := by decide +kernel
theorem dX11_besideOf_51 : decode cX11_besideOf 51 = .ok (.iload_n 3, 1) := by decide +kernel
theorem dX11_besideOf_52 : decode cX11_besideOf 52 = .ok (.invokestatic 161, 3) := by decide +kernel
theorem dX11_besideOf_55 : decode cX11_besideOf 55 = .ok (.iconst 1, 1) := by decide +kernel
theorem dX11_besideOf_56 : decode cX11_besideOf 56 = .ok (.if_icmp .ne 7, 3) := by decide +kernel
theorem dX11_besideOf_59 : decode cX11_besideOf 59 = .ok (.iconst 1, 1) := by decide +kernel
theorem dX11_besideOf_60 : decode cX11_besideOf 60 = .ok (.goto 4, 3) := by decide +kernel
theorem dX11_besideOf_63 : decode cX11_besideOf 63 = .ok (.iconst 0, 1) := by decide +kernel
theorem dX11_besideOf_64 : decode cX11_besideOf 64 = .ok (.istore 5, 2) := by decide +kernel
theorem dX11_besideOf_66 : decode cX11_besideOf 66 = .ok (.iload_n 2, 1) := by decide +kernel
theorem dX11_besideOf_67 : decode cX11_besideOf 67 = .ok (.iload 4, 2) := by decide +kernel
theorem dX11_besideOf_69 : decode cX11_besideOf 69 = .ok (.iload_n 1, 1) := by decide +kernel
theorem dX11_besideOf_70 : decode cX11_besideOf 70 = .ok (.if_icmp .eq 22, 3) := by decide +kernel
theorem dX11_besideOf_73 : decode cX11_besideOf 73 = .ok (.iload 5, 2) := by decide +kernel
theorem dX11_besideOf_75 : decode cX11_besideOf 75 = .ok (.ifCond .eq 17, 3) := by decide +kernel
theorem dX11_besideOf_78 : decode cX11_besideOf 78 = .ok (.aload_n 0, 1) := by decide +kernel
theorem dX11_besideOf_79 : decode cX11_besideOf 79 = .ok (.getfield 16, 3) := by decide +kernel
theorem dX11_besideOf_82 : decode cX11_besideOf 82 = .ok (.iconst 4, 1) := by decide +kernel
theorem dX11_besideOf_83 : decode cX11_besideOf 83 = .ok (.iload 4, 2) := by decide +kernel
theorem dX11_besideOf_85 : decode cX11_besideOf 85 = .ok (.imul, 1) := by decide +kernel
theorem dX11_besideOf_86 : decode cX11_besideOf 86 = .ok (.iconst 3, 1) := by decide +kernel
theorem dX11_besideOf_87 : decode cX11_besideOf 87 = .ok (.iadd, 1) := by decide +kernel
theorem dX11_besideOf_88 : decode cX11_besideOf 88 = .ok (.iaload, 1) := by decide +kernel
theorem dX11_besideOf_89 : decode cX11_besideOf 89 = .ok (.goto 4, 3) := by decide +kernel
theorem dX11_besideOf_92 : decode cX11_besideOf 92 = .ok (.iconst 0, 1) := by decide +kernel
theorem dX11_besideOf_93 : decode cX11_besideOf 93 = .ok (.iadd, 1) := by decide +kernel
theorem dX11_besideOf_94 : decode cX11_besideOf 94 = .ok (.istore_n 2, 1) := by decide +kernel
theorem dX11_besideOf_95 : decode cX11_besideOf 95 = .ok (.iinc 4 1, 3) := by decide +kernel
theorem dX11_besideOf_98 : decode cX11_besideOf 98 = .ok (.goto (-84), 3) := by decide +kernel
theorem dX11_besideOf_101 : decode cX11_besideOf 101 = .ok (.iload_n 2, 1) := by decide +kernel
theorem dX11_besideOf_102 : decode cX11_besideOf 102 = .ok (.ireturn, 1) := by decide +kernel
def J_X11_besideOf_93 (c14 : Nat → Int32 → Int32 → Int32 → Int32 → e_G → Option (Int32 × e_G)) (S : e_S) (l0 : Nat) (l1 : Int32) (l3 : Int32) (l4 : Int32) (t0 : Int32) (t1 : Int32) (g : e_G) : Option (Int32 × e_G) :=
  c14 l0 l1 (t0 + t1) l3 (l4 + (1 : Int32)) g
def J_X11_besideOf_92 (c14 : Nat → Int32 → Int32 → Int32 → Int32 → e_G → Option (Int32 × e_G)) (S : e_S) (l0 : Nat) (l1 : Int32) (l3 : Int32) (l4 : Int32) (t0 : Int32) (g : e_G) : Option (Int32 × e_G) :=
  J_X11_besideOf_93 c14 S l0 l1 l3 l4 t0 (0 : Int32) g
def J_X11_besideOf_64 (c14 : Nat → Int32 → Int32 → Int32 → Int32 → e_G → Option (Int32 × e_G)) (S : e_S) (l0 : Nat) (l1 : Int32) (l2 : Int32) (l3 : Int32) (l4 : Int32) (t0 : Int32) (g : e_G) : Option (Int32 × e_G) :=
  if l4 = l1 then
    J_X11_besideOf_92 c14 S l0 l1 l3 l4 l2 g
  else
    if t0 = 0 then
      J_X11_besideOf_92 c14 S l0 l1 l3 l4 l2 g
    else
      (e_gR S g 11 l0 3).bind fun v1 =>
      (e_aI S g 0 v1 (((4 : Int32) * l4) + (3 : Int32))).bind fun v3 =>
      J_X11_besideOf_93 c14 S l0 l1 l3 l4 l2 v3 g
def J_X11_besideOf_63 (c14 : Nat → Int32 → Int32 → Int32 → Int32 → e_G → Option (Int32 × e_G)) (S : e_S) (l0 : Nat) (l1 : Int32) (l2 : Int32) (l3 : Int32) (l4 : Int32) (g : e_G) : Option (Int32 × e_G) :=
  J_X11_besideOf_64 c14 S l0 l1 l2 l3 l4 (0 : Int32) g
def L_X11_besideOf_14 : Nat → e_S → Nat → Int32 → Int32 → Int32 → Int32 → e_G → Option (Int32 × e_G)
  | 0, _, _, _, _, _, _, _ => none
  | n + 1, S, l0, l1, l2, l3, l4, g =>
  (e_gI S g 11 l0 0).bind fun v1 =>
  if v1 ≤ l4 then
    some (l2, g)
  else
    (e_gR S g 11 l0 3).bind fun v3 =>
    (e_aI S g 0 v3 ((4 : Int32) * l4)).bind fun v5 =>
    if (v5 / (10 : Int32)) = (l3 / (10 : Int32)) then
      (e_gR S g 11 l0 3).bind fun v7 =>
      (e_aI S g 0 v7 ((4 : Int32) * l4)).bind fun v9 =>
      (f_X11_farOf S v9 l3 g).bind fun q12 =>
      if q12.1 = (1 : Int32) then
        J_X11_besideOf_64 (L_X11_besideOf_14 n S) S l0 l1 l2 l3 l4 (1 : Int32) q12.2
      else
        J_X11_besideOf_63 (L_X11_besideOf_14 n S) S l0 l1 l2 l3 l4 q12.2
    else
      J_X11_besideOf_63 (L_X11_besideOf_14 n S) S l0 l1 l2 l3 l4 g
def f_X11_besideOf (S : e_S) (l0 : Nat) (l1 : Int32) (g : e_G) : Option (Int32 × e_G) :=
  if e_ob S 11 l0 = true then
    (e_gR S g 11 l0 3).bind fun v1 =>
    (e_aI S g 0 v1 ((4 : Int32) * l1)).bind fun v3 =>
    L_X11_besideOf_14 50000 S l0 l1 (0 : Int32) v3 (0 : Int32) g
  else none
theorem x_J_X11_besideOf_93 {l : Launch} {D : va_G} {S : e_S} {w : Int32} {k : e_G} (c14 : Nat → Int32 → Int32 → Int32 → Int32 → e_G → Option (Int32 × e_G)) (hc14 : ∀ (l0 : Nat) (l1 : Int32) (l2 : Int32) (l3 : Int32) (l4 : Int32) (g : e_G), c14 l0 l1 l2 l3 l4 g = some (w, k) → X l D (e_R 2) M_X11_besideOf 0 0 14 [(0, .ref l0), (1, .int l1), (2, .int l2), (3, .int l3), (4, .int l4)] [] (S, g) (some (.int w)) (S, k)) {l0 : Nat} {l1 : Int32} {l3 : Int32} {l4 : Int32} {t0 : Int32} {t1 : Int32} {g : e_G} (hf : J_X11_besideOf_93 c14 S l0 l1 l3 l4 t0 t1 g = some (w, k)) : X l D (e_R 2) M_X11_besideOf 0 0 93 [(0, .ref l0), (1, .int l1), (3, .int l3), (4, .int l4)] [.int t1, .int t0] (S, g) (some (.int w)) (S, k) := by
  unfold J_X11_besideOf_93 at hf
  refine X.iadd dX11_besideOf_93 ?_
  refine X.istore_n dX11_besideOf_94 rfl (Nat.le_of_ble_eq_true rfl) (lc' := [(2, .int (t0 + t1)), (0, .ref l0), (1, .int l1), (3, .int l3), (4, .int l4)]) rfl ?_
  refine X.iinc (j := 4) dX11_besideOf_95 rfl (v := l4 + (1 : Int32)) (by rw [kI_1]) (Nat.le_of_ble_eq_true rfl) (lc' := [(4, .int (l4 + (1 : Int32))), (2, .int (t0 + t1)), (0, .ref l0), (1, .int l1), (3, .int l3)]) rfl ?_
  refine X.goto dX11_besideOf_98 (tgt := 14) rfl ?_
  refine X.sub [2, 3, 1, 4, 0] rfl ?_
  exact hc14 _ _ _ _ _ _ hf
theorem x_J_X11_besideOf_92 {l : Launch} {D : va_G} {S : e_S} {w : Int32} {k : e_G} (c14 : Nat → Int32 → Int32 → Int32 → Int32 → e_G → Option (Int32 × e_G)) (hc14 : ∀ (l0 : Nat) (l1 : Int32) (l2 : Int32) (l3 : Int32) (l4 : Int32) (g : e_G), c14 l0 l1 l2 l3 l4 g = some (w, k) → X l D (e_R 2) M_X11_besideOf 0 0 14 [(0, .ref l0), (1, .int l1), (2, .int l2), (3, .int l3), (4, .int l4)] [] (S, g) (some (.int w)) (S, k)) {l0 : Nat} {l1 : Int32} {l3 : Int32} {l4 : Int32} {t0 : Int32} {g : e_G} (hf : J_X11_besideOf_92 c14 S l0 l1 l3 l4 t0 g = some (w, k)) : X l D (e_R 2) M_X11_besideOf 0 0 92 [(0, .ref l0), (1, .int l1), (3, .int l3), (4, .int l4)] [.int t0] (S, g) (some (.int w)) (S, k) := by
  unfold J_X11_besideOf_92 at hf
  refine X.iconst dX11_besideOf_92 kI_0 ?_
  exact x_J_X11_besideOf_93 _ hc14 hf
theorem x_J_X11_besideOf_64 {l : Launch} {D : va_G} {S : e_S} {w : Int32} {k : e_G} (c14 : Nat → Int32 → Int32 → Int32 → Int32 → e_G → Option (Int32 × e_G)) (hc14 : ∀ (l0 : Nat) (l1 : Int32) (l2 : Int32) (l3 : Int32) (l4 : Int32) (g : e_G), c14 l0 l1 l2 l3 l4 g = some (w, k) → X l D (e_R 2) M_X11_besideOf 0 0 14 [(0, .ref l0), (1, .int l1), (2, .int l2), (3, .int l3), (4, .int l4)] [] (S, g) (some (.int w)) (S, k)) {l0 : Nat} {l1 : Int32} {l2 : Int32} {l3 : Int32} {l4 : Int32} {t0 : Int32} {g : e_G} (hf : J_X11_besideOf_64 c14 S l0 l1 l2 l3 l4 t0 g = some (w, k)) : X l D (e_R 2) M_X11_besideOf 0 0 64 [(0, .ref l0), (1, .int l1), (2, .int l2), (3, .int l3), (4, .int l4)] [.int t0] (S, g) (some (.int w)) (S, k) := by
  unfold J_X11_besideOf_64 at hf
  refine X.istore dX11_besideOf_64 (Nat.le_of_ble_eq_true rfl) (lc' := [(5, .int t0), (0, .ref l0), (1, .int l1), (2, .int l2), (3, .int l3), (4, .int l4)]) rfl ?_
  refine X.iload_n dX11_besideOf_66 rfl (j := 3) rfl ?_
  refine X.iload dX11_besideOf_67 (j := 5) rfl ?_
  refine X.iload_n dX11_besideOf_69 rfl (j := 2) rfl ?_
  refine X.icmp_eq dX11_besideOf_70 (tgt := 92) rfl (fun hc => ?_) (fun hc => ?_)
  · rw [if_pos hc] at hf
    refine X.sub [1, 2, 4, 5] rfl ?_
    exact x_J_X11_besideOf_92 _ hc14 hf
  · rw [if_neg hc] at hf
    refine X.iload dX11_besideOf_73 (j := 0) rfl ?_
    refine X.if_eq dX11_besideOf_75 (tgt := 92) rfl (fun hc => ?_) (fun hc => ?_)
    · rw [if_pos hc] at hf
      refine X.sub [1, 2, 4, 5] rfl ?_
      exact x_J_X11_besideOf_92 _ hc14 hf
    · rw [if_neg hc] at hf
      refine X.aload_n dX11_besideOf_78 rfl (j := 1) rfl ?_
      obtain ⟨v1, h2, hf⟩ := ob hf
      refine Y.getR dX11_besideOf_79 fl_X11_16 rfl h2 ?_
      refine X.iconst dX11_besideOf_82 kI_4 ?_
      refine X.iload dX11_besideOf_83 (j := 5) rfl ?_
      refine X.imul dX11_besideOf_85 ?_
      refine X.iconst dX11_besideOf_86 kI_3 ?_
      refine X.iadd dX11_besideOf_87 ?_
      obtain ⟨v3, h4, hf⟩ := ob hf
      refine Y.iald dX11_besideOf_88 h4 ?_
      refine X.goto dX11_besideOf_89 (tgt := 93) rfl ?_
      refine X.sub [1, 2, 4, 5] rfl ?_
      exact x_J_X11_besideOf_93 _ hc14 hf
theorem x_J_X11_besideOf_63 {l : Launch} {D : va_G} {S : e_S} {w : Int32} {k : e_G} (c14 : Nat → Int32 → Int32 → Int32 → Int32 → e_G → Option (Int32 × e_G)) (hc14 : ∀ (l0 : Nat) (l1 : Int32) (l2 : Int32) (l3 : Int32) (l4 : Int32) (g : e_G), c14 l0 l1 l2 l3 l4 g = some (w, k) → X l D (e_R 2) M_X11_besideOf 0 0 14 [(0, .ref l0), (1, .int l1), (2, .int l2), (3, .int l3), (4, .int l4)] [] (S, g) (some (.int w)) (S, k)) {l0 : Nat} {l1 : Int32} {l2 : Int32} {l3 : Int32} {l4 : Int32} {g : e_G} (hf : J_X11_besideOf_63 c14 S l0 l1 l2 l3 l4 g = some (w, k)) : X l D (e_R 2) M_X11_besideOf 0 0 63 [(0, .ref l0), (1, .int l1), (2, .int l2), (3, .int l3), (4, .int l4)] [] (S, g) (some (.int w)) (S, k) := by
  unfold J_X11_besideOf_63 at hf
  refine X.iconst dX11_besideOf_63 kI_0 ?_
  exact x_J_X11_besideOf_64 _ hc14 hf
theorem x_L_X11_besideOf_14 {l : Launch} {D : va_G} {S : e_S} {w : Int32} {k : e_G} : ∀ (n : Nat) (l0 : Nat) (l1 : Int32) (l2 : Int32) (l3 : Int32) (l4 : Int32) (g : e_G), L_X11_besideOf_14 n S l0 l1 l2 l3 l4 g = some (w, k) → X l D (e_R 2) M_X11_besideOf 0 0 14 [(0, .ref l0), (1, .int l1), (2, .int l2), (3, .int l3), (4, .int l4)] [] (S, g) (some (.int w)) (S, k) := by
  intro n
  induction n with
  | zero =>
    intro l0 l1 l2 l3 l4 g hf
    cases hf
  | succ n ih =>
    intro l0 l1 l2 l3 l4 g hf
    rw [L_X11_besideOf_14] at hf
    refine X.iload dX11_besideOf_14 (j := 4) rfl ?_
    refine X.aload_n dX11_besideOf_16 rfl (j := 0) rfl ?_
    obtain ⟨v1, h2, hf⟩ := ob hf
    refine Y.getI dX11_besideOf_17 fl_X11_75 rfl h2 ?_
    refine X.icmp_ge dX11_besideOf_20 (tgt := 101) rfl (fun hc => ?_) (fun hc => ?_)
    · rw [if_pos hc] at hf
      refine X.iload_n dX11_besideOf_101 rfl (j := 2) rfl ?_
      obtain ⟨e1, e2⟩ := e_ret hf
      subst e1
      subst e2
      exact X.iret dX11_besideOf_102 rfl rfl
    · rw [if_neg hc] at hf
      refine X.aload_n dX11_besideOf_23 rfl (j := 0) rfl ?_
      obtain ⟨v3, h4, hf⟩ := ob hf
      refine Y.getR dX11_besideOf_24 fl_X11_16 rfl h4 ?_
      refine X.iconst dX11_besideOf_27 kI_4 ?_
      refine X.iload dX11_besideOf_28 (j := 4) rfl ?_
      refine X.imul dX11_besideOf_30 ?_
      obtain ⟨v5, h6, hf⟩ := ob hf
      refine Y.iald dX11_besideOf_31 h6 ?_
      refine X.bipush dX11_besideOf_32 kB_10 ?_
      refine X.idiv dX11_besideOf_34 (by decide) ?_
      refine X.iload_n dX11_besideOf_35 rfl (j := 3) rfl ?_
      refine X.bipush dX11_besideOf_36 kB_10 ?_
      refine X.idiv dX11_besideOf_38 (by decide) ?_
      refine X.icmp_ne dX11_besideOf_39 (tgt := 63) rfl (fun hc => ?_) (fun hc => ?_)
      · rw [if_neg hc] at hf
        exact x_J_X11_besideOf_63 _ ih hf
      · rw [if_pos hc] at hf
        refine X.aload_n dX11_besideOf_42 rfl (j := 0) rfl ?_
        obtain ⟨v7, h8, hf⟩ := ob hf
        refine Y.getR dX11_besideOf_43 fl_X11_16 rfl h8 ?_
        refine X.iconst dX11_besideOf_46 kI_4 ?_
        refine X.iload dX11_besideOf_47 (j := 4) rfl ?_
        refine X.imul dX11_besideOf_49 ?_
        obtain ⟨v9, h10, hf⟩ := ob hf
        refine Y.iald dX11_besideOf_50 h10 ?_
        refine X.iload_n dX11_besideOf_51 rfl (j := 3) rfl ?_
        obtain ⟨q12, h11, hf⟩ := ob hf
        refine Y.callS (av := [.int v9, .int l3]) dX11_besideOf_52 (c_X11_farOf (l := l) (D := D) (w := q12.1) (k := q12.2) h11) cw_X11_161 mk_X11_farOf (e_R_ok (Nat.le_of_ble_eq_true rfl) (Nat.le_of_ble_eq_true rfl)) ⟨rfl, rfl⟩ (by simp [Value.category]) ?_
        refine X.iconst dX11_besideOf_55 kI_1 ?_
        refine X.icmp_ne dX11_besideOf_56 (tgt := 63) rfl (fun hc => ?_) (fun hc => ?_)
        · rw [if_neg hc] at hf
          exact x_J_X11_besideOf_63 _ ih hf
        · rw [if_pos hc] at hf
          refine X.iconst dX11_besideOf_59 kI_1 ?_
          refine X.goto dX11_besideOf_60 (tgt := 64) rfl ?_
          exact x_J_X11_besideOf_64 _ ih hf
theorem o_X11_besideOf  {S : e_S} {w : Int32} {k : e_G} {l0 : Nat} {l1 : Int32} {g : e_G} (hf : f_X11_besideOf S l0 l1 g = some (w, k)) : e_ob S 11 l0 = true := by
  unfold f_X11_besideOf at hf
  by_cases hc : e_ob S 11 l0 = true
  · exact hc
  · rw [if_neg hc] at hf
    cases hf
theorem c_X11_besideOf {l : Launch} {D : va_G}  {S : e_S} {w : Int32} {k : e_G} {l0 : Nat} {l1 : Int32} {g : e_G} (hf : f_X11_besideOf S l0 l1 g = some (w, k)) : CT l D (e_R 2) M_X11_besideOf [.ref l0, .int l1] (S, g) (some (.int w)) (S, k) := by
  refine CT.of (by decide +kernel) (Nat.le_of_ble_eq_true rfl) ?_
  have ho := o_X11_besideOf hf
  unfold f_X11_besideOf at hf
  rw [if_pos ho] at hf
  show X l D (e_R 2) M_X11_besideOf 0 0 0 [(0, .ref l0), (1, .int l1)] [] (S, g) (some (.int w)) (S, k)
  refine X.iconst dX11_besideOf_0 kI_0 ?_
  refine X.istore_n dX11_besideOf_1 rfl (Nat.le_of_ble_eq_true rfl) (lc' := [(2, .int (0 : Int32)), (0, .ref l0), (1, .int l1)]) rfl ?_
  refine X.aload_n dX11_besideOf_2 rfl (j := 1) rfl ?_
  obtain ⟨v1, h2, hf⟩ := ob hf
  refine Y.getR dX11_besideOf_3 fl_X11_16 rfl h2 ?_
  refine X.iconst dX11_besideOf_6 kI_4 ?_
  refine X.iload_n dX11_besideOf_7 rfl (j := 2) rfl ?_
  refine X.imul dX11_besideOf_8 ?_
  obtain ⟨v3, h4, hf⟩ := ob hf
  refine Y.iald dX11_besideOf_9 h4 ?_
  refine X.istore_n dX11_besideOf_10 rfl (Nat.le_of_ble_eq_true rfl) (lc' := [(3, .int v3), (2, .int (0 : Int32)), (0, .ref l0), (1, .int l1)]) rfl ?_
  refine X.iconst dX11_besideOf_11 kI_0 ?_
  refine X.istore dX11_besideOf_12 (Nat.le_of_ble_eq_true rfl) (lc' := [(4, .int (0 : Int32)), (3, .int v3), (2, .int (0 : Int32)), (0, .ref l0), (1, .int l1)]) rfl ?_
  refine X.sub [3, 4, 2, 1, 0] rfl ?_
  exact x_L_X11_besideOf_14 50000 _ _ _ _ _ _ hf
/-! LeanedOutModel.lookersOf(I)I -/
abbrev M_X11_lookersOf : e_M := (yX11_lookersOf, cX11_lookersOf, 4, (some .int))
theorem mk_X11_lookersOf : e_Mok M_X11_lookersOf 1 := ⟨by decide +kernel, by decide +kernel, by decide +kernel⟩
theorem dX11_lookersOf_0 : decode cX11_lookersOf 0 = .ok (.iconst 0, 1) := by decide +kernel
theorem dX11_lookersOf_1 : decode cX11_lookersOf 1 = .ok (.istore_n 2, 1) := by decide +kernel
theorem dX11_lookersOf_2 : decode cX11_lookersOf 2 = .ok (.iconst 0, 1) := by decide +kernel
theorem dX11_lookersOf_3 : decode cX11_lookersOf 3 = .ok (.istore_n 3, 1) := by decide +kernel
theorem dX11_lookersOf_4 : decode cX11_lookersOf 4 = .ok (.iload_n 3, 1) := by decide +kernel
theorem dX11_lookersOf_5 : decode cX11_lookersOf 5 = .ok (.aload_n 0, 1) := by decide +kernel
theorem dX11_lookersOf_6 : decode cX11_lookersOf 6 = .ok (.getfield 75, 3) := by decide +kernel
theorem dX11_lookersOf_9 : decode cX11_lookersOf 9 = .ok (.if_icmp .ge 31, 3) := by decide +kernel
theorem dX11_lookersOf_12 : decode cX11_lookersOf 12 = .ok (.iload_n 2, 1) := by decide +kernel
theorem dX11_lookersOf_13 : decode cX11_lookersOf 13 = .ok (.aload_n 0, 1) := by decide +kernel
theorem dX11_lookersOf_14 : decode cX11_lookersOf 14 = .ok (.getfield 16, 3) := by decide +kernel
theorem dX11_lookersOf_17 : decode cX11_lookersOf 17 = .ok (.iconst 4, 1) := by decide +kernel
theorem dX11_lookersOf_18 : decode cX11_lookersOf 18 = .ok (.iload_n 3, 1) := by decide +kernel
theorem dX11_lookersOf_19 : decode cX11_lookersOf 19 = .ok (.imul, 1) := by decide +kernel
theorem dX11_lookersOf_20 : decode cX11_lookersOf 20 = .ok (.iconst 1, 1) := by decide +kernel
theorem dX11_lookersOf_21 : decode cX11_lookersOf 21 = .ok (.iadd, 1) := by decide +kernel
theorem dX11_lookersOf_22 : decode cX11_lookersOf 22 = .ok (.iaload, 1) := by decide +kernel
theorem dX11_lookersOf_23 : decode cX11_lookersOf 23 = .ok (.iload_n 1, 1) := by decide +kernel
theorem dX11_lookersOf_24 : decode cX11_lookersOf 24 = .ok (.if_icmp .ne 7, 3) := by decide +kernel
theorem dX11_lookersOf_27 : decode cX11_lookersOf 27 = .ok (.iconst 1, 1) := by decide +kernel
theorem dX11_lookersOf_28 : decode cX11_lookersOf 28 = .ok (.goto 4, 3) := by decide +kernel
theorem dX11_lookersOf_31 : decode cX11_lookersOf 31 = .ok (.iconst 0, 1) := by decide +kernel
theorem dX11_lookersOf_32 : decode cX11_lookersOf 32 = .ok (.iadd, 1) := by decide +kernel
theorem dX11_lookersOf_33 : decode cX11_lookersOf 33 = .ok (.istore_n 2, 1) := by decide +kernel
theorem dX11_lookersOf_34 : decode cX11_lookersOf 34 = .ok (.iinc 3 1, 3) := by decide +kernel
theorem dX11_lookersOf_37 : decode cX11_lookersOf 37 = .ok (.goto (-33), 3) := by decide +kernel
theorem dX11_lookersOf_40 : decode cX11_lookersOf 40 = .ok (.iload_n 2, 1) := by decide +kernel
theorem dX11_lookersOf_41 : decode cX11_lookersOf 41 = .ok (.ireturn, 1) := by decide +kernel
def J_X11_lookersOf_32 (c4 : Nat → Int32 → Int32 → Int32 → e_G → Option (Int32 × e_G)) (S : e_S) (l0 : Nat) (l1 : Int32) (l3 : Int32) (t0 : Int32) (t1 : Int32) (g : e_G) : Option (Int32 × e_G) :=
  c4 l0 l1 (t0 + t1) (l3 + (1 : Int32)) g
def L_X11_lookersOf_4 : Nat → e_S → Nat → Int32 → Int32 → Int32 → e_G → Option (Int32 × e_G)
  | 0, _, _, _, _, _, _ => none
  | n + 1, S, l0, l1, l2, l3, g =>
  (e_gI S g 11 l0 0).bind fun v1 =>
  if v1 ≤ l3 then
    some (l2, g)
  else
    (e_gR S g 11 l0 3).bind fun v3 =>
    (e_aI S g 0 v3 (((4 : Int32) * l3) + (1 : Int32))).bind fun v5 =>
    if v5 = l1 then
      J_X11_lookersOf_32 (L_X11_lookersOf_4 n S) S l0 l1 l3 l2 (1 : Int32) g
    else
      J_X11_lookersOf_32 (L_X11_lookersOf_4 n S) S l0 l1 l3 l2 (0 : Int32) g
def f_X11_lookersOf (S : e_S) (l0 : Nat) (l1 : Int32) (g : e_G) : Option (Int32 × e_G) :=
  if e_ob S 11 l0 = true then
    L_X11_lookersOf_4 50000 S l0 l1 (0 : Int32) (0 : Int32) g
  else none
theorem x_J_X11_lookersOf_32 {l : Launch} {D : va_G} {S : e_S} {w : Int32} {k : e_G} (c4 : Nat → Int32 → Int32 → Int32 → e_G → Option (Int32 × e_G)) (hc4 : ∀ (l0 : Nat) (l1 : Int32) (l2 : Int32) (l3 : Int32) (g : e_G), c4 l0 l1 l2 l3 g = some (w, k) → X l D (e_R 1) M_X11_lookersOf 0 0 4 [(0, .ref l0), (1, .int l1), (2, .int l2), (3, .int l3)] [] (S, g) (some (.int w)) (S, k)) {l0 : Nat} {l1 : Int32} {l3 : Int32} {t0 : Int32} {t1 : Int32} {g : e_G} (hf : J_X11_lookersOf_32 c4 S l0 l1 l3 t0 t1 g = some (w, k)) : X l D (e_R 1) M_X11_lookersOf 0 0 32 [(0, .ref l0), (1, .int l1), (3, .int l3)] [.int t1, .int t0] (S, g) (some (.int w)) (S, k) := by
  unfold J_X11_lookersOf_32 at hf
  refine X.iadd dX11_lookersOf_32 ?_
  refine X.istore_n dX11_lookersOf_33 rfl (Nat.le_of_ble_eq_true rfl) (lc' := [(2, .int (t0 + t1)), (0, .ref l0), (1, .int l1), (3, .int l3)]) rfl ?_
  refine X.iinc (j := 3) dX11_lookersOf_34 rfl (v := l3 + (1 : Int32)) (by rw [kI_1]) (Nat.le_of_ble_eq_true rfl) (lc' := [(3, .int (l3 + (1 : Int32))), (2, .int (t0 + t1)), (0, .ref l0), (1, .int l1)]) rfl ?_
  refine X.goto dX11_lookersOf_37 (tgt := 4) rfl ?_
  refine X.sub [2, 3, 1, 0] rfl ?_
  exact hc4 _ _ _ _ _ hf
theorem x_L_X11_lookersOf_4 {l : Launch} {D : va_G} {S : e_S} {w : Int32} {k : e_G} : ∀ (n : Nat) (l0 : Nat) (l1 : Int32) (l2 : Int32) (l3 : Int32) (g : e_G), L_X11_lookersOf_4 n S l0 l1 l2 l3 g = some (w, k) → X l D (e_R 1) M_X11_lookersOf 0 0 4 [(0, .ref l0), (1, .int l1), (2, .int l2), (3, .int l3)] [] (S, g) (some (.int w)) (S, k) := by
  intro n
  induction n with
  | zero =>
    intro l0 l1 l2 l3 g hf
    cases hf
  | succ n ih =>
    intro l0 l1 l2 l3 g hf
    rw [L_X11_lookersOf_4] at hf
    refine X.iload_n dX11_lookersOf_4 rfl (j := 3) rfl ?_
    refine X.aload_n dX11_lookersOf_5 rfl (j := 0) rfl ?_
    obtain ⟨v1, h2, hf⟩ := ob hf
    refine Y.getI dX11_lookersOf_6 fl_X11_75 rfl h2 ?_
    refine X.icmp_ge dX11_lookersOf_9 (tgt := 40) rfl (fun hc => ?_) (fun hc => ?_)
    · rw [if_pos hc] at hf
      refine X.iload_n dX11_lookersOf_40 rfl (j := 2) rfl ?_
      obtain ⟨e1, e2⟩ := e_ret hf
      subst e1
      subst e2
      exact X.iret dX11_lookersOf_41 rfl rfl
    · rw [if_neg hc] at hf
      refine X.iload_n dX11_lookersOf_12 rfl (j := 2) rfl ?_
      refine X.aload_n dX11_lookersOf_13 rfl (j := 0) rfl ?_
      obtain ⟨v3, h4, hf⟩ := ob hf
      refine Y.getR dX11_lookersOf_14 fl_X11_16 rfl h4 ?_
      refine X.iconst dX11_lookersOf_17 kI_4 ?_
      refine X.iload_n dX11_lookersOf_18 rfl (j := 3) rfl ?_
      refine X.imul dX11_lookersOf_19 ?_
      refine X.iconst dX11_lookersOf_20 kI_1 ?_
      refine X.iadd dX11_lookersOf_21 ?_
      obtain ⟨v5, h6, hf⟩ := ob hf
      refine Y.iald dX11_lookersOf_22 h6 ?_
      refine X.iload_n dX11_lookersOf_23 rfl (j := 1) rfl ?_
      refine X.icmp_ne dX11_lookersOf_24 (tgt := 31) rfl (fun hc => ?_) (fun hc => ?_)
      · rw [if_neg hc] at hf
        refine X.iconst dX11_lookersOf_31 kI_0 ?_
        refine X.sub [0, 1, 3] rfl ?_
        exact x_J_X11_lookersOf_32 _ ih hf
      · rw [if_pos hc] at hf
        refine X.iconst dX11_lookersOf_27 kI_1 ?_
        refine X.goto dX11_lookersOf_28 (tgt := 32) rfl ?_
        refine X.sub [0, 1, 3] rfl ?_
        exact x_J_X11_lookersOf_32 _ ih hf
theorem o_X11_lookersOf  {S : e_S} {w : Int32} {k : e_G} {l0 : Nat} {l1 : Int32} {g : e_G} (hf : f_X11_lookersOf S l0 l1 g = some (w, k)) : e_ob S 11 l0 = true := by
  unfold f_X11_lookersOf at hf
  by_cases hc : e_ob S 11 l0 = true
  · exact hc
  · rw [if_neg hc] at hf
    cases hf
theorem c_X11_lookersOf {l : Launch} {D : va_G}  {S : e_S} {w : Int32} {k : e_G} {l0 : Nat} {l1 : Int32} {g : e_G} (hf : f_X11_lookersOf S l0 l1 g = some (w, k)) : CT l D (e_R 1) M_X11_lookersOf [.ref l0, .int l1] (S, g) (some (.int w)) (S, k) := by
  refine CT.of (by decide +kernel) (Nat.le_of_ble_eq_true rfl) ?_
  have ho := o_X11_lookersOf hf
  unfold f_X11_lookersOf at hf
  rw [if_pos ho] at hf
  show X l D (e_R 1) M_X11_lookersOf 0 0 0 [(0, .ref l0), (1, .int l1)] [] (S, g) (some (.int w)) (S, k)
  refine X.iconst dX11_lookersOf_0 kI_0 ?_
  refine X.istore_n dX11_lookersOf_1 rfl (Nat.le_of_ble_eq_true rfl) (lc' := [(2, .int (0 : Int32)), (0, .ref l0), (1, .int l1)]) rfl ?_
  refine X.iconst dX11_lookersOf_2 kI_0 ?_
  refine X.istore_n dX11_lookersOf_3 rfl (Nat.le_of_ble_eq_true rfl) (lc' := [(3, .int (0 : Int32)), (2, .int (0 : Int32)), (0, .ref l0), (1, .int l1)]) rfl ?_
  refine X.sub [2, 3, 1, 0] rfl ?_
  exact x_L_X11_lookersOf_4 50000 _ _ _ _ _ hf
/-! LeanedOutModel.isMet(I)Z -/
abbrev M_X11_isMet : e_M := (yX11_isMet, cX11_isMet, 3, (some .boolean))
theorem mk_X11_isMet : e_Mok M_X11_isMet 1 := ⟨by decide +kernel, by decide +kernel, by decide +kernel⟩
theorem dX11_isMet_0 : decode cX11_isMet 0 = .ok (.aload_n 0, 1) := by decide +kernel
theorem dX11_isMet_1 : decode cX11_isMet 1 = .ok (.aload_n 0, 1) := by decide +kernel
theorem dX11_isMet_2 : decode cX11_isMet 2 = .ok (.getfield 16, 3) := by decide +kernel
theorem dX11_isMet_5 : decode cX11_isMet 5 = .ok (.iconst 4, 1) := by decide +kernel
theorem dX11_isMet_6 : decode cX11_isMet 6 = .ok (.iload_n 1, 1) := by decide +kernel
theorem dX11_isMet_7 : decode cX11_isMet 7 = .ok (.imul, 1) := by decide +kernel
theorem dX11_isMet_8 : decode cX11_isMet 8 = .ok (.iconst 1, 1) := by decide +kernel
theorem dX11_isMet_9 : decode cX11_isMet 9 = .ok (.iadd, 1) := by decide +kernel
theorem dX11_isMet_10 : decode cX11_isMet 10 = .ok (.iaload, 1) := by decide +kernel
theorem dX11_isMet_11 : decode cX11_isMet 11 = .ok (.invokevirtual 164, 3) := by decide +kernel
theorem dX11_isMet_14 : decode cX11_isMet 14 = .ok (.istore_n 2, 1) := by decide +kernel
theorem dX11_isMet_15 : decode cX11_isMet 15 = .ok (.iload_n 2, 1) := by decide +kernel
theorem dX11_isMet_16 : decode cX11_isMet 16 = .ok (.iconst (-1), 1) := by decide +kernel
theorem dX11_isMet_17 : decode cX11_isMet 17 = .ok (.if_icmp .eq 33, 3) := by decide +kernel
theorem dX11_isMet_20 : decode cX11_isMet 20 = .ok (.aload_n 0, 1) := by decide +kernel
theorem dX11_isMet_21 : decode cX11_isMet 21 = .ok (.getfield 16, 3) := by decide +kernel
theorem dX11_isMet_24 : decode cX11_isMet 24 = .ok (.iconst 4, 1) := by decide +kernel
theorem dX11_isMet_25 : decode cX11_isMet 25 = .ok (.iload_n 2, 1) := by decide +kernel
theorem dX11_isMet_26 : decode cX11_isMet 26 = .ok (.iconst 0, 1) := by decide +kernel
theorem dX11_isMet_27 : decode cX11_isMet 27 = .ok (.iconst 5, 1) := by decide +kernel
theorem dX11_isMet_28 : decode cX11_isMet 28 = .ok (.invokestatic 167, 3) := by decide +kernel
theorem dX11_isMet_31 : decode cX11_isMet 31 = .ok (.imul, 1) := by decide +kernel
theorem dX11_isMet_32 : decode cX11_isMet 32 = .ok (.iconst 1, 1) := by decide +kernel
theorem dX11_isMet_33 : decode cX11_isMet 33 = .ok (.iadd, 1) := by decide +kernel
theorem dX11_isMet_34 : decode cX11_isMet 34 = .ok (.iaload, 1) := by decide +kernel
theorem dX11_isMet_35 : decode cX11_isMet 35 = .ok (.aload_n 0, 1) := by decide +kernel
theorem dX11_isMet_36 : decode cX11_isMet 36 = .ok (.getfield 16, 3) := by decide +kernel
theorem dX11_isMet_39 : decode cX11_isMet 39 = .ok (.iconst 4, 1) := by decide +kernel
theorem dX11_isMet_40 : decode cX11_isMet 40 = .ok (.iload_n 1, 1) := by decide +kernel
theorem dX11_isMet_41 : decode cX11_isMet 41 = .ok (.imul, 1) := by decide +kernel
theorem dX11_isMet_42 : decode cX11_isMet 42 = .ok (.iaload, 1) := by decide +kernel
theorem dX11_isMet_43 : decode cX11_isMet 43 = .ok (.if_icmp .ne 7, 3) := by decide +kernel
theorem dX11_isMet_46 : decode cX11_isMet 46 = .ok (.iconst 1, 1) := by decide +kernel
theorem dX11_isMet_47 : decode cX11_isMet 47 = .ok (.goto 4, 3) := by decide +kernel
theorem dX11_isMet_50 : decode cX11_isMet 50 = .ok (.iconst 0, 1) := by decide +kernel
theorem dX11_isMet_51 : decode cX11_isMet 51 = .ok (.ireturn, 1) := by decide +kernel
def f_X11_isMet (S : e_S) (l0 : Nat) (l1 : Int32) (g : e_G) : Option (Int32 × e_G) :=
  if e_ob S 11 l0 = true then
    (e_gR S g 11 l0 3).bind fun v1 =>
    (e_aI S g 0 v1 (((4 : Int32) * l1) + (1 : Int32))).bind fun v3 =>
    (f_X11_whoAt S l0 v3 g).bind fun q6 =>
    if q6.1 = (-1 : Int32) then
      some ((0 : Int32), q6.2)
    else
      (e_gR S q6.2 11 l0 3).bind fun v7 =>
      (f_X11_within S q6.1 (0 : Int32) (5 : Int32) q6.2).bind fun q10 =>
      (e_aI S q10.2 0 v7 (((4 : Int32) * q10.1) + (1 : Int32))).bind fun v11 =>
      (e_gR S q10.2 11 l0 3).bind fun v13 =>
      (e_aI S q10.2 0 v13 ((4 : Int32) * l1)).bind fun v15 =>
      if v11 = v15 then
        some ((1 : Int32), q10.2)
      else
        some ((0 : Int32), q10.2)
  else none
theorem o_X11_isMet  {S : e_S} {w : Int32} {k : e_G} {l0 : Nat} {l1 : Int32} {g : e_G} (hf : f_X11_isMet S l0 l1 g = some (w, k)) : e_ob S 11 l0 = true := by
  unfold f_X11_isMet at hf
  by_cases hc : e_ob S 11 l0 = true
  · exact hc
  · rw [if_neg hc] at hf
    cases hf
theorem c_X11_isMet {l : Launch} {D : va_G}  {S : e_S} {w : Int32} {k : e_G} {l0 : Nat} {l1 : Int32} {g : e_G} (hf : f_X11_isMet S l0 l1 g = some (w, k)) : CT l D (e_R 2) M_X11_isMet [.ref l0, .int l1] (S, g) (some (.int w)) (S, k) := by
  refine CT.of (by decide +kernel) (Nat.le_of_ble_eq_true rfl) ?_
  have ho := o_X11_isMet hf
  unfold f_X11_isMet at hf
  rw [if_pos ho] at hf
  show X l D (e_R 2) M_X11_isMet 0 0 0 [(0, .ref l0), (1, .int l1)] [] (S, g) (some (.int w)) (S, k)
  refine X.aload_n dX11_isMet_0 rfl (j := 0) rfl ?_
  refine X.aload_n dX11_isMet_1 rfl (j := 0) rfl ?_
  obtain ⟨v1, h2, hf⟩ := ob hf
  refine Y.getR dX11_isMet_2 fl_X11_16 rfl h2 ?_
  refine X.iconst dX11_isMet_5 kI_4 ?_
  refine X.iload_n dX11_isMet_6 rfl (j := 1) rfl ?_
  refine X.imul dX11_isMet_7 ?_
  refine X.iconst dX11_isMet_8 kI_1 ?_
  refine X.iadd dX11_isMet_9 ?_
  obtain ⟨v3, h4, hf⟩ := ob hf
  refine Y.iald dX11_isMet_10 h4 ?_
  obtain ⟨q6, h5, hf⟩ := ob hf
  refine Y.callV (av := [.int v3]) (ci := 11) dX11_isMet_11 (c_X11_whoAt (l := l) (D := D) (w := q6.1) (k := q6.2) h5) cw_X11_164 (by decide) rfl mk_X11_whoAt (o_X11_whoAt (w := q6.1) (k := q6.2) h5) (e_R_ok (Nat.le_of_ble_eq_true rfl) (Nat.le_of_ble_eq_true rfl)) ⟨rfl, rfl⟩ (by simp [Value.category]) ?_
  refine X.istore_n dX11_isMet_14 rfl (Nat.le_of_ble_eq_true rfl) (lc' := [(2, .int q6.1), (0, .ref l0), (1, .int l1)]) rfl ?_
  refine X.iload_n dX11_isMet_15 rfl (j := 0) rfl ?_
  refine X.iconst dX11_isMet_16 kI_m1 ?_
  refine X.icmp_eq dX11_isMet_17 (tgt := 50) rfl (fun hc => ?_) (fun hc => ?_)
  · rw [if_pos hc] at hf
    refine X.iconst dX11_isMet_50 kI_0 ?_
    obtain ⟨e1, e2⟩ := e_ret hf
    subst e1
    subst e2
    exact X.iret dX11_isMet_51 rfl rfl
  · rw [if_neg hc] at hf
    refine X.aload_n dX11_isMet_20 rfl (j := 1) rfl ?_
    obtain ⟨v7, h8, hf⟩ := ob hf
    refine Y.getR dX11_isMet_21 fl_X11_16 rfl h8 ?_
    refine X.iconst dX11_isMet_24 kI_4 ?_
    refine X.iload_n dX11_isMet_25 rfl (j := 0) rfl ?_
    refine X.iconst dX11_isMet_26 kI_0 ?_
    refine X.iconst dX11_isMet_27 kI_5 ?_
    obtain ⟨q10, h9, hf⟩ := ob hf
    refine Y.callS (av := [.int q6.1, .int (0 : Int32), .int (5 : Int32)]) dX11_isMet_28 (c_X11_within (l := l) (D := D) (w := q10.1) (k := q10.2) h9) cw_X11_167 mk_X11_within (e_R_ok (Nat.le_of_ble_eq_true rfl) (Nat.le_of_ble_eq_true rfl)) ⟨rfl, rfl⟩ (by simp [Value.category]) ?_
    refine X.imul dX11_isMet_31 ?_
    refine X.iconst dX11_isMet_32 kI_1 ?_
    refine X.iadd dX11_isMet_33 ?_
    obtain ⟨v11, h12, hf⟩ := ob hf
    refine Y.iald dX11_isMet_34 h12 ?_
    refine X.aload_n dX11_isMet_35 rfl (j := 1) rfl ?_
    obtain ⟨v13, h14, hf⟩ := ob hf
    refine Y.getR dX11_isMet_36 fl_X11_16 rfl h14 ?_
    refine X.iconst dX11_isMet_39 kI_4 ?_
    refine X.iload_n dX11_isMet_40 rfl (j := 2) rfl ?_
    refine X.imul dX11_isMet_41 ?_
    obtain ⟨v15, h16, hf⟩ := ob hf
    refine Y.iald dX11_isMet_42 h16 ?_
    refine X.icmp_ne dX11_isMet_43 (tgt := 50) rfl (fun hc => ?_) (fun hc => ?_)
    · rw [if_neg hc] at hf
      refine X.iconst dX11_isMet_50 kI_0 ?_
      obtain ⟨e1, e2⟩ := e_ret hf
      subst e1
      subst e2
      exact X.iret dX11_isMet_51 rfl rfl
    · rw [if_pos hc] at hf
      refine X.iconst dX11_isMet_46 kI_1 ?_
      refine X.goto dX11_isMet_47 (tgt := 51) rfl ?_
      obtain ⟨e1, e2⟩ := e_ret hf
      subst e1
      subst e2
      exact X.iret dX11_isMet_51 rfl rfl
/-! LeanedOutModel.asksOf(II)I -/
abbrev M_X11_asksOf : e_M := (yX11_asksOf, cX11_asksOf, 3, (some .int))
theorem mk_X11_asksOf : e_Mok M_X11_asksOf 2 := ⟨by decide +kernel, by decide +kernel, by decide +kernel⟩
theorem dX11_asksOf_0 : decode cX11_asksOf 0 = .ok (.aload_n 0, 1) := by decide +kernel
theorem dX11_asksOf_1 : decode cX11_asksOf 1 = .ok (.getfield 55, 3) := by decide +kernel
theorem dX11_asksOf_4 : decode cX11_asksOf 4 = .ok (.iconst 0, 1) := by decide +kernel
theorem dX11_asksOf_5 : decode cX11_asksOf 5 = .ok (.aload_n 0, 1) := by decide +kernel
theorem dX11_asksOf_6 : decode cX11_asksOf 6 = .ok (.getfield 16, 3) := by decide +kernel
theorem dX11_asksOf_9 : decode cX11_asksOf 9 = .ok (.iconst 4, 1) := by decide +kernel
theorem dX11_asksOf_10 : decode cX11_asksOf 10 = .ok (.iload_n 2, 1) := by decide +kernel
theorem dX11_asksOf_11 : decode cX11_asksOf 11 = .ok (.imul, 1) := by decide +kernel
theorem dX11_asksOf_12 : decode cX11_asksOf 12 = .ok (.iconst 2, 1) := by decide +kernel
theorem dX11_asksOf_13 : decode cX11_asksOf 13 = .ok (.iadd, 1) := by decide +kernel
theorem dX11_asksOf_14 : decode cX11_asksOf 14 = .ok (.iaload, 1) := by decide +kernel
theorem dX11_asksOf_15 : decode cX11_asksOf 15 = .ok (.iastore, 1) := by decide +kernel
theorem dX11_asksOf_16 : decode cX11_asksOf 16 = .ok (.aload_n 0, 1) := by decide +kernel
theorem dX11_asksOf_17 : decode cX11_asksOf 17 = .ok (.getfield 55, 3) := by decide +kernel
theorem dX11_asksOf_20 : decode cX11_asksOf 20 = .ok (.iconst 1, 1) := by decide +kernel
theorem dX11_asksOf_21 : decode cX11_asksOf 21 = .ok (.aload_n 0, 1) := by decide +kernel
theorem dX11_asksOf_22 : decode cX11_asksOf 22 = .ok (.getfield 16, 3) := by decide +kernel
theorem dX11_asksOf_25 : decode cX11_asksOf 25 = .ok (.iconst 4, 1) := by decide +kernel
theorem dX11_asksOf_26 : decode cX11_asksOf 26 = .ok (.iload_n 2, 1) := by decide +kernel
theorem dX11_asksOf_27 : decode cX11_asksOf 27 = .ok (.imul, 1) := by decide +kernel
theorem dX11_asksOf_28 : decode cX11_asksOf 28 = .ok (.iaload, 1) := by decide +kernel
theorem dX11_asksOf_29 : decode cX11_asksOf 29 = .ok (.aload_n 0, 1) := by decide +kernel
theorem dX11_asksOf_30 : decode cX11_asksOf 30 = .ok (.getfield 16, 3) := by decide +kernel
theorem dX11_asksOf_33 : decode cX11_asksOf 33 = .ok (.iconst 4, 1) := by decide +kernel
theorem dX11_asksOf_34 : decode cX11_asksOf 34 = .ok (.iload_n 2, 1) := by decide +kernel
theorem dX11_asksOf_35 : decode cX11_asksOf 35 = .ok (.imul, 1) := by decide +kernel
theorem dX11_asksOf_36 : decode cX11_asksOf 36 = .ok (.iconst 1, 1) := by decide +kernel
theorem dX11_asksOf_37 : decode cX11_asksOf 37 = .ok (.iadd, 1) := by decide +kernel
theorem dX11_asksOf_38 : decode cX11_asksOf 38 = .ok (.iaload, 1) := by decide +kernel
theorem dX11_asksOf_39 : decode cX11_asksOf 39 = .ok (.invokestatic 161, 3) := by decide +kernel
theorem dX11_asksOf_42 : decode cX11_asksOf 42 = .ok (.iastore, 1) := by decide +kernel
theorem dX11_asksOf_43 : decode cX11_asksOf 43 = .ok (.aload_n 0, 1) := by decide +kernel
theorem dX11_asksOf_44 : decode cX11_asksOf 44 = .ok (.getfield 55, 3) := by decide +kernel
theorem dX11_asksOf_47 : decode cX11_asksOf 47 = .ok (.iconst 2, 1) := by decide +kernel
theorem dX11_asksOf_48 : decode cX11_asksOf 48 = .ok (.aload_n 0, 1) := by decide +kernel
theorem dX11_asksOf_49 : decode cX11_asksOf 49 = .ok (.iload_n 2, 1) := by decide +kernel
theorem dX11_asksOf_50 : decode cX11_asksOf 50 = .ok (.invokevirtual 170, 3) := by decide +kernel
theorem dX11_asksOf_53 : decode cX11_asksOf 53 = .ok (.iastore, 1) := by decide +kernel
theorem dX11_asksOf_54 : decode cX11_asksOf 54 = .ok (.aload_n 0, 1) := by decide +kernel
theorem dX11_asksOf_55 : decode cX11_asksOf 55 = .ok (.getfield 55, 3) := by decide +kernel
theorem dX11_asksOf_58 : decode cX11_asksOf 58 = .ok (.iconst 3, 1) := by decide +kernel
theorem dX11_asksOf_59 : decode cX11_asksOf 59 = .ok (.aload_n 0, 1) := by decide +kernel
theorem dX11_asksOf_60 : decode cX11_asksOf 60 = .ok (.getfield 89, 3) := by decide +kernel
theorem dX11_asksOf_63 : decode cX11_asksOf 63 = .ok (.iastore, 1) := by decide +kernel
theorem dX11_asksOf_64 : decode cX11_asksOf 64 = .ok (.aload_n 0, 1) := by decide +kernel
theorem dX11_asksOf_65 : decode cX11_asksOf 65 = .ok (.getfield 55, 3) := by decide +kernel
theorem dX11_asksOf_68 : decode cX11_asksOf 68 = .ok (.iconst 4, 1) := by decide +kernel
theorem dX11_asksOf_69 : decode cX11_asksOf 69 = .ok (.aload_n 0, 1) := by decide +kernel
theorem dX11_asksOf_70 : decode cX11_asksOf 70 = .ok (.aload_n 0, 1) := by decide +kernel
theorem dX11_asksOf_71 : decode cX11_asksOf 71 = .ok (.getfield 16, 3) := by decide +kernel
theorem dX11_asksOf_74 : decode cX11_asksOf 74 = .ok (.iconst 4, 1) := by decide +kernel
theorem dX11_asksOf_75 : decode cX11_asksOf 75 = .ok (.iload_n 2, 1) := by decide +kernel
theorem dX11_asksOf_76 : decode cX11_asksOf 76 = .ok (.imul, 1) := by decide +kernel
theorem dX11_asksOf_77 : decode cX11_asksOf 77 = .ok (.iaload, 1) := by decide +kernel
theorem dX11_asksOf_78 : decode cX11_asksOf 78 = .ok (.invokevirtual 173, 3) := by decide +kernel
theorem dX11_asksOf_81 : decode cX11_asksOf 81 = .ok (.iastore, 1) := by decide +kernel
theorem dX11_asksOf_82 : decode cX11_asksOf 82 = .ok (.aload_n 0, 1) := by decide +kernel
theorem dX11_asksOf_83 : decode cX11_asksOf 83 = .ok (.getfield 55, 3) := by decide +kernel
theorem dX11_asksOf_86 : decode cX11_asksOf 86 = .ok (.iconst 5, 1) := by decide +kernel
theorem dX11_asksOf_87 : decode cX11_asksOf 87 = .ok (.aload_n 0, 1) := by decide +kernel
theorem dX11_asksOf_88 : decode cX11_asksOf 88 = .ok (.getfield 13, 3) := by decide +kernel
theorem dX11_asksOf_91 : decode cX11_asksOf 91 = .ok (.iload_n 2, 1) := by decide +kernel
theorem dX11_asksOf_92 : decode cX11_asksOf 92 = .ok (.iaload, 1) := by decide +kernel
theorem dX11_asksOf_93 : decode cX11_asksOf 93 = .ok (.iastore, 1) := by decide +kernel
theorem dX11_asksOf_94 : decode cX11_asksOf 94 = .ok (.aload_n 0, 1) := by decide +kernel
theorem dX11_asksOf_95 : decode cX11_asksOf 95 = .ok (.iload_n 1, 1) := by decide +kernel
theorem dX11_asksOf_96 : decode cX11_asksOf 96 = .ok (.invokevirtual 176, 3) := by decide +kernel
theorem dX11_asksOf_99 : decode cX11_asksOf 99 = .ok (.iload_n 1, 1) := by decide +kernel
theorem dX11_asksOf_100 : decode cX11_asksOf 100 = .ok (.iconst 1, 1) := by decide +kernel
theorem dX11_asksOf_101 : decode cX11_asksOf 101 = .ok (.if_icmp .ne 7, 3) := by decide +kernel
theorem dX11_asksOf_104 : decode cX11_asksOf 104 = .ok (.iconst 0, 1) := by decide +kernel
theorem dX11_asksOf_105 : decode cX11_asksOf 105 = .ok (.goto 5, 3) := by decide +kernel
theorem dX11_asksOf_108 : decode cX11_asksOf 108 = .ok (.bipush (-99), 2) := by decide +kernel
theorem dX11_asksOf_110 : decode cX11_asksOf 110 = .ok (.bipush 99, 2) := by decide +kernel
theorem dX11_asksOf_112 : decode cX11_asksOf 112 = .ok (.invokestatic 167, 3) := by decide +kernel
theorem dX11_asksOf_115 : decode cX11_asksOf 115 = .ok (.ireturn, 1) := by decide +kernel
def J_X11_asksOf_110 (S : e_S) (t0 : Int32) (t1 : Int32) (g : e_G) : Option (Int32 × e_G) :=
  (f_X11_within S t0 t1 (99 : Int32) g).bind fun q2 =>
  some (q2.1, q2.2)
def f_X11_asksOf (S : e_S) (l0 : Nat) (l1 : Int32) (l2 : Int32) (g : e_G) : Option (Int32 × e_G) :=
  if e_ob S 11 l0 = true then
    (e_gR S g 11 l0 28).bind fun v1 =>
    (e_gR S g 11 l0 3).bind fun v3 =>
    (e_aI S g 0 v3 (((4 : Int32) * l2) + (2 : Int32))).bind fun v5 =>
    (e_aS S g 0 v1 (0 : Int32) v5).bind fun g7 =>
    (e_gR S g7 11 l0 28).bind fun v9 =>
    (e_gR S g7 11 l0 3).bind fun v11 =>
    (e_aI S g7 0 v11 ((4 : Int32) * l2)).bind fun v13 =>
    (e_gR S g7 11 l0 3).bind fun v15 =>
    (e_aI S g7 0 v15 (((4 : Int32) * l2) + (1 : Int32))).bind fun v17 =>
    (f_X11_farOf S v13 v17 g7).bind fun q20 =>
    (e_aS S q20.2 0 v9 (1 : Int32) q20.1).bind fun g21 =>
    (e_gR S g21 11 l0 28).bind fun v23 =>
    (f_X11_besideOf S l0 l2 g21).bind fun q26 =>
    (e_aS S q26.2 0 v23 (2 : Int32) q26.1).bind fun g27 =>
    (e_gR S g27 11 l0 28).bind fun v29 =>
    (e_gI S g27 11 l0 4).bind fun v31 =>
    (e_aS S g27 0 v29 (3 : Int32) v31).bind fun g33 =>
    (e_gR S g33 11 l0 28).bind fun v35 =>
    (e_gR S g33 11 l0 3).bind fun v37 =>
    (e_aI S g33 0 v37 ((4 : Int32) * l2)).bind fun v39 =>
    (f_X11_lookersOf S l0 v39 g33).bind fun q42 =>
    (e_aS S q42.2 0 v35 (4 : Int32) q42.1).bind fun g43 =>
    (e_gR S g43 11 l0 28).bind fun v45 =>
    (e_gR S g43 11 l0 2).bind fun v47 =>
    (e_aI S g43 0 v47 l2).bind fun v49 =>
    (e_aS S g43 0 v45 (5 : Int32) v49).bind fun g51 =>
    (f_X11_says S l0 l1 g51).bind fun q54 =>
    if l1 = (1 : Int32) then
      J_X11_asksOf_110 S q54.1 (0 : Int32) q54.2
    else
      J_X11_asksOf_110 S q54.1 (-99 : Int32) q54.2
  else none
theorem x_J_X11_asksOf_110 {l : Launch} {D : va_G} {S : e_S} {w : Int32} {k : e_G} {t0 : Int32} {t1 : Int32} {g : e_G} (hf : J_X11_asksOf_110 S t0 t1 g = some (w, k)) : X l D (e_R 3) M_X11_asksOf 0 0 110 [] [.int t1, .int t0] (S, g) (some (.int w)) (S, k) := by
  unfold J_X11_asksOf_110 at hf
  refine X.bipush dX11_asksOf_110 kB_99 ?_
  obtain ⟨q2, h1, hf⟩ := ob hf
  refine Y.callS (av := [.int t0, .int t1, .int (99 : Int32)]) dX11_asksOf_112 (c_X11_within (l := l) (D := D) (w := q2.1) (k := q2.2) h1) cw_X11_167 mk_X11_within (e_R_ok (Nat.le_of_ble_eq_true rfl) (Nat.le_of_ble_eq_true rfl)) ⟨rfl, rfl⟩ (by simp [Value.category]) ?_
  obtain ⟨e1, e2⟩ := e_ret hf
  subst e1
  subst e2
  exact X.iret dX11_asksOf_115 rfl rfl
theorem o_X11_asksOf  {S : e_S} {w : Int32} {k : e_G} {l0 : Nat} {l1 : Int32} {l2 : Int32} {g : e_G} (hf : f_X11_asksOf S l0 l1 l2 g = some (w, k)) : e_ob S 11 l0 = true := by
  unfold f_X11_asksOf at hf
  by_cases hc : e_ob S 11 l0 = true
  · exact hc
  · rw [if_neg hc] at hf
    cases hf
theorem c_X11_asksOf {l : Launch} {D : va_G}  {S : e_S} {w : Int32} {k : e_G} {l0 : Nat} {l1 : Int32} {l2 : Int32} {g : e_G} (hf : f_X11_asksOf S l0 l1 l2 g = some (w, k)) : CT l D (e_R 3) M_X11_asksOf [.ref l0, .int l1, .int l2] (S, g) (some (.int w)) (S, k) := by
  refine CT.of (by decide +kernel) (Nat.le_of_ble_eq_true rfl) ?_
  have ho := o_X11_asksOf hf
  unfold f_X11_asksOf at hf
  rw [if_pos ho] at hf
  show X l D (e_R 3) M_X11_asksOf 0 0 0 [(0, .ref l0), (1, .int l1), (2, .int l2)] [] (S, g) (some (.int w)) (S, k)
  refine X.aload_n dX11_asksOf_0 rfl (j := 0) rfl ?_
  obtain ⟨v1, h2, hf⟩ := ob hf
  refine Y.getR dX11_asksOf_1 fl_X11_55 rfl h2 ?_
  refine X.iconst dX11_asksOf_4 kI_0 ?_
  refine X.aload_n dX11_asksOf_5 rfl (j := 0) rfl ?_
  obtain ⟨v3, h4, hf⟩ := ob hf
  refine Y.getR dX11_asksOf_6 fl_X11_16 rfl h4 ?_
  refine X.iconst dX11_asksOf_9 kI_4 ?_
  refine X.iload_n dX11_asksOf_10 rfl (j := 2) rfl ?_
  refine X.imul dX11_asksOf_11 ?_
  refine X.iconst dX11_asksOf_12 kI_2 ?_
  refine X.iadd dX11_asksOf_13 ?_
  obtain ⟨v5, h6, hf⟩ := ob hf
  refine Y.iald dX11_asksOf_14 h6 ?_
  obtain ⟨g7, h8, hf⟩ := ob hf
  refine Y.iast dX11_asksOf_15 h8 ?_
  refine X.aload_n dX11_asksOf_16 rfl (j := 0) rfl ?_
  obtain ⟨v9, h10, hf⟩ := ob hf
  refine Y.getR dX11_asksOf_17 fl_X11_55 rfl h10 ?_
  refine X.iconst dX11_asksOf_20 kI_1 ?_
  refine X.aload_n dX11_asksOf_21 rfl (j := 0) rfl ?_
  obtain ⟨v11, h12, hf⟩ := ob hf
  refine Y.getR dX11_asksOf_22 fl_X11_16 rfl h12 ?_
  refine X.iconst dX11_asksOf_25 kI_4 ?_
  refine X.iload_n dX11_asksOf_26 rfl (j := 2) rfl ?_
  refine X.imul dX11_asksOf_27 ?_
  obtain ⟨v13, h14, hf⟩ := ob hf
  refine Y.iald dX11_asksOf_28 h14 ?_
  refine X.aload_n dX11_asksOf_29 rfl (j := 0) rfl ?_
  obtain ⟨v15, h16, hf⟩ := ob hf
  refine Y.getR dX11_asksOf_30 fl_X11_16 rfl h16 ?_
  refine X.iconst dX11_asksOf_33 kI_4 ?_
  refine X.iload_n dX11_asksOf_34 rfl (j := 2) rfl ?_
  refine X.imul dX11_asksOf_35 ?_
  refine X.iconst dX11_asksOf_36 kI_1 ?_
  refine X.iadd dX11_asksOf_37 ?_
  obtain ⟨v17, h18, hf⟩ := ob hf
  refine Y.iald dX11_asksOf_38 h18 ?_
  obtain ⟨q20, h19, hf⟩ := ob hf
  refine Y.callS (av := [.int v13, .int v17]) dX11_asksOf_39 (c_X11_farOf (l := l) (D := D) (w := q20.1) (k := q20.2) h19) cw_X11_161 mk_X11_farOf (e_R_ok (Nat.le_of_ble_eq_true rfl) (Nat.le_of_ble_eq_true rfl)) ⟨rfl, rfl⟩ (by simp [Value.category]) ?_
  obtain ⟨g21, h22, hf⟩ := ob hf
  refine Y.iast dX11_asksOf_42 h22 ?_
  refine X.aload_n dX11_asksOf_43 rfl (j := 0) rfl ?_
  obtain ⟨v23, h24, hf⟩ := ob hf
  refine Y.getR dX11_asksOf_44 fl_X11_55 rfl h24 ?_
  refine X.iconst dX11_asksOf_47 kI_2 ?_
  refine X.aload_n dX11_asksOf_48 rfl (j := 0) rfl ?_
  refine X.iload_n dX11_asksOf_49 rfl (j := 2) rfl ?_
  obtain ⟨q26, h25, hf⟩ := ob hf
  refine Y.callV (av := [.int l2]) (ci := 11) dX11_asksOf_50 (c_X11_besideOf (l := l) (D := D) (w := q26.1) (k := q26.2) h25) cw_X11_170 (by decide) rfl mk_X11_besideOf (o_X11_besideOf (w := q26.1) (k := q26.2) h25) (e_R_ok (Nat.le_of_ble_eq_true rfl) (Nat.le_of_ble_eq_true rfl)) ⟨rfl, rfl⟩ (by simp [Value.category]) ?_
  obtain ⟨g27, h28, hf⟩ := ob hf
  refine Y.iast dX11_asksOf_53 h28 ?_
  refine X.aload_n dX11_asksOf_54 rfl (j := 0) rfl ?_
  obtain ⟨v29, h30, hf⟩ := ob hf
  refine Y.getR dX11_asksOf_55 fl_X11_55 rfl h30 ?_
  refine X.iconst dX11_asksOf_58 kI_3 ?_
  refine X.aload_n dX11_asksOf_59 rfl (j := 0) rfl ?_
  obtain ⟨v31, h32, hf⟩ := ob hf
  refine Y.getI dX11_asksOf_60 fl_X11_89 rfl h32 ?_
  obtain ⟨g33, h34, hf⟩ := ob hf
  refine Y.iast dX11_asksOf_63 h34 ?_
  refine X.aload_n dX11_asksOf_64 rfl (j := 0) rfl ?_
  obtain ⟨v35, h36, hf⟩ := ob hf
  refine Y.getR dX11_asksOf_65 fl_X11_55 rfl h36 ?_
  refine X.iconst dX11_asksOf_68 kI_4 ?_
  refine X.aload_n dX11_asksOf_69 rfl (j := 0) rfl ?_
  refine X.aload_n dX11_asksOf_70 rfl (j := 0) rfl ?_
  obtain ⟨v37, h38, hf⟩ := ob hf
  refine Y.getR dX11_asksOf_71 fl_X11_16 rfl h38 ?_
  refine X.iconst dX11_asksOf_74 kI_4 ?_
  refine X.iload_n dX11_asksOf_75 rfl (j := 2) rfl ?_
  refine X.imul dX11_asksOf_76 ?_
  obtain ⟨v39, h40, hf⟩ := ob hf
  refine Y.iald dX11_asksOf_77 h40 ?_
  obtain ⟨q42, h41, hf⟩ := ob hf
  refine Y.callV (av := [.int v39]) (ci := 11) dX11_asksOf_78 (c_X11_lookersOf (l := l) (D := D) (w := q42.1) (k := q42.2) h41) cw_X11_173 (by decide) rfl mk_X11_lookersOf (o_X11_lookersOf (w := q42.1) (k := q42.2) h41) (e_R_ok (Nat.le_of_ble_eq_true rfl) (Nat.le_of_ble_eq_true rfl)) ⟨rfl, rfl⟩ (by simp [Value.category]) ?_
  obtain ⟨g43, h44, hf⟩ := ob hf
  refine Y.iast dX11_asksOf_81 h44 ?_
  refine X.aload_n dX11_asksOf_82 rfl (j := 0) rfl ?_
  obtain ⟨v45, h46, hf⟩ := ob hf
  refine Y.getR dX11_asksOf_83 fl_X11_55 rfl h46 ?_
  refine X.iconst dX11_asksOf_86 kI_5 ?_
  refine X.aload_n dX11_asksOf_87 rfl (j := 0) rfl ?_
  obtain ⟨v47, h48, hf⟩ := ob hf
  refine Y.getR dX11_asksOf_88 fl_X11_13 rfl h48 ?_
  refine X.iload_n dX11_asksOf_91 rfl (j := 2) rfl ?_
  obtain ⟨v49, h50, hf⟩ := ob hf
  refine Y.iald dX11_asksOf_92 h50 ?_
  obtain ⟨g51, h52, hf⟩ := ob hf
  refine Y.iast dX11_asksOf_93 h52 ?_
  refine X.aload_n dX11_asksOf_94 rfl (j := 0) rfl ?_
  refine X.iload_n dX11_asksOf_95 rfl (j := 1) rfl ?_
  obtain ⟨q54, h53, hf⟩ := ob hf
  refine Y.callV (av := [.int l1]) (ci := 11) dX11_asksOf_96 (c_X11_says (l := l) (D := D) (w := q54.1) (k := q54.2) h53) cw_X11_176 (by decide) rfl mk_X11_says (o_X11_says (w := q54.1) (k := q54.2) h53) (e_R_ok (Nat.le_of_ble_eq_true rfl) (Nat.le_of_ble_eq_true rfl)) ⟨rfl, rfl⟩ (by simp [Value.category]) ?_
  refine X.iload_n dX11_asksOf_99 rfl (j := 1) rfl ?_
  refine X.iconst dX11_asksOf_100 kI_1 ?_
  refine X.icmp_ne dX11_asksOf_101 (tgt := 108) rfl (fun hc => ?_) (fun hc => ?_)
  · rw [if_neg hc] at hf
    refine X.bipush dX11_asksOf_108 kB_m99 ?_
    refine X.sub [] rfl ?_
    exact x_J_X11_asksOf_110 hf
  · rw [if_pos hc] at hf
    refine X.iconst dX11_asksOf_104 kI_0 ?_
    refine X.goto dX11_asksOf_105 (tgt := 110) rfl ?_
    refine X.sub [] rfl ?_
    exact x_J_X11_asksOf_110 hf
/-! LeanedOutModel.asks(II)I -/
abbrev M_X11_asks : e_M := (yX11_asks, cX11_asks, 3, (some .int))
theorem mk_X11_asks : e_Mok M_X11_asks 2 := ⟨by decide +kernel, by decide +kernel, by decide +kernel⟩
theorem dX11_asks_0 : decode cX11_asks 0 = .ok (.iload_n 1, 1) := by decide +kernel
theorem dX11_asks_1 : decode cX11_asks 1 = .ok (.iconst 0, 1) := by decide +kernel
theorem dX11_asks_2 : decode cX11_asks 2 = .ok (.iconst 2, 1) := by decide +kernel
theorem dX11_asks_3 : decode cX11_asks 3 = .ok (.invokestatic 78, 3) := by decide +kernel
theorem dX11_asks_6 : decode cX11_asks 6 = .ok (.ifCond .eq 20, 3) := by decide +kernel
theorem dX11_asks_9 : decode cX11_asks 9 = .ok (.aload_n 0, 1) := by decide +kernel
theorem dX11_asks_10 : decode cX11_asks 10 = .ok (.iload_n 2, 1) := by decide +kernel
theorem dX11_asks_11 : decode cX11_asks 11 = .ok (.invokevirtual 179, 3) := by decide +kernel
theorem dX11_asks_14 : decode cX11_asks 14 = .ok (.ifCond .eq 12, 3) := by decide +kernel
theorem dX11_asks_17 : decode cX11_asks 17 = .ok (.aload_n 0, 1) := by decide +kernel
theorem dX11_asks_18 : decode cX11_asks 18 = .ok (.iload_n 1, 1) := by decide +kernel
theorem dX11_asks_19 : decode cX11_asks 19 = .ok (.iload_n 2, 1) := by decide +kernel
theorem dX11_asks_20 : decode cX11_asks 20 = .ok (.invokevirtual 182, 3) := by decide +kernel
theorem dX11_asks_23 : decode cX11_asks 23 = .ok (.goto 6, 3) := by decide +kernel
theorem dX11_asks_26 : decode cX11_asks 26 = .ok (.sipush (-1000), 3) := by decide +kernel
theorem dX11_asks_29 : decode cX11_asks 29 = .ok (.ireturn, 1) := by decide +kernel
def f_X11_asks (S : e_S) (l0 : Nat) (l1 : Int32) (l2 : Int32) (g : e_G) : Option (Int32 × e_G) :=
  if e_ob S 11 l0 = true then
    (f_X11_in S l1 (0 : Int32) (2 : Int32) g).bind fun q2 =>
    if q2.1 = 0 then
      some ((-1000 : Int32), q2.2)
    else
      (f_X11_isOne S l0 l2 q2.2).bind fun q4 =>
      if q4.1 = 0 then
        some ((-1000 : Int32), q4.2)
      else
        (f_X11_asksOf S l0 l1 l2 q4.2).bind fun q6 =>
        some (q6.1, q6.2)
  else none
theorem o_X11_asks  {S : e_S} {w : Int32} {k : e_G} {l0 : Nat} {l1 : Int32} {l2 : Int32} {g : e_G} (hf : f_X11_asks S l0 l1 l2 g = some (w, k)) : e_ob S 11 l0 = true := by
  unfold f_X11_asks at hf
  by_cases hc : e_ob S 11 l0 = true
  · exact hc
  · rw [if_neg hc] at hf
    cases hf
theorem c_X11_asks {l : Launch} {D : va_G}  {S : e_S} {w : Int32} {k : e_G} {l0 : Nat} {l1 : Int32} {l2 : Int32} {g : e_G} (hf : f_X11_asks S l0 l1 l2 g = some (w, k)) : CT l D (e_R 4) M_X11_asks [.ref l0, .int l1, .int l2] (S, g) (some (.int w)) (S, k) := by
  refine CT.of (by decide +kernel) (Nat.le_of_ble_eq_true rfl) ?_
  have ho := o_X11_asks hf
  unfold f_X11_asks at hf
  rw [if_pos ho] at hf
  show X l D (e_R 4) M_X11_asks 0 0 0 [(0, .ref l0), (1, .int l1), (2, .int l2)] [] (S, g) (some (.int w)) (S, k)
  refine X.iload_n dX11_asks_0 rfl (j := 1) rfl ?_
  refine X.iconst dX11_asks_1 kI_0 ?_
  refine X.iconst dX11_asks_2 kI_2 ?_
  obtain ⟨q2, h1, hf⟩ := ob hf
  refine Y.callS (av := [.int l1, .int (0 : Int32), .int (2 : Int32)]) dX11_asks_3 (c_X11_in (l := l) (D := D) (w := q2.1) (k := q2.2) h1) cw_X11_78 mk_X11_in (e_R_ok (Nat.le_of_ble_eq_true rfl) (Nat.le_of_ble_eq_true rfl)) ⟨rfl, rfl⟩ (by simp [Value.category]) ?_
  refine X.if_eq dX11_asks_6 (tgt := 26) rfl (fun hc => ?_) (fun hc => ?_)
  · rw [if_pos hc] at hf
    refine X.sipush dX11_asks_26 kS_m1000 ?_
    obtain ⟨e1, e2⟩ := e_ret hf
    subst e1
    subst e2
    exact X.iret dX11_asks_29 rfl rfl
  · rw [if_neg hc] at hf
    refine X.aload_n dX11_asks_9 rfl (j := 0) rfl ?_
    refine X.iload_n dX11_asks_10 rfl (j := 2) rfl ?_
    obtain ⟨q4, h3, hf⟩ := ob hf
    refine Y.callV (av := [.int l2]) (ci := 11) dX11_asks_11 (c_X11_isOne (l := l) (D := D) (w := q4.1) (k := q4.2) h3) cw_X11_179 (by decide) rfl mk_X11_isOne (o_X11_isOne (w := q4.1) (k := q4.2) h3) (e_R_ok (Nat.le_of_ble_eq_true rfl) (Nat.le_of_ble_eq_true rfl)) ⟨rfl, rfl⟩ (by simp [Value.category]) ?_
    refine X.if_eq dX11_asks_14 (tgt := 26) rfl (fun hc => ?_) (fun hc => ?_)
    · rw [if_pos hc] at hf
      refine X.sipush dX11_asks_26 kS_m1000 ?_
      obtain ⟨e1, e2⟩ := e_ret hf
      subst e1
      subst e2
      exact X.iret dX11_asks_29 rfl rfl
    · rw [if_neg hc] at hf
      refine X.aload_n dX11_asks_17 rfl (j := 0) rfl ?_
      refine X.iload_n dX11_asks_18 rfl (j := 1) rfl ?_
      refine X.iload_n dX11_asks_19 rfl (j := 2) rfl ?_
      obtain ⟨q6, h5, hf⟩ := ob hf
      refine Y.callV (av := [.int l1, .int l2]) (ci := 11) dX11_asks_20 (c_X11_asksOf (l := l) (D := D) (w := q6.1) (k := q6.2) h5) cw_X11_182 (by decide) rfl mk_X11_asksOf (o_X11_asksOf (w := q6.1) (k := q6.2) h5) (e_R_ok (Nat.le_of_ble_eq_true rfl) (Nat.le_of_ble_eq_true rfl)) ⟨rfl, rfl⟩ (by simp [Value.category]) ?_
      refine X.goto dX11_asks_23 (tgt := 29) rfl ?_
      obtain ⟨e1, e2⟩ := e_ret hf
      subst e1
      subst e2
      exact X.iret dX11_asks_29 rfl rfl
/-! LeanedOutModel.person(II)I -/
abbrev M_X11_person : e_M := (yX11_person, cX11_person, 4, (some .int))
theorem mk_X11_person : e_Mok M_X11_person 2 := ⟨by decide +kernel, by decide +kernel, by decide +kernel⟩
theorem dX11_person_0 : decode cX11_person 0 = .ok (.iload_n 1, 1) := by decide +kernel
theorem dX11_person_1 : decode cX11_person 1 = .ok (.iconst 0, 1) := by decide +kernel
theorem dX11_person_2 : decode cX11_person 2 = .ok (.bipush 59, 2) := by decide +kernel
theorem dX11_person_4 : decode cX11_person 4 = .ok (.invokestatic 78, 3) := by decide +kernel
theorem dX11_person_7 : decode cX11_person 7 = .ok (.ifCond .eq 32, 3) := by decide +kernel
theorem dX11_person_10 : decode cX11_person 10 = .ok (.iload_n 2, 1) := by decide +kernel
theorem dX11_person_11 : decode cX11_person 11 = .ok (.iconst 0, 1) := by decide +kernel
theorem dX11_person_12 : decode cX11_person 12 = .ok (.sipush 1999, 3) := by decide +kernel
theorem dX11_person_15 : decode cX11_person 15 = .ok (.invokestatic 78, 3) := by decide +kernel
theorem dX11_person_18 : decode cX11_person 18 = .ok (.ifCond .eq 21, 3) := by decide +kernel
theorem dX11_person_21 : decode cX11_person 21 = .ok (.iload_n 2, 1) := by decide +kernel
theorem dX11_person_22 : decode cX11_person 22 = .ok (.bipush 100, 2) := by decide +kernel
theorem dX11_person_24 : decode cX11_person 24 = .ok (.idiv, 1) := by decide +kernel
theorem dX11_person_25 : decode cX11_person 25 = .ok (.iload_n 2, 1) := by decide +kernel
theorem dX11_person_26 : decode cX11_person 26 = .ok (.bipush 100, 2) := by decide +kernel
theorem dX11_person_28 : decode cX11_person 28 = .ok (.irem, 1) := by decide +kernel
theorem dX11_person_29 : decode cX11_person 29 = .ok (.invokestatic 185, 3) := by decide +kernel
theorem dX11_person_32 : decode cX11_person 32 = .ok (.ifCond .eq 7, 3) := by decide +kernel
theorem dX11_person_35 : decode cX11_person 35 = .ok (.iconst 1, 1) := by decide +kernel
theorem dX11_person_36 : decode cX11_person 36 = .ok (.goto 4, 3) := by decide +kernel
theorem dX11_person_39 : decode cX11_person 39 = .ok (.iconst 0, 1) := by decide +kernel
theorem dX11_person_40 : decode cX11_person 40 = .ok (.istore_n 3, 1) := by decide +kernel
theorem dX11_person_41 : decode cX11_person 41 = .ok (.iload_n 3, 1) := by decide +kernel
theorem dX11_person_42 : decode cX11_person 42 = .ok (.ifCond .eq 15, 3) := by decide +kernel
theorem dX11_person_45 : decode cX11_person 45 = .ok (.aload_n 0, 1) := by decide +kernel
theorem dX11_person_46 : decode cX11_person 46 = .ok (.iload_n 2, 1) := by decide +kernel
theorem dX11_person_47 : decode cX11_person 47 = .ok (.bipush 100, 2) := by decide +kernel
theorem dX11_person_49 : decode cX11_person 49 = .ok (.idiv, 1) := by decide +kernel
theorem dX11_person_50 : decode cX11_person 50 = .ok (.invokevirtual 164, 3) := by decide +kernel
theorem dX11_person_53 : decode cX11_person 53 = .ok (.iconst (-1), 1) := by decide +kernel
theorem dX11_person_54 : decode cX11_person 54 = .ok (.if_icmp .eq 6, 3) := by decide +kernel
theorem dX11_person_57 : decode cX11_person 57 = .ok (.bipush (-2), 2) := by decide +kernel
theorem dX11_person_59 : decode cX11_person 59 = .ok (.ireturn, 1) := by decide +kernel
theorem dX11_person_60 : decode cX11_person 60 = .ok (.aload_n 0, 1) := by decide +kernel
theorem dX11_person_61 : decode cX11_person 61 = .ok (.getfield 75, 3) := by decide +kernel
theorem dX11_person_64 : decode cX11_person 64 = .ok (.bipush 6, 2) := by decide +kernel
theorem dX11_person_66 : decode cX11_person 66 = .ok (.if_icmp .ne 6, 3) := by decide +kernel
theorem dX11_person_69 : decode cX11_person 69 = .ok (.bipush (-4), 2) := by decide +kernel
theorem dX11_person_71 : decode cX11_person 71 = .ok (.ireturn, 1) := by decide +kernel
theorem dX11_person_72 : decode cX11_person 72 = .ok (.aload_n 0, 1) := by decide +kernel
theorem dX11_person_73 : decode cX11_person 73 = .ok (.getfield 7, 3) := by decide +kernel
theorem dX11_person_76 : decode cX11_person 76 = .ok (.aload_n 0, 1) := by decide +kernel
theorem dX11_person_77 : decode cX11_person 77 = .ok (.getfield 75, 3) := by decide +kernel
theorem dX11_person_80 : decode cX11_person 80 = .ok (.iload_n 1, 1) := by decide +kernel
theorem dX11_person_81 : decode cX11_person 81 = .ok (.bipush 10, 2) := by decide +kernel
theorem dX11_person_83 : decode cX11_person 83 = .ok (.idiv, 1) := by decide +kernel
theorem dX11_person_84 : decode cX11_person 84 = .ok (.iastore, 1) := by decide +kernel
theorem dX11_person_85 : decode cX11_person 85 = .ok (.aload_n 0, 1) := by decide +kernel
theorem dX11_person_86 : decode cX11_person 86 = .ok (.getfield 13, 3) := by decide +kernel
theorem dX11_person_89 : decode cX11_person 89 = .ok (.aload_n 0, 1) := by decide +kernel
theorem dX11_person_90 : decode cX11_person 90 = .ok (.getfield 75, 3) := by decide +kernel
theorem dX11_person_93 : decode cX11_person 93 = .ok (.iload_n 1, 1) := by decide +kernel
theorem dX11_person_94 : decode cX11_person 94 = .ok (.bipush 10, 2) := by decide +kernel
theorem dX11_person_96 : decode cX11_person 96 = .ok (.irem, 1) := by decide +kernel
theorem dX11_person_97 : decode cX11_person 97 = .ok (.iastore, 1) := by decide +kernel
theorem dX11_person_98 : decode cX11_person 98 = .ok (.aload_n 0, 1) := by decide +kernel
theorem dX11_person_99 : decode cX11_person 99 = .ok (.getfield 16, 3) := by decide +kernel
theorem dX11_person_102 : decode cX11_person 102 = .ok (.iconst 4, 1) := by decide +kernel
theorem dX11_person_103 : decode cX11_person 103 = .ok (.aload_n 0, 1) := by decide +kernel
theorem dX11_person_104 : decode cX11_person 104 = .ok (.getfield 75, 3) := by decide +kernel
theorem dX11_person_107 : decode cX11_person 107 = .ok (.imul, 1) := by decide +kernel
theorem dX11_person_108 : decode cX11_person 108 = .ok (.iload_n 2, 1) := by decide +kernel
theorem dX11_person_109 : decode cX11_person 109 = .ok (.bipush 100, 2) := by decide +kernel
theorem dX11_person_111 : decode cX11_person 111 = .ok (.idiv, 1) := by decide +kernel
theorem dX11_person_112 : decode cX11_person 112 = .ok (.iastore, 1) := by decide +kernel
theorem dX11_person_113 : decode cX11_person 113 = .ok (.aload_n 0, 1) := by decide +kernel
theorem dX11_person_114 : decode cX11_person 114 = .ok (.getfield 16, 3) := by decide +kernel
theorem dX11_person_117 : decode cX11_person 117 = .ok (.iconst 4, 1) := by decide +kernel
theorem dX11_person_118 : decode cX11_person 118 = .ok (.aload_n 0, 1) := by decide +kernel
theorem dX11_person_119 : decode cX11_person 119 = .ok (.getfield 75, 3) := by decide +kernel
theorem dX11_person_122 : decode cX11_person 122 = .ok (.imul, 1) := by decide +kernel
theorem dX11_person_123 : decode cX11_person 123 = .ok (.iconst 1, 1) := by decide +kernel
theorem dX11_person_124 : decode cX11_person 124 = .ok (.iadd, 1) := by decide +kernel
theorem dX11_person_125 : decode cX11_person 125 = .ok (.iload_n 2, 1) := by decide +kernel
theorem dX11_person_126 : decode cX11_person 126 = .ok (.bipush 100, 2) := by decide +kernel
theorem dX11_person_128 : decode cX11_person 128 = .ok (.irem, 1) := by decide +kernel
theorem dX11_person_129 : decode cX11_person 129 = .ok (.iastore, 1) := by decide +kernel
theorem dX11_person_130 : decode cX11_person 130 = .ok (.aload_n 0, 1) := by decide +kernel
theorem dX11_person_131 : decode cX11_person 131 = .ok (.getfield 16, 3) := by decide +kernel
theorem dX11_person_134 : decode cX11_person 134 = .ok (.iconst 4, 1) := by decide +kernel
theorem dX11_person_135 : decode cX11_person 135 = .ok (.aload_n 0, 1) := by decide +kernel
theorem dX11_person_136 : decode cX11_person 136 = .ok (.getfield 75, 3) := by decide +kernel
theorem dX11_person_139 : decode cX11_person 139 = .ok (.imul, 1) := by decide +kernel
theorem dX11_person_140 : decode cX11_person 140 = .ok (.iconst 2, 1) := by decide +kernel
theorem dX11_person_141 : decode cX11_person 141 = .ok (.iadd, 1) := by decide +kernel
theorem dX11_person_142 : decode cX11_person 142 = .ok (.iconst 0, 1) := by decide +kernel
theorem dX11_person_143 : decode cX11_person 143 = .ok (.iastore, 1) := by decide +kernel
theorem dX11_person_144 : decode cX11_person 144 = .ok (.aload_n 0, 1) := by decide +kernel
theorem dX11_person_145 : decode cX11_person 145 = .ok (.getfield 16, 3) := by decide +kernel
theorem dX11_person_148 : decode cX11_person 148 = .ok (.iconst 4, 1) := by decide +kernel
theorem dX11_person_149 : decode cX11_person 149 = .ok (.aload_n 0, 1) := by decide +kernel
theorem dX11_person_150 : decode cX11_person 150 = .ok (.getfield 75, 3) := by decide +kernel
theorem dX11_person_153 : decode cX11_person 153 = .ok (.imul, 1) := by decide +kernel
theorem dX11_person_154 : decode cX11_person 154 = .ok (.iconst 3, 1) := by decide +kernel
theorem dX11_person_155 : decode cX11_person 155 = .ok (.iadd, 1) := by decide +kernel
theorem dX11_person_156 : decode cX11_person 156 = .ok (.iconst 0, 1) := by decide +kernel
theorem dX11_person_157 : decode cX11_person 157 = .ok (.iastore, 1) := by decide +kernel
theorem dX11_person_158 : decode cX11_person 158 = .ok (.aload_n 0, 1) := by decide +kernel
theorem dX11_person_159 : decode cX11_person 159 = .ok (.dup, 1) := by decide +kernel
theorem dX11_person_160 : decode cX11_person 160 = .ok (.getfield 75, 3) := by decide +kernel
theorem dX11_person_163 : decode cX11_person 163 = .ok (.iconst 1, 1) := by decide +kernel
theorem dX11_person_164 : decode cX11_person 164 = .ok (.iadd, 1) := by decide +kernel
theorem dX11_person_165 : decode cX11_person 165 = .ok (.putfield 75, 3) := by decide +kernel
theorem dX11_person_168 : decode cX11_person 168 = .ok (.aload_n 0, 1) := by decide +kernel
theorem dX11_person_169 : decode cX11_person 169 = .ok (.getfield 75, 3) := by decide +kernel
theorem dX11_person_172 : decode cX11_person 172 = .ok (.iconst 1, 1) := by decide +kernel
theorem dX11_person_173 : decode cX11_person 173 = .ok (.isub, 1) := by decide +kernel
theorem dX11_person_174 : decode cX11_person 174 = .ok (.ireturn, 1) := by decide +kernel
def J_X11_person_40 (S : e_S) (l0 : Nat) (l1 : Int32) (l2 : Int32) (t0 : Int32) (g : e_G) : Option (Int32 × e_G) :=
  if t0 = 0 then
    some ((-2 : Int32), g)
  else
    (f_X11_whoAt S l0 (l2 / (100 : Int32)) g).bind fun q2 =>
    if q2.1 = (-1 : Int32) then
      (e_gI S q2.2 11 l0 0).bind fun v3 =>
      if v3 = (6 : Int32) then
        some ((-4 : Int32), q2.2)
      else
        (e_gR S q2.2 11 l0 1).bind fun v5 =>
        (e_gI S q2.2 11 l0 0).bind fun v7 =>
        (e_aS S q2.2 0 v5 v7 (l1 / (10 : Int32))).bind fun g9 =>
        (e_gR S g9 11 l0 2).bind fun v11 =>
        (e_gI S g9 11 l0 0).bind fun v13 =>
        (e_aS S g9 0 v11 v13 (i_rem l1 (10 : Int32))).bind fun g15 =>
        (e_gR S g15 11 l0 3).bind fun v17 =>
        (e_gI S g15 11 l0 0).bind fun v19 =>
        (e_aS S g15 0 v17 ((4 : Int32) * v19) (l2 / (100 : Int32))).bind fun g21 =>
        (e_gR S g21 11 l0 3).bind fun v23 =>
        (e_gI S g21 11 l0 0).bind fun v25 =>
        (e_aS S g21 0 v23 (((4 : Int32) * v25) + (1 : Int32)) (i_rem l2 (100 : Int32))).bind fun g27 =>
        (e_gR S g27 11 l0 3).bind fun v29 =>
        (e_gI S g27 11 l0 0).bind fun v31 =>
        (e_aS S g27 0 v29 (((4 : Int32) * v31) + (2 : Int32)) (0 : Int32)).bind fun g33 =>
        (e_gR S g33 11 l0 3).bind fun v35 =>
        (e_gI S g33 11 l0 0).bind fun v37 =>
        (e_aS S g33 0 v35 (((4 : Int32) * v37) + (3 : Int32)) (0 : Int32)).bind fun g39 =>
        (e_gI S g39 11 l0 0).bind fun v41 =>
        (e_sI S g39 11 l0 0 (v41 + (1 : Int32))).bind fun g43 =>
        (e_gI S g43 11 l0 0).bind fun v45 =>
        some (v45 - (1 : Int32), g43)
    else
      some ((-2 : Int32), q2.2)
def J_X11_person_39 (S : e_S) (l0 : Nat) (l1 : Int32) (l2 : Int32) (g : e_G) : Option (Int32 × e_G) :=
  J_X11_person_40 S l0 l1 l2 (0 : Int32) g
def f_X11_person (S : e_S) (l0 : Nat) (l1 : Int32) (l2 : Int32) (g : e_G) : Option (Int32 × e_G) :=
  if e_ob S 11 l0 = true then
    (f_X11_in S l1 (0 : Int32) (59 : Int32) g).bind fun q2 =>
    if q2.1 = 0 then
      J_X11_person_39 S l0 l1 l2 q2.2
    else
      (f_X11_in S l2 (0 : Int32) (1999 : Int32) q2.2).bind fun q4 =>
      if q4.1 = 0 then
        J_X11_person_39 S l0 l1 l2 q4.2
      else
        (f_X11_areAcross S (l2 / (100 : Int32)) (i_rem l2 (100 : Int32)) q4.2).bind fun q6 =>
        if q6.1 = 0 then
          J_X11_person_39 S l0 l1 l2 q6.2
        else
          J_X11_person_40 S l0 l1 l2 (1 : Int32) q6.2
  else none
theorem x_J_X11_person_40 {l : Launch} {D : va_G} {S : e_S} {w : Int32} {k : e_G} {l0 : Nat} {l1 : Int32} {l2 : Int32} {t0 : Int32} {g : e_G} (hf : J_X11_person_40 S l0 l1 l2 t0 g = some (w, k)) : X l D (e_R 3) M_X11_person 0 0 40 [(0, .ref l0), (1, .int l1), (2, .int l2)] [.int t0] (S, g) (some (.int w)) (S, k) := by
  unfold J_X11_person_40 at hf
  refine X.istore_n dX11_person_40 rfl (Nat.le_of_ble_eq_true rfl) (lc' := [(3, .int t0), (0, .ref l0), (1, .int l1), (2, .int l2)]) rfl ?_
  refine X.iload_n dX11_person_41 rfl (j := 0) rfl ?_
  refine X.if_eq dX11_person_42 (tgt := 57) rfl (fun hc => ?_) (fun hc => ?_)
  · rw [if_pos hc] at hf
    refine X.bipush dX11_person_57 kB_m2 ?_
    obtain ⟨e1, e2⟩ := e_ret hf
    subst e1
    subst e2
    exact X.iret dX11_person_59 rfl rfl
  · rw [if_neg hc] at hf
    refine X.aload_n dX11_person_45 rfl (j := 1) rfl ?_
    refine X.iload_n dX11_person_46 rfl (j := 3) rfl ?_
    refine X.bipush dX11_person_47 kB_100 ?_
    refine X.idiv dX11_person_49 (by decide) ?_
    obtain ⟨q2, h1, hf⟩ := ob hf
    refine Y.callV (av := [.int (l2 / (100 : Int32))]) (ci := 11) dX11_person_50 (c_X11_whoAt (l := l) (D := D) (w := q2.1) (k := q2.2) h1) cw_X11_164 (by decide) rfl mk_X11_whoAt (o_X11_whoAt (w := q2.1) (k := q2.2) h1) (e_R_ok (Nat.le_of_ble_eq_true rfl) (Nat.le_of_ble_eq_true rfl)) ⟨rfl, rfl⟩ (by simp [Value.category]) ?_
    refine X.iconst dX11_person_53 kI_m1 ?_
    refine X.icmp_eq dX11_person_54 (tgt := 60) rfl (fun hc => ?_) (fun hc => ?_)
    · rw [if_pos hc] at hf
      refine X.aload_n dX11_person_60 rfl (j := 1) rfl ?_
      obtain ⟨v3, h4, hf⟩ := ob hf
      refine Y.getI dX11_person_61 fl_X11_75 rfl h4 ?_
      refine X.bipush dX11_person_64 kB_6 ?_
      refine X.icmp_ne dX11_person_66 (tgt := 72) rfl (fun hc => ?_) (fun hc => ?_)
      · rw [if_neg hc] at hf
        refine X.aload_n dX11_person_72 rfl (j := 1) rfl ?_
        obtain ⟨v5, h6, hf⟩ := ob hf
        refine Y.getR dX11_person_73 fl_X11_7 rfl h6 ?_
        refine X.aload_n dX11_person_76 rfl (j := 1) rfl ?_
        obtain ⟨v7, h8, hf⟩ := ob hf
        refine Y.getI dX11_person_77 fl_X11_75 rfl h8 ?_
        refine X.iload_n dX11_person_80 rfl (j := 2) rfl ?_
        refine X.bipush dX11_person_81 kB_10 ?_
        refine X.idiv dX11_person_83 (by decide) ?_
        obtain ⟨g9, h10, hf⟩ := ob hf
        refine Y.iast dX11_person_84 h10 ?_
        refine X.aload_n dX11_person_85 rfl (j := 1) rfl ?_
        obtain ⟨v11, h12, hf⟩ := ob hf
        refine Y.getR dX11_person_86 fl_X11_13 rfl h12 ?_
        refine X.aload_n dX11_person_89 rfl (j := 1) rfl ?_
        obtain ⟨v13, h14, hf⟩ := ob hf
        refine Y.getI dX11_person_90 fl_X11_75 rfl h14 ?_
        refine X.iload_n dX11_person_93 rfl (j := 2) rfl ?_
        refine X.bipush dX11_person_94 kB_10 ?_
        refine Y.irem dX11_person_96 (by decide) ?_
        obtain ⟨g15, h16, hf⟩ := ob hf
        refine Y.iast dX11_person_97 h16 ?_
        refine X.aload_n dX11_person_98 rfl (j := 1) rfl ?_
        obtain ⟨v17, h18, hf⟩ := ob hf
        refine Y.getR dX11_person_99 fl_X11_16 rfl h18 ?_
        refine X.iconst dX11_person_102 kI_4 ?_
        refine X.aload_n dX11_person_103 rfl (j := 1) rfl ?_
        obtain ⟨v19, h20, hf⟩ := ob hf
        refine Y.getI dX11_person_104 fl_X11_75 rfl h20 ?_
        refine X.imul dX11_person_107 ?_
        refine X.iload_n dX11_person_108 rfl (j := 3) rfl ?_
        refine X.bipush dX11_person_109 kB_100 ?_
        refine X.idiv dX11_person_111 (by decide) ?_
        obtain ⟨g21, h22, hf⟩ := ob hf
        refine Y.iast dX11_person_112 h22 ?_
        refine X.aload_n dX11_person_113 rfl (j := 1) rfl ?_
        obtain ⟨v23, h24, hf⟩ := ob hf
        refine Y.getR dX11_person_114 fl_X11_16 rfl h24 ?_
        refine X.iconst dX11_person_117 kI_4 ?_
        refine X.aload_n dX11_person_118 rfl (j := 1) rfl ?_
        obtain ⟨v25, h26, hf⟩ := ob hf
        refine Y.getI dX11_person_119 fl_X11_75 rfl h26 ?_
        refine X.imul dX11_person_122 ?_
        refine X.iconst dX11_person_123 kI_1 ?_
        refine X.iadd dX11_person_124 ?_
        refine X.iload_n dX11_person_125 rfl (j := 3) rfl ?_
        refine X.bipush dX11_person_126 kB_100 ?_
        refine Y.irem dX11_person_128 (by decide) ?_
        obtain ⟨g27, h28, hf⟩ := ob hf
        refine Y.iast dX11_person_129 h28 ?_
        refine X.aload_n dX11_person_130 rfl (j := 1) rfl ?_
        obtain ⟨v29, h30, hf⟩ := ob hf
        refine Y.getR dX11_person_131 fl_X11_16 rfl h30 ?_
        refine X.iconst dX11_person_134 kI_4 ?_
        refine X.aload_n dX11_person_135 rfl (j := 1) rfl ?_
        obtain ⟨v31, h32, hf⟩ := ob hf
        refine Y.getI dX11_person_136 fl_X11_75 rfl h32 ?_
        refine X.imul dX11_person_139 ?_
        refine X.iconst dX11_person_140 kI_2 ?_
        refine X.iadd dX11_person_141 ?_
        refine X.iconst dX11_person_142 kI_0 ?_
        obtain ⟨g33, h34, hf⟩ := ob hf
        refine Y.iast dX11_person_143 h34 ?_
        refine X.aload_n dX11_person_144 rfl (j := 1) rfl ?_
        obtain ⟨v35, h36, hf⟩ := ob hf
        refine Y.getR dX11_person_145 fl_X11_16 rfl h36 ?_
        refine X.iconst dX11_person_148 kI_4 ?_
        refine X.aload_n dX11_person_149 rfl (j := 1) rfl ?_
        obtain ⟨v37, h38, hf⟩ := ob hf
        refine Y.getI dX11_person_150 fl_X11_75 rfl h38 ?_
        refine X.imul dX11_person_153 ?_
        refine X.iconst dX11_person_154 kI_3 ?_
        refine X.iadd dX11_person_155 ?_
        refine X.iconst dX11_person_156 kI_0 ?_
        obtain ⟨g39, h40, hf⟩ := ob hf
        refine Y.iast dX11_person_157 h40 ?_
        refine X.aload_n dX11_person_158 rfl (j := 1) rfl ?_
        refine X.dup dX11_person_159 rfl ?_
        obtain ⟨v41, h42, hf⟩ := ob hf
        refine Y.getI dX11_person_160 fl_X11_75 rfl h42 ?_
        refine X.iconst dX11_person_163 kI_1 ?_
        refine X.iadd dX11_person_164 ?_
        obtain ⟨g43, h44, hf⟩ := ob hf
        refine Y.putI dX11_person_165 fl_X11_75 rfl rfl rfl rfl h44 ?_
        refine X.aload_n dX11_person_168 rfl (j := 1) rfl ?_
        obtain ⟨v45, h46, hf⟩ := ob hf
        refine Y.getI dX11_person_169 fl_X11_75 rfl h46 ?_
        refine X.iconst dX11_person_172 kI_1 ?_
        refine X.isub dX11_person_173 ?_
        obtain ⟨e1, e2⟩ := e_ret hf
        subst e1
        subst e2
        exact X.iret dX11_person_174 rfl rfl
      · rw [if_pos hc] at hf
        refine X.bipush dX11_person_69 kB_m4 ?_
        obtain ⟨e1, e2⟩ := e_ret hf
        subst e1
        subst e2
        exact X.iret dX11_person_71 rfl rfl
    · rw [if_neg hc] at hf
      refine X.bipush dX11_person_57 kB_m2 ?_
      obtain ⟨e1, e2⟩ := e_ret hf
      subst e1
      subst e2
      exact X.iret dX11_person_59 rfl rfl
theorem x_J_X11_person_39 {l : Launch} {D : va_G} {S : e_S} {w : Int32} {k : e_G} {l0 : Nat} {l1 : Int32} {l2 : Int32} {g : e_G} (hf : J_X11_person_39 S l0 l1 l2 g = some (w, k)) : X l D (e_R 3) M_X11_person 0 0 39 [(0, .ref l0), (1, .int l1), (2, .int l2)] [] (S, g) (some (.int w)) (S, k) := by
  unfold J_X11_person_39 at hf
  refine X.iconst dX11_person_39 kI_0 ?_
  exact x_J_X11_person_40 hf
theorem o_X11_person  {S : e_S} {w : Int32} {k : e_G} {l0 : Nat} {l1 : Int32} {l2 : Int32} {g : e_G} (hf : f_X11_person S l0 l1 l2 g = some (w, k)) : e_ob S 11 l0 = true := by
  unfold f_X11_person at hf
  by_cases hc : e_ob S 11 l0 = true
  · exact hc
  · rw [if_neg hc] at hf
    cases hf
theorem c_X11_person {l : Launch} {D : va_G}  {S : e_S} {w : Int32} {k : e_G} {l0 : Nat} {l1 : Int32} {l2 : Int32} {g : e_G} (hf : f_X11_person S l0 l1 l2 g = some (w, k)) : CT l D (e_R 3) M_X11_person [.ref l0, .int l1, .int l2] (S, g) (some (.int w)) (S, k) := by
  refine CT.of (by decide +kernel) (Nat.le_of_ble_eq_true rfl) ?_
  have ho := o_X11_person hf
  unfold f_X11_person at hf
  rw [if_pos ho] at hf
  show X l D (e_R 3) M_X11_person 0 0 0 [(0, .ref l0), (1, .int l1), (2, .int l2)] [] (S, g) (some (.int w)) (S, k)
  refine X.iload_n dX11_person_0 rfl (j := 1) rfl ?_
  refine X.iconst dX11_person_1 kI_0 ?_
  refine X.bipush dX11_person_2 kB_59 ?_
  obtain ⟨q2, h1, hf⟩ := ob hf
  refine Y.callS (av := [.int l1, .int (0 : Int32), .int (59 : Int32)]) dX11_person_4 (c_X11_in (l := l) (D := D) (w := q2.1) (k := q2.2) h1) cw_X11_78 mk_X11_in (e_R_ok (Nat.le_of_ble_eq_true rfl) (Nat.le_of_ble_eq_true rfl)) ⟨rfl, rfl⟩ (by simp [Value.category]) ?_
  refine X.if_eq dX11_person_7 (tgt := 39) rfl (fun hc => ?_) (fun hc => ?_)
  · rw [if_pos hc] at hf
    exact x_J_X11_person_39 hf
  · rw [if_neg hc] at hf
    refine X.iload_n dX11_person_10 rfl (j := 2) rfl ?_
    refine X.iconst dX11_person_11 kI_0 ?_
    refine X.sipush dX11_person_12 kS_1999 ?_
    obtain ⟨q4, h3, hf⟩ := ob hf
    refine Y.callS (av := [.int l2, .int (0 : Int32), .int (1999 : Int32)]) dX11_person_15 (c_X11_in (l := l) (D := D) (w := q4.1) (k := q4.2) h3) cw_X11_78 mk_X11_in (e_R_ok (Nat.le_of_ble_eq_true rfl) (Nat.le_of_ble_eq_true rfl)) ⟨rfl, rfl⟩ (by simp [Value.category]) ?_
    refine X.if_eq dX11_person_18 (tgt := 39) rfl (fun hc => ?_) (fun hc => ?_)
    · rw [if_pos hc] at hf
      exact x_J_X11_person_39 hf
    · rw [if_neg hc] at hf
      refine X.iload_n dX11_person_21 rfl (j := 2) rfl ?_
      refine X.bipush dX11_person_22 kB_100 ?_
      refine X.idiv dX11_person_24 (by decide) ?_
      refine X.iload_n dX11_person_25 rfl (j := 2) rfl ?_
      refine X.bipush dX11_person_26 kB_100 ?_
      refine Y.irem dX11_person_28 (by decide) ?_
      obtain ⟨q6, h5, hf⟩ := ob hf
      refine Y.callS (av := [.int (l2 / (100 : Int32)), .int (i_rem l2 (100 : Int32))]) dX11_person_29 (c_X11_areAcross (l := l) (D := D) (w := q6.1) (k := q6.2) h5) cw_X11_185 mk_X11_areAcross (e_R_ok (Nat.le_of_ble_eq_true rfl) (Nat.le_of_ble_eq_true rfl)) ⟨rfl, rfl⟩ (by simp [Value.category]) ?_
      refine X.if_eq dX11_person_32 (tgt := 39) rfl (fun hc => ?_) (fun hc => ?_)
      · rw [if_pos hc] at hf
        exact x_J_X11_person_39 hf
      · rw [if_neg hc] at hf
        refine X.iconst dX11_person_35 kI_1 ?_
        refine X.goto dX11_person_36 (tgt := 40) rfl ?_
        exact x_J_X11_person_40 hf
/-! LeanedOutModel.mayBeAt(II)Z -/
abbrev M_X11_mayBeAt : e_M := (yX11_mayBeAt, cX11_mayBeAt, 4, (some .boolean))
theorem mk_X11_mayBeAt : e_Mok M_X11_mayBeAt 2 := ⟨by decide +kernel, by decide +kernel, by decide +kernel⟩
theorem dX11_mayBeAt_0 : decode cX11_mayBeAt 0 = .ok (.iload_n 2, 1) := by decide +kernel
theorem dX11_mayBeAt_1 : decode cX11_mayBeAt 1 = .ok (.iconst 0, 1) := by decide +kernel
theorem dX11_mayBeAt_2 : decode cX11_mayBeAt 2 = .ok (.bipush 19, 2) := by decide +kernel
theorem dX11_mayBeAt_4 : decode cX11_mayBeAt 4 = .ok (.invokestatic 78, 3) := by decide +kernel
theorem dX11_mayBeAt_7 : decode cX11_mayBeAt 7 = .ok (.ifCond .eq 25, 3) := by decide +kernel
theorem dX11_mayBeAt_10 : decode cX11_mayBeAt 10 = .ok (.iload_n 2, 1) := by decide +kernel
theorem dX11_mayBeAt_11 : decode cX11_mayBeAt 11 = .ok (.bipush 10, 2) := by decide +kernel
theorem dX11_mayBeAt_13 : decode cX11_mayBeAt 13 = .ok (.idiv, 1) := by decide +kernel
theorem dX11_mayBeAt_14 : decode cX11_mayBeAt 14 = .ok (.aload_n 0, 1) := by decide +kernel
theorem dX11_mayBeAt_15 : decode cX11_mayBeAt 15 = .ok (.getfield 16, 3) := by decide +kernel
theorem dX11_mayBeAt_18 : decode cX11_mayBeAt 18 = .ok (.iconst 4, 1) := by decide +kernel
theorem dX11_mayBeAt_19 : decode cX11_mayBeAt 19 = .ok (.iload_n 1, 1) := by decide +kernel
theorem dX11_mayBeAt_20 : decode cX11_mayBeAt 20 = .ok (.imul, 1) := by decide +kernel
theorem dX11_mayBeAt_21 : decode cX11_mayBeAt 21 = .ok (.iaload, 1) := by decide +kernel
theorem dX11_mayBeAt_22 : decode cX11_mayBeAt 22 = .ok (.bipush 10, 2) := by decide +kernel
theorem dX11_mayBeAt_24 : decode cX11_mayBeAt 24 = .ok (.idiv, 1) := by decide +kernel
theorem dX11_mayBeAt_25 : decode cX11_mayBeAt 25 = .ok (.if_icmp .ne 7, 3) := by decide +kernel
theorem dX11_mayBeAt_28 : decode cX11_mayBeAt 28 = .ok (.iconst 1, 1) := by decide +kernel
theorem dX11_mayBeAt_29 : decode cX11_mayBeAt 29 = .ok (.goto 4, 3) := by decide +kernel
theorem dX11_mayBeAt_32 : decode cX11_mayBeAt 32 = .ok (.iconst 0, 1) := by decide +kernel
theorem dX11_mayBeAt_33 : decode cX11_mayBeAt 33 = .ok (.istore_n 3, 1) := by decide +kernel
theorem dX11_mayBeAt_34 : decode cX11_mayBeAt 34 = .ok (.iload_n 3, 1) := by decide +kernel
theorem dX11_mayBeAt_35 : decode cX11_mayBeAt 35 = .ok (.ifCond .eq 28, 3) := by decide +kernel
theorem dX11_mayBeAt_38 : decode cX11_mayBeAt 38 = .ok (.iload_n 2, 1) := by decide +kernel
theorem dX11_mayBeAt_39 : decode cX11_mayBeAt 39 = .ok (.aload_n 0, 1) := by decide +kernel
theorem dX11_mayBeAt_40 : decode cX11_mayBeAt 40 = .ok (.getfield 16, 3) := by decide +kernel
theorem dX11_mayBeAt_43 : decode cX11_mayBeAt 43 = .ok (.iconst 4, 1) := by decide +kernel
theorem dX11_mayBeAt_44 : decode cX11_mayBeAt 44 = .ok (.iload_n 1, 1) := by decide +kernel
theorem dX11_mayBeAt_45 : decode cX11_mayBeAt 45 = .ok (.imul, 1) := by decide +kernel
theorem dX11_mayBeAt_46 : decode cX11_mayBeAt 46 = .ok (.iaload, 1) := by decide +kernel
theorem dX11_mayBeAt_47 : decode cX11_mayBeAt 47 = .ok (.if_icmp .eq 12, 3) := by decide +kernel
theorem dX11_mayBeAt_50 : decode cX11_mayBeAt 50 = .ok (.aload_n 0, 1) := by decide +kernel
theorem dX11_mayBeAt_51 : decode cX11_mayBeAt 51 = .ok (.iload_n 2, 1) := by decide +kernel
theorem dX11_mayBeAt_52 : decode cX11_mayBeAt 52 = .ok (.invokevirtual 164, 3) := by decide +kernel
theorem dX11_mayBeAt_55 : decode cX11_mayBeAt 55 = .ok (.iconst (-1), 1) := by decide +kernel
theorem dX11_mayBeAt_56 : decode cX11_mayBeAt 56 = .ok (.if_icmp .ne 7, 3) := by decide +kernel
theorem dX11_mayBeAt_59 : decode cX11_mayBeAt 59 = .ok (.iconst 1, 1) := by decide +kernel
theorem dX11_mayBeAt_60 : decode cX11_mayBeAt 60 = .ok (.goto 4, 3) := by decide +kernel
theorem dX11_mayBeAt_63 : decode cX11_mayBeAt 63 = .ok (.iconst 0, 1) := by decide +kernel
theorem dX11_mayBeAt_64 : decode cX11_mayBeAt 64 = .ok (.ireturn, 1) := by decide +kernel
def J_X11_mayBeAt_59 (S : e_S) (g : e_G) : Option (Int32 × e_G) :=
  some ((1 : Int32), g)
def J_X11_mayBeAt_33 (S : e_S) (l0 : Nat) (l1 : Int32) (l2 : Int32) (t0 : Int32) (g : e_G) : Option (Int32 × e_G) :=
  if t0 = 0 then
    some ((0 : Int32), g)
  else
    (e_gR S g 11 l0 3).bind fun v1 =>
    (e_aI S g 0 v1 ((4 : Int32) * l1)).bind fun v3 =>
    if l2 = v3 then
      J_X11_mayBeAt_59 S g
    else
      (f_X11_whoAt S l0 l2 g).bind fun q6 =>
      if q6.1 = (-1 : Int32) then
        J_X11_mayBeAt_59 S q6.2
      else
        some ((0 : Int32), q6.2)
def J_X11_mayBeAt_32 (S : e_S) (l0 : Nat) (l1 : Int32) (l2 : Int32) (g : e_G) : Option (Int32 × e_G) :=
  J_X11_mayBeAt_33 S l0 l1 l2 (0 : Int32) g
def f_X11_mayBeAt (S : e_S) (l0 : Nat) (l1 : Int32) (l2 : Int32) (g : e_G) : Option (Int32 × e_G) :=
  if e_ob S 11 l0 = true then
    (f_X11_in S l2 (0 : Int32) (19 : Int32) g).bind fun q2 =>
    if q2.1 = 0 then
      J_X11_mayBeAt_32 S l0 l1 l2 q2.2
    else
      (e_gR S q2.2 11 l0 3).bind fun v3 =>
      (e_aI S q2.2 0 v3 ((4 : Int32) * l1)).bind fun v5 =>
      if (l2 / (10 : Int32)) = (v5 / (10 : Int32)) then
        J_X11_mayBeAt_33 S l0 l1 l2 (1 : Int32) q2.2
      else
        J_X11_mayBeAt_32 S l0 l1 l2 q2.2
  else none
theorem x_J_X11_mayBeAt_59 {l : Launch} {D : va_G} {S : e_S} {w : Int32} {k : e_G} {g : e_G} (hf : J_X11_mayBeAt_59 S g = some (w, k)) : X l D (e_R 2) M_X11_mayBeAt 0 0 59 [] [] (S, g) (some (.int w)) (S, k) := by
  unfold J_X11_mayBeAt_59 at hf
  refine X.iconst dX11_mayBeAt_59 kI_1 ?_
  refine X.goto dX11_mayBeAt_60 (tgt := 64) rfl ?_
  obtain ⟨e1, e2⟩ := e_ret hf
  subst e1
  subst e2
  exact X.iret dX11_mayBeAt_64 rfl rfl
theorem x_J_X11_mayBeAt_33 {l : Launch} {D : va_G} {S : e_S} {w : Int32} {k : e_G} {l0 : Nat} {l1 : Int32} {l2 : Int32} {t0 : Int32} {g : e_G} (hf : J_X11_mayBeAt_33 S l0 l1 l2 t0 g = some (w, k)) : X l D (e_R 2) M_X11_mayBeAt 0 0 33 [(0, .ref l0), (1, .int l1), (2, .int l2)] [.int t0] (S, g) (some (.int w)) (S, k) := by
  unfold J_X11_mayBeAt_33 at hf
  refine X.istore_n dX11_mayBeAt_33 rfl (Nat.le_of_ble_eq_true rfl) (lc' := [(3, .int t0), (0, .ref l0), (1, .int l1), (2, .int l2)]) rfl ?_
  refine X.iload_n dX11_mayBeAt_34 rfl (j := 0) rfl ?_
  refine X.if_eq dX11_mayBeAt_35 (tgt := 63) rfl (fun hc => ?_) (fun hc => ?_)
  · rw [if_pos hc] at hf
    refine X.iconst dX11_mayBeAt_63 kI_0 ?_
    obtain ⟨e1, e2⟩ := e_ret hf
    subst e1
    subst e2
    exact X.iret dX11_mayBeAt_64 rfl rfl
  · rw [if_neg hc] at hf
    refine X.iload_n dX11_mayBeAt_38 rfl (j := 3) rfl ?_
    refine X.aload_n dX11_mayBeAt_39 rfl (j := 1) rfl ?_
    obtain ⟨v1, h2, hf⟩ := ob hf
    refine Y.getR dX11_mayBeAt_40 fl_X11_16 rfl h2 ?_
    refine X.iconst dX11_mayBeAt_43 kI_4 ?_
    refine X.iload_n dX11_mayBeAt_44 rfl (j := 2) rfl ?_
    refine X.imul dX11_mayBeAt_45 ?_
    obtain ⟨v3, h4, hf⟩ := ob hf
    refine Y.iald dX11_mayBeAt_46 h4 ?_
    refine X.icmp_eq dX11_mayBeAt_47 (tgt := 59) rfl (fun hc => ?_) (fun hc => ?_)
    · rw [if_pos hc] at hf
      refine X.sub [] rfl ?_
      exact x_J_X11_mayBeAt_59 hf
    · rw [if_neg hc] at hf
      refine X.aload_n dX11_mayBeAt_50 rfl (j := 1) rfl ?_
      refine X.iload_n dX11_mayBeAt_51 rfl (j := 3) rfl ?_
      obtain ⟨q6, h5, hf⟩ := ob hf
      refine Y.callV (av := [.int l2]) (ci := 11) dX11_mayBeAt_52 (c_X11_whoAt (l := l) (D := D) (w := q6.1) (k := q6.2) h5) cw_X11_164 (by decide) rfl mk_X11_whoAt (o_X11_whoAt (w := q6.1) (k := q6.2) h5) (e_R_ok (Nat.le_of_ble_eq_true rfl) (Nat.le_of_ble_eq_true rfl)) ⟨rfl, rfl⟩ (by simp [Value.category]) ?_
      refine X.iconst dX11_mayBeAt_55 kI_m1 ?_
      refine X.icmp_ne dX11_mayBeAt_56 (tgt := 63) rfl (fun hc => ?_) (fun hc => ?_)
      · rw [if_neg hc] at hf
        refine X.iconst dX11_mayBeAt_63 kI_0 ?_
        obtain ⟨e1, e2⟩ := e_ret hf
        subst e1
        subst e2
        exact X.iret dX11_mayBeAt_64 rfl rfl
      · rw [if_pos hc] at hf
        refine X.sub [] rfl ?_
        exact x_J_X11_mayBeAt_59 hf
theorem x_J_X11_mayBeAt_32 {l : Launch} {D : va_G} {S : e_S} {w : Int32} {k : e_G} {l0 : Nat} {l1 : Int32} {l2 : Int32} {g : e_G} (hf : J_X11_mayBeAt_32 S l0 l1 l2 g = some (w, k)) : X l D (e_R 2) M_X11_mayBeAt 0 0 32 [(0, .ref l0), (1, .int l1), (2, .int l2)] [] (S, g) (some (.int w)) (S, k) := by
  unfold J_X11_mayBeAt_32 at hf
  refine X.iconst dX11_mayBeAt_32 kI_0 ?_
  exact x_J_X11_mayBeAt_33 hf
theorem o_X11_mayBeAt  {S : e_S} {w : Int32} {k : e_G} {l0 : Nat} {l1 : Int32} {l2 : Int32} {g : e_G} (hf : f_X11_mayBeAt S l0 l1 l2 g = some (w, k)) : e_ob S 11 l0 = true := by
  unfold f_X11_mayBeAt at hf
  by_cases hc : e_ob S 11 l0 = true
  · exact hc
  · rw [if_neg hc] at hf
    cases hf
theorem c_X11_mayBeAt {l : Launch} {D : va_G}  {S : e_S} {w : Int32} {k : e_G} {l0 : Nat} {l1 : Int32} {l2 : Int32} {g : e_G} (hf : f_X11_mayBeAt S l0 l1 l2 g = some (w, k)) : CT l D (e_R 2) M_X11_mayBeAt [.ref l0, .int l1, .int l2] (S, g) (some (.int w)) (S, k) := by
  refine CT.of (by decide +kernel) (Nat.le_of_ble_eq_true rfl) ?_
  have ho := o_X11_mayBeAt hf
  unfold f_X11_mayBeAt at hf
  rw [if_pos ho] at hf
  show X l D (e_R 2) M_X11_mayBeAt 0 0 0 [(0, .ref l0), (1, .int l1), (2, .int l2)] [] (S, g) (some (.int w)) (S, k)
  refine X.iload_n dX11_mayBeAt_0 rfl (j := 2) rfl ?_
  refine X.iconst dX11_mayBeAt_1 kI_0 ?_
  refine X.bipush dX11_mayBeAt_2 kB_19 ?_
  obtain ⟨q2, h1, hf⟩ := ob hf
  refine Y.callS (av := [.int l2, .int (0 : Int32), .int (19 : Int32)]) dX11_mayBeAt_4 (c_X11_in (l := l) (D := D) (w := q2.1) (k := q2.2) h1) cw_X11_78 mk_X11_in (e_R_ok (Nat.le_of_ble_eq_true rfl) (Nat.le_of_ble_eq_true rfl)) ⟨rfl, rfl⟩ (by simp [Value.category]) ?_
  refine X.if_eq dX11_mayBeAt_7 (tgt := 32) rfl (fun hc => ?_) (fun hc => ?_)
  · rw [if_pos hc] at hf
    exact x_J_X11_mayBeAt_32 hf
  · rw [if_neg hc] at hf
    refine X.iload_n dX11_mayBeAt_10 rfl (j := 2) rfl ?_
    refine X.bipush dX11_mayBeAt_11 kB_10 ?_
    refine X.idiv dX11_mayBeAt_13 (by decide) ?_
    refine X.aload_n dX11_mayBeAt_14 rfl (j := 0) rfl ?_
    obtain ⟨v3, h4, hf⟩ := ob hf
    refine Y.getR dX11_mayBeAt_15 fl_X11_16 rfl h4 ?_
    refine X.iconst dX11_mayBeAt_18 kI_4 ?_
    refine X.iload_n dX11_mayBeAt_19 rfl (j := 1) rfl ?_
    refine X.imul dX11_mayBeAt_20 ?_
    obtain ⟨v5, h6, hf⟩ := ob hf
    refine Y.iald dX11_mayBeAt_21 h6 ?_
    refine X.bipush dX11_mayBeAt_22 kB_10 ?_
    refine X.idiv dX11_mayBeAt_24 (by decide) ?_
    refine X.icmp_ne dX11_mayBeAt_25 (tgt := 32) rfl (fun hc => ?_) (fun hc => ?_)
    · rw [if_neg hc] at hf
      exact x_J_X11_mayBeAt_32 hf
    · rw [if_pos hc] at hf
      refine X.iconst dX11_mayBeAt_28 kI_1 ?_
      refine X.goto dX11_mayBeAt_29 (tgt := 33) rfl ?_
      exact x_J_X11_mayBeAt_33 hf
/-! LeanedOutModel.put(III)I -/
abbrev M_X11_put : e_M := (yX11_put, cX11_put, 6, (some .int))
theorem mk_X11_put : e_Mok M_X11_put 3 := ⟨by decide +kernel, by decide +kernel, by decide +kernel⟩
theorem dX11_put_0 : decode cX11_put 0 = .ok (.aload_n 0, 1) := by decide +kernel
theorem dX11_put_1 : decode cX11_put 1 = .ok (.iload_n 1, 1) := by decide +kernel
theorem dX11_put_2 : decode cX11_put 2 = .ok (.invokevirtual 179, 3) := by decide +kernel
theorem dX11_put_5 : decode cX11_put 5 = .ok (.ifCond .ne 6, 3) := by decide +kernel
theorem dX11_put_8 : decode cX11_put 8 = .ok (.bipush (-5), 2) := by decide +kernel
theorem dX11_put_10 : decode cX11_put 10 = .ok (.ireturn, 1) := by decide +kernel
theorem dX11_put_11 : decode cX11_put 11 = .ok (.iload_n 2, 1) := by decide +kernel
theorem dX11_put_12 : decode cX11_put 12 = .ok (.ifCond .ne 12, 3) := by decide +kernel
theorem dX11_put_15 : decode cX11_put 15 = .ok (.aload_n 0, 1) := by decide +kernel
theorem dX11_put_16 : decode cX11_put 16 = .ok (.iload_n 1, 1) := by decide +kernel
theorem dX11_put_17 : decode cX11_put 17 = .ok (.iload_n 3, 1) := by decide +kernel
theorem dX11_put_18 : decode cX11_put 18 = .ok (.invokevirtual 189, 3) := by decide +kernel
theorem dX11_put_21 : decode cX11_put 21 = .ok (.goto 43, 3) := by decide +kernel
theorem dX11_put_24 : decode cX11_put 24 = .ok (.iload_n 2, 1) := by decide +kernel
theorem dX11_put_25 : decode cX11_put 25 = .ok (.iconst 1, 1) := by decide +kernel
theorem dX11_put_26 : decode cX11_put 26 = .ok (.if_icmp .ne 18, 3) := by decide +kernel
theorem dX11_put_29 : decode cX11_put 29 = .ok (.aload_n 0, 1) := by decide +kernel
theorem dX11_put_30 : decode cX11_put 30 = .ok (.getfield 16, 3) := by decide +kernel
theorem dX11_put_33 : decode cX11_put 33 = .ok (.iconst 4, 1) := by decide +kernel
theorem dX11_put_34 : decode cX11_put 34 = .ok (.iload_n 1, 1) := by decide +kernel
theorem dX11_put_35 : decode cX11_put 35 = .ok (.imul, 1) := by decide +kernel
theorem dX11_put_36 : decode cX11_put 36 = .ok (.iaload, 1) := by decide +kernel
theorem dX11_put_37 : decode cX11_put 37 = .ok (.iload_n 3, 1) := by decide +kernel
theorem dX11_put_38 : decode cX11_put 38 = .ok (.invokestatic 185, 3) := by decide +kernel
theorem dX11_put_41 : decode cX11_put 41 = .ok (.goto 23, 3) := by decide +kernel
theorem dX11_put_44 : decode cX11_put 44 = .ok (.iload_n 2, 1) := by decide +kernel
theorem dX11_put_45 : decode cX11_put 45 = .ok (.iconst 2, 1) := by decide +kernel
theorem dX11_put_46 : decode cX11_put 46 = .ok (.if_icmp .ne 17, 3) := by decide +kernel
theorem dX11_put_49 : decode cX11_put 49 = .ok (.iload_n 3, 1) := by decide +kernel
theorem dX11_put_50 : decode cX11_put 50 = .ok (.iconst 0, 1) := by decide +kernel
theorem dX11_put_51 : decode cX11_put 51 = .ok (.bipush 99, 2) := by decide +kernel
theorem dX11_put_53 : decode cX11_put 53 = .ok (.invokestatic 78, 3) := by decide +kernel
theorem dX11_put_56 : decode cX11_put 56 = .ok (.ifCond .eq 7, 3) := by decide +kernel
theorem dX11_put_59 : decode cX11_put 59 = .ok (.iconst 1, 1) := by decide +kernel
theorem dX11_put_60 : decode cX11_put 60 = .ok (.goto 4, 3) := by decide +kernel
theorem dX11_put_63 : decode cX11_put 63 = .ok (.iconst 0, 1) := by decide +kernel
theorem dX11_put_64 : decode cX11_put 64 = .ok (.istore 4, 2) := by decide +kernel
theorem dX11_put_66 : decode cX11_put 66 = .ok (.iload 4, 2) := by decide +kernel
theorem dX11_put_68 : decode cX11_put 68 = .ok (.ifCond .ne 6, 3) := by decide +kernel
theorem dX11_put_71 : decode cX11_put 71 = .ok (.bipush (-7), 2) := by decide +kernel
theorem dX11_put_73 : decode cX11_put 73 = .ok (.ireturn, 1) := by decide +kernel
theorem dX11_put_74 : decode cX11_put 74 = .ok (.aload_n 0, 1) := by decide +kernel
theorem dX11_put_75 : decode cX11_put 75 = .ok (.getfield 16, 3) := by decide +kernel
theorem dX11_put_78 : decode cX11_put 78 = .ok (.iconst 4, 1) := by decide +kernel
theorem dX11_put_79 : decode cX11_put 79 = .ok (.iload_n 1, 1) := by decide +kernel
theorem dX11_put_80 : decode cX11_put 80 = .ok (.imul, 1) := by decide +kernel
theorem dX11_put_81 : decode cX11_put 81 = .ok (.iload_n 2, 1) := by decide +kernel
theorem dX11_put_82 : decode cX11_put 82 = .ok (.iadd, 1) := by decide +kernel
theorem dX11_put_83 : decode cX11_put 83 = .ok (.iaload, 1) := by decide +kernel
theorem dX11_put_84 : decode cX11_put 84 = .ok (.istore 5, 2) := by decide +kernel
theorem dX11_put_86 : decode cX11_put 86 = .ok (.aload_n 0, 1) := by decide +kernel
theorem dX11_put_87 : decode cX11_put 87 = .ok (.getfield 16, 3) := by decide +kernel
theorem dX11_put_90 : decode cX11_put 90 = .ok (.iconst 4, 1) := by decide +kernel
theorem dX11_put_91 : decode cX11_put 91 = .ok (.iload_n 1, 1) := by decide +kernel
theorem dX11_put_92 : decode cX11_put 92 = .ok (.imul, 1) := by decide +kernel
theorem dX11_put_93 : decode cX11_put 93 = .ok (.iload_n 2, 1) := by decide +kernel
theorem dX11_put_94 : decode cX11_put 94 = .ok (.iadd, 1) := by decide +kernel
theorem dX11_put_95 : decode cX11_put 95 = .ok (.iload_n 3, 1) := by decide +kernel
theorem dX11_put_96 : decode cX11_put 96 = .ok (.iastore, 1) := by decide +kernel
theorem dX11_put_97 : decode cX11_put 97 = .ok (.iload 5, 2) := by decide +kernel
theorem dX11_put_99 : decode cX11_put 99 = .ok (.ireturn, 1) := by decide +kernel
def J_X11_put_64 (S : e_S) (l0 : Nat) (l1 : Int32) (l2 : Int32) (l3 : Int32) (t0 : Int32) (g : e_G) : Option (Int32 × e_G) :=
  if t0 = 0 then
    some ((-7 : Int32), g)
  else
    (e_gR S g 11 l0 3).bind fun v1 =>
    (e_aI S g 0 v1 (((4 : Int32) * l1) + l2)).bind fun v3 =>
    (e_gR S g 11 l0 3).bind fun v5 =>
    (e_aS S g 0 v5 (((4 : Int32) * l1) + l2) l3).bind fun g7 =>
    some (v3, g7)
def J_X11_put_63 (S : e_S) (l0 : Nat) (l1 : Int32) (l2 : Int32) (l3 : Int32) (g : e_G) : Option (Int32 × e_G) :=
  J_X11_put_64 S l0 l1 l2 l3 (0 : Int32) g
def f_X11_put (S : e_S) (l0 : Nat) (l1 : Int32) (l2 : Int32) (l3 : Int32) (g : e_G) : Option (Int32 × e_G) :=
  if e_ob S 11 l0 = true then
    (f_X11_isOne S l0 l1 g).bind fun q2 =>
    if q2.1 = 0 then
      some ((-5 : Int32), q2.2)
    else
      if l2 = 0 then
        (f_X11_mayBeAt S l0 l1 l3 q2.2).bind fun q12 =>
        J_X11_put_64 S l0 l1 l2 l3 q12.1 q12.2
      else
        if l2 = (1 : Int32) then
          (e_gR S q2.2 11 l0 3).bind fun v5 =>
          (e_aI S q2.2 0 v5 ((4 : Int32) * l1)).bind fun v7 =>
          (f_X11_areAcross S v7 l3 q2.2).bind fun q10 =>
          J_X11_put_64 S l0 l1 l2 l3 q10.1 q10.2
        else
          if l2 = (2 : Int32) then
            (f_X11_in S l3 (0 : Int32) (99 : Int32) q2.2).bind fun q4 =>
            if q4.1 = 0 then
              J_X11_put_63 S l0 l1 l2 l3 q4.2
            else
              J_X11_put_64 S l0 l1 l2 l3 (1 : Int32) q4.2
          else
            J_X11_put_63 S l0 l1 l2 l3 q2.2
  else none
theorem x_J_X11_put_64 {l : Launch} {D : va_G} {S : e_S} {w : Int32} {k : e_G} {l0 : Nat} {l1 : Int32} {l2 : Int32} {l3 : Int32} {t0 : Int32} {g : e_G} (hf : J_X11_put_64 S l0 l1 l2 l3 t0 g = some (w, k)) : X l D (e_R 3) M_X11_put 0 0 64 [(0, .ref l0), (1, .int l1), (2, .int l2), (3, .int l3)] [.int t0] (S, g) (some (.int w)) (S, k) := by
  unfold J_X11_put_64 at hf
  refine X.istore dX11_put_64 (Nat.le_of_ble_eq_true rfl) (lc' := [(4, .int t0), (0, .ref l0), (1, .int l1), (2, .int l2), (3, .int l3)]) rfl ?_
  refine X.iload dX11_put_66 (j := 0) rfl ?_
  refine X.if_ne dX11_put_68 (tgt := 74) rfl (fun hc => ?_) (fun hc => ?_)
  · rw [if_neg hc] at hf
    refine X.aload_n dX11_put_74 rfl (j := 1) rfl ?_
    obtain ⟨v1, h2, hf⟩ := ob hf
    refine Y.getR dX11_put_75 fl_X11_16 rfl h2 ?_
    refine X.iconst dX11_put_78 kI_4 ?_
    refine X.iload_n dX11_put_79 rfl (j := 2) rfl ?_
    refine X.imul dX11_put_80 ?_
    refine X.iload_n dX11_put_81 rfl (j := 3) rfl ?_
    refine X.iadd dX11_put_82 ?_
    obtain ⟨v3, h4, hf⟩ := ob hf
    refine Y.iald dX11_put_83 h4 ?_
    refine X.istore dX11_put_84 (Nat.le_of_ble_eq_true rfl) (lc' := [(5, .int v3), (4, .int t0), (0, .ref l0), (1, .int l1), (2, .int l2), (3, .int l3)]) rfl ?_
    refine X.aload_n dX11_put_86 rfl (j := 2) rfl ?_
    obtain ⟨v5, h6, hf⟩ := ob hf
    refine Y.getR dX11_put_87 fl_X11_16 rfl h6 ?_
    refine X.iconst dX11_put_90 kI_4 ?_
    refine X.iload_n dX11_put_91 rfl (j := 3) rfl ?_
    refine X.imul dX11_put_92 ?_
    refine X.iload_n dX11_put_93 rfl (j := 4) rfl ?_
    refine X.iadd dX11_put_94 ?_
    refine X.iload_n dX11_put_95 rfl (j := 5) rfl ?_
    obtain ⟨g7, h8, hf⟩ := ob hf
    refine Y.iast dX11_put_96 h8 ?_
    refine X.iload dX11_put_97 (j := 0) rfl ?_
    obtain ⟨e1, e2⟩ := e_ret hf
    subst e1
    subst e2
    exact X.iret dX11_put_99 rfl rfl
  · rw [if_pos hc] at hf
    refine X.bipush dX11_put_71 kB_m7 ?_
    obtain ⟨e1, e2⟩ := e_ret hf
    subst e1
    subst e2
    exact X.iret dX11_put_73 rfl rfl
theorem x_J_X11_put_63 {l : Launch} {D : va_G} {S : e_S} {w : Int32} {k : e_G} {l0 : Nat} {l1 : Int32} {l2 : Int32} {l3 : Int32} {g : e_G} (hf : J_X11_put_63 S l0 l1 l2 l3 g = some (w, k)) : X l D (e_R 3) M_X11_put 0 0 63 [(0, .ref l0), (1, .int l1), (2, .int l2), (3, .int l3)] [] (S, g) (some (.int w)) (S, k) := by
  unfold J_X11_put_63 at hf
  refine X.iconst dX11_put_63 kI_0 ?_
  exact x_J_X11_put_64 hf
theorem o_X11_put  {S : e_S} {w : Int32} {k : e_G} {l0 : Nat} {l1 : Int32} {l2 : Int32} {l3 : Int32} {g : e_G} (hf : f_X11_put S l0 l1 l2 l3 g = some (w, k)) : e_ob S 11 l0 = true := by
  unfold f_X11_put at hf
  by_cases hc : e_ob S 11 l0 = true
  · exact hc
  · rw [if_neg hc] at hf
    cases hf
theorem c_X11_put {l : Launch} {D : va_G}  {S : e_S} {w : Int32} {k : e_G} {l0 : Nat} {l1 : Int32} {l2 : Int32} {l3 : Int32} {g : e_G} (hf : f_X11_put S l0 l1 l2 l3 g = some (w, k)) : CT l D (e_R 3) M_X11_put [.ref l0, .int l1, .int l2, .int l3] (S, g) (some (.int w)) (S, k) := by
  refine CT.of (by decide +kernel) (Nat.le_of_ble_eq_true rfl) ?_
  have ho := o_X11_put hf
  unfold f_X11_put at hf
  rw [if_pos ho] at hf
  show X l D (e_R 3) M_X11_put 0 0 0 [(0, .ref l0), (1, .int l1), (2, .int l2), (3, .int l3)] [] (S, g) (some (.int w)) (S, k)
  refine X.aload_n dX11_put_0 rfl (j := 0) rfl ?_
  refine X.iload_n dX11_put_1 rfl (j := 1) rfl ?_
  obtain ⟨q2, h1, hf⟩ := ob hf
  refine Y.callV (av := [.int l1]) (ci := 11) dX11_put_2 (c_X11_isOne (l := l) (D := D) (w := q2.1) (k := q2.2) h1) cw_X11_179 (by decide) rfl mk_X11_isOne (o_X11_isOne (w := q2.1) (k := q2.2) h1) (e_R_ok (Nat.le_of_ble_eq_true rfl) (Nat.le_of_ble_eq_true rfl)) ⟨rfl, rfl⟩ (by simp [Value.category]) ?_
  refine X.if_ne dX11_put_5 (tgt := 11) rfl (fun hc => ?_) (fun hc => ?_)
  · rw [if_neg hc] at hf
    refine X.iload_n dX11_put_11 rfl (j := 2) rfl ?_
    refine X.if_ne dX11_put_12 (tgt := 24) rfl (fun hc => ?_) (fun hc => ?_)
    · rw [if_neg hc] at hf
      refine X.iload_n dX11_put_24 rfl (j := 2) rfl ?_
      refine X.iconst dX11_put_25 kI_1 ?_
      refine X.icmp_ne dX11_put_26 (tgt := 44) rfl (fun hc => ?_) (fun hc => ?_)
      · rw [if_neg hc] at hf
        refine X.iload_n dX11_put_44 rfl (j := 2) rfl ?_
        refine X.iconst dX11_put_45 kI_2 ?_
        refine X.icmp_ne dX11_put_46 (tgt := 63) rfl (fun hc => ?_) (fun hc => ?_)
        · rw [if_neg hc] at hf
          exact x_J_X11_put_63 hf
        · rw [if_pos hc] at hf
          refine X.iload_n dX11_put_49 rfl (j := 3) rfl ?_
          refine X.iconst dX11_put_50 kI_0 ?_
          refine X.bipush dX11_put_51 kB_99 ?_
          obtain ⟨q4, h3, hf⟩ := ob hf
          refine Y.callS (av := [.int l3, .int (0 : Int32), .int (99 : Int32)]) dX11_put_53 (c_X11_in (l := l) (D := D) (w := q4.1) (k := q4.2) h3) cw_X11_78 mk_X11_in (e_R_ok (Nat.le_of_ble_eq_true rfl) (Nat.le_of_ble_eq_true rfl)) ⟨rfl, rfl⟩ (by simp [Value.category]) ?_
          refine X.if_eq dX11_put_56 (tgt := 63) rfl (fun hc => ?_) (fun hc => ?_)
          · rw [if_pos hc] at hf
            exact x_J_X11_put_63 hf
          · rw [if_neg hc] at hf
            refine X.iconst dX11_put_59 kI_1 ?_
            refine X.goto dX11_put_60 (tgt := 64) rfl ?_
            exact x_J_X11_put_64 hf
      · rw [if_pos hc] at hf
        refine X.aload_n dX11_put_29 rfl (j := 0) rfl ?_
        obtain ⟨v5, h6, hf⟩ := ob hf
        refine Y.getR dX11_put_30 fl_X11_16 rfl h6 ?_
        refine X.iconst dX11_put_33 kI_4 ?_
        refine X.iload_n dX11_put_34 rfl (j := 1) rfl ?_
        refine X.imul dX11_put_35 ?_
        obtain ⟨v7, h8, hf⟩ := ob hf
        refine Y.iald dX11_put_36 h8 ?_
        refine X.iload_n dX11_put_37 rfl (j := 3) rfl ?_
        obtain ⟨q10, h9, hf⟩ := ob hf
        refine Y.callS (av := [.int v7, .int l3]) dX11_put_38 (c_X11_areAcross (l := l) (D := D) (w := q10.1) (k := q10.2) h9) cw_X11_185 mk_X11_areAcross (e_R_ok (Nat.le_of_ble_eq_true rfl) (Nat.le_of_ble_eq_true rfl)) ⟨rfl, rfl⟩ (by simp [Value.category]) ?_
        refine X.goto dX11_put_41 (tgt := 64) rfl ?_
        exact x_J_X11_put_64 hf
    · rw [if_pos hc] at hf
      refine X.aload_n dX11_put_15 rfl (j := 0) rfl ?_
      refine X.iload_n dX11_put_16 rfl (j := 1) rfl ?_
      refine X.iload_n dX11_put_17 rfl (j := 3) rfl ?_
      obtain ⟨q12, h11, hf⟩ := ob hf
      refine Y.callV (av := [.int l1, .int l3]) (ci := 11) dX11_put_18 (c_X11_mayBeAt (l := l) (D := D) (w := q12.1) (k := q12.2) h11) cw_X11_189 (by decide) rfl mk_X11_mayBeAt (o_X11_mayBeAt (w := q12.1) (k := q12.2) h11) (e_R_ok (Nat.le_of_ble_eq_true rfl) (Nat.le_of_ble_eq_true rfl)) ⟨rfl, rfl⟩ (by simp [Value.category]) ?_
      refine X.goto dX11_put_21 (tgt := 64) rfl ?_
      exact x_J_X11_put_64 hf
  · rw [if_pos hc] at hf
    refine X.bipush dX11_put_8 kB_m5 ?_
    obtain ⟨e1, e2⟩ := e_ret hf
    subst e1
    subst e2
    exact X.iret dX11_put_10 rfl rfl
/-! LeanedOutModel.leansOf(I)I -/
abbrev M_X11_leansOf : e_M := (yX11_leansOf, cX11_leansOf, 5, (some .int))
theorem mk_X11_leansOf : e_Mok M_X11_leansOf 1 := ⟨by decide +kernel, by decide +kernel, by decide +kernel⟩
theorem dX11_leansOf_0 : decode cX11_leansOf 0 = .ok (.aload_n 0, 1) := by decide +kernel
theorem dX11_leansOf_1 : decode cX11_leansOf 1 = .ok (.iload_n 1, 1) := by decide +kernel
theorem dX11_leansOf_2 : decode cX11_leansOf 2 = .ok (.invokevirtual 192, 3) := by decide +kernel
theorem dX11_leansOf_5 : decode cX11_leansOf 5 = .ok (.istore_n 2, 1) := by decide +kernel
theorem dX11_leansOf_6 : decode cX11_leansOf 6 = .ok (.aload_n 0, 1) := by decide +kernel
theorem dX11_leansOf_7 : decode cX11_leansOf 7 = .ok (.getfield 7, 3) := by decide +kernel
theorem dX11_leansOf_10 : decode cX11_leansOf 10 = .ok (.iload_n 1, 1) := by decide +kernel
theorem dX11_leansOf_11 : decode cX11_leansOf 11 = .ok (.iaload, 1) := by decide +kernel
theorem dX11_leansOf_12 : decode cX11_leansOf 12 = .ok (.iconst 5, 1) := by decide +kernel
theorem dX11_leansOf_13 : decode cX11_leansOf 13 = .ok (.if_icmp .ne 13, 3) := by decide +kernel
theorem dX11_leansOf_16 : decode cX11_leansOf 16 = .ok (.iload_n 2, 1) := by decide +kernel
theorem dX11_leansOf_17 : decode cX11_leansOf 17 = .ok (.ifCond .eq 7, 3) := by decide +kernel
theorem dX11_leansOf_20 : decode cX11_leansOf 20 = .ok (.iconst (-1), 1) := by decide +kernel
theorem dX11_leansOf_21 : decode cX11_leansOf 21 = .ok (.goto 4, 3) := by decide +kernel
theorem dX11_leansOf_24 : decode cX11_leansOf 24 = .ok (.iconst 0, 1) := by decide +kernel
theorem dX11_leansOf_25 : decode cX11_leansOf 25 = .ok (.ireturn, 1) := by decide +kernel
theorem dX11_leansOf_26 : decode cX11_leansOf 26 = .ok (.aload_n 0, 1) := by decide +kernel
theorem dX11_leansOf_27 : decode cX11_leansOf 27 = .ok (.iconst 0, 1) := by decide +kernel
theorem dX11_leansOf_28 : decode cX11_leansOf 28 = .ok (.iload_n 1, 1) := by decide +kernel
theorem dX11_leansOf_29 : decode cX11_leansOf 29 = .ok (.invokevirtual 182, 3) := by decide +kernel
theorem dX11_leansOf_32 : decode cX11_leansOf 32 = .ok (.istore_n 3, 1) := by decide +kernel
theorem dX11_leansOf_33 : decode cX11_leansOf 33 = .ok (.iload_n 2, 1) := by decide +kernel
theorem dX11_leansOf_34 : decode cX11_leansOf 34 = .ok (.ifCond .eq 14, 3) := by decide +kernel
theorem dX11_leansOf_37 : decode cX11_leansOf 37 = .ok (.iload_n 3, 1) := by decide +kernel
theorem dX11_leansOf_38 : decode cX11_leansOf 38 = .ok (.aload_n 0, 1) := by decide +kernel
theorem dX11_leansOf_39 : decode cX11_leansOf 39 = .ok (.getfield 13, 3) := by decide +kernel
theorem dX11_leansOf_42 : decode cX11_leansOf 42 = .ok (.iload_n 1, 1) := by decide +kernel
theorem dX11_leansOf_43 : decode cX11_leansOf 43 = .ok (.iaload, 1) := by decide +kernel
theorem dX11_leansOf_44 : decode cX11_leansOf 44 = .ok (.iadd, 1) := by decide +kernel
theorem dX11_leansOf_45 : decode cX11_leansOf 45 = .ok (.goto 4, 3) := by decide +kernel
theorem dX11_leansOf_48 : decode cX11_leansOf 48 = .ok (.iload_n 3, 1) := by decide +kernel
theorem dX11_leansOf_49 : decode cX11_leansOf 49 = .ok (.istore 4, 2) := by decide +kernel
theorem dX11_leansOf_51 : decode cX11_leansOf 51 = .ok (.aload_n 0, 1) := by decide +kernel
theorem dX11_leansOf_52 : decode cX11_leansOf 52 = .ok (.getfield 7, 3) := by decide +kernel
theorem dX11_leansOf_55 : decode cX11_leansOf 55 = .ok (.iload_n 1, 1) := by decide +kernel
theorem dX11_leansOf_56 : decode cX11_leansOf 56 = .ok (.iaload, 1) := by decide +kernel
theorem dX11_leansOf_57 : decode cX11_leansOf 57 = .ok (.tableswitch 60 1 4 #[31, 60, 34, 39], 31) := by decide +kernel
theorem dX11_leansOf_88 : decode cX11_leansOf 88 = .ok (.iload 4, 2) := by decide +kernel
theorem dX11_leansOf_90 : decode cX11_leansOf 90 = .ok (.ireturn, 1) := by decide +kernel
theorem dX11_leansOf_91 : decode cX11_leansOf 91 = .ok (.iconst 2, 1) := by decide +kernel
theorem dX11_leansOf_92 : decode cX11_leansOf 92 = .ok (.iload 4, 2) := by decide +kernel
theorem dX11_leansOf_94 : decode cX11_leansOf 94 = .ok (.imul, 1) := by decide +kernel
theorem dX11_leansOf_95 : decode cX11_leansOf 95 = .ok (.ireturn, 1) := by decide +kernel
theorem dX11_leansOf_96 : decode cX11_leansOf 96 = .ok (.aload_n 0, 1) := by decide +kernel
theorem dX11_leansOf_97 : decode cX11_leansOf 97 = .ok (.getfield 89, 3) := by decide +kernel
theorem dX11_leansOf_100 : decode cX11_leansOf 100 = .ok (.iconst 5, 1) := by decide +kernel
theorem dX11_leansOf_101 : decode cX11_leansOf 101 = .ok (.irem, 1) := by decide +kernel
theorem dX11_leansOf_102 : decode cX11_leansOf 102 = .ok (.ifCond .ne 12, 3) := by decide +kernel
theorem dX11_leansOf_105 : decode cX11_leansOf 105 = .ok (.aload_n 0, 1) := by decide +kernel
theorem dX11_leansOf_106 : decode cX11_leansOf 106 = .ok (.getfield 13, 3) := by decide +kernel
theorem dX11_leansOf_109 : decode cX11_leansOf 109 = .ok (.iload_n 1, 1) := by decide +kernel
theorem dX11_leansOf_110 : decode cX11_leansOf 110 = .ok (.iaload, 1) := by decide +kernel
theorem dX11_leansOf_111 : decode cX11_leansOf 111 = .ok (.goto 5, 3) := by decide +kernel
theorem dX11_leansOf_114 : decode cX11_leansOf 114 = .ok (.iload_n 3, 1) := by decide +kernel
theorem dX11_leansOf_115 : decode cX11_leansOf 115 = .ok (.ineg, 1) := by decide +kernel
theorem dX11_leansOf_116 : decode cX11_leansOf 116 = .ok (.ireturn, 1) := by decide +kernel
theorem dX11_leansOf_117 : decode cX11_leansOf 117 = .ok (.iload_n 3, 1) := by decide +kernel
theorem dX11_leansOf_118 : decode cX11_leansOf 118 = .ok (.ireturn, 1) := by decide +kernel
def J_X11_leansOf_49 (S : e_S) (l0 : Nat) (l1 : Int32) (l3 : Int32) (t0 : Int32) (g : e_G) : Option (Int32 × e_G) :=
  (e_gR S g 11 l0 1).bind fun v1 =>
  (e_aI S g 0 v1 l1).bind fun v3 =>
  if v3 = 1 then
    some (t0, g)
  else
  if v3 = 2 then
    some (l3, g)
  else
  if v3 = 3 then
    some ((2 : Int32) * t0, g)
  else
  if v3 = 4 then
    (e_gI S g 11 l0 4).bind fun v9 =>
    if (i_rem v9 (5 : Int32)) = 0 then
      (e_gR S g 11 l0 2).bind fun v11 =>
      (e_aI S g 0 v11 l1).bind fun v13 =>
      some (v13, g)
    else
      some (-l3, g)
  else
  some (l3, g)
def f_X11_leansOf (S : e_S) (l0 : Nat) (l1 : Int32) (g : e_G) : Option (Int32 × e_G) :=
  if e_ob S 11 l0 = true then
    (f_X11_isMet S l0 l1 g).bind fun q2 =>
    (e_gR S q2.2 11 l0 1).bind fun v3 =>
    (e_aI S q2.2 0 v3 l1).bind fun v5 =>
    if v5 = (5 : Int32) then
      if q2.1 = 0 then
        some ((0 : Int32), q2.2)
      else
        some ((-1 : Int32), q2.2)
    else
      (f_X11_asksOf S l0 (0 : Int32) l1 q2.2).bind fun q8 =>
      if q2.1 = 0 then
        J_X11_leansOf_49 S l0 l1 q8.1 q8.1 q8.2
      else
        (e_gR S q8.2 11 l0 2).bind fun v9 =>
        (e_aI S q8.2 0 v9 l1).bind fun v11 =>
        J_X11_leansOf_49 S l0 l1 q8.1 (q8.1 + v11) q8.2
  else none
theorem x_J_X11_leansOf_49 {l : Launch} {D : va_G} {S : e_S} {w : Int32} {k : e_G} {l0 : Nat} {l1 : Int32} {l3 : Int32} {t0 : Int32} {g : e_G} (hf : J_X11_leansOf_49 S l0 l1 l3 t0 g = some (w, k)) : X l D (e_R 4) M_X11_leansOf 0 0 49 [(0, .ref l0), (1, .int l1), (3, .int l3)] [.int t0] (S, g) (some (.int w)) (S, k) := by
  unfold J_X11_leansOf_49 at hf
  refine X.istore dX11_leansOf_49 (Nat.le_of_ble_eq_true rfl) (lc' := [(4, .int t0), (0, .ref l0), (1, .int l1), (3, .int l3)]) rfl ?_
  refine X.aload_n dX11_leansOf_51 rfl (j := 1) rfl ?_
  obtain ⟨v1, h2, hf⟩ := ob hf
  refine Y.getR dX11_leansOf_52 fl_X11_7 rfl h2 ?_
  refine X.iload_n dX11_leansOf_55 rfl (j := 2) rfl ?_
  obtain ⟨v3, h4, hf⟩ := ob hf
  refine Y.iald dX11_leansOf_56 h4 ?_
  by_cases h5 : v3 = (1 : Int32)
  · rw [if_pos h5] at hf
    refine X.tableIn dX11_leansOf_57 (by rw [h5]; decide) (by rw [h5]; decide) (off := 31) (tgt := 88) (by rw [h5]; rfl) rfl ?_
    refine X.iload dX11_leansOf_88 (j := 0) rfl ?_
    obtain ⟨e1, e2⟩ := e_ret hf
    subst e1
    subst e2
    exact X.iret dX11_leansOf_90 rfl rfl
  rw [if_neg h5] at hf
  by_cases h6 : v3 = (2 : Int32)
  · rw [if_pos h6] at hf
    refine X.tableIn dX11_leansOf_57 (by rw [h6]; decide) (by rw [h6]; decide) (off := 60) (tgt := 117) (by rw [h6]; rfl) rfl ?_
    refine X.iload_n dX11_leansOf_117 rfl (j := 3) rfl ?_
    obtain ⟨e1, e2⟩ := e_ret hf
    subst e1
    subst e2
    exact X.iret dX11_leansOf_118 rfl rfl
  rw [if_neg h6] at hf
  by_cases h7 : v3 = (3 : Int32)
  · rw [if_pos h7] at hf
    refine X.tableIn dX11_leansOf_57 (by rw [h7]; decide) (by rw [h7]; decide) (off := 34) (tgt := 91) (by rw [h7]; rfl) rfl ?_
    refine X.iconst dX11_leansOf_91 kI_2 ?_
    refine X.iload dX11_leansOf_92 (j := 0) rfl ?_
    refine X.imul dX11_leansOf_94 ?_
    obtain ⟨e1, e2⟩ := e_ret hf
    subst e1
    subst e2
    exact X.iret dX11_leansOf_95 rfl rfl
  rw [if_neg h7] at hf
  by_cases h8 : v3 = (4 : Int32)
  · rw [if_pos h8] at hf
    refine X.tableIn dX11_leansOf_57 (by rw [h8]; decide) (by rw [h8]; decide) (off := 39) (tgt := 96) (by rw [h8]; rfl) rfl ?_
    refine X.aload_n dX11_leansOf_96 rfl (j := 1) rfl ?_
    obtain ⟨v9, h10, hf⟩ := ob hf
    refine Y.getI dX11_leansOf_97 fl_X11_89 rfl h10 ?_
    refine X.iconst dX11_leansOf_100 kI_5 ?_
    refine Y.irem dX11_leansOf_101 (by decide) ?_
    refine X.if_ne dX11_leansOf_102 (tgt := 114) rfl (fun hc => ?_) (fun hc => ?_)
    · rw [if_neg hc] at hf
      refine X.iload_n dX11_leansOf_114 rfl (j := 3) rfl ?_
      refine X.ineg dX11_leansOf_115 ?_
      obtain ⟨e1, e2⟩ := e_ret hf
      subst e1
      subst e2
      exact X.iret dX11_leansOf_116 rfl rfl
    · rw [if_pos hc] at hf
      refine X.aload_n dX11_leansOf_105 rfl (j := 1) rfl ?_
      obtain ⟨v11, h12, hf⟩ := ob hf
      refine Y.getR dX11_leansOf_106 fl_X11_13 rfl h12 ?_
      refine X.iload_n dX11_leansOf_109 rfl (j := 2) rfl ?_
      obtain ⟨v13, h14, hf⟩ := ob hf
      refine Y.iald dX11_leansOf_110 h14 ?_
      refine X.goto dX11_leansOf_111 (tgt := 116) rfl ?_
      obtain ⟨e1, e2⟩ := e_ret hf
      subst e1
      subst e2
      exact X.iret dX11_leansOf_116 rfl rfl
  rw [if_neg h8] at hf
  refine X.tableOut dX11_leansOf_57 (tgt := 117) (by have qh5 := e_ne (z := 1) (by decide) h5; have qh6 := e_ne (z := 2) (by decide) h6; have qh7 := e_ne (z := 3) (by decide) h7; have qh8 := e_ne (z := 4) (by decide) h8; omega) rfl ?_
  refine X.iload_n dX11_leansOf_117 rfl (j := 3) rfl ?_
  obtain ⟨e1, e2⟩ := e_ret hf
  subst e1
  subst e2
  exact X.iret dX11_leansOf_118 rfl rfl
theorem o_X11_leansOf  {S : e_S} {w : Int32} {k : e_G} {l0 : Nat} {l1 : Int32} {g : e_G} (hf : f_X11_leansOf S l0 l1 g = some (w, k)) : e_ob S 11 l0 = true := by
  unfold f_X11_leansOf at hf
  by_cases hc : e_ob S 11 l0 = true
  · exact hc
  · rw [if_neg hc] at hf
    cases hf
theorem c_X11_leansOf {l : Launch} {D : va_G}  {S : e_S} {w : Int32} {k : e_G} {l0 : Nat} {l1 : Int32} {g : e_G} (hf : f_X11_leansOf S l0 l1 g = some (w, k)) : CT l D (e_R 4) M_X11_leansOf [.ref l0, .int l1] (S, g) (some (.int w)) (S, k) := by
  refine CT.of (by decide +kernel) (Nat.le_of_ble_eq_true rfl) ?_
  have ho := o_X11_leansOf hf
  unfold f_X11_leansOf at hf
  rw [if_pos ho] at hf
  show X l D (e_R 4) M_X11_leansOf 0 0 0 [(0, .ref l0), (1, .int l1)] [] (S, g) (some (.int w)) (S, k)
  refine X.aload_n dX11_leansOf_0 rfl (j := 0) rfl ?_
  refine X.iload_n dX11_leansOf_1 rfl (j := 1) rfl ?_
  obtain ⟨q2, h1, hf⟩ := ob hf
  refine Y.callV (av := [.int l1]) (ci := 11) dX11_leansOf_2 (c_X11_isMet (l := l) (D := D) (w := q2.1) (k := q2.2) h1) cw_X11_192 (by decide) rfl mk_X11_isMet (o_X11_isMet (w := q2.1) (k := q2.2) h1) (e_R_ok (Nat.le_of_ble_eq_true rfl) (Nat.le_of_ble_eq_true rfl)) ⟨rfl, rfl⟩ (by simp [Value.category]) ?_
  refine X.istore_n dX11_leansOf_5 rfl (Nat.le_of_ble_eq_true rfl) (lc' := [(2, .int q2.1), (0, .ref l0), (1, .int l1)]) rfl ?_
  refine X.aload_n dX11_leansOf_6 rfl (j := 1) rfl ?_
  obtain ⟨v3, h4, hf⟩ := ob hf
  refine Y.getR dX11_leansOf_7 fl_X11_7 rfl h4 ?_
  refine X.iload_n dX11_leansOf_10 rfl (j := 2) rfl ?_
  obtain ⟨v5, h6, hf⟩ := ob hf
  refine Y.iald dX11_leansOf_11 h6 ?_
  refine X.iconst dX11_leansOf_12 kI_5 ?_
  refine X.icmp_ne dX11_leansOf_13 (tgt := 26) rfl (fun hc => ?_) (fun hc => ?_)
  · rw [if_neg hc] at hf
    refine X.aload_n dX11_leansOf_26 rfl (j := 1) rfl ?_
    refine X.iconst dX11_leansOf_27 kI_0 ?_
    refine X.iload_n dX11_leansOf_28 rfl (j := 2) rfl ?_
    obtain ⟨q8, h7, hf⟩ := ob hf
    refine Y.callV (av := [.int (0 : Int32), .int l1]) (ci := 11) dX11_leansOf_29 (c_X11_asksOf (l := l) (D := D) (w := q8.1) (k := q8.2) h7) cw_X11_182 (by decide) rfl mk_X11_asksOf (o_X11_asksOf (w := q8.1) (k := q8.2) h7) (e_R_ok (Nat.le_of_ble_eq_true rfl) (Nat.le_of_ble_eq_true rfl)) ⟨rfl, rfl⟩ (by simp [Value.category]) ?_
    refine X.istore_n dX11_leansOf_32 rfl (Nat.le_of_ble_eq_true rfl) (lc' := [(3, .int q8.1), (2, .int q2.1), (0, .ref l0), (1, .int l1)]) rfl ?_
    refine X.iload_n dX11_leansOf_33 rfl (j := 1) rfl ?_
    refine X.if_eq dX11_leansOf_34 (tgt := 48) rfl (fun hc => ?_) (fun hc => ?_)
    · rw [if_pos hc] at hf
      refine X.iload_n dX11_leansOf_48 rfl (j := 0) rfl ?_
      refine X.sub [2, 3, 0] rfl ?_
      exact x_J_X11_leansOf_49 hf
    · rw [if_neg hc] at hf
      refine X.iload_n dX11_leansOf_37 rfl (j := 0) rfl ?_
      refine X.aload_n dX11_leansOf_38 rfl (j := 2) rfl ?_
      obtain ⟨v9, h10, hf⟩ := ob hf
      refine Y.getR dX11_leansOf_39 fl_X11_13 rfl h10 ?_
      refine X.iload_n dX11_leansOf_42 rfl (j := 3) rfl ?_
      obtain ⟨v11, h12, hf⟩ := ob hf
      refine Y.iald dX11_leansOf_43 h12 ?_
      refine X.iadd dX11_leansOf_44 ?_
      refine X.goto dX11_leansOf_45 (tgt := 49) rfl ?_
      refine X.sub [2, 3, 0] rfl ?_
      exact x_J_X11_leansOf_49 hf
  · rw [if_pos hc] at hf
    refine X.iload_n dX11_leansOf_16 rfl (j := 0) rfl ?_
    refine X.if_eq dX11_leansOf_17 (tgt := 24) rfl (fun hc => ?_) (fun hc => ?_)
    · rw [if_pos hc] at hf
      refine X.iconst dX11_leansOf_24 kI_0 ?_
      obtain ⟨e1, e2⟩ := e_ret hf
      subst e1
      subst e2
      exact X.iret dX11_leansOf_25 rfl rfl
    · rw [if_neg hc] at hf
      refine X.iconst dX11_leansOf_20 kI_m1 ?_
      refine X.goto dX11_leansOf_21 (tgt := 25) rfl ?_
      obtain ⟨e1, e2⟩ := e_ret hf
      subst e1
      subst e2
      exact X.iret dX11_leansOf_25 rfl rfl
/-! LeanedOutModel.holdsOf(I)I -/
abbrev M_X11_holdsOf : e_M := (yX11_holdsOf, cX11_holdsOf, 3, (some .int))
theorem mk_X11_holdsOf : e_Mok M_X11_holdsOf 1 := ⟨by decide +kernel, by decide +kernel, by decide +kernel⟩
theorem dX11_holdsOf_0 : decode cX11_holdsOf 0 = .ok (.aload_n 0, 1) := by decide +kernel
theorem dX11_holdsOf_1 : decode cX11_holdsOf 1 = .ok (.getfield 7, 3) := by decide +kernel
theorem dX11_holdsOf_4 : decode cX11_holdsOf 4 = .ok (.iload_n 1, 1) := by decide +kernel
theorem dX11_holdsOf_5 : decode cX11_holdsOf 5 = .ok (.iaload, 1) := by decide +kernel
theorem dX11_holdsOf_6 : decode cX11_holdsOf 6 = .ok (.iconst 5, 1) := by decide +kernel
theorem dX11_holdsOf_7 : decode cX11_holdsOf 7 = .ok (.if_icmp .ne 10, 3) := by decide +kernel
theorem dX11_holdsOf_10 : decode cX11_holdsOf 10 = .ok (.aload_n 0, 1) := by decide +kernel
theorem dX11_holdsOf_11 : decode cX11_holdsOf 11 = .ok (.getfield 13, 3) := by decide +kernel
theorem dX11_holdsOf_14 : decode cX11_holdsOf 14 = .ok (.iload_n 1, 1) := by decide +kernel
theorem dX11_holdsOf_15 : decode cX11_holdsOf 15 = .ok (.iaload, 1) := by decide +kernel
theorem dX11_holdsOf_16 : decode cX11_holdsOf 16 = .ok (.ireturn, 1) := by decide +kernel
theorem dX11_holdsOf_17 : decode cX11_holdsOf 17 = .ok (.aload_n 0, 1) := by decide +kernel
theorem dX11_holdsOf_18 : decode cX11_holdsOf 18 = .ok (.iconst 1, 1) := by decide +kernel
theorem dX11_holdsOf_19 : decode cX11_holdsOf 19 = .ok (.iload_n 1, 1) := by decide +kernel
theorem dX11_holdsOf_20 : decode cX11_holdsOf 20 = .ok (.invokevirtual 182, 3) := by decide +kernel
theorem dX11_holdsOf_23 : decode cX11_holdsOf 23 = .ok (.istore_n 2, 1) := by decide +kernel
theorem dX11_holdsOf_24 : decode cX11_holdsOf 24 = .ok (.aload_n 0, 1) := by decide +kernel
theorem dX11_holdsOf_25 : decode cX11_holdsOf 25 = .ok (.getfield 7, 3) := by decide +kernel
theorem dX11_holdsOf_28 : decode cX11_holdsOf 28 = .ok (.iload_n 1, 1) := by decide +kernel
theorem dX11_holdsOf_29 : decode cX11_holdsOf 29 = .ok (.iaload, 1) := by decide +kernel
theorem dX11_holdsOf_30 : decode cX11_holdsOf 30 = .ok (.tableswitch 35 2 4 #[26, 31, 26], 26) := by decide +kernel
theorem dX11_holdsOf_56 : decode cX11_holdsOf 56 = .ok (.iload_n 2, 1) := by decide +kernel
theorem dX11_holdsOf_57 : decode cX11_holdsOf 57 = .ok (.bipush 10, 2) := by decide +kernel
theorem dX11_holdsOf_59 : decode cX11_holdsOf 59 = .ok (.iadd, 1) := by decide +kernel
theorem dX11_holdsOf_60 : decode cX11_holdsOf 60 = .ok (.ireturn, 1) := by decide +kernel
theorem dX11_holdsOf_61 : decode cX11_holdsOf 61 = .ok (.iload_n 2, 1) := by decide +kernel
theorem dX11_holdsOf_62 : decode cX11_holdsOf 62 = .ok (.iconst 2, 1) := by decide +kernel
theorem dX11_holdsOf_63 : decode cX11_holdsOf 63 = .ok (.idiv, 1) := by decide +kernel
theorem dX11_holdsOf_64 : decode cX11_holdsOf 64 = .ok (.ireturn, 1) := by decide +kernel
theorem dX11_holdsOf_65 : decode cX11_holdsOf 65 = .ok (.iload_n 2, 1) := by decide +kernel
theorem dX11_holdsOf_66 : decode cX11_holdsOf 66 = .ok (.ireturn, 1) := by decide +kernel
def f_X11_holdsOf (S : e_S) (l0 : Nat) (l1 : Int32) (g : e_G) : Option (Int32 × e_G) :=
  if e_ob S 11 l0 = true then
    (e_gR S g 11 l0 1).bind fun v1 =>
    (e_aI S g 0 v1 l1).bind fun v3 =>
    if v3 = (5 : Int32) then
      (e_gR S g 11 l0 2).bind fun v14 =>
      (e_aI S g 0 v14 l1).bind fun v16 =>
      some (v16, g)
    else
      (f_X11_asksOf S l0 (1 : Int32) l1 g).bind fun q6 =>
      (e_gR S q6.2 11 l0 1).bind fun v7 =>
      (e_aI S q6.2 0 v7 l1).bind fun v9 =>
      if v9 = 2 then
        some (q6.1 + (10 : Int32), q6.2)
      else
      if v9 = 3 then
        some (q6.1 / (2 : Int32), q6.2)
      else
      if v9 = 4 then
        some (q6.1 + (10 : Int32), q6.2)
      else
      some (q6.1, q6.2)
  else none
theorem o_X11_holdsOf  {S : e_S} {w : Int32} {k : e_G} {l0 : Nat} {l1 : Int32} {g : e_G} (hf : f_X11_holdsOf S l0 l1 g = some (w, k)) : e_ob S 11 l0 = true := by
  unfold f_X11_holdsOf at hf
  by_cases hc : e_ob S 11 l0 = true
  · exact hc
  · rw [if_neg hc] at hf
    cases hf
theorem c_X11_holdsOf {l : Launch} {D : va_G}  {S : e_S} {w : Int32} {k : e_G} {l0 : Nat} {l1 : Int32} {g : e_G} (hf : f_X11_holdsOf S l0 l1 g = some (w, k)) : CT l D (e_R 4) M_X11_holdsOf [.ref l0, .int l1] (S, g) (some (.int w)) (S, k) := by
  refine CT.of (by decide +kernel) (Nat.le_of_ble_eq_true rfl) ?_
  have ho := o_X11_holdsOf hf
  unfold f_X11_holdsOf at hf
  rw [if_pos ho] at hf
  show X l D (e_R 4) M_X11_holdsOf 0 0 0 [(0, .ref l0), (1, .int l1)] [] (S, g) (some (.int w)) (S, k)
  refine X.aload_n dX11_holdsOf_0 rfl (j := 0) rfl ?_
  obtain ⟨v1, h2, hf⟩ := ob hf
  refine Y.getR dX11_holdsOf_1 fl_X11_7 rfl h2 ?_
  refine X.iload_n dX11_holdsOf_4 rfl (j := 1) rfl ?_
  obtain ⟨v3, h4, hf⟩ := ob hf
  refine Y.iald dX11_holdsOf_5 h4 ?_
  refine X.iconst dX11_holdsOf_6 kI_5 ?_
  refine X.icmp_ne dX11_holdsOf_7 (tgt := 17) rfl (fun hc => ?_) (fun hc => ?_)
  · rw [if_neg hc] at hf
    refine X.aload_n dX11_holdsOf_17 rfl (j := 0) rfl ?_
    refine X.iconst dX11_holdsOf_18 kI_1 ?_
    refine X.iload_n dX11_holdsOf_19 rfl (j := 1) rfl ?_
    obtain ⟨q6, h5, hf⟩ := ob hf
    refine Y.callV (av := [.int (1 : Int32), .int l1]) (ci := 11) dX11_holdsOf_20 (c_X11_asksOf (l := l) (D := D) (w := q6.1) (k := q6.2) h5) cw_X11_182 (by decide) rfl mk_X11_asksOf (o_X11_asksOf (w := q6.1) (k := q6.2) h5) (e_R_ok (Nat.le_of_ble_eq_true rfl) (Nat.le_of_ble_eq_true rfl)) ⟨rfl, rfl⟩ (by simp [Value.category]) ?_
    refine X.istore_n dX11_holdsOf_23 rfl (Nat.le_of_ble_eq_true rfl) (lc' := [(2, .int q6.1), (0, .ref l0), (1, .int l1)]) rfl ?_
    refine X.aload_n dX11_holdsOf_24 rfl (j := 1) rfl ?_
    obtain ⟨v7, h8, hf⟩ := ob hf
    refine Y.getR dX11_holdsOf_25 fl_X11_7 rfl h8 ?_
    refine X.iload_n dX11_holdsOf_28 rfl (j := 2) rfl ?_
    obtain ⟨v9, h10, hf⟩ := ob hf
    refine Y.iald dX11_holdsOf_29 h10 ?_
    by_cases h11 : v9 = (2 : Int32)
    · rw [if_pos h11] at hf
      refine X.tableIn dX11_holdsOf_30 (by rw [h11]; decide) (by rw [h11]; decide) (off := 26) (tgt := 56) (by rw [h11]; rfl) rfl ?_
      refine X.iload_n dX11_holdsOf_56 rfl (j := 0) rfl ?_
      refine X.bipush dX11_holdsOf_57 kB_10 ?_
      refine X.iadd dX11_holdsOf_59 ?_
      obtain ⟨e1, e2⟩ := e_ret hf
      subst e1
      subst e2
      exact X.iret dX11_holdsOf_60 rfl rfl
    rw [if_neg h11] at hf
    by_cases h12 : v9 = (3 : Int32)
    · rw [if_pos h12] at hf
      refine X.tableIn dX11_holdsOf_30 (by rw [h12]; decide) (by rw [h12]; decide) (off := 31) (tgt := 61) (by rw [h12]; rfl) rfl ?_
      refine X.iload_n dX11_holdsOf_61 rfl (j := 0) rfl ?_
      refine X.iconst dX11_holdsOf_62 kI_2 ?_
      refine X.idiv dX11_holdsOf_63 (by decide) ?_
      obtain ⟨e1, e2⟩ := e_ret hf
      subst e1
      subst e2
      exact X.iret dX11_holdsOf_64 rfl rfl
    rw [if_neg h12] at hf
    by_cases h13 : v9 = (4 : Int32)
    · rw [if_pos h13] at hf
      refine X.tableIn dX11_holdsOf_30 (by rw [h13]; decide) (by rw [h13]; decide) (off := 26) (tgt := 56) (by rw [h13]; rfl) rfl ?_
      refine X.iload_n dX11_holdsOf_56 rfl (j := 0) rfl ?_
      refine X.bipush dX11_holdsOf_57 kB_10 ?_
      refine X.iadd dX11_holdsOf_59 ?_
      obtain ⟨e1, e2⟩ := e_ret hf
      subst e1
      subst e2
      exact X.iret dX11_holdsOf_60 rfl rfl
    rw [if_neg h13] at hf
    refine X.tableOut dX11_holdsOf_30 (tgt := 65) (by have qh11 := e_ne (z := 2) (by decide) h11; have qh12 := e_ne (z := 3) (by decide) h12; have qh13 := e_ne (z := 4) (by decide) h13; omega) rfl ?_
    refine X.iload_n dX11_holdsOf_65 rfl (j := 0) rfl ?_
    obtain ⟨e1, e2⟩ := e_ret hf
    subst e1
    subst e2
    exact X.iret dX11_holdsOf_66 rfl rfl
  · rw [if_pos hc] at hf
    refine X.aload_n dX11_holdsOf_10 rfl (j := 0) rfl ?_
    obtain ⟨v14, h15, hf⟩ := ob hf
    refine Y.getR dX11_holdsOf_11 fl_X11_13 rfl h15 ?_
    refine X.iload_n dX11_holdsOf_14 rfl (j := 1) rfl ?_
    obtain ⟨v16, h17, hf⟩ := ob hf
    refine Y.iald dX11_holdsOf_15 h17 ?_
    obtain ⟨e1, e2⟩ := e_ret hf
    subst e1
    subst e2
    exact X.iret dX11_holdsOf_16 rfl rfl
/-! LeanedOutModel.mindsOf(I)I -/
abbrev M_X11_mindsOf : e_M := (yX11_mindsOf, cX11_mindsOf, 4, (some .int))
theorem mk_X11_mindsOf : e_Mok M_X11_mindsOf 1 := ⟨by decide +kernel, by decide +kernel, by decide +kernel⟩
theorem dX11_mindsOf_0 : decode cX11_mindsOf 0 = .ok (.aload_n 0, 1) := by decide +kernel
theorem dX11_mindsOf_1 : decode cX11_mindsOf 1 = .ok (.getfield 7, 3) := by decide +kernel
theorem dX11_mindsOf_4 : decode cX11_mindsOf 4 = .ok (.iload_n 1, 1) := by decide +kernel
theorem dX11_mindsOf_5 : decode cX11_mindsOf 5 = .ok (.iaload, 1) := by decide +kernel
theorem dX11_mindsOf_6 : decode cX11_mindsOf 6 = .ok (.iconst 1, 1) := by decide +kernel
theorem dX11_mindsOf_7 : decode cX11_mindsOf 7 = .ok (.if_icmp .eq 13, 3) := by decide +kernel
theorem dX11_mindsOf_10 : decode cX11_mindsOf 10 = .ok (.aload_n 0, 1) := by decide +kernel
theorem dX11_mindsOf_11 : decode cX11_mindsOf 11 = .ok (.getfield 7, 3) := by decide +kernel
theorem dX11_mindsOf_14 : decode cX11_mindsOf 14 = .ok (.iload_n 1, 1) := by decide +kernel
theorem dX11_mindsOf_15 : decode cX11_mindsOf 15 = .ok (.iaload, 1) := by decide +kernel
theorem dX11_mindsOf_16 : decode cX11_mindsOf 16 = .ok (.iconst 3, 1) := by decide +kernel
theorem dX11_mindsOf_17 : decode cX11_mindsOf 17 = .ok (.if_icmp .ne 5, 3) := by decide +kernel
theorem dX11_mindsOf_20 : decode cX11_mindsOf 20 = .ok (.iconst 0, 1) := by decide +kernel
theorem dX11_mindsOf_21 : decode cX11_mindsOf 21 = .ok (.ireturn, 1) := by decide +kernel
theorem dX11_mindsOf_22 : decode cX11_mindsOf 22 = .ok (.aload_n 0, 1) := by decide +kernel
theorem dX11_mindsOf_23 : decode cX11_mindsOf 23 = .ok (.iconst 2, 1) := by decide +kernel
theorem dX11_mindsOf_24 : decode cX11_mindsOf 24 = .ok (.iload_n 1, 1) := by decide +kernel
theorem dX11_mindsOf_25 : decode cX11_mindsOf 25 = .ok (.invokevirtual 182, 3) := by decide +kernel
theorem dX11_mindsOf_28 : decode cX11_mindsOf 28 = .ok (.istore_n 2, 1) := by decide +kernel
theorem dX11_mindsOf_29 : decode cX11_mindsOf 29 = .ok (.iconst 2, 1) := by decide +kernel
theorem dX11_mindsOf_30 : decode cX11_mindsOf 30 = .ok (.iload_n 2, 1) := by decide +kernel
theorem dX11_mindsOf_31 : decode cX11_mindsOf 31 = .ok (.imul, 1) := by decide +kernel
theorem dX11_mindsOf_32 : decode cX11_mindsOf 32 = .ok (.aload_n 0, 1) := by decide +kernel
theorem dX11_mindsOf_33 : decode cX11_mindsOf 33 = .ok (.getfield 13, 3) := by decide +kernel
theorem dX11_mindsOf_36 : decode cX11_mindsOf 36 = .ok (.iload_n 1, 1) := by decide +kernel
theorem dX11_mindsOf_37 : decode cX11_mindsOf 37 = .ok (.iaload, 1) := by decide +kernel
theorem dX11_mindsOf_38 : decode cX11_mindsOf 38 = .ok (.iadd, 1) := by decide +kernel
theorem dX11_mindsOf_39 : decode cX11_mindsOf 39 = .ok (.istore_n 3, 1) := by decide +kernel
theorem dX11_mindsOf_40 : decode cX11_mindsOf 40 = .ok (.aload_n 0, 1) := by decide +kernel
theorem dX11_mindsOf_41 : decode cX11_mindsOf 41 = .ok (.getfield 7, 3) := by decide +kernel
theorem dX11_mindsOf_44 : decode cX11_mindsOf 44 = .ok (.iload_n 1, 1) := by decide +kernel
theorem dX11_mindsOf_45 : decode cX11_mindsOf 45 = .ok (.iaload, 1) := by decide +kernel
theorem dX11_mindsOf_46 : decode cX11_mindsOf 46 = .ok (.iconst 2, 1) := by decide +kernel
theorem dX11_mindsOf_47 : decode cX11_mindsOf 47 = .ok (.if_icmp .ne 7, 3) := by decide +kernel
theorem dX11_mindsOf_50 : decode cX11_mindsOf 50 = .ok (.iload_n 3, 1) := by decide +kernel
theorem dX11_mindsOf_51 : decode cX11_mindsOf 51 = .ok (.goto 20, 3) := by decide +kernel
theorem dX11_mindsOf_54 : decode cX11_mindsOf 54 = .ok (.aload_n 0, 1) := by decide +kernel
theorem dX11_mindsOf_55 : decode cX11_mindsOf 55 = .ok (.getfield 7, 3) := by decide +kernel
theorem dX11_mindsOf_58 : decode cX11_mindsOf 58 = .ok (.iload_n 1, 1) := by decide +kernel
theorem dX11_mindsOf_59 : decode cX11_mindsOf 59 = .ok (.iaload, 1) := by decide +kernel
theorem dX11_mindsOf_60 : decode cX11_mindsOf 60 = .ok (.iconst 4, 1) := by decide +kernel
theorem dX11_mindsOf_61 : decode cX11_mindsOf 61 = .ok (.if_icmp .ne 9, 3) := by decide +kernel
theorem dX11_mindsOf_64 : decode cX11_mindsOf 64 = .ok (.iload_n 3, 1) := by decide +kernel
theorem dX11_mindsOf_65 : decode cX11_mindsOf 65 = .ok (.iconst 3, 1) := by decide +kernel
theorem dX11_mindsOf_66 : decode cX11_mindsOf 66 = .ok (.idiv, 1) := by decide +kernel
theorem dX11_mindsOf_67 : decode cX11_mindsOf 67 = .ok (.goto 4, 3) := by decide +kernel
theorem dX11_mindsOf_70 : decode cX11_mindsOf 70 = .ok (.iload_n 2, 1) := by decide +kernel
theorem dX11_mindsOf_71 : decode cX11_mindsOf 71 = .ok (.ireturn, 1) := by decide +kernel
def f_X11_mindsOf (S : e_S) (l0 : Nat) (l1 : Int32) (g : e_G) : Option (Int32 × e_G) :=
  if e_ob S 11 l0 = true then
    (e_gR S g 11 l0 1).bind fun v1 =>
    (e_aI S g 0 v1 l1).bind fun v3 =>
    if v3 = (1 : Int32) then
      some ((0 : Int32), g)
    else
      (e_gR S g 11 l0 1).bind fun v5 =>
      (e_aI S g 0 v5 l1).bind fun v7 =>
      if v7 = (3 : Int32) then
        some ((0 : Int32), g)
      else
        (f_X11_asksOf S l0 (2 : Int32) l1 g).bind fun q10 =>
        (e_gR S q10.2 11 l0 2).bind fun v11 =>
        (e_aI S q10.2 0 v11 l1).bind fun v13 =>
        (e_gR S q10.2 11 l0 1).bind fun v15 =>
        (e_aI S q10.2 0 v15 l1).bind fun v17 =>
        if v17 = (2 : Int32) then
          some (((2 : Int32) * q10.1) + v13, q10.2)
        else
          (e_gR S q10.2 11 l0 1).bind fun v19 =>
          (e_aI S q10.2 0 v19 l1).bind fun v21 =>
          if v21 = (4 : Int32) then
            some ((((2 : Int32) * q10.1) + v13) / (3 : Int32), q10.2)
          else
            some (q10.1, q10.2)
  else none
theorem o_X11_mindsOf  {S : e_S} {w : Int32} {k : e_G} {l0 : Nat} {l1 : Int32} {g : e_G} (hf : f_X11_mindsOf S l0 l1 g = some (w, k)) : e_ob S 11 l0 = true := by
  unfold f_X11_mindsOf at hf
  by_cases hc : e_ob S 11 l0 = true
  · exact hc
  · rw [if_neg hc] at hf
    cases hf
theorem c_X11_mindsOf {l : Launch} {D : va_G}  {S : e_S} {w : Int32} {k : e_G} {l0 : Nat} {l1 : Int32} {g : e_G} (hf : f_X11_mindsOf S l0 l1 g = some (w, k)) : CT l D (e_R 4) M_X11_mindsOf [.ref l0, .int l1] (S, g) (some (.int w)) (S, k) := by
  refine CT.of (by decide +kernel) (Nat.le_of_ble_eq_true rfl) ?_
  have ho := o_X11_mindsOf hf
  unfold f_X11_mindsOf at hf
  rw [if_pos ho] at hf
  show X l D (e_R 4) M_X11_mindsOf 0 0 0 [(0, .ref l0), (1, .int l1)] [] (S, g) (some (.int w)) (S, k)
  refine X.aload_n dX11_mindsOf_0 rfl (j := 0) rfl ?_
  obtain ⟨v1, h2, hf⟩ := ob hf
  refine Y.getR dX11_mindsOf_1 fl_X11_7 rfl h2 ?_
  refine X.iload_n dX11_mindsOf_4 rfl (j := 1) rfl ?_
  obtain ⟨v3, h4, hf⟩ := ob hf
  refine Y.iald dX11_mindsOf_5 h4 ?_
  refine X.iconst dX11_mindsOf_6 kI_1 ?_
  refine X.icmp_eq dX11_mindsOf_7 (tgt := 20) rfl (fun hc => ?_) (fun hc => ?_)
  · rw [if_pos hc] at hf
    refine X.iconst dX11_mindsOf_20 kI_0 ?_
    obtain ⟨e1, e2⟩ := e_ret hf
    subst e1
    subst e2
    exact X.iret dX11_mindsOf_21 rfl rfl
  · rw [if_neg hc] at hf
    refine X.aload_n dX11_mindsOf_10 rfl (j := 0) rfl ?_
    obtain ⟨v5, h6, hf⟩ := ob hf
    refine Y.getR dX11_mindsOf_11 fl_X11_7 rfl h6 ?_
    refine X.iload_n dX11_mindsOf_14 rfl (j := 1) rfl ?_
    obtain ⟨v7, h8, hf⟩ := ob hf
    refine Y.iald dX11_mindsOf_15 h8 ?_
    refine X.iconst dX11_mindsOf_16 kI_3 ?_
    refine X.icmp_ne dX11_mindsOf_17 (tgt := 22) rfl (fun hc => ?_) (fun hc => ?_)
    · rw [if_neg hc] at hf
      refine X.aload_n dX11_mindsOf_22 rfl (j := 0) rfl ?_
      refine X.iconst dX11_mindsOf_23 kI_2 ?_
      refine X.iload_n dX11_mindsOf_24 rfl (j := 1) rfl ?_
      obtain ⟨q10, h9, hf⟩ := ob hf
      refine Y.callV (av := [.int (2 : Int32), .int l1]) (ci := 11) dX11_mindsOf_25 (c_X11_asksOf (l := l) (D := D) (w := q10.1) (k := q10.2) h9) cw_X11_182 (by decide) rfl mk_X11_asksOf (o_X11_asksOf (w := q10.1) (k := q10.2) h9) (e_R_ok (Nat.le_of_ble_eq_true rfl) (Nat.le_of_ble_eq_true rfl)) ⟨rfl, rfl⟩ (by simp [Value.category]) ?_
      refine X.istore_n dX11_mindsOf_28 rfl (Nat.le_of_ble_eq_true rfl) (lc' := [(2, .int q10.1), (0, .ref l0), (1, .int l1)]) rfl ?_
      refine X.iconst dX11_mindsOf_29 kI_2 ?_
      refine X.iload_n dX11_mindsOf_30 rfl (j := 0) rfl ?_
      refine X.imul dX11_mindsOf_31 ?_
      refine X.aload_n dX11_mindsOf_32 rfl (j := 1) rfl ?_
      obtain ⟨v11, h12, hf⟩ := ob hf
      refine Y.getR dX11_mindsOf_33 fl_X11_13 rfl h12 ?_
      refine X.iload_n dX11_mindsOf_36 rfl (j := 2) rfl ?_
      obtain ⟨v13, h14, hf⟩ := ob hf
      refine Y.iald dX11_mindsOf_37 h14 ?_
      refine X.iadd dX11_mindsOf_38 ?_
      refine X.istore_n dX11_mindsOf_39 rfl (Nat.le_of_ble_eq_true rfl) (lc' := [(3, .int (((2 : Int32) * q10.1) + v13)), (2, .int q10.1), (0, .ref l0), (1, .int l1)]) rfl ?_
      refine X.aload_n dX11_mindsOf_40 rfl (j := 2) rfl ?_
      obtain ⟨v15, h16, hf⟩ := ob hf
      refine Y.getR dX11_mindsOf_41 fl_X11_7 rfl h16 ?_
      refine X.iload_n dX11_mindsOf_44 rfl (j := 3) rfl ?_
      obtain ⟨v17, h18, hf⟩ := ob hf
      refine Y.iald dX11_mindsOf_45 h18 ?_
      refine X.iconst dX11_mindsOf_46 kI_2 ?_
      refine X.icmp_ne dX11_mindsOf_47 (tgt := 54) rfl (fun hc => ?_) (fun hc => ?_)
      · rw [if_neg hc] at hf
        refine X.aload_n dX11_mindsOf_54 rfl (j := 2) rfl ?_
        obtain ⟨v19, h20, hf⟩ := ob hf
        refine Y.getR dX11_mindsOf_55 fl_X11_7 rfl h20 ?_
        refine X.iload_n dX11_mindsOf_58 rfl (j := 3) rfl ?_
        obtain ⟨v21, h22, hf⟩ := ob hf
        refine Y.iald dX11_mindsOf_59 h22 ?_
        refine X.iconst dX11_mindsOf_60 kI_4 ?_
        refine X.icmp_ne dX11_mindsOf_61 (tgt := 70) rfl (fun hc => ?_) (fun hc => ?_)
        · rw [if_neg hc] at hf
          refine X.iload_n dX11_mindsOf_70 rfl (j := 1) rfl ?_
          obtain ⟨e1, e2⟩ := e_ret hf
          subst e1
          subst e2
          exact X.iret dX11_mindsOf_71 rfl rfl
        · rw [if_pos hc] at hf
          refine X.iload_n dX11_mindsOf_64 rfl (j := 0) rfl ?_
          refine X.iconst dX11_mindsOf_65 kI_3 ?_
          refine X.idiv dX11_mindsOf_66 (by decide) ?_
          refine X.goto dX11_mindsOf_67 (tgt := 71) rfl ?_
          obtain ⟨e1, e2⟩ := e_ret hf
          subst e1
          subst e2
          exact X.iret dX11_mindsOf_71 rfl rfl
      · rw [if_pos hc] at hf
        refine X.iload_n dX11_mindsOf_50 rfl (j := 0) rfl ?_
        refine X.goto dX11_mindsOf_51 (tgt := 71) rfl ?_
        obtain ⟨e1, e2⟩ := e_ret hf
        subst e1
        subst e2
        exact X.iret dX11_mindsOf_71 rfl rfl
    · rw [if_pos hc] at hf
      refine X.iconst dX11_mindsOf_20 kI_0 ?_
      obtain ⟨e1, e2⟩ := e_ret hf
      subst e1
      subst e2
      exact X.iret dX11_mindsOf_21 rfl rfl
/-! LeanedOutModel.told(II)I -/
abbrev M_X11_told : e_M := (yX11_told, cX11_told, 3, (some .int))
theorem mk_X11_told : e_Mok M_X11_told 2 := ⟨by decide +kernel, by decide +kernel, by decide +kernel⟩
theorem dX11_told_0 : decode cX11_told 0 = .ok (.aload_n 0, 1) := by decide +kernel
theorem dX11_told_1 : decode cX11_told 1 = .ok (.iload_n 1, 1) := by decide +kernel
theorem dX11_told_2 : decode cX11_told 2 = .ok (.invokevirtual 179, 3) := by decide +kernel
theorem dX11_told_5 : decode cX11_told 5 = .ok (.ifCond .ne 7, 3) := by decide +kernel
theorem dX11_told_8 : decode cX11_told 8 = .ok (.sipush (-5000), 3) := by decide +kernel
theorem dX11_told_11 : decode cX11_told 11 = .ok (.ireturn, 1) := by decide +kernel
theorem dX11_told_12 : decode cX11_told 12 = .ok (.iload_n 2, 1) := by decide +kernel
theorem dX11_told_13 : decode cX11_told 13 = .ok (.tableswitch 124 0 9 #[55, 55, 55, 66, 73, 80, 91, 106, 112, 118], 55) := by decide +kernel
theorem dX11_told_68 : decode cX11_told 68 = .ok (.aload_n 0, 1) := by decide +kernel
theorem dX11_told_69 : decode cX11_told 69 = .ok (.getfield 16, 3) := by decide +kernel
theorem dX11_told_72 : decode cX11_told 72 = .ok (.iconst 4, 1) := by decide +kernel
theorem dX11_told_73 : decode cX11_told 73 = .ok (.iload_n 1, 1) := by decide +kernel
theorem dX11_told_74 : decode cX11_told 74 = .ok (.imul, 1) := by decide +kernel
theorem dX11_told_75 : decode cX11_told 75 = .ok (.iload_n 2, 1) := by decide +kernel
theorem dX11_told_76 : decode cX11_told 76 = .ok (.iadd, 1) := by decide +kernel
theorem dX11_told_77 : decode cX11_told 77 = .ok (.iaload, 1) := by decide +kernel
theorem dX11_told_78 : decode cX11_told 78 = .ok (.ireturn, 1) := by decide +kernel
theorem dX11_told_79 : decode cX11_told 79 = .ok (.aload_n 0, 1) := by decide +kernel
theorem dX11_told_80 : decode cX11_told 80 = .ok (.getfield 7, 3) := by decide +kernel
theorem dX11_told_83 : decode cX11_told 83 = .ok (.iload_n 1, 1) := by decide +kernel
theorem dX11_told_84 : decode cX11_told 84 = .ok (.iaload, 1) := by decide +kernel
theorem dX11_told_85 : decode cX11_told 85 = .ok (.ireturn, 1) := by decide +kernel
theorem dX11_told_86 : decode cX11_told 86 = .ok (.aload_n 0, 1) := by decide +kernel
theorem dX11_told_87 : decode cX11_told 87 = .ok (.getfield 13, 3) := by decide +kernel
theorem dX11_told_90 : decode cX11_told 90 = .ok (.iload_n 1, 1) := by decide +kernel
theorem dX11_told_91 : decode cX11_told 91 = .ok (.iaload, 1) := by decide +kernel
theorem dX11_told_92 : decode cX11_told 92 = .ok (.ireturn, 1) := by decide +kernel
theorem dX11_told_93 : decode cX11_told 93 = .ok (.aload_n 0, 1) := by decide +kernel
theorem dX11_told_94 : decode cX11_told 94 = .ok (.getfield 16, 3) := by decide +kernel
theorem dX11_told_97 : decode cX11_told 97 = .ok (.iconst 4, 1) := by decide +kernel
theorem dX11_told_98 : decode cX11_told 98 = .ok (.iload_n 1, 1) := by decide +kernel
theorem dX11_told_99 : decode cX11_told 99 = .ok (.imul, 1) := by decide +kernel
theorem dX11_told_100 : decode cX11_told 100 = .ok (.iconst 3, 1) := by decide +kernel
theorem dX11_told_101 : decode cX11_told 101 = .ok (.iadd, 1) := by decide +kernel
theorem dX11_told_102 : decode cX11_told 102 = .ok (.iaload, 1) := by decide +kernel
theorem dX11_told_103 : decode cX11_told 103 = .ok (.ireturn, 1) := by decide +kernel
theorem dX11_told_104 : decode cX11_told 104 = .ok (.aload_n 0, 1) := by decide +kernel
theorem dX11_told_105 : decode cX11_told 105 = .ok (.aload_n 0, 1) := by decide +kernel
theorem dX11_told_106 : decode cX11_told 106 = .ok (.getfield 16, 3) := by decide +kernel
theorem dX11_told_109 : decode cX11_told 109 = .ok (.iconst 4, 1) := by decide +kernel
theorem dX11_told_110 : decode cX11_told 110 = .ok (.iload_n 1, 1) := by decide +kernel
theorem dX11_told_111 : decode cX11_told 111 = .ok (.imul, 1) := by decide +kernel
theorem dX11_told_112 : decode cX11_told 112 = .ok (.iconst 1, 1) := by decide +kernel
theorem dX11_told_113 : decode cX11_told 113 = .ok (.iadd, 1) := by decide +kernel
theorem dX11_told_114 : decode cX11_told 114 = .ok (.iaload, 1) := by decide +kernel
theorem dX11_told_115 : decode cX11_told 115 = .ok (.invokevirtual 164, 3) := by decide +kernel
theorem dX11_told_118 : decode cX11_told 118 = .ok (.ireturn, 1) := by decide +kernel
theorem dX11_told_119 : decode cX11_told 119 = .ok (.aload_n 0, 1) := by decide +kernel
theorem dX11_told_120 : decode cX11_told 120 = .ok (.iload_n 1, 1) := by decide +kernel
theorem dX11_told_121 : decode cX11_told 121 = .ok (.invokevirtual 195, 3) := by decide +kernel
theorem dX11_told_124 : decode cX11_told 124 = .ok (.ireturn, 1) := by decide +kernel
theorem dX11_told_125 : decode cX11_told 125 = .ok (.aload_n 0, 1) := by decide +kernel
theorem dX11_told_126 : decode cX11_told 126 = .ok (.iload_n 1, 1) := by decide +kernel
theorem dX11_told_127 : decode cX11_told 127 = .ok (.invokevirtual 198, 3) := by decide +kernel
theorem dX11_told_130 : decode cX11_told 130 = .ok (.ireturn, 1) := by decide +kernel
theorem dX11_told_131 : decode cX11_told 131 = .ok (.aload_n 0, 1) := by decide +kernel
theorem dX11_told_132 : decode cX11_told 132 = .ok (.iload_n 1, 1) := by decide +kernel
theorem dX11_told_133 : decode cX11_told 133 = .ok (.invokevirtual 201, 3) := by decide +kernel
theorem dX11_told_136 : decode cX11_told 136 = .ok (.ireturn, 1) := by decide +kernel
theorem dX11_told_137 : decode cX11_told 137 = .ok (.sipush (-7000), 3) := by decide +kernel
theorem dX11_told_140 : decode cX11_told 140 = .ok (.ireturn, 1) := by decide +kernel
def J_X11_told_68 (S : e_S) (l0 : Nat) (l1 : Int32) (l2 : Int32) (g : e_G) : Option (Int32 × e_G) :=
  (e_gR S g 11 l0 3).bind fun v1 =>
  (e_aI S g 0 v1 (((4 : Int32) * l1) + l2)).bind fun v3 =>
  some (v3, g)
def f_X11_told (S : e_S) (l0 : Nat) (l1 : Int32) (l2 : Int32) (g : e_G) : Option (Int32 × e_G) :=
  if e_ob S 11 l0 = true then
    (f_X11_isOne S l0 l1 g).bind fun q2 =>
    if q2.1 = 0 then
      some ((-5000 : Int32), q2.2)
    else
      if l2 = 0 then
        J_X11_told_68 S l0 l1 l2 q2.2
      else
      if l2 = 1 then
        J_X11_told_68 S l0 l1 l2 q2.2
      else
      if l2 = 2 then
        J_X11_told_68 S l0 l1 l2 q2.2
      else
      if l2 = 3 then
        (e_gR S q2.2 11 l0 1).bind fun v7 =>
        (e_aI S q2.2 0 v7 l1).bind fun v9 =>
        some (v9, q2.2)
      else
      if l2 = 4 then
        (e_gR S q2.2 11 l0 2).bind fun v12 =>
        (e_aI S q2.2 0 v12 l1).bind fun v14 =>
        some (v14, q2.2)
      else
      if l2 = 5 then
        (e_gR S q2.2 11 l0 3).bind fun v17 =>
        (e_aI S q2.2 0 v17 (((4 : Int32) * l1) + (3 : Int32))).bind fun v19 =>
        some (v19, q2.2)
      else
      if l2 = 6 then
        (e_gR S q2.2 11 l0 3).bind fun v22 =>
        (e_aI S q2.2 0 v22 (((4 : Int32) * l1) + (1 : Int32))).bind fun v24 =>
        (f_X11_whoAt S l0 v24 q2.2).bind fun q27 =>
        some (q27.1, q27.2)
      else
      if l2 = 7 then
        (f_X11_leansOf S l0 l1 q2.2).bind fun q30 =>
        some (q30.1, q30.2)
      else
      if l2 = 8 then
        (f_X11_holdsOf S l0 l1 q2.2).bind fun q33 =>
        some (q33.1, q33.2)
      else
      if l2 = 9 then
        (f_X11_mindsOf S l0 l1 q2.2).bind fun q36 =>
        some (q36.1, q36.2)
      else
      some ((-7000 : Int32), q2.2)
  else none
theorem x_J_X11_told_68 {l : Launch} {D : va_G} {S : e_S} {w : Int32} {k : e_G} {l0 : Nat} {l1 : Int32} {l2 : Int32} {g : e_G} (hf : J_X11_told_68 S l0 l1 l2 g = some (w, k)) : X l D (e_R 5) M_X11_told 0 0 68 [(0, .ref l0), (1, .int l1), (2, .int l2)] [] (S, g) (some (.int w)) (S, k) := by
  unfold J_X11_told_68 at hf
  refine X.aload_n dX11_told_68 rfl (j := 0) rfl ?_
  obtain ⟨v1, h2, hf⟩ := ob hf
  refine Y.getR dX11_told_69 fl_X11_16 rfl h2 ?_
  refine X.iconst dX11_told_72 kI_4 ?_
  refine X.iload_n dX11_told_73 rfl (j := 1) rfl ?_
  refine X.imul dX11_told_74 ?_
  refine X.iload_n dX11_told_75 rfl (j := 2) rfl ?_
  refine X.iadd dX11_told_76 ?_
  obtain ⟨v3, h4, hf⟩ := ob hf
  refine Y.iald dX11_told_77 h4 ?_
  obtain ⟨e1, e2⟩ := e_ret hf
  subst e1
  subst e2
  exact X.iret dX11_told_78 rfl rfl
theorem o_X11_told  {S : e_S} {w : Int32} {k : e_G} {l0 : Nat} {l1 : Int32} {l2 : Int32} {g : e_G} (hf : f_X11_told S l0 l1 l2 g = some (w, k)) : e_ob S 11 l0 = true := by
  unfold f_X11_told at hf
  by_cases hc : e_ob S 11 l0 = true
  · exact hc
  · rw [if_neg hc] at hf
    cases hf
theorem c_X11_told {l : Launch} {D : va_G}  {S : e_S} {w : Int32} {k : e_G} {l0 : Nat} {l1 : Int32} {l2 : Int32} {g : e_G} (hf : f_X11_told S l0 l1 l2 g = some (w, k)) : CT l D (e_R 5) M_X11_told [.ref l0, .int l1, .int l2] (S, g) (some (.int w)) (S, k) := by
  refine CT.of (by decide +kernel) (Nat.le_of_ble_eq_true rfl) ?_
  have ho := o_X11_told hf
  unfold f_X11_told at hf
  rw [if_pos ho] at hf
  show X l D (e_R 5) M_X11_told 0 0 0 [(0, .ref l0), (1, .int l1), (2, .int l2)] [] (S, g) (some (.int w)) (S, k)
  refine X.aload_n dX11_told_0 rfl (j := 0) rfl ?_
  refine X.iload_n dX11_told_1 rfl (j := 1) rfl ?_
  obtain ⟨q2, h1, hf⟩ := ob hf
  refine Y.callV (av := [.int l1]) (ci := 11) dX11_told_2 (c_X11_isOne (l := l) (D := D) (w := q2.1) (k := q2.2) h1) cw_X11_179 (by decide) rfl mk_X11_isOne (o_X11_isOne (w := q2.1) (k := q2.2) h1) (e_R_ok (Nat.le_of_ble_eq_true rfl) (Nat.le_of_ble_eq_true rfl)) ⟨rfl, rfl⟩ (by simp [Value.category]) ?_
  refine X.if_ne dX11_told_5 (tgt := 12) rfl (fun hc => ?_) (fun hc => ?_)
  · rw [if_neg hc] at hf
    refine X.iload_n dX11_told_12 rfl (j := 2) rfl ?_
    by_cases h3 : l2 = (0 : Int32)
    · rw [if_pos h3] at hf
      refine X.tableIn dX11_told_13 (by rw [h3]; decide) (by rw [h3]; decide) (off := 55) (tgt := 68) (by rw [h3]; rfl) rfl ?_
      exact x_J_X11_told_68 hf
    rw [if_neg h3] at hf
    by_cases h4 : l2 = (1 : Int32)
    · rw [if_pos h4] at hf
      refine X.tableIn dX11_told_13 (by rw [h4]; decide) (by rw [h4]; decide) (off := 55) (tgt := 68) (by rw [h4]; rfl) rfl ?_
      exact x_J_X11_told_68 hf
    rw [if_neg h4] at hf
    by_cases h5 : l2 = (2 : Int32)
    · rw [if_pos h5] at hf
      refine X.tableIn dX11_told_13 (by rw [h5]; decide) (by rw [h5]; decide) (off := 55) (tgt := 68) (by rw [h5]; rfl) rfl ?_
      exact x_J_X11_told_68 hf
    rw [if_neg h5] at hf
    by_cases h6 : l2 = (3 : Int32)
    · rw [if_pos h6] at hf
      refine X.tableIn dX11_told_13 (by rw [h6]; decide) (by rw [h6]; decide) (off := 66) (tgt := 79) (by rw [h6]; rfl) rfl ?_
      refine X.aload_n dX11_told_79 rfl (j := 0) rfl ?_
      obtain ⟨v7, h8, hf⟩ := ob hf
      refine Y.getR dX11_told_80 fl_X11_7 rfl h8 ?_
      refine X.iload_n dX11_told_83 rfl (j := 1) rfl ?_
      obtain ⟨v9, h10, hf⟩ := ob hf
      refine Y.iald dX11_told_84 h10 ?_
      obtain ⟨e1, e2⟩ := e_ret hf
      subst e1
      subst e2
      exact X.iret dX11_told_85 rfl rfl
    rw [if_neg h6] at hf
    by_cases h11 : l2 = (4 : Int32)
    · rw [if_pos h11] at hf
      refine X.tableIn dX11_told_13 (by rw [h11]; decide) (by rw [h11]; decide) (off := 73) (tgt := 86) (by rw [h11]; rfl) rfl ?_
      refine X.aload_n dX11_told_86 rfl (j := 0) rfl ?_
      obtain ⟨v12, h13, hf⟩ := ob hf
      refine Y.getR dX11_told_87 fl_X11_13 rfl h13 ?_
      refine X.iload_n dX11_told_90 rfl (j := 1) rfl ?_
      obtain ⟨v14, h15, hf⟩ := ob hf
      refine Y.iald dX11_told_91 h15 ?_
      obtain ⟨e1, e2⟩ := e_ret hf
      subst e1
      subst e2
      exact X.iret dX11_told_92 rfl rfl
    rw [if_neg h11] at hf
    by_cases h16 : l2 = (5 : Int32)
    · rw [if_pos h16] at hf
      refine X.tableIn dX11_told_13 (by rw [h16]; decide) (by rw [h16]; decide) (off := 80) (tgt := 93) (by rw [h16]; rfl) rfl ?_
      refine X.aload_n dX11_told_93 rfl (j := 0) rfl ?_
      obtain ⟨v17, h18, hf⟩ := ob hf
      refine Y.getR dX11_told_94 fl_X11_16 rfl h18 ?_
      refine X.iconst dX11_told_97 kI_4 ?_
      refine X.iload_n dX11_told_98 rfl (j := 1) rfl ?_
      refine X.imul dX11_told_99 ?_
      refine X.iconst dX11_told_100 kI_3 ?_
      refine X.iadd dX11_told_101 ?_
      obtain ⟨v19, h20, hf⟩ := ob hf
      refine Y.iald dX11_told_102 h20 ?_
      obtain ⟨e1, e2⟩ := e_ret hf
      subst e1
      subst e2
      exact X.iret dX11_told_103 rfl rfl
    rw [if_neg h16] at hf
    by_cases h21 : l2 = (6 : Int32)
    · rw [if_pos h21] at hf
      refine X.tableIn dX11_told_13 (by rw [h21]; decide) (by rw [h21]; decide) (off := 91) (tgt := 104) (by rw [h21]; rfl) rfl ?_
      refine X.aload_n dX11_told_104 rfl (j := 0) rfl ?_
      refine X.aload_n dX11_told_105 rfl (j := 0) rfl ?_
      obtain ⟨v22, h23, hf⟩ := ob hf
      refine Y.getR dX11_told_106 fl_X11_16 rfl h23 ?_
      refine X.iconst dX11_told_109 kI_4 ?_
      refine X.iload_n dX11_told_110 rfl (j := 1) rfl ?_
      refine X.imul dX11_told_111 ?_
      refine X.iconst dX11_told_112 kI_1 ?_
      refine X.iadd dX11_told_113 ?_
      obtain ⟨v24, h25, hf⟩ := ob hf
      refine Y.iald dX11_told_114 h25 ?_
      obtain ⟨q27, h26, hf⟩ := ob hf
      refine Y.callV (av := [.int v24]) (ci := 11) dX11_told_115 (c_X11_whoAt (l := l) (D := D) (w := q27.1) (k := q27.2) h26) cw_X11_164 (by decide) rfl mk_X11_whoAt (o_X11_whoAt (w := q27.1) (k := q27.2) h26) (e_R_ok (Nat.le_of_ble_eq_true rfl) (Nat.le_of_ble_eq_true rfl)) ⟨rfl, rfl⟩ (by simp [Value.category]) ?_
      obtain ⟨e1, e2⟩ := e_ret hf
      subst e1
      subst e2
      exact X.iret dX11_told_118 rfl rfl
    rw [if_neg h21] at hf
    by_cases h28 : l2 = (7 : Int32)
    · rw [if_pos h28] at hf
      refine X.tableIn dX11_told_13 (by rw [h28]; decide) (by rw [h28]; decide) (off := 106) (tgt := 119) (by rw [h28]; rfl) rfl ?_
      refine X.aload_n dX11_told_119 rfl (j := 0) rfl ?_
      refine X.iload_n dX11_told_120 rfl (j := 1) rfl ?_
      obtain ⟨q30, h29, hf⟩ := ob hf
      refine Y.callV (av := [.int l1]) (ci := 11) dX11_told_121 (c_X11_leansOf (l := l) (D := D) (w := q30.1) (k := q30.2) h29) cw_X11_195 (by decide) rfl mk_X11_leansOf (o_X11_leansOf (w := q30.1) (k := q30.2) h29) (e_R_ok (Nat.le_of_ble_eq_true rfl) (Nat.le_of_ble_eq_true rfl)) ⟨rfl, rfl⟩ (by simp [Value.category]) ?_
      obtain ⟨e1, e2⟩ := e_ret hf
      subst e1
      subst e2
      exact X.iret dX11_told_124 rfl rfl
    rw [if_neg h28] at hf
    by_cases h31 : l2 = (8 : Int32)
    · rw [if_pos h31] at hf
      refine X.tableIn dX11_told_13 (by rw [h31]; decide) (by rw [h31]; decide) (off := 112) (tgt := 125) (by rw [h31]; rfl) rfl ?_
      refine X.aload_n dX11_told_125 rfl (j := 0) rfl ?_
      refine X.iload_n dX11_told_126 rfl (j := 1) rfl ?_
      obtain ⟨q33, h32, hf⟩ := ob hf
      refine Y.callV (av := [.int l1]) (ci := 11) dX11_told_127 (c_X11_holdsOf (l := l) (D := D) (w := q33.1) (k := q33.2) h32) cw_X11_198 (by decide) rfl mk_X11_holdsOf (o_X11_holdsOf (w := q33.1) (k := q33.2) h32) (e_R_ok (Nat.le_of_ble_eq_true rfl) (Nat.le_of_ble_eq_true rfl)) ⟨rfl, rfl⟩ (by simp [Value.category]) ?_
      obtain ⟨e1, e2⟩ := e_ret hf
      subst e1
      subst e2
      exact X.iret dX11_told_130 rfl rfl
    rw [if_neg h31] at hf
    by_cases h34 : l2 = (9 : Int32)
    · rw [if_pos h34] at hf
      refine X.tableIn dX11_told_13 (by rw [h34]; decide) (by rw [h34]; decide) (off := 118) (tgt := 131) (by rw [h34]; rfl) rfl ?_
      refine X.aload_n dX11_told_131 rfl (j := 0) rfl ?_
      refine X.iload_n dX11_told_132 rfl (j := 1) rfl ?_
      obtain ⟨q36, h35, hf⟩ := ob hf
      refine Y.callV (av := [.int l1]) (ci := 11) dX11_told_133 (c_X11_mindsOf (l := l) (D := D) (w := q36.1) (k := q36.2) h35) cw_X11_201 (by decide) rfl mk_X11_mindsOf (o_X11_mindsOf (w := q36.1) (k := q36.2) h35) (e_R_ok (Nat.le_of_ble_eq_true rfl) (Nat.le_of_ble_eq_true rfl)) ⟨rfl, rfl⟩ (by simp [Value.category]) ?_
      obtain ⟨e1, e2⟩ := e_ret hf
      subst e1
      subst e2
      exact X.iret dX11_told_136 rfl rfl
    rw [if_neg h34] at hf
    refine X.tableOut dX11_told_13 (tgt := 137) (by have qh3 := e_ne (z := 0) (by decide) h3; have qh4 := e_ne (z := 1) (by decide) h4; have qh5 := e_ne (z := 2) (by decide) h5; have qh6 := e_ne (z := 3) (by decide) h6; have qh11 := e_ne (z := 4) (by decide) h11; have qh16 := e_ne (z := 5) (by decide) h16; have qh21 := e_ne (z := 6) (by decide) h21; have qh28 := e_ne (z := 7) (by decide) h28; have qh31 := e_ne (z := 8) (by decide) h31; have qh34 := e_ne (z := 9) (by decide) h34; omega) rfl ?_
    refine X.sipush dX11_told_137 kS_m7000 ?_
    obtain ⟨e1, e2⟩ := e_ret hf
    subst e1
    subst e2
    exact X.iret dX11_told_140 rfl rfl
  · rw [if_pos hc] at hf
    refine X.sipush dX11_told_8 kS_m5000 ?_
    obtain ⟨e1, e2⟩ := e_ret hf
    subst e1
    subst e2
    exact X.iret dX11_told_11 rfl rfl
/-! LeanedOutModel.metTwos()I -/
abbrev M_X11_metTwos : e_M := (yX11_metTwos, cX11_metTwos, 3, (some .int))
theorem mk_X11_metTwos : e_Mok M_X11_metTwos 0 := ⟨by decide +kernel, by decide +kernel, by decide +kernel⟩
theorem dX11_metTwos_0 : decode cX11_metTwos 0 = .ok (.iconst 0, 1) := by decide +kernel
theorem dX11_metTwos_1 : decode cX11_metTwos 1 = .ok (.istore_n 1, 1) := by decide +kernel
theorem dX11_metTwos_2 : decode cX11_metTwos 2 = .ok (.iconst 0, 1) := by decide +kernel
theorem dX11_metTwos_3 : decode cX11_metTwos 3 = .ok (.istore_n 2, 1) := by decide +kernel
theorem dX11_metTwos_4 : decode cX11_metTwos 4 = .ok (.iload_n 2, 1) := by decide +kernel
theorem dX11_metTwos_5 : decode cX11_metTwos 5 = .ok (.aload_n 0, 1) := by decide +kernel
theorem dX11_metTwos_6 : decode cX11_metTwos 6 = .ok (.getfield 75, 3) := by decide +kernel
theorem dX11_metTwos_9 : decode cX11_metTwos 9 = .ok (.if_icmp .ge 38, 3) := by decide +kernel
theorem dX11_metTwos_12 : decode cX11_metTwos 12 = .ok (.iload_n 1, 1) := by decide +kernel
theorem dX11_metTwos_13 : decode cX11_metTwos 13 = .ok (.aload_n 0, 1) := by decide +kernel
theorem dX11_metTwos_14 : decode cX11_metTwos 14 = .ok (.iload_n 2, 1) := by decide +kernel
theorem dX11_metTwos_15 : decode cX11_metTwos 15 = .ok (.invokevirtual 192, 3) := by decide +kernel
theorem dX11_metTwos_18 : decode cX11_metTwos 18 = .ok (.ifCond .eq 20, 3) := by decide +kernel
theorem dX11_metTwos_21 : decode cX11_metTwos 21 = .ok (.aload_n 0, 1) := by decide +kernel
theorem dX11_metTwos_22 : decode cX11_metTwos 22 = .ok (.getfield 16, 3) := by decide +kernel
theorem dX11_metTwos_25 : decode cX11_metTwos 25 = .ok (.iconst 4, 1) := by decide +kernel
theorem dX11_metTwos_26 : decode cX11_metTwos 26 = .ok (.iload_n 2, 1) := by decide +kernel
theorem dX11_metTwos_27 : decode cX11_metTwos 27 = .ok (.imul, 1) := by decide +kernel
theorem dX11_metTwos_28 : decode cX11_metTwos 28 = .ok (.iaload, 1) := by decide +kernel
theorem dX11_metTwos_29 : decode cX11_metTwos 29 = .ok (.bipush 10, 2) := by decide +kernel
theorem dX11_metTwos_31 : decode cX11_metTwos 31 = .ok (.if_icmp .ge 7, 3) := by decide +kernel
theorem dX11_metTwos_34 : decode cX11_metTwos 34 = .ok (.iconst 1, 1) := by decide +kernel
theorem dX11_metTwos_35 : decode cX11_metTwos 35 = .ok (.goto 4, 3) := by decide +kernel
theorem dX11_metTwos_38 : decode cX11_metTwos 38 = .ok (.iconst 0, 1) := by decide +kernel
theorem dX11_metTwos_39 : decode cX11_metTwos 39 = .ok (.iadd, 1) := by decide +kernel
theorem dX11_metTwos_40 : decode cX11_metTwos 40 = .ok (.istore_n 1, 1) := by decide +kernel
theorem dX11_metTwos_41 : decode cX11_metTwos 41 = .ok (.iinc 2 1, 3) := by decide +kernel
theorem dX11_metTwos_44 : decode cX11_metTwos 44 = .ok (.goto (-40), 3) := by decide +kernel
theorem dX11_metTwos_47 : decode cX11_metTwos 47 = .ok (.iload_n 1, 1) := by decide +kernel
theorem dX11_metTwos_48 : decode cX11_metTwos 48 = .ok (.ireturn, 1) := by decide +kernel
def J_X11_metTwos_39 (c4 : Nat → Int32 → Int32 → e_G → Option (Int32 × e_G)) (S : e_S) (l0 : Nat) (l2 : Int32) (t0 : Int32) (t1 : Int32) (g : e_G) : Option (Int32 × e_G) :=
  c4 l0 (t0 + t1) (l2 + (1 : Int32)) g
def J_X11_metTwos_38 (c4 : Nat → Int32 → Int32 → e_G → Option (Int32 × e_G)) (S : e_S) (l0 : Nat) (l2 : Int32) (t0 : Int32) (g : e_G) : Option (Int32 × e_G) :=
  J_X11_metTwos_39 c4 S l0 l2 t0 (0 : Int32) g
def L_X11_metTwos_4 : Nat → e_S → Nat → Int32 → Int32 → e_G → Option (Int32 × e_G)
  | 0, _, _, _, _, _ => none
  | n + 1, S, l0, l1, l2, g =>
  (e_gI S g 11 l0 0).bind fun v1 =>
  if v1 ≤ l2 then
    some (l1, g)
  else
    (f_X11_isMet S l0 l2 g).bind fun q4 =>
    if q4.1 = 0 then
      J_X11_metTwos_38 (L_X11_metTwos_4 n S) S l0 l2 l1 q4.2
    else
      (e_gR S q4.2 11 l0 3).bind fun v5 =>
      (e_aI S q4.2 0 v5 ((4 : Int32) * l2)).bind fun v7 =>
      if (10 : Int32) ≤ v7 then
        J_X11_metTwos_38 (L_X11_metTwos_4 n S) S l0 l2 l1 q4.2
      else
        J_X11_metTwos_39 (L_X11_metTwos_4 n S) S l0 l2 l1 (1 : Int32) q4.2
def f_X11_metTwos (S : e_S) (l0 : Nat) (g : e_G) : Option (Int32 × e_G) :=
  if e_ob S 11 l0 = true then
    L_X11_metTwos_4 50000 S l0 (0 : Int32) (0 : Int32) g
  else none
theorem x_J_X11_metTwos_39 {l : Launch} {D : va_G} {S : e_S} {w : Int32} {k : e_G} (c4 : Nat → Int32 → Int32 → e_G → Option (Int32 × e_G)) (hc4 : ∀ (l0 : Nat) (l1 : Int32) (l2 : Int32) (g : e_G), c4 l0 l1 l2 g = some (w, k) → X l D (e_R 3) M_X11_metTwos 0 0 4 [(0, .ref l0), (1, .int l1), (2, .int l2)] [] (S, g) (some (.int w)) (S, k)) {l0 : Nat} {l2 : Int32} {t0 : Int32} {t1 : Int32} {g : e_G} (hf : J_X11_metTwos_39 c4 S l0 l2 t0 t1 g = some (w, k)) : X l D (e_R 3) M_X11_metTwos 0 0 39 [(0, .ref l0), (2, .int l2)] [.int t1, .int t0] (S, g) (some (.int w)) (S, k) := by
  unfold J_X11_metTwos_39 at hf
  refine X.iadd dX11_metTwos_39 ?_
  refine X.istore_n dX11_metTwos_40 rfl (Nat.le_of_ble_eq_true rfl) (lc' := [(1, .int (t0 + t1)), (0, .ref l0), (2, .int l2)]) rfl ?_
  refine X.iinc (j := 2) dX11_metTwos_41 rfl (v := l2 + (1 : Int32)) (by rw [kI_1]) (Nat.le_of_ble_eq_true rfl) (lc' := [(2, .int (l2 + (1 : Int32))), (1, .int (t0 + t1)), (0, .ref l0)]) rfl ?_
  refine X.goto dX11_metTwos_44 (tgt := 4) rfl ?_
  refine X.sub [2, 1, 0] rfl ?_
  exact hc4 _ _ _ _ hf
theorem x_J_X11_metTwos_38 {l : Launch} {D : va_G} {S : e_S} {w : Int32} {k : e_G} (c4 : Nat → Int32 → Int32 → e_G → Option (Int32 × e_G)) (hc4 : ∀ (l0 : Nat) (l1 : Int32) (l2 : Int32) (g : e_G), c4 l0 l1 l2 g = some (w, k) → X l D (e_R 3) M_X11_metTwos 0 0 4 [(0, .ref l0), (1, .int l1), (2, .int l2)] [] (S, g) (some (.int w)) (S, k)) {l0 : Nat} {l2 : Int32} {t0 : Int32} {g : e_G} (hf : J_X11_metTwos_38 c4 S l0 l2 t0 g = some (w, k)) : X l D (e_R 3) M_X11_metTwos 0 0 38 [(0, .ref l0), (2, .int l2)] [.int t0] (S, g) (some (.int w)) (S, k) := by
  unfold J_X11_metTwos_38 at hf
  refine X.iconst dX11_metTwos_38 kI_0 ?_
  exact x_J_X11_metTwos_39 _ hc4 hf
theorem x_L_X11_metTwos_4 {l : Launch} {D : va_G} {S : e_S} {w : Int32} {k : e_G} : ∀ (n : Nat) (l0 : Nat) (l1 : Int32) (l2 : Int32) (g : e_G), L_X11_metTwos_4 n S l0 l1 l2 g = some (w, k) → X l D (e_R 3) M_X11_metTwos 0 0 4 [(0, .ref l0), (1, .int l1), (2, .int l2)] [] (S, g) (some (.int w)) (S, k) := by
  intro n
  induction n with
  | zero =>
    intro l0 l1 l2 g hf
    cases hf
  | succ n ih =>
    intro l0 l1 l2 g hf
    rw [L_X11_metTwos_4] at hf
    refine X.iload_n dX11_metTwos_4 rfl (j := 2) rfl ?_
    refine X.aload_n dX11_metTwos_5 rfl (j := 0) rfl ?_
    obtain ⟨v1, h2, hf⟩ := ob hf
    refine Y.getI dX11_metTwos_6 fl_X11_75 rfl h2 ?_
    refine X.icmp_ge dX11_metTwos_9 (tgt := 47) rfl (fun hc => ?_) (fun hc => ?_)
    · rw [if_pos hc] at hf
      refine X.iload_n dX11_metTwos_47 rfl (j := 1) rfl ?_
      obtain ⟨e1, e2⟩ := e_ret hf
      subst e1
      subst e2
      exact X.iret dX11_metTwos_48 rfl rfl
    · rw [if_neg hc] at hf
      refine X.iload_n dX11_metTwos_12 rfl (j := 1) rfl ?_
      refine X.aload_n dX11_metTwos_13 rfl (j := 0) rfl ?_
      refine X.iload_n dX11_metTwos_14 rfl (j := 2) rfl ?_
      obtain ⟨q4, h3, hf⟩ := ob hf
      refine Y.callV (av := [.int l2]) (ci := 11) dX11_metTwos_15 (c_X11_isMet (l := l) (D := D) (w := q4.1) (k := q4.2) h3) cw_X11_192 (by decide) rfl mk_X11_isMet (o_X11_isMet (w := q4.1) (k := q4.2) h3) (e_R_ok (Nat.le_of_ble_eq_true rfl) (Nat.le_of_ble_eq_true rfl)) ⟨rfl, rfl⟩ (by simp [Value.category]) ?_
      refine X.if_eq dX11_metTwos_18 (tgt := 38) rfl (fun hc => ?_) (fun hc => ?_)
      · rw [if_pos hc] at hf
        refine X.sub [0, 2] rfl ?_
        exact x_J_X11_metTwos_38 _ ih hf
      · rw [if_neg hc] at hf
        refine X.aload_n dX11_metTwos_21 rfl (j := 0) rfl ?_
        obtain ⟨v5, h6, hf⟩ := ob hf
        refine Y.getR dX11_metTwos_22 fl_X11_16 rfl h6 ?_
        refine X.iconst dX11_metTwos_25 kI_4 ?_
        refine X.iload_n dX11_metTwos_26 rfl (j := 2) rfl ?_
        refine X.imul dX11_metTwos_27 ?_
        obtain ⟨v7, h8, hf⟩ := ob hf
        refine Y.iald dX11_metTwos_28 h8 ?_
        refine X.bipush dX11_metTwos_29 kB_10 ?_
        refine X.icmp_ge dX11_metTwos_31 (tgt := 38) rfl (fun hc => ?_) (fun hc => ?_)
        · rw [if_pos hc] at hf
          refine X.sub [0, 2] rfl ?_
          exact x_J_X11_metTwos_38 _ ih hf
        · rw [if_neg hc] at hf
          refine X.iconst dX11_metTwos_34 kI_1 ?_
          refine X.goto dX11_metTwos_35 (tgt := 39) rfl ?_
          refine X.sub [0, 2] rfl ?_
          exact x_J_X11_metTwos_39 _ ih hf
theorem o_X11_metTwos  {S : e_S} {w : Int32} {k : e_G} {l0 : Nat} {g : e_G} (hf : f_X11_metTwos S l0 g = some (w, k)) : e_ob S 11 l0 = true := by
  unfold f_X11_metTwos at hf
  by_cases hc : e_ob S 11 l0 = true
  · exact hc
  · rw [if_neg hc] at hf
    cases hf
theorem c_X11_metTwos {l : Launch} {D : va_G}  {S : e_S} {w : Int32} {k : e_G} {l0 : Nat} {g : e_G} (hf : f_X11_metTwos S l0 g = some (w, k)) : CT l D (e_R 3) M_X11_metTwos [.ref l0] (S, g) (some (.int w)) (S, k) := by
  refine CT.of (by decide +kernel) (Nat.le_of_ble_eq_true rfl) ?_
  have ho := o_X11_metTwos hf
  unfold f_X11_metTwos at hf
  rw [if_pos ho] at hf
  show X l D (e_R 3) M_X11_metTwos 0 0 0 [(0, .ref l0)] [] (S, g) (some (.int w)) (S, k)
  refine X.iconst dX11_metTwos_0 kI_0 ?_
  refine X.istore_n dX11_metTwos_1 rfl (Nat.le_of_ble_eq_true rfl) (lc' := [(1, .int (0 : Int32)), (0, .ref l0)]) rfl ?_
  refine X.iconst dX11_metTwos_2 kI_0 ?_
  refine X.istore_n dX11_metTwos_3 rfl (Nat.le_of_ble_eq_true rfl) (lc' := [(2, .int (0 : Int32)), (1, .int (0 : Int32)), (0, .ref l0)]) rfl ?_
  refine X.sub [2, 1, 0] rfl ?_
  exact x_L_X11_metTwos_4 50000 _ _ _ _ hf
/-! LeanedOutModel.endOn(II)I -/
abbrev M_X11_endOn : e_M := (yX11_endOn, cX11_endOn, 3, (some .int))
theorem mk_X11_endOn : e_Mok M_X11_endOn 2 := ⟨by decide +kernel, by decide +kernel, by decide +kernel⟩
theorem dX11_endOn_0 : decode cX11_endOn 0 = .ok (.aload_n 0, 1) := by decide +kernel
theorem dX11_endOn_1 : decode cX11_endOn 1 = .ok (.getfield 16, 3) := by decide +kernel
theorem dX11_endOn_4 : decode cX11_endOn 4 = .ok (.iconst 4, 1) := by decide +kernel
theorem dX11_endOn_5 : decode cX11_endOn 5 = .ok (.iload_n 1, 1) := by decide +kernel
theorem dX11_endOn_6 : decode cX11_endOn 6 = .ok (.imul, 1) := by decide +kernel
theorem dX11_endOn_7 : decode cX11_endOn 7 = .ok (.iaload, 1) := by decide +kernel
theorem dX11_endOn_8 : decode cX11_endOn 8 = .ok (.bipush 10, 2) := by decide +kernel
theorem dX11_endOn_10 : decode cX11_endOn 10 = .ok (.idiv, 1) := by decide +kernel
theorem dX11_endOn_11 : decode cX11_endOn 11 = .ok (.iload_n 2, 1) := by decide +kernel
theorem dX11_endOn_12 : decode cX11_endOn 12 = .ok (.if_icmp .ne 17, 3) := by decide +kernel
theorem dX11_endOn_15 : decode cX11_endOn 15 = .ok (.aload_n 0, 1) := by decide +kernel
theorem dX11_endOn_16 : decode cX11_endOn 16 = .ok (.getfield 16, 3) := by decide +kernel
theorem dX11_endOn_19 : decode cX11_endOn 19 = .ok (.iconst 4, 1) := by decide +kernel
theorem dX11_endOn_20 : decode cX11_endOn 20 = .ok (.iload_n 1, 1) := by decide +kernel
theorem dX11_endOn_21 : decode cX11_endOn 21 = .ok (.imul, 1) := by decide +kernel
theorem dX11_endOn_22 : decode cX11_endOn 22 = .ok (.iaload, 1) := by decide +kernel
theorem dX11_endOn_23 : decode cX11_endOn 23 = .ok (.bipush 10, 2) := by decide +kernel
theorem dX11_endOn_25 : decode cX11_endOn 25 = .ok (.irem, 1) := by decide +kernel
theorem dX11_endOn_26 : decode cX11_endOn 26 = .ok (.goto 16, 3) := by decide +kernel
theorem dX11_endOn_29 : decode cX11_endOn 29 = .ok (.aload_n 0, 1) := by decide +kernel
theorem dX11_endOn_30 : decode cX11_endOn 30 = .ok (.getfield 16, 3) := by decide +kernel
theorem dX11_endOn_33 : decode cX11_endOn 33 = .ok (.iconst 4, 1) := by decide +kernel
theorem dX11_endOn_34 : decode cX11_endOn 34 = .ok (.iload_n 1, 1) := by decide +kernel
theorem dX11_endOn_35 : decode cX11_endOn 35 = .ok (.imul, 1) := by decide +kernel
theorem dX11_endOn_36 : decode cX11_endOn 36 = .ok (.iconst 1, 1) := by decide +kernel
theorem dX11_endOn_37 : decode cX11_endOn 37 = .ok (.iadd, 1) := by decide +kernel
theorem dX11_endOn_38 : decode cX11_endOn 38 = .ok (.iaload, 1) := by decide +kernel
theorem dX11_endOn_39 : decode cX11_endOn 39 = .ok (.bipush 10, 2) := by decide +kernel
theorem dX11_endOn_41 : decode cX11_endOn 41 = .ok (.irem, 1) := by decide +kernel
theorem dX11_endOn_42 : decode cX11_endOn 42 = .ok (.ireturn, 1) := by decide +kernel
def f_X11_endOn (S : e_S) (l0 : Nat) (l1 : Int32) (l2 : Int32) (g : e_G) : Option (Int32 × e_G) :=
  if e_ob S 11 l0 = true then
    (e_gR S g 11 l0 3).bind fun v1 =>
    (e_aI S g 0 v1 ((4 : Int32) * l1)).bind fun v3 =>
    if (v3 / (10 : Int32)) = l2 then
      (e_gR S g 11 l0 3).bind fun v9 =>
      (e_aI S g 0 v9 ((4 : Int32) * l1)).bind fun v11 =>
      some (i_rem v11 (10 : Int32), g)
    else
      (e_gR S g 11 l0 3).bind fun v5 =>
      (e_aI S g 0 v5 (((4 : Int32) * l1) + (1 : Int32))).bind fun v7 =>
      some (i_rem v7 (10 : Int32), g)
  else none
theorem o_X11_endOn  {S : e_S} {w : Int32} {k : e_G} {l0 : Nat} {l1 : Int32} {l2 : Int32} {g : e_G} (hf : f_X11_endOn S l0 l1 l2 g = some (w, k)) : e_ob S 11 l0 = true := by
  unfold f_X11_endOn at hf
  by_cases hc : e_ob S 11 l0 = true
  · exact hc
  · rw [if_neg hc] at hf
    cases hf
theorem c_X11_endOn {l : Launch} {D : va_G}  {S : e_S} {w : Int32} {k : e_G} {l0 : Nat} {l1 : Int32} {l2 : Int32} {g : e_G} (hf : f_X11_endOn S l0 l1 l2 g = some (w, k)) : CT l D (e_R 1) M_X11_endOn [.ref l0, .int l1, .int l2] (S, g) (some (.int w)) (S, k) := by
  refine CT.of (by decide +kernel) (Nat.le_of_ble_eq_true rfl) ?_
  have ho := o_X11_endOn hf
  unfold f_X11_endOn at hf
  rw [if_pos ho] at hf
  show X l D (e_R 1) M_X11_endOn 0 0 0 [(0, .ref l0), (1, .int l1), (2, .int l2)] [] (S, g) (some (.int w)) (S, k)
  refine X.aload_n dX11_endOn_0 rfl (j := 0) rfl ?_
  obtain ⟨v1, h2, hf⟩ := ob hf
  refine Y.getR dX11_endOn_1 fl_X11_16 rfl h2 ?_
  refine X.iconst dX11_endOn_4 kI_4 ?_
  refine X.iload_n dX11_endOn_5 rfl (j := 1) rfl ?_
  refine X.imul dX11_endOn_6 ?_
  obtain ⟨v3, h4, hf⟩ := ob hf
  refine Y.iald dX11_endOn_7 h4 ?_
  refine X.bipush dX11_endOn_8 kB_10 ?_
  refine X.idiv dX11_endOn_10 (by decide) ?_
  refine X.iload_n dX11_endOn_11 rfl (j := 2) rfl ?_
  refine X.icmp_ne dX11_endOn_12 (tgt := 29) rfl (fun hc => ?_) (fun hc => ?_)
  · rw [if_neg hc] at hf
    refine X.aload_n dX11_endOn_29 rfl (j := 0) rfl ?_
    obtain ⟨v5, h6, hf⟩ := ob hf
    refine Y.getR dX11_endOn_30 fl_X11_16 rfl h6 ?_
    refine X.iconst dX11_endOn_33 kI_4 ?_
    refine X.iload_n dX11_endOn_34 rfl (j := 1) rfl ?_
    refine X.imul dX11_endOn_35 ?_
    refine X.iconst dX11_endOn_36 kI_1 ?_
    refine X.iadd dX11_endOn_37 ?_
    obtain ⟨v7, h8, hf⟩ := ob hf
    refine Y.iald dX11_endOn_38 h8 ?_
    refine X.bipush dX11_endOn_39 kB_10 ?_
    refine Y.irem dX11_endOn_41 (by decide) ?_
    obtain ⟨e1, e2⟩ := e_ret hf
    subst e1
    subst e2
    exact X.iret dX11_endOn_42 rfl rfl
  · rw [if_pos hc] at hf
    refine X.aload_n dX11_endOn_15 rfl (j := 0) rfl ?_
    obtain ⟨v9, h10, hf⟩ := ob hf
    refine Y.getR dX11_endOn_16 fl_X11_16 rfl h10 ?_
    refine X.iconst dX11_endOn_19 kI_4 ?_
    refine X.iload_n dX11_endOn_20 rfl (j := 1) rfl ?_
    refine X.imul dX11_endOn_21 ?_
    obtain ⟨v11, h12, hf⟩ := ob hf
    refine Y.iald dX11_endOn_22 h12 ?_
    refine X.bipush dX11_endOn_23 kB_10 ?_
    refine Y.irem dX11_endOn_25 (by decide) ?_
    refine X.goto dX11_endOn_26 (tgt := 42) rfl ?_
    obtain ⟨e1, e2⟩ := e_ret hf
    subst e1
    subst e2
    exact X.iret dX11_endOn_42 rfl rfl
/-! LeanedOutModel.crossing()I -/
abbrev M_X11_crossing : e_M := (yX11_crossing, cX11_crossing, 4, (some .int))
theorem mk_X11_crossing : e_Mok M_X11_crossing 0 := ⟨by decide +kernel, by decide +kernel, by decide +kernel⟩
theorem dX11_crossing_0 : decode cX11_crossing 0 = .ok (.iconst 0, 1) := by decide +kernel
theorem dX11_crossing_1 : decode cX11_crossing 1 = .ok (.istore_n 1, 1) := by decide +kernel
theorem dX11_crossing_2 : decode cX11_crossing 2 = .ok (.iconst 0, 1) := by decide +kernel
theorem dX11_crossing_3 : decode cX11_crossing 3 = .ok (.istore_n 2, 1) := by decide +kernel
theorem dX11_crossing_4 : decode cX11_crossing 4 = .ok (.iload_n 2, 1) := by decide +kernel
theorem dX11_crossing_5 : decode cX11_crossing 5 = .ok (.aload_n 0, 1) := by decide +kernel
theorem dX11_crossing_6 : decode cX11_crossing 6 = .ok (.getfield 75, 3) := by decide +kernel
theorem dX11_crossing_9 : decode cX11_crossing 9 = .ok (.if_icmp .ge 63, 3) := by decide +kernel
theorem dX11_crossing_12 : decode cX11_crossing 12 = .ok (.iconst 0, 1) := by decide +kernel
theorem dX11_crossing_13 : decode cX11_crossing 13 = .ok (.istore_n 3, 1) := by decide +kernel
theorem dX11_crossing_14 : decode cX11_crossing 14 = .ok (.iload_n 3, 1) := by decide +kernel
theorem dX11_crossing_15 : decode cX11_crossing 15 = .ok (.aload_n 0, 1) := by decide +kernel
theorem dX11_crossing_16 : decode cX11_crossing 16 = .ok (.getfield 75, 3) := by decide +kernel
theorem dX11_crossing_19 : decode cX11_crossing 19 = .ok (.if_icmp .ge 47, 3) := by decide +kernel
theorem dX11_crossing_22 : decode cX11_crossing 22 = .ok (.iload_n 1, 1) := by decide +kernel
theorem dX11_crossing_23 : decode cX11_crossing 23 = .ok (.aload_n 0, 1) := by decide +kernel
theorem dX11_crossing_24 : decode cX11_crossing 24 = .ok (.iload_n 2, 1) := by decide +kernel
theorem dX11_crossing_25 : decode cX11_crossing 25 = .ok (.iconst 0, 1) := by decide +kernel
theorem dX11_crossing_26 : decode cX11_crossing 26 = .ok (.invokevirtual 204, 3) := by decide +kernel
theorem dX11_crossing_29 : decode cX11_crossing 29 = .ok (.aload_n 0, 1) := by decide +kernel
theorem dX11_crossing_30 : decode cX11_crossing 30 = .ok (.iload_n 3, 1) := by decide +kernel
theorem dX11_crossing_31 : decode cX11_crossing 31 = .ok (.iconst 0, 1) := by decide +kernel
theorem dX11_crossing_32 : decode cX11_crossing 32 = .ok (.invokevirtual 204, 3) := by decide +kernel
theorem dX11_crossing_35 : decode cX11_crossing 35 = .ok (.if_icmp .ge 22, 3) := by decide +kernel
theorem dX11_crossing_38 : decode cX11_crossing 38 = .ok (.aload_n 0, 1) := by decide +kernel
theorem dX11_crossing_39 : decode cX11_crossing 39 = .ok (.iload_n 2, 1) := by decide +kernel
theorem dX11_crossing_40 : decode cX11_crossing 40 = .ok (.iconst 1, 1) := by decide +kernel
theorem dX11_crossing_41 : decode cX11_crossing 41 = .ok (.invokevirtual 204, 3) := by decide +kernel
theorem dX11_crossing_44 : decode cX11_crossing 44 = .ok (.aload_n 0, 1) := by decide +kernel
theorem dX11_crossing_45 : decode cX11_crossing 45 = .ok (.iload_n 3, 1) := by decide +kernel
theorem dX11_crossing_46 : decode cX11_crossing 46 = .ok (.iconst 1, 1) := by decide +kernel
theorem dX11_crossing_47 : decode cX11_crossing 47 = .ok (.invokevirtual 204, 3) := by decide +kernel
theorem dX11_crossing_50 : decode cX11_crossing 50 = .ok (.if_icmp .le 7, 3) := by decide +kernel
theorem dX11_crossing_53 : decode cX11_crossing 53 = .ok (.iconst 1, 1) := by decide +kernel
theorem dX11_crossing_54 : decode cX11_crossing 54 = .ok (.goto 4, 3) := by decide +kernel
theorem dX11_crossing_57 : decode cX11_crossing 57 = .ok (.iconst 0, 1) := by decide +kernel
theorem dX11_crossing_58 : decode cX11_crossing 58 = .ok (.iadd, 1) := by decide +kernel
theorem dX11_crossing_59 : decode cX11_crossing 59 = .ok (.istore_n 1, 1) := by decide +kernel
theorem dX11_crossing_60 : decode cX11_crossing 60 = .ok (.iinc 3 1, 3) := by decide +kernel
theorem dX11_crossing_63 : decode cX11_crossing 63 = .ok (.goto (-49), 3) := by decide +kernel
theorem dX11_crossing_66 : decode cX11_crossing 66 = .ok (.iinc 2 1, 3) := by decide +kernel
theorem dX11_crossing_69 : decode cX11_crossing 69 = .ok (.goto (-65), 3) := by decide +kernel
theorem dX11_crossing_72 : decode cX11_crossing 72 = .ok (.iload_n 1, 1) := by decide +kernel
theorem dX11_crossing_73 : decode cX11_crossing 73 = .ok (.ireturn, 1) := by decide +kernel
def J_X11_crossing_58 (c14 : Nat → Int32 → Int32 → Int32 → e_G → Option (Int32 × e_G)) (S : e_S) (l0 : Nat) (l2 : Int32) (l3 : Int32) (t0 : Int32) (t1 : Int32) (g : e_G) : Option (Int32 × e_G) :=
  c14 l0 (t0 + t1) l2 (l3 + (1 : Int32)) g
def J_X11_crossing_57 (c14 : Nat → Int32 → Int32 → Int32 → e_G → Option (Int32 × e_G)) (S : e_S) (l0 : Nat) (l2 : Int32) (l3 : Int32) (t0 : Int32) (g : e_G) : Option (Int32 × e_G) :=
  J_X11_crossing_58 c14 S l0 l2 l3 t0 (0 : Int32) g
def L_X11_crossing_14 (c4 : Nat → Int32 → Int32 → e_G → Option (Int32 × e_G)) : Nat → e_S → Nat → Int32 → Int32 → Int32 → e_G → Option (Int32 × e_G)
  | 0, _, _, _, _, _, _ => none
  | n + 1, S, l0, l1, l2, l3, g =>
  (e_gI S g 11 l0 0).bind fun v1 =>
  if v1 ≤ l3 then
    c4 l0 l1 (l2 + (1 : Int32)) g
  else
    (f_X11_endOn S l0 l2 (0 : Int32) g).bind fun q4 =>
    (f_X11_endOn S l0 l3 (0 : Int32) q4.2).bind fun q6 =>
    if q6.1 ≤ q4.1 then
      J_X11_crossing_57 (L_X11_crossing_14 c4 n S) S l0 l2 l3 l1 q6.2
    else
      (f_X11_endOn S l0 l2 (1 : Int32) q6.2).bind fun q8 =>
      (f_X11_endOn S l0 l3 (1 : Int32) q8.2).bind fun q10 =>
      if q8.1 ≤ q10.1 then
        J_X11_crossing_57 (L_X11_crossing_14 c4 n S) S l0 l2 l3 l1 q10.2
      else
        J_X11_crossing_58 (L_X11_crossing_14 c4 n S) S l0 l2 l3 l1 (1 : Int32) q10.2
def L_X11_crossing_4 : Nat → e_S → Nat → Int32 → Int32 → e_G → Option (Int32 × e_G)
  | 0, _, _, _, _, _ => none
  | n + 1, S, l0, l1, l2, g =>
  (e_gI S g 11 l0 0).bind fun v1 =>
  if v1 ≤ l2 then
    some (l1, g)
  else
    L_X11_crossing_14 (L_X11_crossing_4 n S) 50000 S l0 l1 l2 (0 : Int32) g
def f_X11_crossing (S : e_S) (l0 : Nat) (g : e_G) : Option (Int32 × e_G) :=
  if e_ob S 11 l0 = true then
    L_X11_crossing_4 50000 S l0 (0 : Int32) (0 : Int32) g
  else none
theorem x_J_X11_crossing_58 {l : Launch} {D : va_G} {S : e_S} {w : Int32} {k : e_G} (c14 : Nat → Int32 → Int32 → Int32 → e_G → Option (Int32 × e_G)) (hc14 : ∀ (l0 : Nat) (l1 : Int32) (l2 : Int32) (l3 : Int32) (g : e_G), c14 l0 l1 l2 l3 g = some (w, k) → X l D (e_R 2) M_X11_crossing 0 0 14 [(0, .ref l0), (1, .int l1), (2, .int l2), (3, .int l3)] [] (S, g) (some (.int w)) (S, k)) {l0 : Nat} {l2 : Int32} {l3 : Int32} {t0 : Int32} {t1 : Int32} {g : e_G} (hf : J_X11_crossing_58 c14 S l0 l2 l3 t0 t1 g = some (w, k)) : X l D (e_R 2) M_X11_crossing 0 0 58 [(0, .ref l0), (2, .int l2), (3, .int l3)] [.int t1, .int t0] (S, g) (some (.int w)) (S, k) := by
  unfold J_X11_crossing_58 at hf
  refine X.iadd dX11_crossing_58 ?_
  refine X.istore_n dX11_crossing_59 rfl (Nat.le_of_ble_eq_true rfl) (lc' := [(1, .int (t0 + t1)), (0, .ref l0), (2, .int l2), (3, .int l3)]) rfl ?_
  refine X.iinc (j := 3) dX11_crossing_60 rfl (v := l3 + (1 : Int32)) (by rw [kI_1]) (Nat.le_of_ble_eq_true rfl) (lc' := [(3, .int (l3 + (1 : Int32))), (1, .int (t0 + t1)), (0, .ref l0), (2, .int l2)]) rfl ?_
  refine X.goto dX11_crossing_63 (tgt := 14) rfl ?_
  refine X.sub [2, 1, 3, 0] rfl ?_
  exact hc14 _ _ _ _ _ hf
theorem x_J_X11_crossing_57 {l : Launch} {D : va_G} {S : e_S} {w : Int32} {k : e_G} (c14 : Nat → Int32 → Int32 → Int32 → e_G → Option (Int32 × e_G)) (hc14 : ∀ (l0 : Nat) (l1 : Int32) (l2 : Int32) (l3 : Int32) (g : e_G), c14 l0 l1 l2 l3 g = some (w, k) → X l D (e_R 2) M_X11_crossing 0 0 14 [(0, .ref l0), (1, .int l1), (2, .int l2), (3, .int l3)] [] (S, g) (some (.int w)) (S, k)) {l0 : Nat} {l2 : Int32} {l3 : Int32} {t0 : Int32} {g : e_G} (hf : J_X11_crossing_57 c14 S l0 l2 l3 t0 g = some (w, k)) : X l D (e_R 2) M_X11_crossing 0 0 57 [(0, .ref l0), (2, .int l2), (3, .int l3)] [.int t0] (S, g) (some (.int w)) (S, k) := by
  unfold J_X11_crossing_57 at hf
  refine X.iconst dX11_crossing_57 kI_0 ?_
  exact x_J_X11_crossing_58 _ hc14 hf
theorem x_L_X11_crossing_14 {l : Launch} {D : va_G} {S : e_S} {w : Int32} {k : e_G} (c4 : Nat → Int32 → Int32 → e_G → Option (Int32 × e_G)) (hc4 : ∀ (l0 : Nat) (l1 : Int32) (l2 : Int32) (g : e_G), c4 l0 l1 l2 g = some (w, k) → X l D (e_R 2) M_X11_crossing 0 0 4 [(0, .ref l0), (1, .int l1), (2, .int l2)] [] (S, g) (some (.int w)) (S, k)) : ∀ (n : Nat) (l0 : Nat) (l1 : Int32) (l2 : Int32) (l3 : Int32) (g : e_G), L_X11_crossing_14 c4 n S l0 l1 l2 l3 g = some (w, k) → X l D (e_R 2) M_X11_crossing 0 0 14 [(0, .ref l0), (1, .int l1), (2, .int l2), (3, .int l3)] [] (S, g) (some (.int w)) (S, k) := by
  intro n
  induction n with
  | zero =>
    intro l0 l1 l2 l3 g hf
    cases hf
  | succ n ih =>
    intro l0 l1 l2 l3 g hf
    rw [L_X11_crossing_14] at hf
    refine X.iload_n dX11_crossing_14 rfl (j := 3) rfl ?_
    refine X.aload_n dX11_crossing_15 rfl (j := 0) rfl ?_
    obtain ⟨v1, h2, hf⟩ := ob hf
    refine Y.getI dX11_crossing_16 fl_X11_75 rfl h2 ?_
    refine X.icmp_ge dX11_crossing_19 (tgt := 66) rfl (fun hc => ?_) (fun hc => ?_)
    · rw [if_pos hc] at hf
      refine X.iinc (j := 2) dX11_crossing_66 rfl (v := l2 + (1 : Int32)) (by rw [kI_1]) (Nat.le_of_ble_eq_true rfl) (lc' := [(2, .int (l2 + (1 : Int32))), (0, .ref l0), (1, .int l1), (3, .int l3)]) rfl ?_
      refine X.goto dX11_crossing_69 (tgt := 4) rfl ?_
      refine X.sub [1, 2, 0] rfl ?_
      exact hc4 _ _ _ _ hf
    · rw [if_neg hc] at hf
      refine X.iload_n dX11_crossing_22 rfl (j := 1) rfl ?_
      refine X.aload_n dX11_crossing_23 rfl (j := 0) rfl ?_
      refine X.iload_n dX11_crossing_24 rfl (j := 2) rfl ?_
      refine X.iconst dX11_crossing_25 kI_0 ?_
      obtain ⟨q4, h3, hf⟩ := ob hf
      refine Y.callV (av := [.int l2, .int (0 : Int32)]) (ci := 11) dX11_crossing_26 (c_X11_endOn (l := l) (D := D) (w := q4.1) (k := q4.2) h3) cw_X11_204 (by decide) rfl mk_X11_endOn (o_X11_endOn (w := q4.1) (k := q4.2) h3) (e_R_ok (Nat.le_of_ble_eq_true rfl) (Nat.le_of_ble_eq_true rfl)) ⟨rfl, rfl⟩ (by simp [Value.category]) ?_
      refine X.aload_n dX11_crossing_29 rfl (j := 0) rfl ?_
      refine X.iload_n dX11_crossing_30 rfl (j := 3) rfl ?_
      refine X.iconst dX11_crossing_31 kI_0 ?_
      obtain ⟨q6, h5, hf⟩ := ob hf
      refine Y.callV (av := [.int l3, .int (0 : Int32)]) (ci := 11) dX11_crossing_32 (c_X11_endOn (l := l) (D := D) (w := q6.1) (k := q6.2) h5) cw_X11_204 (by decide) rfl mk_X11_endOn (o_X11_endOn (w := q6.1) (k := q6.2) h5) (e_R_ok (Nat.le_of_ble_eq_true rfl) (Nat.le_of_ble_eq_true rfl)) ⟨rfl, rfl⟩ (by simp [Value.category]) ?_
      refine X.icmp_ge dX11_crossing_35 (tgt := 57) rfl (fun hc => ?_) (fun hc => ?_)
      · rw [if_pos hc] at hf
        refine X.sub [0, 2, 3] rfl ?_
        exact x_J_X11_crossing_57 _ ih hf
      · rw [if_neg hc] at hf
        refine X.aload_n dX11_crossing_38 rfl (j := 0) rfl ?_
        refine X.iload_n dX11_crossing_39 rfl (j := 2) rfl ?_
        refine X.iconst dX11_crossing_40 kI_1 ?_
        obtain ⟨q8, h7, hf⟩ := ob hf
        refine Y.callV (av := [.int l2, .int (1 : Int32)]) (ci := 11) dX11_crossing_41 (c_X11_endOn (l := l) (D := D) (w := q8.1) (k := q8.2) h7) cw_X11_204 (by decide) rfl mk_X11_endOn (o_X11_endOn (w := q8.1) (k := q8.2) h7) (e_R_ok (Nat.le_of_ble_eq_true rfl) (Nat.le_of_ble_eq_true rfl)) ⟨rfl, rfl⟩ (by simp [Value.category]) ?_
        refine X.aload_n dX11_crossing_44 rfl (j := 0) rfl ?_
        refine X.iload_n dX11_crossing_45 rfl (j := 3) rfl ?_
        refine X.iconst dX11_crossing_46 kI_1 ?_
        obtain ⟨q10, h9, hf⟩ := ob hf
        refine Y.callV (av := [.int l3, .int (1 : Int32)]) (ci := 11) dX11_crossing_47 (c_X11_endOn (l := l) (D := D) (w := q10.1) (k := q10.2) h9) cw_X11_204 (by decide) rfl mk_X11_endOn (o_X11_endOn (w := q10.1) (k := q10.2) h9) (e_R_ok (Nat.le_of_ble_eq_true rfl) (Nat.le_of_ble_eq_true rfl)) ⟨rfl, rfl⟩ (by simp [Value.category]) ?_
        refine X.icmp_le dX11_crossing_50 (tgt := 57) rfl (fun hc => ?_) (fun hc => ?_)
        · rw [if_pos hc] at hf
          refine X.sub [0, 2, 3] rfl ?_
          exact x_J_X11_crossing_57 _ ih hf
        · rw [if_neg hc] at hf
          refine X.iconst dX11_crossing_53 kI_1 ?_
          refine X.goto dX11_crossing_54 (tgt := 58) rfl ?_
          refine X.sub [0, 2, 3] rfl ?_
          exact x_J_X11_crossing_58 _ ih hf
theorem x_L_X11_crossing_4 {l : Launch} {D : va_G} {S : e_S} {w : Int32} {k : e_G} : ∀ (n : Nat) (l0 : Nat) (l1 : Int32) (l2 : Int32) (g : e_G), L_X11_crossing_4 n S l0 l1 l2 g = some (w, k) → X l D (e_R 2) M_X11_crossing 0 0 4 [(0, .ref l0), (1, .int l1), (2, .int l2)] [] (S, g) (some (.int w)) (S, k) := by
  intro n
  induction n with
  | zero =>
    intro l0 l1 l2 g hf
    cases hf
  | succ n ih =>
    intro l0 l1 l2 g hf
    rw [L_X11_crossing_4] at hf
    refine X.iload_n dX11_crossing_4 rfl (j := 2) rfl ?_
    refine X.aload_n dX11_crossing_5 rfl (j := 0) rfl ?_
    obtain ⟨v1, h2, hf⟩ := ob hf
    refine Y.getI dX11_crossing_6 fl_X11_75 rfl h2 ?_
    refine X.icmp_ge dX11_crossing_9 (tgt := 72) rfl (fun hc => ?_) (fun hc => ?_)
    · rw [if_pos hc] at hf
      refine X.iload_n dX11_crossing_72 rfl (j := 1) rfl ?_
      obtain ⟨e1, e2⟩ := e_ret hf
      subst e1
      subst e2
      exact X.iret dX11_crossing_73 rfl rfl
    · rw [if_neg hc] at hf
      refine X.iconst dX11_crossing_12 kI_0 ?_
      refine X.istore_n dX11_crossing_13 rfl (Nat.le_of_ble_eq_true rfl) (lc' := [(3, .int (0 : Int32)), (0, .ref l0), (1, .int l1), (2, .int l2)]) rfl ?_
      refine X.sub [1, 2, 3, 0] rfl ?_
      exact x_L_X11_crossing_14 _ ih 50000 _ _ _ _ _ hf
theorem o_X11_crossing  {S : e_S} {w : Int32} {k : e_G} {l0 : Nat} {g : e_G} (hf : f_X11_crossing S l0 g = some (w, k)) : e_ob S 11 l0 = true := by
  unfold f_X11_crossing at hf
  by_cases hc : e_ob S 11 l0 = true
  · exact hc
  · rw [if_neg hc] at hf
    cases hf
theorem c_X11_crossing {l : Launch} {D : va_G}  {S : e_S} {w : Int32} {k : e_G} {l0 : Nat} {g : e_G} (hf : f_X11_crossing S l0 g = some (w, k)) : CT l D (e_R 2) M_X11_crossing [.ref l0] (S, g) (some (.int w)) (S, k) := by
  refine CT.of (by decide +kernel) (Nat.le_of_ble_eq_true rfl) ?_
  have ho := o_X11_crossing hf
  unfold f_X11_crossing at hf
  rw [if_pos ho] at hf
  show X l D (e_R 2) M_X11_crossing 0 0 0 [(0, .ref l0)] [] (S, g) (some (.int w)) (S, k)
  refine X.iconst dX11_crossing_0 kI_0 ?_
  refine X.istore_n dX11_crossing_1 rfl (Nat.le_of_ble_eq_true rfl) (lc' := [(1, .int (0 : Int32)), (0, .ref l0)]) rfl ?_
  refine X.iconst dX11_crossing_2 kI_0 ?_
  refine X.istore_n dX11_crossing_3 rfl (Nat.le_of_ble_eq_true rfl) (lc' := [(2, .int (0 : Int32)), (1, .int (0 : Int32)), (0, .ref l0)]) rfl ?_
  refine X.sub [2, 1, 0] rfl ?_
  exact x_L_X11_crossing_4 50000 _ _ _ _ hf
/-! LeanedOutModel.mostLooked()I -/
abbrev M_X11_mostLooked : e_M := (yX11_mostLooked, cX11_mostLooked, 5, (some .int))
theorem mk_X11_mostLooked : e_Mok M_X11_mostLooked 0 := ⟨by decide +kernel, by decide +kernel, by decide +kernel⟩
theorem dX11_mostLooked_0 : decode cX11_mostLooked 0 = .ok (.iconst (-1), 1) := by decide +kernel
theorem dX11_mostLooked_1 : decode cX11_mostLooked 1 = .ok (.istore_n 1, 1) := by decide +kernel
theorem dX11_mostLooked_2 : decode cX11_mostLooked 2 = .ok (.iconst 0, 1) := by decide +kernel
theorem dX11_mostLooked_3 : decode cX11_mostLooked 3 = .ok (.istore_n 2, 1) := by decide +kernel
theorem dX11_mostLooked_4 : decode cX11_mostLooked 4 = .ok (.iconst 0, 1) := by decide +kernel
theorem dX11_mostLooked_5 : decode cX11_mostLooked 5 = .ok (.istore_n 3, 1) := by decide +kernel
theorem dX11_mostLooked_6 : decode cX11_mostLooked 6 = .ok (.iload_n 3, 1) := by decide +kernel
theorem dX11_mostLooked_7 : decode cX11_mostLooked 7 = .ok (.bipush 20, 2) := by decide +kernel
theorem dX11_mostLooked_9 : decode cX11_mostLooked 9 = .ok (.if_icmp .ge 41, 3) := by decide +kernel
theorem dX11_mostLooked_12 : decode cX11_mostLooked 12 = .ok (.aload_n 0, 1) := by decide +kernel
theorem dX11_mostLooked_13 : decode cX11_mostLooked 13 = .ok (.iload_n 3, 1) := by decide +kernel
theorem dX11_mostLooked_14 : decode cX11_mostLooked 14 = .ok (.invokevirtual 173, 3) := by decide +kernel
theorem dX11_mostLooked_17 : decode cX11_mostLooked 17 = .ok (.istore 4, 2) := by decide +kernel
theorem dX11_mostLooked_19 : decode cX11_mostLooked 19 = .ok (.iload 4, 2) := by decide +kernel
theorem dX11_mostLooked_21 : decode cX11_mostLooked 21 = .ok (.iload_n 2, 1) := by decide +kernel
theorem dX11_mostLooked_22 : decode cX11_mostLooked 22 = .ok (.if_icmp .le 7, 3) := by decide +kernel
theorem dX11_mostLooked_25 : decode cX11_mostLooked 25 = .ok (.iload_n 3, 1) := by decide +kernel
theorem dX11_mostLooked_26 : decode cX11_mostLooked 26 = .ok (.goto 4, 3) := by decide +kernel
theorem dX11_mostLooked_29 : decode cX11_mostLooked 29 = .ok (.iload_n 1, 1) := by decide +kernel
theorem dX11_mostLooked_30 : decode cX11_mostLooked 30 = .ok (.istore_n 1, 1) := by decide +kernel
theorem dX11_mostLooked_31 : decode cX11_mostLooked 31 = .ok (.iload 4, 2) := by decide +kernel
theorem dX11_mostLooked_33 : decode cX11_mostLooked 33 = .ok (.iload_n 2, 1) := by decide +kernel
theorem dX11_mostLooked_34 : decode cX11_mostLooked 34 = .ok (.if_icmp .le 8, 3) := by decide +kernel
theorem dX11_mostLooked_37 : decode cX11_mostLooked 37 = .ok (.iload 4, 2) := by decide +kernel
theorem dX11_mostLooked_39 : decode cX11_mostLooked 39 = .ok (.goto 4, 3) := by decide +kernel
theorem dX11_mostLooked_42 : decode cX11_mostLooked 42 = .ok (.iload_n 2, 1) := by decide +kernel
theorem dX11_mostLooked_43 : decode cX11_mostLooked 43 = .ok (.istore_n 2, 1) := by decide +kernel
theorem dX11_mostLooked_44 : decode cX11_mostLooked 44 = .ok (.iinc 3 1, 3) := by decide +kernel
theorem dX11_mostLooked_47 : decode cX11_mostLooked 47 = .ok (.goto (-41), 3) := by decide +kernel
theorem dX11_mostLooked_50 : decode cX11_mostLooked 50 = .ok (.iload_n 1, 1) := by decide +kernel
theorem dX11_mostLooked_51 : decode cX11_mostLooked 51 = .ok (.ireturn, 1) := by decide +kernel
def J_X11_mostLooked_43 (c6 : Nat → Int32 → Int32 → Int32 → e_G → Option (Int32 × e_G)) (S : e_S) (l0 : Nat) (l1 : Int32) (l3 : Int32) (t0 : Int32) (g : e_G) : Option (Int32 × e_G) :=
  c6 l0 l1 t0 (l3 + (1 : Int32)) g
def J_X11_mostLooked_30 (c6 : Nat → Int32 → Int32 → Int32 → e_G → Option (Int32 × e_G)) (S : e_S) (l0 : Nat) (l2 : Int32) (l3 : Int32) (l4 : Int32) (t0 : Int32) (g : e_G) : Option (Int32 × e_G) :=
  if l4 ≤ l2 then
    J_X11_mostLooked_43 c6 S l0 t0 l3 l2 g
  else
    J_X11_mostLooked_43 c6 S l0 t0 l3 l4 g
def L_X11_mostLooked_6 : Nat → e_S → Nat → Int32 → Int32 → Int32 → e_G → Option (Int32 × e_G)
  | 0, _, _, _, _, _, _ => none
  | n + 1, S, l0, l1, l2, l3, g =>
  if (20 : Int32) ≤ l3 then
    some (l1, g)
  else
    (f_X11_lookersOf S l0 l3 g).bind fun q2 =>
    if q2.1 ≤ l2 then
      J_X11_mostLooked_30 (L_X11_mostLooked_6 n S) S l0 l2 l3 q2.1 l1 q2.2
    else
      J_X11_mostLooked_30 (L_X11_mostLooked_6 n S) S l0 l2 l3 q2.1 l3 q2.2
def f_X11_mostLooked (S : e_S) (l0 : Nat) (g : e_G) : Option (Int32 × e_G) :=
  if e_ob S 11 l0 = true then
    L_X11_mostLooked_6 50000 S l0 (-1 : Int32) (0 : Int32) (0 : Int32) g
  else none
theorem x_J_X11_mostLooked_43 {l : Launch} {D : va_G} {S : e_S} {w : Int32} {k : e_G} (c6 : Nat → Int32 → Int32 → Int32 → e_G → Option (Int32 × e_G)) (hc6 : ∀ (l0 : Nat) (l1 : Int32) (l2 : Int32) (l3 : Int32) (g : e_G), c6 l0 l1 l2 l3 g = some (w, k) → X l D (e_R 2) M_X11_mostLooked 0 0 6 [(0, .ref l0), (1, .int l1), (2, .int l2), (3, .int l3)] [] (S, g) (some (.int w)) (S, k)) {l0 : Nat} {l1 : Int32} {l3 : Int32} {t0 : Int32} {g : e_G} (hf : J_X11_mostLooked_43 c6 S l0 l1 l3 t0 g = some (w, k)) : X l D (e_R 2) M_X11_mostLooked 0 0 43 [(0, .ref l0), (1, .int l1), (3, .int l3)] [.int t0] (S, g) (some (.int w)) (S, k) := by
  unfold J_X11_mostLooked_43 at hf
  refine X.istore_n dX11_mostLooked_43 rfl (Nat.le_of_ble_eq_true rfl) (lc' := [(2, .int t0), (0, .ref l0), (1, .int l1), (3, .int l3)]) rfl ?_
  refine X.iinc (j := 3) dX11_mostLooked_44 rfl (v := l3 + (1 : Int32)) (by rw [kI_1]) (Nat.le_of_ble_eq_true rfl) (lc' := [(3, .int (l3 + (1 : Int32))), (2, .int t0), (0, .ref l0), (1, .int l1)]) rfl ?_
  refine X.goto dX11_mostLooked_47 (tgt := 6) rfl ?_
  refine X.sub [2, 3, 1, 0] rfl ?_
  exact hc6 _ _ _ _ _ hf
theorem x_J_X11_mostLooked_30 {l : Launch} {D : va_G} {S : e_S} {w : Int32} {k : e_G} (c6 : Nat → Int32 → Int32 → Int32 → e_G → Option (Int32 × e_G)) (hc6 : ∀ (l0 : Nat) (l1 : Int32) (l2 : Int32) (l3 : Int32) (g : e_G), c6 l0 l1 l2 l3 g = some (w, k) → X l D (e_R 2) M_X11_mostLooked 0 0 6 [(0, .ref l0), (1, .int l1), (2, .int l2), (3, .int l3)] [] (S, g) (some (.int w)) (S, k)) {l0 : Nat} {l2 : Int32} {l3 : Int32} {l4 : Int32} {t0 : Int32} {g : e_G} (hf : J_X11_mostLooked_30 c6 S l0 l2 l3 l4 t0 g = some (w, k)) : X l D (e_R 2) M_X11_mostLooked 0 0 30 [(0, .ref l0), (2, .int l2), (3, .int l3), (4, .int l4)] [.int t0] (S, g) (some (.int w)) (S, k) := by
  unfold J_X11_mostLooked_30 at hf
  refine X.istore_n dX11_mostLooked_30 rfl (Nat.le_of_ble_eq_true rfl) (lc' := [(1, .int t0), (0, .ref l0), (2, .int l2), (3, .int l3), (4, .int l4)]) rfl ?_
  refine X.iload dX11_mostLooked_31 (j := 4) rfl ?_
  refine X.iload_n dX11_mostLooked_33 rfl (j := 2) rfl ?_
  refine X.icmp_le dX11_mostLooked_34 (tgt := 42) rfl (fun hc => ?_) (fun hc => ?_)
  · rw [if_pos hc] at hf
    refine X.iload_n dX11_mostLooked_42 rfl (j := 2) rfl ?_
    refine X.sub [1, 0, 3] rfl ?_
    exact x_J_X11_mostLooked_43 _ hc6 hf
  · rw [if_neg hc] at hf
    refine X.iload dX11_mostLooked_37 (j := 4) rfl ?_
    refine X.goto dX11_mostLooked_39 (tgt := 43) rfl ?_
    refine X.sub [1, 0, 3] rfl ?_
    exact x_J_X11_mostLooked_43 _ hc6 hf
theorem x_L_X11_mostLooked_6 {l : Launch} {D : va_G} {S : e_S} {w : Int32} {k : e_G} : ∀ (n : Nat) (l0 : Nat) (l1 : Int32) (l2 : Int32) (l3 : Int32) (g : e_G), L_X11_mostLooked_6 n S l0 l1 l2 l3 g = some (w, k) → X l D (e_R 2) M_X11_mostLooked 0 0 6 [(0, .ref l0), (1, .int l1), (2, .int l2), (3, .int l3)] [] (S, g) (some (.int w)) (S, k) := by
  intro n
  induction n with
  | zero =>
    intro l0 l1 l2 l3 g hf
    cases hf
  | succ n ih =>
    intro l0 l1 l2 l3 g hf
    rw [L_X11_mostLooked_6] at hf
    refine X.iload_n dX11_mostLooked_6 rfl (j := 3) rfl ?_
    refine X.bipush dX11_mostLooked_7 kB_20 ?_
    refine X.icmp_ge dX11_mostLooked_9 (tgt := 50) rfl (fun hc => ?_) (fun hc => ?_)
    · rw [if_pos hc] at hf
      refine X.iload_n dX11_mostLooked_50 rfl (j := 1) rfl ?_
      obtain ⟨e1, e2⟩ := e_ret hf
      subst e1
      subst e2
      exact X.iret dX11_mostLooked_51 rfl rfl
    · rw [if_neg hc] at hf
      refine X.aload_n dX11_mostLooked_12 rfl (j := 0) rfl ?_
      refine X.iload_n dX11_mostLooked_13 rfl (j := 3) rfl ?_
      obtain ⟨q2, h1, hf⟩ := ob hf
      refine Y.callV (av := [.int l3]) (ci := 11) dX11_mostLooked_14 (c_X11_lookersOf (l := l) (D := D) (w := q2.1) (k := q2.2) h1) cw_X11_173 (by decide) rfl mk_X11_lookersOf (o_X11_lookersOf (w := q2.1) (k := q2.2) h1) (e_R_ok (Nat.le_of_ble_eq_true rfl) (Nat.le_of_ble_eq_true rfl)) ⟨rfl, rfl⟩ (by simp [Value.category]) ?_
      refine X.istore dX11_mostLooked_17 (Nat.le_of_ble_eq_true rfl) (lc' := [(4, .int q2.1), (0, .ref l0), (1, .int l1), (2, .int l2), (3, .int l3)]) rfl ?_
      refine X.iload dX11_mostLooked_19 (j := 0) rfl ?_
      refine X.iload_n dX11_mostLooked_21 rfl (j := 3) rfl ?_
      refine X.icmp_le dX11_mostLooked_22 (tgt := 29) rfl (fun hc => ?_) (fun hc => ?_)
      · rw [if_pos hc] at hf
        refine X.iload_n dX11_mostLooked_29 rfl (j := 2) rfl ?_
        refine X.sub [1, 3, 4, 0] rfl ?_
        exact x_J_X11_mostLooked_30 _ ih hf
      · rw [if_neg hc] at hf
        refine X.iload_n dX11_mostLooked_25 rfl (j := 4) rfl ?_
        refine X.goto dX11_mostLooked_26 (tgt := 30) rfl ?_
        refine X.sub [1, 3, 4, 0] rfl ?_
        exact x_J_X11_mostLooked_30 _ ih hf
theorem o_X11_mostLooked  {S : e_S} {w : Int32} {k : e_G} {l0 : Nat} {g : e_G} (hf : f_X11_mostLooked S l0 g = some (w, k)) : e_ob S 11 l0 = true := by
  unfold f_X11_mostLooked at hf
  by_cases hc : e_ob S 11 l0 = true
  · exact hc
  · rw [if_neg hc] at hf
    cases hf
theorem c_X11_mostLooked {l : Launch} {D : va_G}  {S : e_S} {w : Int32} {k : e_G} {l0 : Nat} {g : e_G} (hf : f_X11_mostLooked S l0 g = some (w, k)) : CT l D (e_R 2) M_X11_mostLooked [.ref l0] (S, g) (some (.int w)) (S, k) := by
  refine CT.of (by decide +kernel) (Nat.le_of_ble_eq_true rfl) ?_
  have ho := o_X11_mostLooked hf
  unfold f_X11_mostLooked at hf
  rw [if_pos ho] at hf
  show X l D (e_R 2) M_X11_mostLooked 0 0 0 [(0, .ref l0)] [] (S, g) (some (.int w)) (S, k)
  refine X.iconst dX11_mostLooked_0 kI_m1 ?_
  refine X.istore_n dX11_mostLooked_1 rfl (Nat.le_of_ble_eq_true rfl) (lc' := [(1, .int (-1 : Int32)), (0, .ref l0)]) rfl ?_
  refine X.iconst dX11_mostLooked_2 kI_0 ?_
  refine X.istore_n dX11_mostLooked_3 rfl (Nat.le_of_ble_eq_true rfl) (lc' := [(2, .int (0 : Int32)), (1, .int (-1 : Int32)), (0, .ref l0)]) rfl ?_
  refine X.iconst dX11_mostLooked_4 kI_0 ?_
  refine X.istore_n dX11_mostLooked_5 rfl (Nat.le_of_ble_eq_true rfl) (lc' := [(3, .int (0 : Int32)), (2, .int (0 : Int32)), (1, .int (-1 : Int32)), (0, .ref l0)]) rfl ?_
  refine X.sub [3, 2, 1, 0] rfl ?_
  exact x_L_X11_mostLooked_6 50000 _ _ _ _ _ hf
/-! LeanedOutModel.unseen()I -/
abbrev M_X11_unseen : e_M := (yX11_unseen, cX11_unseen, 3, (some .int))
theorem mk_X11_unseen : e_Mok M_X11_unseen 0 := ⟨by decide +kernel, by decide +kernel, by decide +kernel⟩
theorem dX11_unseen_0 : decode cX11_unseen 0 = .ok (.iconst 0, 1) := by decide +kernel
theorem dX11_unseen_1 : decode cX11_unseen 1 = .ok (.istore_n 1, 1) := by decide +kernel
theorem dX11_unseen_2 : decode cX11_unseen 2 = .ok (.iconst 0, 1) := by decide +kernel
theorem dX11_unseen_3 : decode cX11_unseen 3 = .ok (.istore_n 2, 1) := by decide +kernel
theorem dX11_unseen_4 : decode cX11_unseen 4 = .ok (.iload_n 2, 1) := by decide +kernel
theorem dX11_unseen_5 : decode cX11_unseen 5 = .ok (.aload_n 0, 1) := by decide +kernel
theorem dX11_unseen_6 : decode cX11_unseen 6 = .ok (.getfield 75, 3) := by decide +kernel
theorem dX11_unseen_9 : decode cX11_unseen 9 = .ok (.if_icmp .ge 34, 3) := by decide +kernel
theorem dX11_unseen_12 : decode cX11_unseen 12 = .ok (.iload_n 1, 1) := by decide +kernel
theorem dX11_unseen_13 : decode cX11_unseen 13 = .ok (.aload_n 0, 1) := by decide +kernel
theorem dX11_unseen_14 : decode cX11_unseen 14 = .ok (.aload_n 0, 1) := by decide +kernel
theorem dX11_unseen_15 : decode cX11_unseen 15 = .ok (.getfield 16, 3) := by decide +kernel
theorem dX11_unseen_18 : decode cX11_unseen 18 = .ok (.iconst 4, 1) := by decide +kernel
theorem dX11_unseen_19 : decode cX11_unseen 19 = .ok (.iload_n 2, 1) := by decide +kernel
theorem dX11_unseen_20 : decode cX11_unseen 20 = .ok (.imul, 1) := by decide +kernel
theorem dX11_unseen_21 : decode cX11_unseen 21 = .ok (.iaload, 1) := by decide +kernel
theorem dX11_unseen_22 : decode cX11_unseen 22 = .ok (.invokevirtual 173, 3) := by decide +kernel
theorem dX11_unseen_25 : decode cX11_unseen 25 = .ok (.ifCond .ne 9, 3) := by decide +kernel
theorem dX11_unseen_28 : decode cX11_unseen 28 = .ok (.iconst 1, 1) := by decide +kernel
theorem dX11_unseen_29 : decode cX11_unseen 29 = .ok (.iload_n 2, 1) := by decide +kernel
theorem dX11_unseen_30 : decode cX11_unseen 30 = .ok (.ishl, 1) := by decide +kernel
theorem dX11_unseen_31 : decode cX11_unseen 31 = .ok (.goto 4, 3) := by decide +kernel
theorem dX11_unseen_34 : decode cX11_unseen 34 = .ok (.iconst 0, 1) := by decide +kernel
theorem dX11_unseen_35 : decode cX11_unseen 35 = .ok (.ior, 1) := by decide +kernel
theorem dX11_unseen_36 : decode cX11_unseen 36 = .ok (.istore_n 1, 1) := by decide +kernel
theorem dX11_unseen_37 : decode cX11_unseen 37 = .ok (.iinc 2 1, 3) := by decide +kernel
theorem dX11_unseen_40 : decode cX11_unseen 40 = .ok (.goto (-36), 3) := by decide +kernel
theorem dX11_unseen_43 : decode cX11_unseen 43 = .ok (.iload_n 1, 1) := by decide +kernel
theorem dX11_unseen_44 : decode cX11_unseen 44 = .ok (.ireturn, 1) := by decide +kernel
def J_X11_unseen_35 (c4 : Nat → Int32 → Int32 → e_G → Option (Int32 × e_G)) (S : e_S) (l0 : Nat) (l2 : Int32) (t0 : Int32) (t1 : Int32) (g : e_G) : Option (Int32 × e_G) :=
  c4 l0 (t0 ||| t1) (l2 + (1 : Int32)) g
def L_X11_unseen_4 : Nat → e_S → Nat → Int32 → Int32 → e_G → Option (Int32 × e_G)
  | 0, _, _, _, _, _ => none
  | n + 1, S, l0, l1, l2, g =>
  (e_gI S g 11 l0 0).bind fun v1 =>
  if v1 ≤ l2 then
    some (l1, g)
  else
    (e_gR S g 11 l0 3).bind fun v3 =>
    (e_aI S g 0 v3 ((4 : Int32) * l2)).bind fun v5 =>
    (f_X11_lookersOf S l0 v5 g).bind fun q8 =>
    if q8.1 = 0 then
      J_X11_unseen_35 (L_X11_unseen_4 n S) S l0 l2 l1 ((1 : Int32) <<< (l2 &&& 31)) q8.2
    else
      J_X11_unseen_35 (L_X11_unseen_4 n S) S l0 l2 l1 (0 : Int32) q8.2
def f_X11_unseen (S : e_S) (l0 : Nat) (g : e_G) : Option (Int32 × e_G) :=
  if e_ob S 11 l0 = true then
    L_X11_unseen_4 50000 S l0 (0 : Int32) (0 : Int32) g
  else none
theorem x_J_X11_unseen_35 {l : Launch} {D : va_G} {S : e_S} {w : Int32} {k : e_G} (c4 : Nat → Int32 → Int32 → e_G → Option (Int32 × e_G)) (hc4 : ∀ (l0 : Nat) (l1 : Int32) (l2 : Int32) (g : e_G), c4 l0 l1 l2 g = some (w, k) → X l D (e_R 2) M_X11_unseen 0 0 4 [(0, .ref l0), (1, .int l1), (2, .int l2)] [] (S, g) (some (.int w)) (S, k)) {l0 : Nat} {l2 : Int32} {t0 : Int32} {t1 : Int32} {g : e_G} (hf : J_X11_unseen_35 c4 S l0 l2 t0 t1 g = some (w, k)) : X l D (e_R 2) M_X11_unseen 0 0 35 [(0, .ref l0), (2, .int l2)] [.int t1, .int t0] (S, g) (some (.int w)) (S, k) := by
  unfold J_X11_unseen_35 at hf
  refine X.ior dX11_unseen_35 ?_
  refine X.istore_n dX11_unseen_36 rfl (Nat.le_of_ble_eq_true rfl) (lc' := [(1, .int (t0 ||| t1)), (0, .ref l0), (2, .int l2)]) rfl ?_
  refine X.iinc (j := 2) dX11_unseen_37 rfl (v := l2 + (1 : Int32)) (by rw [kI_1]) (Nat.le_of_ble_eq_true rfl) (lc' := [(2, .int (l2 + (1 : Int32))), (1, .int (t0 ||| t1)), (0, .ref l0)]) rfl ?_
  refine X.goto dX11_unseen_40 (tgt := 4) rfl ?_
  refine X.sub [2, 1, 0] rfl ?_
  exact hc4 _ _ _ _ hf
theorem x_L_X11_unseen_4 {l : Launch} {D : va_G} {S : e_S} {w : Int32} {k : e_G} : ∀ (n : Nat) (l0 : Nat) (l1 : Int32) (l2 : Int32) (g : e_G), L_X11_unseen_4 n S l0 l1 l2 g = some (w, k) → X l D (e_R 2) M_X11_unseen 0 0 4 [(0, .ref l0), (1, .int l1), (2, .int l2)] [] (S, g) (some (.int w)) (S, k) := by
  intro n
  induction n with
  | zero =>
    intro l0 l1 l2 g hf
    cases hf
  | succ n ih =>
    intro l0 l1 l2 g hf
    rw [L_X11_unseen_4] at hf
    refine X.iload_n dX11_unseen_4 rfl (j := 2) rfl ?_
    refine X.aload_n dX11_unseen_5 rfl (j := 0) rfl ?_
    obtain ⟨v1, h2, hf⟩ := ob hf
    refine Y.getI dX11_unseen_6 fl_X11_75 rfl h2 ?_
    refine X.icmp_ge dX11_unseen_9 (tgt := 43) rfl (fun hc => ?_) (fun hc => ?_)
    · rw [if_pos hc] at hf
      refine X.iload_n dX11_unseen_43 rfl (j := 1) rfl ?_
      obtain ⟨e1, e2⟩ := e_ret hf
      subst e1
      subst e2
      exact X.iret dX11_unseen_44 rfl rfl
    · rw [if_neg hc] at hf
      refine X.iload_n dX11_unseen_12 rfl (j := 1) rfl ?_
      refine X.aload_n dX11_unseen_13 rfl (j := 0) rfl ?_
      refine X.aload_n dX11_unseen_14 rfl (j := 0) rfl ?_
      obtain ⟨v3, h4, hf⟩ := ob hf
      refine Y.getR dX11_unseen_15 fl_X11_16 rfl h4 ?_
      refine X.iconst dX11_unseen_18 kI_4 ?_
      refine X.iload_n dX11_unseen_19 rfl (j := 2) rfl ?_
      refine X.imul dX11_unseen_20 ?_
      obtain ⟨v5, h6, hf⟩ := ob hf
      refine Y.iald dX11_unseen_21 h6 ?_
      obtain ⟨q8, h7, hf⟩ := ob hf
      refine Y.callV (av := [.int v5]) (ci := 11) dX11_unseen_22 (c_X11_lookersOf (l := l) (D := D) (w := q8.1) (k := q8.2) h7) cw_X11_173 (by decide) rfl mk_X11_lookersOf (o_X11_lookersOf (w := q8.1) (k := q8.2) h7) (e_R_ok (Nat.le_of_ble_eq_true rfl) (Nat.le_of_ble_eq_true rfl)) ⟨rfl, rfl⟩ (by simp [Value.category]) ?_
      refine X.if_ne dX11_unseen_25 (tgt := 34) rfl (fun hc => ?_) (fun hc => ?_)
      · rw [if_neg hc] at hf
        refine X.iconst dX11_unseen_34 kI_0 ?_
        refine X.sub [0, 2] rfl ?_
        exact x_J_X11_unseen_35 _ ih hf
      · rw [if_pos hc] at hf
        refine X.iconst dX11_unseen_28 kI_1 ?_
        refine X.iload_n dX11_unseen_29 rfl (j := 2) rfl ?_
        refine X.ishl dX11_unseen_30 ?_
        refine X.goto dX11_unseen_31 (tgt := 35) rfl ?_
        refine X.sub [0, 2] rfl ?_
        exact x_J_X11_unseen_35 _ ih hf
theorem o_X11_unseen  {S : e_S} {w : Int32} {k : e_G} {l0 : Nat} {g : e_G} (hf : f_X11_unseen S l0 g = some (w, k)) : e_ob S 11 l0 = true := by
  unfold f_X11_unseen at hf
  by_cases hc : e_ob S 11 l0 = true
  · exact hc
  · rw [if_neg hc] at hf
    cases hf
theorem c_X11_unseen {l : Launch} {D : va_G}  {S : e_S} {w : Int32} {k : e_G} {l0 : Nat} {g : e_G} (hf : f_X11_unseen S l0 g = some (w, k)) : CT l D (e_R 2) M_X11_unseen [.ref l0] (S, g) (some (.int w)) (S, k) := by
  refine CT.of (by decide +kernel) (Nat.le_of_ble_eq_true rfl) ?_
  have ho := o_X11_unseen hf
  unfold f_X11_unseen at hf
  rw [if_pos ho] at hf
  show X l D (e_R 2) M_X11_unseen 0 0 0 [(0, .ref l0)] [] (S, g) (some (.int w)) (S, k)
  refine X.iconst dX11_unseen_0 kI_0 ?_
  refine X.istore_n dX11_unseen_1 rfl (Nat.le_of_ble_eq_true rfl) (lc' := [(1, .int (0 : Int32)), (0, .ref l0)]) rfl ?_
  refine X.iconst dX11_unseen_2 kI_0 ?_
  refine X.istore_n dX11_unseen_3 rfl (Nat.le_of_ble_eq_true rfl) (lc' := [(2, .int (0 : Int32)), (1, .int (0 : Int32)), (0, .ref l0)]) rfl ?_
  refine X.sub [2, 1, 0] rfl ?_
  exact x_L_X11_unseen_4 50000 _ _ _ _ hf
/-! LeanedOutModel.street(I)I -/
abbrev M_X11_street : e_M := (yX11_street, cX11_street, 2, (some .int))
theorem mk_X11_street : e_Mok M_X11_street 1 := ⟨by decide +kernel, by decide +kernel, by decide +kernel⟩
theorem dX11_street_0 : decode cX11_street 0 = .ok (.iload_n 1, 1) := by decide +kernel
theorem dX11_street_1 : decode cX11_street 1 = .ok (.tableswitch 64 0 4 #[35, 40, 45, 50, 59], 35) := by decide +kernel
theorem dX11_street_36 : decode cX11_street 36 = .ok (.aload_n 0, 1) := by decide +kernel
theorem dX11_street_37 : decode cX11_street 37 = .ok (.invokevirtual 207, 3) := by decide +kernel
theorem dX11_street_40 : decode cX11_street 40 = .ok (.ireturn, 1) := by decide +kernel
theorem dX11_street_41 : decode cX11_street 41 = .ok (.aload_n 0, 1) := by decide +kernel
theorem dX11_street_42 : decode cX11_street 42 = .ok (.invokevirtual 210, 3) := by decide +kernel
theorem dX11_street_45 : decode cX11_street 45 = .ok (.ireturn, 1) := by decide +kernel
theorem dX11_street_46 : decode cX11_street 46 = .ok (.aload_n 0, 1) := by decide +kernel
theorem dX11_street_47 : decode cX11_street 47 = .ok (.invokevirtual 213, 3) := by decide +kernel
theorem dX11_street_50 : decode cX11_street 50 = .ok (.ireturn, 1) := by decide +kernel
theorem dX11_street_51 : decode cX11_street 51 = .ok (.aload_n 0, 1) := by decide +kernel
theorem dX11_street_52 : decode cX11_street 52 = .ok (.aload_n 0, 1) := by decide +kernel
theorem dX11_street_53 : decode cX11_street 53 = .ok (.invokevirtual 213, 3) := by decide +kernel
theorem dX11_street_56 : decode cX11_street 56 = .ok (.invokevirtual 173, 3) := by decide +kernel
theorem dX11_street_59 : decode cX11_street 59 = .ok (.ireturn, 1) := by decide +kernel
theorem dX11_street_60 : decode cX11_street 60 = .ok (.aload_n 0, 1) := by decide +kernel
theorem dX11_street_61 : decode cX11_street 61 = .ok (.invokevirtual 216, 3) := by decide +kernel
theorem dX11_street_64 : decode cX11_street 64 = .ok (.ireturn, 1) := by decide +kernel
theorem dX11_street_65 : decode cX11_street 65 = .ok (.bipush (-2), 2) := by decide +kernel
theorem dX11_street_67 : decode cX11_street 67 = .ok (.ireturn, 1) := by decide +kernel
def f_X11_street (S : e_S) (l0 : Nat) (l1 : Int32) (g : e_G) : Option (Int32 × e_G) :=
  if e_ob S 11 l0 = true then
    if l1 = 0 then
      (f_X11_metTwos S l0 g).bind fun q3 =>
      some (q3.1, q3.2)
    else
    if l1 = 1 then
      (f_X11_crossing S l0 g).bind fun q6 =>
      some (q6.1, q6.2)
    else
    if l1 = 2 then
      (f_X11_mostLooked S l0 g).bind fun q9 =>
      some (q9.1, q9.2)
    else
    if l1 = 3 then
      (f_X11_mostLooked S l0 g).bind fun q12 =>
      (f_X11_lookersOf S l0 q12.1 q12.2).bind fun q14 =>
      some (q14.1, q14.2)
    else
    if l1 = 4 then
      (f_X11_unseen S l0 g).bind fun q17 =>
      some (q17.1, q17.2)
    else
    some ((-2 : Int32), g)
  else none
theorem o_X11_street  {S : e_S} {w : Int32} {k : e_G} {l0 : Nat} {l1 : Int32} {g : e_G} (hf : f_X11_street S l0 l1 g = some (w, k)) : e_ob S 11 l0 = true := by
  unfold f_X11_street at hf
  by_cases hc : e_ob S 11 l0 = true
  · exact hc
  · rw [if_neg hc] at hf
    cases hf
theorem c_X11_street {l : Launch} {D : va_G}  {S : e_S} {w : Int32} {k : e_G} {l0 : Nat} {l1 : Int32} {g : e_G} (hf : f_X11_street S l0 l1 g = some (w, k)) : CT l D (e_R 4) M_X11_street [.ref l0, .int l1] (S, g) (some (.int w)) (S, k) := by
  refine CT.of (by decide +kernel) (Nat.le_of_ble_eq_true rfl) ?_
  have ho := o_X11_street hf
  unfold f_X11_street at hf
  rw [if_pos ho] at hf
  show X l D (e_R 4) M_X11_street 0 0 0 [(0, .ref l0), (1, .int l1)] [] (S, g) (some (.int w)) (S, k)
  refine X.iload_n dX11_street_0 rfl (j := 1) rfl ?_
  by_cases h1 : l1 = (0 : Int32)
  · rw [if_pos h1] at hf
    refine X.tableIn dX11_street_1 (by rw [h1]; decide) (by rw [h1]; decide) (off := 35) (tgt := 36) (by rw [h1]; rfl) rfl ?_
    refine X.aload_n dX11_street_36 rfl (j := 0) rfl ?_
    obtain ⟨q3, h2, hf⟩ := ob hf
    refine Y.callV (av := []) (ci := 11) dX11_street_37 (c_X11_metTwos (l := l) (D := D) (w := q3.1) (k := q3.2) h2) cw_X11_207 (by decide) rfl mk_X11_metTwos (o_X11_metTwos (w := q3.1) (k := q3.2) h2) (e_R_ok (Nat.le_of_ble_eq_true rfl) (Nat.le_of_ble_eq_true rfl)) ⟨rfl, rfl⟩ (by simp [Value.category]) ?_
    obtain ⟨e1, e2⟩ := e_ret hf
    subst e1
    subst e2
    exact X.iret dX11_street_40 rfl rfl
  rw [if_neg h1] at hf
  by_cases h4 : l1 = (1 : Int32)
  · rw [if_pos h4] at hf
    refine X.tableIn dX11_street_1 (by rw [h4]; decide) (by rw [h4]; decide) (off := 40) (tgt := 41) (by rw [h4]; rfl) rfl ?_
    refine X.aload_n dX11_street_41 rfl (j := 0) rfl ?_
    obtain ⟨q6, h5, hf⟩ := ob hf
    refine Y.callV (av := []) (ci := 11) dX11_street_42 (c_X11_crossing (l := l) (D := D) (w := q6.1) (k := q6.2) h5) cw_X11_210 (by decide) rfl mk_X11_crossing (o_X11_crossing (w := q6.1) (k := q6.2) h5) (e_R_ok (Nat.le_of_ble_eq_true rfl) (Nat.le_of_ble_eq_true rfl)) ⟨rfl, rfl⟩ (by simp [Value.category]) ?_
    obtain ⟨e1, e2⟩ := e_ret hf
    subst e1
    subst e2
    exact X.iret dX11_street_45 rfl rfl
  rw [if_neg h4] at hf
  by_cases h7 : l1 = (2 : Int32)
  · rw [if_pos h7] at hf
    refine X.tableIn dX11_street_1 (by rw [h7]; decide) (by rw [h7]; decide) (off := 45) (tgt := 46) (by rw [h7]; rfl) rfl ?_
    refine X.aload_n dX11_street_46 rfl (j := 0) rfl ?_
    obtain ⟨q9, h8, hf⟩ := ob hf
    refine Y.callV (av := []) (ci := 11) dX11_street_47 (c_X11_mostLooked (l := l) (D := D) (w := q9.1) (k := q9.2) h8) cw_X11_213 (by decide) rfl mk_X11_mostLooked (o_X11_mostLooked (w := q9.1) (k := q9.2) h8) (e_R_ok (Nat.le_of_ble_eq_true rfl) (Nat.le_of_ble_eq_true rfl)) ⟨rfl, rfl⟩ (by simp [Value.category]) ?_
    obtain ⟨e1, e2⟩ := e_ret hf
    subst e1
    subst e2
    exact X.iret dX11_street_50 rfl rfl
  rw [if_neg h7] at hf
  by_cases h10 : l1 = (3 : Int32)
  · rw [if_pos h10] at hf
    refine X.tableIn dX11_street_1 (by rw [h10]; decide) (by rw [h10]; decide) (off := 50) (tgt := 51) (by rw [h10]; rfl) rfl ?_
    refine X.aload_n dX11_street_51 rfl (j := 0) rfl ?_
    refine X.aload_n dX11_street_52 rfl (j := 0) rfl ?_
    obtain ⟨q12, h11, hf⟩ := ob hf
    refine Y.callV (av := []) (ci := 11) dX11_street_53 (c_X11_mostLooked (l := l) (D := D) (w := q12.1) (k := q12.2) h11) cw_X11_213 (by decide) rfl mk_X11_mostLooked (o_X11_mostLooked (w := q12.1) (k := q12.2) h11) (e_R_ok (Nat.le_of_ble_eq_true rfl) (Nat.le_of_ble_eq_true rfl)) ⟨rfl, rfl⟩ (by simp [Value.category]) ?_
    obtain ⟨q14, h13, hf⟩ := ob hf
    refine Y.callV (av := [.int q12.1]) (ci := 11) dX11_street_56 (c_X11_lookersOf (l := l) (D := D) (w := q14.1) (k := q14.2) h13) cw_X11_173 (by decide) rfl mk_X11_lookersOf (o_X11_lookersOf (w := q14.1) (k := q14.2) h13) (e_R_ok (Nat.le_of_ble_eq_true rfl) (Nat.le_of_ble_eq_true rfl)) ⟨rfl, rfl⟩ (by simp [Value.category]) ?_
    obtain ⟨e1, e2⟩ := e_ret hf
    subst e1
    subst e2
    exact X.iret dX11_street_59 rfl rfl
  rw [if_neg h10] at hf
  by_cases h15 : l1 = (4 : Int32)
  · rw [if_pos h15] at hf
    refine X.tableIn dX11_street_1 (by rw [h15]; decide) (by rw [h15]; decide) (off := 59) (tgt := 60) (by rw [h15]; rfl) rfl ?_
    refine X.aload_n dX11_street_60 rfl (j := 0) rfl ?_
    obtain ⟨q17, h16, hf⟩ := ob hf
    refine Y.callV (av := []) (ci := 11) dX11_street_61 (c_X11_unseen (l := l) (D := D) (w := q17.1) (k := q17.2) h16) cw_X11_216 (by decide) rfl mk_X11_unseen (o_X11_unseen (w := q17.1) (k := q17.2) h16) (e_R_ok (Nat.le_of_ble_eq_true rfl) (Nat.le_of_ble_eq_true rfl)) ⟨rfl, rfl⟩ (by simp [Value.category]) ?_
    obtain ⟨e1, e2⟩ := e_ret hf
    subst e1
    subst e2
    exact X.iret dX11_street_64 rfl rfl
  rw [if_neg h15] at hf
  refine X.tableOut dX11_street_1 (tgt := 65) (by have qh1 := e_ne (z := 0) (by decide) h1; have qh4 := e_ne (z := 1) (by decide) h4; have qh7 := e_ne (z := 2) (by decide) h7; have qh10 := e_ne (z := 3) (by decide) h10; have qh15 := e_ne (z := 4) (by decide) h15; omega) rfl ?_
  refine X.bipush dX11_street_65 kB_m2 ?_
  obtain ⟨e1, e2⟩ := e_ret hf
  subst e1
  subst e2
  exact X.iret dX11_street_67 rfl rfl
/-! LeanedOutModel.chain(I)I -/
abbrev M_X11_chain : e_M := (yX11_chain, cX11_chain, 4, (some .int))
theorem mk_X11_chain : e_Mok M_X11_chain 1 := ⟨by decide +kernel, by decide +kernel, by decide +kernel⟩
theorem dX11_chain_0 : decode cX11_chain 0 = .ok (.aload_n 0, 1) := by decide +kernel
theorem dX11_chain_1 : decode cX11_chain 1 = .ok (.iload_n 1, 1) := by decide +kernel
theorem dX11_chain_2 : decode cX11_chain 2 = .ok (.invokevirtual 179, 3) := by decide +kernel
theorem dX11_chain_5 : decode cX11_chain 5 = .ok (.ifCond .ne 6, 3) := by decide +kernel
theorem dX11_chain_8 : decode cX11_chain 8 = .ok (.bipush (-5), 2) := by decide +kernel
theorem dX11_chain_10 : decode cX11_chain 10 = .ok (.ireturn, 1) := by decide +kernel
theorem dX11_chain_11 : decode cX11_chain 11 = .ok (.iconst 0, 1) := by decide +kernel
theorem dX11_chain_12 : decode cX11_chain 12 = .ok (.istore_n 2, 1) := by decide +kernel
theorem dX11_chain_13 : decode cX11_chain 13 = .ok (.iload_n 1, 1) := by decide +kernel
theorem dX11_chain_14 : decode cX11_chain 14 = .ok (.istore_n 3, 1) := by decide +kernel
theorem dX11_chain_15 : decode cX11_chain 15 = .ok (.iload_n 3, 1) := by decide +kernel
theorem dX11_chain_16 : decode cX11_chain 16 = .ok (.iconst (-1), 1) := by decide +kernel
theorem dX11_chain_17 : decode cX11_chain 17 = .ok (.if_icmp .eq 35, 3) := by decide +kernel
theorem dX11_chain_20 : decode cX11_chain 20 = .ok (.iload_n 2, 1) := by decide +kernel
theorem dX11_chain_21 : decode cX11_chain 21 = .ok (.iload_n 3, 1) := by decide +kernel
theorem dX11_chain_22 : decode cX11_chain 22 = .ok (.ishr, 1) := by decide +kernel
theorem dX11_chain_23 : decode cX11_chain 23 = .ok (.iconst 1, 1) := by decide +kernel
theorem dX11_chain_24 : decode cX11_chain 24 = .ok (.iand, 1) := by decide +kernel
theorem dX11_chain_25 : decode cX11_chain 25 = .ok (.ifCond .ne 27, 3) := by decide +kernel
theorem dX11_chain_28 : decode cX11_chain 28 = .ok (.iload_n 2, 1) := by decide +kernel
theorem dX11_chain_29 : decode cX11_chain 29 = .ok (.iconst 1, 1) := by decide +kernel
theorem dX11_chain_30 : decode cX11_chain 30 = .ok (.iload_n 3, 1) := by decide +kernel
theorem dX11_chain_31 : decode cX11_chain 31 = .ok (.ishl, 1) := by decide +kernel
theorem dX11_chain_32 : decode cX11_chain 32 = .ok (.ior, 1) := by decide +kernel
theorem dX11_chain_33 : decode cX11_chain 33 = .ok (.istore_n 2, 1) := by decide +kernel
theorem dX11_chain_34 : decode cX11_chain 34 = .ok (.aload_n 0, 1) := by decide +kernel
theorem dX11_chain_35 : decode cX11_chain 35 = .ok (.aload_n 0, 1) := by decide +kernel
theorem dX11_chain_36 : decode cX11_chain 36 = .ok (.getfield 16, 3) := by decide +kernel
theorem dX11_chain_39 : decode cX11_chain 39 = .ok (.iconst 4, 1) := by decide +kernel
theorem dX11_chain_40 : decode cX11_chain 40 = .ok (.iload_n 3, 1) := by decide +kernel
theorem dX11_chain_41 : decode cX11_chain 41 = .ok (.imul, 1) := by decide +kernel
theorem dX11_chain_42 : decode cX11_chain 42 = .ok (.iconst 1, 1) := by decide +kernel
theorem dX11_chain_43 : decode cX11_chain 43 = .ok (.iadd, 1) := by decide +kernel
theorem dX11_chain_44 : decode cX11_chain 44 = .ok (.iaload, 1) := by decide +kernel
theorem dX11_chain_45 : decode cX11_chain 45 = .ok (.invokevirtual 164, 3) := by decide +kernel
theorem dX11_chain_48 : decode cX11_chain 48 = .ok (.istore_n 3, 1) := by decide +kernel
theorem dX11_chain_49 : decode cX11_chain 49 = .ok (.goto (-34), 3) := by decide +kernel
theorem dX11_chain_52 : decode cX11_chain 52 = .ok (.iload_n 2, 1) := by decide +kernel
theorem dX11_chain_53 : decode cX11_chain 53 = .ok (.ireturn, 1) := by decide +kernel
def L_X11_chain_15 : Nat → e_S → Nat → Int32 → Int32 → e_G → Option (Int32 × e_G)
  | 0, _, _, _, _, _ => none
  | n + 1, S, l0, l2, l3, g =>
  if l3 = (-1 : Int32) then
    some (l2, g)
  else
    if ((l2 >>> (l3 &&& 31)) &&& (1 : Int32)) = 0 then
      (e_gR S g 11 l0 3).bind fun v1 =>
      (e_aI S g 0 v1 (((4 : Int32) * l3) + (1 : Int32))).bind fun v3 =>
      (f_X11_whoAt S l0 v3 g).bind fun q6 =>
      L_X11_chain_15 n S l0 (l2 ||| ((1 : Int32) <<< (l3 &&& 31))) q6.1 q6.2
    else
      some (l2, g)
def f_X11_chain (S : e_S) (l0 : Nat) (l1 : Int32) (g : e_G) : Option (Int32 × e_G) :=
  if e_ob S 11 l0 = true then
    (f_X11_isOne S l0 l1 g).bind fun q2 =>
    if q2.1 = 0 then
      some ((-5 : Int32), q2.2)
    else
      L_X11_chain_15 50000 S l0 (0 : Int32) l1 q2.2
  else none
theorem x_L_X11_chain_15 {l : Launch} {D : va_G} {S : e_S} {w : Int32} {k : e_G} : ∀ (n : Nat) (l0 : Nat) (l2 : Int32) (l3 : Int32) (g : e_G), L_X11_chain_15 n S l0 l2 l3 g = some (w, k) → X l D (e_R 3) M_X11_chain 0 0 15 [(0, .ref l0), (2, .int l2), (3, .int l3)] [] (S, g) (some (.int w)) (S, k) := by
  intro n
  induction n with
  | zero =>
    intro l0 l2 l3 g hf
    cases hf
  | succ n ih =>
    intro l0 l2 l3 g hf
    rw [L_X11_chain_15] at hf
    refine X.iload_n dX11_chain_15 rfl (j := 2) rfl ?_
    refine X.iconst dX11_chain_16 kI_m1 ?_
    refine X.icmp_eq dX11_chain_17 (tgt := 52) rfl (fun hc => ?_) (fun hc => ?_)
    · rw [if_pos hc] at hf
      refine X.iload_n dX11_chain_52 rfl (j := 1) rfl ?_
      obtain ⟨e1, e2⟩ := e_ret hf
      subst e1
      subst e2
      exact X.iret dX11_chain_53 rfl rfl
    · rw [if_neg hc] at hf
      refine X.iload_n dX11_chain_20 rfl (j := 1) rfl ?_
      refine X.iload_n dX11_chain_21 rfl (j := 2) rfl ?_
      refine X.ishr dX11_chain_22 ?_
      refine X.iconst dX11_chain_23 kI_1 ?_
      refine X.iand dX11_chain_24 ?_
      refine X.if_ne dX11_chain_25 (tgt := 52) rfl (fun hc => ?_) (fun hc => ?_)
      · rw [if_neg hc] at hf
        refine X.iload_n dX11_chain_52 rfl (j := 1) rfl ?_
        obtain ⟨e1, e2⟩ := e_ret hf
        subst e1
        subst e2
        exact X.iret dX11_chain_53 rfl rfl
      · rw [if_pos hc] at hf
        refine X.iload_n dX11_chain_28 rfl (j := 1) rfl ?_
        refine X.iconst dX11_chain_29 kI_1 ?_
        refine X.iload_n dX11_chain_30 rfl (j := 2) rfl ?_
        refine X.ishl dX11_chain_31 ?_
        refine X.ior dX11_chain_32 ?_
        refine X.istore_n dX11_chain_33 rfl (Nat.le_of_ble_eq_true rfl) (lc' := [(2, .int (l2 ||| ((1 : Int32) <<< (l3 &&& 31)))), (0, .ref l0), (3, .int l3)]) rfl ?_
        refine X.aload_n dX11_chain_34 rfl (j := 1) rfl ?_
        refine X.aload_n dX11_chain_35 rfl (j := 1) rfl ?_
        obtain ⟨v1, h2, hf⟩ := ob hf
        refine Y.getR dX11_chain_36 fl_X11_16 rfl h2 ?_
        refine X.iconst dX11_chain_39 kI_4 ?_
        refine X.iload_n dX11_chain_40 rfl (j := 2) rfl ?_
        refine X.imul dX11_chain_41 ?_
        refine X.iconst dX11_chain_42 kI_1 ?_
        refine X.iadd dX11_chain_43 ?_
        obtain ⟨v3, h4, hf⟩ := ob hf
        refine Y.iald dX11_chain_44 h4 ?_
        obtain ⟨q6, h5, hf⟩ := ob hf
        refine Y.callV (av := [.int v3]) (ci := 11) dX11_chain_45 (c_X11_whoAt (l := l) (D := D) (w := q6.1) (k := q6.2) h5) cw_X11_164 (by decide) rfl mk_X11_whoAt (o_X11_whoAt (w := q6.1) (k := q6.2) h5) (e_R_ok (Nat.le_of_ble_eq_true rfl) (Nat.le_of_ble_eq_true rfl)) ⟨rfl, rfl⟩ (by simp [Value.category]) ?_
        refine X.istore_n dX11_chain_48 rfl (Nat.le_of_ble_eq_true rfl) (lc' := [(3, .int q6.1), (2, .int (l2 ||| ((1 : Int32) <<< (l3 &&& 31)))), (0, .ref l0)]) rfl ?_
        refine X.goto dX11_chain_49 (tgt := 15) rfl ?_
        refine X.sub [2, 1, 0] rfl ?_
        exact ih _ _ _ _ hf
theorem o_X11_chain  {S : e_S} {w : Int32} {k : e_G} {l0 : Nat} {l1 : Int32} {g : e_G} (hf : f_X11_chain S l0 l1 g = some (w, k)) : e_ob S 11 l0 = true := by
  unfold f_X11_chain at hf
  by_cases hc : e_ob S 11 l0 = true
  · exact hc
  · rw [if_neg hc] at hf
    cases hf
theorem c_X11_chain {l : Launch} {D : va_G}  {S : e_S} {w : Int32} {k : e_G} {l0 : Nat} {l1 : Int32} {g : e_G} (hf : f_X11_chain S l0 l1 g = some (w, k)) : CT l D (e_R 3) M_X11_chain [.ref l0, .int l1] (S, g) (some (.int w)) (S, k) := by
  refine CT.of (by decide +kernel) (Nat.le_of_ble_eq_true rfl) ?_
  have ho := o_X11_chain hf
  unfold f_X11_chain at hf
  rw [if_pos ho] at hf
  show X l D (e_R 3) M_X11_chain 0 0 0 [(0, .ref l0), (1, .int l1)] [] (S, g) (some (.int w)) (S, k)
  refine X.aload_n dX11_chain_0 rfl (j := 0) rfl ?_
  refine X.iload_n dX11_chain_1 rfl (j := 1) rfl ?_
  obtain ⟨q2, h1, hf⟩ := ob hf
  refine Y.callV (av := [.int l1]) (ci := 11) dX11_chain_2 (c_X11_isOne (l := l) (D := D) (w := q2.1) (k := q2.2) h1) cw_X11_179 (by decide) rfl mk_X11_isOne (o_X11_isOne (w := q2.1) (k := q2.2) h1) (e_R_ok (Nat.le_of_ble_eq_true rfl) (Nat.le_of_ble_eq_true rfl)) ⟨rfl, rfl⟩ (by simp [Value.category]) ?_
  refine X.if_ne dX11_chain_5 (tgt := 11) rfl (fun hc => ?_) (fun hc => ?_)
  · rw [if_neg hc] at hf
    refine X.iconst dX11_chain_11 kI_0 ?_
    refine X.istore_n dX11_chain_12 rfl (Nat.le_of_ble_eq_true rfl) (lc' := [(2, .int (0 : Int32)), (0, .ref l0), (1, .int l1)]) rfl ?_
    refine X.iload_n dX11_chain_13 rfl (j := 2) rfl ?_
    refine X.istore_n dX11_chain_14 rfl (Nat.le_of_ble_eq_true rfl) (lc' := [(3, .int l1), (2, .int (0 : Int32)), (0, .ref l0), (1, .int l1)]) rfl ?_
    refine X.sub [2, 1, 0] rfl ?_
    exact x_L_X11_chain_15 50000 _ _ _ _ hf
  · rw [if_pos hc] at hf
    refine X.bipush dX11_chain_8 kB_m5 ?_
    obtain ⟨e1, e2⟩ := e_ret hf
    subst e1
    subst e2
    exact X.iret dX11_chain_10 rfl rfl
