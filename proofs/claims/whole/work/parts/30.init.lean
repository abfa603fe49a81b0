
theorem ww_97 : Cond.methodLink RX10 1 Lib.objectInit ∈ e_big := bw (i := 97) (by decide +kernel) rfl
theorem ww_98 : Cond.instanceMethod Lib.objectInit ∈ e_big := bw (i := 98) (by decide +kernel) rfl
theorem ww_obj : Cond.code Lib.objectInit ⟨#[0xb1]⟩ 1 none ∈ e_big := bw (i := 99) (by decide +kernel) rfl
theorem ww_100 : Cond.classLink RX10 9 RX9 ∈ e_big := bw (i := 100) (by decide +kernel) rfl
theorem ww_102 : Cond.classLink RX10 15 RX6 ∈ e_big := bw (i := 102) (by decide +kernel) rfl
theorem ww_104 : Cond.classLink RX10 21 RX5 ∈ e_big := bw (i := 104) (by decide +kernel) rfl
theorem ww_105 : Cond.instantiable RX5 8 ∈ e_big := bw (i := 105) (by decide +kernel) rfl
theorem ww_109 : Cond.methodLink RX5 3 Lib.objectInit ∈ e_big := bw (i := 109) (by decide +kernel) rfl
theorem ww_106 : Cond.methodLink RX10 23 yX5_init ∈ e_big := bw (i := 106) (by decide +kernel) rfl
theorem ww_107 : Cond.instanceMethod yX5_init ∈ e_big := bw (i := 107) (by decide +kernel) rfl
theorem ww_108 : Cond.code yX5_init cX5_init 1 none ∈ e_big := bw (i := 108) (by decide +kernel) rfl
theorem cw_X10_23 : ∀ w ∈ ([.methodLink RX10 23 yX5_init, .instanceMethod yX5_init, .initialized RX5, Cond.code yX5_init cX5_init 1 none] : List Cond), w ∈ e_big := e_all4 ww_106 ww_107 ww_74 ww_108
theorem ww_156 : Cond.arrayClass .int ∈ e_big := bw (i := 156) (by decide +kernel) rfl
theorem ww_135 : Cond.instantiable RX9 5 ∈ e_big := bw (i := 135) (by decide +kernel) rfl
theorem ww_139 : Cond.methodLink RX9 3 Lib.objectInit ∈ e_big := bw (i := 139) (by decide +kernel) rfl
theorem ww_136 : Cond.methodLink RX10 38 yX9_init ∈ e_big := bw (i := 136) (by decide +kernel) rfl
theorem ww_137 : Cond.instanceMethod yX9_init ∈ e_big := bw (i := 137) (by decide +kernel) rfl
theorem ww_138 : Cond.code yX9_init cX9_init 1 none ∈ e_big := bw (i := 138) (by decide +kernel) rfl
theorem cw_X10_38 : ∀ w ∈ ([.methodLink RX10 38 yX9_init, .instanceMethod yX9_init, .initialized RX9, Cond.code yX9_init cX9_init 1 none] : List Cond), w ∈ e_big := e_all4 ww_136 ww_137 ww_75 ww_138
theorem ww_157 : Cond.instantiable RX6 3 ∈ e_big := bw (i := 157) (by decide +kernel) rfl
theorem ww_161 : Cond.methodLink RX6 3 Lib.objectInit ∈ e_big := bw (i := 161) (by decide +kernel) rfl
theorem ww_158 : Cond.methodLink RX10 39 yX6_init ∈ e_big := bw (i := 158) (by decide +kernel) rfl
theorem ww_159 : Cond.instanceMethod yX6_init ∈ e_big := bw (i := 159) (by decide +kernel) rfl
theorem ww_160 : Cond.code yX6_init cX6_init 1 none ∈ e_big := bw (i := 160) (by decide +kernel) rfl
theorem cw_X10_39 : ∀ w ∈ ([.methodLink RX10 39 yX6_init, .instanceMethod yX6_init, .initialized RX6, Cond.code yX6_init cX6_init 1 none] : List Cond), w ∈ e_big := e_all4 ww_158 ww_159 ww_76 ww_160
theorem ww_175 : Cond.classLink RX10 40 RX3 ∈ e_big := bw (i := 175) (by decide +kernel) rfl
theorem ww_177 : Cond.instantiable RX3 0 ∈ e_big := bw (i := 177) (by decide +kernel) rfl
theorem ww_181 : Cond.methodLink RX3 1 Lib.objectInit ∈ e_big := bw (i := 181) (by decide +kernel) rfl
theorem ww_178 : Cond.methodLink RX10 42 yX3_init ∈ e_big := bw (i := 178) (by decide +kernel) rfl
theorem ww_179 : Cond.instanceMethod yX3_init ∈ e_big := bw (i := 179) (by decide +kernel) rfl
theorem ww_180 : Cond.code yX3_init cX3_init 1 none ∈ e_big := bw (i := 180) (by decide +kernel) rfl
theorem cw_X10_42 : ∀ w ∈ ([.methodLink RX10 42 yX3_init, .instanceMethod yX3_init, .initialized RX3, Cond.code yX3_init cX3_init 1 none] : List Cond), w ∈ e_big := e_all4 ww_178 ww_179 ww_77 ww_180
theorem ww_184 : Cond.instantiable RX2 0 ∈ e_big := bw (i := 184) (by decide +kernel) rfl
theorem ww_188 : Cond.methodLink RX2 1 yX3_init ∈ e_big := bw (i := 188) (by decide +kernel) rfl
theorem cw_X2_1 : ∀ w ∈ ([.methodLink RX2 1 yX3_init, .instanceMethod yX3_init, .initialized RX3, Cond.code yX3_init cX3_init 1 none] : List Cond), w ∈ e_big := e_all4 ww_188 ww_179 ww_77 ww_180
theorem ww_185 : Cond.methodLink RX10 45 yX2_init ∈ e_big := bw (i := 185) (by decide +kernel) rfl
theorem ww_186 : Cond.instanceMethod yX2_init ∈ e_big := bw (i := 186) (by decide +kernel) rfl
theorem ww_187 : Cond.code yX2_init cX2_init 1 none ∈ e_big := bw (i := 187) (by decide +kernel) rfl
theorem cw_X10_45 : ∀ w ∈ ([.methodLink RX10 45 yX2_init, .instanceMethod yX2_init, .initialized RX2, Cond.code yX2_init cX2_init 1 none] : List Cond), w ∈ e_big := e_all4 ww_185 ww_186 ww_78 ww_187
theorem ww_191 : Cond.instantiable RX8 0 ∈ e_big := bw (i := 191) (by decide +kernel) rfl
theorem ww_195 : Cond.methodLink RX8 1 yX3_init ∈ e_big := bw (i := 195) (by decide +kernel) rfl
theorem cw_X8_1 : ∀ w ∈ ([.methodLink RX8 1 yX3_init, .instanceMethod yX3_init, .initialized RX3, Cond.code yX3_init cX3_init 1 none] : List Cond), w ∈ e_big := e_all4 ww_195 ww_179 ww_77 ww_180
theorem ww_192 : Cond.methodLink RX10 48 yX8_init ∈ e_big := bw (i := 192) (by decide +kernel) rfl
theorem ww_193 : Cond.instanceMethod yX8_init ∈ e_big := bw (i := 193) (by decide +kernel) rfl
theorem ww_194 : Cond.code yX8_init cX8_init 1 none ∈ e_big := bw (i := 194) (by decide +kernel) rfl
theorem cw_X10_48 : ∀ w ∈ ([.methodLink RX10 48 yX8_init, .instanceMethod yX8_init, .initialized RX8, Cond.code yX8_init cX8_init 1 none] : List Cond), w ∈ e_big := e_all4 ww_192 ww_193 ww_79 ww_194
theorem ww_198 : Cond.instantiable RX0 0 ∈ e_big := bw (i := 198) (by decide +kernel) rfl
theorem ww_202 : Cond.methodLink RX0 1 yX2_init ∈ e_big := bw (i := 202) (by decide +kernel) rfl
theorem cw_X0_1 : ∀ w ∈ ([.methodLink RX0 1 yX2_init, .instanceMethod yX2_init, .initialized RX2, Cond.code yX2_init cX2_init 1 none] : List Cond), w ∈ e_big := e_all4 ww_202 ww_186 ww_78 ww_187
theorem ww_199 : Cond.methodLink RX10 51 yX0_init ∈ e_big := bw (i := 199) (by decide +kernel) rfl
theorem ww_200 : Cond.instanceMethod yX0_init ∈ e_big := bw (i := 200) (by decide +kernel) rfl
theorem ww_201 : Cond.code yX0_init cX0_init 1 none ∈ e_big := bw (i := 201) (by decide +kernel) rfl
theorem cw_X10_51 : ∀ w ∈ ([.methodLink RX10 51 yX0_init, .instanceMethod yX0_init, .initialized RX0, Cond.code yX0_init cX0_init 1 none] : List Cond), w ∈ e_big := e_all4 ww_199 ww_200 ww_80 ww_201
theorem ww_205 : Cond.instantiable RX1 0 ∈ e_big := bw (i := 205) (by decide +kernel) rfl
theorem ww_209 : Cond.methodLink RX1 1 yX8_init ∈ e_big := bw (i := 209) (by decide +kernel) rfl
theorem cw_X1_1 : ∀ w ∈ ([.methodLink RX1 1 yX8_init, .instanceMethod yX8_init, .initialized RX8, Cond.code yX8_init cX8_init 1 none] : List Cond), w ∈ e_big := e_all4 ww_209 ww_193 ww_79 ww_194
theorem ww_206 : Cond.methodLink RX10 54 yX1_init ∈ e_big := bw (i := 206) (by decide +kernel) rfl
theorem ww_207 : Cond.instanceMethod yX1_init ∈ e_big := bw (i := 207) (by decide +kernel) rfl
theorem ww_208 : Cond.code yX1_init cX1_init 1 none ∈ e_big := bw (i := 208) (by decide +kernel) rfl
theorem cw_X10_54 : ∀ w ∈ ([.methodLink RX10 54 yX1_init, .instanceMethod yX1_init, .initialized RX1, Cond.code yX1_init cX1_init 1 none] : List Cond), w ∈ e_big := e_all4 ww_206 ww_207 ww_81 ww_208
theorem ww_212 : Cond.instantiable RX4 0 ∈ e_big := bw (i := 212) (by decide +kernel) rfl
theorem ww_216 : Cond.methodLink RX4 1 yX3_init ∈ e_big := bw (i := 216) (by decide +kernel) rfl
theorem cw_X4_1 : ∀ w ∈ ([.methodLink RX4 1 yX3_init, .instanceMethod yX3_init, .initialized RX3, Cond.code yX3_init cX3_init 1 none] : List Cond), w ∈ e_big := e_all4 ww_216 ww_179 ww_77 ww_180
theorem ww_213 : Cond.methodLink RX10 57 yX4_init ∈ e_big := bw (i := 213) (by decide +kernel) rfl
theorem ww_214 : Cond.instanceMethod yX4_init ∈ e_big := bw (i := 214) (by decide +kernel) rfl
theorem ww_215 : Cond.code yX4_init cX4_init 1 none ∈ e_big := bw (i := 215) (by decide +kernel) rfl
theorem cw_X10_57 : ∀ w ∈ ([.methodLink RX10 57 yX4_init, .instanceMethod yX4_init, .initialized RX4, Cond.code yX4_init cX4_init 1 none] : List Cond), w ∈ e_big := e_all4 ww_213 ww_214 ww_82 ww_215
theorem ww_218 : Cond.classLink RX10 58 RX7 ∈ e_big := bw (i := 218) (by decide +kernel) rfl
theorem ww_219 : Cond.instantiable RX7 12 ∈ e_big := bw (i := 219) (by decide +kernel) rfl
theorem ww_223 : Cond.methodLink RX7 3 Lib.objectInit ∈ e_big := bw (i := 223) (by decide +kernel) rfl
theorem ww_270 : Cond.arrayClass .boolean ∈ e_big := bw (i := 270) (by decide +kernel) rfl
theorem ww_220 : Cond.methodLink RX10 60 yX7_init ∈ e_big := bw (i := 220) (by decide +kernel) rfl
theorem ww_221 : Cond.instanceMethod yX7_init ∈ e_big := bw (i := 221) (by decide +kernel) rfl
theorem ww_222 : Cond.code yX7_init cX7_init 3 none ∈ e_big := bw (i := 222) (by decide +kernel) rfl
theorem cw_X10_60 : ∀ w ∈ ([.methodLink RX10 60 yX7_init, .instanceMethod yX7_init, .initialized RX7, Cond.code yX7_init cX7_init 3 none] : List Cond), w ∈ e_big := e_all4 ww_220 ww_221 ww_83 ww_222
theorem ww_272 : Cond.methodLink RX10 75 yJ0_length_8abf5 ∈ e_big := bw (i := 272) (by decide +kernel) rfl
theorem cw_X10_75 : ∀ w ∈ wsV RX10 75 RJ0 yJ0_length_8abf5 [Cond.code yJ0_length_8abf5 cJ0_length_8abf5 1 (some .int)], w ∈ e_big := e_all5 ww_272 ww_273 ww_274 ww_84 ww_275
theorem ww_282 : Cond.methodLink RX10 81 yJ0_charAt_5068e ∈ e_big := bw (i := 282) (by decide +kernel) rfl
theorem cw_X10_81 : ∀ w ∈ wsV RX10 81 RJ0 yJ0_charAt_5068e [Cond.code yJ0_charAt_5068e cJ0_charAt_5068e 2 (some .char)], w ∈ e_big := e_all5 ww_282 ww_283 ww_284 ww_84 ww_285
/-! LeanedOut.<init> -/
abbrev M_X10_init : e_M := (yX10_init, cX10_init, 3, none)
theorem mk_X10_init : e_Mok M_X10_init 0 := ⟨by decide +kernel, by decide +kernel, by decide +kernel⟩
theorem dX10_init_0 : decode cX10_init 0 = .ok (.aload_n 0, 1) := by decide +kernel
theorem dX10_init_1 : decode cX10_init 1 = .ok (.invokespecial 1, 3) := by decide +kernel
theorem dX10_init_4 : decode cX10_init 4 = .ok (.aload_n 0, 1) := by decide +kernel
theorem dX10_init_5 : decode cX10_init 5 = .ok (.bipush 6, 2) := by decide +kernel
theorem dX10_init_7 : decode cX10_init 7 = .ok (.anewarray 9, 3) := by decide +kernel
theorem dX10_init_10 : decode cX10_init 10 = .ok (.putfield 11, 3) := by decide +kernel
theorem dX10_init_13 : decode cX10_init 13 = .ok (.aload_n 0, 1) := by decide +kernel
theorem dX10_init_14 : decode cX10_init 14 = .ok (.iconst 4, 1) := by decide +kernel
theorem dX10_init_15 : decode cX10_init 15 = .ok (.anewarray 15, 3) := by decide +kernel
theorem dX10_init_18 : decode cX10_init 18 = .ok (.putfield 17, 3) := by decide +kernel
theorem dX10_init_21 : decode cX10_init 21 = .ok (.aload_n 0, 1) := by decide +kernel
theorem dX10_init_22 : decode cX10_init 22 = .ok (.new 21, 3) := by decide +kernel
theorem dX10_init_25 : decode cX10_init 25 = .ok (.dup, 1) := by decide +kernel
theorem dX10_init_26 : decode cX10_init 26 = .ok (.invokespecial 23, 3) := by decide +kernel
theorem dX10_init_29 : decode cX10_init 29 = .ok (.putfield 24, 3) := by decide +kernel
theorem dX10_init_32 : decode cX10_init 32 = .ok (.aload_n 0, 1) := by decide +kernel
theorem dX10_init_33 : decode cX10_init 33 = .ok (.sipush 160, 3) := by decide +kernel
theorem dX10_init_36 : decode cX10_init 36 = .ok (.newarray .int, 2) := by decide +kernel
theorem dX10_init_38 : decode cX10_init 38 = .ok (.putfield 28, 3) := by decide +kernel
theorem dX10_init_41 : decode cX10_init 41 = .ok (.aload_n 0, 1) := by decide +kernel
theorem dX10_init_42 : decode cX10_init 42 = .ok (.bipush 6, 2) := by decide +kernel
theorem dX10_init_44 : decode cX10_init 44 = .ok (.newarray .int, 2) := by decide +kernel
theorem dX10_init_46 : decode cX10_init 46 = .ok (.putfield 32, 3) := by decide +kernel
theorem dX10_init_49 : decode cX10_init 49 = .ok (.aload_n 0, 1) := by decide +kernel
theorem dX10_init_50 : decode cX10_init 50 = .ok (.bipush 6, 2) := by decide +kernel
theorem dX10_init_52 : decode cX10_init 52 = .ok (.newarray .int, 2) := by decide +kernel
theorem dX10_init_54 : decode cX10_init 54 = .ok (.putfield 35, 3) := by decide +kernel
theorem dX10_init_57 : decode cX10_init 57 = .ok (.iconst 0, 1) := by decide +kernel
theorem dX10_init_58 : decode cX10_init 58 = .ok (.istore_n 1, 1) := by decide +kernel
theorem dX10_init_59 : decode cX10_init 59 = .ok (.iload_n 1, 1) := by decide +kernel
theorem dX10_init_60 : decode cX10_init 60 = .ok (.bipush 6, 2) := by decide +kernel
theorem dX10_init_62 : decode cX10_init 62 = .ok (.if_icmp .ge 22, 3) := by decide +kernel
theorem dX10_init_65 : decode cX10_init 65 = .ok (.aload_n 0, 1) := by decide +kernel
theorem dX10_init_66 : decode cX10_init 66 = .ok (.getfield 11, 3) := by decide +kernel
theorem dX10_init_69 : decode cX10_init 69 = .ok (.iload_n 1, 1) := by decide +kernel
theorem dX10_init_70 : decode cX10_init 70 = .ok (.new 9, 3) := by decide +kernel
theorem dX10_init_73 : decode cX10_init 73 = .ok (.dup, 1) := by decide +kernel
theorem dX10_init_74 : decode cX10_init 74 = .ok (.invokespecial 38, 3) := by decide +kernel
theorem dX10_init_77 : decode cX10_init 77 = .ok (.aastore, 1) := by decide +kernel
theorem dX10_init_78 : decode cX10_init 78 = .ok (.iinc 1 1, 3) := by decide +kernel
theorem dX10_init_81 : decode cX10_init 81 = .ok (.goto (-22), 3) := by decide +kernel
theorem dX10_init_84 : decode cX10_init 84 = .ok (.iconst 0, 1) := by decide +kernel
theorem dX10_init_85 : decode cX10_init 85 = .ok (.istore_n 1, 1) := by decide +kernel
theorem dX10_init_86 : decode cX10_init 86 = .ok (.iload_n 1, 1) := by decide +kernel
theorem dX10_init_87 : decode cX10_init 87 = .ok (.iconst 4, 1) := by decide +kernel
theorem dX10_init_88 : decode cX10_init 88 = .ok (.if_icmp .ge 22, 3) := by decide +kernel
theorem dX10_init_91 : decode cX10_init 91 = .ok (.aload_n 0, 1) := by decide +kernel
theorem dX10_init_92 : decode cX10_init 92 = .ok (.getfield 17, 3) := by decide +kernel
theorem dX10_init_95 : decode cX10_init 95 = .ok (.iload_n 1, 1) := by decide +kernel
theorem dX10_init_96 : decode cX10_init 96 = .ok (.new 15, 3) := by decide +kernel
theorem dX10_init_99 : decode cX10_init 99 = .ok (.dup, 1) := by decide +kernel
theorem dX10_init_100 : decode cX10_init 100 = .ok (.invokespecial 39, 3) := by decide +kernel
theorem dX10_init_103 : decode cX10_init 103 = .ok (.aastore, 1) := by decide +kernel
theorem dX10_init_104 : decode cX10_init 104 = .ok (.iinc 1 1, 3) := by decide +kernel
theorem dX10_init_107 : decode cX10_init 107 = .ok (.goto (-21), 3) := by decide +kernel
theorem dX10_init_110 : decode cX10_init 110 = .ok (.bipush 6, 2) := by decide +kernel
theorem dX10_init_112 : decode cX10_init 112 = .ok (.anewarray 40, 3) := by decide +kernel
theorem dX10_init_115 : decode cX10_init 115 = .ok (.dup, 1) := by decide +kernel
theorem dX10_init_116 : decode cX10_init 116 = .ok (.iconst 0, 1) := by decide +kernel
theorem dX10_init_117 : decode cX10_init 117 = .ok (.new 40, 3) := by decide +kernel
theorem dX10_init_120 : decode cX10_init 120 = .ok (.dup, 1) := by decide +kernel
theorem dX10_init_121 : decode cX10_init 121 = .ok (.invokespecial 42, 3) := by decide +kernel
theorem dX10_init_124 : decode cX10_init 124 = .ok (.aastore, 1) := by decide +kernel
theorem dX10_init_125 : decode cX10_init 125 = .ok (.dup, 1) := by decide +kernel
theorem dX10_init_126 : decode cX10_init 126 = .ok (.iconst 1, 1) := by decide +kernel
theorem dX10_init_127 : decode cX10_init 127 = .ok (.new 43, 3) := by decide +kernel
theorem dX10_init_130 : decode cX10_init 130 = .ok (.dup, 1) := by decide +kernel
theorem dX10_init_131 : decode cX10_init 131 = .ok (.invokespecial 45, 3) := by decide +kernel
theorem dX10_init_134 : decode cX10_init 134 = .ok (.aastore, 1) := by decide +kernel
theorem dX10_init_135 : decode cX10_init 135 = .ok (.dup, 1) := by decide +kernel
theorem dX10_init_136 : decode cX10_init 136 = .ok (.iconst 2, 1) := by decide +kernel
theorem dX10_init_137 : decode cX10_init 137 = .ok (.new 46, 3) := by decide +kernel
theorem dX10_init_140 : decode cX10_init 140 = .ok (.dup, 1) := by decide +kernel
theorem dX10_init_141 : decode cX10_init 141 = .ok (.invokespecial 48, 3) := by decide +kernel
theorem dX10_init_144 : decode cX10_init 144 = .ok (.aastore, 1) := by decide +kernel
theorem dX10_init_145 : decode cX10_init 145 = .ok (.dup, 1) := by decide +kernel
theorem dX10_init_146 : decode cX10_init 146 = .ok (.iconst 3, 1) := by decide +kernel
theorem dX10_init_147 : decode cX10_init 147 = .ok (.new 49, 3) := by decide +kernel
theorem dX10_init_150 : decode cX10_init 150 = .ok (.dup, 1) := by decide +kernel
theorem dX10_init_151 : decode cX10_init 151 = .ok (.invokespecial 51, 3) := by decide +kernel
theorem dX10_init_154 : decode cX10_init 154 = .ok (.aastore, 1) := by decide +kernel
theorem dX10_init_155 : decode cX10_init 155 = .ok (.dup, 1) := by decide +kernel
theorem dX10_init_156 : decode cX10_init 156 = .ok (.iconst 4, 1) := by decide +kernel
theorem dX10_init_157 : decode cX10_init 157 = .ok (.new 52, 3) := by decide +kernel
theorem dX10_init_160 : decode cX10_init 160 = .ok (.dup, 1) := by decide +kernel
theorem dX10_init_161 : decode cX10_init 161 = .ok (.invokespecial 54, 3) := by decide +kernel
theorem dX10_init_164 : decode cX10_init 164 = .ok (.aastore, 1) := by decide +kernel
theorem dX10_init_165 : decode cX10_init 165 = .ok (.dup, 1) := by decide +kernel
theorem dX10_init_166 : decode cX10_init 166 = .ok (.iconst 5, 1) := by decide +kernel
theorem dX10_init_167 : decode cX10_init 167 = .ok (.new 55, 3) := by decide +kernel
theorem dX10_init_170 : decode cX10_init 170 = .ok (.dup, 1) := by decide +kernel
theorem dX10_init_171 : decode cX10_init 171 = .ok (.invokespecial 57, 3) := by decide +kernel
theorem dX10_init_174 : decode cX10_init 174 = .ok (.aastore, 1) := by decide +kernel
theorem dX10_init_175 : decode cX10_init 175 = .ok (.astore_n 1, 1) := by decide +kernel
theorem dX10_init_176 : decode cX10_init 176 = .ok (.aload_n 0, 1) := by decide +kernel
theorem dX10_init_177 : decode cX10_init 177 = .ok (.new 58, 3) := by decide +kernel
theorem dX10_init_180 : decode cX10_init 180 = .ok (.dup, 1) := by decide +kernel
theorem dX10_init_181 : decode cX10_init 181 = .ok (.aload_n 1, 1) := by decide +kernel
theorem dX10_init_182 : decode cX10_init 182 = .ok (.aload_n 0, 1) := by decide +kernel
theorem dX10_init_183 : decode cX10_init 183 = .ok (.getfield 11, 3) := by decide +kernel
theorem dX10_init_186 : decode cX10_init 186 = .ok (.invokespecial 60, 3) := by decide +kernel
theorem dX10_init_189 : decode cX10_init 189 = .ok (.putfield 63, 3) := by decide +kernel
theorem dX10_init_192 : decode cX10_init 192 = .ok (.aload_n 0, 1) := by decide +kernel
theorem dX10_init_193 : decode cX10_init 193 = .ok (.new 58, 3) := by decide +kernel
theorem dX10_init_196 : decode cX10_init 196 = .ok (.dup, 1) := by decide +kernel
theorem dX10_init_197 : decode cX10_init 197 = .ok (.aload_n 1, 1) := by decide +kernel
theorem dX10_init_198 : decode cX10_init 198 = .ok (.aload_n 0, 1) := by decide +kernel
theorem dX10_init_199 : decode cX10_init 199 = .ok (.getfield 11, 3) := by decide +kernel
theorem dX10_init_202 : decode cX10_init 202 = .ok (.invokespecial 60, 3) := by decide +kernel
theorem dX10_init_205 : decode cX10_init 205 = .ok (.putfield 67, 3) := by decide +kernel
theorem dX10_init_208 : decode cX10_init 208 = .ok (.aload_n 0, 1) := by decide +kernel
theorem dX10_init_209 : decode cX10_init 209 = .ok (.new 58, 3) := by decide +kernel
theorem dX10_init_212 : decode cX10_init 212 = .ok (.dup, 1) := by decide +kernel
theorem dX10_init_213 : decode cX10_init 213 = .ok (.aload_n 1, 1) := by decide +kernel
theorem dX10_init_214 : decode cX10_init 214 = .ok (.aload_n 0, 1) := by decide +kernel
theorem dX10_init_215 : decode cX10_init 215 = .ok (.getfield 11, 3) := by decide +kernel
theorem dX10_init_218 : decode cX10_init 218 = .ok (.invokespecial 60, 3) := by decide +kernel
theorem dX10_init_221 : decode cX10_init 221 = .ok (.putfield 70, 3) := by decide +kernel
theorem dX10_init_224 : decode cX10_init 224 = .ok (.iconst 0, 1) := by decide +kernel
theorem dX10_init_225 : decode cX10_init 225 = .ok (.istore_n 2, 1) := by decide +kernel
theorem dX10_init_226 : decode cX10_init 226 = .ok (.iload_n 2, 1) := by decide +kernel
theorem dX10_init_227 : decode cX10_init 227 = .ok (.ldc 73, 2) := by decide +kernel
theorem dX10_init_229 : decode cX10_init 229 = .ok (.invokevirtual 75, 3) := by decide +kernel
theorem dX10_init_232 : decode cX10_init 232 = .ok (.if_icmp .ge 28, 3) := by decide +kernel
theorem dX10_init_235 : decode cX10_init 235 = .ok (.iload_n 2, 1) := by decide +kernel
theorem dX10_init_236 : decode cX10_init 236 = .ok (.sipush 160, 3) := by decide +kernel
theorem dX10_init_239 : decode cX10_init 239 = .ok (.if_icmp .ge 21, 3) := by decide +kernel
theorem dX10_init_242 : decode cX10_init 242 = .ok (.aload_n 0, 1) := by decide +kernel
theorem dX10_init_243 : decode cX10_init 243 = .ok (.getfield 28, 3) := by decide +kernel
theorem dX10_init_246 : decode cX10_init 246 = .ok (.iload_n 2, 1) := by decide +kernel
theorem dX10_init_247 : decode cX10_init 247 = .ok (.ldc 73, 2) := by decide +kernel
theorem dX10_init_249 : decode cX10_init 249 = .ok (.iload_n 2, 1) := by decide +kernel
theorem dX10_init_250 : decode cX10_init 250 = .ok (.invokevirtual 81, 3) := by decide +kernel
theorem dX10_init_253 : decode cX10_init 253 = .ok (.iastore, 1) := by decide +kernel
theorem dX10_init_254 : decode cX10_init 254 = .ok (.iinc 2 1, 3) := by decide +kernel
theorem dX10_init_257 : decode cX10_init 257 = .ok (.goto (-31), 3) := by decide +kernel
theorem dX10_init_260 : decode cX10_init 260 = .ok (.aload_n 0, 1) := by decide +kernel
theorem dX10_init_261 : decode cX10_init 261 = .ok (.getfield 24, 3) := by decide +kernel
theorem dX10_init_264 : decode cX10_init 264 = .ok (.aload_n 0, 1) := by decide +kernel
theorem dX10_init_265 : decode cX10_init 265 = .ok (.getfield 28, 3) := by decide +kernel
theorem dX10_init_268 : decode cX10_init 268 = .ok (.ldc 73, 2) := by decide +kernel
theorem dX10_init_270 : decode cX10_init 270 = .ok (.invokevirtual 75, 3) := by decide +kernel
theorem dX10_init_273 : decode cX10_init 273 = .ok (.aload_n 0, 1) := by decide +kernel
theorem dX10_init_274 : decode cX10_init 274 = .ok (.getfield 11, 3) := by decide +kernel
theorem dX10_init_277 : decode cX10_init 277 = .ok (.iconst 0, 1) := by decide +kernel
theorem dX10_init_278 : decode cX10_init 278 = .ok (.aaload, 1) := by decide +kernel
theorem dX10_init_279 : decode cX10_init 279 = .ok (.invokevirtual 85, 3) := by decide +kernel
theorem dX10_init_282 : decode cX10_init 282 = .ok (.pop, 1) := by decide +kernel
theorem dX10_init_283 : decode cX10_init 283 = .ok (.aload_n 0, 1) := by decide +kernel
theorem dX10_init_284 : decode cX10_init 284 = .ok (.iconst 1, 1) := by decide +kernel
theorem dX10_init_285 : decode cX10_init 285 = .ok (.putfield 89, 3) := by decide +kernel
theorem dX10_init_288 : decode cX10_init 288 = .ok (.return_, 1) := by decide +kernel
abbrev M_X5_init : e_M := (yX5_init, cX5_init, 1, none)
theorem mk_X5_init : e_Mok M_X5_init 0 := ⟨by decide +kernel, by decide +kernel, by decide +kernel⟩
theorem dX5_init_0 : decode cX5_init 0 = .ok (.aload_n 0, 1) := by decide +kernel
theorem dX5_init_1 : decode cX5_init 1 = .ok (.invokespecial 3, 3) := by decide +kernel
theorem dX5_init_4 : decode cX5_init 4 = .ok (.return_, 1) := by decide +kernel
abbrev M_X9_init : e_M := (yX9_init, cX9_init, 1, none)
theorem mk_X9_init : e_Mok M_X9_init 0 := ⟨by decide +kernel, by decide +kernel, by decide +kernel⟩
theorem dX9_init_0 : decode cX9_init 0 = .ok (.aload_n 0, 1) := by decide +kernel
theorem dX9_init_1 : decode cX9_init 1 = .ok (.invokespecial 3, 3) := by decide +kernel
theorem dX9_init_4 : decode cX9_init 4 = .ok (.aload_n 0, 1) := by decide +kernel
theorem dX9_init_5 : decode cX9_init 5 = .ok (.sipush 160, 3) := by decide +kernel
theorem dX9_init_8 : decode cX9_init 8 = .ok (.newarray .int, 2) := by decide +kernel
theorem dX9_init_10 : decode cX9_init 10 = .ok (.putfield 9, 3) := by decide +kernel
theorem dX9_init_13 : decode cX9_init 13 = .ok (.aload_n 0, 1) := by decide +kernel
theorem dX9_init_14 : decode cX9_init 14 = .ok (.sipush 160, 3) := by decide +kernel
theorem dX9_init_17 : decode cX9_init 17 = .ok (.newarray .int, 2) := by decide +kernel
theorem dX9_init_19 : decode cX9_init 19 = .ok (.putfield 15, 3) := by decide +kernel
theorem dX9_init_22 : decode cX9_init 22 = .ok (.aload_n 0, 1) := by decide +kernel
theorem dX9_init_23 : decode cX9_init 23 = .ok (.sipush 160, 3) := by decide +kernel
theorem dX9_init_26 : decode cX9_init 26 = .ok (.newarray .int, 2) := by decide +kernel
theorem dX9_init_28 : decode cX9_init 28 = .ok (.putfield 18, 3) := by decide +kernel
theorem dX9_init_31 : decode cX9_init 31 = .ok (.aload_n 0, 1) := by decide +kernel
theorem dX9_init_32 : decode cX9_init 32 = .ok (.iconst 3, 1) := by decide +kernel
theorem dX9_init_33 : decode cX9_init 33 = .ok (.newarray .int, 2) := by decide +kernel
theorem dX9_init_35 : decode cX9_init 35 = .ok (.putfield 21, 3) := by decide +kernel
theorem dX9_init_38 : decode cX9_init 38 = .ok (.return_, 1) := by decide +kernel
abbrev M_X6_init : e_M := (yX6_init, cX6_init, 1, none)
theorem mk_X6_init : e_Mok M_X6_init 0 := ⟨by decide +kernel, by decide +kernel, by decide +kernel⟩
theorem dX6_init_0 : decode cX6_init 0 = .ok (.aload_n 0, 1) := by decide +kernel
theorem dX6_init_1 : decode cX6_init 1 = .ok (.invokespecial 3, 3) := by decide +kernel
theorem dX6_init_4 : decode cX6_init 4 = .ok (.aload_n 0, 1) := by decide +kernel
theorem dX6_init_5 : decode cX6_init 5 = .ok (.bipush 40, 2) := by decide +kernel
theorem dX6_init_7 : decode cX6_init 7 = .ok (.newarray .int, 2) := by decide +kernel
theorem dX6_init_9 : decode cX6_init 9 = .ok (.putfield 9, 3) := by decide +kernel
theorem dX6_init_12 : decode cX6_init 12 = .ok (.aload_n 0, 1) := by decide +kernel
theorem dX6_init_13 : decode cX6_init 13 = .ok (.iconst (-1), 1) := by decide +kernel
theorem dX6_init_14 : decode cX6_init 14 = .ok (.putfield 15, 3) := by decide +kernel
theorem dX6_init_17 : decode cX6_init 17 = .ok (.return_, 1) := by decide +kernel
abbrev M_X3_init : e_M := (yX3_init, cX3_init, 1, none)
theorem mk_X3_init : e_Mok M_X3_init 0 := ⟨by decide +kernel, by decide +kernel, by decide +kernel⟩
theorem dX3_init_0 : decode cX3_init 0 = .ok (.aload_n 0, 1) := by decide +kernel
theorem dX3_init_1 : decode cX3_init 1 = .ok (.invokespecial 1, 3) := by decide +kernel
theorem dX3_init_4 : decode cX3_init 4 = .ok (.return_, 1) := by decide +kernel
abbrev M_X2_init : e_M := (yX2_init, cX2_init, 1, none)
theorem mk_X2_init : e_Mok M_X2_init 0 := ⟨by decide +kernel, by decide +kernel, by decide +kernel⟩
theorem dX2_init_0 : decode cX2_init 0 = .ok (.aload_n 0, 1) := by decide +kernel
theorem dX2_init_1 : decode cX2_init 1 = .ok (.invokespecial 1, 3) := by decide +kernel
theorem dX2_init_4 : decode cX2_init 4 = .ok (.return_, 1) := by decide +kernel
abbrev M_X8_init : e_M := (yX8_init, cX8_init, 1, none)
theorem mk_X8_init : e_Mok M_X8_init 0 := ⟨by decide +kernel, by decide +kernel, by decide +kernel⟩
theorem dX8_init_0 : decode cX8_init 0 = .ok (.aload_n 0, 1) := by decide +kernel
theorem dX8_init_1 : decode cX8_init 1 = .ok (.invokespecial 1, 3) := by decide +kernel
theorem dX8_init_4 : decode cX8_init 4 = .ok (.return_, 1) := by decide +kernel
abbrev M_X0_init : e_M := (yX0_init, cX0_init, 1, none)
theorem mk_X0_init : e_Mok M_X0_init 0 := ⟨by decide +kernel, by decide +kernel, by decide +kernel⟩
theorem dX0_init_0 : decode cX0_init 0 = .ok (.aload_n 0, 1) := by decide +kernel
theorem dX0_init_1 : decode cX0_init 1 = .ok (.invokespecial 1, 3) := by decide +kernel
theorem dX0_init_4 : decode cX0_init 4 = .ok (.return_, 1) := by decide +kernel
abbrev M_X1_init : e_M := (yX1_init, cX1_init, 1, none)
theorem mk_X1_init : e_Mok M_X1_init 0 := ⟨by decide +kernel, by decide +kernel, by decide +kernel⟩
theorem dX1_init_0 : decode cX1_init 0 = .ok (.aload_n 0, 1) := by decide +kernel
theorem dX1_init_1 : decode cX1_init 1 = .ok (.invokespecial 1, 3) := by decide +kernel
theorem dX1_init_4 : decode cX1_init 4 = .ok (.return_, 1) := by decide +kernel
abbrev M_X4_init : e_M := (yX4_init, cX4_init, 1, none)
theorem mk_X4_init : e_Mok M_X4_init 0 := ⟨by decide +kernel, by decide +kernel, by decide +kernel⟩
theorem dX4_init_0 : decode cX4_init 0 = .ok (.aload_n 0, 1) := by decide +kernel
theorem dX4_init_1 : decode cX4_init 1 = .ok (.invokespecial 1, 3) := by decide +kernel
theorem dX4_init_4 : decode cX4_init 4 = .ok (.return_, 1) := by decide +kernel
abbrev M_X7_init : e_M := (yX7_init, cX7_init, 3, none)
theorem mk_X7_init : e_Mok M_X7_init 2 := ⟨by decide +kernel, by decide +kernel, by decide +kernel⟩
theorem dX7_init_0 : decode cX7_init 0 = .ok (.aload_n 0, 1) := by decide +kernel
theorem dX7_init_1 : decode cX7_init 1 = .ok (.invokespecial 3, 3) := by decide +kernel
theorem dX7_init_4 : decode cX7_init 4 = .ok (.aload_n 0, 1) := by decide +kernel
theorem dX7_init_5 : decode cX7_init 5 = .ok (.bipush 6, 2) := by decide +kernel
theorem dX7_init_7 : decode cX7_init 7 = .ok (.newarray .int, 2) := by decide +kernel
theorem dX7_init_9 : decode cX7_init 9 = .ok (.putfield 9, 3) := by decide +kernel
theorem dX7_init_12 : decode cX7_init 12 = .ok (.aload_n 0, 1) := by decide +kernel
theorem dX7_init_13 : decode cX7_init 13 = .ok (.bipush 6, 2) := by decide +kernel
theorem dX7_init_15 : decode cX7_init 15 = .ok (.newarray .int, 2) := by decide +kernel
theorem dX7_init_17 : decode cX7_init 17 = .ok (.putfield 15, 3) := by decide +kernel
theorem dX7_init_20 : decode cX7_init 20 = .ok (.aload_n 0, 1) := by decide +kernel
theorem dX7_init_21 : decode cX7_init 21 = .ok (.bipush 6, 2) := by decide +kernel
theorem dX7_init_23 : decode cX7_init 23 = .ok (.newarray .int, 2) := by decide +kernel
theorem dX7_init_25 : decode cX7_init 25 = .ok (.putfield 18, 3) := by decide +kernel
theorem dX7_init_28 : decode cX7_init 28 = .ok (.aload_n 0, 1) := by decide +kernel
theorem dX7_init_29 : decode cX7_init 29 = .ok (.bipush 6, 2) := by decide +kernel
theorem dX7_init_31 : decode cX7_init 31 = .ok (.newarray .int, 2) := by decide +kernel
theorem dX7_init_33 : decode cX7_init 33 = .ok (.putfield 21, 3) := by decide +kernel
theorem dX7_init_36 : decode cX7_init 36 = .ok (.aload_n 0, 1) := by decide +kernel
theorem dX7_init_37 : decode cX7_init 37 = .ok (.bipush 6, 2) := by decide +kernel
theorem dX7_init_39 : decode cX7_init 39 = .ok (.newarray .int, 2) := by decide +kernel
theorem dX7_init_41 : decode cX7_init 41 = .ok (.putfield 24, 3) := by decide +kernel
theorem dX7_init_44 : decode cX7_init 44 = .ok (.aload_n 0, 1) := by decide +kernel
theorem dX7_init_45 : decode cX7_init 45 = .ok (.bipush 6, 2) := by decide +kernel
theorem dX7_init_47 : decode cX7_init 47 = .ok (.newarray .boolean, 2) := by decide +kernel
theorem dX7_init_49 : decode cX7_init 49 = .ok (.putfield 27, 3) := by decide +kernel
theorem dX7_init_52 : decode cX7_init 52 = .ok (.aload_n 0, 1) := by decide +kernel
theorem dX7_init_53 : decode cX7_init 53 = .ok (.bipush 6, 2) := by decide +kernel
theorem dX7_init_55 : decode cX7_init 55 = .ok (.newarray .int, 2) := by decide +kernel
theorem dX7_init_57 : decode cX7_init 57 = .ok (.putfield 31, 3) := by decide +kernel
theorem dX7_init_60 : decode cX7_init 60 = .ok (.aload_n 0, 1) := by decide +kernel
theorem dX7_init_61 : decode cX7_init 61 = .ok (.aload_n 1, 1) := by decide +kernel
theorem dX7_init_62 : decode cX7_init 62 = .ok (.putfield 34, 3) := by decide +kernel
theorem dX7_init_65 : decode cX7_init 65 = .ok (.aload_n 0, 1) := by decide +kernel
theorem dX7_init_66 : decode cX7_init 66 = .ok (.aload_n 2, 1) := by decide +kernel
theorem dX7_init_67 : decode cX7_init 67 = .ok (.putfield 38, 3) := by decide +kernel
theorem dX7_init_70 : decode cX7_init 70 = .ok (.return_, 1) := by decide +kernel
def hx_0 : List e_cl := []
def hx_1 : List e_cl := e_ad hx_0 20 12
def hx_2 : List e_cl := e_ad hx_1 2 6
def hx_3 : List e_cl := e_stR hx_2 0 0 1
def hx_4 : List e_cl := e_ad hx_3 4 4
def hx_5 : List e_cl := e_stR hx_4 0 1 2
def hx_6 : List e_cl := e_ad hx_5 15 8
def hx_7 : List e_cl := e_stR hx_6 0 5 3
def hx_8 : List e_cl := e_ad hx_7 0 160
def hx_9 : List e_cl := e_stR hx_8 0 6 4
def hx_10 : List e_cl := e_ad hx_9 0 6
def hx_11 : List e_cl := e_stR hx_10 0 7 5
def hx_12 : List e_cl := e_ad hx_11 0 6
def hx_13 : List e_cl := e_stR hx_12 0 8 6
def hx_14 : List e_cl := e_ad hx_13 19 5
def hx_15 : List e_cl := e_ad hx_14 0 160
def hx_16 : List e_cl := e_stR hx_15 7 0 8
def hx_17 : List e_cl := e_ad hx_16 0 160
def hx_18 : List e_cl := e_stR hx_17 7 1 9
def hx_19 : List e_cl := e_ad hx_18 0 160
def hx_20 : List e_cl := e_stR hx_19 7 2 10
def hx_21 : List e_cl := e_ad hx_20 0 3
def hx_22 : List e_cl := e_stR hx_21 7 3 11
def hx_23 : List e_cl := e_stR hx_22 1 0 7
def hx_24 : List e_cl := e_ad hx_23 19 5
def hx_25 : List e_cl := e_ad hx_24 0 160
def hx_26 : List e_cl := e_stR hx_25 12 0 13
def hx_27 : List e_cl := e_ad hx_26 0 160
def hx_28 : List e_cl := e_stR hx_27 12 1 14
def hx_29 : List e_cl := e_ad hx_28 0 160
def hx_30 : List e_cl := e_stR hx_29 12 2 15
def hx_31 : List e_cl := e_ad hx_30 0 3
def hx_32 : List e_cl := e_stR hx_31 12 3 16
def hx_33 : List e_cl := e_stR hx_32 1 1 12
def hx_34 : List e_cl := e_ad hx_33 19 5
def hx_35 : List e_cl := e_ad hx_34 0 160
def hx_36 : List e_cl := e_stR hx_35 17 0 18
def hx_37 : List e_cl := e_ad hx_36 0 160
def hx_38 : List e_cl := e_stR hx_37 17 1 19
def hx_39 : List e_cl := e_ad hx_38 0 160
def hx_40 : List e_cl := e_stR hx_39 17 2 20
def hx_41 : List e_cl := e_ad hx_40 0 3
def hx_42 : List e_cl := e_stR hx_41 17 3 21
def hx_43 : List e_cl := e_stR hx_42 1 2 17
def hx_44 : List e_cl := e_ad hx_43 19 5
def hx_45 : List e_cl := e_ad hx_44 0 160
def hx_46 : List e_cl := e_stR hx_45 22 0 23
def hx_47 : List e_cl := e_ad hx_46 0 160
def hx_48 : List e_cl := e_stR hx_47 22 1 24
def hx_49 : List e_cl := e_ad hx_48 0 160
def hx_50 : List e_cl := e_stR hx_49 22 2 25
def hx_51 : List e_cl := e_ad hx_50 0 3
def hx_52 : List e_cl := e_stR hx_51 22 3 26
def hx_53 : List e_cl := e_stR hx_52 1 3 22
def hx_54 : List e_cl := e_ad hx_53 19 5
def hx_55 : List e_cl := e_ad hx_54 0 160
def hx_56 : List e_cl := e_stR hx_55 27 0 28
def hx_57 : List e_cl := e_ad hx_56 0 160
def hx_58 : List e_cl := e_stR hx_57 27 1 29
def hx_59 : List e_cl := e_ad hx_58 0 160
def hx_60 : List e_cl := e_stR hx_59 27 2 30
def hx_61 : List e_cl := e_ad hx_60 0 3
def hx_62 : List e_cl := e_stR hx_61 27 3 31
def hx_63 : List e_cl := e_stR hx_62 1 4 27
def hx_64 : List e_cl := e_ad hx_63 19 5
def hx_65 : List e_cl := e_ad hx_64 0 160
def hx_66 : List e_cl := e_stR hx_65 32 0 33
def hx_67 : List e_cl := e_ad hx_66 0 160
def hx_68 : List e_cl := e_stR hx_67 32 1 34
def hx_69 : List e_cl := e_ad hx_68 0 160
def hx_70 : List e_cl := e_stR hx_69 32 2 35
def hx_71 : List e_cl := e_ad hx_70 0 3
def hx_72 : List e_cl := e_stR hx_71 32 3 36
def hx_73 : List e_cl := e_stR hx_72 1 5 32
def hx_74 : List e_cl := e_ad hx_73 16 3
def hx_75 : List e_cl := e_ad hx_74 0 40
def hx_76 : List e_cl := e_stR hx_75 37 0 38
def hx_77 : List e_cl := e_stI hx_76 37 1 (-1)
def hx_78 : List e_cl := e_stR hx_77 2 0 37
def hx_79 : List e_cl := e_ad hx_78 16 3
def hx_80 : List e_cl := e_ad hx_79 0 40
def hx_81 : List e_cl := e_stR hx_80 39 0 40
def hx_82 : List e_cl := e_stI hx_81 39 1 (-1)
def hx_83 : List e_cl := e_stR hx_82 2 1 39
def hx_84 : List e_cl := e_ad hx_83 16 3
def hx_85 : List e_cl := e_ad hx_84 0 40
def hx_86 : List e_cl := e_stR hx_85 41 0 42
def hx_87 : List e_cl := e_stI hx_86 41 1 (-1)
def hx_88 : List e_cl := e_stR hx_87 2 2 41
def hx_89 : List e_cl := e_ad hx_88 16 3
def hx_90 : List e_cl := e_ad hx_89 0 40
def hx_91 : List e_cl := e_stR hx_90 43 0 44
def hx_92 : List e_cl := e_stI hx_91 43 1 (-1)
def hx_93 : List e_cl := e_stR hx_92 2 3 43
def hx_94 : List e_cl := e_ad hx_93 3 6
def hx_95 : List e_cl := e_ad hx_94 13 0
def hx_96 : List e_cl := e_stR hx_95 45 0 46
def hx_97 : List e_cl := e_ad hx_96 12 0
def hx_98 : List e_cl := e_stR hx_97 45 1 47
def hx_99 : List e_cl := e_ad hx_98 18 0
def hx_100 : List e_cl := e_stR hx_99 45 2 48
def hx_101 : List e_cl := e_ad hx_100 10 0
def hx_102 : List e_cl := e_stR hx_101 45 3 49
def hx_103 : List e_cl := e_ad hx_102 11 0
def hx_104 : List e_cl := e_stR hx_103 45 4 50
def hx_105 : List e_cl := e_ad hx_104 14 0
def hx_106 : List e_cl := e_stR hx_105 45 5 51
def hx_107 : List e_cl := e_ad hx_106 17 12
def hx_108 : List e_cl := e_ad hx_107 0 6
def hx_109 : List e_cl := e_stR hx_108 52 0 53
def hx_110 : List e_cl := e_ad hx_109 0 6
def hx_111 : List e_cl := e_stR hx_110 52 1 54
def hx_112 : List e_cl := e_ad hx_111 0 6
def hx_113 : List e_cl := e_stR hx_112 52 2 55
def hx_114 : List e_cl := e_ad hx_113 0 6
def hx_115 : List e_cl := e_stR hx_114 52 3 56
def hx_116 : List e_cl := e_ad hx_115 0 6
def hx_117 : List e_cl := e_stR hx_116 52 4 57
def hx_118 : List e_cl := e_ad hx_117 1 6
def hx_119 : List e_cl := e_stR hx_118 52 5 58
def hx_120 : List e_cl := e_ad hx_119 0 6
def hx_121 : List e_cl := e_stR hx_120 52 9 59
def hx_122 : List e_cl := e_stR hx_121 52 10 45
def hx_123 : List e_cl := e_stR hx_122 52 11 1
def hx_124 : List e_cl := e_stR hx_123 0 2 52
def hx_125 : List e_cl := e_ad hx_124 17 12
def hx_126 : List e_cl := e_ad hx_125 0 6
def hx_127 : List e_cl := e_stR hx_126 60 0 61
def hx_128 : List e_cl := e_ad hx_127 0 6
def hx_129 : List e_cl := e_stR hx_128 60 1 62
def hx_130 : List e_cl := e_ad hx_129 0 6
def hx_131 : List e_cl := e_stR hx_130 60 2 63
def hx_132 : List e_cl := e_ad hx_131 0 6
def hx_133 : List e_cl := e_stR hx_132 60 3 64
def hx_134 : List e_cl := e_ad hx_133 0 6
def hx_135 : List e_cl := e_stR hx_134 60 4 65
def hx_136 : List e_cl := e_ad hx_135 1 6
def hx_137 : List e_cl := e_stR hx_136 60 5 66
def hx_138 : List e_cl := e_ad hx_137 0 6
def hx_139 : List e_cl := e_stR hx_138 60 9 67
def hx_140 : List e_cl := e_stR hx_139 60 10 45
def hx_141 : List e_cl := e_stR hx_140 60 11 1
def hx_142 : List e_cl := e_stR hx_141 0 3 60
def hx_143 : List e_cl := e_ad hx_142 17 12
def hx_144 : List e_cl := e_ad hx_143 0 6
def hx_145 : List e_cl := e_stR hx_144 68 0 69
def hx_146 : List e_cl := e_ad hx_145 0 6
def hx_147 : List e_cl := e_stR hx_146 68 1 70
def hx_148 : List e_cl := e_ad hx_147 0 6
def hx_149 : List e_cl := e_stR hx_148 68 2 71
def hx_150 : List e_cl := e_ad hx_149 0 6
def hx_151 : List e_cl := e_stR hx_150 68 3 72
def hx_152 : List e_cl := e_ad hx_151 0 6
def hx_153 : List e_cl := e_stR hx_152 68 4 73
def hx_154 : List e_cl := e_ad hx_153 1 6
def hx_155 : List e_cl := e_stR hx_154 68 5 74
def hx_156 : List e_cl := e_ad hx_155 0 6
def hx_157 : List e_cl := e_stR hx_156 68 9 75
def hx_158 : List e_cl := e_stR hx_157 68 10 45
def hx_159 : List e_cl := e_stR hx_158 68 11 1
def hx_160 : List e_cl := e_stR hx_159 0 4 68
theorem hx_X5_init_2 {l : Launch} {D : va_G} {S0 : e_S} {g0 : e_G} (hn0 : S0.1 = 0) : CT l D (e_RR 1 0 0) M_X5_init [.ref 3] (e_of S0 g0 hx_6) none (e_of S0 g0 hx_6) := by
  refine CT.of (by decide +kernel) (Nat.le_of_ble_eq_true rfl) ?_
  show X l D (e_RR 1 0 0) M_X5_init 0 0 0 [(0, .ref 3)] [] (e_of S0 g0 hx_6) none (e_of S0 g0 hx_6)
  refine X.aload_n dX5_init_0 rfl (j := 0) rfl ?_
  refine X.objInit dX5_init_1 ww_109 ww_98 ww_obj ⟨Nat.le_of_ble_eq_true rfl, Nat.le_of_ble_eq_true rfl⟩ (by simp [Value.category]) ?_
  exact X.vret dX5_init_4 rfl
theorem hx_X9_init_3 {l : Launch} {D : va_G} {S0 : e_S} {g0 : e_G} (hn0 : S0.1 = 0) : CT l D (e_RR 1 4 483) M_X9_init [.ref 7] (e_of S0 g0 hx_14) none (e_of S0 g0 hx_22) := by
  refine CT.of (by decide +kernel) (Nat.le_of_ble_eq_true rfl) ?_
  show X l D (e_RR 1 4 483) M_X9_init 4 483 0 [(0, .ref 7)] [] (e_of S0 g0 hx_14) none (e_of S0 g0 hx_22)
  refine X.aload_n dX9_init_0 rfl (j := 0) rfl ?_
  refine X.objInit dX9_init_1 ww_139 ww_98 ww_obj ⟨Nat.le_of_ble_eq_true rfl, Nat.le_of_ble_eq_true rfl⟩ (by simp [Value.category]) ?_
  refine X.aload_n dX9_init_4 rfl (j := 0) rfl ?_
  refine X.sipush dX9_init_5 kS_160 ?_
  refine Z.newarr (bc := 3) (bs := 323) (kd := 0) (n0 := 8) (len := 160) dX9_init_8 (Or.inl ⟨rfl, rfl⟩) ww_156 (by decide) (by decide +kernel) (Nat.le_of_ble_eq_true rfl) (by rw [hn0]; rfl) (Nat.le_of_ble_eq_true rfl) rfl (cs' := hx_15) rfl ?_
  refine Z.putF (i := 7) dX9_init_10 fl_X9_9 rfl rfl rfl rfl (by omega) (by decide +kernel) (by rw [hn0]; exact Nat.le_of_ble_eq_true rfl) (cs' := hx_16) rfl ?_
  refine X.aload_n dX9_init_13 rfl (j := 0) rfl ?_
  refine X.sipush dX9_init_14 kS_160 ?_
  refine Z.newarr (bc := 2) (bs := 163) (kd := 0) (n0 := 9) (len := 160) dX9_init_17 (Or.inl ⟨rfl, rfl⟩) ww_156 (by decide) (by decide +kernel) (Nat.le_of_ble_eq_true rfl) (by rw [hn0]; rfl) (Nat.le_of_ble_eq_true rfl) rfl (cs' := hx_17) rfl ?_
  refine Z.putF (i := 7) dX9_init_19 fl_X9_15 rfl rfl rfl rfl (by omega) (by decide +kernel) (by rw [hn0]; exact Nat.le_of_ble_eq_true rfl) (cs' := hx_18) rfl ?_
  refine X.aload_n dX9_init_22 rfl (j := 0) rfl ?_
  refine X.sipush dX9_init_23 kS_160 ?_
  refine Z.newarr (bc := 1) (bs := 3) (kd := 0) (n0 := 10) (len := 160) dX9_init_26 (Or.inl ⟨rfl, rfl⟩) ww_156 (by decide) (by decide +kernel) (Nat.le_of_ble_eq_true rfl) (by rw [hn0]; rfl) (Nat.le_of_ble_eq_true rfl) rfl (cs' := hx_19) rfl ?_
  refine Z.putF (i := 7) dX9_init_28 fl_X9_18 rfl rfl rfl rfl (by omega) (by decide +kernel) (by rw [hn0]; exact Nat.le_of_ble_eq_true rfl) (cs' := hx_20) rfl ?_
  refine X.aload_n dX9_init_31 rfl (j := 0) rfl ?_
  refine X.iconst dX9_init_32 kI_3 ?_
  refine Z.newarr (bc := 0) (bs := 0) (kd := 0) (n0 := 11) (len := 3) dX9_init_33 (Or.inl ⟨rfl, rfl⟩) ww_156 (by decide) (by decide +kernel) (Nat.le_of_ble_eq_true rfl) (by rw [hn0]; rfl) (Nat.le_of_ble_eq_true rfl) rfl (cs' := hx_21) rfl ?_
  refine Z.putF (i := 7) dX9_init_35 fl_X9_21 rfl rfl rfl rfl (by omega) (by decide +kernel) (by rw [hn0]; exact Nat.le_of_ble_eq_true rfl) (cs' := hx_22) rfl ?_
  exact X.vret dX9_init_38 rfl
theorem hx_X9_init_4 {l : Launch} {D : va_G} {S0 : e_S} {g0 : e_G} (hn0 : S0.1 = 0) : CT l D (e_RR 1 4 483) M_X9_init [.ref 12] (e_of S0 g0 hx_24) none (e_of S0 g0 hx_32) := by
  refine CT.of (by decide +kernel) (Nat.le_of_ble_eq_true rfl) ?_
  show X l D (e_RR 1 4 483) M_X9_init 4 483 0 [(0, .ref 12)] [] (e_of S0 g0 hx_24) none (e_of S0 g0 hx_32)
  refine X.aload_n dX9_init_0 rfl (j := 0) rfl ?_
  refine X.objInit dX9_init_1 ww_139 ww_98 ww_obj ⟨Nat.le_of_ble_eq_true rfl, Nat.le_of_ble_eq_true rfl⟩ (by simp [Value.category]) ?_
  refine X.aload_n dX9_init_4 rfl (j := 0) rfl ?_
  refine X.sipush dX9_init_5 kS_160 ?_
  refine Z.newarr (bc := 3) (bs := 323) (kd := 0) (n0 := 13) (len := 160) dX9_init_8 (Or.inl ⟨rfl, rfl⟩) ww_156 (by decide) (by decide +kernel) (Nat.le_of_ble_eq_true rfl) (by rw [hn0]; rfl) (Nat.le_of_ble_eq_true rfl) rfl (cs' := hx_25) rfl ?_
  refine Z.putF (i := 12) dX9_init_10 fl_X9_9 rfl rfl rfl rfl (by omega) (by decide +kernel) (by rw [hn0]; exact Nat.le_of_ble_eq_true rfl) (cs' := hx_26) rfl ?_
  refine X.aload_n dX9_init_13 rfl (j := 0) rfl ?_
  refine X.sipush dX9_init_14 kS_160 ?_
  refine Z.newarr (bc := 2) (bs := 163) (kd := 0) (n0 := 14) (len := 160) dX9_init_17 (Or.inl ⟨rfl, rfl⟩) ww_156 (by decide) (by decide +kernel) (Nat.le_of_ble_eq_true rfl) (by rw [hn0]; rfl) (Nat.le_of_ble_eq_true rfl) rfl (cs' := hx_27) rfl ?_
  refine Z.putF (i := 12) dX9_init_19 fl_X9_15 rfl rfl rfl rfl (by omega) (by decide +kernel) (by rw [hn0]; exact Nat.le_of_ble_eq_true rfl) (cs' := hx_28) rfl ?_
  refine X.aload_n dX9_init_22 rfl (j := 0) rfl ?_
  refine X.sipush dX9_init_23 kS_160 ?_
  refine Z.newarr (bc := 1) (bs := 3) (kd := 0) (n0 := 15) (len := 160) dX9_init_26 (Or.inl ⟨rfl, rfl⟩) ww_156 (by decide) (by decide +kernel) (Nat.le_of_ble_eq_true rfl) (by rw [hn0]; rfl) (Nat.le_of_ble_eq_true rfl) rfl (cs' := hx_29) rfl ?_
  refine Z.putF (i := 12) dX9_init_28 fl_X9_18 rfl rfl rfl rfl (by omega) (by decide +kernel) (by rw [hn0]; exact Nat.le_of_ble_eq_true rfl) (cs' := hx_30) rfl ?_
  refine X.aload_n dX9_init_31 rfl (j := 0) rfl ?_
  refine X.iconst dX9_init_32 kI_3 ?_
  refine Z.newarr (bc := 0) (bs := 0) (kd := 0) (n0 := 16) (len := 3) dX9_init_33 (Or.inl ⟨rfl, rfl⟩) ww_156 (by decide) (by decide +kernel) (Nat.le_of_ble_eq_true rfl) (by rw [hn0]; rfl) (Nat.le_of_ble_eq_true rfl) rfl (cs' := hx_31) rfl ?_
  refine Z.putF (i := 12) dX9_init_35 fl_X9_21 rfl rfl rfl rfl (by omega) (by decide +kernel) (by rw [hn0]; exact Nat.le_of_ble_eq_true rfl) (cs' := hx_32) rfl ?_
  exact X.vret dX9_init_38 rfl
theorem hx_X9_init_5 {l : Launch} {D : va_G} {S0 : e_S} {g0 : e_G} (hn0 : S0.1 = 0) : CT l D (e_RR 1 4 483) M_X9_init [.ref 17] (e_of S0 g0 hx_34) none (e_of S0 g0 hx_42) := by
  refine CT.of (by decide +kernel) (Nat.le_of_ble_eq_true rfl) ?_
  show X l D (e_RR 1 4 483) M_X9_init 4 483 0 [(0, .ref 17)] [] (e_of S0 g0 hx_34) none (e_of S0 g0 hx_42)
  refine X.aload_n dX9_init_0 rfl (j := 0) rfl ?_
  refine X.objInit dX9_init_1 ww_139 ww_98 ww_obj ⟨Nat.le_of_ble_eq_true rfl, Nat.le_of_ble_eq_true rfl⟩ (by simp [Value.category]) ?_
  refine X.aload_n dX9_init_4 rfl (j := 0) rfl ?_
  refine X.sipush dX9_init_5 kS_160 ?_
  refine Z.newarr (bc := 3) (bs := 323) (kd := 0) (n0 := 18) (len := 160) dX9_init_8 (Or.inl ⟨rfl, rfl⟩) ww_156 (by decide) (by decide +kernel) (Nat.le_of_ble_eq_true rfl) (by rw [hn0]; rfl) (Nat.le_of_ble_eq_true rfl) rfl (cs' := hx_35) rfl ?_
  refine Z.putF (i := 17) dX9_init_10 fl_X9_9 rfl rfl rfl rfl (by omega) (by decide +kernel) (by rw [hn0]; exact Nat.le_of_ble_eq_true rfl) (cs' := hx_36) rfl ?_
  refine X.aload_n dX9_init_13 rfl (j := 0) rfl ?_
  refine X.sipush dX9_init_14 kS_160 ?_
  refine Z.newarr (bc := 2) (bs := 163) (kd := 0) (n0 := 19) (len := 160) dX9_init_17 (Or.inl ⟨rfl, rfl⟩) ww_156 (by decide) (by decide +kernel) (Nat.le_of_ble_eq_true rfl) (by rw [hn0]; rfl) (Nat.le_of_ble_eq_true rfl) rfl (cs' := hx_37) rfl ?_
  refine Z.putF (i := 17) dX9_init_19 fl_X9_15 rfl rfl rfl rfl (by omega) (by decide +kernel) (by rw [hn0]; exact Nat.le_of_ble_eq_true rfl) (cs' := hx_38) rfl ?_
  refine X.aload_n dX9_init_22 rfl (j := 0) rfl ?_
  refine X.sipush dX9_init_23 kS_160 ?_
  refine Z.newarr (bc := 1) (bs := 3) (kd := 0) (n0 := 20) (len := 160) dX9_init_26 (Or.inl ⟨rfl, rfl⟩) ww_156 (by decide) (by decide +kernel) (Nat.le_of_ble_eq_true rfl) (by rw [hn0]; rfl) (Nat.le_of_ble_eq_true rfl) rfl (cs' := hx_39) rfl ?_
  refine Z.putF (i := 17) dX9_init_28 fl_X9_18 rfl rfl rfl rfl (by omega) (by decide +kernel) (by rw [hn0]; exact Nat.le_of_ble_eq_true rfl) (cs' := hx_40) rfl ?_
  refine X.aload_n dX9_init_31 rfl (j := 0) rfl ?_
  refine X.iconst dX9_init_32 kI_3 ?_
  refine Z.newarr (bc := 0) (bs := 0) (kd := 0) (n0 := 21) (len := 3) dX9_init_33 (Or.inl ⟨rfl, rfl⟩) ww_156 (by decide) (by decide +kernel) (Nat.le_of_ble_eq_true rfl) (by rw [hn0]; rfl) (Nat.le_of_ble_eq_true rfl) rfl (cs' := hx_41) rfl ?_
  refine Z.putF (i := 17) dX9_init_35 fl_X9_21 rfl rfl rfl rfl (by omega) (by decide +kernel) (by rw [hn0]; exact Nat.le_of_ble_eq_true rfl) (cs' := hx_42) rfl ?_
  exact X.vret dX9_init_38 rfl
theorem hx_X9_init_6 {l : Launch} {D : va_G} {S0 : e_S} {g0 : e_G} (hn0 : S0.1 = 0) : CT l D (e_RR 1 4 483) M_X9_init [.ref 22] (e_of S0 g0 hx_44) none (e_of S0 g0 hx_52) := by
  refine CT.of (by decide +kernel) (Nat.le_of_ble_eq_true rfl) ?_
  show X l D (e_RR 1 4 483) M_X9_init 4 483 0 [(0, .ref 22)] [] (e_of S0 g0 hx_44) none (e_of S0 g0 hx_52)
  refine X.aload_n dX9_init_0 rfl (j := 0) rfl ?_
  refine X.objInit dX9_init_1 ww_139 ww_98 ww_obj ⟨Nat.le_of_ble_eq_true rfl, Nat.le_of_ble_eq_true rfl⟩ (by simp [Value.category]) ?_
  refine X.aload_n dX9_init_4 rfl (j := 0) rfl ?_
  refine X.sipush dX9_init_5 kS_160 ?_
  refine Z.newarr (bc := 3) (bs := 323) (kd := 0) (n0 := 23) (len := 160) dX9_init_8 (Or.inl ⟨rfl, rfl⟩) ww_156 (by decide) (by decide +kernel) (Nat.le_of_ble_eq_true rfl) (by rw [hn0]; rfl) (Nat.le_of_ble_eq_true rfl) rfl (cs' := hx_45) rfl ?_
  refine Z.putF (i := 22) dX9_init_10 fl_X9_9 rfl rfl rfl rfl (by omega) (by decide +kernel) (by rw [hn0]; exact Nat.le_of_ble_eq_true rfl) (cs' := hx_46) rfl ?_
  refine X.aload_n dX9_init_13 rfl (j := 0) rfl ?_
  refine X.sipush dX9_init_14 kS_160 ?_
  refine Z.newarr (bc := 2) (bs := 163) (kd := 0) (n0 := 24) (len := 160) dX9_init_17 (Or.inl ⟨rfl, rfl⟩) ww_156 (by decide) (by decide +kernel) (Nat.le_of_ble_eq_true rfl) (by rw [hn0]; rfl) (Nat.le_of_ble_eq_true rfl) rfl (cs' := hx_47) rfl ?_
  refine Z.putF (i := 22) dX9_init_19 fl_X9_15 rfl rfl rfl rfl (by omega) (by decide +kernel) (by rw [hn0]; exact Nat.le_of_ble_eq_true rfl) (cs' := hx_48) rfl ?_
  refine X.aload_n dX9_init_22 rfl (j := 0) rfl ?_
  refine X.sipush dX9_init_23 kS_160 ?_
  refine Z.newarr (bc := 1) (bs := 3) (kd := 0) (n0 := 25) (len := 160) dX9_init_26 (Or.inl ⟨rfl, rfl⟩) ww_156 (by decide) (by decide +kernel) (Nat.le_of_ble_eq_true rfl) (by rw [hn0]; rfl) (Nat.le_of_ble_eq_true rfl) rfl (cs' := hx_49) rfl ?_
  refine Z.putF (i := 22) dX9_init_28 fl_X9_18 rfl rfl rfl rfl (by omega) (by decide +kernel) (by rw [hn0]; exact Nat.le_of_ble_eq_true rfl) (cs' := hx_50) rfl ?_
  refine X.aload_n dX9_init_31 rfl (j := 0) rfl ?_
  refine X.iconst dX9_init_32 kI_3 ?_
  refine Z.newarr (bc := 0) (bs := 0) (kd := 0) (n0 := 26) (len := 3) dX9_init_33 (Or.inl ⟨rfl, rfl⟩) ww_156 (by decide) (by decide +kernel) (Nat.le_of_ble_eq_true rfl) (by rw [hn0]; rfl) (Nat.le_of_ble_eq_true rfl) rfl (cs' := hx_51) rfl ?_
  refine Z.putF (i := 22) dX9_init_35 fl_X9_21 rfl rfl rfl rfl (by omega) (by decide +kernel) (by rw [hn0]; exact Nat.le_of_ble_eq_true rfl) (cs' := hx_52) rfl ?_
  exact X.vret dX9_init_38 rfl
theorem hx_X9_init_7 {l : Launch} {D : va_G} {S0 : e_S} {g0 : e_G} (hn0 : S0.1 = 0) : CT l D (e_RR 1 4 483) M_X9_init [.ref 27] (e_of S0 g0 hx_54) none (e_of S0 g0 hx_62) := by
  refine CT.of (by decide +kernel) (Nat.le_of_ble_eq_true rfl) ?_
  show X l D (e_RR 1 4 483) M_X9_init 4 483 0 [(0, .ref 27)] [] (e_of S0 g0 hx_54) none (e_of S0 g0 hx_62)
  refine X.aload_n dX9_init_0 rfl (j := 0) rfl ?_
  refine X.objInit dX9_init_1 ww_139 ww_98 ww_obj ⟨Nat.le_of_ble_eq_true rfl, Nat.le_of_ble_eq_true rfl⟩ (by simp [Value.category]) ?_
  refine X.aload_n dX9_init_4 rfl (j := 0) rfl ?_
  refine X.sipush dX9_init_5 kS_160 ?_
  refine Z.newarr (bc := 3) (bs := 323) (kd := 0) (n0 := 28) (len := 160) dX9_init_8 (Or.inl ⟨rfl, rfl⟩) ww_156 (by decide) (by decide +kernel) (Nat.le_of_ble_eq_true rfl) (by rw [hn0]; rfl) (Nat.le_of_ble_eq_true rfl) rfl (cs' := hx_55) rfl ?_
  refine Z.putF (i := 27) dX9_init_10 fl_X9_9 rfl rfl rfl rfl (by omega) (by decide +kernel) (by rw [hn0]; exact Nat.le_of_ble_eq_true rfl) (cs' := hx_56) rfl ?_
  refine X.aload_n dX9_init_13 rfl (j := 0) rfl ?_
  refine X.sipush dX9_init_14 kS_160 ?_
  refine Z.newarr (bc := 2) (bs := 163) (kd := 0) (n0 := 29) (len := 160) dX9_init_17 (Or.inl ⟨rfl, rfl⟩) ww_156 (by decide) (by decide +kernel) (Nat.le_of_ble_eq_true rfl) (by rw [hn0]; rfl) (Nat.le_of_ble_eq_true rfl) rfl (cs' := hx_57) rfl ?_
  refine Z.putF (i := 27) dX9_init_19 fl_X9_15 rfl rfl rfl rfl (by omega) (by decide +kernel) (by rw [hn0]; exact Nat.le_of_ble_eq_true rfl) (cs' := hx_58) rfl ?_
  refine X.aload_n dX9_init_22 rfl (j := 0) rfl ?_
  refine X.sipush dX9_init_23 kS_160 ?_
  refine Z.newarr (bc := 1) (bs := 3) (kd := 0) (n0 := 30) (len := 160) dX9_init_26 (Or.inl ⟨rfl, rfl⟩) ww_156 (by decide) (by decide +kernel) (Nat.le_of_ble_eq_true rfl) (by rw [hn0]; rfl) (Nat.le_of_ble_eq_true rfl) rfl (cs' := hx_59) rfl ?_
  refine Z.putF (i := 27) dX9_init_28 fl_X9_18 rfl rfl rfl rfl (by omega) (by decide +kernel) (by rw [hn0]; exact Nat.le_of_ble_eq_true rfl) (cs' := hx_60) rfl ?_
  refine X.aload_n dX9_init_31 rfl (j := 0) rfl ?_
  refine X.iconst dX9_init_32 kI_3 ?_
  refine Z.newarr (bc := 0) (bs := 0) (kd := 0) (n0 := 31) (len := 3) dX9_init_33 (Or.inl ⟨rfl, rfl⟩) ww_156 (by decide) (by decide +kernel) (Nat.le_of_ble_eq_true rfl) (by rw [hn0]; rfl) (Nat.le_of_ble_eq_true rfl) rfl (cs' := hx_61) rfl ?_
  refine Z.putF (i := 27) dX9_init_35 fl_X9_21 rfl rfl rfl rfl (by omega) (by decide +kernel) (by rw [hn0]; exact Nat.le_of_ble_eq_true rfl) (cs' := hx_62) rfl ?_
  exact X.vret dX9_init_38 rfl
theorem hx_X9_init_8 {l : Launch} {D : va_G} {S0 : e_S} {g0 : e_G} (hn0 : S0.1 = 0) : CT l D (e_RR 1 4 483) M_X9_init [.ref 32] (e_of S0 g0 hx_64) none (e_of S0 g0 hx_72) := by
  refine CT.of (by decide +kernel) (Nat.le_of_ble_eq_true rfl) ?_
  show X l D (e_RR 1 4 483) M_X9_init 4 483 0 [(0, .ref 32)] [] (e_of S0 g0 hx_64) none (e_of S0 g0 hx_72)
  refine X.aload_n dX9_init_0 rfl (j := 0) rfl ?_
  refine X.objInit dX9_init_1 ww_139 ww_98 ww_obj ⟨Nat.le_of_ble_eq_true rfl, Nat.le_of_ble_eq_true rfl⟩ (by simp [Value.category]) ?_
  refine X.aload_n dX9_init_4 rfl (j := 0) rfl ?_
  refine X.sipush dX9_init_5 kS_160 ?_
  refine Z.newarr (bc := 3) (bs := 323) (kd := 0) (n0 := 33) (len := 160) dX9_init_8 (Or.inl ⟨rfl, rfl⟩) ww_156 (by decide) (by decide +kernel) (Nat.le_of_ble_eq_true rfl) (by rw [hn0]; rfl) (Nat.le_of_ble_eq_true rfl) rfl (cs' := hx_65) rfl ?_
  refine Z.putF (i := 32) dX9_init_10 fl_X9_9 rfl rfl rfl rfl (by omega) (by decide +kernel) (by rw [hn0]; exact Nat.le_of_ble_eq_true rfl) (cs' := hx_66) rfl ?_
  refine X.aload_n dX9_init_13 rfl (j := 0) rfl ?_
  refine X.sipush dX9_init_14 kS_160 ?_
  refine Z.newarr (bc := 2) (bs := 163) (kd := 0) (n0 := 34) (len := 160) dX9_init_17 (Or.inl ⟨rfl, rfl⟩) ww_156 (by decide) (by decide +kernel) (Nat.le_of_ble_eq_true rfl) (by rw [hn0]; rfl) (Nat.le_of_ble_eq_true rfl) rfl (cs' := hx_67) rfl ?_
  refine Z.putF (i := 32) dX9_init_19 fl_X9_15 rfl rfl rfl rfl (by omega) (by decide +kernel) (by rw [hn0]; exact Nat.le_of_ble_eq_true rfl) (cs' := hx_68) rfl ?_
  refine X.aload_n dX9_init_22 rfl (j := 0) rfl ?_
  refine X.sipush dX9_init_23 kS_160 ?_
  refine Z.newarr (bc := 1) (bs := 3) (kd := 0) (n0 := 35) (len := 160) dX9_init_26 (Or.inl ⟨rfl, rfl⟩) ww_156 (by decide) (by decide +kernel) (Nat.le_of_ble_eq_true rfl) (by rw [hn0]; rfl) (Nat.le_of_ble_eq_true rfl) rfl (cs' := hx_69) rfl ?_
  refine Z.putF (i := 32) dX9_init_28 fl_X9_18 rfl rfl rfl rfl (by omega) (by decide +kernel) (by rw [hn0]; exact Nat.le_of_ble_eq_true rfl) (cs' := hx_70) rfl ?_
  refine X.aload_n dX9_init_31 rfl (j := 0) rfl ?_
  refine X.iconst dX9_init_32 kI_3 ?_
  refine Z.newarr (bc := 0) (bs := 0) (kd := 0) (n0 := 36) (len := 3) dX9_init_33 (Or.inl ⟨rfl, rfl⟩) ww_156 (by decide) (by decide +kernel) (Nat.le_of_ble_eq_true rfl) (by rw [hn0]; rfl) (Nat.le_of_ble_eq_true rfl) rfl (cs' := hx_71) rfl ?_
  refine Z.putF (i := 32) dX9_init_35 fl_X9_21 rfl rfl rfl rfl (by omega) (by decide +kernel) (by rw [hn0]; exact Nat.le_of_ble_eq_true rfl) (cs' := hx_72) rfl ?_
  exact X.vret dX9_init_38 rfl
theorem hx_X6_init_9 {l : Launch} {D : va_G} {S0 : e_S} {g0 : e_G} (hn0 : S0.1 = 0) : CT l D (e_RR 1 1 40) M_X6_init [.ref 37] (e_of S0 g0 hx_74) none (e_of S0 g0 hx_77) := by
  refine CT.of (by decide +kernel) (Nat.le_of_ble_eq_true rfl) ?_
  show X l D (e_RR 1 1 40) M_X6_init 1 40 0 [(0, .ref 37)] [] (e_of S0 g0 hx_74) none (e_of S0 g0 hx_77)
  refine X.aload_n dX6_init_0 rfl (j := 0) rfl ?_
  refine X.objInit dX6_init_1 ww_161 ww_98 ww_obj ⟨Nat.le_of_ble_eq_true rfl, Nat.le_of_ble_eq_true rfl⟩ (by simp [Value.category]) ?_
  refine X.aload_n dX6_init_4 rfl (j := 0) rfl ?_
  refine X.bipush dX6_init_5 kB_40 ?_
  refine Z.newarr (bc := 0) (bs := 0) (kd := 0) (n0 := 38) (len := 40) dX6_init_7 (Or.inl ⟨rfl, rfl⟩) ww_156 (by decide) (by decide +kernel) (Nat.le_of_ble_eq_true rfl) (by rw [hn0]; rfl) (Nat.le_of_ble_eq_true rfl) rfl (cs' := hx_75) rfl ?_
  refine Z.putF (i := 37) dX6_init_9 fl_X6_9 rfl rfl rfl rfl (by omega) (by decide +kernel) (by rw [hn0]; exact Nat.le_of_ble_eq_true rfl) (cs' := hx_76) rfl ?_
  refine X.aload_n dX6_init_12 rfl (j := 0) rfl ?_
  refine X.iconst dX6_init_13 kI_m1 ?_
  refine Z.putI (i := 37) dX6_init_14 fl_X6_15 rfl rfl rfl rfl (by omega) (by decide +kernel) (cs' := hx_77) rfl ?_
  exact X.vret dX6_init_17 rfl
theorem hx_X6_init_10 {l : Launch} {D : va_G} {S0 : e_S} {g0 : e_G} (hn0 : S0.1 = 0) : CT l D (e_RR 1 1 40) M_X6_init [.ref 39] (e_of S0 g0 hx_79) none (e_of S0 g0 hx_82) := by
  refine CT.of (by decide +kernel) (Nat.le_of_ble_eq_true rfl) ?_
  show X l D (e_RR 1 1 40) M_X6_init 1 40 0 [(0, .ref 39)] [] (e_of S0 g0 hx_79) none (e_of S0 g0 hx_82)
  refine X.aload_n dX6_init_0 rfl (j := 0) rfl ?_
  refine X.objInit dX6_init_1 ww_161 ww_98 ww_obj ⟨Nat.le_of_ble_eq_true rfl, Nat.le_of_ble_eq_true rfl⟩ (by simp [Value.category]) ?_
  refine X.aload_n dX6_init_4 rfl (j := 0) rfl ?_
  refine X.bipush dX6_init_5 kB_40 ?_
  refine Z.newarr (bc := 0) (bs := 0) (kd := 0) (n0 := 40) (len := 40) dX6_init_7 (Or.inl ⟨rfl, rfl⟩) ww_156 (by decide) (by decide +kernel) (Nat.le_of_ble_eq_true rfl) (by rw [hn0]; rfl) (Nat.le_of_ble_eq_true rfl) rfl (cs' := hx_80) rfl ?_
  refine Z.putF (i := 39) dX6_init_9 fl_X6_9 rfl rfl rfl rfl (by omega) (by decide +kernel) (by rw [hn0]; exact Nat.le_of_ble_eq_true rfl) (cs' := hx_81) rfl ?_
  refine X.aload_n dX6_init_12 rfl (j := 0) rfl ?_
  refine X.iconst dX6_init_13 kI_m1 ?_
  refine Z.putI (i := 39) dX6_init_14 fl_X6_15 rfl rfl rfl rfl (by omega) (by decide +kernel) (cs' := hx_82) rfl ?_
  exact X.vret dX6_init_17 rfl
theorem hx_X6_init_11 {l : Launch} {D : va_G} {S0 : e_S} {g0 : e_G} (hn0 : S0.1 = 0) : CT l D (e_RR 1 1 40) M_X6_init [.ref 41] (e_of S0 g0 hx_84) none (e_of S0 g0 hx_87) := by
  refine CT.of (by decide +kernel) (Nat.le_of_ble_eq_true rfl) ?_
  show X l D (e_RR 1 1 40) M_X6_init 1 40 0 [(0, .ref 41)] [] (e_of S0 g0 hx_84) none (e_of S0 g0 hx_87)
  refine X.aload_n dX6_init_0 rfl (j := 0) rfl ?_
  refine X.objInit dX6_init_1 ww_161 ww_98 ww_obj ⟨Nat.le_of_ble_eq_true rfl, Nat.le_of_ble_eq_true rfl⟩ (by simp [Value.category]) ?_
  refine X.aload_n dX6_init_4 rfl (j := 0) rfl ?_
  refine X.bipush dX6_init_5 kB_40 ?_
  refine Z.newarr (bc := 0) (bs := 0) (kd := 0) (n0 := 42) (len := 40) dX6_init_7 (Or.inl ⟨rfl, rfl⟩) ww_156 (by decide) (by decide +kernel) (Nat.le_of_ble_eq_true rfl) (by rw [hn0]; rfl) (Nat.le_of_ble_eq_true rfl) rfl (cs' := hx_85) rfl ?_
  refine Z.putF (i := 41) dX6_init_9 fl_X6_9 rfl rfl rfl rfl (by omega) (by decide +kernel) (by rw [hn0]; exact Nat.le_of_ble_eq_true rfl) (cs' := hx_86) rfl ?_
  refine X.aload_n dX6_init_12 rfl (j := 0) rfl ?_
  refine X.iconst dX6_init_13 kI_m1 ?_
  refine Z.putI (i := 41) dX6_init_14 fl_X6_15 rfl rfl rfl rfl (by omega) (by decide +kernel) (cs' := hx_87) rfl ?_
  exact X.vret dX6_init_17 rfl
theorem hx_X6_init_12 {l : Launch} {D : va_G} {S0 : e_S} {g0 : e_G} (hn0 : S0.1 = 0) : CT l D (e_RR 1 1 40) M_X6_init [.ref 43] (e_of S0 g0 hx_89) none (e_of S0 g0 hx_92) := by
  refine CT.of (by decide +kernel) (Nat.le_of_ble_eq_true rfl) ?_
  show X l D (e_RR 1 1 40) M_X6_init 1 40 0 [(0, .ref 43)] [] (e_of S0 g0 hx_89) none (e_of S0 g0 hx_92)
  refine X.aload_n dX6_init_0 rfl (j := 0) rfl ?_
  refine X.objInit dX6_init_1 ww_161 ww_98 ww_obj ⟨Nat.le_of_ble_eq_true rfl, Nat.le_of_ble_eq_true rfl⟩ (by simp [Value.category]) ?_
  refine X.aload_n dX6_init_4 rfl (j := 0) rfl ?_
  refine X.bipush dX6_init_5 kB_40 ?_
  refine Z.newarr (bc := 0) (bs := 0) (kd := 0) (n0 := 44) (len := 40) dX6_init_7 (Or.inl ⟨rfl, rfl⟩) ww_156 (by decide) (by decide +kernel) (Nat.le_of_ble_eq_true rfl) (by rw [hn0]; rfl) (Nat.le_of_ble_eq_true rfl) rfl (cs' := hx_90) rfl ?_
  refine Z.putF (i := 43) dX6_init_9 fl_X6_9 rfl rfl rfl rfl (by omega) (by decide +kernel) (by rw [hn0]; exact Nat.le_of_ble_eq_true rfl) (cs' := hx_91) rfl ?_
  refine X.aload_n dX6_init_12 rfl (j := 0) rfl ?_
  refine X.iconst dX6_init_13 kI_m1 ?_
  refine Z.putI (i := 43) dX6_init_14 fl_X6_15 rfl rfl rfl rfl (by omega) (by decide +kernel) (cs' := hx_92) rfl ?_
  exact X.vret dX6_init_17 rfl
theorem hx_X3_init_13 {l : Launch} {D : va_G} {S0 : e_S} {g0 : e_G} (hn0 : S0.1 = 0) : CT l D (e_RR 1 0 0) M_X3_init [.ref 46] (e_of S0 g0 hx_95) none (e_of S0 g0 hx_95) := by
  refine CT.of (by decide +kernel) (Nat.le_of_ble_eq_true rfl) ?_
  show X l D (e_RR 1 0 0) M_X3_init 0 0 0 [(0, .ref 46)] [] (e_of S0 g0 hx_95) none (e_of S0 g0 hx_95)
  refine X.aload_n dX3_init_0 rfl (j := 0) rfl ?_
  refine X.objInit dX3_init_1 ww_181 ww_98 ww_obj ⟨Nat.le_of_ble_eq_true rfl, Nat.le_of_ble_eq_true rfl⟩ (by simp [Value.category]) ?_
  exact X.vret dX3_init_4 rfl
theorem hx_X3_init_15 {l : Launch} {D : va_G} {S0 : e_S} {g0 : e_G} (hn0 : S0.1 = 0) : CT l D (e_RR 1 0 0) M_X3_init [.ref 47] (e_of S0 g0 hx_97) none (e_of S0 g0 hx_97) := by
  refine CT.of (by decide +kernel) (Nat.le_of_ble_eq_true rfl) ?_
  show X l D (e_RR 1 0 0) M_X3_init 0 0 0 [(0, .ref 47)] [] (e_of S0 g0 hx_97) none (e_of S0 g0 hx_97)
  refine X.aload_n dX3_init_0 rfl (j := 0) rfl ?_
  refine X.objInit dX3_init_1 ww_181 ww_98 ww_obj ⟨Nat.le_of_ble_eq_true rfl, Nat.le_of_ble_eq_true rfl⟩ (by simp [Value.category]) ?_
  exact X.vret dX3_init_4 rfl
theorem hx_X2_init_14 {l : Launch} {D : va_G} {S0 : e_S} {g0 : e_G} (hn0 : S0.1 = 0) : CT l D (e_RR 2 0 0) M_X2_init [.ref 47] (e_of S0 g0 hx_97) none (e_of S0 g0 hx_97) := by
  refine CT.of (by decide +kernel) (Nat.le_of_ble_eq_true rfl) ?_
  show X l D (e_RR 2 0 0) M_X2_init 0 0 0 [(0, .ref 47)] [] (e_of S0 g0 hx_97) none (e_of S0 g0 hx_97)
  refine X.aload_n dX2_init_0 rfl (j := 0) rfl ?_
  refine X.callI (bc := 0) (bs := 0) (b := 47) (av := []) dX2_init_1 (hx_X3_init_15 hn0) cw_X2_1 rfl rfl mk_X3_init (e_R_ok (Nat.le_of_ble_eq_true rfl) (Nat.le_of_ble_eq_true rfl)) (by simp [Value.category]) (by show e_okl (S0.1 + _) (S0.1 + _) _ _ = true; rw [hn0]; rfl) ?_
  exact X.vret dX2_init_4 rfl
theorem hx_X3_init_17 {l : Launch} {D : va_G} {S0 : e_S} {g0 : e_G} (hn0 : S0.1 = 0) : CT l D (e_RR 1 0 0) M_X3_init [.ref 48] (e_of S0 g0 hx_99) none (e_of S0 g0 hx_99) := by
  refine CT.of (by decide +kernel) (Nat.le_of_ble_eq_true rfl) ?_
  show X l D (e_RR 1 0 0) M_X3_init 0 0 0 [(0, .ref 48)] [] (e_of S0 g0 hx_99) none (e_of S0 g0 hx_99)
  refine X.aload_n dX3_init_0 rfl (j := 0) rfl ?_
  refine X.objInit dX3_init_1 ww_181 ww_98 ww_obj ⟨Nat.le_of_ble_eq_true rfl, Nat.le_of_ble_eq_true rfl⟩ (by simp [Value.category]) ?_
  exact X.vret dX3_init_4 rfl
theorem hx_X8_init_16 {l : Launch} {D : va_G} {S0 : e_S} {g0 : e_G} (hn0 : S0.1 = 0) : CT l D (e_RR 2 0 0) M_X8_init [.ref 48] (e_of S0 g0 hx_99) none (e_of S0 g0 hx_99) := by
  refine CT.of (by decide +kernel) (Nat.le_of_ble_eq_true rfl) ?_
  show X l D (e_RR 2 0 0) M_X8_init 0 0 0 [(0, .ref 48)] [] (e_of S0 g0 hx_99) none (e_of S0 g0 hx_99)
  refine X.aload_n dX8_init_0 rfl (j := 0) rfl ?_
  refine X.callI (bc := 0) (bs := 0) (b := 48) (av := []) dX8_init_1 (hx_X3_init_17 hn0) cw_X8_1 rfl rfl mk_X3_init (e_R_ok (Nat.le_of_ble_eq_true rfl) (Nat.le_of_ble_eq_true rfl)) (by simp [Value.category]) (by show e_okl (S0.1 + _) (S0.1 + _) _ _ = true; rw [hn0]; rfl) ?_
  exact X.vret dX8_init_4 rfl
theorem hx_X3_init_20 {l : Launch} {D : va_G} {S0 : e_S} {g0 : e_G} (hn0 : S0.1 = 0) : CT l D (e_RR 1 0 0) M_X3_init [.ref 49] (e_of S0 g0 hx_101) none (e_of S0 g0 hx_101) := by
  refine CT.of (by decide +kernel) (Nat.le_of_ble_eq_true rfl) ?_
  show X l D (e_RR 1 0 0) M_X3_init 0 0 0 [(0, .ref 49)] [] (e_of S0 g0 hx_101) none (e_of S0 g0 hx_101)
  refine X.aload_n dX3_init_0 rfl (j := 0) rfl ?_
  refine X.objInit dX3_init_1 ww_181 ww_98 ww_obj ⟨Nat.le_of_ble_eq_true rfl, Nat.le_of_ble_eq_true rfl⟩ (by simp [Value.category]) ?_
  exact X.vret dX3_init_4 rfl
theorem hx_X2_init_19 {l : Launch} {D : va_G} {S0 : e_S} {g0 : e_G} (hn0 : S0.1 = 0) : CT l D (e_RR 2 0 0) M_X2_init [.ref 49] (e_of S0 g0 hx_101) none (e_of S0 g0 hx_101) := by
  refine CT.of (by decide +kernel) (Nat.le_of_ble_eq_true rfl) ?_
  show X l D (e_RR 2 0 0) M_X2_init 0 0 0 [(0, .ref 49)] [] (e_of S0 g0 hx_101) none (e_of S0 g0 hx_101)
  refine X.aload_n dX2_init_0 rfl (j := 0) rfl ?_
  refine X.callI (bc := 0) (bs := 0) (b := 49) (av := []) dX2_init_1 (hx_X3_init_20 hn0) cw_X2_1 rfl rfl mk_X3_init (e_R_ok (Nat.le_of_ble_eq_true rfl) (Nat.le_of_ble_eq_true rfl)) (by simp [Value.category]) (by show e_okl (S0.1 + _) (S0.1 + _) _ _ = true; rw [hn0]; rfl) ?_
  exact X.vret dX2_init_4 rfl
theorem hx_X0_init_18 {l : Launch} {D : va_G} {S0 : e_S} {g0 : e_G} (hn0 : S0.1 = 0) : CT l D (e_RR 3 0 0) M_X0_init [.ref 49] (e_of S0 g0 hx_101) none (e_of S0 g0 hx_101) := by
  refine CT.of (by decide +kernel) (Nat.le_of_ble_eq_true rfl) ?_
  show X l D (e_RR 3 0 0) M_X0_init 0 0 0 [(0, .ref 49)] [] (e_of S0 g0 hx_101) none (e_of S0 g0 hx_101)
  refine X.aload_n dX0_init_0 rfl (j := 0) rfl ?_
  refine X.callI (bc := 0) (bs := 0) (b := 49) (av := []) dX0_init_1 (hx_X2_init_19 hn0) cw_X0_1 rfl rfl mk_X2_init (e_R_ok (Nat.le_of_ble_eq_true rfl) (Nat.le_of_ble_eq_true rfl)) (by simp [Value.category]) (by show e_okl (S0.1 + _) (S0.1 + _) _ _ = true; rw [hn0]; rfl) ?_
  exact X.vret dX0_init_4 rfl
theorem hx_X3_init_23 {l : Launch} {D : va_G} {S0 : e_S} {g0 : e_G} (hn0 : S0.1 = 0) : CT l D (e_RR 1 0 0) M_X3_init [.ref 50] (e_of S0 g0 hx_103) none (e_of S0 g0 hx_103) := by
  refine CT.of (by decide +kernel) (Nat.le_of_ble_eq_true rfl) ?_
  show X l D (e_RR 1 0 0) M_X3_init 0 0 0 [(0, .ref 50)] [] (e_of S0 g0 hx_103) none (e_of S0 g0 hx_103)
  refine X.aload_n dX3_init_0 rfl (j := 0) rfl ?_
  refine X.objInit dX3_init_1 ww_181 ww_98 ww_obj ⟨Nat.le_of_ble_eq_true rfl, Nat.le_of_ble_eq_true rfl⟩ (by simp [Value.category]) ?_
  exact X.vret dX3_init_4 rfl
theorem hx_X8_init_22 {l : Launch} {D : va_G} {S0 : e_S} {g0 : e_G} (hn0 : S0.1 = 0) : CT l D (e_RR 2 0 0) M_X8_init [.ref 50] (e_of S0 g0 hx_103) none (e_of S0 g0 hx_103) := by
  refine CT.of (by decide +kernel) (Nat.le_of_ble_eq_true rfl) ?_
  show X l D (e_RR 2 0 0) M_X8_init 0 0 0 [(0, .ref 50)] [] (e_of S0 g0 hx_103) none (e_of S0 g0 hx_103)
  refine X.aload_n dX8_init_0 rfl (j := 0) rfl ?_
  refine X.callI (bc := 0) (bs := 0) (b := 50) (av := []) dX8_init_1 (hx_X3_init_23 hn0) cw_X8_1 rfl rfl mk_X3_init (e_R_ok (Nat.le_of_ble_eq_true rfl) (Nat.le_of_ble_eq_true rfl)) (by simp [Value.category]) (by show e_okl (S0.1 + _) (S0.1 + _) _ _ = true; rw [hn0]; rfl) ?_
  exact X.vret dX8_init_4 rfl
theorem hx_X1_init_21 {l : Launch} {D : va_G} {S0 : e_S} {g0 : e_G} (hn0 : S0.1 = 0) : CT l D (e_RR 3 0 0) M_X1_init [.ref 50] (e_of S0 g0 hx_103) none (e_of S0 g0 hx_103) := by
  refine CT.of (by decide +kernel) (Nat.le_of_ble_eq_true rfl) ?_
  show X l D (e_RR 3 0 0) M_X1_init 0 0 0 [(0, .ref 50)] [] (e_of S0 g0 hx_103) none (e_of S0 g0 hx_103)
  refine X.aload_n dX1_init_0 rfl (j := 0) rfl ?_
  refine X.callI (bc := 0) (bs := 0) (b := 50) (av := []) dX1_init_1 (hx_X8_init_22 hn0) cw_X1_1 rfl rfl mk_X8_init (e_R_ok (Nat.le_of_ble_eq_true rfl) (Nat.le_of_ble_eq_true rfl)) (by simp [Value.category]) (by show e_okl (S0.1 + _) (S0.1 + _) _ _ = true; rw [hn0]; rfl) ?_
  exact X.vret dX1_init_4 rfl
theorem hx_X3_init_25 {l : Launch} {D : va_G} {S0 : e_S} {g0 : e_G} (hn0 : S0.1 = 0) : CT l D (e_RR 1 0 0) M_X3_init [.ref 51] (e_of S0 g0 hx_105) none (e_of S0 g0 hx_105) := by
  refine CT.of (by decide +kernel) (Nat.le_of_ble_eq_true rfl) ?_
  show X l D (e_RR 1 0 0) M_X3_init 0 0 0 [(0, .ref 51)] [] (e_of S0 g0 hx_105) none (e_of S0 g0 hx_105)
  refine X.aload_n dX3_init_0 rfl (j := 0) rfl ?_
  refine X.objInit dX3_init_1 ww_181 ww_98 ww_obj ⟨Nat.le_of_ble_eq_true rfl, Nat.le_of_ble_eq_true rfl⟩ (by simp [Value.category]) ?_
  exact X.vret dX3_init_4 rfl
theorem hx_X4_init_24 {l : Launch} {D : va_G} {S0 : e_S} {g0 : e_G} (hn0 : S0.1 = 0) : CT l D (e_RR 2 0 0) M_X4_init [.ref 51] (e_of S0 g0 hx_105) none (e_of S0 g0 hx_105) := by
  refine CT.of (by decide +kernel) (Nat.le_of_ble_eq_true rfl) ?_
  show X l D (e_RR 2 0 0) M_X4_init 0 0 0 [(0, .ref 51)] [] (e_of S0 g0 hx_105) none (e_of S0 g0 hx_105)
  refine X.aload_n dX4_init_0 rfl (j := 0) rfl ?_
  refine X.callI (bc := 0) (bs := 0) (b := 51) (av := []) dX4_init_1 (hx_X3_init_25 hn0) cw_X4_1 rfl rfl mk_X3_init (e_R_ok (Nat.le_of_ble_eq_true rfl) (Nat.le_of_ble_eq_true rfl)) (by simp [Value.category]) (by show e_okl (S0.1 + _) (S0.1 + _) _ _ = true; rw [hn0]; rfl) ?_
  exact X.vret dX4_init_4 rfl
theorem hx_X7_init_26 {l : Launch} {D : va_G} {S0 : e_S} {g0 : e_G} (hn0 : S0.1 = 0) : CT l D (e_RR 1 7 42) M_X7_init [.ref 52, .ref 45, .ref 1] (e_of S0 g0 hx_107) none (e_of S0 g0 hx_123) := by
  refine CT.of (by decide +kernel) (Nat.le_of_ble_eq_true rfl) ?_
  show X l D (e_RR 1 7 42) M_X7_init 7 42 0 [(0, .ref 52), (1, .ref 45), (2, .ref 1)] [] (e_of S0 g0 hx_107) none (e_of S0 g0 hx_123)
  refine X.aload_n dX7_init_0 rfl (j := 0) rfl ?_
  refine X.objInit dX7_init_1 ww_223 ww_98 ww_obj ⟨Nat.le_of_ble_eq_true rfl, Nat.le_of_ble_eq_true rfl⟩ (by simp [Value.category]) ?_
  refine X.aload_n dX7_init_4 rfl (j := 0) rfl ?_
  refine X.bipush dX7_init_5 kB_6 ?_
  refine Z.newarr (bc := 6) (bs := 36) (kd := 0) (n0 := 53) (len := 6) dX7_init_7 (Or.inl ⟨rfl, rfl⟩) ww_156 (by decide) (by decide +kernel) (Nat.le_of_ble_eq_true rfl) (by rw [hn0]; rfl) (Nat.le_of_ble_eq_true rfl) rfl (cs' := hx_108) rfl ?_
  refine Z.putF (i := 52) dX7_init_9 fl_X7_9 rfl rfl rfl rfl (by omega) (by decide +kernel) (by rw [hn0]; exact Nat.le_of_ble_eq_true rfl) (cs' := hx_109) rfl ?_
  refine X.aload_n dX7_init_12 rfl (j := 0) rfl ?_
  refine X.bipush dX7_init_13 kB_6 ?_
  refine Z.newarr (bc := 5) (bs := 30) (kd := 0) (n0 := 54) (len := 6) dX7_init_15 (Or.inl ⟨rfl, rfl⟩) ww_156 (by decide) (by decide +kernel) (Nat.le_of_ble_eq_true rfl) (by rw [hn0]; rfl) (Nat.le_of_ble_eq_true rfl) rfl (cs' := hx_110) rfl ?_
  refine Z.putF (i := 52) dX7_init_17 fl_X7_15 rfl rfl rfl rfl (by omega) (by decide +kernel) (by rw [hn0]; exact Nat.le_of_ble_eq_true rfl) (cs' := hx_111) rfl ?_
  refine X.aload_n dX7_init_20 rfl (j := 0) rfl ?_
  refine X.bipush dX7_init_21 kB_6 ?_
  refine Z.newarr (bc := 4) (bs := 24) (kd := 0) (n0 := 55) (len := 6) dX7_init_23 (Or.inl ⟨rfl, rfl⟩) ww_156 (by decide) (by decide +kernel) (Nat.le_of_ble_eq_true rfl) (by rw [hn0]; rfl) (Nat.le_of_ble_eq_true rfl) rfl (cs' := hx_112) rfl ?_
  refine Z.putF (i := 52) dX7_init_25 fl_X7_18 rfl rfl rfl rfl (by omega) (by decide +kernel) (by rw [hn0]; exact Nat.le_of_ble_eq_true rfl) (cs' := hx_113) rfl ?_
  refine X.aload_n dX7_init_28 rfl (j := 0) rfl ?_
  refine X.bipush dX7_init_29 kB_6 ?_
  refine Z.newarr (bc := 3) (bs := 18) (kd := 0) (n0 := 56) (len := 6) dX7_init_31 (Or.inl ⟨rfl, rfl⟩) ww_156 (by decide) (by decide +kernel) (Nat.le_of_ble_eq_true rfl) (by rw [hn0]; rfl) (Nat.le_of_ble_eq_true rfl) rfl (cs' := hx_114) rfl ?_
  refine Z.putF (i := 52) dX7_init_33 fl_X7_21 rfl rfl rfl rfl (by omega) (by decide +kernel) (by rw [hn0]; exact Nat.le_of_ble_eq_true rfl) (cs' := hx_115) rfl ?_
  refine X.aload_n dX7_init_36 rfl (j := 0) rfl ?_
  refine X.bipush dX7_init_37 kB_6 ?_
  refine Z.newarr (bc := 2) (bs := 12) (kd := 0) (n0 := 57) (len := 6) dX7_init_39 (Or.inl ⟨rfl, rfl⟩) ww_156 (by decide) (by decide +kernel) (Nat.le_of_ble_eq_true rfl) (by rw [hn0]; rfl) (Nat.le_of_ble_eq_true rfl) rfl (cs' := hx_116) rfl ?_
  refine Z.putF (i := 52) dX7_init_41 fl_X7_24 rfl rfl rfl rfl (by omega) (by decide +kernel) (by rw [hn0]; exact Nat.le_of_ble_eq_true rfl) (cs' := hx_117) rfl ?_
  refine X.aload_n dX7_init_44 rfl (j := 0) rfl ?_
  refine X.bipush dX7_init_45 kB_6 ?_
  refine Z.newarr (bc := 1) (bs := 6) (kd := 1) (n0 := 58) (len := 6) dX7_init_47 (Or.inr ⟨rfl, rfl⟩) ww_270 (by decide) (by decide +kernel) (Nat.le_of_ble_eq_true rfl) (by rw [hn0]; rfl) (Nat.le_of_ble_eq_true rfl) rfl (cs' := hx_118) rfl ?_
  refine Z.putF (i := 52) dX7_init_49 fl_X7_27 rfl rfl rfl rfl (by omega) (by decide +kernel) (by rw [hn0]; exact Nat.le_of_ble_eq_true rfl) (cs' := hx_119) rfl ?_
  refine X.aload_n dX7_init_52 rfl (j := 0) rfl ?_
  refine X.bipush dX7_init_53 kB_6 ?_
  refine Z.newarr (bc := 0) (bs := 0) (kd := 0) (n0 := 59) (len := 6) dX7_init_55 (Or.inl ⟨rfl, rfl⟩) ww_156 (by decide) (by decide +kernel) (Nat.le_of_ble_eq_true rfl) (by rw [hn0]; rfl) (Nat.le_of_ble_eq_true rfl) rfl (cs' := hx_120) rfl ?_
  refine Z.putF (i := 52) dX7_init_57 fl_X7_31 rfl rfl rfl rfl (by omega) (by decide +kernel) (by rw [hn0]; exact Nat.le_of_ble_eq_true rfl) (cs' := hx_121) rfl ?_
  refine X.aload_n dX7_init_60 rfl (j := 0) rfl ?_
  refine X.aload_n dX7_init_61 rfl (j := 1) rfl ?_
  refine Z.putF (i := 52) dX7_init_62 fl_X7_34 rfl rfl rfl rfl (by omega) (by decide +kernel) (by rw [hn0]; exact Nat.le_of_ble_eq_true rfl) (cs' := hx_122) rfl ?_
  refine X.aload_n dX7_init_65 rfl (j := 0) rfl ?_
  refine X.aload_n dX7_init_66 rfl (j := 2) rfl ?_
  refine Z.putF (i := 52) dX7_init_67 fl_X7_38 rfl rfl rfl rfl (by omega) (by decide +kernel) (by rw [hn0]; exact Nat.le_of_ble_eq_true rfl) (cs' := hx_123) rfl ?_
  exact X.vret dX7_init_70 rfl
theorem hx_X7_init_27 {l : Launch} {D : va_G} {S0 : e_S} {g0 : e_G} (hn0 : S0.1 = 0) : CT l D (e_RR 1 7 42) M_X7_init [.ref 60, .ref 45, .ref 1] (e_of S0 g0 hx_125) none (e_of S0 g0 hx_141) := by
  refine CT.of (by decide +kernel) (Nat.le_of_ble_eq_true rfl) ?_
  show X l D (e_RR 1 7 42) M_X7_init 7 42 0 [(0, .ref 60), (1, .ref 45), (2, .ref 1)] [] (e_of S0 g0 hx_125) none (e_of S0 g0 hx_141)
  refine X.aload_n dX7_init_0 rfl (j := 0) rfl ?_
  refine X.objInit dX7_init_1 ww_223 ww_98 ww_obj ⟨Nat.le_of_ble_eq_true rfl, Nat.le_of_ble_eq_true rfl⟩ (by simp [Value.category]) ?_
  refine X.aload_n dX7_init_4 rfl (j := 0) rfl ?_
  refine X.bipush dX7_init_5 kB_6 ?_
  refine Z.newarr (bc := 6) (bs := 36) (kd := 0) (n0 := 61) (len := 6) dX7_init_7 (Or.inl ⟨rfl, rfl⟩) ww_156 (by decide) (by decide +kernel) (Nat.le_of_ble_eq_true rfl) (by rw [hn0]; rfl) (Nat.le_of_ble_eq_true rfl) rfl (cs' := hx_126) rfl ?_
  refine Z.putF (i := 60) dX7_init_9 fl_X7_9 rfl rfl rfl rfl (by omega) (by decide +kernel) (by rw [hn0]; exact Nat.le_of_ble_eq_true rfl) (cs' := hx_127) rfl ?_
  refine X.aload_n dX7_init_12 rfl (j := 0) rfl ?_
  refine X.bipush dX7_init_13 kB_6 ?_
  refine Z.newarr (bc := 5) (bs := 30) (kd := 0) (n0 := 62) (len := 6) dX7_init_15 (Or.inl ⟨rfl, rfl⟩) ww_156 (by decide) (by decide +kernel) (Nat.le_of_ble_eq_true rfl) (by rw [hn0]; rfl) (Nat.le_of_ble_eq_true rfl) rfl (cs' := hx_128) rfl ?_
  refine Z.putF (i := 60) dX7_init_17 fl_X7_15 rfl rfl rfl rfl (by omega) (by decide +kernel) (by rw [hn0]; exact Nat.le_of_ble_eq_true rfl) (cs' := hx_129) rfl ?_
  refine X.aload_n dX7_init_20 rfl (j := 0) rfl ?_
  refine X.bipush dX7_init_21 kB_6 ?_
  refine Z.newarr (bc := 4) (bs := 24) (kd := 0) (n0 := 63) (len := 6) dX7_init_23 (Or.inl ⟨rfl, rfl⟩) ww_156 (by decide) (by decide +kernel) (Nat.le_of_ble_eq_true rfl) (by rw [hn0]; rfl) (Nat.le_of_ble_eq_true rfl) rfl (cs' := hx_130) rfl ?_
  refine Z.putF (i := 60) dX7_init_25 fl_X7_18 rfl rfl rfl rfl (by omega) (by decide +kernel) (by rw [hn0]; exact Nat.le_of_ble_eq_true rfl) (cs' := hx_131) rfl ?_
  refine X.aload_n dX7_init_28 rfl (j := 0) rfl ?_
  refine X.bipush dX7_init_29 kB_6 ?_
  refine Z.newarr (bc := 3) (bs := 18) (kd := 0) (n0 := 64) (len := 6) dX7_init_31 (Or.inl ⟨rfl, rfl⟩) ww_156 (by decide) (by decide +kernel) (Nat.le_of_ble_eq_true rfl) (by rw [hn0]; rfl) (Nat.le_of_ble_eq_true rfl) rfl (cs' := hx_132) rfl ?_
  refine Z.putF (i := 60) dX7_init_33 fl_X7_21 rfl rfl rfl rfl (by omega) (by decide +kernel) (by rw [hn0]; exact Nat.le_of_ble_eq_true rfl) (cs' := hx_133) rfl ?_
  refine X.aload_n dX7_init_36 rfl (j := 0) rfl ?_
  refine X.bipush dX7_init_37 kB_6 ?_
  refine Z.newarr (bc := 2) (bs := 12) (kd := 0) (n0 := 65) (len := 6) dX7_init_39 (Or.inl ⟨rfl, rfl⟩) ww_156 (by decide) (by decide +kernel) (Nat.le_of_ble_eq_true rfl) (by rw [hn0]; rfl) (Nat.le_of_ble_eq_true rfl) rfl (cs' := hx_134) rfl ?_
  refine Z.putF (i := 60) dX7_init_41 fl_X7_24 rfl rfl rfl rfl (by omega) (by decide +kernel) (by rw [hn0]; exact Nat.le_of_ble_eq_true rfl) (cs' := hx_135) rfl ?_
  refine X.aload_n dX7_init_44 rfl (j := 0) rfl ?_
  refine X.bipush dX7_init_45 kB_6 ?_
  refine Z.newarr (bc := 1) (bs := 6) (kd := 1) (n0 := 66) (len := 6) dX7_init_47 (Or.inr ⟨rfl, rfl⟩) ww_270 (by decide) (by decide +kernel) (Nat.le_of_ble_eq_true rfl) (by rw [hn0]; rfl) (Nat.le_of_ble_eq_true rfl) rfl (cs' := hx_136) rfl ?_
  refine Z.putF (i := 60) dX7_init_49 fl_X7_27 rfl rfl rfl rfl (by omega) (by decide +kernel) (by rw [hn0]; exact Nat.le_of_ble_eq_true rfl) (cs' := hx_137) rfl ?_
  refine X.aload_n dX7_init_52 rfl (j := 0) rfl ?_
  refine X.bipush dX7_init_53 kB_6 ?_
  refine Z.newarr (bc := 0) (bs := 0) (kd := 0) (n0 := 67) (len := 6) dX7_init_55 (Or.inl ⟨rfl, rfl⟩) ww_156 (by decide) (by decide +kernel) (Nat.le_of_ble_eq_true rfl) (by rw [hn0]; rfl) (Nat.le_of_ble_eq_true rfl) rfl (cs' := hx_138) rfl ?_
  refine Z.putF (i := 60) dX7_init_57 fl_X7_31 rfl rfl rfl rfl (by omega) (by decide +kernel) (by rw [hn0]; exact Nat.le_of_ble_eq_true rfl) (cs' := hx_139) rfl ?_
  refine X.aload_n dX7_init_60 rfl (j := 0) rfl ?_
  refine X.aload_n dX7_init_61 rfl (j := 1) rfl ?_
  refine Z.putF (i := 60) dX7_init_62 fl_X7_34 rfl rfl rfl rfl (by omega) (by decide +kernel) (by rw [hn0]; exact Nat.le_of_ble_eq_true rfl) (cs' := hx_140) rfl ?_
  refine X.aload_n dX7_init_65 rfl (j := 0) rfl ?_
  refine X.aload_n dX7_init_66 rfl (j := 2) rfl ?_
  refine Z.putF (i := 60) dX7_init_67 fl_X7_38 rfl rfl rfl rfl (by omega) (by decide +kernel) (by rw [hn0]; exact Nat.le_of_ble_eq_true rfl) (cs' := hx_141) rfl ?_
  exact X.vret dX7_init_70 rfl
theorem hx_X7_init_28 {l : Launch} {D : va_G} {S0 : e_S} {g0 : e_G} (hn0 : S0.1 = 0) : CT l D (e_RR 1 7 42) M_X7_init [.ref 68, .ref 45, .ref 1] (e_of S0 g0 hx_143) none (e_of S0 g0 hx_159) := by
  refine CT.of (by decide +kernel) (Nat.le_of_ble_eq_true rfl) ?_
  show X l D (e_RR 1 7 42) M_X7_init 7 42 0 [(0, .ref 68), (1, .ref 45), (2, .ref 1)] [] (e_of S0 g0 hx_143) none (e_of S0 g0 hx_159)
  refine X.aload_n dX7_init_0 rfl (j := 0) rfl ?_
  refine X.objInit dX7_init_1 ww_223 ww_98 ww_obj ⟨Nat.le_of_ble_eq_true rfl, Nat.le_of_ble_eq_true rfl⟩ (by simp [Value.category]) ?_
  refine X.aload_n dX7_init_4 rfl (j := 0) rfl ?_
  refine X.bipush dX7_init_5 kB_6 ?_
  refine Z.newarr (bc := 6) (bs := 36) (kd := 0) (n0 := 69) (len := 6) dX7_init_7 (Or.inl ⟨rfl, rfl⟩) ww_156 (by decide) (by decide +kernel) (Nat.le_of_ble_eq_true rfl) (by rw [hn0]; rfl) (Nat.le_of_ble_eq_true rfl) rfl (cs' := hx_144) rfl ?_
  refine Z.putF (i := 68) dX7_init_9 fl_X7_9 rfl rfl rfl rfl (by omega) (by decide +kernel) (by rw [hn0]; exact Nat.le_of_ble_eq_true rfl) (cs' := hx_145) rfl ?_
  refine X.aload_n dX7_init_12 rfl (j := 0) rfl ?_
  refine X.bipush dX7_init_13 kB_6 ?_
  refine Z.newarr (bc := 5) (bs := 30) (kd := 0) (n0 := 70) (len := 6) dX7_init_15 (Or.inl ⟨rfl, rfl⟩) ww_156 (by decide) (by decide +kernel) (Nat.le_of_ble_eq_true rfl) (by rw [hn0]; rfl) (Nat.le_of_ble_eq_true rfl) rfl (cs' := hx_146) rfl ?_
  refine Z.putF (i := 68) dX7_init_17 fl_X7_15 rfl rfl rfl rfl (by omega) (by decide +kernel) (by rw [hn0]; exact Nat.le_of_ble_eq_true rfl) (cs' := hx_147) rfl ?_
  refine X.aload_n dX7_init_20 rfl (j := 0) rfl ?_
  refine X.bipush dX7_init_21 kB_6 ?_
  refine Z.newarr (bc := 4) (bs := 24) (kd := 0) (n0 := 71) (len := 6) dX7_init_23 (Or.inl ⟨rfl, rfl⟩) ww_156 (by decide) (by decide +kernel) (Nat.le_of_ble_eq_true rfl) (by rw [hn0]; rfl) (Nat.le_of_ble_eq_true rfl) rfl (cs' := hx_148) rfl ?_
  refine Z.putF (i := 68) dX7_init_25 fl_X7_18 rfl rfl rfl rfl (by omega) (by decide +kernel) (by rw [hn0]; exact Nat.le_of_ble_eq_true rfl) (cs' := hx_149) rfl ?_
  refine X.aload_n dX7_init_28 rfl (j := 0) rfl ?_
  refine X.bipush dX7_init_29 kB_6 ?_
  refine Z.newarr (bc := 3) (bs := 18) (kd := 0) (n0 := 72) (len := 6) dX7_init_31 (Or.inl ⟨rfl, rfl⟩) ww_156 (by decide) (by decide +kernel) (Nat.le_of_ble_eq_true rfl) (by rw [hn0]; rfl) (Nat.le_of_ble_eq_true rfl) rfl (cs' := hx_150) rfl ?_
  refine Z.putF (i := 68) dX7_init_33 fl_X7_21 rfl rfl rfl rfl (by omega) (by decide +kernel) (by rw [hn0]; exact Nat.le_of_ble_eq_true rfl) (cs' := hx_151) rfl ?_
  refine X.aload_n dX7_init_36 rfl (j := 0) rfl ?_
  refine X.bipush dX7_init_37 kB_6 ?_
  refine Z.newarr (bc := 2) (bs := 12) (kd := 0) (n0 := 73) (len := 6) dX7_init_39 (Or.inl ⟨rfl, rfl⟩) ww_156 (by decide) (by decide +kernel) (Nat.le_of_ble_eq_true rfl) (by rw [hn0]; rfl) (Nat.le_of_ble_eq_true rfl) rfl (cs' := hx_152) rfl ?_
  refine Z.putF (i := 68) dX7_init_41 fl_X7_24 rfl rfl rfl rfl (by omega) (by decide +kernel) (by rw [hn0]; exact Nat.le_of_ble_eq_true rfl) (cs' := hx_153) rfl ?_
  refine X.aload_n dX7_init_44 rfl (j := 0) rfl ?_
  refine X.bipush dX7_init_45 kB_6 ?_
  refine Z.newarr (bc := 1) (bs := 6) (kd := 1) (n0 := 74) (len := 6) dX7_init_47 (Or.inr ⟨rfl, rfl⟩) ww_270 (by decide) (by decide +kernel) (Nat.le_of_ble_eq_true rfl) (by rw [hn0]; rfl) (Nat.le_of_ble_eq_true rfl) rfl (cs' := hx_154) rfl ?_
  refine Z.putF (i := 68) dX7_init_49 fl_X7_27 rfl rfl rfl rfl (by omega) (by decide +kernel) (by rw [hn0]; exact Nat.le_of_ble_eq_true rfl) (cs' := hx_155) rfl ?_
  refine X.aload_n dX7_init_52 rfl (j := 0) rfl ?_
  refine X.bipush dX7_init_53 kB_6 ?_
  refine Z.newarr (bc := 0) (bs := 0) (kd := 0) (n0 := 75) (len := 6) dX7_init_55 (Or.inl ⟨rfl, rfl⟩) ww_156 (by decide) (by decide +kernel) (Nat.le_of_ble_eq_true rfl) (by rw [hn0]; rfl) (Nat.le_of_ble_eq_true rfl) rfl (cs' := hx_156) rfl ?_
  refine Z.putF (i := 68) dX7_init_57 fl_X7_31 rfl rfl rfl rfl (by omega) (by decide +kernel) (by rw [hn0]; exact Nat.le_of_ble_eq_true rfl) (cs' := hx_157) rfl ?_
  refine X.aload_n dX7_init_60 rfl (j := 0) rfl ?_
  refine X.aload_n dX7_init_61 rfl (j := 1) rfl ?_
  refine Z.putF (i := 68) dX7_init_62 fl_X7_34 rfl rfl rfl rfl (by omega) (by decide +kernel) (by rw [hn0]; exact Nat.le_of_ble_eq_true rfl) (cs' := hx_158) rfl ?_
  refine X.aload_n dX7_init_65 rfl (j := 0) rfl ?_
  refine X.aload_n dX7_init_66 rfl (j := 2) rfl ?_
  refine Z.putF (i := 68) dX7_init_67 fl_X7_38 rfl rfl rfl rfl (by omega) (by decide +kernel) (by rw [hn0]; exact Nat.le_of_ble_eq_true rfl) (cs' := hx_159) rfl ?_
  exact X.vret dX7_init_70 rfl
def J_X10_init_260 (S : e_S) (l0 : Nat) (g : e_G) : Option (e_G) :=
  (e_gR S g 10 l0 5).bind fun v1 =>
  (e_gR S g 10 l0 6).bind fun v3 =>
  (f_str_length 1000000).bind fun v6 =>
  (e_gR S g 10 l0 0).bind fun v7 =>
  (e_aR S g 2 v7 (0 : Int32)).bind fun v9 =>
  (f_X5_readAll S v1 v3 v6 v9 g).bind fun q12 =>
  (e_sI S q12.2 10 l0 9 (1 : Int32)).bind fun g13 =>
  some g13
def L_X10_init_226 : Nat → e_S → Nat → Int32 → e_G → Option (e_G)
  | 0, _, _, _, _ => none
  | n + 1, S, l0, l2, g =>
  (f_str_length 1000000).bind fun v2 =>
  if v2 ≤ l2 then
    J_X10_init_260 S l0 g
  else
    if (160 : Int32) ≤ l2 then
      J_X10_init_260 S l0 g
    else
      (e_gR S g 10 l0 6).bind fun v3 =>
      (f_str_charAt 1000000 l2).bind fun v6 =>
      (e_aS S g 0 v3 l2 v6).bind fun g7 =>
      L_X10_init_226 n S l0 (l2 + (1 : Int32)) g7
def J_X10_init_224 (S : e_S) (l0 : Nat) (g : e_G) : Option (e_G) :=
  L_X10_init_226 50000 S l0 (0 : Int32) g
theorem x_J_X10_init_260 {l : Launch} {D : va_G} {S : e_S} {k : e_G} {l0 : Nat} {g : e_G} (hf : J_X10_init_260 S l0 g = some k) : X l D (e_RR 74 75 3458) M_X10_init 0 0 260 [(0, .ref l0)] [] (S, g) none (S, k) := by
  unfold J_X10_init_260 at hf
  refine X.aload_n dX10_init_260 rfl (j := 0) rfl ?_
  obtain ⟨v1, h2, hf⟩ := ob hf
  refine Y.getR dX10_init_261 fl_X10_24 rfl h2 ?_
  refine X.aload_n dX10_init_264 rfl (j := 0) rfl ?_
  obtain ⟨v3, h4, hf⟩ := ob hf
  refine Y.getR dX10_init_265 fl_X10_28 rfl h4 ?_
  refine X.ldcS (i := 0) dX10_init_268 rfl ?_
  obtain ⟨v6, h5, hf⟩ := ob hf
  refine Y.str_length dX10_init_270 cw_X10_75 (Nat.le_of_ble_eq_true rfl) (by simp [Value.category]) h5 ?_
  refine X.aload_n dX10_init_273 rfl (j := 0) rfl ?_
  obtain ⟨v7, h8, hf⟩ := ob hf
  refine Y.getR dX10_init_274 fl_X10_11 rfl h8 ?_
  refine X.iconst dX10_init_277 kI_0 ?_
  obtain ⟨v9, h10, hf⟩ := ob hf
  refine Y.aald dX10_init_278 (kd := 2) (by decide) h10 ?_
  obtain ⟨q12, h11, hf⟩ := ob hf
  refine Y.callV (av := [.ref v3, .int v6, .ref v9]) (ci := 5) dX10_init_279 (c_X5_readAll (l := l) (D := D) (w := q12.1) (k := q12.2) h11) cw_X10_85 (by decide) rfl mk_X5_readAll (o_X5_readAll (w := q12.1) (k := q12.2) h11) (e_R_ok (Nat.le_of_ble_eq_true rfl) (Nat.le_of_ble_eq_true rfl)) ⟨rfl, rfl⟩ (by simp [Value.category]) ?_
  refine X.pop dX10_init_282 rfl ?_
  refine X.aload_n dX10_init_283 rfl (j := 0) rfl ?_
  refine X.iconst dX10_init_284 kI_1 ?_
  obtain ⟨g13, h14, hf⟩ := ob hf
  refine Y.putI dX10_init_285 fl_X10_89 rfl rfl rfl rfl h14 ?_
  have e1 := Option.some.inj hf
  subst e1
  exact X.vret dX10_init_288 rfl
theorem x_L_X10_init_226 {l : Launch} {D : va_G} {S : e_S} {k : e_G} : ∀ (n : Nat) (l0 : Nat) (l2 : Int32) (g : e_G), L_X10_init_226 n S l0 l2 g = some k → X l D (e_RR 74 75 3458) M_X10_init 0 0 226 [(0, .ref l0), (2, .int l2)] [] (S, g) none (S, k) := by
  intro n
  induction n with
  | zero =>
    intro l0 l2 g hf
    cases hf
  | succ n ih =>
    intro l0 l2 g hf
    rw [L_X10_init_226] at hf
    refine X.iload_n dX10_init_226 rfl (j := 1) rfl ?_
    refine X.ldcS (i := 0) dX10_init_227 rfl ?_
    obtain ⟨v2, h1, hf⟩ := ob hf
    refine Y.str_length dX10_init_229 cw_X10_75 (Nat.le_of_ble_eq_true rfl) (by simp [Value.category]) h1 ?_
    refine X.icmp_ge dX10_init_232 (tgt := 260) rfl (fun hc => ?_) (fun hc => ?_)
    · rw [if_pos hc] at hf
      refine X.sub [0] rfl ?_
      exact x_J_X10_init_260 hf
    · rw [if_neg hc] at hf
      refine X.iload_n dX10_init_235 rfl (j := 1) rfl ?_
      refine X.sipush dX10_init_236 kS_160 ?_
      refine X.icmp_ge dX10_init_239 (tgt := 260) rfl (fun hc => ?_) (fun hc => ?_)
      · rw [if_pos hc] at hf
        refine X.sub [0] rfl ?_
        exact x_J_X10_init_260 hf
      · rw [if_neg hc] at hf
        refine X.aload_n dX10_init_242 rfl (j := 0) rfl ?_
        obtain ⟨v3, h4, hf⟩ := ob hf
        refine Y.getR dX10_init_243 fl_X10_28 rfl h4 ?_
        refine X.iload_n dX10_init_246 rfl (j := 1) rfl ?_
        refine X.ldcS (i := 0) dX10_init_247 rfl ?_
        refine X.iload_n dX10_init_249 rfl (j := 1) rfl ?_
        obtain ⟨v6, h5, hf⟩ := ob hf
        refine Y.str_charAt dX10_init_250 cw_X10_81 (Nat.le_of_ble_eq_true rfl) (by simp [Value.category]) h5 ?_
        obtain ⟨g7, h8, hf⟩ := ob hf
        refine Y.iast dX10_init_253 h8 ?_
        refine X.iinc (j := 1) dX10_init_254 rfl (v := l2 + (1 : Int32)) (by rw [kI_1]) (Nat.le_of_ble_eq_true rfl) (lc' := [(2, .int (l2 + (1 : Int32))), (0, .ref l0)]) rfl ?_
        refine X.goto dX10_init_257 (tgt := 226) rfl ?_
        refine X.sub [1, 0] rfl ?_
        exact ih _ _ _ hf
theorem x_J_X10_init_224 {l : Launch} {D : va_G} {S : e_S} {k : e_G} {l0 : Nat} {g : e_G} (hf : J_X10_init_224 S l0 g = some k) : X l D (e_RR 74 75 3458) M_X10_init 0 0 224 [(0, .ref l0)] [] (S, g) none (S, k) := by
  unfold J_X10_init_224 at hf
  refine X.iconst dX10_init_224 kI_0 ?_
  refine X.istore_n dX10_init_225 rfl (Nat.le_of_ble_eq_true rfl) (lc' := [(2, .int (0 : Int32)), (0, .ref l0)]) rfl ?_
  refine X.sub [1, 0] rfl ?_
  exact x_L_X10_init_226 50000 _ _ _ hf
theorem c_X10_init {l : Launch} {D : va_G} {S0 : e_S} {g0 k : e_G} (hn0 : S0.1 = 0) (hf : J_X10_init_224 (e_of S0 g0 hx_160).1 0 (e_of S0 g0 hx_160).2 = some k) : CT l D (e_RR 74 75 3458) M_X10_init [.ref 0] (e_of S0 g0 hx_1) none ((e_of S0 g0 hx_160).1, k) := by
  refine CT.of (by decide +kernel) (Nat.le_of_ble_eq_true rfl) ?_
  show X l D (e_RR 74 75 3458) M_X10_init 75 3458 0 [(0, .ref 0)] [] (e_of S0 g0 hx_1) none _
  refine X.aload_n dX10_init_0 rfl (j := 0) rfl ?_
  refine X.objInit dX10_init_1 ww_97 ww_98 ww_obj ⟨Nat.le_of_ble_eq_true rfl, Nat.le_of_ble_eq_true rfl⟩ (by simp [Value.category]) ?_
  refine X.aload_n dX10_init_4 rfl (j := 0) rfl ?_
  refine X.bipush dX10_init_5 kB_6 ?_
  refine Z.anew (bc := 74) (bs := 3452) (kd := 2) (n0 := 1) (len := 6) dX10_init_7 (by decide) rfl (by decide) ww_100 (by decide) (by decide +kernel) (Nat.le_of_ble_eq_true rfl) (by rw [hn0]; rfl) (Nat.le_of_ble_eq_true rfl) rfl (cs' := hx_2) rfl ?_
  refine Z.putF (i := 0) dX10_init_10 fl_X10_11 rfl rfl rfl rfl (by omega) (by decide +kernel) (by rw [hn0]; exact Nat.le_of_ble_eq_true rfl) (cs' := hx_3) rfl ?_
  refine X.aload_n dX10_init_13 rfl (j := 0) rfl ?_
  refine X.iconst dX10_init_14 kI_4 ?_
  refine Z.anew (bc := 73) (bs := 3448) (kd := 4) (n0 := 2) (len := 4) dX10_init_15 (by decide) rfl (by decide) ww_102 (by decide) (by decide +kernel) (Nat.le_of_ble_eq_true rfl) (by rw [hn0]; rfl) (Nat.le_of_ble_eq_true rfl) rfl (cs' := hx_4) rfl ?_
  refine Z.putF (i := 0) dX10_init_18 fl_X10_17 rfl rfl rfl rfl (by omega) (by decide +kernel) (by rw [hn0]; exact Nat.le_of_ble_eq_true rfl) (cs' := hx_5) rfl ?_
  refine X.aload_n dX10_init_21 rfl (j := 0) rfl ?_
  refine Z.new (bc := 72) (bs := 3440) (ci := 5) (n0 := 3) (len := 8) dX10_init_22 (by decide) rfl ww_104 ww_105 ww_74 (by rw [hn0]; rfl) (Nat.le_of_ble_eq_true rfl) rfl (cs' := hx_6) rfl ?_
  refine X.dup dX10_init_25 rfl ?_
  refine X.callI (bc := 72) (bs := 3440) (b := 3) (av := []) dX10_init_26 (hx_X5_init_2 hn0) cw_X10_23 rfl rfl mk_X5_init (e_R_ok (Nat.le_of_ble_eq_true rfl) (Nat.le_of_ble_eq_true rfl)) (by simp [Value.category]) (by show e_okl (S0.1 + _) (S0.1 + _) _ _ = true; rw [hn0]; rfl) ?_
  refine Z.putF (i := 0) dX10_init_29 fl_X10_24 rfl rfl rfl rfl (by omega) (by decide +kernel) (by rw [hn0]; exact Nat.le_of_ble_eq_true rfl) (cs' := hx_7) rfl ?_
  refine X.aload_n dX10_init_32 rfl (j := 0) rfl ?_
  refine X.sipush dX10_init_33 kS_160 ?_
  refine Z.newarr (bc := 71) (bs := 3280) (kd := 0) (n0 := 4) (len := 160) dX10_init_36 (Or.inl ⟨rfl, rfl⟩) ww_156 (by decide) (by decide +kernel) (Nat.le_of_ble_eq_true rfl) (by rw [hn0]; rfl) (Nat.le_of_ble_eq_true rfl) rfl (cs' := hx_8) rfl ?_
  refine Z.putF (i := 0) dX10_init_38 fl_X10_28 rfl rfl rfl rfl (by omega) (by decide +kernel) (by rw [hn0]; exact Nat.le_of_ble_eq_true rfl) (cs' := hx_9) rfl ?_
  refine X.aload_n dX10_init_41 rfl (j := 0) rfl ?_
  refine X.bipush dX10_init_42 kB_6 ?_
  refine Z.newarr (bc := 70) (bs := 3274) (kd := 0) (n0 := 5) (len := 6) dX10_init_44 (Or.inl ⟨rfl, rfl⟩) ww_156 (by decide) (by decide +kernel) (Nat.le_of_ble_eq_true rfl) (by rw [hn0]; rfl) (Nat.le_of_ble_eq_true rfl) rfl (cs' := hx_10) rfl ?_
  refine Z.putF (i := 0) dX10_init_46 fl_X10_32 rfl rfl rfl rfl (by omega) (by decide +kernel) (by rw [hn0]; exact Nat.le_of_ble_eq_true rfl) (cs' := hx_11) rfl ?_
  refine X.aload_n dX10_init_49 rfl (j := 0) rfl ?_
  refine X.bipush dX10_init_50 kB_6 ?_
  refine Z.newarr (bc := 69) (bs := 3268) (kd := 0) (n0 := 6) (len := 6) dX10_init_52 (Or.inl ⟨rfl, rfl⟩) ww_156 (by decide) (by decide +kernel) (Nat.le_of_ble_eq_true rfl) (by rw [hn0]; rfl) (Nat.le_of_ble_eq_true rfl) rfl (cs' := hx_12) rfl ?_
  refine Z.putF (i := 0) dX10_init_54 fl_X10_35 rfl rfl rfl rfl (by omega) (by decide +kernel) (by rw [hn0]; exact Nat.le_of_ble_eq_true rfl) (cs' := hx_13) rfl ?_
  refine X.iconst dX10_init_57 kI_0 ?_
  refine X.istore_n dX10_init_58 rfl (Nat.le_of_ble_eq_true rfl) (lc' := [(1, .int (0)), (0, .ref 0)]) rfl ?_
  refine X.iload_n dX10_init_59 rfl (j := 0) rfl ?_
  refine X.bipush dX10_init_60 kB_6 ?_
  refine X.icmp_ge dX10_init_62 (tgt := 84) rfl (fun hc => absurd hc (by decide)) (fun _ => ?_)
  refine X.aload_n dX10_init_65 rfl (j := 1) rfl ?_
  refine Z.getR (i := 0) (b := 1) dX10_init_66 fl_X10_11 rfl (by omega) (by decide +kernel) (by decide +kernel) ?_
  refine X.iload_n dX10_init_69 rfl (j := 0) rfl ?_
  refine Z.new (bc := 68) (bs := 3263) (ci := 9) (n0 := 7) (len := 5) dX10_init_70 (by decide) rfl ww_100 ww_135 ww_75 (by rw [hn0]; rfl) (Nat.le_of_ble_eq_true rfl) rfl (cs' := hx_14) rfl ?_
  refine X.dup dX10_init_73 rfl ?_
  refine X.callI (bc := 64) (bs := 2780) (b := 7) (av := []) dX10_init_74 (hx_X9_init_3 hn0) cw_X10_38 rfl rfl mk_X9_init (e_R_ok (Nat.le_of_ble_eq_true rfl) (Nat.le_of_ble_eq_true rfl)) (by simp [Value.category]) (by show e_okl (S0.1 + _) (S0.1 + _) _ _ = true; rw [hn0]; rfl) ?_
  refine Z.aast (i := 1) (ib := 7) (ci := 9) (kd := 2) (len := 6) (jn := 0) dX10_init_77 (by decide) (by decide) (Or.inl rfl) (by omega) (by decide +kernel) (by omega) (by decide +kernel) (by decide +kernel) (by decide +kernel) (cs' := hx_23) rfl ?_
  refine X.iinc (j := 0) dX10_init_78 rfl (v := 1) (by decide +kernel) (Nat.le_of_ble_eq_true rfl) (lc' := [(1, .int (1)), (0, .ref 0)]) rfl ?_
  refine X.goto dX10_init_81 (tgt := 59) rfl ?_
  refine X.iload_n dX10_init_59 rfl (j := 0) rfl ?_
  refine X.bipush dX10_init_60 kB_6 ?_
  refine X.icmp_ge dX10_init_62 (tgt := 84) rfl (fun hc => absurd hc (by decide)) (fun _ => ?_)
  refine X.aload_n dX10_init_65 rfl (j := 1) rfl ?_
  refine Z.getR (i := 0) (b := 1) dX10_init_66 fl_X10_11 rfl (by omega) (by decide +kernel) (by decide +kernel) ?_
  refine X.iload_n dX10_init_69 rfl (j := 0) rfl ?_
  refine Z.new (bc := 63) (bs := 2775) (ci := 9) (n0 := 12) (len := 5) dX10_init_70 (by decide) rfl ww_100 ww_135 ww_75 (by rw [hn0]; rfl) (Nat.le_of_ble_eq_true rfl) rfl (cs' := hx_24) rfl ?_
  refine X.dup dX10_init_73 rfl ?_
  refine X.callI (bc := 59) (bs := 2292) (b := 12) (av := []) dX10_init_74 (hx_X9_init_4 hn0) cw_X10_38 rfl rfl mk_X9_init (e_R_ok (Nat.le_of_ble_eq_true rfl) (Nat.le_of_ble_eq_true rfl)) (by simp [Value.category]) (by show e_okl (S0.1 + _) (S0.1 + _) _ _ = true; rw [hn0]; rfl) ?_
  refine Z.aast (i := 1) (ib := 12) (ci := 9) (kd := 2) (len := 6) (jn := 1) dX10_init_77 (by decide) (by decide) (Or.inl rfl) (by omega) (by decide +kernel) (by omega) (by decide +kernel) (by decide +kernel) (by decide +kernel) (cs' := hx_33) rfl ?_
  refine X.iinc (j := 0) dX10_init_78 rfl (v := 2) (by decide +kernel) (Nat.le_of_ble_eq_true rfl) (lc' := [(1, .int (2)), (0, .ref 0)]) rfl ?_
  refine X.goto dX10_init_81 (tgt := 59) rfl ?_
  refine X.iload_n dX10_init_59 rfl (j := 0) rfl ?_
  refine X.bipush dX10_init_60 kB_6 ?_
  refine X.icmp_ge dX10_init_62 (tgt := 84) rfl (fun hc => absurd hc (by decide)) (fun _ => ?_)
  refine X.aload_n dX10_init_65 rfl (j := 1) rfl ?_
  refine Z.getR (i := 0) (b := 1) dX10_init_66 fl_X10_11 rfl (by omega) (by decide +kernel) (by decide +kernel) ?_
  refine X.iload_n dX10_init_69 rfl (j := 0) rfl ?_
  refine Z.new (bc := 58) (bs := 2287) (ci := 9) (n0 := 17) (len := 5) dX10_init_70 (by decide) rfl ww_100 ww_135 ww_75 (by rw [hn0]; rfl) (Nat.le_of_ble_eq_true rfl) rfl (cs' := hx_34) rfl ?_
  refine X.dup dX10_init_73 rfl ?_
  refine X.callI (bc := 54) (bs := 1804) (b := 17) (av := []) dX10_init_74 (hx_X9_init_5 hn0) cw_X10_38 rfl rfl mk_X9_init (e_R_ok (Nat.le_of_ble_eq_true rfl) (Nat.le_of_ble_eq_true rfl)) (by simp [Value.category]) (by show e_okl (S0.1 + _) (S0.1 + _) _ _ = true; rw [hn0]; rfl) ?_
  refine Z.aast (i := 1) (ib := 17) (ci := 9) (kd := 2) (len := 6) (jn := 2) dX10_init_77 (by decide) (by decide) (Or.inl rfl) (by omega) (by decide +kernel) (by omega) (by decide +kernel) (by decide +kernel) (by decide +kernel) (cs' := hx_43) rfl ?_
  refine X.iinc (j := 0) dX10_init_78 rfl (v := 3) (by decide +kernel) (Nat.le_of_ble_eq_true rfl) (lc' := [(1, .int (3)), (0, .ref 0)]) rfl ?_
  refine X.goto dX10_init_81 (tgt := 59) rfl ?_
  refine X.iload_n dX10_init_59 rfl (j := 0) rfl ?_
  refine X.bipush dX10_init_60 kB_6 ?_
  refine X.icmp_ge dX10_init_62 (tgt := 84) rfl (fun hc => absurd hc (by decide)) (fun _ => ?_)
  refine X.aload_n dX10_init_65 rfl (j := 1) rfl ?_
  refine Z.getR (i := 0) (b := 1) dX10_init_66 fl_X10_11 rfl (by omega) (by decide +kernel) (by decide +kernel) ?_
  refine X.iload_n dX10_init_69 rfl (j := 0) rfl ?_
  refine Z.new (bc := 53) (bs := 1799) (ci := 9) (n0 := 22) (len := 5) dX10_init_70 (by decide) rfl ww_100 ww_135 ww_75 (by rw [hn0]; rfl) (Nat.le_of_ble_eq_true rfl) rfl (cs' := hx_44) rfl ?_
  refine X.dup dX10_init_73 rfl ?_
  refine X.callI (bc := 49) (bs := 1316) (b := 22) (av := []) dX10_init_74 (hx_X9_init_6 hn0) cw_X10_38 rfl rfl mk_X9_init (e_R_ok (Nat.le_of_ble_eq_true rfl) (Nat.le_of_ble_eq_true rfl)) (by simp [Value.category]) (by show e_okl (S0.1 + _) (S0.1 + _) _ _ = true; rw [hn0]; rfl) ?_
  refine Z.aast (i := 1) (ib := 22) (ci := 9) (kd := 2) (len := 6) (jn := 3) dX10_init_77 (by decide) (by decide) (Or.inl rfl) (by omega) (by decide +kernel) (by omega) (by decide +kernel) (by decide +kernel) (by decide +kernel) (cs' := hx_53) rfl ?_
  refine X.iinc (j := 0) dX10_init_78 rfl (v := 4) (by decide +kernel) (Nat.le_of_ble_eq_true rfl) (lc' := [(1, .int (4)), (0, .ref 0)]) rfl ?_
  refine X.goto dX10_init_81 (tgt := 59) rfl ?_
  refine X.iload_n dX10_init_59 rfl (j := 0) rfl ?_
  refine X.bipush dX10_init_60 kB_6 ?_
  refine X.icmp_ge dX10_init_62 (tgt := 84) rfl (fun hc => absurd hc (by decide)) (fun _ => ?_)
  refine X.aload_n dX10_init_65 rfl (j := 1) rfl ?_
  refine Z.getR (i := 0) (b := 1) dX10_init_66 fl_X10_11 rfl (by omega) (by decide +kernel) (by decide +kernel) ?_
  refine X.iload_n dX10_init_69 rfl (j := 0) rfl ?_
  refine Z.new (bc := 48) (bs := 1311) (ci := 9) (n0 := 27) (len := 5) dX10_init_70 (by decide) rfl ww_100 ww_135 ww_75 (by rw [hn0]; rfl) (Nat.le_of_ble_eq_true rfl) rfl (cs' := hx_54) rfl ?_
  refine X.dup dX10_init_73 rfl ?_
  refine X.callI (bc := 44) (bs := 828) (b := 27) (av := []) dX10_init_74 (hx_X9_init_7 hn0) cw_X10_38 rfl rfl mk_X9_init (e_R_ok (Nat.le_of_ble_eq_true rfl) (Nat.le_of_ble_eq_true rfl)) (by simp [Value.category]) (by show e_okl (S0.1 + _) (S0.1 + _) _ _ = true; rw [hn0]; rfl) ?_
  refine Z.aast (i := 1) (ib := 27) (ci := 9) (kd := 2) (len := 6) (jn := 4) dX10_init_77 (by decide) (by decide) (Or.inl rfl) (by omega) (by decide +kernel) (by omega) (by decide +kernel) (by decide +kernel) (by decide +kernel) (cs' := hx_63) rfl ?_
  refine X.iinc (j := 0) dX10_init_78 rfl (v := 5) (by decide +kernel) (Nat.le_of_ble_eq_true rfl) (lc' := [(1, .int (5)), (0, .ref 0)]) rfl ?_
  refine X.goto dX10_init_81 (tgt := 59) rfl ?_
  refine X.iload_n dX10_init_59 rfl (j := 0) rfl ?_
  refine X.bipush dX10_init_60 kB_6 ?_
  refine X.icmp_ge dX10_init_62 (tgt := 84) rfl (fun hc => absurd hc (by decide)) (fun _ => ?_)
  refine X.aload_n dX10_init_65 rfl (j := 1) rfl ?_
  refine Z.getR (i := 0) (b := 1) dX10_init_66 fl_X10_11 rfl (by omega) (by decide +kernel) (by decide +kernel) ?_
  refine X.iload_n dX10_init_69 rfl (j := 0) rfl ?_
  refine Z.new (bc := 43) (bs := 823) (ci := 9) (n0 := 32) (len := 5) dX10_init_70 (by decide) rfl ww_100 ww_135 ww_75 (by rw [hn0]; rfl) (Nat.le_of_ble_eq_true rfl) rfl (cs' := hx_64) rfl ?_
  refine X.dup dX10_init_73 rfl ?_
  refine X.callI (bc := 39) (bs := 340) (b := 32) (av := []) dX10_init_74 (hx_X9_init_8 hn0) cw_X10_38 rfl rfl mk_X9_init (e_R_ok (Nat.le_of_ble_eq_true rfl) (Nat.le_of_ble_eq_true rfl)) (by simp [Value.category]) (by show e_okl (S0.1 + _) (S0.1 + _) _ _ = true; rw [hn0]; rfl) ?_
  refine Z.aast (i := 1) (ib := 32) (ci := 9) (kd := 2) (len := 6) (jn := 5) dX10_init_77 (by decide) (by decide) (Or.inl rfl) (by omega) (by decide +kernel) (by omega) (by decide +kernel) (by decide +kernel) (by decide +kernel) (cs' := hx_73) rfl ?_
  refine X.iinc (j := 0) dX10_init_78 rfl (v := 6) (by decide +kernel) (Nat.le_of_ble_eq_true rfl) (lc' := [(1, .int (6)), (0, .ref 0)]) rfl ?_
  refine X.goto dX10_init_81 (tgt := 59) rfl ?_
  refine X.iload_n dX10_init_59 rfl (j := 0) rfl ?_
  refine X.bipush dX10_init_60 kB_6 ?_
  refine X.icmp_ge dX10_init_62 (tgt := 84) rfl (fun _ => ?_) (fun hc => absurd (by decide) hc)
  refine X.iconst dX10_init_84 kI_0 ?_
  refine X.istore_n dX10_init_85 rfl (Nat.le_of_ble_eq_true rfl) (lc' := [(1, .int (0)), (0, .ref 0)]) rfl ?_
  refine X.iload_n dX10_init_86 rfl (j := 0) rfl ?_
  refine X.iconst dX10_init_87 kI_4 ?_
  refine X.icmp_ge dX10_init_88 (tgt := 110) rfl (fun hc => absurd hc (by decide)) (fun _ => ?_)
  refine X.aload_n dX10_init_91 rfl (j := 1) rfl ?_
  refine Z.getR (i := 0) (b := 2) dX10_init_92 fl_X10_17 rfl (by omega) (by decide +kernel) (by decide +kernel) ?_
  refine X.iload_n dX10_init_95 rfl (j := 0) rfl ?_
  refine Z.new (bc := 38) (bs := 337) (ci := 6) (n0 := 37) (len := 3) dX10_init_96 (by decide) rfl ww_102 ww_157 ww_76 (by rw [hn0]; rfl) (Nat.le_of_ble_eq_true rfl) rfl (cs' := hx_74) rfl ?_
  refine X.dup dX10_init_99 rfl ?_
  refine X.callI (bc := 37) (bs := 297) (b := 37) (av := []) dX10_init_100 (hx_X6_init_9 hn0) cw_X10_39 rfl rfl mk_X6_init (e_R_ok (Nat.le_of_ble_eq_true rfl) (Nat.le_of_ble_eq_true rfl)) (by simp [Value.category]) (by show e_okl (S0.1 + _) (S0.1 + _) _ _ = true; rw [hn0]; rfl) ?_
  refine Z.aast (i := 2) (ib := 37) (ci := 6) (kd := 4) (len := 4) (jn := 0) dX10_init_103 (by decide) (by decide) (Or.inl rfl) (by omega) (by decide +kernel) (by omega) (by decide +kernel) (by decide +kernel) (by decide +kernel) (cs' := hx_78) rfl ?_
  refine X.iinc (j := 0) dX10_init_104 rfl (v := 1) (by decide +kernel) (Nat.le_of_ble_eq_true rfl) (lc' := [(1, .int (1)), (0, .ref 0)]) rfl ?_
  refine X.goto dX10_init_107 (tgt := 86) rfl ?_
  refine X.iload_n dX10_init_86 rfl (j := 0) rfl ?_
  refine X.iconst dX10_init_87 kI_4 ?_
  refine X.icmp_ge dX10_init_88 (tgt := 110) rfl (fun hc => absurd hc (by decide)) (fun _ => ?_)
  refine X.aload_n dX10_init_91 rfl (j := 1) rfl ?_
  refine Z.getR (i := 0) (b := 2) dX10_init_92 fl_X10_17 rfl (by omega) (by decide +kernel) (by decide +kernel) ?_
  refine X.iload_n dX10_init_95 rfl (j := 0) rfl ?_
  refine Z.new (bc := 36) (bs := 294) (ci := 6) (n0 := 39) (len := 3) dX10_init_96 (by decide) rfl ww_102 ww_157 ww_76 (by rw [hn0]; rfl) (Nat.le_of_ble_eq_true rfl) rfl (cs' := hx_79) rfl ?_
  refine X.dup dX10_init_99 rfl ?_
  refine X.callI (bc := 35) (bs := 254) (b := 39) (av := []) dX10_init_100 (hx_X6_init_10 hn0) cw_X10_39 rfl rfl mk_X6_init (e_R_ok (Nat.le_of_ble_eq_true rfl) (Nat.le_of_ble_eq_true rfl)) (by simp [Value.category]) (by show e_okl (S0.1 + _) (S0.1 + _) _ _ = true; rw [hn0]; rfl) ?_
  refine Z.aast (i := 2) (ib := 39) (ci := 6) (kd := 4) (len := 4) (jn := 1) dX10_init_103 (by decide) (by decide) (Or.inl rfl) (by omega) (by decide +kernel) (by omega) (by decide +kernel) (by decide +kernel) (by decide +kernel) (cs' := hx_83) rfl ?_
  refine X.iinc (j := 0) dX10_init_104 rfl (v := 2) (by decide +kernel) (Nat.le_of_ble_eq_true rfl) (lc' := [(1, .int (2)), (0, .ref 0)]) rfl ?_
  refine X.goto dX10_init_107 (tgt := 86) rfl ?_
  refine X.iload_n dX10_init_86 rfl (j := 0) rfl ?_
  refine X.iconst dX10_init_87 kI_4 ?_
  refine X.icmp_ge dX10_init_88 (tgt := 110) rfl (fun hc => absurd hc (by decide)) (fun _ => ?_)
  refine X.aload_n dX10_init_91 rfl (j := 1) rfl ?_
  refine Z.getR (i := 0) (b := 2) dX10_init_92 fl_X10_17 rfl (by omega) (by decide +kernel) (by decide +kernel) ?_
  refine X.iload_n dX10_init_95 rfl (j := 0) rfl ?_
  refine Z.new (bc := 34) (bs := 251) (ci := 6) (n0 := 41) (len := 3) dX10_init_96 (by decide) rfl ww_102 ww_157 ww_76 (by rw [hn0]; rfl) (Nat.le_of_ble_eq_true rfl) rfl (cs' := hx_84) rfl ?_
  refine X.dup dX10_init_99 rfl ?_
  refine X.callI (bc := 33) (bs := 211) (b := 41) (av := []) dX10_init_100 (hx_X6_init_11 hn0) cw_X10_39 rfl rfl mk_X6_init (e_R_ok (Nat.le_of_ble_eq_true rfl) (Nat.le_of_ble_eq_true rfl)) (by simp [Value.category]) (by show e_okl (S0.1 + _) (S0.1 + _) _ _ = true; rw [hn0]; rfl) ?_
  refine Z.aast (i := 2) (ib := 41) (ci := 6) (kd := 4) (len := 4) (jn := 2) dX10_init_103 (by decide) (by decide) (Or.inl rfl) (by omega) (by decide +kernel) (by omega) (by decide +kernel) (by decide +kernel) (by decide +kernel) (cs' := hx_88) rfl ?_
  refine X.iinc (j := 0) dX10_init_104 rfl (v := 3) (by decide +kernel) (Nat.le_of_ble_eq_true rfl) (lc' := [(1, .int (3)), (0, .ref 0)]) rfl ?_
  refine X.goto dX10_init_107 (tgt := 86) rfl ?_
  refine X.iload_n dX10_init_86 rfl (j := 0) rfl ?_
  refine X.iconst dX10_init_87 kI_4 ?_
  refine X.icmp_ge dX10_init_88 (tgt := 110) rfl (fun hc => absurd hc (by decide)) (fun _ => ?_)
  refine X.aload_n dX10_init_91 rfl (j := 1) rfl ?_
  refine Z.getR (i := 0) (b := 2) dX10_init_92 fl_X10_17 rfl (by omega) (by decide +kernel) (by decide +kernel) ?_
  refine X.iload_n dX10_init_95 rfl (j := 0) rfl ?_
  refine Z.new (bc := 32) (bs := 208) (ci := 6) (n0 := 43) (len := 3) dX10_init_96 (by decide) rfl ww_102 ww_157 ww_76 (by rw [hn0]; rfl) (Nat.le_of_ble_eq_true rfl) rfl (cs' := hx_89) rfl ?_
  refine X.dup dX10_init_99 rfl ?_
  refine X.callI (bc := 31) (bs := 168) (b := 43) (av := []) dX10_init_100 (hx_X6_init_12 hn0) cw_X10_39 rfl rfl mk_X6_init (e_R_ok (Nat.le_of_ble_eq_true rfl) (Nat.le_of_ble_eq_true rfl)) (by simp [Value.category]) (by show e_okl (S0.1 + _) (S0.1 + _) _ _ = true; rw [hn0]; rfl) ?_
  refine Z.aast (i := 2) (ib := 43) (ci := 6) (kd := 4) (len := 4) (jn := 3) dX10_init_103 (by decide) (by decide) (Or.inl rfl) (by omega) (by decide +kernel) (by omega) (by decide +kernel) (by decide +kernel) (by decide +kernel) (cs' := hx_93) rfl ?_
  refine X.iinc (j := 0) dX10_init_104 rfl (v := 4) (by decide +kernel) (Nat.le_of_ble_eq_true rfl) (lc' := [(1, .int (4)), (0, .ref 0)]) rfl ?_
  refine X.goto dX10_init_107 (tgt := 86) rfl ?_
  refine X.iload_n dX10_init_86 rfl (j := 0) rfl ?_
  refine X.iconst dX10_init_87 kI_4 ?_
  refine X.icmp_ge dX10_init_88 (tgt := 110) rfl (fun _ => ?_) (fun hc => absurd (by decide) hc)
  refine X.bipush dX10_init_110 kB_6 ?_
  refine Z.anew (bc := 30) (bs := 162) (kd := 3) (n0 := 45) (len := 6) dX10_init_112 (by decide) rfl (by decide) ww_175 (by decide) (by decide +kernel) (Nat.le_of_ble_eq_true rfl) (by rw [hn0]; rfl) (Nat.le_of_ble_eq_true rfl) rfl (cs' := hx_94) rfl ?_
  refine X.dup dX10_init_115 rfl ?_
  refine X.iconst dX10_init_116 kI_0 ?_
  refine Z.new (bc := 29) (bs := 162) (ci := 3) (n0 := 46) (len := 0) dX10_init_117 (by decide) rfl ww_175 ww_177 ww_77 (by rw [hn0]; rfl) (Nat.le_of_ble_eq_true rfl) rfl (cs' := hx_95) rfl ?_
  refine X.dup dX10_init_120 rfl ?_
  refine X.callI (bc := 29) (bs := 162) (b := 46) (av := []) dX10_init_121 (hx_X3_init_13 hn0) cw_X10_42 rfl rfl mk_X3_init (e_R_ok (Nat.le_of_ble_eq_true rfl) (Nat.le_of_ble_eq_true rfl)) (by simp [Value.category]) (by show e_okl (S0.1 + _) (S0.1 + _) _ _ = true; rw [hn0]; rfl) ?_
  refine Z.aast (i := 45) (ib := 46) (ci := 3) (kd := 3) (len := 6) (jn := 0) dX10_init_124 (by decide) (by decide) (Or.inl rfl) (by omega) (by decide +kernel) (by omega) (by decide +kernel) (by decide +kernel) (by decide +kernel) (cs' := hx_96) rfl ?_
  refine X.dup dX10_init_125 rfl ?_
  refine X.iconst dX10_init_126 kI_1 ?_
  refine Z.new (bc := 28) (bs := 162) (ci := 2) (n0 := 47) (len := 0) dX10_init_127 (by decide) rfl ww_183 ww_184 ww_78 (by rw [hn0]; rfl) (Nat.le_of_ble_eq_true rfl) rfl (cs' := hx_97) rfl ?_
  refine X.dup dX10_init_130 rfl ?_
  refine X.callI (bc := 28) (bs := 162) (b := 47) (av := []) dX10_init_131 (hx_X2_init_14 hn0) cw_X10_45 rfl rfl mk_X2_init (e_R_ok (Nat.le_of_ble_eq_true rfl) (Nat.le_of_ble_eq_true rfl)) (by simp [Value.category]) (by show e_okl (S0.1 + _) (S0.1 + _) _ _ = true; rw [hn0]; rfl) ?_
  refine Z.aast (i := 45) (ib := 47) (ci := 2) (kd := 3) (len := 6) (jn := 1) dX10_init_134 (by decide) (by decide) (Or.inr ⟨_, rfl, by decide +kernel⟩) (by omega) (by decide +kernel) (by omega) (by decide +kernel) (by decide +kernel) (by decide +kernel) (cs' := hx_98) rfl ?_
  refine X.dup dX10_init_135 rfl ?_
  refine X.iconst dX10_init_136 kI_2 ?_
  refine Z.new (bc := 27) (bs := 162) (ci := 8) (n0 := 48) (len := 0) dX10_init_137 (by decide) rfl ww_190 ww_191 ww_79 (by rw [hn0]; rfl) (Nat.le_of_ble_eq_true rfl) rfl (cs' := hx_99) rfl ?_
  refine X.dup dX10_init_140 rfl ?_
  refine X.callI (bc := 27) (bs := 162) (b := 48) (av := []) dX10_init_141 (hx_X8_init_16 hn0) cw_X10_48 rfl rfl mk_X8_init (e_R_ok (Nat.le_of_ble_eq_true rfl) (Nat.le_of_ble_eq_true rfl)) (by simp [Value.category]) (by show e_okl (S0.1 + _) (S0.1 + _) _ _ = true; rw [hn0]; rfl) ?_
  refine Z.aast (i := 45) (ib := 48) (ci := 8) (kd := 3) (len := 6) (jn := 2) dX10_init_144 (by decide) (by decide) (Or.inr ⟨_, rfl, by decide +kernel⟩) (by omega) (by decide +kernel) (by omega) (by decide +kernel) (by decide +kernel) (by decide +kernel) (cs' := hx_100) rfl ?_
  refine X.dup dX10_init_145 rfl ?_
  refine X.iconst dX10_init_146 kI_3 ?_
  refine Z.new (bc := 26) (bs := 162) (ci := 0) (n0 := 49) (len := 0) dX10_init_147 (by decide) rfl ww_197 ww_198 ww_80 (by rw [hn0]; rfl) (Nat.le_of_ble_eq_true rfl) rfl (cs' := hx_101) rfl ?_
  refine X.dup dX10_init_150 rfl ?_
  refine X.callI (bc := 26) (bs := 162) (b := 49) (av := []) dX10_init_151 (hx_X0_init_18 hn0) cw_X10_51 rfl rfl mk_X0_init (e_R_ok (Nat.le_of_ble_eq_true rfl) (Nat.le_of_ble_eq_true rfl)) (by simp [Value.category]) (by show e_okl (S0.1 + _) (S0.1 + _) _ _ = true; rw [hn0]; rfl) ?_
  refine Z.aast (i := 45) (ib := 49) (ci := 0) (kd := 3) (len := 6) (jn := 3) dX10_init_154 (by decide) (by decide) (Or.inr ⟨_, rfl, by decide +kernel⟩) (by omega) (by decide +kernel) (by omega) (by decide +kernel) (by decide +kernel) (by decide +kernel) (cs' := hx_102) rfl ?_
  refine X.dup dX10_init_155 rfl ?_
  refine X.iconst dX10_init_156 kI_4 ?_
  refine Z.new (bc := 25) (bs := 162) (ci := 1) (n0 := 50) (len := 0) dX10_init_157 (by decide) rfl ww_204 ww_205 ww_81 (by rw [hn0]; rfl) (Nat.le_of_ble_eq_true rfl) rfl (cs' := hx_103) rfl ?_
  refine X.dup dX10_init_160 rfl ?_
  refine X.callI (bc := 25) (bs := 162) (b := 50) (av := []) dX10_init_161 (hx_X1_init_21 hn0) cw_X10_54 rfl rfl mk_X1_init (e_R_ok (Nat.le_of_ble_eq_true rfl) (Nat.le_of_ble_eq_true rfl)) (by simp [Value.category]) (by show e_okl (S0.1 + _) (S0.1 + _) _ _ = true; rw [hn0]; rfl) ?_
  refine Z.aast (i := 45) (ib := 50) (ci := 1) (kd := 3) (len := 6) (jn := 4) dX10_init_164 (by decide) (by decide) (Or.inr ⟨_, rfl, by decide +kernel⟩) (by omega) (by decide +kernel) (by omega) (by decide +kernel) (by decide +kernel) (by decide +kernel) (cs' := hx_104) rfl ?_
  refine X.dup dX10_init_165 rfl ?_
  refine X.iconst dX10_init_166 kI_5 ?_
  refine Z.new (bc := 24) (bs := 162) (ci := 4) (n0 := 51) (len := 0) dX10_init_167 (by decide) rfl ww_211 ww_212 ww_82 (by rw [hn0]; rfl) (Nat.le_of_ble_eq_true rfl) rfl (cs' := hx_105) rfl ?_
  refine X.dup dX10_init_170 rfl ?_
  refine X.callI (bc := 24) (bs := 162) (b := 51) (av := []) dX10_init_171 (hx_X4_init_24 hn0) cw_X10_57 rfl rfl mk_X4_init (e_R_ok (Nat.le_of_ble_eq_true rfl) (Nat.le_of_ble_eq_true rfl)) (by simp [Value.category]) (by show e_okl (S0.1 + _) (S0.1 + _) _ _ = true; rw [hn0]; rfl) ?_
  refine Z.aast (i := 45) (ib := 51) (ci := 4) (kd := 3) (len := 6) (jn := 5) dX10_init_174 (by decide) (by decide) (Or.inr ⟨_, rfl, by decide +kernel⟩) (by omega) (by decide +kernel) (by omega) (by decide +kernel) (by decide +kernel) (by decide +kernel) (cs' := hx_106) rfl ?_
  refine X.astore_n dX10_init_175 rfl (Nat.le_of_ble_eq_true rfl) (lc' := [(1, .ref 45), (0, .ref 0)]) rfl ?_
  refine X.aload_n dX10_init_176 rfl (j := 1) rfl ?_
  refine Z.new (bc := 23) (bs := 150) (ci := 7) (n0 := 52) (len := 12) dX10_init_177 (by decide) rfl ww_218 ww_219 ww_83 (by rw [hn0]; rfl) (Nat.le_of_ble_eq_true rfl) rfl (cs' := hx_107) rfl ?_
  refine X.dup dX10_init_180 rfl ?_
  refine X.aload_n dX10_init_181 rfl (j := 0) rfl ?_
  refine X.aload_n dX10_init_182 rfl (j := 1) rfl ?_
  refine Z.getR (i := 0) (b := 1) dX10_init_183 fl_X10_11 rfl (by omega) (by decide +kernel) (by decide +kernel) ?_
  refine X.callI (bc := 16) (bs := 108) (b := 52) (av := [.ref 45, .ref 1]) dX10_init_186 (hx_X7_init_26 hn0) cw_X10_60 rfl rfl mk_X7_init (e_R_ok (Nat.le_of_ble_eq_true rfl) (Nat.le_of_ble_eq_true rfl)) (by simp [Value.category]) (by show e_okl (S0.1 + _) (S0.1 + _) _ _ = true; rw [hn0]; rfl) ?_
  refine Z.putF (i := 0) dX10_init_189 fl_X10_63 rfl rfl rfl rfl (by omega) (by decide +kernel) (by rw [hn0]; exact Nat.le_of_ble_eq_true rfl) (cs' := hx_124) rfl ?_
  refine X.aload_n dX10_init_192 rfl (j := 1) rfl ?_
  refine Z.new (bc := 15) (bs := 96) (ci := 7) (n0 := 60) (len := 12) dX10_init_193 (by decide) rfl ww_218 ww_219 ww_83 (by rw [hn0]; rfl) (Nat.le_of_ble_eq_true rfl) rfl (cs' := hx_125) rfl ?_
  refine X.dup dX10_init_196 rfl ?_
  refine X.aload_n dX10_init_197 rfl (j := 0) rfl ?_
  refine X.aload_n dX10_init_198 rfl (j := 1) rfl ?_
  refine Z.getR (i := 0) (b := 1) dX10_init_199 fl_X10_11 rfl (by omega) (by decide +kernel) (by decide +kernel) ?_
  refine X.callI (bc := 8) (bs := 54) (b := 60) (av := [.ref 45, .ref 1]) dX10_init_202 (hx_X7_init_27 hn0) cw_X10_60 rfl rfl mk_X7_init (e_R_ok (Nat.le_of_ble_eq_true rfl) (Nat.le_of_ble_eq_true rfl)) (by simp [Value.category]) (by show e_okl (S0.1 + _) (S0.1 + _) _ _ = true; rw [hn0]; rfl) ?_
  refine Z.putF (i := 0) dX10_init_205 fl_X10_67 rfl rfl rfl rfl (by omega) (by decide +kernel) (by rw [hn0]; exact Nat.le_of_ble_eq_true rfl) (cs' := hx_142) rfl ?_
  refine X.aload_n dX10_init_208 rfl (j := 1) rfl ?_
  refine Z.new (bc := 7) (bs := 42) (ci := 7) (n0 := 68) (len := 12) dX10_init_209 (by decide) rfl ww_218 ww_219 ww_83 (by rw [hn0]; rfl) (Nat.le_of_ble_eq_true rfl) rfl (cs' := hx_143) rfl ?_
  refine X.dup dX10_init_212 rfl ?_
  refine X.aload_n dX10_init_213 rfl (j := 0) rfl ?_
  refine X.aload_n dX10_init_214 rfl (j := 1) rfl ?_
  refine Z.getR (i := 0) (b := 1) dX10_init_215 fl_X10_11 rfl (by omega) (by decide +kernel) (by decide +kernel) ?_
  refine X.callI (bc := 0) (bs := 0) (b := 68) (av := [.ref 45, .ref 1]) dX10_init_218 (hx_X7_init_28 hn0) cw_X10_60 rfl rfl mk_X7_init (e_R_ok (Nat.le_of_ble_eq_true rfl) (Nat.le_of_ble_eq_true rfl)) (by simp [Value.category]) (by show e_okl (S0.1 + _) (S0.1 + _) _ _ = true; rw [hn0]; rfl) ?_
  refine Z.putF (i := 0) dX10_init_221 fl_X10_70 rfl rfl rfl rfl (by omega) (by decide +kernel) (by rw [hn0]; exact Nat.le_of_ble_eq_true rfl) (cs' := hx_160) rfl ?_
  refine X.sub [1] rfl ?_
  exact x_J_X10_init_224 hf
